/-! the JDK's own String.length, charAt over the two constants of the program: q = 0 the class's, q = 1 the reference's -/
def strC (q : Nat) (j : Nat) : Int32 := (strByt.getD q []).getD j 0
def chrQ (q : Nat) (i : Int32) : Option Int32 := if inb i (strLen.getD q 0) = true then some (strC q i.toNatClampNeg) else none
def chr0 (i : Int32) : Option Int32 := chrQ 0 i
def chr1 (i : Int32) : Option Int32 := chrQ 1 i
section AWS
variable {X : XT} {loc : Nat → Nat} {own : String} {cc : ByteArray} {ret : Option FieldType} {maxL d mc ms : Nat} {sk : Skel} {k n pc q : Nat} {ls : List (Nat × Value)} {stk : List Value} {S : Mem}
theorem aw_nret {ty : FieldType} (hX : AC X loc own cc (some ty) maxL d mc ms) {r : Int32} (hQ : RetI X sk loc k n r S) (hn : narrow ty (.int r) = .int r) (hdg : decode cc pc = .ok (.ireturn, 1)) : AW X sk loc k n pc ls [.int r] S := by
  obtain ⟨p, l, e, R, s, m, args, below, meth, c, Q, A, G, cA, nL⟩ := X
  obtain ⟨hx, hb, hr, hml, hnL, hR, hown, hts, hK, hlocks, hA, hE⟩ := hX
  have hQ : Q = _ := hQ
  subst hQ
  intro H locs la hP hD hS hl
  exact W.zret (v := r) hx hb hr hn (fun t ht hW => ⟨⟨r, (), rfl, rfl, by rw [ht]; exact hP, va_K.moved hW.alike hK, hD⟩, hS.F ht⟩) hS.2.2 hdg
theorem aw_i2c (hX : AC X loc own cc ret maxL d mc ms) {x : Int32} (hdg : decode cc pc = .ok (.i2c, 1)) (kk : AW X sk loc k n (pc + 1) ls (.int (x.toUInt32 % 65536).toInt32 :: stk) S) : AW X sk loc k n pc ls (.int x :: stk) S := by
  obtain ⟨p, l, e, R, s, m, args, below, meth, c, Q, A, G, cA, nL⟩ := X
  obtain ⟨hx, hb, hr, hml, hnL, hR, hown, hts, hK, hlocks, hA, hE⟩ := hX
  intro H locs la hP hD hS hl
  exact lv_i2c hx hb hdg (by first | rfl | (simp; done)) (kk H locs la hP hD hS hl)
theorem aw_sval (hX : AC X loc RJ0 cc ret maxL d mc ms) (hq : q < 2) (hdg : decode cc pc = .ok (.getfield 9, 3)) (kk : AW X sk loc k n (pc + 3) ls (.ref (1020 + q) :: stk) S) : AW X sk loc k n pc ls (.ref (1010 + q) :: stk) S := by
  obtain ⟨p, l, e, R, s, m, args, below, meth, c, Q, A, G, cA, nL⟩ := X
  obtain ⟨hx, hb, hr, hml, hnL, hR, hown, hts, hK, hlocks, hA, hE⟩ := hX
  intro H locs la hP hD hS hl
  exact vk_getf hx hb (hE.2.2.2.2.2.2.2.2.1.1 q hq).2.2.1 hS hown (hts _ kw_8_94) (fun _ h => h) hdg (kk H locs la hP hD hS hl)
theorem aw_scod (hX : AC X loc RJ0 cc ret maxL d mc ms) (hq : q < 2) (hdg : decode cc pc = .ok (.getfield 15, 3)) (kk : AW X sk loc k n (pc + 3) ls (.int 0 :: stk) S) : AW X sk loc k n pc ls (.ref (1010 + q) :: stk) S := by
  obtain ⟨p, l, e, R, s, m, args, below, meth, c, Q, A, G, cA, nL⟩ := X
  obtain ⟨hx, hb, hr, hml, hnL, hR, hown, hts, hK, hlocks, hA, hE⟩ := hX
  intro H locs la hP hD hS hl
  exact vk_getf hx hb (hE.2.2.2.2.2.2.2.2.1.1 q hq).2.1 hS hown (hts _ kw_8_95) (fun _ h => h) hdg (kk H locs la hP hD hS hl)
theorem aw_sal (hX : AC X loc own cc ret maxL d mc ms) (hq : q < 2) (hdg : decode cc pc = .ok (.arraylength, 1)) (kk : AW X sk loc k n (pc + 1) ls (.int (nI (strLen.getD q 0)) :: stk) S) : AW X sk loc k n pc ls (.ref (1020 + q) :: stk) S := by
  obtain ⟨p, l, e, R, s, m, args, below, meth, c, Q, A, G, cA, nL⟩ := X
  obtain ⟨hx, hb, hr, hml, hnL, hR, hown, hts, hK, hlocks, hA, hE⟩ := hX
  intro H locs la hP hD hS hl
  exact va_tlen hx hb (hE.2.2.2.2.2.2.2.2.1.1 q hq).2.2.2 hS rfl hdg (kk H locs la hP hD hS hl)
theorem aw_sbald (hX : AC X loc own cc ret maxL d mc ms) (hq : q < 2) {i : Int32} (hi : inb i (strLen.getD q 0) = true) (hdg : decode cc pc = .ok (.baload, 1)) (kk : AW X sk loc k n (pc + 1) ls (.int (strC q i.toNatClampNeg) :: stk) S) : AW X sk loc k n pc ls (.int i :: .ref (1020 + q) :: stk) S := by
  obtain ⟨p, l, e, R, s, m, args, below, meth, c, Q, A, G, cA, nL⟩ := X
  obtain ⟨hx, hb, hr, hml, hnL, hR, hown, hts, hK, hlocks, hA, hE⟩ := hX
  intro H locs la hP hD hS hl
  exact va_tb hx hb (hE.2.2.2.2.2.2.2.2.1.1 q hq).2.2.2 hS (inb_in hi) rfl hdg (kk H locs la hP hD hS hl)
theorem aw_comp (hX : AC X loc RJ0 cc ret maxL d mc ms) (hdg : decode cc pc = .ok (.getstatic 38, 3)) (kk : AW X sk loc k n (pc + 3) ls (.int 1 :: stk) S) : AW X sk loc k n pc ls stk S := by
  obtain ⟨p, l, e, R, s, m, args, below, meth, c, Q, A, G, cA, nL⟩ := X
  obtain ⟨hx, hb, hr, hml, hnL, hR, hown, hts, hK, hlocks, hA, hE⟩ := hX
  intro H locs la hP hD hS hl
  exact va_gets hx hb hE.2.2.2.2.2.2.1 hS hown (hts _ kw_2_219) (fun _ h => h) hdg (kk H locs la hP hD hS hl)
theorem aw_siob (hX : AC X loc RJ0 cc ret maxL d mc ms) (hdg : decode cc pc = .ok (.getstatic 1053, 3)) (k1 : AW X sk loc k n (pc + 3) ls (.null :: stk) S) (k2 : AW X sk loc k n (pc + 3) ls (.ref 1030 :: stk) S) : AW X sk loc k n pc ls stk S := by
  obtain ⟨p, l, e, R, s, m, args, below, meth, c, Q, A, G, cA, nL⟩ := X
  obtain ⟨hx, hb, hr, hml, hnL, hR, hown, hts, hK, hlocks, hA, hE⟩ := hX
  intro H locs la hP hD hS hl
  rcases hE.2.2.2.2.2.2.2.1 with hZ | hZ
  · exact va_gets hx hb hZ hS hown (hts _ kw_2_235) (fun _ h => h) hdg (k1 H locs la hP hD hS hl)
  · exact va_gets hx hb hZ hS hown (hts _ kw_2_235) (fun _ h => h) hdg (k2 H locs la hP hD hS hl)
/-- a call on a text -/
theorem aw_cSt (hX : AC X loc own cc ret maxL d mc ms) {y : MethodName} {bytes : ByteArray} {mL n0 ix d' : Nat} {rt : Option FieldType} {r : Int32} {S' : Mem} {As rest st0 : List Value} (hq : q < 2) (hyc : y.cls = "java/lang/String")
    (hM : MetI y bytes mL rt d' (.ref (1010 + q) :: As) sk S r S') (hok : MOK y bytes mL rt n0) (hw1 : Cond.methodLink own ix y ∈ lw_good) (hw2 : Cond.instanceMethod y ∈ lw_good) (hw3 : Cond.selects y.cls y y ∈ lw_good) (hn : As.length = n0) (hd : d' + 1 ≤ d) (hcat : (rest.map fun v => v.category).sum ≤ 8) (hst : st0 = As.reverse ++ .ref (1010 + q) :: rest) (hdg : decode cc pc = .ok (.invokevirtual ix, 3)) (h0 : k ≤ mc) (h1 : n ≤ ms) (kk : AW X sk loc k n (pc + 3) ls (.int r :: rest) S') : AW X sk loc k n pc ls st0 S := by
  obtain ⟨p, l, e, R, s, m, args, below, meth, c, Q, A, G, cA, nL⟩ := X
  obtain ⟨hx, hb, hr, hml, hnL, hR, hown, hts, hK, hlocks, hA, hE⟩ := hX
  subst hst
  subst hR
  intro H locs la hP hD hS hl
  have hF := aw_free hD hS hA
  have hcw : CallW (rmd d mc ms) s args own y.cls ix y bytes mL rt (wsA y bytes mL rt) (rmd d' 0 0) 0 0 n0 := ⟨callB_of n0 hts (wsA_good hok) rfl rfl rfl (hts _ hok.2.1) (hts _ hw1) ⟨hok.2.2.1, hok.2.2.2.1, hok.2.2.2.2.1⟩ ⟨hd, by have h := hok.2.2.2.2.2; show 8 + (mL + 11) + 64 * d' ≤ 64 * d; omega⟩, hts _ hw2, hts _ hw3⟩
  have hpre := aw_pre hP hD hS hA hK hE (.ref (1010 + q) :: As)
  have hrecv := vk_recv hE.2.2.2.2.2.2.2.2.1 hq hS
  rw [← hyc] at hrecv
  have hrun := va_runV (As := As.map (cv loc)) (rest := rest.map (cv loc)) (b := loc (1010 + q)) (g := F0 m pc la ((As.reverse ++ .ref (1010 + q) :: rest).map (cv loc))) (e := e) (below := below) (meth := meth) (locs := locs) (cells := k) (slots := n) ⟨hx, hb, hml, hown, hts⟩ (hM l G cA loc H.size) hcw ⟨aw_blind _ _, hrecv, hpre⟩ rfl (by rw [List.length_map]; exact hn) (hl.1.trans hnL) (by simp [F0, List.map_reverse, cv]) (lv_room (by simpa [Function.comp_def, cv_cat] using hcat)) hdg ⟨h0, h1⟩
  refine va_calli hrun hS (fun q _ h => hF q h) hF (fun r' u t H1 locs1 ht hvm hpost hB hz hk1 hS1 => ?_)
  subst hpost
  obtain ⟨hP1, hK1, hD1⟩ := hB
  rw [ht] at hP1
  exact kk H1 locs1 la hP1 (hD1.weaken (fun _ _ _ h => hF _ h)) hS1 hl
end AWS
theorem c_J0_coder {sk : Skel} {q : Nat} {S : Mem} (hq : q < 2) : MetI yJ0_coder_7d493 cJ0_coder_7d493 1 (some .byte) 0 [.ref (1010 + q)] sk S 0 S := by
  refine MetI.intro (by decide +kernel) (Nat.le_of_ble_eq_true rfl) (fun X loc hX hQ => ?_)
  show AW X sk loc 0 0 0 [(0, .ref (1010 + q))] [] S
  refine aw_comp (pc := 0) hX dJ0_coder_7d493_0 ?_
  refine aw_if_eq (pc := 3) hX (tgt := 13) dJ0_coder_7d493_3 (by decide) (fun c => absurd c (by decide)) (fun _ => ?_)
  refine aw_aload_n (pc := 6) hX dJ0_coder_7d493_6 rfl 0 rfl ?_
  refine aw_scod (pc := 7) hX hq dJ0_coder_7d493_7 ?_
  refine aw_goto (tgt := 14) (pc := 10) hX dJ0_coder_7d493_10 (by decide) ?_
  exact aw_nret hX hQ rfl dJ0_coder_7d493_14
theorem c_J0_length {sk : Skel} {q : Nat} {S : Mem} (hq : q < 2) : MetI yJ0_length_8abf5 cJ0_length_8abf5 1 (some .int) 1 [.ref (1010 + q)] sk S (nI (strLen.getD q 0) >>> ((0 : Int32) &&& 31)) S := by
  refine MetI.intro (by decide +kernel) (Nat.le_of_ble_eq_true rfl) (fun X loc hX hQ => ?_)
  show AW X sk loc 0 0 0 [(0, .ref (1010 + q))] [] S
  refine aw_aload_n (pc := 0) hX dJ0_length_8abf5_0 rfl 0 rfl ?_
  refine aw_sval (pc := 1) hX hq dJ0_length_8abf5_1 ?_
  refine aw_sal (pc := 4) hX hq dJ0_length_8abf5_4 ?_
  refine aw_aload_n (pc := 5) hX dJ0_length_8abf5_5 rfl 0 rfl ?_
  refine aw_cSt (pc := 6) (As := []) (rest := [.int (nI (strLen.getD q 0))]) hX hq rfl (c_J0_coder hq) ok_J0_coder_7d493 kw_2_215 im_J0_coder_7d493 se_J0_coder_7d493 rfl (by decide) (Nat.le_of_ble_eq_true rfl) rfl dJ0_length_8abf5_6 (Nat.le_refl 0) (Nat.le_refl 0) ?_
  refine aw_ishr (pc := 9) hX dJ0_length_8abf5_9 ?_
  exact aw_iret hX hQ dJ0_length_8abf5_10
theorem c_J0_isLatin1 {sk : Skel} {q : Nat} {S : Mem} (hq : q < 2) : MetI yJ0_isLatin1_aae02 cJ0_isLatin1_aae02 1 (some .boolean) 0 [.ref (1010 + q)] sk S 1 S := by
  refine MetI.intro (by decide +kernel) (Nat.le_of_ble_eq_true rfl) (fun X loc hX hQ => ?_)
  show AW X sk loc 0 0 0 [(0, .ref (1010 + q))] [] S
  refine aw_comp (pc := 0) hX dJ0_isLatin1_aae02_0 ?_
  refine aw_if_eq (pc := 3) hX (tgt := 17) dJ0_isLatin1_aae02_3 (by decide) (fun c => absurd c (by decide)) (fun _ => ?_)
  refine aw_aload_n (pc := 6) hX dJ0_isLatin1_aae02_6 rfl 0 rfl ?_
  refine aw_scod (pc := 7) hX hq dJ0_isLatin1_aae02_7 ?_
  refine aw_if_ne (pc := 10) hX (tgt := 17) dJ0_isLatin1_aae02_10 (by decide) (fun c => absurd rfl c) (fun _ => ?_)
  refine aw_iconst (v := (1 : Int32)) (pc := 13) hX dJ0_isLatin1_aae02_13 (by decide) ?_
  refine aw_goto (tgt := 18) (pc := 14) hX dJ0_isLatin1_aae02_14 (by decide) ?_
  exact aw_zret hX hQ (by decide) dJ0_isLatin1_aae02_18
theorem c_J3_checkIndex {sk : Skel} {v : Value} {S : Mem} {i m : Int32} (hv : v = .null ∨ v = .ref 1030) (h0 : ¬ i < 0) (h1 : i < m) : MetI yJ3_checkIndex_8e157 cJ3_checkIndex_8e157 3 (some .int) 0 [.int i, .int m, v] sk S i S := by
  refine MetI.intro (by decide +kernel) (by rcases hv with rfl | rfl <;> exact Nat.le_of_ble_eq_true rfl) (fun X loc hX hQ => ?_)
  have hls : lv_args 0 [.int i, .int m, v] = [(0, .int i), (1, .int m), (2, v)] := rfl
  rw [hls]
  refine aw_iload_n (pc := 0) hX dJ3_checkIndex_8e157_0 rfl 0 rfl ?_
  refine aw_if_lt (pc := 1) hX (tgt := 9) dJ3_checkIndex_8e157_1 (by decide) (fun c => absurd c h0) (fun _ => ?_)
  refine aw_iload_n (pc := 4) hX dJ3_checkIndex_8e157_4 rfl 0 rfl ?_
  refine aw_iload_n (pc := 5) hX dJ3_checkIndex_8e157_5 rfl 1 rfl ?_
  refine aw_icmp_lt (pc := 6) hX (tgt := 16) dJ3_checkIndex_8e157_6 (by decide) (fun _ => ?_) (fun c => absurd h1 c)
  refine aw_iload_n (pc := 16) hX dJ3_checkIndex_8e157_16 rfl 0 rfl ?_
  exact aw_iret hX hQ dJ3_checkIndex_8e157_17
theorem c_J0_checkIndex {sk : Skel} {S : Mem} {i m : Int32} (h0 : ¬ i < 0) (h1 : i < m) : MetV yJ0_checkIndex_df160 cJ0_checkIndex_df160 2 none 1 [.int i, .int m] sk S S := by
  refine MetV.intro (by decide +kernel) (Nat.le_of_ble_eq_true rfl) (fun X loc hX hQ => ?_)
  show AW X sk loc 0 0 0 [(0, .int i), (1, .int m)] [] S
  refine aw_iload_n (pc := 0) hX dJ0_checkIndex_df160_0 rfl 0 rfl ?_
  refine aw_iload_n (pc := 1) hX dJ0_checkIndex_df160_1 rfl 1 rfl ?_
  have go : ∀ v : Value, (v = .null ∨ v = .ref 1030) → AW X sk loc 0 0 (2 + 3) [(0, .int i), (1, .int m)] [v, .int m, .int i] S := by
    intro v hv
    have hcat : (([] : List Value).map fun v => v.category).sum ≤ 8 := by decide
    refine aw_cSI (pc := 5) (As := [.int i, .int m, v]) (rest := []) hX (c_J3_checkIndex hv h0 h1) ok_J3_checkIndex_8e157 kw_2_237 st_J3_checkIndex_8e157 rfl (by decide) hcat rfl dJ0_checkIndex_df160_5 (Nat.le_refl 0) (Nat.le_refl 0) ?_
    refine aw_pop (pc := 8) hX dJ0_checkIndex_df160_8 rfl ?_
    exact aw_vret hX hQ dJ0_checkIndex_df160_9
  exact aw_siob (pc := 2) hX dJ0_checkIndex_df160_2 (go _ (Or.inl rfl)) (go _ (Or.inr rfl))
theorem str_lt {q : Nat} (hq : q < 2) : strLen.getD q 0 < 2 ^ 31 := by
  have h : q = 0 ∨ q = 1 := by omega
  rcases h with rfl | rfl <;> decide
theorem str_all : ∀ q, q < 2 → ∀ j, j < strLen.getD q 0 → ((((strC q j &&& 255).toUInt32 % 65536).toInt32 = strC q j) ∧ narrow .char (.int (strC q j)) = .int (strC q j)) := by decide +kernel
theorem c_J1_charAt {sk : Skel} {q : Nat} {S : Mem} {i r : Int32} (hq : q < 2) (h : chrQ q i = some r) : MetI yJ1_charAt_3b067 cJ1_charAt_3b067 2 (some .char) 2 [.ref (1020 + q), .int i] sk S r S := by
  unfold chrQ at h
  split at h
  · rename_i hi
    cases h
    have hb := hi
    simp only [inb, Bool.and_eq_true, decide_eq_true_eq] at hb
    obtain ⟨h0, h1⟩ := hb
    obtain ⟨j, hj, rfl⟩ := nI_of h0
    rw [nI_clamp hj] at h1 ⊢
    have hs := str_all q hq j h1
    refine MetI.intro (by decide +kernel) (Nat.le_of_ble_eq_true rfl) (fun X loc hX hQ => ?_)
    show AW X sk loc 0 0 0 [(0, .ref (1020 + q)), (1, .int (nI j))] [] S
    refine aw_iload_n (pc := 0) hX dJ1_charAt_3b067_0 rfl 1 rfl ?_
    refine aw_aload_n (pc := 1) hX dJ1_charAt_3b067_1 rfl 0 rfl ?_
    refine aw_sal (pc := 2) hX hq dJ1_charAt_3b067_2 ?_
    refine aw_cSV (pc := 3) (As := [.int (nI j), .int (nI (strLen.getD q 0))]) (rest := []) hX (c_J0_checkIndex h0 (nI_lt h1 (str_lt hq))) ok_J0_checkIndex_df160 kw_2_232 st_J0_checkIndex_df160 rfl (by decide) (by decide) rfl dJ1_charAt_3b067_3 (Nat.le_refl 0) (Nat.le_refl 0) ?_
    refine aw_aload_n (pc := 6) hX dJ1_charAt_3b067_6 rfl 0 rfl ?_
    refine aw_iload_n (pc := 7) hX dJ1_charAt_3b067_7 rfl 1 rfl ?_
    refine aw_sbald (pc := 8) hX hq hi dJ1_charAt_3b067_8 ?_
    rw [nI_clamp hj]
    refine aw_sipush (v := (255 : Int32)) (pc := 9) hX dJ1_charAt_3b067_9 (by decide) ?_
    refine aw_iand (pc := 12) hX dJ1_charAt_3b067_12 ?_
    refine aw_i2c (pc := 13) hX dJ1_charAt_3b067_13 ?_
    rw [hs.1]
    exact aw_nret hX hQ hs.2 dJ1_charAt_3b067_14
  · cases h
theorem c_J0_charAt {sk : Skel} {q : Nat} {S : Mem} {i r : Int32} (hq : q < 2) (h : chrQ q i = some r) : MetI yJ0_charAt_5068e cJ0_charAt_5068e 2 (some .char) 3 [.ref (1010 + q), .int i] sk S r S := by
  have hn : narrow .char (.int r) = .int r := by
    have h' := h
    unfold chrQ at h'
    split at h'
    · rename_i hi
      cases h'
      simp only [inb, Bool.and_eq_true, decide_eq_true_eq] at hi
      exact (str_all q hq _ hi.2).2
    · cases h'
  refine MetI.intro (by decide +kernel) (Nat.le_of_ble_eq_true rfl) (fun X loc hX hQ => ?_)
  show AW X sk loc 0 0 0 [(0, .ref (1010 + q)), (1, .int i)] [] S
  refine aw_aload_n (pc := 0) hX dJ0_charAt_5068e_0 rfl 0 rfl ?_
  refine aw_cSt (pc := 1) (As := []) (rest := []) hX hq rfl (c_J0_isLatin1 hq) ok_J0_isLatin1_aae02 kw_2_225 im_J0_isLatin1_aae02 se_J0_isLatin1_aae02 rfl (by decide) (by decide) rfl dJ0_charAt_5068e_1 (Nat.le_refl 0) (Nat.le_refl 0) ?_
  refine aw_if_eq (pc := 4) hX (tgt := 16) dJ0_charAt_5068e_4 (by decide) (fun c => absurd c (by decide)) (fun _ => ?_)
  refine aw_aload_n (pc := 7) hX dJ0_charAt_5068e_7 rfl 0 rfl ?_
  refine aw_sval (pc := 8) hX hq dJ0_charAt_5068e_8 ?_
  refine aw_iload_n (pc := 11) hX dJ0_charAt_5068e_11 rfl 1 rfl ?_
  refine aw_cSI (pc := 12) (As := [.ref (1020 + q), .int i]) (rest := []) hX (c_J1_charAt hq h) ok_J1_charAt_3b067 kw_2_229 st_J1_charAt_3b067 rfl (by decide) (by decide) rfl dJ0_charAt_5068e_12 (Nat.le_refl 0) (Nat.le_refl 0) ?_
  exact aw_nret hX hQ hn dJ0_charAt_5068e_15
section AWS2
variable {X : XT} {loc : Nat → Nat} {own : String} {cc : ByteArray} {ret : Option FieldType} {maxL d mc ms : Nat} {sk : Skel} {k n pc q : Nat} {ls : List (Nat × Value)} {stk : List Value} {S : Mem}
theorem aw_str0 (hX : AC X loc RX6 cc ret maxL d mc ms) (hdg : decode cc pc = .ok (.ldc 66, 2)) (kk : AW X sk loc k n (pc + 2) ls (.ref 1010 :: stk) S) : AW X sk loc k n pc ls stk S := by
  obtain ⟨p, l, e, R, s, m, args, below, meth, c, Q, A, G, cA, nL⟩ := X
  obtain ⟨hx, hb, hr, hml, hnL, hR, hown, hts, hK, hlocks, hA, hE⟩ := hX
  intro H locs la hP hD hS hl
  exact va_ldcS hx hb hown hE.2.2.2.2.2.2.2.2.2.1 hdg (kk H locs la hP hD hS hl)
theorem aw_str1 (hX : AC X loc RX10 cc ret maxL d mc ms) (hdg : decode cc pc = .ok (.ldc 167, 2)) (kk : AW X sk loc k n (pc + 2) ls (.ref 1011 :: stk) S) : AW X sk loc k n pc ls stk S := by
  obtain ⟨p, l, e, R, s, m, args, below, meth, c, Q, A, G, cA, nL⟩ := X
  obtain ⟨hx, hb, hr, hml, hnL, hR, hown, hts, hK, hlocks, hA, hE⟩ := hX
  intro H locs la hP hD hS hl
  exact va_ldcS hx hb hown hE.2.2.2.2.2.2.2.2.2.2.1 hdg (kk H locs la hP hD hS hl)
theorem aw_slen0 (hX : AC X loc RX6 cc ret maxL d mc ms) (hd : 2 ≤ d) (hcat : (stk.map fun v => v.category).sum ≤ 8) (hdg : decode cc pc = .ok (.invokevirtual 68, 3)) (h0 : k ≤ mc) (h1 : n ≤ ms) (kk : AW X sk loc k n (pc + 3) ls (.int 132 :: stk) S) : AW X sk loc k n pc ls (.ref 1010 :: stk) S :=
  aw_cSt (q := 0) (As := []) (rest := stk) hX (by decide) rfl (c_J0_length (by decide)) ok_J0_length_8abf5 kw_2_211 im_J0_length_8abf5 se_J0_length_8abf5 rfl hd hcat rfl hdg h0 h1 (by rw [show (nI (strLen.getD 0 0) >>> ((0 : Int32) &&& 31)) = 132 from by decide]; exact kk)
theorem aw_chr0 (hX : AC X loc RX6 cc ret maxL d mc ms) {i v : Int32} (hv : chr0 i = some v) (hd : 4 ≤ d) (hcat : (stk.map fun v => v.category).sum ≤ 8) (hdg : decode cc pc = .ok (.invokevirtual 74, 3)) (h0 : k ≤ mc) (h1 : n ≤ ms) (kk : AW X sk loc k n (pc + 3) ls (.int v :: stk) S) : AW X sk loc k n pc ls (.int i :: .ref 1010 :: stk) S :=
  aw_cSt (q := 0) (As := [.int i]) (rest := stk) hX (by decide) rfl (c_J0_charAt (by decide) hv) ok_J0_charAt_5068e kw_2_221 im_J0_charAt_5068e se_J0_charAt_5068e rfl hd hcat rfl hdg h0 h1 kk
theorem aw_slen1 (hX : AC X loc RX10 cc ret maxL d mc ms) (hd : 2 ≤ d) (hcat : (stk.map fun v => v.category).sum ≤ 8) (hdg : decode cc pc = .ok (.invokevirtual 169, 3)) (h0 : k ≤ mc) (h1 : n ≤ ms) (kk : AW X sk loc k n (pc + 3) ls (.int 111 :: stk) S) : AW X sk loc k n pc ls (.ref 1011 :: stk) S :=
  aw_cSt (q := 1) (As := []) (rest := stk) hX (by decide) rfl (c_J0_length (by decide)) ok_J0_length_8abf5 kw_6_139 im_J0_length_8abf5 se_J0_length_8abf5 rfl hd hcat rfl hdg h0 h1 (by rw [show (nI (strLen.getD 1 0) >>> ((0 : Int32) &&& 31)) = 111 from by decide]; exact kk)
theorem aw_chr1 (hX : AC X loc RX10 cc ret maxL d mc ms) {i v : Int32} (hv : chr1 i = some v) (hd : 4 ≤ d) (hcat : (stk.map fun v => v.category).sum ≤ 8) (hdg : decode cc pc = .ok (.invokevirtual 174, 3)) (h0 : k ≤ mc) (h1 : n ≤ ms) (kk : AW X sk loc k n (pc + 3) ls (.int v :: stk) S) : AW X sk loc k n pc ls (.int i :: .ref 1011 :: stk) S :=
  aw_cSt (q := 1) (As := [.int i]) (rest := stk) hX (by decide) rfl (c_J0_charAt (by decide) hv) ok_J0_charAt_5068e kw_6_140 im_J0_charAt_5068e se_J0_charAt_5068e rfl hd hcat rfl hdg h0 h1 kk
end AWS2
