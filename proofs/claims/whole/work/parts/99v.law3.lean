/-! THE LAW 3: note's case; the helper that catches -/
section LWN
variable {X : XT} {lc lm : Nat → Nat} {q k n b L i pc : Nat} {xs : Nat → Int32} {C M : Mem} {o : Nat → Int64} {ls : List (Nat × Value)} {stk : List Value}
theorem lw_bool (hX : LC X lc lm b L xs) {x : Int32} (d0 : decode code pc = .ok (.ifCond .eq 7, 3)) (d1 : decode code (pc + 3) = .ok (.iconst 1, 1)) (d2 : decode code (pc + 4) = .ok (.goto 4, 3)) (d3 : decode code (pc + 7) = .ok (.iconst 0, 1)) (kk : LW X lc lm q k n (pc + 8) ls (.int (if x = 0 then 0 else 1) :: stk) C M o) : LW X lc lm q k n pc ls (.int x :: stk) C M o := by
  obtain ⟨p, l, e, R, s, m, args, below, meth, c, Q, A, G, cA, nL⟩ := X
  obtain ⟨hx, hb, hml, hR, hown, hts, hK, hA, hE, hE2, hsx, hbl, hbA⟩ := hX
  intro H locs la hP hD hS hl
  have hk := kk H locs la hP hD hS hl
  refine lv_if_eq (tgt := pc + 7) hx hb d0 (by omega) (fun h => ?_) (fun h => ?_)
  · rw [if_pos h] at hk
    exact lv_iconst (v := 0) hx hb d3 rfl hk
  · rw [if_neg h] at hk
    refine lv_iconst (v := 1) hx hb d1 rfl ?_
    exact lv_goto (tgt := pc + 8) hx hb d2 (by omega) hk
theorem L_c29 (hX : LC X lc lm b L xs) (hi : i + 6 ≤ L) (hL : L ≤ 3072) (hC : Cp C M) (h0 : k ≤ 601024) (h1 : n ≤ 7293034) (kk : ∀ C' M', Cp C' M' → LW X lc lm q k n 1500 (lsL b lc lm q i) [] C' M' o) : LW X lc lm q k n 1186 (lsL b lc lm q i) [] C M o := by
  obtain ⟨⟨r, C2⟩, e1, ⟨r2, M2⟩, e2, e3, hC2⟩ := s_note hC (xs (i + 1)) (xs (i + 2)) (xs (i + 3)) (if xs (i + 4) = 0 then 0 else 1) (by by_cases h : xs (i + 4) = 0 <;> simp [h])
  refine lw_al1 hX dL_law_1186 ?_
  refine lw_arg hX 1 dL_law_1187 dL_law_1188 dL_law_1190 dL_law_1191 dL_law_1192 rfl (by omega) hL ?_
  refine lw_arg hX 2 dL_law_1193 dL_law_1194 dL_law_1196 dL_law_1197 dL_law_1198 rfl (by omega) hL ?_
  refine lw_arg hX 3 dL_law_1199 dL_law_1200 dL_law_1202 dL_law_1203 dL_law_1204 rfl (by omega) hL ?_
  refine lw_arg hX 4 dL_law_1205 dL_law_1206 dL_law_1208 dL_law_1209 dL_law_1210 rfl (by omega) hL ?_
  refine lw_bool hX dL_law_1211 dL_law_1214 dL_law_1215 dL_law_1218 ?_
  refine lw_cCI (As := [.int (xs (i + 1)), .int (xs (i + 2)), .int (xs (i + 3)), .int (if xs (i + 4) = 0 then 0 else 1)]) (rest := []) hX (c_X9_note e1) ok_X9_note kwL_149 im_X9_note se_X9_note rfl rfl (by decide) (Nat.le_of_ble_eq_true rfl) rfl dL_law_1219 h0 h1 ?_
  refine lw_al2 hX dL_law_1222 ?_
  refine lw_arg hX 1 dL_law_1223 dL_law_1224 dL_law_1226 dL_law_1227 dL_law_1228 rfl (by omega) hL ?_
  refine lw_arg hX 2 dL_law_1229 dL_law_1230 dL_law_1232 dL_law_1233 dL_law_1234 rfl (by omega) hL ?_
  refine lw_arg hX 3 dL_law_1235 dL_law_1236 dL_law_1238 dL_law_1239 dL_law_1240 rfl (by omega) hL ?_
  refine lw_arg hX 4 dL_law_1241 dL_law_1242 dL_law_1244 dL_law_1245 dL_law_1246 rfl (by omega) hL ?_
  refine lw_bool hX dL_law_1247 dL_law_1250 dL_law_1251 dL_law_1254 ?_
  refine lw_cMI (As := [.int (xs (i + 1)), .int (xs (i + 2)), .int (xs (i + 3)), .int (if xs (i + 4) = 0 then 0 else 1)]) (rest := [.int r]) hX (c_X10_note e2) ok_X10_note kwL_153 im_X10_note se_X10_note rfl rfl (by decide) (Nat.le_of_ble_eq_true rfl) rfl dL_law_1255 h0 h1 ?_
  exact lw_eq (tgt := 1500) hX dL_law_1258 (by decide) e3 (kk _ _ hC2)
end LWN
/-! the helper: doll called, its two throws caught -/
theorem ok_X9_doll : MOK yX9_doll cX9_doll 3 (some .int) 2 := ⟨wg5 75 rfl rfl, kw_1_1, by decide, by decide, by decide +kernel, by decide⟩
theorem im_X9_doll : Cond.instanceMethod yX9_doll ∈ lw_good := wg5 73 rfl rfl
theorem se_X9_doll : Cond.selects yX9_doll.cls yX9_doll yX9_doll ∈ lw_good := wg5 74 rfl rfl
abbrev hhL : List (Nat × Nat × Nat × Nat) := [(0, 10, 13, 13), (0, 10, 17, 15)]
theorem kwL_cd : Cond.codeWith yL_doll cL_doll 5 (some .int) hhL ∈ lw_good := wg5 69 rfl rfl
theorem kwL_st : Cond.static yL_doll ∈ lw_good := wg5 68 rfl rfl
theorem kwL_x1 : Cond.classLink RL 13 exI ∈ lw_good := wg5 70 rfl rfl
theorem kwL_x2 : Cond.classLink RL 15 exN ∈ lw_good := wg5 71 rfl rfl
theorem kwL_in : Cond.initialized RL ∈ lw_good := wg1 0 rfl rfl
theorem ld_ofWH {l : Launch} {y : MethodName} {ws ws' : List Cond} {rm : Room} {Pc : Array Value → State → Prop} {Qc : Array Value → State → Outcome → State → Prop} {mc ms : Nat} {free : Addr → Prop} {cc : ByteArray} {maxL : Nat} {ret : Option FieldType} {hh : List (Nat × Nat × Nat × Nat)}
    (hy : plainName y.cls = true) (hw : ws = Cond.codeWith y cc maxL ret hh :: ws')
    (body : ∀ p e s m args below meth c s₁, BodyLoose p l y (headSpec ws rm) cc maxL ret e s m args below meth c s₁ → c.maxLocals = maxL → Pc args s →
      W p l e (headSpec ws rm).room s m args below meth c s.heap [] 0 0 (MQ below Qc args s mc ms free) (entryFrame m args maxL)) : Met l y ws rm Pc Qc mc ms free := by
  refine MetFree.of_bodyS (code := cc) (maxLocals := maxL) (ret := ret) hy ?_ ?_
  · intro args s m h hn
    obtain ⟨m9, meth, c, hn9, h1, h2, h3, h4, -, h5, h6, -⟩ := Cond.codeWith_spec (atoms_spec (ws := ws) h _ (by rw [hw]; exact List.mem_cons_self))
    cases hn.symm.trans hn9
    exact ⟨meth, c, h1, h2, h3, h4, h5, h6⟩
  · intro p e s m args below meth c s₁ B hml hP _
    have hh0 : s₁.heap = s.heap := by rw [B.state]; rfl
    obtain ⟨t, a1, o, b1, b2, b3⟩ := body p e s m args below meth c s₁ B hml hP s₁ hh0 (Stand.of_body B)
    exact ⟨t, o, a1, b1, b2, ⟨b3.1, b3.2⟩⟩
theorem SKC_len : SKC.length = 92 := by decide +kernel
theorem SKM_len : SKM.length = 34 := by decide +kernel
theorem conc_len {cA : Nat → ClassId} {loc : Nat → Nat} {sk : Skel} {S : Mem} : (conc cA loc sk S).length = sk.length := by
  unfold conc
  rw [List.length_mapIdx]
section LWD
variable {cA : Nat → ClassId} {lc lm : Nat → Nat} {q : Nat} {C M : Mem} {o o' : Nat → Int64}
theorem lwW_out : (lwW cA lc lm q C M o)[126]? = some (q, .inl (cA 2, 1, .inr (.inl o))) := by
  unfold lwW
  rw [List.getElem?_append_right (by rw [conc_len, SKC_len]; omega), conc_len, SKC_len, List.getElem?_append_right (by rw [conc_len, SKM_len]; omega), conc_len, SKM_len]
  rfl
theorem lwW_set : (lwW cA lc lm q C M o).set 126 (q, .inl (cA 2, 1, .inr (.inl o'))) = lwW cA lc lm q C M o' := by
  unfold lwW
  rw [List.set_append_right _ _ (by rw [conc_len, SKC_len]; omega), conc_len, SKC_len, List.set_append_right _ _ (by rw [conc_len, SKM_len]; omega), conc_len, SKM_len]
  rfl
end LWD
/-- what the helper asks, and what it gives -/
def PreLd (G : va_G) (cA : Nat → ClassId) (lc lm : Nat → Nat) (q : Nat) (C M : Mem) (o : Nat → Int64) (sz : Nat) (v1 v2 : Int32) : Array Value → State → Prop := va_Pc [.ref (lc 0), .int v1, .int v2, .ref q] (fun U => U.heap.size = sz ∧ va_P G vwCl (lwW cA lc lm q C M o) U.heap ∧ va_K G vwCl (tysOf cA) U ∧ va_D (fun _ => True) (lwW cA lc lm q C M o) ∧ Ext (va_A (lwW cA lc lm q C M o) sz) lc U U.heap ∧ ExD (va_A (lwW cA lc lm q C M o) sz) U U.heap)
def oD (k r : Int32) (o : Nat → Int64) : Nat → Int64 := if k = 0 then vp_updL o 0 r.toInt64 else o
def QLd (G : va_G) (cA : Nat → ClassId) (lc lm : Nat → Nat) (q : Nat) (C M : Mem) (o : Nat → Int64) (A : Nat → Prop) (k : Int32) : Array Value → State → Outcome → State → Prop := va_Qi (fun (r' : Int32) (_ : Unit) => r' = k) (fun _ t => va_P G vwCl (lwW cA lc lm q C M o) t.heap ∧ va_K G vwCl (tysOf cA) t ∧ va_D A (lwW cA lc lm q C M o)) A
