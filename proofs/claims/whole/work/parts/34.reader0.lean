def skX4_0 (t : Nat) : Skel := [(8, 0, [.null, .null, .int 0, .int 0, .null, .int 0, .int 0, .int 0, .int 0])]

def skX4_1 (t : Nat) : Skel := [(8, 0, [.null, .null, .int 0, .int 0, .null, .int 0, .int 0, .int 0, .int 0]), (10, 0, [.null, .null, .null, .int 0])]

def skX4_2 (t : Nat) : Skel := [(8, 0, [.null, .null, .int 0, .int 0, .null, .int 0, .int 0, .int 0, .int 0]), (10, 0, [.ref (t + 2), .ref (t + 3), .ref (t + 4), .int 0]), (0, 701, []), (0, 701, []), (0, 701, [])]

def skX4_3 (t : Nat) : Skel := [(8, 0, [.ref (t + 1), .null, .int 0, .int 0, .null, .int 0, .int 0, .int 0, .int 0]), (10, 0, [.ref (t + 2), .ref (t + 3), .ref (t + 4), .int 0]), (0, 701, []), (0, 701, []), (0, 701, [])]

def skX4_4 (t : Nat) : Skel := [(8, 0, [.ref (t + 1), .null, .int 0, .int 0, .null, .int 0, .int 0, .int 0, .int 0]), (10, 0, [.ref (t + 2), .ref (t + 3), .ref (t + 4), .int 0]), (0, 701, []), (0, 701, []), (0, 701, []), (11, 0, [.int 0, .int 0, .int 0, .null, .null, .null, .null, .null, .null, .null, .null, .null, .null, .null, .null])]

def skX4_5 (t : Nat) : Skel := [(8, 0, [.ref (t + 1), .null, .int 0, .int 0, .null, .int 0, .int 0, .int 0, .int 0]), (10, 0, [.ref (t + 2), .ref (t + 3), .ref (t + 4), .int 0]), (0, 701, []), (0, 701, []), (0, 701, []), (11, 0, [.int 0, .int 0, .int 0, .ref (t + 6), .ref (t + 7), .ref (t + 8), .ref (t + 9), .ref (t + 10), .ref (t + 11), .ref (t + 12), .ref (t + 13), .ref (t + 14), .ref (t + 15), .ref (t + 16), .ref (t + 17)]), (0, 6, []), (0, 6, []), (0, 6, []), (0, 10, []), (0, 10, []), (0, 10, []), (0, 10, []), (0, 10, []), (0, 2, []), (0, 4, []), (1, 4, []), (3, 3, [.ref (t + 18), .ref (t + 21), .ref (t + 24)]), (5, 0, [.int 0, .int 0, .ref (t + 19), .ref (t + 20)]), (0, 64, []), (2, 64, []), (5, 0, [.int 0, .int 0, .ref (t + 22), .ref (t + 23)]), (0, 64, []), (2, 64, []), (5, 0, [.int 0, .int 0, .ref (t + 25), .ref (t + 26)]), (0, 64, []), (2, 64, [])]

def skX4_6 (t : Nat) : Skel := [(8, 0, [.ref (t + 1), .ref (t + 5), .int 0, .int 0, .null, .int 0, .int 0, .int 0, .int 0]), (10, 0, [.ref (t + 2), .ref (t + 3), .ref (t + 4), .int 0]), (0, 701, []), (0, 701, []), (0, 701, []), (11, 0, [.int 0, .int 0, .int 0, .ref (t + 6), .ref (t + 7), .ref (t + 8), .ref (t + 9), .ref (t + 10), .ref (t + 11), .ref (t + 12), .ref (t + 13), .ref (t + 14), .ref (t + 15), .ref (t + 16), .ref (t + 17)]), (0, 6, []), (0, 6, []), (0, 6, []), (0, 10, []), (0, 10, []), (0, 10, []), (0, 10, []), (0, 10, []), (0, 2, []), (0, 4, []), (1, 4, []), (3, 3, [.ref (t + 18), .ref (t + 21), .ref (t + 24)]), (5, 0, [.int 0, .int 0, .ref (t + 19), .ref (t + 20)]), (0, 64, []), (2, 64, []), (5, 0, [.int 0, .int 0, .ref (t + 22), .ref (t + 23)]), (0, 64, []), (2, 64, []), (5, 0, [.int 0, .int 0, .ref (t + 25), .ref (t + 26)]), (0, 64, []), (2, 64, [])]

def skX4_7 (t : Nat) : Skel := [(8, 0, [.ref (t + 1), .ref (t + 5), .int 0, .int 0, .null, .int 0, .int 0, .int 0, .int 0]), (10, 0, [.ref (t + 2), .ref (t + 3), .ref (t + 4), .int 0]), (0, 701, []), (0, 701, []), (0, 701, []), (11, 0, [.int 0, .int 0, .int 0, .ref (t + 6), .ref (t + 7), .ref (t + 8), .ref (t + 9), .ref (t + 10), .ref (t + 11), .ref (t + 12), .ref (t + 13), .ref (t + 14), .ref (t + 15), .ref (t + 16), .ref (t + 17)]), (0, 6, []), (0, 6, []), (0, 6, []), (0, 10, []), (0, 10, []), (0, 10, []), (0, 10, []), (0, 10, []), (0, 2, []), (0, 4, []), (1, 4, []), (3, 3, [.ref (t + 18), .ref (t + 21), .ref (t + 24)]), (5, 0, [.int 0, .int 0, .ref (t + 19), .ref (t + 20)]), (0, 64, []), (2, 64, []), (5, 0, [.int 0, .int 0, .ref (t + 22), .ref (t + 23)]), (0, 64, []), (2, 64, []), (5, 0, [.int 0, .int 0, .ref (t + 25), .ref (t + 26)]), (0, 64, []), (2, 64, []), (0, 72, [])]

def skX4_8 (t : Nat) : Skel := [(8, 0, [.ref (t + 1), .ref (t + 5), .int 0, .int 0, .ref (t + 27), .int 0, .int 0, .int 0, .int 0]), (10, 0, [.ref (t + 2), .ref (t + 3), .ref (t + 4), .int 0]), (0, 701, []), (0, 701, []), (0, 701, []), (11, 0, [.int 0, .int 0, .int 0, .ref (t + 6), .ref (t + 7), .ref (t + 8), .ref (t + 9), .ref (t + 10), .ref (t + 11), .ref (t + 12), .ref (t + 13), .ref (t + 14), .ref (t + 15), .ref (t + 16), .ref (t + 17)]), (0, 6, []), (0, 6, []), (0, 6, []), (0, 10, []), (0, 10, []), (0, 10, []), (0, 10, []), (0, 10, []), (0, 2, []), (0, 4, []), (1, 4, []), (3, 3, [.ref (t + 18), .ref (t + 21), .ref (t + 24)]), (5, 0, [.int 0, .int 0, .ref (t + 19), .ref (t + 20)]), (0, 64, []), (2, 64, []), (5, 0, [.int 0, .int 0, .ref (t + 22), .ref (t + 23)]), (0, 64, []), (2, 64, []), (5, 0, [.int 0, .int 0, .ref (t + 25), .ref (t + 26)]), (0, 64, []), (2, 64, []), (0, 72, [])]

def bl_X4_init : Skel := [(8, 0, [.null, .null, .int 0, .int 0, .null, .int 0, .int 0, .int 0, .int 0])]

def fin_X4_init (t : Nat) : Skel := [(8, 0, [.ref (t + 1), .ref (t + 5), .int 0, .int 0, .ref (t + 27), .int 0, .int 0, .int 0, .int 0]), (10, 0, [.ref (t + 2), .ref (t + 3), .ref (t + 4), .int 0]), (0, 701, []), (0, 701, []), (0, 701, []), (11, 0, [.int 0, .int 0, .int 0, .ref (t + 6), .ref (t + 7), .ref (t + 8), .ref (t + 9), .ref (t + 10), .ref (t + 11), .ref (t + 12), .ref (t + 13), .ref (t + 14), .ref (t + 15), .ref (t + 16), .ref (t + 17)]), (0, 6, []), (0, 6, []), (0, 6, []), (0, 10, []), (0, 10, []), (0, 10, []), (0, 10, []), (0, 10, []), (0, 2, []), (0, 4, []), (1, 4, []), (3, 3, [.ref (t + 18), .ref (t + 21), .ref (t + 24)]), (5, 0, [.int 0, .int 0, .ref (t + 19), .ref (t + 20)]), (0, 64, []), (2, 64, []), (5, 0, [.int 0, .int 0, .ref (t + 22), .ref (t + 23)]), (0, 64, []), (2, 64, []), (5, 0, [.int 0, .int 0, .ref (t + 25), .ref (t + 26)]), (0, 64, []), (2, 64, []), (0, 72, [])]

def iS_X4_init (t : Nat) (S : Mem) : Mem := (sI (sI (sI (sI (sI (sI (iS_X7_init (t + 5) (iS_X6_init (t + 1) S)) t 2 (0 : Int32)) t 3 (-1 : Int32)) t 5 (0 : Int32)) t 6 (0 : Int32)) t 7 (0 : Int32)) t 8 (1 : Int32))

theorem cz_X4_init {t : Nat} {S : Mem} (hz : Zf S (t + 1)) : Zf (iS_X4_init t S) (t + 28) := by
  have hz0 : Zf S (t + 1) := hz
  have hz1 : Zf S (t + 2) := Zf.mono hz0 (by omega)
  have hz2 : Zf (iS_X6_init (t + 1) S) (t + 5) := Zf.mono (cz_X6_init (t := t + 1) hz1) (by omega)
  have hz4 : Zf (iS_X6_init (t + 1) S) (t + 6) := Zf.mono hz2 (by omega)
  have hz5 : Zf (iS_X7_init (t + 5) (iS_X6_init (t + 1) S)) (t + 27) := Zf.mono (cz_X7_init (t := t + 5) hz4) (by omega)
  have hz7 : Zf (sI (iS_X7_init (t + 5) (iS_X6_init (t + 1) S)) t 2 (0 : Int32)) (t + 27) := Zf.sI hz5 (by omega)
  have hz8 : Zf (sI (sI (iS_X7_init (t + 5) (iS_X6_init (t + 1) S)) t 2 (0 : Int32)) t 3 (-1 : Int32)) (t + 27) := Zf.sI hz7 (by omega)
  have hz9 : Zf (sI (sI (iS_X7_init (t + 5) (iS_X6_init (t + 1) S)) t 2 (0 : Int32)) t 3 (-1 : Int32)) (t + 28) := Zf.mono hz8 (by omega)
  have hz11 : Zf (sI (sI (sI (iS_X7_init (t + 5) (iS_X6_init (t + 1) S)) t 2 (0 : Int32)) t 3 (-1 : Int32)) t 5 (0 : Int32)) (t + 28) := Zf.sI hz9 (by omega)
  have hz12 : Zf (sI (sI (sI (sI (iS_X7_init (t + 5) (iS_X6_init (t + 1) S)) t 2 (0 : Int32)) t 3 (-1 : Int32)) t 5 (0 : Int32)) t 6 (0 : Int32)) (t + 28) := Zf.sI hz11 (by omega)
  have hz13 : Zf (sI (sI (sI (sI (sI (iS_X7_init (t + 5) (iS_X6_init (t + 1) S)) t 2 (0 : Int32)) t 3 (-1 : Int32)) t 5 (0 : Int32)) t 6 (0 : Int32)) t 7 (0 : Int32)) (t + 28) := Zf.sI hz12 (by omega)
  have hz14 : Zf (sI (sI (sI (sI (sI (sI (iS_X7_init (t + 5) (iS_X6_init (t + 1) S)) t 2 (0 : Int32)) t 3 (-1 : Int32)) t 5 (0 : Int32)) t 6 (0 : Int32)) t 7 (0 : Int32)) t 8 (1 : Int32)) (t + 28) := Zf.sI hz13 (by omega)
  exact hz14

set_option maxHeartbeats 4000000 in
set_option maxRecDepth 100000 in
theorem cs_X4_init {pre : Skel} {t : Nat} (ht : pre.length = t) (hsc : scs (t + 1) (pre ++ bl_X4_init)) : scs (t + 28) (pre ++ fin_X4_init t) := by
  have hsc0 : scs (t + 1) (pre ++ skX4_0 t) := hsc
  have hsc1 : scs (t + 2) (pre ++ skX4_1 t) := scs_new hsc0 (by omega) (by simp) ap_push
  have es2a : (pre ++ skX4_0 t) ++ bl_X6_init = pre ++ skX4_1 t := by rw [List.append_assoc]; rfl
  have es2b : (pre ++ skX4_0 t) ++ fin_X6_init (t + 1) = pre ++ skX4_2 t := by rw [List.append_assoc]; rfl
  have hsc2 : scs (t + 5) (pre ++ skX4_2 t) := by have h := cs_X6_init (pre := pre ++ skX4_0 t) (t := t + 1) (by rw [ap_len ht]; rfl) (by rw [es2a]; exact hsc1); rw [es2b] at h; exact h
  have es3 : (pre ++ skX4_2 t : Skel).set t (8, 0, [.ref (t + 1), .null, .int 0, .int 0, .null, .int 0, .int 0, .int 0, .int 0]) = pre ++ skX4_3 t := by rw [ap_set0 ht]; rfl
  have hsc3 : scs (t + 5) (pre ++ skX4_3 t) := scs_putR (b := t) (j := 0) (r := (t + 1)) hsc2 (by rw [ap_get0 ht]; rfl) (by omega) es3
  have hsc4 : scs (t + 6) (pre ++ skX4_4 t) := scs_new hsc3 (by omega) (by simp) ap_push
  have es5a : (pre ++ skX4_3 t) ++ bl_X7_init = pre ++ skX4_4 t := by rw [List.append_assoc]; rfl
  have es5b : (pre ++ skX4_3 t) ++ fin_X7_init (t + 5) = pre ++ skX4_5 t := by rw [List.append_assoc]; rfl
  have hsc5 : scs (t + 27) (pre ++ skX4_5 t) := by have h := cs_X7_init (pre := pre ++ skX4_3 t) (t := t + 5) (by rw [ap_len ht]; rfl) (by rw [es5a]; exact hsc4); rw [es5b] at h; exact h
  have es6 : (pre ++ skX4_5 t : Skel).set t (8, 0, [.ref (t + 1), .ref (t + 5), .int 0, .int 0, .null, .int 0, .int 0, .int 0, .int 0]) = pre ++ skX4_6 t := by rw [ap_set0 ht]; rfl
  have hsc6 : scs (t + 27) (pre ++ skX4_6 t) := scs_putR (b := t) (j := 1) (r := (t + 5)) hsc5 (by rw [ap_get0 ht]; rfl) (by omega) es6
  have hsc9 : scs (t + 28) (pre ++ skX4_7 t) := scs_new hsc6 (by omega) (by simp) ap_push
  have es10 : (pre ++ skX4_7 t : Skel).set t (8, 0, [.ref (t + 1), .ref (t + 5), .int 0, .int 0, .ref (t + 27), .int 0, .int 0, .int 0, .int 0]) = pre ++ skX4_8 t := by rw [ap_set0 ht]; rfl
  have hsc10 : scs (t + 28) (pre ++ skX4_8 t) := scs_putR (b := t) (j := 4) (r := (t + 27)) hsc9 (by rw [ap_get0 ht]; rfl) (by omega) es10
  exact hsc10

set_option maxHeartbeats 4000000 in
set_option maxRecDepth 100000 in
theorem ci_X4_init {pre : Skel} {t : Nat} {S : Mem} (ht : pre.length = t) (hz : Zf S (t + 1)) (hsc : scs (t + 1) (pre ++ bl_X4_init)) (h1000 : t + 28 < 1000) : MetC yX4_init cX4_init 1 3 27 2671 [.ref t] (pre ++ bl_X4_init) S (pre ++ fin_X4_init t) (iS_X4_init t S) := by
  have hpl : (pre ++ bl_X4_init).length = t + 1 := ap_len ht
  refine MetC.intro (by decide +kernel) rfl (Nat.le_of_ble_eq_true rfl) (fun X loc hX hI hQ => ?_)
  rw [hpl] at hQ
  show AW X (pre ++ skX4_0 t) loc 0 0 0 [(0, .ref t)] [] S
  have hz0 : Zf S (t + 1) := hz
  have hsc0 : scs (t + 1) (pre ++ skX4_0 t) := hsc
  have ag0 : Ag (t + 1) loc loc := Ag.rf
  refine aw_aload_n (pc := 0) hX dX4_init_0 rfl 0 rfl ?_
  refine aw_objI (pc := 1) hX kw_1_52 kw_1_29 kw_1_30 (by decide) (Nat.le_of_ble_eq_true rfl) dX4_init_1 ?_
  refine aw_aload_n (pc := 4) hX dX4_init_4 rfl 0 rfl ?_
  have hsc1 : scs (t + 2) (pre ++ skX4_1 t) := scs_new hsc0 (by omega) (by simp) ap_push
  refine aw_newO' (pc := 5) hX (N0 := t + 1) (by rw [ap_len ht]; rfl) (sk' := pre ++ skX4_1 t) (ci := 6) (T := TX6) (N := 4) (ty := tyX6) (fs := [.null, .null, .null, .int 0]) rfl inGX6 tyX6_ok kw_1_53 kw_1_54 kw_1_4 (by decide) (fun _ _ => rfl) hz0 hsc0 (scl_cons (scv_ref (Or.inl (by omega))) scl_nil) (scl_cons (scv_ref (Or.inl (by omega))) scl_nil) (by omega) (by omega) (by omega) dX4_init_5 ap_push (fun loc1 ag1 hX1 => ?_)
  have ag1' := ag0.tr ag1 (by omega)
  have hz1 : Zf S (t + 2) := Zf.mono hz0 (by omega)
  refine aw_dup (pc := 8) hX1 dX4_init_8 rfl ?_
  have es2a : (pre ++ skX4_0 t) ++ bl_X6_init = pre ++ skX4_1 t := by rw [List.append_assoc]; rfl
  have es2b : (pre ++ skX4_0 t) ++ fin_X6_init (t + 1) = pre ++ skX4_2 t := by rw [List.append_assoc]; rfl
  have hM2 := ci_X6_init (pre := pre ++ skX4_0 t) (t := t + 1) (S := S) (by rw [ap_len ht]; rfl) hz1 (by rw [es2a]; exact hsc1) (by omega)
  rw [es2a, es2b] at hM2
  have hz2 : Zf (iS_X6_init (t + 1) S) (t + 5) := Zf.mono (cz_X6_init (t := t + 1) hz1) (by omega)
  have hsc2 : scs (t + 5) (pre ++ skX4_2 t) := by have h := cs_X6_init (pre := pre ++ skX4_0 t) (t := t + 1) (by rw [ap_len ht]; rfl) (by rw [es2a]; exact hsc1); rw [es2b] at h; exact h
  refine aw_cI' (pc := 9) hX1 (N0 := t + 2) (by rw [ap_len ht]; rfl) (sk' := pre ++ skX4_2 t) (S' := (iS_X6_init (t + 1) S)) (As := []) (rest := [.ref (t + 1), .ref t]) hM2 ok_X6_init (Or.inl ⟨"DollTruce", by decide⟩) im_X6_init rfl rfl (by decide) (Nat.le_of_ble_eq_true rfl) rfl (scl_cons (scv_ref (Or.inl (by omega))) scl_nil) (scl_cons (scv_ref (Or.inl (by omega))) (scl_cons (scv_ref (Or.inl (by omega))) scl_nil)) dX4_init_9 (by omega) (by omega) (fun loc2 ag2 hX2 => ?_)
  have ag2' := ag1'.tr ag2 (by omega)
  have es3 : (pre ++ skX4_2 t : Skel).set t (8, 0, [.ref (t + 1), .null, .int 0, .int 0, .null, .int 0, .int 0, .int 0, .int 0]) = pre ++ skX4_3 t := by rw [ap_set0 ht]; rfl
  have hsc3 : scs (t + 5) (pre ++ skX4_3 t) := scs_putR (b := t) (j := 0) (r := (t + 1)) hsc2 (by rw [ap_get0 ht]; rfl) (by omega) es3
  refine pr_X4_12 (pc := 12) hX2 hI (by rw [ap_get0 ht]; rfl) (Nat.le_of_ble_eq_true rfl) es3 dX4_init_12 ?_
  refine aw_aload_n (pc := 15) hX2 dX4_init_15 rfl 0 rfl ?_
  have hsc4 : scs (t + 6) (pre ++ skX4_4 t) := scs_new hsc3 (by omega) (by simp) ap_push
  refine aw_newO' (pc := 16) hX2 (N0 := t + 5) (by rw [ap_len ht]; rfl) (sk' := pre ++ skX4_4 t) (ci := 7) (T := TX7) (N := 15) (ty := tyX7) (fs := [.int 0, .int 0, .int 0, .null, .null, .null, .null, .null, .null, .null, .null, .null, .null, .null, .null]) rfl inGX7 tyX7_ok kw_1_75 kw_1_76 kw_1_5 (by decide) (fun _ _ => rfl) hz2 hsc3 (scl_cons (scv_ref (Or.inl (by omega))) scl_nil) (scl_cons (scv_ref (Or.inl (by omega))) scl_nil) (by omega) (by omega) (by omega) dX4_init_16 ap_push (fun loc4 ag4 hX4 => ?_)
  have ag4' := ag2'.tr ag4 (by omega)
  have hz4 : Zf (iS_X6_init (t + 1) S) (t + 6) := Zf.mono hz2 (by omega)
  refine aw_dup (pc := 19) hX4 dX4_init_19 rfl ?_
  have es5a : (pre ++ skX4_3 t) ++ bl_X7_init = pre ++ skX4_4 t := by rw [List.append_assoc]; rfl
  have es5b : (pre ++ skX4_3 t) ++ fin_X7_init (t + 5) = pre ++ skX4_5 t := by rw [List.append_assoc]; rfl
  have hM5 := ci_X7_init (pre := pre ++ skX4_3 t) (t := t + 5) (S := (iS_X6_init (t + 1) S)) (by rw [ap_len ht]; rfl) hz4 (by rw [es5a]; exact hsc4) (by omega)
  rw [es5a, es5b] at hM5
  have hz5 : Zf (iS_X7_init (t + 5) (iS_X6_init (t + 1) S)) (t + 27) := Zf.mono (cz_X7_init (t := t + 5) hz4) (by omega)
  have hsc5 : scs (t + 27) (pre ++ skX4_5 t) := by have h := cs_X7_init (pre := pre ++ skX4_3 t) (t := t + 5) (by rw [ap_len ht]; rfl) (by rw [es5a]; exact hsc4); rw [es5b] at h; exact h
  refine aw_cI' (pc := 20) hX4 (N0 := t + 6) (by rw [ap_len ht]; rfl) (sk' := pre ++ skX4_5 t) (S' := (iS_X7_init (t + 5) (iS_X6_init (t + 1) S))) (As := []) (rest := [.ref (t + 5), .ref t]) hM5 ok_X7_init (Or.inr kw_1_77) im_X7_init rfl rfl (by decide) (Nat.le_of_ble_eq_true rfl) rfl (scl_cons (scv_ref (Or.inl (by omega))) scl_nil) (scl_cons (scv_ref (Or.inl (by omega))) (scl_cons (scv_ref (Or.inl (by omega))) scl_nil)) dX4_init_20 (by omega) (by omega) (fun loc5 ag5 hX5 => ?_)
  have ag5' := ag4'.tr ag5 (by omega)
  have es6 : (pre ++ skX4_5 t : Skel).set t (8, 0, [.ref (t + 1), .ref (t + 5), .int 0, .int 0, .null, .int 0, .int 0, .int 0, .int 0]) = pre ++ skX4_6 t := by rw [ap_set0 ht]; rfl
  have hsc6 : scs (t + 27) (pre ++ skX4_6 t) := scs_putR (b := t) (j := 1) (r := (t + 5)) hsc5 (by rw [ap_get0 ht]; rfl) (by omega) es6
  refine pr_X4_21 (pc := 23) hX5 hI (by rw [ap_get0 ht]; rfl) (Nat.le_of_ble_eq_true rfl) es6 dX4_init_23 ?_
  refine aw_aload_n (pc := 26) hX5 dX4_init_26 rfl 0 rfl ?_
  refine aw_iconst (v := (0 : Int32)) (pc := 27) hX5 dX4_init_27 (by decide) ?_
  refine pf_X4_25 (pc := 28) hX5 (by rw [ap_get0 ht]; rfl) rfl dX4_init_28 ?_
  have hz7 : Zf (sI (iS_X7_init (t + 5) (iS_X6_init (t + 1) S)) t 2 (0 : Int32)) (t + 27) := Zf.sI hz5 (by omega)
  refine aw_aload_n (pc := 31) hX5 dX4_init_31 rfl 0 rfl ?_
  refine aw_iconst (v := (-1 : Int32)) (pc := 32) hX5 dX4_init_32 (by decide) ?_
  refine pf_X4_29 (pc := 33) hX5 (by rw [ap_get0 ht]; rfl) rfl dX4_init_33 ?_
  have hz8 : Zf (sI (sI (iS_X7_init (t + 5) (iS_X6_init (t + 1) S)) t 2 (0 : Int32)) t 3 (-1 : Int32)) (t + 27) := Zf.sI hz7 (by omega)
  refine aw_aload_n (pc := 36) hX5 dX4_init_36 rfl 0 rfl ?_
  refine aw_bipush (v := (72 : Int32)) (pc := 37) hX5 dX4_init_37 (by decide) ?_
  have hsc9 : scs (t + 28) (pre ++ skX4_7 t) := scs_new hsc6 (by omega) (by simp) ap_push
  refine aw_newA' (pc := 39) hX5 (N0 := t + 27) (by rw [ap_len ht]; rfl) (sk' := pre ++ skX4_7 t) (at' := .int) (ty := .int) (kd := 0) (N := 72) rfl (by decide) kw_1_46 (by decide) (by decide) (by decide) hz8 hsc6 (scl_cons (scv_ref (Or.inl (by omega))) scl_nil) (scl_cons (scv_ref (Or.inl (by omega))) scl_nil) (by omega) (by omega) (by omega) dX4_init_39 ap_push (fun loc9 ag9 hX9 => ?_)
  have ag9' := ag5'.tr ag9 (by omega)
  have hz9 : Zf (sI (sI (iS_X7_init (t + 5) (iS_X6_init (t + 1) S)) t 2 (0 : Int32)) t 3 (-1 : Int32)) (t + 28) := Zf.mono hz8 (by omega)
  have es10 : (pre ++ skX4_7 t : Skel).set t (8, 0, [.ref (t + 1), .ref (t + 5), .int 0, .int 0, .ref (t + 27), .int 0, .int 0, .int 0, .int 0]) = pre ++ skX4_8 t := by rw [ap_set0 ht]; rfl
  have hsc10 : scs (t + 28) (pre ++ skX4_8 t) := scs_putR (b := t) (j := 4) (r := (t + 27)) hsc9 (by rw [ap_get0 ht]; rfl) (by omega) es10
  refine pr_X4_32 (pc := 41) hX9 hI (by rw [ap_get0 ht]; rfl) (Nat.le_of_ble_eq_true rfl) es10 dX4_init_41 ?_
  refine aw_aload_n (pc := 44) hX9 dX4_init_44 rfl 0 rfl ?_
  refine aw_iconst (v := (0 : Int32)) (pc := 45) hX9 dX4_init_45 (by decide) ?_
  refine pf_X4_36 (pc := 46) hX9 (by rw [ap_get0 ht]; rfl) rfl dX4_init_46 ?_
  have hz11 : Zf (sI (sI (sI (iS_X7_init (t + 5) (iS_X6_init (t + 1) S)) t 2 (0 : Int32)) t 3 (-1 : Int32)) t 5 (0 : Int32)) (t + 28) := Zf.sI hz9 (by omega)
  refine aw_aload_n (pc := 49) hX9 dX4_init_49 rfl 0 rfl ?_
  refine aw_iconst (v := (0 : Int32)) (pc := 50) hX9 dX4_init_50 (by decide) ?_
  refine pf_X4_39 (pc := 51) hX9 (by rw [ap_get0 ht]; rfl) rfl dX4_init_51 ?_
  have hz12 : Zf (sI (sI (sI (sI (iS_X7_init (t + 5) (iS_X6_init (t + 1) S)) t 2 (0 : Int32)) t 3 (-1 : Int32)) t 5 (0 : Int32)) t 6 (0 : Int32)) (t + 28) := Zf.sI hz11 (by omega)
  refine aw_aload_n (pc := 54) hX9 dX4_init_54 rfl 0 rfl ?_
  refine aw_iconst (v := (0 : Int32)) (pc := 55) hX9 dX4_init_55 (by decide) ?_
  refine pf_X4_42 (pc := 56) hX9 (by rw [ap_get0 ht]; rfl) rfl dX4_init_56 ?_
  have hz13 : Zf (sI (sI (sI (sI (sI (iS_X7_init (t + 5) (iS_X6_init (t + 1) S)) t 2 (0 : Int32)) t 3 (-1 : Int32)) t 5 (0 : Int32)) t 6 (0 : Int32)) t 7 (0 : Int32)) (t + 28) := Zf.sI hz12 (by omega)
  refine aw_aload_n (pc := 59) hX9 dX4_init_59 rfl 0 rfl ?_
  refine aw_iconst (v := (1 : Int32)) (pc := 60) hX9 dX4_init_60 (by decide) ?_
  refine pf_X4_45 (pc := 61) hX9 (by rw [ap_get0 ht]; rfl) rfl (by decide) dX4_init_61 ?_
  have hz14 : Zf (sI (sI (sI (sI (sI (sI (iS_X7_init (t + 5) (iS_X6_init (t + 1) S)) t 2 (0 : Int32)) t 3 (-1 : Int32)) t 5 (0 : Int32)) t 6 (0 : Int32)) t 7 (0 : Int32)) t 8 (1 : Int32)) (t + 28) := Zf.sI hz13 (by omega)
  exact aw_vretC hX9 hQ ag9' rfl rfl dX4_init_64
