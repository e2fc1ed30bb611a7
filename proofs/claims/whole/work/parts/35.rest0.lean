def skX8_0 (t : Nat) (u : Nat) : Skel := [(12, 0, [.int 0, .int 0, .int 0, .long 0, .null, .null, .null, .null, .null, .null, .null, .null, .int 0])]

def skX8_1 (t : Nat) (u : Nat) : Skel := [(12, 0, [.int 0, .int 0, .int 0, .long 0, .null, .null, .null, .null, .null, .null, .null, .null, .int 0]), (0, 10, [])]

def skX8_2 (t : Nat) (u : Nat) : Skel := [(12, 0, [.int 0, .int 0, .int 0, .long 0, .ref (t + 1), .null, .null, .null, .null, .null, .null, .null, .int 0]), (0, 10, [])]

def skX8_3 (t : Nat) (u : Nat) : Skel := [(12, 0, [.int 0, .int 0, .int 0, .long 0, .ref (t + 1), .null, .null, .null, .null, .null, .null, .null, .int 0]), (0, 10, []), (0, 10, [])]

def skX8_4 (t : Nat) (u : Nat) : Skel := [(12, 0, [.int 0, .int 0, .int 0, .long 0, .ref (t + 1), .ref (t + 2), .null, .null, .null, .null, .null, .null, .int 0]), (0, 10, []), (0, 10, [])]

def skX8_5 (t : Nat) (u : Nat) : Skel := [(12, 0, [.int 0, .int 0, .int 0, .long 0, .ref (t + 1), .ref (t + 2), .null, .null, .null, .null, .null, .null, .int 0]), (0, 10, []), (0, 10, []), (0, 10, [])]

def skX8_6 (t : Nat) (u : Nat) : Skel := [(12, 0, [.int 0, .int 0, .int 0, .long 0, .ref (t + 1), .ref (t + 2), .ref (t + 3), .null, .null, .null, .null, .null, .int 0]), (0, 10, []), (0, 10, []), (0, 10, [])]

def skX8_7 (t : Nat) (u : Nat) : Skel := [(12, 0, [.int 0, .int 0, .int 0, .long 0, .ref (t + 1), .ref (t + 2), .ref (t + 3), .null, .null, .null, .null, .null, .int 0]), (0, 10, []), (0, 10, []), (0, 10, []), (0, 6, [])]

def skX8_8 (t : Nat) (u : Nat) : Skel := [(12, 0, [.int 0, .int 0, .int 0, .long 0, .ref (t + 1), .ref (t + 2), .ref (t + 3), .ref (t + 4), .null, .null, .null, .null, .int 0]), (0, 10, []), (0, 10, []), (0, 10, []), (0, 6, [])]

def skX8_9 (t : Nat) (u : Nat) : Skel := [(12, 0, [.int 0, .int 0, .int 0, .long 0, .ref (t + 1), .ref (t + 2), .ref (t + 3), .ref (t + 4), .null, .null, .null, .null, .int 0]), (0, 10, []), (0, 10, []), (0, 10, []), (0, 6, []), (0, 2, [])]

def skX8_10 (t : Nat) (u : Nat) : Skel := [(12, 0, [.int 0, .int 0, .int 0, .long 0, .ref (t + 1), .ref (t + 2), .ref (t + 3), .ref (t + 4), .ref (t + 5), .null, .null, .null, .int 0]), (0, 10, []), (0, 10, []), (0, 10, []), (0, 6, []), (0, 2, [])]

def skX8_11 (t : Nat) (u : Nat) : Skel := [(12, 0, [.int 0, .int 0, .int 0, .long 0, .ref (t + 1), .ref (t + 2), .ref (t + 3), .ref (t + 4), .ref (t + 5), .null, .null, .null, .int 0]), (0, 10, []), (0, 10, []), (0, 10, []), (0, 6, []), (0, 2, []), (0, 2, [])]

def skX8_12 (t : Nat) (u : Nat) : Skel := [(12, 0, [.int 0, .int 0, .int 0, .long 0, .ref (t + 1), .ref (t + 2), .ref (t + 3), .ref (t + 4), .ref (t + 5), .ref (t + 6), .null, .null, .int 0]), (0, 10, []), (0, 10, []), (0, 10, []), (0, 6, []), (0, 2, []), (0, 2, [])]

def skX8_13 (t : Nat) (u : Nat) : Skel := [(12, 0, [.int 0, .int 0, .int 0, .long 0, .ref (t + 1), .ref (t + 2), .ref (t + 3), .ref (t + 4), .ref (t + 5), .ref (t + 6), .null, .null, .int 0]), (0, 10, []), (0, 10, []), (0, 10, []), (0, 6, []), (0, 2, []), (0, 2, []), (0, 7, [])]

def skX8_14 (t : Nat) (u : Nat) : Skel := [(12, 0, [.int 0, .int 0, .int 0, .long 0, .ref (t + 1), .ref (t + 2), .ref (t + 3), .ref (t + 4), .ref (t + 5), .ref (t + 6), .null, .ref (t + 7), .int 0]), (0, 10, []), (0, 10, []), (0, 10, []), (0, 6, []), (0, 2, []), (0, 2, []), (0, 7, [])]

def skX8_15 (t : Nat) (u : Nat) : Skel := [(12, 0, [.int 0, .int 0, .int 0, .long 0, .ref (t + 1), .ref (t + 2), .ref (t + 3), .ref (t + 4), .ref (t + 5), .ref (t + 6), .ref u, .ref (t + 7), .int 0]), (0, 10, []), (0, 10, []), (0, 10, []), (0, 6, []), (0, 2, []), (0, 2, []), (0, 7, [])]

def bl_X8_init : Skel := [(12, 0, [.int 0, .int 0, .int 0, .long 0, .null, .null, .null, .null, .null, .null, .null, .null, .int 0])]

def fin_X8_init (t : Nat) (u : Nat) : Skel := [(12, 0, [.int 0, .int 0, .int 0, .long 0, .ref (t + 1), .ref (t + 2), .ref (t + 3), .ref (t + 4), .ref (t + 5), .ref (t + 6), .ref u, .ref (t + 7), .int 0]), (0, 10, []), (0, 10, []), (0, 10, []), (0, 6, []), (0, 2, []), (0, 2, []), (0, 7, [])]

def iS_X8_init (t : Nat) (S : Mem) : Mem := (sI (sL (sI (sI (sI S t 0 (0 : Int32)) t 1 (0 : Int32)) t 2 (0 : Int32)) t 3 (0 : Int64)) t 12 (0 : Int32))

theorem cz_X8_init {t : Nat} {S : Mem} (hz : Zf S (t + 1)) : Zf (iS_X8_init t S) (t + 8) := by
  have hz0 : Zf S (t + 1) := hz
  have hz1 : Zf (sI S t 0 (0 : Int32)) (t + 1) := Zf.sI hz0 (by omega)
  have hz2 : Zf (sI (sI S t 0 (0 : Int32)) t 1 (0 : Int32)) (t + 1) := Zf.sI hz1 (by omega)
  have hz3 : Zf (sI (sI (sI S t 0 (0 : Int32)) t 1 (0 : Int32)) t 2 (0 : Int32)) (t + 1) := Zf.sI hz2 (by omega)
  have hz4 : Zf (sL (sI (sI (sI S t 0 (0 : Int32)) t 1 (0 : Int32)) t 2 (0 : Int32)) t 3 (0 : Int64)) (t + 1) := Zf.sL hz3 (by omega)
  have hz5 : Zf (sL (sI (sI (sI S t 0 (0 : Int32)) t 1 (0 : Int32)) t 2 (0 : Int32)) t 3 (0 : Int64)) (t + 2) := Zf.mono hz4 (by omega)
  have hz7 : Zf (sL (sI (sI (sI S t 0 (0 : Int32)) t 1 (0 : Int32)) t 2 (0 : Int32)) t 3 (0 : Int64)) (t + 3) := Zf.mono hz5 (by omega)
  have hz9 : Zf (sL (sI (sI (sI S t 0 (0 : Int32)) t 1 (0 : Int32)) t 2 (0 : Int32)) t 3 (0 : Int64)) (t + 4) := Zf.mono hz7 (by omega)
  have hz11 : Zf (sL (sI (sI (sI S t 0 (0 : Int32)) t 1 (0 : Int32)) t 2 (0 : Int32)) t 3 (0 : Int64)) (t + 5) := Zf.mono hz9 (by omega)
  have hz13 : Zf (sL (sI (sI (sI S t 0 (0 : Int32)) t 1 (0 : Int32)) t 2 (0 : Int32)) t 3 (0 : Int64)) (t + 6) := Zf.mono hz11 (by omega)
  have hz15 : Zf (sL (sI (sI (sI S t 0 (0 : Int32)) t 1 (0 : Int32)) t 2 (0 : Int32)) t 3 (0 : Int64)) (t + 7) := Zf.mono hz13 (by omega)
  have hz17 : Zf (sL (sI (sI (sI S t 0 (0 : Int32)) t 1 (0 : Int32)) t 2 (0 : Int32)) t 3 (0 : Int64)) (t + 8) := Zf.mono hz15 (by omega)
  have hz19 : Zf (sI (sL (sI (sI (sI S t 0 (0 : Int32)) t 1 (0 : Int32)) t 2 (0 : Int32)) t 3 (0 : Int64)) t 12 (0 : Int32)) (t + 8) := Zf.sI hz17 (by omega)
  exact hz19

set_option maxHeartbeats 4000000 in
set_option maxRecDepth 100000 in
theorem cs_X8_init {pre : Skel} {t : Nat} {u : Nat} (ht : pre.length = t) (hsc : scs (t + 1) (pre ++ bl_X8_init)) (hu : u < t + 1) : scs (t + 8) (pre ++ fin_X8_init t u) := by
  have hsc0 : scs (t + 1) (pre ++ skX8_0 t u) := hsc
  have hsc5 : scs (t + 2) (pre ++ skX8_1 t u) := scs_new hsc0 (by omega) (by simp) ap_push
  have es6 : (pre ++ skX8_1 t u : Skel).set t (12, 0, [.int 0, .int 0, .int 0, .long 0, .ref (t + 1), .null, .null, .null, .null, .null, .null, .null, .int 0]) = pre ++ skX8_2 t u := by rw [ap_set0 ht]; rfl
  have hsc6 : scs (t + 2) (pre ++ skX8_2 t u) := scs_putR (b := t) (j := 4) (r := (t + 1)) hsc5 (by rw [ap_get0 ht]; rfl) (by omega) es6
  have hsc7 : scs (t + 3) (pre ++ skX8_3 t u) := scs_new hsc6 (by omega) (by simp) ap_push
  have es8 : (pre ++ skX8_3 t u : Skel).set t (12, 0, [.int 0, .int 0, .int 0, .long 0, .ref (t + 1), .ref (t + 2), .null, .null, .null, .null, .null, .null, .int 0]) = pre ++ skX8_4 t u := by rw [ap_set0 ht]; rfl
  have hsc8 : scs (t + 3) (pre ++ skX8_4 t u) := scs_putR (b := t) (j := 5) (r := (t + 2)) hsc7 (by rw [ap_get0 ht]; rfl) (by omega) es8
  have hsc9 : scs (t + 4) (pre ++ skX8_5 t u) := scs_new hsc8 (by omega) (by simp) ap_push
  have es10 : (pre ++ skX8_5 t u : Skel).set t (12, 0, [.int 0, .int 0, .int 0, .long 0, .ref (t + 1), .ref (t + 2), .ref (t + 3), .null, .null, .null, .null, .null, .int 0]) = pre ++ skX8_6 t u := by rw [ap_set0 ht]; rfl
  have hsc10 : scs (t + 4) (pre ++ skX8_6 t u) := scs_putR (b := t) (j := 6) (r := (t + 3)) hsc9 (by rw [ap_get0 ht]; rfl) (by omega) es10
  have hsc11 : scs (t + 5) (pre ++ skX8_7 t u) := scs_new hsc10 (by omega) (by simp) ap_push
  have es12 : (pre ++ skX8_7 t u : Skel).set t (12, 0, [.int 0, .int 0, .int 0, .long 0, .ref (t + 1), .ref (t + 2), .ref (t + 3), .ref (t + 4), .null, .null, .null, .null, .int 0]) = pre ++ skX8_8 t u := by rw [ap_set0 ht]; rfl
  have hsc12 : scs (t + 5) (pre ++ skX8_8 t u) := scs_putR (b := t) (j := 7) (r := (t + 4)) hsc11 (by rw [ap_get0 ht]; rfl) (by omega) es12
  have hsc13 : scs (t + 6) (pre ++ skX8_9 t u) := scs_new hsc12 (by omega) (by simp) ap_push
  have es14 : (pre ++ skX8_9 t u : Skel).set t (12, 0, [.int 0, .int 0, .int 0, .long 0, .ref (t + 1), .ref (t + 2), .ref (t + 3), .ref (t + 4), .ref (t + 5), .null, .null, .null, .int 0]) = pre ++ skX8_10 t u := by rw [ap_set0 ht]; rfl
  have hsc14 : scs (t + 6) (pre ++ skX8_10 t u) := scs_putR (b := t) (j := 8) (r := (t + 5)) hsc13 (by rw [ap_get0 ht]; rfl) (by omega) es14
  have hsc15 : scs (t + 7) (pre ++ skX8_11 t u) := scs_new hsc14 (by omega) (by simp) ap_push
  have es16 : (pre ++ skX8_11 t u : Skel).set t (12, 0, [.int 0, .int 0, .int 0, .long 0, .ref (t + 1), .ref (t + 2), .ref (t + 3), .ref (t + 4), .ref (t + 5), .ref (t + 6), .null, .null, .int 0]) = pre ++ skX8_12 t u := by rw [ap_set0 ht]; rfl
  have hsc16 : scs (t + 7) (pre ++ skX8_12 t u) := scs_putR (b := t) (j := 9) (r := (t + 6)) hsc15 (by rw [ap_get0 ht]; rfl) (by omega) es16
  have hsc17 : scs (t + 8) (pre ++ skX8_13 t u) := scs_new hsc16 (by omega) (by simp) ap_push
  have es18 : (pre ++ skX8_13 t u : Skel).set t (12, 0, [.int 0, .int 0, .int 0, .long 0, .ref (t + 1), .ref (t + 2), .ref (t + 3), .ref (t + 4), .ref (t + 5), .ref (t + 6), .null, .ref (t + 7), .int 0]) = pre ++ skX8_14 t u := by rw [ap_set0 ht]; rfl
  have hsc18 : scs (t + 8) (pre ++ skX8_14 t u) := scs_putR (b := t) (j := 11) (r := (t + 7)) hsc17 (by rw [ap_get0 ht]; rfl) (by omega) es18
  have es20 : (pre ++ skX8_14 t u : Skel).set t (12, 0, [.int 0, .int 0, .int 0, .long 0, .ref (t + 1), .ref (t + 2), .ref (t + 3), .ref (t + 4), .ref (t + 5), .ref (t + 6), .ref u, .ref (t + 7), .int 0]) = pre ++ skX8_15 t u := by rw [ap_set0 ht]; rfl
  have hsc20 : scs (t + 8) (pre ++ skX8_15 t u) := scs_putR (b := t) (j := 10) (r := u) hsc18 (by rw [ap_get0 ht]; rfl) (by omega) es20
  exact hsc20

set_option maxHeartbeats 4000000 in
set_option maxRecDepth 100000 in
theorem ci_X8_init {pre : Skel} {t : Nat} {S : Mem} {u : Nat} (ht : pre.length = t) (hz : Zf S (t + 1)) (hsc : scs (t + 1) (pre ++ bl_X8_init)) (h1000 : t + 8 < 1000) (hu : u < t + 1) : MetC yX8_init cX8_init 2 1 7 47 [.ref t, .ref u] (pre ++ bl_X8_init) S (pre ++ fin_X8_init t u) (iS_X8_init t S) := by
  have hpl : (pre ++ bl_X8_init).length = t + 1 := ap_len ht
  refine MetC.intro (by decide +kernel) rfl (Nat.le_of_ble_eq_true rfl) (fun X loc hX hI hQ => ?_)
  rw [hpl] at hQ
  show AW X (pre ++ skX8_0 t u) loc 0 0 0 [(0, .ref t), (1, .ref u)] [] S
  have hz0 : Zf S (t + 1) := hz
  have hsc0 : scs (t + 1) (pre ++ skX8_0 t u) := hsc
  have ag0 : Ag (t + 1) loc loc := Ag.rf
  refine aw_aload_n (pc := 0) hX dX8_init_0 rfl 0 rfl ?_
  refine aw_objI (pc := 1) hX kw_1_235 kw_1_29 kw_1_30 (by decide) (Nat.le_of_ble_eq_true rfl) dX8_init_1 ?_
  refine aw_aload_n (pc := 4) hX dX8_init_4 rfl 0 rfl ?_
  refine aw_iconst (v := (0 : Int32)) (pc := 5) hX dX8_init_5 (by decide) ?_
  refine pf_X8_9 (pc := 6) hX (by rw [ap_get0 ht]; rfl) rfl dX8_init_6 ?_
  have hz1 : Zf (sI S t 0 (0 : Int32)) (t + 1) := Zf.sI hz0 (by omega)
  refine aw_aload_n (pc := 9) hX dX8_init_9 rfl 0 rfl ?_
  refine aw_iconst (v := (0 : Int32)) (pc := 10) hX dX8_init_10 (by decide) ?_
  refine pf_X8_15 (pc := 11) hX (by rw [ap_get0 ht]; rfl) rfl dX8_init_11 ?_
  have hz2 : Zf (sI (sI S t 0 (0 : Int32)) t 1 (0 : Int32)) (t + 1) := Zf.sI hz1 (by omega)
  refine aw_aload_n (pc := 14) hX dX8_init_14 rfl 0 rfl ?_
  refine aw_iconst (v := (0 : Int32)) (pc := 15) hX dX8_init_15 (by decide) ?_
  refine pf_X8_18 (pc := 16) hX (by rw [ap_get0 ht]; rfl) rfl dX8_init_16 ?_
  have hz3 : Zf (sI (sI (sI S t 0 (0 : Int32)) t 1 (0 : Int32)) t 2 (0 : Int32)) (t + 1) := Zf.sI hz2 (by omega)
  refine aw_aload_n (pc := 19) hX dX8_init_19 rfl 0 rfl ?_
  refine aw_lconst (v := (0 : Int64)) (pc := 20) hX dX8_init_20 (by decide) ?_
  refine pf_X8_21 (pc := 21) hX (by rw [ap_get0 ht]; rfl) rfl dX8_init_21 ?_
  have hz4 : Zf (sL (sI (sI (sI S t 0 (0 : Int32)) t 1 (0 : Int32)) t 2 (0 : Int32)) t 3 (0 : Int64)) (t + 1) := Zf.sL hz3 (by omega)
  refine aw_aload_n (pc := 24) hX dX8_init_24 rfl 0 rfl ?_
  refine aw_bipush (v := (10 : Int32)) (pc := 25) hX dX8_init_25 (by decide) ?_
  have hsc5 : scs (t + 2) (pre ++ skX8_1 t u) := scs_new hsc0 (by omega) (by simp) ap_push
  refine aw_newA' (pc := 27) hX (N0 := t + 1) (by rw [ap_len ht]; rfl) (sk' := pre ++ skX8_1 t u) (at' := .int) (ty := .int) (kd := 0) (N := 10) rfl (by decide) kw_1_46 (by decide) (by decide) (by decide) hz4 hsc0 (scl_cons (scv_ref (Or.inl (by omega))) (scl_cons (scv_ref (Or.inl (by omega))) scl_nil)) (scl_cons (scv_ref (Or.inl (by omega))) scl_nil) (by omega) (by omega) (by omega) dX8_init_27 ap_push (fun loc5 ag5 hX5 => ?_)
  have ag5' := ag0.tr ag5 (by omega)
  have hz5 : Zf (sL (sI (sI (sI S t 0 (0 : Int32)) t 1 (0 : Int32)) t 2 (0 : Int32)) t 3 (0 : Int64)) (t + 2) := Zf.mono hz4 (by omega)
  have es6 : (pre ++ skX8_1 t u : Skel).set t (12, 0, [.int 0, .int 0, .int 0, .long 0, .ref (t + 1), .null, .null, .null, .null, .null, .null, .null, .int 0]) = pre ++ skX8_2 t u := by rw [ap_set0 ht]; rfl
  have hsc6 : scs (t + 2) (pre ++ skX8_2 t u) := scs_putR (b := t) (j := 4) (r := (t + 1)) hsc5 (by rw [ap_get0 ht]; rfl) (by omega) es6
  refine pr_X8_25 (pc := 29) hX5 hI (by rw [ap_get0 ht]; rfl) (Nat.le_of_ble_eq_true rfl) es6 dX8_init_29 ?_
  refine aw_aload_n (pc := 32) hX5 dX8_init_32 rfl 0 rfl ?_
  refine aw_bipush (v := (10 : Int32)) (pc := 33) hX5 dX8_init_33 (by decide) ?_
  have hsc7 : scs (t + 3) (pre ++ skX8_3 t u) := scs_new hsc6 (by omega) (by simp) ap_push
  refine aw_newA' (pc := 35) hX5 (N0 := t + 2) (by rw [ap_len ht]; rfl) (sk' := pre ++ skX8_3 t u) (at' := .int) (ty := .int) (kd := 0) (N := 10) rfl (by decide) kw_1_46 (by decide) (by decide) (by decide) hz5 hsc6 (scl_cons (scv_ref (Or.inl (by omega))) (scl_cons (scv_ref (Or.inl (by omega))) scl_nil)) (scl_cons (scv_ref (Or.inl (by omega))) scl_nil) (by omega) (by omega) (by omega) dX8_init_35 ap_push (fun loc7 ag7 hX7 => ?_)
  have ag7' := ag5'.tr ag7 (by omega)
  have hz7 : Zf (sL (sI (sI (sI S t 0 (0 : Int32)) t 1 (0 : Int32)) t 2 (0 : Int32)) t 3 (0 : Int64)) (t + 3) := Zf.mono hz5 (by omega)
  have es8 : (pre ++ skX8_3 t u : Skel).set t (12, 0, [.int 0, .int 0, .int 0, .long 0, .ref (t + 1), .ref (t + 2), .null, .null, .null, .null, .null, .null, .int 0]) = pre ++ skX8_4 t u := by rw [ap_set0 ht]; rfl
  have hsc8 : scs (t + 3) (pre ++ skX8_4 t u) := scs_putR (b := t) (j := 5) (r := (t + 2)) hsc7 (by rw [ap_get0 ht]; rfl) (by omega) es8
  refine pr_X8_29 (pc := 37) hX7 hI (by rw [ap_get0 ht]; rfl) (Nat.le_of_ble_eq_true rfl) es8 dX8_init_37 ?_
  refine aw_aload_n (pc := 40) hX7 dX8_init_40 rfl 0 rfl ?_
  refine aw_bipush (v := (10 : Int32)) (pc := 41) hX7 dX8_init_41 (by decide) ?_
  have hsc9 : scs (t + 4) (pre ++ skX8_5 t u) := scs_new hsc8 (by omega) (by simp) ap_push
  refine aw_newA' (pc := 43) hX7 (N0 := t + 3) (by rw [ap_len ht]; rfl) (sk' := pre ++ skX8_5 t u) (at' := .int) (ty := .int) (kd := 0) (N := 10) rfl (by decide) kw_1_46 (by decide) (by decide) (by decide) hz7 hsc8 (scl_cons (scv_ref (Or.inl (by omega))) (scl_cons (scv_ref (Or.inl (by omega))) scl_nil)) (scl_cons (scv_ref (Or.inl (by omega))) scl_nil) (by omega) (by omega) (by omega) dX8_init_43 ap_push (fun loc9 ag9 hX9 => ?_)
  have ag9' := ag7'.tr ag9 (by omega)
  have hz9 : Zf (sL (sI (sI (sI S t 0 (0 : Int32)) t 1 (0 : Int32)) t 2 (0 : Int32)) t 3 (0 : Int64)) (t + 4) := Zf.mono hz7 (by omega)
  have es10 : (pre ++ skX8_5 t u : Skel).set t (12, 0, [.int 0, .int 0, .int 0, .long 0, .ref (t + 1), .ref (t + 2), .ref (t + 3), .null, .null, .null, .null, .null, .int 0]) = pre ++ skX8_6 t u := by rw [ap_set0 ht]; rfl
  have hsc10 : scs (t + 4) (pre ++ skX8_6 t u) := scs_putR (b := t) (j := 6) (r := (t + 3)) hsc9 (by rw [ap_get0 ht]; rfl) (by omega) es10
  refine pr_X8_32 (pc := 45) hX9 hI (by rw [ap_get0 ht]; rfl) (Nat.le_of_ble_eq_true rfl) es10 dX8_init_45 ?_
  refine aw_aload_n (pc := 48) hX9 dX8_init_48 rfl 0 rfl ?_
  refine aw_bipush (v := (6 : Int32)) (pc := 49) hX9 dX8_init_49 (by decide) ?_
  have hsc11 : scs (t + 5) (pre ++ skX8_7 t u) := scs_new hsc10 (by omega) (by simp) ap_push
  refine aw_newA' (pc := 51) hX9 (N0 := t + 4) (by rw [ap_len ht]; rfl) (sk' := pre ++ skX8_7 t u) (at' := .int) (ty := .int) (kd := 0) (N := 6) rfl (by decide) kw_1_46 (by decide) (by decide) (by decide) hz9 hsc10 (scl_cons (scv_ref (Or.inl (by omega))) (scl_cons (scv_ref (Or.inl (by omega))) scl_nil)) (scl_cons (scv_ref (Or.inl (by omega))) scl_nil) (by omega) (by omega) (by omega) dX8_init_51 ap_push (fun loc11 ag11 hX11 => ?_)
  have ag11' := ag9'.tr ag11 (by omega)
  have hz11 : Zf (sL (sI (sI (sI S t 0 (0 : Int32)) t 1 (0 : Int32)) t 2 (0 : Int32)) t 3 (0 : Int64)) (t + 5) := Zf.mono hz9 (by omega)
  have es12 : (pre ++ skX8_7 t u : Skel).set t (12, 0, [.int 0, .int 0, .int 0, .long 0, .ref (t + 1), .ref (t + 2), .ref (t + 3), .ref (t + 4), .null, .null, .null, .null, .int 0]) = pre ++ skX8_8 t u := by rw [ap_set0 ht]; rfl
  have hsc12 : scs (t + 5) (pre ++ skX8_8 t u) := scs_putR (b := t) (j := 7) (r := (t + 4)) hsc11 (by rw [ap_get0 ht]; rfl) (by omega) es12
  refine pr_X8_35 (pc := 53) hX11 hI (by rw [ap_get0 ht]; rfl) (Nat.le_of_ble_eq_true rfl) es12 dX8_init_53 ?_
  refine aw_aload_n (pc := 56) hX11 dX8_init_56 rfl 0 rfl ?_
  refine aw_iconst (v := (2 : Int32)) (pc := 57) hX11 dX8_init_57 (by decide) ?_
  have hsc13 : scs (t + 6) (pre ++ skX8_9 t u) := scs_new hsc12 (by omega) (by simp) ap_push
  refine aw_newA' (pc := 58) hX11 (N0 := t + 5) (by rw [ap_len ht]; rfl) (sk' := pre ++ skX8_9 t u) (at' := .int) (ty := .int) (kd := 0) (N := 2) rfl (by decide) kw_1_46 (by decide) (by decide) (by decide) hz11 hsc12 (scl_cons (scv_ref (Or.inl (by omega))) (scl_cons (scv_ref (Or.inl (by omega))) scl_nil)) (scl_cons (scv_ref (Or.inl (by omega))) scl_nil) (by omega) (by omega) (by omega) dX8_init_58 ap_push (fun loc13 ag13 hX13 => ?_)
  have ag13' := ag11'.tr ag13 (by omega)
  have hz13 : Zf (sL (sI (sI (sI S t 0 (0 : Int32)) t 1 (0 : Int32)) t 2 (0 : Int32)) t 3 (0 : Int64)) (t + 6) := Zf.mono hz11 (by omega)
  have es14 : (pre ++ skX8_9 t u : Skel).set t (12, 0, [.int 0, .int 0, .int 0, .long 0, .ref (t + 1), .ref (t + 2), .ref (t + 3), .ref (t + 4), .ref (t + 5), .null, .null, .null, .int 0]) = pre ++ skX8_10 t u := by rw [ap_set0 ht]; rfl
  have hsc14 : scs (t + 6) (pre ++ skX8_10 t u) := scs_putR (b := t) (j := 8) (r := (t + 5)) hsc13 (by rw [ap_get0 ht]; rfl) (by omega) es14
  refine pr_X8_38 (pc := 60) hX13 hI (by rw [ap_get0 ht]; rfl) (Nat.le_of_ble_eq_true rfl) es14 dX8_init_60 ?_
  refine aw_aload_n (pc := 63) hX13 dX8_init_63 rfl 0 rfl ?_
  refine aw_iconst (v := (2 : Int32)) (pc := 64) hX13 dX8_init_64 (by decide) ?_
  have hsc15 : scs (t + 7) (pre ++ skX8_11 t u) := scs_new hsc14 (by omega) (by simp) ap_push
  refine aw_newA' (pc := 65) hX13 (N0 := t + 6) (by rw [ap_len ht]; rfl) (sk' := pre ++ skX8_11 t u) (at' := .int) (ty := .int) (kd := 0) (N := 2) rfl (by decide) kw_1_46 (by decide) (by decide) (by decide) hz13 hsc14 (scl_cons (scv_ref (Or.inl (by omega))) (scl_cons (scv_ref (Or.inl (by omega))) scl_nil)) (scl_cons (scv_ref (Or.inl (by omega))) scl_nil) (by omega) (by omega) (by omega) dX8_init_65 ap_push (fun loc15 ag15 hX15 => ?_)
  have ag15' := ag13'.tr ag15 (by omega)
  have hz15 : Zf (sL (sI (sI (sI S t 0 (0 : Int32)) t 1 (0 : Int32)) t 2 (0 : Int32)) t 3 (0 : Int64)) (t + 7) := Zf.mono hz13 (by omega)
  have es16 : (pre ++ skX8_11 t u : Skel).set t (12, 0, [.int 0, .int 0, .int 0, .long 0, .ref (t + 1), .ref (t + 2), .ref (t + 3), .ref (t + 4), .ref (t + 5), .ref (t + 6), .null, .null, .int 0]) = pre ++ skX8_12 t u := by rw [ap_set0 ht]; rfl
  have hsc16 : scs (t + 7) (pre ++ skX8_12 t u) := scs_putR (b := t) (j := 9) (r := (t + 6)) hsc15 (by rw [ap_get0 ht]; rfl) (by omega) es16
  refine pr_X8_41 (pc := 67) hX15 hI (by rw [ap_get0 ht]; rfl) (Nat.le_of_ble_eq_true rfl) es16 dX8_init_67 ?_
  refine aw_aload_n (pc := 70) hX15 dX8_init_70 rfl 0 rfl ?_
  refine aw_bipush (v := (7 : Int32)) (pc := 71) hX15 dX8_init_71 (by decide) ?_
  have hsc17 : scs (t + 8) (pre ++ skX8_13 t u) := scs_new hsc16 (by omega) (by simp) ap_push
  refine aw_newA' (pc := 73) hX15 (N0 := t + 7) (by rw [ap_len ht]; rfl) (sk' := pre ++ skX8_13 t u) (at' := .int) (ty := .int) (kd := 0) (N := 7) rfl (by decide) kw_1_46 (by decide) (by decide) (by decide) hz15 hsc16 (scl_cons (scv_ref (Or.inl (by omega))) (scl_cons (scv_ref (Or.inl (by omega))) scl_nil)) (scl_cons (scv_ref (Or.inl (by omega))) scl_nil) (by omega) (by omega) (by omega) dX8_init_73 ap_push (fun loc17 ag17 hX17 => ?_)
  have ag17' := ag15'.tr ag17 (by omega)
  have hz17 : Zf (sL (sI (sI (sI S t 0 (0 : Int32)) t 1 (0 : Int32)) t 2 (0 : Int32)) t 3 (0 : Int64)) (t + 8) := Zf.mono hz15 (by omega)
  have es18 : (pre ++ skX8_13 t u : Skel).set t (12, 0, [.int 0, .int 0, .int 0, .long 0, .ref (t + 1), .ref (t + 2), .ref (t + 3), .ref (t + 4), .ref (t + 5), .ref (t + 6), .null, .ref (t + 7), .int 0]) = pre ++ skX8_14 t u := by rw [ap_set0 ht]; rfl
  have hsc18 : scs (t + 8) (pre ++ skX8_14 t u) := scs_putR (b := t) (j := 11) (r := (t + 7)) hsc17 (by rw [ap_get0 ht]; rfl) (by omega) es18
  refine pr_X8_44 (pc := 75) hX17 hI (by rw [ap_get0 ht]; rfl) (Nat.le_of_ble_eq_true rfl) es18 dX8_init_75 ?_
  refine aw_aload_n (pc := 78) hX17 dX8_init_78 rfl 0 rfl ?_
  refine aw_iconst (v := (0 : Int32)) (pc := 79) hX17 dX8_init_79 (by decide) ?_
  refine pf_X8_47 (pc := 80) hX17 (by rw [ap_get0 ht]; rfl) rfl dX8_init_80 ?_
  have hz19 : Zf (sI (sL (sI (sI (sI S t 0 (0 : Int32)) t 1 (0 : Int32)) t 2 (0 : Int32)) t 3 (0 : Int64)) t 12 (0 : Int32)) (t + 8) := Zf.sI hz17 (by omega)
  refine aw_aload_n (pc := 83) hX17 dX8_init_83 rfl 0 rfl ?_
  refine aw_aload_n (pc := 84) hX17 dX8_init_84 rfl 1 rfl ?_
  have es20 : (pre ++ skX8_14 t u : Skel).set t (12, 0, [.int 0, .int 0, .int 0, .long 0, .ref (t + 1), .ref (t + 2), .ref (t + 3), .ref (t + 4), .ref (t + 5), .ref (t + 6), .ref u, .ref (t + 7), .int 0]) = pre ++ skX8_15 t u := by rw [ap_set0 ht]; rfl
  have hsc20 : scs (t + 8) (pre ++ skX8_15 t u) := scs_putR (b := t) (j := 10) (r := u) hsc18 (by rw [ap_get0 ht]; rfl) (by omega) es20
  refine pr_X8_50 (pc := 85) hX17 hI (by rw [ap_get0 ht]; rfl) (Nat.le_of_ble_eq_true rfl) es20 dX8_init_85 ?_
  exact aw_vretC hX17 hQ ag17' rfl rfl dX8_init_88

def skX2_0 (t : Nat) : Skel := [(6, 0, [.int 0, .int 0, .null, .null, .null, .null, .null, .null])]

def skX2_1 (t : Nat) : Skel := [(6, 0, [.int 0, .int 0, .null, .null, .null, .null, .null, .null]), (0, 24, [])]

def skX2_2 (t : Nat) : Skel := [(6, 0, [.int 0, .int 0, .ref (t + 1), .null, .null, .null, .null, .null]), (0, 24, [])]

def skX2_3 (t : Nat) : Skel := [(6, 0, [.int 0, .int 0, .ref (t + 1), .null, .null, .null, .null, .null]), (0, 24, []), (0, 24, [])]

def skX2_4 (t : Nat) : Skel := [(6, 0, [.int 0, .int 0, .ref (t + 1), .ref (t + 2), .null, .null, .null, .null]), (0, 24, []), (0, 24, [])]

def skX2_5 (t : Nat) : Skel := [(6, 0, [.int 0, .int 0, .ref (t + 1), .ref (t + 2), .null, .null, .null, .null]), (0, 24, []), (0, 24, []), (0, 24, [])]

def skX2_6 (t : Nat) : Skel := [(6, 0, [.int 0, .int 0, .ref (t + 1), .ref (t + 2), .ref (t + 3), .null, .null, .null]), (0, 24, []), (0, 24, []), (0, 24, [])]

def skX2_7 (t : Nat) : Skel := [(6, 0, [.int 0, .int 0, .ref (t + 1), .ref (t + 2), .ref (t + 3), .null, .null, .null]), (0, 24, []), (0, 24, []), (0, 24, []), (0, 24, [])]

def skX2_8 (t : Nat) : Skel := [(6, 0, [.int 0, .int 0, .ref (t + 1), .ref (t + 2), .ref (t + 3), .ref (t + 4), .null, .null]), (0, 24, []), (0, 24, []), (0, 24, []), (0, 24, [])]

def skX2_9 (t : Nat) : Skel := [(6, 0, [.int 0, .int 0, .ref (t + 1), .ref (t + 2), .ref (t + 3), .ref (t + 4), .null, .null]), (0, 24, []), (0, 24, []), (0, 24, []), (0, 24, []), (1, 24, [])]

def skX2_10 (t : Nat) : Skel := [(6, 0, [.int 0, .int 0, .ref (t + 1), .ref (t + 2), .ref (t + 3), .ref (t + 4), .ref (t + 5), .null]), (0, 24, []), (0, 24, []), (0, 24, []), (0, 24, []), (1, 24, [])]

def skX2_11 (t : Nat) : Skel := [(6, 0, [.int 0, .int 0, .ref (t + 1), .ref (t + 2), .ref (t + 3), .ref (t + 4), .ref (t + 5), .null]), (0, 24, []), (0, 24, []), (0, 24, []), (0, 24, []), (1, 24, []), (1, 24, [])]

def skX2_12 (t : Nat) : Skel := [(6, 0, [.int 0, .int 0, .ref (t + 1), .ref (t + 2), .ref (t + 3), .ref (t + 4), .ref (t + 5), .ref (t + 6)]), (0, 24, []), (0, 24, []), (0, 24, []), (0, 24, []), (1, 24, []), (1, 24, [])]

def bl_X2_init : Skel := [(6, 0, [.int 0, .int 0, .null, .null, .null, .null, .null, .null])]

def fin_X2_init (t : Nat) : Skel := [(6, 0, [.int 0, .int 0, .ref (t + 1), .ref (t + 2), .ref (t + 3), .ref (t + 4), .ref (t + 5), .ref (t + 6)]), (0, 24, []), (0, 24, []), (0, 24, []), (0, 24, []), (1, 24, []), (1, 24, [])]

def iS_X2_init (t : Nat) (S : Mem) : Mem := (sI (sI S t 0 (0 : Int32)) t 1 (-1 : Int32))

theorem cz_X2_init {t : Nat} {S : Mem} (hz : Zf S (t + 1)) : Zf (iS_X2_init t S) (t + 7) := by
  have hz0 : Zf S (t + 1) := hz
  have hz1 : Zf (sI S t 0 (0 : Int32)) (t + 1) := Zf.sI hz0 (by omega)
  have hz2 : Zf (sI (sI S t 0 (0 : Int32)) t 1 (-1 : Int32)) (t + 1) := Zf.sI hz1 (by omega)
  have hz3 : Zf (sI (sI S t 0 (0 : Int32)) t 1 (-1 : Int32)) (t + 2) := Zf.mono hz2 (by omega)
  have hz5 : Zf (sI (sI S t 0 (0 : Int32)) t 1 (-1 : Int32)) (t + 3) := Zf.mono hz3 (by omega)
  have hz7 : Zf (sI (sI S t 0 (0 : Int32)) t 1 (-1 : Int32)) (t + 4) := Zf.mono hz5 (by omega)
  have hz9 : Zf (sI (sI S t 0 (0 : Int32)) t 1 (-1 : Int32)) (t + 5) := Zf.mono hz7 (by omega)
  have hz11 : Zf (sI (sI S t 0 (0 : Int32)) t 1 (-1 : Int32)) (t + 6) := Zf.mono hz9 (by omega)
  have hz13 : Zf (sI (sI S t 0 (0 : Int32)) t 1 (-1 : Int32)) (t + 7) := Zf.mono hz11 (by omega)
  exact hz13

set_option maxHeartbeats 4000000 in
set_option maxRecDepth 100000 in
theorem cs_X2_init {pre : Skel} {t : Nat} (ht : pre.length = t) (hsc : scs (t + 1) (pre ++ bl_X2_init)) : scs (t + 7) (pre ++ fin_X2_init t) := by
  have hsc0 : scs (t + 1) (pre ++ skX2_0 t) := hsc
  have hsc3 : scs (t + 2) (pre ++ skX2_1 t) := scs_new hsc0 (by omega) (by simp) ap_push
  have es4 : (pre ++ skX2_1 t : Skel).set t (6, 0, [.int 0, .int 0, .ref (t + 1), .null, .null, .null, .null, .null]) = pre ++ skX2_2 t := by rw [ap_set0 ht]; rfl
  have hsc4 : scs (t + 2) (pre ++ skX2_2 t) := scs_putR (b := t) (j := 2) (r := (t + 1)) hsc3 (by rw [ap_get0 ht]; rfl) (by omega) es4
  have hsc5 : scs (t + 3) (pre ++ skX2_3 t) := scs_new hsc4 (by omega) (by simp) ap_push
  have es6 : (pre ++ skX2_3 t : Skel).set t (6, 0, [.int 0, .int 0, .ref (t + 1), .ref (t + 2), .null, .null, .null, .null]) = pre ++ skX2_4 t := by rw [ap_set0 ht]; rfl
  have hsc6 : scs (t + 3) (pre ++ skX2_4 t) := scs_putR (b := t) (j := 3) (r := (t + 2)) hsc5 (by rw [ap_get0 ht]; rfl) (by omega) es6
  have hsc7 : scs (t + 4) (pre ++ skX2_5 t) := scs_new hsc6 (by omega) (by simp) ap_push
  have es8 : (pre ++ skX2_5 t : Skel).set t (6, 0, [.int 0, .int 0, .ref (t + 1), .ref (t + 2), .ref (t + 3), .null, .null, .null]) = pre ++ skX2_6 t := by rw [ap_set0 ht]; rfl
  have hsc8 : scs (t + 4) (pre ++ skX2_6 t) := scs_putR (b := t) (j := 4) (r := (t + 3)) hsc7 (by rw [ap_get0 ht]; rfl) (by omega) es8
  have hsc9 : scs (t + 5) (pre ++ skX2_7 t) := scs_new hsc8 (by omega) (by simp) ap_push
  have es10 : (pre ++ skX2_7 t : Skel).set t (6, 0, [.int 0, .int 0, .ref (t + 1), .ref (t + 2), .ref (t + 3), .ref (t + 4), .null, .null]) = pre ++ skX2_8 t := by rw [ap_set0 ht]; rfl
  have hsc10 : scs (t + 5) (pre ++ skX2_8 t) := scs_putR (b := t) (j := 5) (r := (t + 4)) hsc9 (by rw [ap_get0 ht]; rfl) (by omega) es10
  have hsc11 : scs (t + 6) (pre ++ skX2_9 t) := scs_new hsc10 (by omega) (by simp) ap_push
  have es12 : (pre ++ skX2_9 t : Skel).set t (6, 0, [.int 0, .int 0, .ref (t + 1), .ref (t + 2), .ref (t + 3), .ref (t + 4), .ref (t + 5), .null]) = pre ++ skX2_10 t := by rw [ap_set0 ht]; rfl
  have hsc12 : scs (t + 6) (pre ++ skX2_10 t) := scs_putR (b := t) (j := 6) (r := (t + 5)) hsc11 (by rw [ap_get0 ht]; rfl) (by omega) es12
  have hsc13 : scs (t + 7) (pre ++ skX2_11 t) := scs_new hsc12 (by omega) (by simp) ap_push
  have es14 : (pre ++ skX2_11 t : Skel).set t (6, 0, [.int 0, .int 0, .ref (t + 1), .ref (t + 2), .ref (t + 3), .ref (t + 4), .ref (t + 5), .ref (t + 6)]) = pre ++ skX2_12 t := by rw [ap_set0 ht]; rfl
  have hsc14 : scs (t + 7) (pre ++ skX2_12 t) := scs_putR (b := t) (j := 7) (r := (t + 6)) hsc13 (by rw [ap_get0 ht]; rfl) (by omega) es14
  exact hsc14

set_option maxHeartbeats 4000000 in
set_option maxRecDepth 100000 in
theorem ci_X2_init {pre : Skel} {t : Nat} {S : Mem} (ht : pre.length = t) (hz : Zf S (t + 1)) (hsc : scs (t + 1) (pre ++ bl_X2_init)) (h1000 : t + 7 < 1000) : MetC yX2_init cX2_init 1 1 6 144 [.ref t] (pre ++ bl_X2_init) S (pre ++ fin_X2_init t) (iS_X2_init t S) := by
  have hpl : (pre ++ bl_X2_init).length = t + 1 := ap_len ht
  refine MetC.intro (by decide +kernel) rfl (Nat.le_of_ble_eq_true rfl) (fun X loc hX hI hQ => ?_)
  rw [hpl] at hQ
  show AW X (pre ++ skX2_0 t) loc 0 0 0 [(0, .ref t)] [] S
  have hz0 : Zf S (t + 1) := hz
  have hsc0 : scs (t + 1) (pre ++ skX2_0 t) := hsc
  have ag0 : Ag (t + 1) loc loc := Ag.rf
  refine aw_aload_n (pc := 0) hX dX2_init_0 rfl 0 rfl ?_
  refine aw_objI (pc := 1) hX kw_2_58 kw_1_29 kw_1_30 (by decide) (Nat.le_of_ble_eq_true rfl) dX2_init_1 ?_
  refine aw_aload_n (pc := 4) hX dX2_init_4 rfl 0 rfl ?_
  refine aw_iconst (v := (0 : Int32)) (pc := 5) hX dX2_init_5 (by decide) ?_
  refine pf_X2_9 (pc := 6) hX (by rw [ap_get0 ht]; rfl) rfl dX2_init_6 ?_
  have hz1 : Zf (sI S t 0 (0 : Int32)) (t + 1) := Zf.sI hz0 (by omega)
  refine aw_aload_n (pc := 9) hX dX2_init_9 rfl 0 rfl ?_
  refine aw_iconst (v := (-1 : Int32)) (pc := 10) hX dX2_init_10 (by decide) ?_
  refine pf_X2_15 (pc := 11) hX (by rw [ap_get0 ht]; rfl) rfl dX2_init_11 ?_
  have hz2 : Zf (sI (sI S t 0 (0 : Int32)) t 1 (-1 : Int32)) (t + 1) := Zf.sI hz1 (by omega)
  refine aw_aload_n (pc := 14) hX dX2_init_14 rfl 0 rfl ?_
  refine aw_bipush (v := (24 : Int32)) (pc := 15) hX dX2_init_15 (by decide) ?_
  have hsc3 : scs (t + 2) (pre ++ skX2_1 t) := scs_new hsc0 (by omega) (by simp) ap_push
  refine aw_newA' (pc := 17) hX (N0 := t + 1) (by rw [ap_len ht]; rfl) (sk' := pre ++ skX2_1 t) (at' := .int) (ty := .int) (kd := 0) (N := 24) rfl (by decide) kw_1_46 (by decide) (by decide) (by decide) hz2 hsc0 (scl_cons (scv_ref (Or.inl (by omega))) scl_nil) (scl_cons (scv_ref (Or.inl (by omega))) scl_nil) (by omega) (by omega) (by omega) dX2_init_17 ap_push (fun loc3 ag3 hX3 => ?_)
  have ag3' := ag0.tr ag3 (by omega)
  have hz3 : Zf (sI (sI S t 0 (0 : Int32)) t 1 (-1 : Int32)) (t + 2) := Zf.mono hz2 (by omega)
  have es4 : (pre ++ skX2_1 t : Skel).set t (6, 0, [.int 0, .int 0, .ref (t + 1), .null, .null, .null, .null, .null]) = pre ++ skX2_2 t := by rw [ap_set0 ht]; rfl
  have hsc4 : scs (t + 2) (pre ++ skX2_2 t) := scs_putR (b := t) (j := 2) (r := (t + 1)) hsc3 (by rw [ap_get0 ht]; rfl) (by omega) es4
  refine pr_X2_18 (pc := 19) hX3 hI (by rw [ap_get0 ht]; rfl) (Nat.le_of_ble_eq_true rfl) es4 dX2_init_19 ?_
  refine aw_aload_n (pc := 22) hX3 dX2_init_22 rfl 0 rfl ?_
  refine aw_bipush (v := (24 : Int32)) (pc := 23) hX3 dX2_init_23 (by decide) ?_
  have hsc5 : scs (t + 3) (pre ++ skX2_3 t) := scs_new hsc4 (by omega) (by simp) ap_push
  refine aw_newA' (pc := 25) hX3 (N0 := t + 2) (by rw [ap_len ht]; rfl) (sk' := pre ++ skX2_3 t) (at' := .int) (ty := .int) (kd := 0) (N := 24) rfl (by decide) kw_1_46 (by decide) (by decide) (by decide) hz3 hsc4 (scl_cons (scv_ref (Or.inl (by omega))) scl_nil) (scl_cons (scv_ref (Or.inl (by omega))) scl_nil) (by omega) (by omega) (by omega) dX2_init_25 ap_push (fun loc5 ag5 hX5 => ?_)
  have ag5' := ag3'.tr ag5 (by omega)
  have hz5 : Zf (sI (sI S t 0 (0 : Int32)) t 1 (-1 : Int32)) (t + 3) := Zf.mono hz3 (by omega)
  have es6 : (pre ++ skX2_3 t : Skel).set t (6, 0, [.int 0, .int 0, .ref (t + 1), .ref (t + 2), .null, .null, .null, .null]) = pre ++ skX2_4 t := by rw [ap_set0 ht]; rfl
  have hsc6 : scs (t + 3) (pre ++ skX2_4 t) := scs_putR (b := t) (j := 3) (r := (t + 2)) hsc5 (by rw [ap_get0 ht]; rfl) (by omega) es6
  refine pr_X2_22 (pc := 27) hX5 hI (by rw [ap_get0 ht]; rfl) (Nat.le_of_ble_eq_true rfl) es6 dX2_init_27 ?_
  refine aw_aload_n (pc := 30) hX5 dX2_init_30 rfl 0 rfl ?_
  refine aw_bipush (v := (24 : Int32)) (pc := 31) hX5 dX2_init_31 (by decide) ?_
  have hsc7 : scs (t + 4) (pre ++ skX2_5 t) := scs_new hsc6 (by omega) (by simp) ap_push
  refine aw_newA' (pc := 33) hX5 (N0 := t + 3) (by rw [ap_len ht]; rfl) (sk' := pre ++ skX2_5 t) (at' := .int) (ty := .int) (kd := 0) (N := 24) rfl (by decide) kw_1_46 (by decide) (by decide) (by decide) hz5 hsc6 (scl_cons (scv_ref (Or.inl (by omega))) scl_nil) (scl_cons (scv_ref (Or.inl (by omega))) scl_nil) (by omega) (by omega) (by omega) dX2_init_33 ap_push (fun loc7 ag7 hX7 => ?_)
  have ag7' := ag5'.tr ag7 (by omega)
  have hz7 : Zf (sI (sI S t 0 (0 : Int32)) t 1 (-1 : Int32)) (t + 4) := Zf.mono hz5 (by omega)
  have es8 : (pre ++ skX2_5 t : Skel).set t (6, 0, [.int 0, .int 0, .ref (t + 1), .ref (t + 2), .ref (t + 3), .null, .null, .null]) = pre ++ skX2_6 t := by rw [ap_set0 ht]; rfl
  have hsc8 : scs (t + 4) (pre ++ skX2_6 t) := scs_putR (b := t) (j := 4) (r := (t + 3)) hsc7 (by rw [ap_get0 ht]; rfl) (by omega) es8
  refine pr_X2_25 (pc := 35) hX7 hI (by rw [ap_get0 ht]; rfl) (Nat.le_of_ble_eq_true rfl) es8 dX2_init_35 ?_
  refine aw_aload_n (pc := 38) hX7 dX2_init_38 rfl 0 rfl ?_
  refine aw_bipush (v := (24 : Int32)) (pc := 39) hX7 dX2_init_39 (by decide) ?_
  have hsc9 : scs (t + 5) (pre ++ skX2_7 t) := scs_new hsc8 (by omega) (by simp) ap_push
  refine aw_newA' (pc := 41) hX7 (N0 := t + 4) (by rw [ap_len ht]; rfl) (sk' := pre ++ skX2_7 t) (at' := .int) (ty := .int) (kd := 0) (N := 24) rfl (by decide) kw_1_46 (by decide) (by decide) (by decide) hz7 hsc8 (scl_cons (scv_ref (Or.inl (by omega))) scl_nil) (scl_cons (scv_ref (Or.inl (by omega))) scl_nil) (by omega) (by omega) (by omega) dX2_init_41 ap_push (fun loc9 ag9 hX9 => ?_)
  have ag9' := ag7'.tr ag9 (by omega)
  have hz9 : Zf (sI (sI S t 0 (0 : Int32)) t 1 (-1 : Int32)) (t + 5) := Zf.mono hz7 (by omega)
  have es10 : (pre ++ skX2_7 t : Skel).set t (6, 0, [.int 0, .int 0, .ref (t + 1), .ref (t + 2), .ref (t + 3), .ref (t + 4), .null, .null]) = pre ++ skX2_8 t := by rw [ap_set0 ht]; rfl
  have hsc10 : scs (t + 5) (pre ++ skX2_8 t) := scs_putR (b := t) (j := 5) (r := (t + 4)) hsc9 (by rw [ap_get0 ht]; rfl) (by omega) es10
  refine pr_X2_28 (pc := 43) hX9 hI (by rw [ap_get0 ht]; rfl) (Nat.le_of_ble_eq_true rfl) es10 dX2_init_43 ?_
  refine aw_aload_n (pc := 46) hX9 dX2_init_46 rfl 0 rfl ?_
  refine aw_bipush (v := (24 : Int32)) (pc := 47) hX9 dX2_init_47 (by decide) ?_
  have hsc11 : scs (t + 6) (pre ++ skX2_9 t) := scs_new hsc10 (by omega) (by simp) ap_push
  refine aw_newA' (pc := 49) hX9 (N0 := t + 5) (by rw [ap_len ht]; rfl) (sk' := pre ++ skX2_9 t) (at' := .boolean) (ty := .boolean) (kd := 1) (N := 24) rfl (by decide) kw_1_103 (by decide) (by decide) (by decide) hz9 hsc10 (scl_cons (scv_ref (Or.inl (by omega))) scl_nil) (scl_cons (scv_ref (Or.inl (by omega))) scl_nil) (by omega) (by omega) (by omega) dX2_init_49 ap_push (fun loc11 ag11 hX11 => ?_)
  have ag11' := ag9'.tr ag11 (by omega)
  have hz11 : Zf (sI (sI S t 0 (0 : Int32)) t 1 (-1 : Int32)) (t + 6) := Zf.mono hz9 (by omega)
  have es12 : (pre ++ skX2_9 t : Skel).set t (6, 0, [.int 0, .int 0, .ref (t + 1), .ref (t + 2), .ref (t + 3), .ref (t + 4), .ref (t + 5), .null]) = pre ++ skX2_10 t := by rw [ap_set0 ht]; rfl
  have hsc12 : scs (t + 6) (pre ++ skX2_10 t) := scs_putR (b := t) (j := 6) (r := (t + 5)) hsc11 (by rw [ap_get0 ht]; rfl) (by omega) es12
  refine pr_X2_31 (pc := 51) hX11 hI (by rw [ap_get0 ht]; rfl) (Nat.le_of_ble_eq_true rfl) es12 dX2_init_51 ?_
  refine aw_aload_n (pc := 54) hX11 dX2_init_54 rfl 0 rfl ?_
  refine aw_bipush (v := (24 : Int32)) (pc := 55) hX11 dX2_init_55 (by decide) ?_
  have hsc13 : scs (t + 7) (pre ++ skX2_11 t) := scs_new hsc12 (by omega) (by simp) ap_push
  refine aw_newA' (pc := 57) hX11 (N0 := t + 6) (by rw [ap_len ht]; rfl) (sk' := pre ++ skX2_11 t) (at' := .boolean) (ty := .boolean) (kd := 1) (N := 24) rfl (by decide) kw_1_103 (by decide) (by decide) (by decide) hz11 hsc12 (scl_cons (scv_ref (Or.inl (by omega))) scl_nil) (scl_cons (scv_ref (Or.inl (by omega))) scl_nil) (by omega) (by omega) (by omega) dX2_init_57 ap_push (fun loc13 ag13 hX13 => ?_)
  have ag13' := ag11'.tr ag13 (by omega)
  have hz13 : Zf (sI (sI S t 0 (0 : Int32)) t 1 (-1 : Int32)) (t + 7) := Zf.mono hz11 (by omega)
  have es14 : (pre ++ skX2_11 t : Skel).set t (6, 0, [.int 0, .int 0, .ref (t + 1), .ref (t + 2), .ref (t + 3), .ref (t + 4), .ref (t + 5), .ref (t + 6)]) = pre ++ skX2_12 t := by rw [ap_set0 ht]; rfl
  have hsc14 : scs (t + 7) (pre ++ skX2_12 t) := scs_putR (b := t) (j := 7) (r := (t + 6)) hsc13 (by rw [ap_get0 ht]; rfl) (by omega) es14
  refine pr_X2_35 (pc := 59) hX13 hI (by rw [ap_get0 ht]; rfl) (Nat.le_of_ble_eq_true rfl) es14 dX2_init_59 ?_
  exact aw_vretC hX13 hQ ag13' rfl rfl dX2_init_62

def skX0_0 (t : Nat) : Skel := [(4, 0, [.int 0, .null, .null, .null])]

def skX0_1 (t : Nat) : Skel := [(4, 0, [.int 0, .null, .null, .null]), (0, 20, [])]

def skX0_2 (t : Nat) : Skel := [(4, 0, [.int 0, .ref (t + 1), .null, .null]), (0, 20, [])]

def skX0_3 (t : Nat) : Skel := [(4, 0, [.int 0, .ref (t + 1), .null, .null]), (0, 20, []), (0, 20, [])]

def skX0_4 (t : Nat) : Skel := [(4, 0, [.int 0, .ref (t + 1), .ref (t + 2), .null]), (0, 20, []), (0, 20, [])]

def skX0_5 (t : Nat) : Skel := [(4, 0, [.int 0, .ref (t + 1), .ref (t + 2), .null]), (0, 20, []), (0, 20, []), (0, 20, [])]

def skX0_6 (t : Nat) : Skel := [(4, 0, [.int 0, .ref (t + 1), .ref (t + 2), .ref (t + 3)]), (0, 20, []), (0, 20, []), (0, 20, [])]

def bl_X0_init : Skel := [(4, 0, [.int 0, .null, .null, .null])]

def fin_X0_init (t : Nat) : Skel := [(4, 0, [.int 0, .ref (t + 1), .ref (t + 2), .ref (t + 3)]), (0, 20, []), (0, 20, []), (0, 20, [])]

def iS_X0_init (t : Nat) (S : Mem) : Mem := (sI S t 0 (0 : Int32))

theorem cz_X0_init {t : Nat} {S : Mem} (hz : Zf S (t + 1)) : Zf (iS_X0_init t S) (t + 4) := by
  have hz0 : Zf S (t + 1) := hz
  have hz1 : Zf (sI S t 0 (0 : Int32)) (t + 1) := Zf.sI hz0 (by omega)
  have hz2 : Zf (sI S t 0 (0 : Int32)) (t + 2) := Zf.mono hz1 (by omega)
  have hz4 : Zf (sI S t 0 (0 : Int32)) (t + 3) := Zf.mono hz2 (by omega)
  have hz6 : Zf (sI S t 0 (0 : Int32)) (t + 4) := Zf.mono hz4 (by omega)
  exact hz6

set_option maxHeartbeats 4000000 in
set_option maxRecDepth 100000 in
theorem cs_X0_init {pre : Skel} {t : Nat} (ht : pre.length = t) (hsc : scs (t + 1) (pre ++ bl_X0_init)) : scs (t + 4) (pre ++ fin_X0_init t) := by
  have hsc0 : scs (t + 1) (pre ++ skX0_0 t) := hsc
  have hsc2 : scs (t + 2) (pre ++ skX0_1 t) := scs_new hsc0 (by omega) (by simp) ap_push
  have es3 : (pre ++ skX0_1 t : Skel).set t (4, 0, [.int 0, .ref (t + 1), .null, .null]) = pre ++ skX0_2 t := by rw [ap_set0 ht]; rfl
  have hsc3 : scs (t + 2) (pre ++ skX0_2 t) := scs_putR (b := t) (j := 1) (r := (t + 1)) hsc2 (by rw [ap_get0 ht]; rfl) (by omega) es3
  have hsc4 : scs (t + 3) (pre ++ skX0_3 t) := scs_new hsc3 (by omega) (by simp) ap_push
  have es5 : (pre ++ skX0_3 t : Skel).set t (4, 0, [.int 0, .ref (t + 1), .ref (t + 2), .null]) = pre ++ skX0_4 t := by rw [ap_set0 ht]; rfl
  have hsc5 : scs (t + 3) (pre ++ skX0_4 t) := scs_putR (b := t) (j := 2) (r := (t + 2)) hsc4 (by rw [ap_get0 ht]; rfl) (by omega) es5
  have hsc6 : scs (t + 4) (pre ++ skX0_5 t) := scs_new hsc5 (by omega) (by simp) ap_push
  have es7 : (pre ++ skX0_5 t : Skel).set t (4, 0, [.int 0, .ref (t + 1), .ref (t + 2), .ref (t + 3)]) = pre ++ skX0_6 t := by rw [ap_set0 ht]; rfl
  have hsc7 : scs (t + 4) (pre ++ skX0_6 t) := scs_putR (b := t) (j := 3) (r := (t + 3)) hsc6 (by rw [ap_get0 ht]; rfl) (by omega) es7
  exact hsc7

set_option maxHeartbeats 4000000 in
set_option maxRecDepth 100000 in
theorem ci_X0_init {pre : Skel} {t : Nat} {S : Mem} (ht : pre.length = t) (hz : Zf S (t + 1)) (hsc : scs (t + 1) (pre ++ bl_X0_init)) (h1000 : t + 4 < 1000) : MetC yX0_init cX0_init 1 1 3 60 [.ref t] (pre ++ bl_X0_init) S (pre ++ fin_X0_init t) (iS_X0_init t S) := by
  have hpl : (pre ++ bl_X0_init).length = t + 1 := ap_len ht
  refine MetC.intro (by decide +kernel) rfl (Nat.le_of_ble_eq_true rfl) (fun X loc hX hI hQ => ?_)
  rw [hpl] at hQ
  show AW X (pre ++ skX0_0 t) loc 0 0 0 [(0, .ref t)] [] S
  have hz0 : Zf S (t + 1) := hz
  have hsc0 : scs (t + 1) (pre ++ skX0_0 t) := hsc
  have ag0 : Ag (t + 1) loc loc := Ag.rf
  refine aw_aload_n (pc := 0) hX dX0_init_0 rfl 0 rfl ?_
  refine aw_objI (pc := 1) hX kw_2_91 kw_1_29 kw_1_30 (by decide) (Nat.le_of_ble_eq_true rfl) dX0_init_1 ?_
  refine aw_aload_n (pc := 4) hX dX0_init_4 rfl 0 rfl ?_
  refine aw_iconst (v := (0 : Int32)) (pc := 5) hX dX0_init_5 (by decide) ?_
  refine pf_X0_9 (pc := 6) hX (by rw [ap_get0 ht]; rfl) rfl dX0_init_6 ?_
  have hz1 : Zf (sI S t 0 (0 : Int32)) (t + 1) := Zf.sI hz0 (by omega)
  refine aw_aload_n (pc := 9) hX dX0_init_9 rfl 0 rfl ?_
  refine aw_bipush (v := (20 : Int32)) (pc := 10) hX dX0_init_10 (by decide) ?_
  have hsc2 : scs (t + 2) (pre ++ skX0_1 t) := scs_new hsc0 (by omega) (by simp) ap_push
  refine aw_newA' (pc := 12) hX (N0 := t + 1) (by rw [ap_len ht]; rfl) (sk' := pre ++ skX0_1 t) (at' := .int) (ty := .int) (kd := 0) (N := 20) rfl (by decide) kw_1_46 (by decide) (by decide) (by decide) hz1 hsc0 (scl_cons (scv_ref (Or.inl (by omega))) scl_nil) (scl_cons (scv_ref (Or.inl (by omega))) scl_nil) (by omega) (by omega) (by omega) dX0_init_12 ap_push (fun loc2 ag2 hX2 => ?_)
  have ag2' := ag0.tr ag2 (by omega)
  have hz2 : Zf (sI S t 0 (0 : Int32)) (t + 2) := Zf.mono hz1 (by omega)
  have es3 : (pre ++ skX0_1 t : Skel).set t (4, 0, [.int 0, .ref (t + 1), .null, .null]) = pre ++ skX0_2 t := by rw [ap_set0 ht]; rfl
  have hsc3 : scs (t + 2) (pre ++ skX0_2 t) := scs_putR (b := t) (j := 1) (r := (t + 1)) hsc2 (by rw [ap_get0 ht]; rfl) (by omega) es3
  refine pr_X0_15 (pc := 14) hX2 hI (by rw [ap_get0 ht]; rfl) (Nat.le_of_ble_eq_true rfl) es3 dX0_init_14 ?_
  refine aw_aload_n (pc := 17) hX2 dX0_init_17 rfl 0 rfl ?_
  refine aw_bipush (v := (20 : Int32)) (pc := 18) hX2 dX0_init_18 (by decide) ?_
  have hsc4 : scs (t + 3) (pre ++ skX0_3 t) := scs_new hsc3 (by omega) (by simp) ap_push
  refine aw_newA' (pc := 20) hX2 (N0 := t + 2) (by rw [ap_len ht]; rfl) (sk' := pre ++ skX0_3 t) (at' := .int) (ty := .int) (kd := 0) (N := 20) rfl (by decide) kw_1_46 (by decide) (by decide) (by decide) hz2 hsc3 (scl_cons (scv_ref (Or.inl (by omega))) scl_nil) (scl_cons (scv_ref (Or.inl (by omega))) scl_nil) (by omega) (by omega) (by omega) dX0_init_20 ap_push (fun loc4 ag4 hX4 => ?_)
  have ag4' := ag2'.tr ag4 (by omega)
  have hz4 : Zf (sI S t 0 (0 : Int32)) (t + 3) := Zf.mono hz2 (by omega)
  have es5 : (pre ++ skX0_3 t : Skel).set t (4, 0, [.int 0, .ref (t + 1), .ref (t + 2), .null]) = pre ++ skX0_4 t := by rw [ap_set0 ht]; rfl
  have hsc5 : scs (t + 3) (pre ++ skX0_4 t) := scs_putR (b := t) (j := 2) (r := (t + 2)) hsc4 (by rw [ap_get0 ht]; rfl) (by omega) es5
  refine pr_X0_19 (pc := 22) hX4 hI (by rw [ap_get0 ht]; rfl) (Nat.le_of_ble_eq_true rfl) es5 dX0_init_22 ?_
  refine aw_aload_n (pc := 25) hX4 dX0_init_25 rfl 0 rfl ?_
  refine aw_bipush (v := (20 : Int32)) (pc := 26) hX4 dX0_init_26 (by decide) ?_
  have hsc6 : scs (t + 4) (pre ++ skX0_5 t) := scs_new hsc5 (by omega) (by simp) ap_push
  refine aw_newA' (pc := 28) hX4 (N0 := t + 3) (by rw [ap_len ht]; rfl) (sk' := pre ++ skX0_5 t) (at' := .int) (ty := .int) (kd := 0) (N := 20) rfl (by decide) kw_1_46 (by decide) (by decide) (by decide) hz4 hsc5 (scl_cons (scv_ref (Or.inl (by omega))) scl_nil) (scl_cons (scv_ref (Or.inl (by omega))) scl_nil) (by omega) (by omega) (by omega) dX0_init_28 ap_push (fun loc6 ag6 hX6 => ?_)
  have ag6' := ag4'.tr ag6 (by omega)
  have hz6 : Zf (sI S t 0 (0 : Int32)) (t + 4) := Zf.mono hz4 (by omega)
  have es7 : (pre ++ skX0_5 t : Skel).set t (4, 0, [.int 0, .ref (t + 1), .ref (t + 2), .ref (t + 3)]) = pre ++ skX0_6 t := by rw [ap_set0 ht]; rfl
  have hsc7 : scs (t + 4) (pre ++ skX0_6 t) := scs_putR (b := t) (j := 3) (r := (t + 3)) hsc6 (by rw [ap_get0 ht]; rfl) (by omega) es7
  refine pr_X0_22 (pc := 30) hX6 hI (by rw [ap_get0 ht]; rfl) (Nat.le_of_ble_eq_true rfl) es7 dX0_init_30 ?_
  exact aw_vretC hX6 hQ ag6' rfl rfl dX0_init_33

def skX3_0 (t : Nat) : Skel := [(7, 0, [.int 0, .int 0, .null, .int 0, .int 0, .int 0, .null, .null])]

def skX3_1 (t : Nat) : Skel := [(7, 0, [.int 0, .int 0, .null, .int 0, .int 0, .int 0, .null, .null]), (0, 4, [])]

def skX3_2 (t : Nat) : Skel := [(7, 0, [.int 0, .int 0, .ref (t + 1), .int 0, .int 0, .int 0, .null, .null]), (0, 4, [])]

def skX3_3 (t : Nat) : Skel := [(7, 0, [.int 0, .int 0, .ref (t + 1), .int 0, .int 0, .int 0, .null, .null]), (0, 4, []), (0, 4, [])]

def skX3_4 (t : Nat) : Skel := [(7, 0, [.int 0, .int 0, .ref (t + 1), .int 0, .int 0, .int 0, .ref (t + 2), .null]), (0, 4, []), (0, 4, [])]

def skX3_5 (t : Nat) : Skel := [(7, 0, [.int 0, .int 0, .ref (t + 1), .int 0, .int 0, .int 0, .ref (t + 2), .null]), (0, 4, []), (0, 4, []), (0, 6, [])]

def skX3_6 (t : Nat) : Skel := [(7, 0, [.int 0, .int 0, .ref (t + 1), .int 0, .int 0, .int 0, .ref (t + 2), .ref (t + 3)]), (0, 4, []), (0, 4, []), (0, 6, [])]

def bl_X3_init : Skel := [(7, 0, [.int 0, .int 0, .null, .int 0, .int 0, .int 0, .null, .null])]

def fin_X3_init (t : Nat) : Skel := [(7, 0, [.int 0, .int 0, .ref (t + 1), .int 0, .int 0, .int 0, .ref (t + 2), .ref (t + 3)]), (0, 4, []), (0, 4, []), (0, 6, [])]

def iS_X3_init (t : Nat) (S : Mem) : Mem := (sI (sI (sI (sI (sI S t 0 (0 : Int32)) t 1 (0 : Int32)) t 3 (-1 : Int32)) t 4 (0 : Int32)) t 5 (0 : Int32))

theorem cz_X3_init {t : Nat} {S : Mem} (hz : Zf S (t + 1)) : Zf (iS_X3_init t S) (t + 4) := by
  have hz0 : Zf S (t + 1) := hz
  have hz1 : Zf (sI S t 0 (0 : Int32)) (t + 1) := Zf.sI hz0 (by omega)
  have hz2 : Zf (sI (sI S t 0 (0 : Int32)) t 1 (0 : Int32)) (t + 1) := Zf.sI hz1 (by omega)
  have hz3 : Zf (sI (sI S t 0 (0 : Int32)) t 1 (0 : Int32)) (t + 2) := Zf.mono hz2 (by omega)
  have hz5 : Zf (sI (sI (sI S t 0 (0 : Int32)) t 1 (0 : Int32)) t 3 (-1 : Int32)) (t + 2) := Zf.sI hz3 (by omega)
  have hz6 : Zf (sI (sI (sI (sI S t 0 (0 : Int32)) t 1 (0 : Int32)) t 3 (-1 : Int32)) t 4 (0 : Int32)) (t + 2) := Zf.sI hz5 (by omega)
  have hz7 : Zf (sI (sI (sI (sI (sI S t 0 (0 : Int32)) t 1 (0 : Int32)) t 3 (-1 : Int32)) t 4 (0 : Int32)) t 5 (0 : Int32)) (t + 2) := Zf.sI hz6 (by omega)
  have hz8 : Zf (sI (sI (sI (sI (sI S t 0 (0 : Int32)) t 1 (0 : Int32)) t 3 (-1 : Int32)) t 4 (0 : Int32)) t 5 (0 : Int32)) (t + 3) := Zf.mono hz7 (by omega)
  have hz10 : Zf (sI (sI (sI (sI (sI S t 0 (0 : Int32)) t 1 (0 : Int32)) t 3 (-1 : Int32)) t 4 (0 : Int32)) t 5 (0 : Int32)) (t + 4) := Zf.mono hz8 (by omega)
  exact hz10

set_option maxHeartbeats 4000000 in
set_option maxRecDepth 100000 in
theorem cs_X3_init {pre : Skel} {t : Nat} (ht : pre.length = t) (hsc : scs (t + 1) (pre ++ bl_X3_init)) : scs (t + 4) (pre ++ fin_X3_init t) := by
  have hsc0 : scs (t + 1) (pre ++ skX3_0 t) := hsc
  have hsc3 : scs (t + 2) (pre ++ skX3_1 t) := scs_new hsc0 (by omega) (by simp) ap_push
  have es4 : (pre ++ skX3_1 t : Skel).set t (7, 0, [.int 0, .int 0, .ref (t + 1), .int 0, .int 0, .int 0, .null, .null]) = pre ++ skX3_2 t := by rw [ap_set0 ht]; rfl
  have hsc4 : scs (t + 2) (pre ++ skX3_2 t) := scs_putR (b := t) (j := 2) (r := (t + 1)) hsc3 (by rw [ap_get0 ht]; rfl) (by omega) es4
  have hsc8 : scs (t + 3) (pre ++ skX3_3 t) := scs_new hsc4 (by omega) (by simp) ap_push
  have es9 : (pre ++ skX3_3 t : Skel).set t (7, 0, [.int 0, .int 0, .ref (t + 1), .int 0, .int 0, .int 0, .ref (t + 2), .null]) = pre ++ skX3_4 t := by rw [ap_set0 ht]; rfl
  have hsc9 : scs (t + 3) (pre ++ skX3_4 t) := scs_putR (b := t) (j := 6) (r := (t + 2)) hsc8 (by rw [ap_get0 ht]; rfl) (by omega) es9
  have hsc10 : scs (t + 4) (pre ++ skX3_5 t) := scs_new hsc9 (by omega) (by simp) ap_push
  have es11 : (pre ++ skX3_5 t : Skel).set t (7, 0, [.int 0, .int 0, .ref (t + 1), .int 0, .int 0, .int 0, .ref (t + 2), .ref (t + 3)]) = pre ++ skX3_6 t := by rw [ap_set0 ht]; rfl
  have hsc11 : scs (t + 4) (pre ++ skX3_6 t) := scs_putR (b := t) (j := 7) (r := (t + 3)) hsc10 (by rw [ap_get0 ht]; rfl) (by omega) es11
  exact hsc11

set_option maxHeartbeats 4000000 in
set_option maxRecDepth 100000 in
theorem ci_X3_init {pre : Skel} {t : Nat} {S : Mem} (ht : pre.length = t) (hz : Zf S (t + 1)) (hsc : scs (t + 1) (pre ++ bl_X3_init)) (h1000 : t + 4 < 1000) : MetC yX3_init cX3_init 1 1 3 14 [.ref t] (pre ++ bl_X3_init) S (pre ++ fin_X3_init t) (iS_X3_init t S) := by
  have hpl : (pre ++ bl_X3_init).length = t + 1 := ap_len ht
  refine MetC.intro (by decide +kernel) rfl (Nat.le_of_ble_eq_true rfl) (fun X loc hX hI hQ => ?_)
  rw [hpl] at hQ
  show AW X (pre ++ skX3_0 t) loc 0 0 0 [(0, .ref t)] [] S
  have hz0 : Zf S (t + 1) := hz
  have hsc0 : scs (t + 1) (pre ++ skX3_0 t) := hsc
  have ag0 : Ag (t + 1) loc loc := Ag.rf
  refine aw_aload_n (pc := 0) hX dX3_init_0 rfl 0 rfl ?_
  refine aw_objI (pc := 1) hX kw_2_111 kw_1_29 kw_1_30 (by decide) (Nat.le_of_ble_eq_true rfl) dX3_init_1 ?_
  refine aw_aload_n (pc := 4) hX dX3_init_4 rfl 0 rfl ?_
  refine aw_iconst (v := (0 : Int32)) (pc := 5) hX dX3_init_5 (by decide) ?_
  refine pf_X3_9 (pc := 6) hX (by rw [ap_get0 ht]; rfl) rfl dX3_init_6 ?_
  have hz1 : Zf (sI S t 0 (0 : Int32)) (t + 1) := Zf.sI hz0 (by omega)
  refine aw_aload_n (pc := 9) hX dX3_init_9 rfl 0 rfl ?_
  refine aw_iconst (v := (0 : Int32)) (pc := 10) hX dX3_init_10 (by decide) ?_
  refine pf_X3_15 (pc := 11) hX (by rw [ap_get0 ht]; rfl) rfl dX3_init_11 ?_
  have hz2 : Zf (sI (sI S t 0 (0 : Int32)) t 1 (0 : Int32)) (t + 1) := Zf.sI hz1 (by omega)
  refine aw_aload_n (pc := 14) hX dX3_init_14 rfl 0 rfl ?_
  refine aw_iconst (v := (4 : Int32)) (pc := 15) hX dX3_init_15 (by decide) ?_
  have hsc3 : scs (t + 2) (pre ++ skX3_1 t) := scs_new hsc0 (by omega) (by simp) ap_push
  refine aw_newA' (pc := 16) hX (N0 := t + 1) (by rw [ap_len ht]; rfl) (sk' := pre ++ skX3_1 t) (at' := .int) (ty := .int) (kd := 0) (N := 4) rfl (by decide) kw_1_46 (by decide) (by decide) (by decide) hz2 hsc0 (scl_cons (scv_ref (Or.inl (by omega))) scl_nil) (scl_cons (scv_ref (Or.inl (by omega))) scl_nil) (by omega) (by omega) (by omega) dX3_init_16 ap_push (fun loc3 ag3 hX3 => ?_)
  have ag3' := ag0.tr ag3 (by omega)
  have hz3 : Zf (sI (sI S t 0 (0 : Int32)) t 1 (0 : Int32)) (t + 2) := Zf.mono hz2 (by omega)
  have es4 : (pre ++ skX3_1 t : Skel).set t (7, 0, [.int 0, .int 0, .ref (t + 1), .int 0, .int 0, .int 0, .null, .null]) = pre ++ skX3_2 t := by rw [ap_set0 ht]; rfl
  have hsc4 : scs (t + 2) (pre ++ skX3_2 t) := scs_putR (b := t) (j := 2) (r := (t + 1)) hsc3 (by rw [ap_get0 ht]; rfl) (by omega) es4
  refine pr_X3_18 (pc := 18) hX3 hI (by rw [ap_get0 ht]; rfl) (Nat.le_of_ble_eq_true rfl) es4 dX3_init_18 ?_
  refine aw_aload_n (pc := 21) hX3 dX3_init_21 rfl 0 rfl ?_
  refine aw_iconst (v := (-1 : Int32)) (pc := 22) hX3 dX3_init_22 (by decide) ?_
  refine pf_X3_22 (pc := 23) hX3 (by rw [ap_get0 ht]; rfl) rfl dX3_init_23 ?_
  have hz5 : Zf (sI (sI (sI S t 0 (0 : Int32)) t 1 (0 : Int32)) t 3 (-1 : Int32)) (t + 2) := Zf.sI hz3 (by omega)
  refine aw_aload_n (pc := 26) hX3 dX3_init_26 rfl 0 rfl ?_
  refine aw_iconst (v := (0 : Int32)) (pc := 27) hX3 dX3_init_27 (by decide) ?_
  refine pf_X3_25 (pc := 28) hX3 (by rw [ap_get0 ht]; rfl) rfl dX3_init_28 ?_
  have hz6 : Zf (sI (sI (sI (sI S t 0 (0 : Int32)) t 1 (0 : Int32)) t 3 (-1 : Int32)) t 4 (0 : Int32)) (t + 2) := Zf.sI hz5 (by omega)
  refine aw_aload_n (pc := 31) hX3 dX3_init_31 rfl 0 rfl ?_
  refine aw_iconst (v := (0 : Int32)) (pc := 32) hX3 dX3_init_32 (by decide) ?_
  refine pf_X3_28 (pc := 33) hX3 (by rw [ap_get0 ht]; rfl) rfl dX3_init_33 ?_
  have hz7 : Zf (sI (sI (sI (sI (sI S t 0 (0 : Int32)) t 1 (0 : Int32)) t 3 (-1 : Int32)) t 4 (0 : Int32)) t 5 (0 : Int32)) (t + 2) := Zf.sI hz6 (by omega)
  refine aw_aload_n (pc := 36) hX3 dX3_init_36 rfl 0 rfl ?_
  refine aw_iconst (v := (4 : Int32)) (pc := 37) hX3 dX3_init_37 (by decide) ?_
  have hsc8 : scs (t + 3) (pre ++ skX3_3 t) := scs_new hsc4 (by omega) (by simp) ap_push
  refine aw_newA' (pc := 38) hX3 (N0 := t + 2) (by rw [ap_len ht]; rfl) (sk' := pre ++ skX3_3 t) (at' := .int) (ty := .int) (kd := 0) (N := 4) rfl (by decide) kw_1_46 (by decide) (by decide) (by decide) hz7 hsc4 (scl_cons (scv_ref (Or.inl (by omega))) scl_nil) (scl_cons (scv_ref (Or.inl (by omega))) scl_nil) (by omega) (by omega) (by omega) dX3_init_38 ap_push (fun loc8 ag8 hX8 => ?_)
  have ag8' := ag3'.tr ag8 (by omega)
  have hz8 : Zf (sI (sI (sI (sI (sI S t 0 (0 : Int32)) t 1 (0 : Int32)) t 3 (-1 : Int32)) t 4 (0 : Int32)) t 5 (0 : Int32)) (t + 3) := Zf.mono hz7 (by omega)
  have es9 : (pre ++ skX3_3 t : Skel).set t (7, 0, [.int 0, .int 0, .ref (t + 1), .int 0, .int 0, .int 0, .ref (t + 2), .null]) = pre ++ skX3_4 t := by rw [ap_set0 ht]; rfl
  have hsc9 : scs (t + 3) (pre ++ skX3_4 t) := scs_putR (b := t) (j := 6) (r := (t + 2)) hsc8 (by rw [ap_get0 ht]; rfl) (by omega) es9
  refine pr_X3_31 (pc := 40) hX8 hI (by rw [ap_get0 ht]; rfl) (Nat.le_of_ble_eq_true rfl) es9 dX3_init_40 ?_
  refine aw_aload_n (pc := 43) hX8 dX3_init_43 rfl 0 rfl ?_
  refine aw_bipush (v := (6 : Int32)) (pc := 44) hX8 dX3_init_44 (by decide) ?_
  have hsc10 : scs (t + 4) (pre ++ skX3_5 t) := scs_new hsc9 (by omega) (by simp) ap_push
  refine aw_newA' (pc := 46) hX8 (N0 := t + 3) (by rw [ap_len ht]; rfl) (sk' := pre ++ skX3_5 t) (at' := .int) (ty := .int) (kd := 0) (N := 6) rfl (by decide) kw_1_46 (by decide) (by decide) (by decide) hz8 hsc9 (scl_cons (scv_ref (Or.inl (by omega))) scl_nil) (scl_cons (scv_ref (Or.inl (by omega))) scl_nil) (by omega) (by omega) (by omega) dX3_init_46 ap_push (fun loc10 ag10 hX10 => ?_)
  have ag10' := ag8'.tr ag10 (by omega)
  have hz10 : Zf (sI (sI (sI (sI (sI S t 0 (0 : Int32)) t 1 (0 : Int32)) t 3 (-1 : Int32)) t 4 (0 : Int32)) t 5 (0 : Int32)) (t + 4) := Zf.mono hz8 (by omega)
  have es11 : (pre ++ skX3_5 t : Skel).set t (7, 0, [.int 0, .int 0, .ref (t + 1), .int 0, .int 0, .int 0, .ref (t + 2), .ref (t + 3)]) = pre ++ skX3_6 t := by rw [ap_set0 ht]; rfl
  have hsc11 : scs (t + 4) (pre ++ skX3_6 t) := scs_putR (b := t) (j := 7) (r := (t + 3)) hsc10 (by rw [ap_get0 ht]; rfl) (by omega) es11
  refine pr_X3_34 (pc := 48) hX10 hI (by rw [ap_get0 ht]; rfl) (Nat.le_of_ble_eq_true rfl) es11 dX3_init_48 ?_
  exact aw_vretC hX10 hQ ag10' rfl rfl dX3_init_51
