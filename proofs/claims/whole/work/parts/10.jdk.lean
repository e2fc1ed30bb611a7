def f_J6_bitCount_0f7a4 (v0 : Int32) (S : Mem) : Option (Int32 × Mem) :=
  some (((((((((v0 - ((((v0).toUInt32 >>> (((1 : Int32)).toUInt32 &&& Int32.toUInt32 31)).toInt32) &&& (1431655765 : Int32))) &&& (858993459 : Int32)) + (((((v0 - ((((v0).toUInt32 >>> (((1 : Int32)).toUInt32 &&& Int32.toUInt32 31)).toInt32) &&& (1431655765 : Int32)))).toUInt32 >>> (((2 : Int32)).toUInt32 &&& Int32.toUInt32 31)).toInt32) &&& (858993459 : Int32))) + ((((((v0 - ((((v0).toUInt32 >>> (((1 : Int32)).toUInt32 &&& Int32.toUInt32 31)).toInt32) &&& (1431655765 : Int32))) &&& (858993459 : Int32)) + (((((v0 - ((((v0).toUInt32 >>> (((1 : Int32)).toUInt32 &&& Int32.toUInt32 31)).toInt32) &&& (1431655765 : Int32)))).toUInt32 >>> (((2 : Int32)).toUInt32 &&& Int32.toUInt32 31)).toInt32) &&& (858993459 : Int32)))).toUInt32 >>> (((4 : Int32)).toUInt32 &&& Int32.toUInt32 31)).toInt32)) &&& (252645135 : Int32)) + ((((((((v0 - ((((v0).toUInt32 >>> (((1 : Int32)).toUInt32 &&& Int32.toUInt32 31)).toInt32) &&& (1431655765 : Int32))) &&& (858993459 : Int32)) + (((((v0 - ((((v0).toUInt32 >>> (((1 : Int32)).toUInt32 &&& Int32.toUInt32 31)).toInt32) &&& (1431655765 : Int32)))).toUInt32 >>> (((2 : Int32)).toUInt32 &&& Int32.toUInt32 31)).toInt32) &&& (858993459 : Int32))) + ((((((v0 - ((((v0).toUInt32 >>> (((1 : Int32)).toUInt32 &&& Int32.toUInt32 31)).toInt32) &&& (1431655765 : Int32))) &&& (858993459 : Int32)) + (((((v0 - ((((v0).toUInt32 >>> (((1 : Int32)).toUInt32 &&& Int32.toUInt32 31)).toInt32) &&& (1431655765 : Int32)))).toUInt32 >>> (((2 : Int32)).toUInt32 &&& Int32.toUInt32 31)).toInt32) &&& (858993459 : Int32)))).toUInt32 >>> (((4 : Int32)).toUInt32 &&& Int32.toUInt32 31)).toInt32)) &&& (252645135 : Int32))).toUInt32 >>> (((8 : Int32)).toUInt32 &&& Int32.toUInt32 31)).toInt32)) + (((((((((v0 - ((((v0).toUInt32 >>> (((1 : Int32)).toUInt32 &&& Int32.toUInt32 31)).toInt32) &&& (1431655765 : Int32))) &&& (858993459 : Int32)) + (((((v0 - ((((v0).toUInt32 >>> (((1 : Int32)).toUInt32 &&& Int32.toUInt32 31)).toInt32) &&& (1431655765 : Int32)))).toUInt32 >>> (((2 : Int32)).toUInt32 &&& Int32.toUInt32 31)).toInt32) &&& (858993459 : Int32))) + ((((((v0 - ((((v0).toUInt32 >>> (((1 : Int32)).toUInt32 &&& Int32.toUInt32 31)).toInt32) &&& (1431655765 : Int32))) &&& (858993459 : Int32)) + (((((v0 - ((((v0).toUInt32 >>> (((1 : Int32)).toUInt32 &&& Int32.toUInt32 31)).toInt32) &&& (1431655765 : Int32)))).toUInt32 >>> (((2 : Int32)).toUInt32 &&& Int32.toUInt32 31)).toInt32) &&& (858993459 : Int32)))).toUInt32 >>> (((4 : Int32)).toUInt32 &&& Int32.toUInt32 31)).toInt32)) &&& (252645135 : Int32)) + ((((((((v0 - ((((v0).toUInt32 >>> (((1 : Int32)).toUInt32 &&& Int32.toUInt32 31)).toInt32) &&& (1431655765 : Int32))) &&& (858993459 : Int32)) + (((((v0 - ((((v0).toUInt32 >>> (((1 : Int32)).toUInt32 &&& Int32.toUInt32 31)).toInt32) &&& (1431655765 : Int32)))).toUInt32 >>> (((2 : Int32)).toUInt32 &&& Int32.toUInt32 31)).toInt32) &&& (858993459 : Int32))) + ((((((v0 - ((((v0).toUInt32 >>> (((1 : Int32)).toUInt32 &&& Int32.toUInt32 31)).toInt32) &&& (1431655765 : Int32))) &&& (858993459 : Int32)) + (((((v0 - ((((v0).toUInt32 >>> (((1 : Int32)).toUInt32 &&& Int32.toUInt32 31)).toInt32) &&& (1431655765 : Int32)))).toUInt32 >>> (((2 : Int32)).toUInt32 &&& Int32.toUInt32 31)).toInt32) &&& (858993459 : Int32)))).toUInt32 >>> (((4 : Int32)).toUInt32 &&& Int32.toUInt32 31)).toInt32)) &&& (252645135 : Int32))).toUInt32 >>> (((8 : Int32)).toUInt32 &&& Int32.toUInt32 31)).toInt32))).toUInt32 >>> (((16 : Int32)).toUInt32 &&& Int32.toUInt32 31)).toInt32)) &&& (63 : Int32)), S)

set_option maxHeartbeats 4000000 in
set_option maxRecDepth 100000 in
theorem c_J6_bitCount_0f7a4 {sk : Skel} {v0 : Int32} {S : Mem} {r : Int32} {Sf : Mem} (h : f_J6_bitCount_0f7a4 v0 S = some (r, Sf)) : MetI yJ6_bitCount_0f7a4 cJ6_bitCount_0f7a4 1 (some .int) 0 [.int v0] sk S r Sf := by
  refine MetI.intro (by decide +kernel) (Nat.le_of_ble_eq_true rfl) (fun X loc hX hQ => ?_)
  unfold f_J6_bitCount_0f7a4 at h
  show AW X sk loc 0 0 0 [(0, .int v0)] [] S
  refine aw_iload_n (pc := 0) hX dJ6_bitCount_0f7a4_0 rfl 0 rfl ?_
  refine aw_iload_n (pc := 1) hX dJ6_bitCount_0f7a4_1 rfl 0 rfl ?_
  refine aw_iconst (v := (1 : Int32)) (pc := 2) hX dJ6_bitCount_0f7a4_2 (by decide) ?_
  refine aw_iushr (pc := 3) hX dJ6_bitCount_0f7a4_3 ?_
  refine aw_ldcw (v := (1431655765 : Int32)) (pc := 4) hX kw_4_129 dJ6_bitCount_0f7a4_4 ?_
  refine aw_iand (pc := 7) hX dJ6_bitCount_0f7a4_7 ?_
  refine aw_isub (pc := 8) hX dJ6_bitCount_0f7a4_8 ?_
  refine aw_istore_n (ls' := [(0, .int (v0 - ((((v0).toUInt32 >>> (((1 : Int32)).toUInt32 &&& Int32.toUInt32 31)).toInt32) &&& (1431655765 : Int32))))]) (pc := 9) hX dJ6_bitCount_0f7a4_9 rfl (by decide) rfl ?_
  refine aw_iload_n (pc := 10) hX dJ6_bitCount_0f7a4_10 rfl 0 rfl ?_
  refine aw_ldcw (v := (858993459 : Int32)) (pc := 11) hX kw_4_130 dJ6_bitCount_0f7a4_11 ?_
  refine aw_iand (pc := 14) hX dJ6_bitCount_0f7a4_14 ?_
  refine aw_iload_n (pc := 15) hX dJ6_bitCount_0f7a4_15 rfl 0 rfl ?_
  refine aw_iconst (v := (2 : Int32)) (pc := 16) hX dJ6_bitCount_0f7a4_16 (by decide) ?_
  refine aw_iushr (pc := 17) hX dJ6_bitCount_0f7a4_17 ?_
  refine aw_ldcw (v := (858993459 : Int32)) (pc := 18) hX kw_4_130 dJ6_bitCount_0f7a4_18 ?_
  refine aw_iand (pc := 21) hX dJ6_bitCount_0f7a4_21 ?_
  refine aw_iadd (pc := 22) hX dJ6_bitCount_0f7a4_22 ?_
  refine aw_istore_n (ls' := [(0, .int (((v0 - ((((v0).toUInt32 >>> (((1 : Int32)).toUInt32 &&& Int32.toUInt32 31)).toInt32) &&& (1431655765 : Int32))) &&& (858993459 : Int32)) + (((((v0 - ((((v0).toUInt32 >>> (((1 : Int32)).toUInt32 &&& Int32.toUInt32 31)).toInt32) &&& (1431655765 : Int32)))).toUInt32 >>> (((2 : Int32)).toUInt32 &&& Int32.toUInt32 31)).toInt32) &&& (858993459 : Int32))))]) (pc := 23) hX dJ6_bitCount_0f7a4_23 rfl (by decide) rfl ?_
  refine aw_iload_n (pc := 24) hX dJ6_bitCount_0f7a4_24 rfl 0 rfl ?_
  refine aw_iload_n (pc := 25) hX dJ6_bitCount_0f7a4_25 rfl 0 rfl ?_
  refine aw_iconst (v := (4 : Int32)) (pc := 26) hX dJ6_bitCount_0f7a4_26 (by decide) ?_
  refine aw_iushr (pc := 27) hX dJ6_bitCount_0f7a4_27 ?_
  refine aw_iadd (pc := 28) hX dJ6_bitCount_0f7a4_28 ?_
  refine aw_ldcw (v := (252645135 : Int32)) (pc := 29) hX kw_4_131 dJ6_bitCount_0f7a4_29 ?_
  refine aw_iand (pc := 32) hX dJ6_bitCount_0f7a4_32 ?_
  refine aw_istore_n (ls' := [(0, .int (((((v0 - ((((v0).toUInt32 >>> (((1 : Int32)).toUInt32 &&& Int32.toUInt32 31)).toInt32) &&& (1431655765 : Int32))) &&& (858993459 : Int32)) + (((((v0 - ((((v0).toUInt32 >>> (((1 : Int32)).toUInt32 &&& Int32.toUInt32 31)).toInt32) &&& (1431655765 : Int32)))).toUInt32 >>> (((2 : Int32)).toUInt32 &&& Int32.toUInt32 31)).toInt32) &&& (858993459 : Int32))) + ((((((v0 - ((((v0).toUInt32 >>> (((1 : Int32)).toUInt32 &&& Int32.toUInt32 31)).toInt32) &&& (1431655765 : Int32))) &&& (858993459 : Int32)) + (((((v0 - ((((v0).toUInt32 >>> (((1 : Int32)).toUInt32 &&& Int32.toUInt32 31)).toInt32) &&& (1431655765 : Int32)))).toUInt32 >>> (((2 : Int32)).toUInt32 &&& Int32.toUInt32 31)).toInt32) &&& (858993459 : Int32)))).toUInt32 >>> (((4 : Int32)).toUInt32 &&& Int32.toUInt32 31)).toInt32)) &&& (252645135 : Int32)))]) (pc := 33) hX dJ6_bitCount_0f7a4_33 rfl (by decide) rfl ?_
  refine aw_iload_n (pc := 34) hX dJ6_bitCount_0f7a4_34 rfl 0 rfl ?_
  refine aw_iload_n (pc := 35) hX dJ6_bitCount_0f7a4_35 rfl 0 rfl ?_
  refine aw_bipush (v := (8 : Int32)) (pc := 36) hX dJ6_bitCount_0f7a4_36 (by decide) ?_
  refine aw_iushr (pc := 38) hX dJ6_bitCount_0f7a4_38 ?_
  refine aw_iadd (pc := 39) hX dJ6_bitCount_0f7a4_39 ?_
  refine aw_istore_n (ls' := [(0, .int ((((((v0 - ((((v0).toUInt32 >>> (((1 : Int32)).toUInt32 &&& Int32.toUInt32 31)).toInt32) &&& (1431655765 : Int32))) &&& (858993459 : Int32)) + (((((v0 - ((((v0).toUInt32 >>> (((1 : Int32)).toUInt32 &&& Int32.toUInt32 31)).toInt32) &&& (1431655765 : Int32)))).toUInt32 >>> (((2 : Int32)).toUInt32 &&& Int32.toUInt32 31)).toInt32) &&& (858993459 : Int32))) + ((((((v0 - ((((v0).toUInt32 >>> (((1 : Int32)).toUInt32 &&& Int32.toUInt32 31)).toInt32) &&& (1431655765 : Int32))) &&& (858993459 : Int32)) + (((((v0 - ((((v0).toUInt32 >>> (((1 : Int32)).toUInt32 &&& Int32.toUInt32 31)).toInt32) &&& (1431655765 : Int32)))).toUInt32 >>> (((2 : Int32)).toUInt32 &&& Int32.toUInt32 31)).toInt32) &&& (858993459 : Int32)))).toUInt32 >>> (((4 : Int32)).toUInt32 &&& Int32.toUInt32 31)).toInt32)) &&& (252645135 : Int32)) + ((((((((v0 - ((((v0).toUInt32 >>> (((1 : Int32)).toUInt32 &&& Int32.toUInt32 31)).toInt32) &&& (1431655765 : Int32))) &&& (858993459 : Int32)) + (((((v0 - ((((v0).toUInt32 >>> (((1 : Int32)).toUInt32 &&& Int32.toUInt32 31)).toInt32) &&& (1431655765 : Int32)))).toUInt32 >>> (((2 : Int32)).toUInt32 &&& Int32.toUInt32 31)).toInt32) &&& (858993459 : Int32))) + ((((((v0 - ((((v0).toUInt32 >>> (((1 : Int32)).toUInt32 &&& Int32.toUInt32 31)).toInt32) &&& (1431655765 : Int32))) &&& (858993459 : Int32)) + (((((v0 - ((((v0).toUInt32 >>> (((1 : Int32)).toUInt32 &&& Int32.toUInt32 31)).toInt32) &&& (1431655765 : Int32)))).toUInt32 >>> (((2 : Int32)).toUInt32 &&& Int32.toUInt32 31)).toInt32) &&& (858993459 : Int32)))).toUInt32 >>> (((4 : Int32)).toUInt32 &&& Int32.toUInt32 31)).toInt32)) &&& (252645135 : Int32))).toUInt32 >>> (((8 : Int32)).toUInt32 &&& Int32.toUInt32 31)).toInt32)))]) (pc := 40) hX dJ6_bitCount_0f7a4_40 rfl (by decide) rfl ?_
  refine aw_iload_n (pc := 41) hX dJ6_bitCount_0f7a4_41 rfl 0 rfl ?_
  refine aw_iload_n (pc := 42) hX dJ6_bitCount_0f7a4_42 rfl 0 rfl ?_
  refine aw_bipush (v := (16 : Int32)) (pc := 43) hX dJ6_bitCount_0f7a4_43 (by decide) ?_
  refine aw_iushr (pc := 45) hX dJ6_bitCount_0f7a4_45 ?_
  refine aw_iadd (pc := 46) hX dJ6_bitCount_0f7a4_46 ?_
  refine aw_istore_n (ls' := [(0, .int (((((((v0 - ((((v0).toUInt32 >>> (((1 : Int32)).toUInt32 &&& Int32.toUInt32 31)).toInt32) &&& (1431655765 : Int32))) &&& (858993459 : Int32)) + (((((v0 - ((((v0).toUInt32 >>> (((1 : Int32)).toUInt32 &&& Int32.toUInt32 31)).toInt32) &&& (1431655765 : Int32)))).toUInt32 >>> (((2 : Int32)).toUInt32 &&& Int32.toUInt32 31)).toInt32) &&& (858993459 : Int32))) + ((((((v0 - ((((v0).toUInt32 >>> (((1 : Int32)).toUInt32 &&& Int32.toUInt32 31)).toInt32) &&& (1431655765 : Int32))) &&& (858993459 : Int32)) + (((((v0 - ((((v0).toUInt32 >>> (((1 : Int32)).toUInt32 &&& Int32.toUInt32 31)).toInt32) &&& (1431655765 : Int32)))).toUInt32 >>> (((2 : Int32)).toUInt32 &&& Int32.toUInt32 31)).toInt32) &&& (858993459 : Int32)))).toUInt32 >>> (((4 : Int32)).toUInt32 &&& Int32.toUInt32 31)).toInt32)) &&& (252645135 : Int32)) + ((((((((v0 - ((((v0).toUInt32 >>> (((1 : Int32)).toUInt32 &&& Int32.toUInt32 31)).toInt32) &&& (1431655765 : Int32))) &&& (858993459 : Int32)) + (((((v0 - ((((v0).toUInt32 >>> (((1 : Int32)).toUInt32 &&& Int32.toUInt32 31)).toInt32) &&& (1431655765 : Int32)))).toUInt32 >>> (((2 : Int32)).toUInt32 &&& Int32.toUInt32 31)).toInt32) &&& (858993459 : Int32))) + ((((((v0 - ((((v0).toUInt32 >>> (((1 : Int32)).toUInt32 &&& Int32.toUInt32 31)).toInt32) &&& (1431655765 : Int32))) &&& (858993459 : Int32)) + (((((v0 - ((((v0).toUInt32 >>> (((1 : Int32)).toUInt32 &&& Int32.toUInt32 31)).toInt32) &&& (1431655765 : Int32)))).toUInt32 >>> (((2 : Int32)).toUInt32 &&& Int32.toUInt32 31)).toInt32) &&& (858993459 : Int32)))).toUInt32 >>> (((4 : Int32)).toUInt32 &&& Int32.toUInt32 31)).toInt32)) &&& (252645135 : Int32))).toUInt32 >>> (((8 : Int32)).toUInt32 &&& Int32.toUInt32 31)).toInt32)) + (((((((((v0 - ((((v0).toUInt32 >>> (((1 : Int32)).toUInt32 &&& Int32.toUInt32 31)).toInt32) &&& (1431655765 : Int32))) &&& (858993459 : Int32)) + (((((v0 - ((((v0).toUInt32 >>> (((1 : Int32)).toUInt32 &&& Int32.toUInt32 31)).toInt32) &&& (1431655765 : Int32)))).toUInt32 >>> (((2 : Int32)).toUInt32 &&& Int32.toUInt32 31)).toInt32) &&& (858993459 : Int32))) + ((((((v0 - ((((v0).toUInt32 >>> (((1 : Int32)).toUInt32 &&& Int32.toUInt32 31)).toInt32) &&& (1431655765 : Int32))) &&& (858993459 : Int32)) + (((((v0 - ((((v0).toUInt32 >>> (((1 : Int32)).toUInt32 &&& Int32.toUInt32 31)).toInt32) &&& (1431655765 : Int32)))).toUInt32 >>> (((2 : Int32)).toUInt32 &&& Int32.toUInt32 31)).toInt32) &&& (858993459 : Int32)))).toUInt32 >>> (((4 : Int32)).toUInt32 &&& Int32.toUInt32 31)).toInt32)) &&& (252645135 : Int32)) + ((((((((v0 - ((((v0).toUInt32 >>> (((1 : Int32)).toUInt32 &&& Int32.toUInt32 31)).toInt32) &&& (1431655765 : Int32))) &&& (858993459 : Int32)) + (((((v0 - ((((v0).toUInt32 >>> (((1 : Int32)).toUInt32 &&& Int32.toUInt32 31)).toInt32) &&& (1431655765 : Int32)))).toUInt32 >>> (((2 : Int32)).toUInt32 &&& Int32.toUInt32 31)).toInt32) &&& (858993459 : Int32))) + ((((((v0 - ((((v0).toUInt32 >>> (((1 : Int32)).toUInt32 &&& Int32.toUInt32 31)).toInt32) &&& (1431655765 : Int32))) &&& (858993459 : Int32)) + (((((v0 - ((((v0).toUInt32 >>> (((1 : Int32)).toUInt32 &&& Int32.toUInt32 31)).toInt32) &&& (1431655765 : Int32)))).toUInt32 >>> (((2 : Int32)).toUInt32 &&& Int32.toUInt32 31)).toInt32) &&& (858993459 : Int32)))).toUInt32 >>> (((4 : Int32)).toUInt32 &&& Int32.toUInt32 31)).toInt32)) &&& (252645135 : Int32))).toUInt32 >>> (((8 : Int32)).toUInt32 &&& Int32.toUInt32 31)).toInt32))).toUInt32 >>> (((16 : Int32)).toUInt32 &&& Int32.toUInt32 31)).toInt32)))]) (pc := 47) hX dJ6_bitCount_0f7a4_47 rfl (by decide) rfl ?_
  refine aw_iload_n (pc := 48) hX dJ6_bitCount_0f7a4_48 rfl 0 rfl ?_
  refine aw_bipush (v := (63 : Int32)) (pc := 49) hX dJ6_bitCount_0f7a4_49 (by decide) ?_
  refine aw_iand (pc := 51) hX dJ6_bitCount_0f7a4_51 ?_
  cases h
  exact aw_iret hX hQ dJ6_bitCount_0f7a4_52

def f_J9_abs_067f4 (v0 : Int64) (S : Mem) : Option (Int64 × Mem) :=
  if (0 : Int64) ≤ v0 then
  (some (v0, S))
  else
  (some ((-v0), S))

set_option maxHeartbeats 4000000 in
set_option maxRecDepth 100000 in
theorem c_J9_abs_067f4 {sk : Skel} {v0 : Int64} {S : Mem} {r : Int64} {Sf : Mem} (h : f_J9_abs_067f4 v0 S = some (r, Sf)) : MetL yJ9_abs_067f4 cJ9_abs_067f4 2 (some .long) 0 [.long v0] sk S r Sf := by
  refine MetL.intro (by decide +kernel) (Nat.le_of_ble_eq_true rfl) (fun X loc hX hQ => ?_)
  unfold f_J9_abs_067f4 at h
  show AW X sk loc 0 0 0 [(0, .long v0)] [] S
  refine aw_lload_n (pc := 0) hX dJ9_abs_067f4_0 rfl 0 rfl ?_
  refine aw_lconst (v := (0 : Int64)) (pc := 1) hX dJ9_abs_067f4_1 (by decide) ?_
  refine aw_lcmp (pc := 2) hX dJ9_abs_067f4_2 ?_
  refine aw_if_ge (pc := 3) hX (tgt := 11) dJ9_abs_067f4_3 (by decide) (fun c3 => ?_) (fun c3 => ?_)
  · rw [if_pos (lc_ge.mp c3)] at h
    refine aw_lload_n (pc := 11) hX dJ9_abs_067f4_11 rfl 0 rfl ?_
    cases h
    exact aw_lret hX hQ dJ9_abs_067f4_12
  · rw [if_neg (fun q => c3 (lc_ge.mpr q))] at h
    refine aw_lload_n (pc := 6) hX dJ9_abs_067f4_6 rfl 0 rfl ?_
    refine aw_lneg (pc := 7) hX dJ9_abs_067f4_7 ?_
    refine aw_goto (tgt := 12) (pc := 8) hX dJ9_abs_067f4_8 (by decide) ?_
    cases h
    exact aw_lret hX hQ dJ9_abs_067f4_12

def f_J9_abs_0f7a4 (v0 : Int32) (S : Mem) : Option (Int32 × Mem) :=
  if 0 ≤ v0 then
  (some (v0, S))
  else
  (some ((-v0), S))

set_option maxHeartbeats 4000000 in
set_option maxRecDepth 100000 in
theorem c_J9_abs_0f7a4 {sk : Skel} {v0 : Int32} {S : Mem} {r : Int32} {Sf : Mem} (h : f_J9_abs_0f7a4 v0 S = some (r, Sf)) : MetI yJ9_abs_0f7a4 cJ9_abs_0f7a4 1 (some .int) 0 [.int v0] sk S r Sf := by
  refine MetI.intro (by decide +kernel) (Nat.le_of_ble_eq_true rfl) (fun X loc hX hQ => ?_)
  unfold f_J9_abs_0f7a4 at h
  show AW X sk loc 0 0 0 [(0, .int v0)] [] S
  refine aw_iload_n (pc := 0) hX dJ9_abs_0f7a4_0 rfl 0 rfl ?_
  refine aw_if_ge (pc := 1) hX (tgt := 9) dJ9_abs_0f7a4_1 (by decide) (fun c1 => ?_) (fun c1 => ?_)
  · rw [if_pos c1] at h
    refine aw_iload_n (pc := 9) hX dJ9_abs_0f7a4_9 rfl 0 rfl ?_
    cases h
    exact aw_iret hX hQ dJ9_abs_0f7a4_10
  · rw [if_neg c1] at h
    refine aw_iload_n (pc := 4) hX dJ9_abs_0f7a4_4 rfl 0 rfl ?_
    refine aw_ineg (pc := 5) hX dJ9_abs_0f7a4_5 ?_
    refine aw_goto (tgt := 10) (pc := 6) hX dJ9_abs_0f7a4_6 (by decide) ?_
    cases h
    exact aw_iret hX hQ dJ9_abs_0f7a4_10

def f_J9_max_7cf53 (v0 : Int32) (v1 : Int32) (S : Mem) : Option (Int32 × Mem) :=
  if v0 < v1 then
  (some (v1, S))
  else
  (some (v0, S))

set_option maxHeartbeats 4000000 in
set_option maxRecDepth 100000 in
theorem c_J9_max_7cf53 {sk : Skel} {v0 : Int32} {v1 : Int32} {S : Mem} {r : Int32} {Sf : Mem} (h : f_J9_max_7cf53 v0 v1 S = some (r, Sf)) : MetI yJ9_max_7cf53 cJ9_max_7cf53 2 (some .int) 0 [.int v0, .int v1] sk S r Sf := by
  refine MetI.intro (by decide +kernel) (Nat.le_of_ble_eq_true rfl) (fun X loc hX hQ => ?_)
  unfold f_J9_max_7cf53 at h
  show AW X sk loc 0 0 0 [(0, .int v0), (1, .int v1)] [] S
  refine aw_iload_n (pc := 0) hX dJ9_max_7cf53_0 rfl 0 rfl ?_
  refine aw_iload_n (pc := 1) hX dJ9_max_7cf53_1 rfl 1 rfl ?_
  refine aw_icmp_lt (pc := 2) hX (tgt := 9) dJ9_max_7cf53_2 (by decide) (fun c2 => ?_) (fun c2 => ?_)
  · rw [if_pos c2] at h
    refine aw_iload_n (pc := 9) hX dJ9_max_7cf53_9 rfl 1 rfl ?_
    cases h
    exact aw_iret hX hQ dJ9_max_7cf53_10
  · rw [if_neg c2] at h
    refine aw_iload_n (pc := 5) hX dJ9_max_7cf53_5 rfl 0 rfl ?_
    refine aw_goto (tgt := 10) (pc := 6) hX dJ9_max_7cf53_6 (by decide) ?_
    cases h
    exact aw_iret hX hQ dJ9_max_7cf53_10

def f_J9_max_f86c9 (v0 : Int64) (v2 : Int64) (S : Mem) : Option (Int64 × Mem) :=
  if v0 < v2 then
  (some (v2, S))
  else
  (some (v0, S))

set_option maxHeartbeats 4000000 in
set_option maxRecDepth 100000 in
theorem c_J9_max_f86c9 {sk : Skel} {v0 : Int64} {v2 : Int64} {S : Mem} {r : Int64} {Sf : Mem} (h : f_J9_max_f86c9 v0 v2 S = some (r, Sf)) : MetL yJ9_max_f86c9 cJ9_max_f86c9 4 (some .long) 0 [.long v0, .long v2] sk S r Sf := by
  refine MetL.intro (by decide +kernel) (Nat.le_of_ble_eq_true rfl) (fun X loc hX hQ => ?_)
  unfold f_J9_max_f86c9 at h
  show AW X sk loc 0 0 0 [(0, .long v0), (2, .long v2)] [] S
  refine aw_lload_n (pc := 0) hX dJ9_max_f86c9_0 rfl 0 rfl ?_
  refine aw_lload_n (pc := 1) hX dJ9_max_f86c9_1 rfl 1 rfl ?_
  refine aw_lcmp (pc := 2) hX dJ9_max_f86c9_2 ?_
  refine aw_if_lt (pc := 3) hX (tgt := 10) dJ9_max_f86c9_3 (by decide) (fun c3 => ?_) (fun c3 => ?_)
  · rw [if_pos (lc_lt.mp c3)] at h
    refine aw_lload_n (pc := 10) hX dJ9_max_f86c9_10 rfl 1 rfl ?_
    cases h
    exact aw_lret hX hQ dJ9_max_f86c9_11
  · rw [if_neg (fun q => c3 (lc_lt.mpr q))] at h
    refine aw_lload_n (pc := 6) hX dJ9_max_f86c9_6 rfl 0 rfl ?_
    refine aw_goto (tgt := 11) (pc := 7) hX dJ9_max_f86c9_7 (by decide) ?_
    cases h
    exact aw_lret hX hQ dJ9_max_f86c9_11

def f_J9_min_7cf53 (v0 : Int32) (v1 : Int32) (S : Mem) : Option (Int32 × Mem) :=
  if v1 < v0 then
  (some (v1, S))
  else
  (some (v0, S))

set_option maxHeartbeats 4000000 in
set_option maxRecDepth 100000 in
theorem c_J9_min_7cf53 {sk : Skel} {v0 : Int32} {v1 : Int32} {S : Mem} {r : Int32} {Sf : Mem} (h : f_J9_min_7cf53 v0 v1 S = some (r, Sf)) : MetI yJ9_min_7cf53 cJ9_min_7cf53 2 (some .int) 0 [.int v0, .int v1] sk S r Sf := by
  refine MetI.intro (by decide +kernel) (Nat.le_of_ble_eq_true rfl) (fun X loc hX hQ => ?_)
  unfold f_J9_min_7cf53 at h
  show AW X sk loc 0 0 0 [(0, .int v0), (1, .int v1)] [] S
  refine aw_iload_n (pc := 0) hX dJ9_min_7cf53_0 rfl 0 rfl ?_
  refine aw_iload_n (pc := 1) hX dJ9_min_7cf53_1 rfl 1 rfl ?_
  refine aw_icmp_gt (pc := 2) hX (tgt := 9) dJ9_min_7cf53_2 (by decide) (fun c2 => ?_) (fun c2 => ?_)
  · rw [if_pos c2] at h
    refine aw_iload_n (pc := 9) hX dJ9_min_7cf53_9 rfl 1 rfl ?_
    cases h
    exact aw_iret hX hQ dJ9_min_7cf53_10
  · rw [if_neg c2] at h
    refine aw_iload_n (pc := 5) hX dJ9_min_7cf53_5 rfl 0 rfl ?_
    refine aw_goto (tgt := 10) (pc := 6) hX dJ9_min_7cf53_6 (by decide) ?_
    cases h
    exact aw_iret hX hQ dJ9_min_7cf53_10

def f_J9_min_f86c9 (v0 : Int64) (v2 : Int64) (S : Mem) : Option (Int64 × Mem) :=
  if v2 < v0 then
  (some (v2, S))
  else
  (some (v0, S))

set_option maxHeartbeats 4000000 in
set_option maxRecDepth 100000 in
theorem c_J9_min_f86c9 {sk : Skel} {v0 : Int64} {v2 : Int64} {S : Mem} {r : Int64} {Sf : Mem} (h : f_J9_min_f86c9 v0 v2 S = some (r, Sf)) : MetL yJ9_min_f86c9 cJ9_min_f86c9 4 (some .long) 0 [.long v0, .long v2] sk S r Sf := by
  refine MetL.intro (by decide +kernel) (Nat.le_of_ble_eq_true rfl) (fun X loc hX hQ => ?_)
  unfold f_J9_min_f86c9 at h
  show AW X sk loc 0 0 0 [(0, .long v0), (2, .long v2)] [] S
  refine aw_lload_n (pc := 0) hX dJ9_min_f86c9_0 rfl 0 rfl ?_
  refine aw_lload_n (pc := 1) hX dJ9_min_f86c9_1 rfl 1 rfl ?_
  refine aw_lcmp (pc := 2) hX dJ9_min_f86c9_2 ?_
  refine aw_if_gt (pc := 3) hX (tgt := 10) dJ9_min_f86c9_3 (by decide) (fun c3 => ?_) (fun c3 => ?_)
  · rw [if_pos (lc_gt.mp c3)] at h
    refine aw_lload_n (pc := 10) hX dJ9_min_f86c9_10 rfl 1 rfl ?_
    cases h
    exact aw_lret hX hQ dJ9_min_f86c9_11
  · rw [if_neg (fun q => c3 (lc_gt.mpr q))] at h
    refine aw_lload_n (pc := 6) hX dJ9_min_f86c9_6 rfl 0 rfl ?_
    refine aw_goto (tgt := 11) (pc := 7) hX dJ9_min_f86c9_7 (by decide) ?_
    cases h
    exact aw_lret hX hQ dJ9_min_f86c9_11

