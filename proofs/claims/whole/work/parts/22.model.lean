def f_X10_law_75 (v1 : Int32) (S : Mem) : Option (Int64 × Mem) :=
  bnd (f_X10_goes v1 S) fun r77 S77 =>
  if r77 = 0 then
  (some ((-9223372036854775808 : Int64), S77))
  else
  ((rdL S77 15 64 (0 : Int32)).bind fun x88 =>
  some (x88, S77))

def f_X10_law_49 (v1 : Int32) (v2 : Int32) (S : Mem) : Option (Int64 × Mem) :=
  if v1 = (2 : Int32) then
  ((f_X10_callsCity (0 : Int32) v2 S).bind fun S57 =>
  f_X10_law_75 v1 S57)
  else
  ((rd S 21 230 v2).bind fun x71 =>
  (f_X10_calls (0 : Int32) v2 x71 S).bind fun S72 =>
  f_X10_law_75 v1 S72)

def f_X10_law (v1 : Int32) (v2 : Int32) (S : Mem) : Option (Int64 × Mem) :=
  nxt (sI S 0 0 (0 : Int32)) fun S2 =>
  if v1 < 0 then
  (some ((-9223372036854775808 : Int64), S2))
  else
  (if (2 : Int32) < v1 then
  (some ((-9223372036854775808 : Int64), S2))
  else
  (bnd (f_X10_hasLaw v1 S2) fun r16 S16 =>
  if r16 = 0 then
  (some ((-9223372036854775808 : Int64), S16))
  else
  (if v1 = (2 : Int32) then
  (bnd (f_X10_isCity v2 S16) fun r28 S28 =>
  if r28 = 0 then
  (some ((-9223372036854775808 : Int64), S28))
  else
  (f_X10_law_49 v1 v2 S28))
  else
  (bnd (f_X10_isDoll v2 S16) fun r39 S39 =>
  if r39 = 0 then
  (some ((-9223372036854775808 : Int64), S39))
  else
  (f_X10_law_49 v1 v2 S39)))))

set_option maxHeartbeats 4000000 in
set_option maxRecDepth 100000 in
theorem c_X10_law_75 {X : XT} {loc : Nat → Nat} {r : Int64} {Sf : Mem} (hX : AC X loc RX10 cX10_law (some .long) 3 3 0 0) (hQ : RetL X SKM loc 0 0 r Sf) (v1 : Int32) (S : Mem) (h : f_X10_law_75 v1 S = some (r, Sf)) : AW X SKM loc 0 0 75 [(0, .ref 0), (1, .int v1)] [] S := by
  unfold f_X10_law_75 at h
  refine aw_aload_n (pc := 75) hX dX10_law_75 rfl 0 rfl ?_
  refine aw_iload_n (pc := 76) hX dX10_law_76 rfl 1 rfl ?_
  obtain ⟨r77, S77, hr77, h⟩ := ob2 h
  refine aw_cVI (pc := 77) (As := [.int v1]) (rest := []) hX (c_X10_goes hr77) ok_X10_goes kw_7_75 im_X10_goes se_X10_goes rfl km0 rfl (by decide) (Nat.le_of_ble_eq_true rfl) rfl dX10_law_77 (Nat.le_refl 0) (Nat.le_refl 0) ?_
  refine aw_if_eq (pc := 80) hX (tgt := 92) dX10_law_80 (by decide) (fun c80 => ?_) (fun c80 => ?_)
  · rw [if_pos c80] at h
    refine aw_ldc2 (v := (-9223372036854775808 : Int64)) (pc := 92) hX kw_7_97 dX10_law_92 ?_
    cases h
    exact aw_lret hX hQ dX10_law_95
  · rw [if_neg c80] at h
    refine aw_aload_n (pc := 83) hX dX10_law_83 rfl 0 rfl ?_
    refine gf_X10_57 (pc := 84) hX km0 rfl dX10_law_84 ?_
    refine aw_iconst (v := (0 : Int32)) (pc := 87) hX dX10_law_87 (by decide) ?_
    obtain ⟨x88, hx88, h⟩ := ob h
    refine aw_lald (pc := 88) hX km15 hx88 dX10_law_88 ?_
    refine aw_goto (tgt := 95) (pc := 89) hX dX10_law_89 (by decide) ?_
    cases h
    exact aw_lret hX hQ dX10_law_95

set_option maxHeartbeats 4000000 in
set_option maxRecDepth 100000 in
theorem c_X10_law_49 {X : XT} {loc : Nat → Nat} {r : Int64} {Sf : Mem} (hX : AC X loc RX10 cX10_law (some .long) 3 3 0 0) (hQ : RetL X SKM loc 0 0 r Sf) (v1 : Int32) (v2 : Int32) (S : Mem) (h : f_X10_law_49 v1 v2 S = some (r, Sf)) : AW X SKM loc 0 0 49 [(0, .ref 0), (1, .int v1), (2, .int v2)] [] S := by
  unfold f_X10_law_49 at h
  refine aw_iload_n (pc := 49) hX dX10_law_49 rfl 1 rfl ?_
  refine aw_iconst (v := (2 : Int32)) (pc := 50) hX dX10_law_50 (by decide) ?_
  refine aw_icmp_ne (pc := 51) hX (tgt := 63) dX10_law_51 (by decide) (fun c51 => ?_) (fun c51 => ?_)
  · rw [if_neg c51] at h
    refine aw_aload_n (pc := 63) hX dX10_law_63 rfl 0 rfl ?_
    refine aw_iconst (v := (0 : Int32)) (pc := 64) hX dX10_law_64 (by decide) ?_
    refine aw_iload_n (pc := 65) hX dX10_law_65 rfl 2 rfl ?_
    refine aw_aload_n (pc := 66) hX dX10_law_66 rfl 0 rfl ?_
    refine gf_X10_75 (pc := 67) hX km0 rfl dX10_law_67 ?_
    refine aw_iload_n (pc := 70) hX dX10_law_70 rfl 2 rfl ?_
    obtain ⟨x71, hx71, h⟩ := ob h
    refine aw_iald (pc := 71) hX km21 hx71 dX10_law_71 ?_
    obtain ⟨S72, hr72, h⟩ := ob h
    refine aw_cVV (pc := 72) (As := [.int (0 : Int32), .int v2, .int x71]) (rest := []) hX (c_X10_calls hr72) ok_X10_calls kw_7_58 im_X10_calls se_X10_calls rfl km0 rfl (by decide) (Nat.le_of_ble_eq_true rfl) rfl dX10_law_72 (Nat.le_refl 0) (Nat.le_refl 0) ?_
    refine aw_sub (ls' := [(0, .ref 0), (1, .int v1)]) [0, 1] rfl ?_
    exact c_X10_law_75 hX hQ v1 S72 h
  · rw [if_pos c51] at h
    refine aw_aload_n (pc := 54) hX dX10_law_54 rfl 0 rfl ?_
    refine aw_iconst (v := (0 : Int32)) (pc := 55) hX dX10_law_55 (by decide) ?_
    refine aw_iload_n (pc := 56) hX dX10_law_56 rfl 2 rfl ?_
    obtain ⟨S57, hr57, h⟩ := ob h
    refine aw_cVV (pc := 57) (As := [.int (0 : Int32), .int v2]) (rest := []) hX (c_X10_callsCity hr57) ok_X10_callsCity kw_7_98 im_X10_callsCity se_X10_callsCity rfl km0 rfl (by decide) (Nat.le_of_ble_eq_true rfl) rfl dX10_law_57 (Nat.le_refl 0) (Nat.le_refl 0) ?_
    refine aw_goto (tgt := 75) (pc := 60) hX dX10_law_60 (by decide) ?_
    refine aw_sub (ls' := [(0, .ref 0), (1, .int v1)]) [0, 1] rfl ?_
    exact c_X10_law_75 hX hQ v1 S57 h

set_option maxHeartbeats 4000000 in
set_option maxRecDepth 100000 in
theorem c_X10_law {v1 : Int32} {v2 : Int32} {S : Mem} {r : Int64} {Sf : Mem} (h : f_X10_law v1 v2 S = some (r, Sf)) : MetL yX10_law cX10_law 3 (some .long) 3 [.ref 0, .int v1, .int v2] SKM S r Sf := by
  refine MetL.intro (by decide +kernel) (Nat.le_of_ble_eq_true rfl) (fun X loc hX hQ => ?_)
  unfold f_X10_law at h
  show AW X SKM loc 0 0 0 [(0, .ref 0), (1, .int v1), (2, .int v2)] [] S
  refine aw_aload_n (pc := 0) hX dX10_law_0 rfl 0 rfl ?_
  refine aw_iconst (v := (0 : Int32)) (pc := 1) hX dX10_law_1 (by decide) ?_
  refine pf_X10_124 (pc := 2) hX km0 rfl dX10_law_2 ?_
  obtain ⟨S2, eS2, h⟩ := on h
  refine aw_S eS2 ?_
  refine aw_iload_n (pc := 5) hX dX10_law_5 rfl 1 rfl ?_
  refine aw_if_lt (pc := 6) hX (tgt := 45) dX10_law_6 (by decide) (fun c6 => ?_) (fun c6 => ?_)
  · rw [if_pos c6] at h
    refine aw_ldc2 (v := (-9223372036854775808 : Int64)) (pc := 45) hX kw_7_97 dX10_law_45 ?_
    cases h
    exact aw_lret hX hQ dX10_law_48
  · rw [if_neg c6] at h
    refine aw_iload_n (pc := 9) hX dX10_law_9 rfl 1 rfl ?_
    refine aw_iconst (v := (2 : Int32)) (pc := 10) hX dX10_law_10 (by decide) ?_
    refine aw_icmp_gt (pc := 11) hX (tgt := 45) dX10_law_11 (by decide) (fun c11 => ?_) (fun c11 => ?_)
    · rw [if_pos c11] at h
      refine aw_ldc2 (v := (-9223372036854775808 : Int64)) (pc := 45) hX kw_7_97 dX10_law_45 ?_
      cases h
      exact aw_lret hX hQ dX10_law_48
    · rw [if_neg c11] at h
      refine aw_aload_n (pc := 14) hX dX10_law_14 rfl 0 rfl ?_
      refine aw_iload_n (pc := 15) hX dX10_law_15 rfl 1 rfl ?_
      obtain ⟨r16, S16, hr16, h⟩ := ob2 h
      refine aw_cVI (pc := 16) (As := [.int v1]) (rest := []) hX (c_X10_hasLaw hr16) ok_X10_hasLaw kw_7_71 im_X10_hasLaw se_X10_hasLaw rfl km0 rfl (by decide) (Nat.le_of_ble_eq_true rfl) rfl dX10_law_16 (Nat.le_refl 0) (Nat.le_refl 0) ?_
      refine aw_if_eq (pc := 19) hX (tgt := 45) dX10_law_19 (by decide) (fun c19 => ?_) (fun c19 => ?_)
      · rw [if_pos c19] at h
        refine aw_ldc2 (v := (-9223372036854775808 : Int64)) (pc := 45) hX kw_7_97 dX10_law_45 ?_
        cases h
        exact aw_lret hX hQ dX10_law_48
      · rw [if_neg c19] at h
        refine aw_iload_n (pc := 22) hX dX10_law_22 rfl 1 rfl ?_
        refine aw_iconst (v := (2 : Int32)) (pc := 23) hX dX10_law_23 (by decide) ?_
        refine aw_icmp_ne (pc := 24) hX (tgt := 37) dX10_law_24 (by decide) (fun c24 => ?_) (fun c24 => ?_)
        · rw [if_neg c24] at h
          refine aw_aload_n (pc := 37) hX dX10_law_37 rfl 0 rfl ?_
          refine aw_iload_n (pc := 38) hX dX10_law_38 rfl 2 rfl ?_
          obtain ⟨r39, S39, hr39, h⟩ := ob2 h
          refine aw_cVI (pc := 39) (As := [.int v2]) (rest := []) hX (c_X10_isDoll hr39) ok_X10_isDoll kw_7_11 im_X10_isDoll se_X10_isDoll rfl km0 rfl (by decide) (Nat.le_of_ble_eq_true rfl) rfl dX10_law_39 (Nat.le_refl 0) (Nat.le_refl 0) ?_
          refine aw_if_ne (pc := 42) hX (tgt := 49) dX10_law_42 (by decide) (fun c42 => ?_) (fun c42 => ?_)
          · rw [if_neg c42] at h
            exact c_X10_law_49 hX hQ v1 v2 S39 h
          · rw [if_pos c42] at h
            refine aw_ldc2 (v := (-9223372036854775808 : Int64)) (pc := 45) hX kw_7_97 dX10_law_45 ?_
            cases h
            exact aw_lret hX hQ dX10_law_48
        · rw [if_pos c24] at h
          refine aw_iload_n (pc := 27) hX dX10_law_27 rfl 2 rfl ?_
          obtain ⟨r28, S28, hr28, h⟩ := ob2 h
          refine aw_cSI (pc := 28) (As := [.int v2]) (rest := []) hX (c_X10_isCity (sk := SKM) hr28) ok_X10_isCity kw_7_35 st_X10_isCity rfl (by decide) (Nat.le_of_ble_eq_true rfl) rfl dX10_law_28 (Nat.le_refl 0) (Nat.le_refl 0) ?_
          refine aw_if_eq (pc := 31) hX (tgt := 45) dX10_law_31 (by decide) (fun c31 => ?_) (fun c31 => ?_)
          · rw [if_pos c31] at h
            refine aw_ldc2 (v := (-9223372036854775808 : Int64)) (pc := 45) hX kw_7_97 dX10_law_45 ?_
            cases h
            exact aw_lret hX hQ dX10_law_48
          · rw [if_neg c31] at h
            refine aw_goto (tgt := 49) (pc := 34) hX dX10_law_34 (by decide) ?_
            exact c_X10_law_49 hX hQ v1 v2 S28 h

def f_X10_nurseLine_58 (v1 : Int32) (S : Mem) : Option Mem :=
  (wr S 4 12 v1 ((S.1 0 21) - (7 : Int32))).bind fun S70 =>
  (f_X10_goOn S70).bind fun S72 =>
  bnd (f_X10_numeral (0 : Int32) (9 : Int32) S72) fun r84 S84 =>
  (wr S84 5 12 v1 r84).bind fun S87 =>
  bnd (f_X10_fresher (0 : Int32) S87) fun r92 S92 =>
  (f_X10_reads (0 : Int32) (r92 + (1 : Int32)) S92).bind fun S97 =>
  some S97

def f_X10_nurseLine_53 (v1 : Int32) (S : Mem) : Option Mem :=
  (f_X10_wrong (1 : Int32) S).bind fun S55 =>
  f_X10_nurseLine_58 v1 S55

def f_X10_nurseLine (v1 : Int32) (S : Mem) : Option Mem :=
  bnd (f_X10_fresher (0 : Int32) S) fun r14 S14 =>
  bnd (f_X10_fresh 3 12 (6 : Int32) r14 S14) fun r17 S17 =>
  (wr S17 3 12 v1 r17).bind fun S20 =>
  if (S20.1 0 22) = 0 then
  (if (S20.1 0 20) = 0 then
  (if (S20.1 0 21) < (7 : Int32) then
  (f_X10_nurseLine_53 v1 S20)
  else
  (if (S20.1 0 21) ≤ (8 : Int32) then
  (f_X10_nurseLine_58 v1 S20)
  else
  (f_X10_nurseLine_53 v1 S20)))
  else
  (f_X10_nurseLine_53 v1 S20))
  else
  (f_X10_nurseLine_58 v1 S20)

set_option maxHeartbeats 4000000 in
set_option maxRecDepth 100000 in
theorem c_X10_nurseLine_58 {X : XT} {loc : Nat → Nat} {Sf : Mem} (hX : AC X loc RX10 cX10_nurseLine none 2 7 0 0) (hQ : RetV X SKM loc 0 0 Sf) (v1 : Int32) (S : Mem) (h : f_X10_nurseLine_58 v1 S = some Sf) : AW X SKM loc 0 0 58 [(0, .ref 0), (1, .int v1)] [] S := by
  unfold f_X10_nurseLine_58 at h
  refine aw_aload_n (pc := 58) hX dX10_nurseLine_58 rfl 0 rfl ?_
  refine gf_X10_19 (pc := 59) hX km0 rfl dX10_nurseLine_59 ?_
  refine aw_iload_n (pc := 62) hX dX10_nurseLine_62 rfl 1 rfl ?_
  refine aw_aload_n (pc := 63) hX dX10_nurseLine_63 rfl 0 rfl ?_
  refine gf_X10_153 (pc := 64) hX km0 rfl dX10_nurseLine_64 ?_
  refine aw_bipush (v := (7 : Int32)) (pc := 67) hX dX10_nurseLine_67 (by decide) ?_
  refine aw_isub (pc := 69) hX dX10_nurseLine_69 ?_
  obtain ⟨S70, hS70, h⟩ := ob h
  refine aw_iast (pc := 70) hX km4 hS70 dX10_nurseLine_70 ?_
  refine aw_aload_n (pc := 71) hX dX10_nurseLine_71 rfl 0 rfl ?_
  obtain ⟨S72, hr72, h⟩ := ob h
  refine aw_cVV (pc := 72) (As := []) (rest := []) hX (c_X10_goOn hr72) ok_X10_goOn kw_6_180 im_X10_goOn se_X10_goOn rfl km0 rfl (by decide) (Nat.le_of_ble_eq_true rfl) rfl dX10_nurseLine_72 (Nat.le_refl 0) (Nat.le_refl 0) ?_
  refine aw_aload_n (pc := 75) hX dX10_nurseLine_75 rfl 0 rfl ?_
  refine gf_X10_22 (pc := 76) hX km0 rfl dX10_nurseLine_76 ?_
  refine aw_iload_n (pc := 79) hX dX10_nurseLine_79 rfl 1 rfl ?_
  refine aw_aload_n (pc := 80) hX dX10_nurseLine_80 rfl 0 rfl ?_
  refine aw_iconst (v := (0 : Int32)) (pc := 81) hX dX10_nurseLine_81 (by decide) ?_
  refine aw_bipush (v := (9 : Int32)) (pc := 82) hX dX10_nurseLine_82 (by decide) ?_
  obtain ⟨r84, S84, hr84, h⟩ := ob2 h
  refine aw_cVI (pc := 84) (As := [.int (0 : Int32), .int (9 : Int32)]) (rest := [.int v1, .ref 5]) hX (c_X10_numeral hr84) ok_X10_numeral kw_6_184 im_X10_numeral se_X10_numeral rfl km0 rfl (by decide) (Nat.le_of_ble_eq_true rfl) rfl dX10_nurseLine_84 (Nat.le_refl 0) (Nat.le_refl 0) ?_
  obtain ⟨S87, hS87, h⟩ := ob h
  refine aw_iast (pc := 87) hX km5 hS87 dX10_nurseLine_87 ?_
  refine aw_aload_n (pc := 88) hX dX10_nurseLine_88 rfl 0 rfl ?_
  refine aw_iconst (v := (0 : Int32)) (pc := 89) hX dX10_nurseLine_89 (by decide) ?_
  refine aw_aload_n (pc := 90) hX dX10_nurseLine_90 rfl 0 rfl ?_
  refine aw_iconst (v := (0 : Int32)) (pc := 91) hX dX10_nurseLine_91 (by decide) ?_
  obtain ⟨r92, S92, hr92, h⟩ := ob2 h
  refine aw_cVI (pc := 92) (As := [.int (0 : Int32)]) (rest := [.int (0 : Int32), .ref 0]) hX (c_X10_fresher hr92) ok_X10_fresher kw_6_165 im_X10_fresher se_X10_fresher rfl km0 rfl (by decide) (Nat.le_of_ble_eq_true rfl) rfl dX10_nurseLine_92 (Nat.le_refl 0) (Nat.le_refl 0) ?_
  refine aw_iconst (v := (1 : Int32)) (pc := 95) hX dX10_nurseLine_95 (by decide) ?_
  refine aw_iadd (pc := 96) hX dX10_nurseLine_96 ?_
  obtain ⟨S97, hr97, h⟩ := ob h
  refine aw_cVV (pc := 97) (As := [.int (0 : Int32), .int (r92 + (1 : Int32))]) (rest := []) hX (c_X10_reads hr97) ok_X10_reads kw_6_119 im_X10_reads se_X10_reads rfl km0 rfl (by decide) (Nat.le_of_ble_eq_true rfl) rfl dX10_nurseLine_97 (Nat.le_refl 0) (Nat.le_refl 0) ?_
  cases h
  exact aw_vret hX hQ dX10_nurseLine_100

set_option maxHeartbeats 4000000 in
set_option maxRecDepth 100000 in
theorem c_X10_nurseLine_53 {X : XT} {loc : Nat → Nat} {Sf : Mem} (hX : AC X loc RX10 cX10_nurseLine none 2 7 0 0) (hQ : RetV X SKM loc 0 0 Sf) (v1 : Int32) (S : Mem) (h : f_X10_nurseLine_53 v1 S = some Sf) : AW X SKM loc 0 0 53 [(0, .ref 0), (1, .int v1)] [] S := by
  unfold f_X10_nurseLine_53 at h
  refine aw_aload_n (pc := 53) hX dX10_nurseLine_53 rfl 0 rfl ?_
  refine aw_iconst (v := (1 : Int32)) (pc := 54) hX dX10_nurseLine_54 (by decide) ?_
  obtain ⟨S55, hr55, h⟩ := ob h
  refine aw_cVV (pc := 55) (As := [.int (1 : Int32)]) (rest := []) hX (c_X10_wrong hr55) ok_X10_wrong kw_6_157 im_X10_wrong se_X10_wrong rfl km0 rfl (by decide) (Nat.le_of_ble_eq_true rfl) rfl dX10_nurseLine_55 (Nat.le_refl 0) (Nat.le_refl 0) ?_
  exact c_X10_nurseLine_58 hX hQ v1 S55 h

set_option maxHeartbeats 4000000 in
set_option maxRecDepth 100000 in
theorem c_X10_nurseLine {v1 : Int32} {S : Mem} {Sf : Mem} (h : f_X10_nurseLine v1 S = some Sf) : MetV yX10_nurseLine cX10_nurseLine 2 none 7 [.ref 0, .int v1] SKM S Sf := by
  refine MetV.intro (by decide +kernel) (Nat.le_of_ble_eq_true rfl) (fun X loc hX hQ => ?_)
  unfold f_X10_nurseLine at h
  show AW X SKM loc 0 0 0 [(0, .ref 0), (1, .int v1)] [] S
  refine aw_aload_n (pc := 0) hX dX10_nurseLine_0 rfl 0 rfl ?_
  refine gf_X10_16 (pc := 1) hX km0 rfl dX10_nurseLine_1 ?_
  refine aw_iload_n (pc := 4) hX dX10_nurseLine_4 rfl 1 rfl ?_
  refine aw_aload_n (pc := 5) hX dX10_nurseLine_5 rfl 0 rfl ?_
  refine aw_aload_n (pc := 6) hX dX10_nurseLine_6 rfl 0 rfl ?_
  refine gf_X10_16 (pc := 7) hX km0 rfl dX10_nurseLine_7 ?_
  refine aw_bipush (v := (6 : Int32)) (pc := 10) hX dX10_nurseLine_10 (by decide) ?_
  refine aw_aload_n (pc := 12) hX dX10_nurseLine_12 rfl 0 rfl ?_
  refine aw_iconst (v := (0 : Int32)) (pc := 13) hX dX10_nurseLine_13 (by decide) ?_
  obtain ⟨r14, S14, hr14, h⟩ := ob2 h
  refine aw_cVI (pc := 14) (As := [.int (0 : Int32)]) (rest := [.int (6 : Int32), .ref 3, .ref 0, .int v1, .ref 3]) hX (c_X10_fresher hr14) ok_X10_fresher kw_6_165 im_X10_fresher se_X10_fresher rfl km0 rfl (by decide) (Nat.le_of_ble_eq_true rfl) rfl dX10_nurseLine_14 (Nat.le_refl 0) (Nat.le_refl 0) ?_
  obtain ⟨r17, S17, hr17, h⟩ := ob2 h
  refine aw_cVI (pc := 17) (As := [.ref 3, .int (6 : Int32), .int r14]) (rest := [.int v1, .ref 3]) hX (c_X10_fresh km3 hr17) ok_X10_fresh kw_6_173 im_X10_fresh se_X10_fresh rfl km0 rfl (by decide) (Nat.le_of_ble_eq_true rfl) rfl dX10_nurseLine_17 (Nat.le_refl 0) (Nat.le_refl 0) ?_
  obtain ⟨S20, hS20, h⟩ := ob h
  refine aw_iast (pc := 20) hX km3 hS20 dX10_nurseLine_20 ?_
  refine aw_aload_n (pc := 21) hX dX10_nurseLine_21 rfl 0 rfl ?_
  refine gf_X10_178 (pc := 22) hX km0 rfl dX10_nurseLine_22 ?_
  refine aw_if_ne (pc := 25) hX (tgt := 58) dX10_nurseLine_25 (by decide) (fun c25 => ?_) (fun c25 => ?_)
  · rw [if_neg c25] at h
    exact c_X10_nurseLine_58 hX hQ v1 S20 h
  · rw [if_pos c25] at h
    refine aw_aload_n (pc := 28) hX dX10_nurseLine_28 rfl 0 rfl ?_
    refine gf_X10_143 (pc := 29) hX km0 rfl dX10_nurseLine_29 ?_
    refine aw_if_ne (pc := 32) hX (tgt := 53) dX10_nurseLine_32 (by decide) (fun c32 => ?_) (fun c32 => ?_)
    · rw [if_neg c32] at h
      exact c_X10_nurseLine_53 hX hQ v1 S20 h
    · rw [if_pos c32] at h
      refine aw_aload_n (pc := 35) hX dX10_nurseLine_35 rfl 0 rfl ?_
      refine gf_X10_153 (pc := 36) hX km0 rfl dX10_nurseLine_36 ?_
      refine aw_bipush (v := (7 : Int32)) (pc := 39) hX dX10_nurseLine_39 (by decide) ?_
      refine aw_icmp_lt (pc := 41) hX (tgt := 53) dX10_nurseLine_41 (by decide) (fun c41 => ?_) (fun c41 => ?_)
      · rw [if_pos c41] at h
        exact c_X10_nurseLine_53 hX hQ v1 S20 h
      · rw [if_neg c41] at h
        refine aw_aload_n (pc := 44) hX dX10_nurseLine_44 rfl 0 rfl ?_
        refine gf_X10_153 (pc := 45) hX km0 rfl dX10_nurseLine_45 ?_
        refine aw_bipush (v := (8 : Int32)) (pc := 48) hX dX10_nurseLine_48 (by decide) ?_
        refine aw_icmp_le (pc := 50) hX (tgt := 58) dX10_nurseLine_50 (by decide) (fun c50 => ?_) (fun c50 => ?_)
        · rw [if_pos c50] at h
          exact c_X10_nurseLine_58 hX hQ v1 S20 h
        · rw [if_neg c50] at h
          exact c_X10_nurseLine_53 hX hQ v1 S20 h

def f_X10_lists (v1 : Int32) (v2 : Int32) (v3 : Int32) (S : Mem) : Option (Int32 × Mem) :=
  nxt (sI S 0 0 (0 : Int32)) fun S2 =>
  bnd (f_X10_isCity v1 S2) fun r6 S6 =>
  if r6 = 0 then
  (some ((-1 : Int32), S6))
  else
  (if v2 < (1 : Int32) then
  (some ((-1 : Int32), S6))
  else
  (if (9 : Int32) < v2 then
  (some ((-1 : Int32), S6))
  else
  (if v3 < (1 : Int32) then
  (some ((-1 : Int32), S6))
  else
  (if v3 ≤ (9 : Int32) then
  (bnd (f_X10_heldBy ((1 : Int32) - v1) S6) fun r40 S40 =>
  bnd (f_X10_bitsOf r40 S40) fun r43 S43 =>
  (dv ((r43 + (v2 * v3)) - (1 : Int32)) (v2 * v3)).bind fun x55 =>
  some (x55, S43))
  else
  (some ((-1 : Int32), S6))))))

set_option maxHeartbeats 4000000 in
set_option maxRecDepth 100000 in
theorem c_X10_lists {v1 : Int32} {v2 : Int32} {v3 : Int32} {S : Mem} {r : Int32} {Sf : Mem} (h : f_X10_lists v1 v2 v3 S = some (r, Sf)) : MetI yX10_lists cX10_lists 4 (some .int) 3 [.ref 0, .int v1, .int v2, .int v3] SKM S r Sf := by
  refine MetI.intro (by decide +kernel) (Nat.le_of_ble_eq_true rfl) (fun X loc hX hQ => ?_)
  unfold f_X10_lists at h
  show AW X SKM loc 0 0 0 [(0, .ref 0), (1, .int v1), (2, .int v2), (3, .int v3)] [] S
  refine aw_aload_n (pc := 0) hX dX10_lists_0 rfl 0 rfl ?_
  refine aw_iconst (v := (0 : Int32)) (pc := 1) hX dX10_lists_1 (by decide) ?_
  refine pf_X10_124 (pc := 2) hX km0 rfl dX10_lists_2 ?_
  obtain ⟨S2, eS2, h⟩ := on h
  refine aw_S eS2 ?_
  refine aw_iload_n (pc := 5) hX dX10_lists_5 rfl 1 rfl ?_
  obtain ⟨r6, S6, hr6, h⟩ := ob2 h
  refine aw_cSI (pc := 6) (As := [.int v1]) (rest := []) hX (c_X10_isCity (sk := SKM) hr6) ok_X10_isCity kw_7_35 st_X10_isCity rfl (by decide) (Nat.le_of_ble_eq_true rfl) rfl dX10_lists_6 (Nat.le_refl 0) (Nat.le_refl 0) ?_
  refine aw_if_eq (pc := 9) hX (tgt := 34) dX10_lists_9 (by decide) (fun c9 => ?_) (fun c9 => ?_)
  · rw [if_pos c9] at h
    refine aw_iconst (v := (-1 : Int32)) (pc := 34) hX dX10_lists_34 (by decide) ?_
    cases h
    exact aw_iret hX hQ dX10_lists_35
  · rw [if_neg c9] at h
    refine aw_iload_n (pc := 12) hX dX10_lists_12 rfl 2 rfl ?_
    refine aw_iconst (v := (1 : Int32)) (pc := 13) hX dX10_lists_13 (by decide) ?_
    refine aw_icmp_lt (pc := 14) hX (tgt := 34) dX10_lists_14 (by decide) (fun c14 => ?_) (fun c14 => ?_)
    · rw [if_pos c14] at h
      refine aw_iconst (v := (-1 : Int32)) (pc := 34) hX dX10_lists_34 (by decide) ?_
      cases h
      exact aw_iret hX hQ dX10_lists_35
    · rw [if_neg c14] at h
      refine aw_iload_n (pc := 17) hX dX10_lists_17 rfl 2 rfl ?_
      refine aw_bipush (v := (9 : Int32)) (pc := 18) hX dX10_lists_18 (by decide) ?_
      refine aw_icmp_gt (pc := 20) hX (tgt := 34) dX10_lists_20 (by decide) (fun c20 => ?_) (fun c20 => ?_)
      · rw [if_pos c20] at h
        refine aw_iconst (v := (-1 : Int32)) (pc := 34) hX dX10_lists_34 (by decide) ?_
        cases h
        exact aw_iret hX hQ dX10_lists_35
      · rw [if_neg c20] at h
        refine aw_iload_n (pc := 23) hX dX10_lists_23 rfl 3 rfl ?_
        refine aw_iconst (v := (1 : Int32)) (pc := 24) hX dX10_lists_24 (by decide) ?_
        refine aw_icmp_lt (pc := 25) hX (tgt := 34) dX10_lists_25 (by decide) (fun c25 => ?_) (fun c25 => ?_)
        · rw [if_pos c25] at h
          refine aw_iconst (v := (-1 : Int32)) (pc := 34) hX dX10_lists_34 (by decide) ?_
          cases h
          exact aw_iret hX hQ dX10_lists_35
        · rw [if_neg c25] at h
          refine aw_iload_n (pc := 28) hX dX10_lists_28 rfl 3 rfl ?_
          refine aw_bipush (v := (9 : Int32)) (pc := 29) hX dX10_lists_29 (by decide) ?_
          refine aw_icmp_le (pc := 31) hX (tgt := 36) dX10_lists_31 (by decide) (fun c31 => ?_) (fun c31 => ?_)
          · rw [if_pos c31] at h
            refine aw_aload_n (pc := 36) hX dX10_lists_36 rfl 0 rfl ?_
            refine aw_iconst (v := (1 : Int32)) (pc := 37) hX dX10_lists_37 (by decide) ?_
            refine aw_iload_n (pc := 38) hX dX10_lists_38 rfl 1 rfl ?_
            refine aw_isub (pc := 39) hX dX10_lists_39 ?_
            obtain ⟨r40, S40, hr40, h⟩ := ob2 h
            refine aw_cVI (pc := 40) (As := [.int ((1 : Int32) - v1)]) (rest := []) hX (c_X10_heldBy hr40) ok_X10_heldBy kw_7_38 im_X10_heldBy se_X10_heldBy rfl km0 rfl (by decide) (Nat.le_of_ble_eq_true rfl) rfl dX10_lists_40 (Nat.le_refl 0) (Nat.le_refl 0) ?_
            obtain ⟨r43, S43, hr43, h⟩ := ob2 h
            refine aw_cSI (pc := 43) (As := [.int r40]) (rest := []) hX (c_X10_bitsOf (sk := SKM) hr43) ok_X10_bitsOf kw_7_197 st_X10_bitsOf rfl (by decide) (Nat.le_of_ble_eq_true rfl) rfl dX10_lists_43 (Nat.le_refl 0) (Nat.le_refl 0) ?_
            refine aw_iload_n (pc := 46) hX dX10_lists_46 rfl 2 rfl ?_
            refine aw_iload_n (pc := 47) hX dX10_lists_47 rfl 3 rfl ?_
            refine aw_imul (pc := 48) hX dX10_lists_48 ?_
            refine aw_iadd (pc := 49) hX dX10_lists_49 ?_
            refine aw_iconst (v := (1 : Int32)) (pc := 50) hX dX10_lists_50 (by decide) ?_
            refine aw_isub (pc := 51) hX dX10_lists_51 ?_
            refine aw_iload_n (pc := 52) hX dX10_lists_52 rfl 2 rfl ?_
            refine aw_iload_n (pc := 53) hX dX10_lists_53 rfl 3 rfl ?_
            refine aw_imul (pc := 54) hX dX10_lists_54 ?_
            obtain ⟨x55, hx55, h⟩ := ob h
            refine aw_idiv (pc := 55) hX dX10_lists_55 hx55 ?_
            cases h
            exact aw_iret hX hQ dX10_lists_56
          · rw [if_neg c31] at h
            refine aw_iconst (v := (-1 : Int32)) (pc := 34) hX dX10_lists_34 (by decide) ?_
            cases h
            exact aw_iret hX hQ dX10_lists_35

def f_X10_mend (v1 : Int32) (S : Mem) : Option (Int32 × Mem) :=
  nxt (sI S 0 0 (0 : Int32)) fun S2 =>
  bnd (f_X10_isDoll v1 S2) fun r7 S7 =>
  if r7 = 0 then
  (some ((-1 : Int32), S7))
  else
  ((rd S7 22 230 v1).bind fun x20 =>
  if x20 = 0 then
  (some ((-2 : Int32), S7))
  else
  ((f_X10_keepNow S7).bind fun S28 =>
  (rd S28 22 230 v1).bind fun x37 =>
  (wr S28 22 230 v1 (x37 - (1 : Int32))).bind fun S40 =>
  (rd S40 22 230 v1).bind fun x46 =>
  some (x46, S40)))

set_option maxHeartbeats 4000000 in
set_option maxRecDepth 100000 in
theorem c_X10_mend {v1 : Int32} {S : Mem} {r : Int32} {Sf : Mem} (h : f_X10_mend v1 S = some (r, Sf)) : MetI yX10_mend cX10_mend 2 (some .int) 2 [.ref 0, .int v1] SKM S r Sf := by
  refine MetI.intro (by decide +kernel) (Nat.le_of_ble_eq_true rfl) (fun X loc hX hQ => ?_)
  unfold f_X10_mend at h
  show AW X SKM loc 0 0 0 [(0, .ref 0), (1, .int v1)] [] S
  refine aw_aload_n (pc := 0) hX dX10_mend_0 rfl 0 rfl ?_
  refine aw_iconst (v := (0 : Int32)) (pc := 1) hX dX10_mend_1 (by decide) ?_
  refine pf_X10_124 (pc := 2) hX km0 rfl dX10_mend_2 ?_
  obtain ⟨S2, eS2, h⟩ := on h
  refine aw_S eS2 ?_
  refine aw_aload_n (pc := 5) hX dX10_mend_5 rfl 0 rfl ?_
  refine aw_iload_n (pc := 6) hX dX10_mend_6 rfl 1 rfl ?_
  obtain ⟨r7, S7, hr7, h⟩ := ob2 h
  refine aw_cVI (pc := 7) (As := [.int v1]) (rest := []) hX (c_X10_isDoll hr7) ok_X10_isDoll kw_7_11 im_X10_isDoll se_X10_isDoll rfl km0 rfl (by decide) (Nat.le_of_ble_eq_true rfl) rfl dX10_mend_7 (Nat.le_refl 0) (Nat.le_refl 0) ?_
  refine aw_if_ne (pc := 10) hX (tgt := 15) dX10_mend_10 (by decide) (fun c10 => ?_) (fun c10 => ?_)
  · rw [if_neg c10] at h
    refine aw_aload_n (pc := 15) hX dX10_mend_15 rfl 0 rfl ?_
    refine gf_X10_78 (pc := 16) hX km0 rfl dX10_mend_16 ?_
    refine aw_iload_n (pc := 19) hX dX10_mend_19 rfl 1 rfl ?_
    obtain ⟨x20, hx20, h⟩ := ob h
    refine aw_iald (pc := 20) hX km22 hx20 dX10_mend_20 ?_
    refine aw_if_ne (pc := 21) hX (tgt := 27) dX10_mend_21 (by decide) (fun c21 => ?_) (fun c21 => ?_)
    · rw [if_neg c21] at h
      refine aw_aload_n (pc := 27) hX dX10_mend_27 rfl 0 rfl ?_
      obtain ⟨S28, hr28, h⟩ := ob h
      refine aw_cVV (pc := 28) (As := []) (rest := []) hX (c_X10_keepNow hr28) ok_X10_keepNow kw_7_106 im_X10_keepNow se_X10_keepNow rfl km0 rfl (by decide) (Nat.le_of_ble_eq_true rfl) rfl dX10_mend_28 (Nat.le_refl 0) (Nat.le_refl 0) ?_
      refine aw_aload_n (pc := 31) hX dX10_mend_31 rfl 0 rfl ?_
      refine gf_X10_78 (pc := 32) hX km0 rfl dX10_mend_32 ?_
      refine aw_iload_n (pc := 35) hX dX10_mend_35 rfl 1 rfl ?_
      refine aw_dup2 (pc := 36) hX dX10_mend_36 rfl rfl ?_
      obtain ⟨x37, hx37, h⟩ := ob h
      refine aw_iald (pc := 37) hX km22 hx37 dX10_mend_37 ?_
      refine aw_iconst (v := (1 : Int32)) (pc := 38) hX dX10_mend_38 (by decide) ?_
      refine aw_isub (pc := 39) hX dX10_mend_39 ?_
      obtain ⟨S40, hS40, h⟩ := ob h
      refine aw_iast (pc := 40) hX km22 hS40 dX10_mend_40 ?_
      refine aw_aload_n (pc := 41) hX dX10_mend_41 rfl 0 rfl ?_
      refine gf_X10_78 (pc := 42) hX km0 rfl dX10_mend_42 ?_
      refine aw_iload_n (pc := 45) hX dX10_mend_45 rfl 1 rfl ?_
      obtain ⟨x46, hx46, h⟩ := ob h
      refine aw_iald (pc := 46) hX km22 hx46 dX10_mend_46 ?_
      cases h
      exact aw_iret hX hQ dX10_mend_47
    · rw [if_pos c21] at h
      refine aw_bipush (v := (-2 : Int32)) (pc := 24) hX dX10_mend_24 (by decide) ?_
      cases h
      exact aw_iret hX hQ dX10_mend_26
  · rw [if_pos c10] at h
    refine aw_iconst (v := (-1 : Int32)) (pc := 13) hX dX10_mend_13 (by decide) ?_
    cases h
    exact aw_iret hX hQ dX10_mend_14

def f_X10_moths (v1 : Int32) (S : Mem) : Option (Int32 × Mem) :=
  nxt (sI S 0 0 (0 : Int32)) fun S2 =>
  bnd (f_X10_isDoll v1 S2) fun r7 S7 =>
  if r7 = 0 then
  (some ((-1 : Int32), S7))
  else
  (bnd (f_X10_isHeld (0 : Int32) v1 S7) fun r16 S16 =>
  if r16 = 0 then
  (some ((-1 : Int32), S16))
  else
  ((rd S16 21 230 v1).bind fun x30 =>
  bnd (f_X10_mothsBy (0 : Int32) v1 x30 S16) fun r31 S31 =>
  some (r31, S31)))

set_option maxHeartbeats 4000000 in
set_option maxRecDepth 100000 in
theorem c_X10_moths {v1 : Int32} {S : Mem} {r : Int32} {Sf : Mem} (h : f_X10_moths v1 S = some (r, Sf)) : MetI yX10_moths cX10_moths 2 (some .int) 5 [.ref 0, .int v1] SKM S r Sf := by
  refine MetI.intro (by decide +kernel) (Nat.le_of_ble_eq_true rfl) (fun X loc hX hQ => ?_)
  unfold f_X10_moths at h
  show AW X SKM loc 0 0 0 [(0, .ref 0), (1, .int v1)] [] S
  refine aw_aload_n (pc := 0) hX dX10_moths_0 rfl 0 rfl ?_
  refine aw_iconst (v := (0 : Int32)) (pc := 1) hX dX10_moths_1 (by decide) ?_
  refine pf_X10_124 (pc := 2) hX km0 rfl dX10_moths_2 ?_
  obtain ⟨S2, eS2, h⟩ := on h
  refine aw_S eS2 ?_
  refine aw_aload_n (pc := 5) hX dX10_moths_5 rfl 0 rfl ?_
  refine aw_iload_n (pc := 6) hX dX10_moths_6 rfl 1 rfl ?_
  obtain ⟨r7, S7, hr7, h⟩ := ob2 h
  refine aw_cVI (pc := 7) (As := [.int v1]) (rest := []) hX (c_X10_isDoll hr7) ok_X10_isDoll kw_7_11 im_X10_isDoll se_X10_isDoll rfl km0 rfl (by decide) (Nat.le_of_ble_eq_true rfl) rfl dX10_moths_7 (Nat.le_refl 0) (Nat.le_refl 0) ?_
  refine aw_if_eq (pc := 10) hX (tgt := 37) dX10_moths_10 (by decide) (fun c10 => ?_) (fun c10 => ?_)
  · rw [if_pos c10] at h
    refine aw_iconst (v := (-1 : Int32)) (pc := 37) hX dX10_moths_37 (by decide) ?_
    cases h
    exact aw_iret hX hQ dX10_moths_38
  · rw [if_neg c10] at h
    refine aw_aload_n (pc := 13) hX dX10_moths_13 rfl 0 rfl ?_
    refine aw_iconst (v := (0 : Int32)) (pc := 14) hX dX10_moths_14 (by decide) ?_
    refine aw_iload_n (pc := 15) hX dX10_moths_15 rfl 1 rfl ?_
    obtain ⟨r16, S16, hr16, h⟩ := ob2 h
    refine aw_cVI (pc := 16) (As := [.int (0 : Int32), .int v1]) (rest := []) hX (c_X10_isHeld hr16) ok_X10_isHeld kw_7_27 im_X10_isHeld se_X10_isHeld rfl km0 rfl (by decide) (Nat.le_of_ble_eq_true rfl) rfl dX10_moths_16 (Nat.le_refl 0) (Nat.le_refl 0) ?_
    refine aw_if_eq (pc := 19) hX (tgt := 37) dX10_moths_19 (by decide) (fun c19 => ?_) (fun c19 => ?_)
    · rw [if_pos c19] at h
      refine aw_iconst (v := (-1 : Int32)) (pc := 37) hX dX10_moths_37 (by decide) ?_
      cases h
      exact aw_iret hX hQ dX10_moths_38
    · rw [if_neg c19] at h
      refine aw_aload_n (pc := 22) hX dX10_moths_22 rfl 0 rfl ?_
      refine aw_iconst (v := (0 : Int32)) (pc := 23) hX dX10_moths_23 (by decide) ?_
      refine aw_iload_n (pc := 24) hX dX10_moths_24 rfl 1 rfl ?_
      refine aw_aload_n (pc := 25) hX dX10_moths_25 rfl 0 rfl ?_
      refine gf_X10_75 (pc := 26) hX km0 rfl dX10_moths_26 ?_
      refine aw_iload_n (pc := 29) hX dX10_moths_29 rfl 1 rfl ?_
      obtain ⟨x30, hx30, h⟩ := ob h
      refine aw_iald (pc := 30) hX km21 hx30 dX10_moths_30 ?_
      obtain ⟨r31, S31, hr31, h⟩ := ob2 h
      refine aw_cVI (pc := 31) (As := [.int (0 : Int32), .int v1, .int x30]) (rest := []) hX (c_X10_mothsBy hr31) ok_X10_mothsBy kw_7_54 im_X10_mothsBy se_X10_mothsBy rfl km0 rfl (by decide) (Nat.le_of_ble_eq_true rfl) rfl dX10_moths_31 (Nat.le_refl 0) (Nat.le_refl 0) ?_
      refine aw_goto (tgt := 38) (pc := 34) hX dX10_moths_34 (by decide) ?_
      cases h
      exact aw_iret hX hQ dX10_moths_38

def f_X10_named (v1 : Int32) (v2 : Int32) (S : Mem) : Option (Int32 × Mem) :=
  nxt (sI S 0 0 (0 : Int32)) fun S2 =>
  if v1 = 0 then
  ((rd S2 2 14 (0 : Int32)).bind fun x42 =>
  bnd (f_X10_found 3 12 (0 : Int32) x42 v2 S2) fun r44 S44 =>
  some (r44, S44))
  else
  (if v1 = 1 then
  ((rd S2 2 14 (1 : Int32)).bind fun x58 =>
  bnd (f_X10_found 6 20 (0 : Int32) x58 v2 S2) fun r60 S60 =>
  some (r60, S60))
  else
  (some ((-1 : Int32), S2)))

set_option maxHeartbeats 4000000 in
set_option maxRecDepth 100000 in
theorem c_X10_named {v1 : Int32} {v2 : Int32} {S : Mem} {r : Int32} {Sf : Mem} (h : f_X10_named v1 v2 S = some (r, Sf)) : MetI yX10_named cX10_named 3 (some .int) 1 [.ref 0, .int v1, .int v2] SKM S r Sf := by
  refine MetI.intro (by decide +kernel) (Nat.le_of_ble_eq_true rfl) (fun X loc hX hQ => ?_)
  unfold f_X10_named at h
  show AW X SKM loc 0 0 0 [(0, .ref 0), (1, .int v1), (2, .int v2)] [] S
  refine aw_aload_n (pc := 0) hX dX10_named_0 rfl 0 rfl ?_
  refine aw_iconst (v := (0 : Int32)) (pc := 1) hX dX10_named_1 (by decide) ?_
  refine pf_X10_124 (pc := 2) hX km0 rfl dX10_named_2 ?_
  obtain ⟨S2, eS2, h⟩ := on h
  refine aw_S eS2 ?_
  refine aw_iload_n (pc := 5) hX dX10_named_5 rfl 1 rfl ?_
  by_cases c6_0 : v1 = 0
  · rw [if_pos c6_0] at h
    refine aw_look (pc := 6) hX (off := 26) (tgt := 32) dX10_named_6 (by decide) (by rw [c6_0]; decide) (by decide) ?_
    refine aw_aload_n (pc := 32) hX dX10_named_32 rfl 0 rfl ?_
    refine gf_X10_16 (pc := 33) hX km0 rfl dX10_named_33 ?_
    refine aw_iconst (v := (0 : Int32)) (pc := 36) hX dX10_named_36 (by decide) ?_
    refine aw_aload_n (pc := 37) hX dX10_named_37 rfl 0 rfl ?_
    refine gf_X10_13 (pc := 38) hX km0 rfl dX10_named_38 ?_
    refine aw_iconst (v := (0 : Int32)) (pc := 41) hX dX10_named_41 (by decide) ?_
    obtain ⟨x42, hx42, h⟩ := ob h
    refine aw_iald (pc := 42) hX km2 hx42 dX10_named_42 ?_
    refine aw_iload_n (pc := 43) hX dX10_named_43 rfl 2 rfl ?_
    obtain ⟨r44, S44, hr44, h⟩ := ob2 h
    refine aw_cSI (pc := 44) (As := [.ref 3, .int (0 : Int32), .int x42, .int v2]) (rest := []) hX (c_X10_found (sk := SKM) km3 hr44) ok_X10_found kw_6_177 st_X10_found rfl (by decide) (Nat.le_of_ble_eq_true rfl) rfl dX10_named_44 (Nat.le_refl 0) (Nat.le_refl 0) ?_
    cases h
    exact aw_iret hX hQ dX10_named_47
  · rw [if_neg c6_0] at h
    by_cases c6_1 : v1 = 1
    · rw [if_pos c6_1] at h
      refine aw_look (pc := 6) hX (off := 42) (tgt := 48) dX10_named_6 (by decide) (by rw [c6_1]; decide) (by decide) ?_
      refine aw_aload_n (pc := 48) hX dX10_named_48 rfl 0 rfl ?_
      refine gf_X10_25 (pc := 49) hX km0 rfl dX10_named_49 ?_
      refine aw_iconst (v := (0 : Int32)) (pc := 52) hX dX10_named_52 (by decide) ?_
      refine aw_aload_n (pc := 53) hX dX10_named_53 rfl 0 rfl ?_
      refine gf_X10_13 (pc := 54) hX km0 rfl dX10_named_54 ?_
      refine aw_iconst (v := (1 : Int32)) (pc := 57) hX dX10_named_57 (by decide) ?_
      obtain ⟨x58, hx58, h⟩ := ob h
      refine aw_iald (pc := 58) hX km2 hx58 dX10_named_58 ?_
      refine aw_iload_n (pc := 59) hX dX10_named_59 rfl 2 rfl ?_
      obtain ⟨r60, S60, hr60, h⟩ := ob2 h
      refine aw_cSI (pc := 60) (As := [.ref 6, .int (0 : Int32), .int x58, .int v2]) (rest := []) hX (c_X10_found (sk := SKM) km6 hr60) ok_X10_found kw_6_177 st_X10_found rfl (by decide) (Nat.le_of_ble_eq_true rfl) rfl dX10_named_60 (Nat.le_refl 0) (Nat.le_refl 0) ?_
      cases h
      exact aw_iret hX hQ dX10_named_63
    · rw [if_neg c6_1] at h
      refine aw_look (pc := 6) hX (off := 58) (tgt := 64) dX10_named_6 (by decide) (by have e0 := ne_i c6_0 (by decide : (0 : Int32).toInt = 0); have e1 := ne_i c6_1 (by decide : (1 : Int32).toInt = 1); exact lk_out (by simp; omega)) (by decide) ?_
      refine aw_iconst (v := (-1 : Int32)) (pc := 64) hX dX10_named_64 (by decide) ?_
      cases h
      exact aw_iret hX hQ dX10_named_65

def f_X10_note (v1 : Int32) (v2 : Int32) (v3 : Int32) (v4 : Int32) (S : Mem) : Option (Int32 × Mem) :=
  nxt (sI S 0 0 (0 : Int32)) fun S2 =>
  if v1 < (1 : Int32) then
  (some ((-1 : Int32), S2))
  else
  (if (40 : Int32) < v1 then
  (some ((-1 : Int32), S2))
  else
  (bnd (f_X10_isDoll v2 S2) fun r18 S18 =>
  if r18 = 0 then
  (some ((-1 : Int32), S18))
  else
  (if v3 < 0 then
  (some ((-1 : Int32), S18))
  else
  (if (9 : Int32) < v3 then
  (some ((-1 : Int32), S18))
  else
  (if (S18.1 0 50) = (24 : Int32) then
  (some ((-1 : Int32), S18))
  else
  ((wr S18 28 24 (S18.1 0 50) v1).bind fun S54 =>
  (wr S54 29 24 (S54.1 0 50) v2).bind fun S64 =>
  (wr S64 30 24 (S64.1 0 50) v3).bind fun S74 =>
  (wrZ S74 31 24 (S74.1 0 50) v4).bind fun S85 =>
  (wr S85 32 24 (S85.1 0 50) (-1 : Int32)).bind fun S95 =>
  nxt (sI S95 0 50 ((S95.1 0 50) + (1 : Int32))) fun S103 =>
  some (((S103.1 0 50) - (1 : Int32)), S103)))))))

set_option maxHeartbeats 4000000 in
set_option maxRecDepth 100000 in
theorem c_X10_note {v1 : Int32} {v2 : Int32} {v3 : Int32} {v4 : Int32} {S : Mem} {r : Int32} {Sf : Mem} (h : f_X10_note v1 v2 v3 v4 S = some (r, Sf)) : MetI yX10_note cX10_note 5 (some .int) 1 [.ref 0, .int v1, .int v2, .int v3, .int v4] SKM S r Sf := by
  refine MetI.intro (by decide +kernel) (Nat.le_of_ble_eq_true rfl) (fun X loc hX hQ => ?_)
  unfold f_X10_note at h
  show AW X SKM loc 0 0 0 [(0, .ref 0), (1, .int v1), (2, .int v2), (3, .int v3), (4, .int v4)] [] S
  refine aw_aload_n (pc := 0) hX dX10_note_0 rfl 0 rfl ?_
  refine aw_iconst (v := (0 : Int32)) (pc := 1) hX dX10_note_1 (by decide) ?_
  refine pf_X10_124 (pc := 2) hX km0 rfl dX10_note_2 ?_
  obtain ⟨S2, eS2, h⟩ := on h
  refine aw_S eS2 ?_
  refine aw_iload_n (pc := 5) hX dX10_note_5 rfl 1 rfl ?_
  refine aw_iconst (v := (1 : Int32)) (pc := 6) hX dX10_note_6 (by decide) ?_
  refine aw_icmp_lt (pc := 7) hX (tgt := 43) dX10_note_7 (by decide) (fun c7 => ?_) (fun c7 => ?_)
  · rw [if_pos c7] at h
    refine aw_iconst (v := (-1 : Int32)) (pc := 43) hX dX10_note_43 (by decide) ?_
    cases h
    exact aw_iret hX hQ dX10_note_44
  · rw [if_neg c7] at h
    refine aw_iload_n (pc := 10) hX dX10_note_10 rfl 1 rfl ?_
    refine aw_bipush (v := (40 : Int32)) (pc := 11) hX dX10_note_11 (by decide) ?_
    refine aw_icmp_gt (pc := 13) hX (tgt := 43) dX10_note_13 (by decide) (fun c13 => ?_) (fun c13 => ?_)
    · rw [if_pos c13] at h
      refine aw_iconst (v := (-1 : Int32)) (pc := 43) hX dX10_note_43 (by decide) ?_
      cases h
      exact aw_iret hX hQ dX10_note_44
    · rw [if_neg c13] at h
      refine aw_aload_n (pc := 16) hX dX10_note_16 rfl 0 rfl ?_
      refine aw_iload_n (pc := 17) hX dX10_note_17 rfl 2 rfl ?_
      obtain ⟨r18, S18, hr18, h⟩ := ob2 h
      refine aw_cVI (pc := 18) (As := [.int v2]) (rest := []) hX (c_X10_isDoll hr18) ok_X10_isDoll kw_7_11 im_X10_isDoll se_X10_isDoll rfl km0 rfl (by decide) (Nat.le_of_ble_eq_true rfl) rfl dX10_note_18 (Nat.le_refl 0) (Nat.le_refl 0) ?_
      refine aw_if_eq (pc := 21) hX (tgt := 43) dX10_note_21 (by decide) (fun c21 => ?_) (fun c21 => ?_)
      · rw [if_pos c21] at h
        refine aw_iconst (v := (-1 : Int32)) (pc := 43) hX dX10_note_43 (by decide) ?_
        cases h
        exact aw_iret hX hQ dX10_note_44
      · rw [if_neg c21] at h
        refine aw_iload_n (pc := 24) hX dX10_note_24 rfl 3 rfl ?_
        refine aw_if_lt (pc := 25) hX (tgt := 43) dX10_note_25 (by decide) (fun c25 => ?_) (fun c25 => ?_)
        · rw [if_pos c25] at h
          refine aw_iconst (v := (-1 : Int32)) (pc := 43) hX dX10_note_43 (by decide) ?_
          cases h
          exact aw_iret hX hQ dX10_note_44
        · rw [if_neg c25] at h
          refine aw_iload_n (pc := 28) hX dX10_note_28 rfl 3 rfl ?_
          refine aw_bipush (v := (9 : Int32)) (pc := 29) hX dX10_note_29 (by decide) ?_
          refine aw_icmp_gt (pc := 31) hX (tgt := 43) dX10_note_31 (by decide) (fun c31 => ?_) (fun c31 => ?_)
          · rw [if_pos c31] at h
            refine aw_iconst (v := (-1 : Int32)) (pc := 43) hX dX10_note_43 (by decide) ?_
            cases h
            exact aw_iret hX hQ dX10_note_44
          · rw [if_neg c31] at h
            refine aw_aload_n (pc := 34) hX dX10_note_34 rfl 0 rfl ?_
            refine gf_X10_277 (pc := 35) hX km0 rfl dX10_note_35 ?_
            refine aw_bipush (v := (24 : Int32)) (pc := 38) hX dX10_note_38 (by decide) ?_
            refine aw_icmp_ne (pc := 40) hX (tgt := 45) dX10_note_40 (by decide) (fun c40 => ?_) (fun c40 => ?_)
            · rw [if_neg c40] at h
              refine aw_aload_n (pc := 45) hX dX10_note_45 rfl 0 rfl ?_
              refine gf_X10_102 (pc := 46) hX km0 rfl dX10_note_46 ?_
              refine aw_aload_n (pc := 49) hX dX10_note_49 rfl 0 rfl ?_
              refine gf_X10_277 (pc := 50) hX km0 rfl dX10_note_50 ?_
              refine aw_iload_n (pc := 53) hX dX10_note_53 rfl 1 rfl ?_
              obtain ⟨S54, hS54, h⟩ := ob h
              refine aw_iast (pc := 54) hX km28 hS54 dX10_note_54 ?_
              refine aw_aload_n (pc := 55) hX dX10_note_55 rfl 0 rfl ?_
              refine gf_X10_105 (pc := 56) hX km0 rfl dX10_note_56 ?_
              refine aw_aload_n (pc := 59) hX dX10_note_59 rfl 0 rfl ?_
              refine gf_X10_277 (pc := 60) hX km0 rfl dX10_note_60 ?_
              refine aw_iload_n (pc := 63) hX dX10_note_63 rfl 2 rfl ?_
              obtain ⟨S64, hS64, h⟩ := ob h
              refine aw_iast (pc := 64) hX km29 hS64 dX10_note_64 ?_
              refine aw_aload_n (pc := 65) hX dX10_note_65 rfl 0 rfl ?_
              refine gf_X10_108 (pc := 66) hX km0 rfl dX10_note_66 ?_
              refine aw_aload_n (pc := 69) hX dX10_note_69 rfl 0 rfl ?_
              refine gf_X10_277 (pc := 70) hX km0 rfl dX10_note_70 ?_
              refine aw_iload_n (pc := 73) hX dX10_note_73 rfl 3 rfl ?_
              obtain ⟨S74, hS74, h⟩ := ob h
              refine aw_iast (pc := 74) hX km30 hS74 dX10_note_74 ?_
              refine aw_aload_n (pc := 75) hX dX10_note_75 rfl 0 rfl ?_
              refine gf_X10_111 (pc := 76) hX km0 rfl dX10_note_76 ?_
              refine aw_aload_n (pc := 79) hX dX10_note_79 rfl 0 rfl ?_
              refine gf_X10_277 (pc := 80) hX km0 rfl dX10_note_80 ?_
              refine aw_iload (pc := 83) hX dX10_note_83 4 rfl ?_
              obtain ⟨S85, hS85, h⟩ := ob h
              refine aw_zast (pc := 85) hX km31 hS85 dX10_note_85 ?_
              refine aw_aload_n (pc := 86) hX dX10_note_86 rfl 0 rfl ?_
              refine gf_X10_115 (pc := 87) hX km0 rfl dX10_note_87 ?_
              refine aw_aload_n (pc := 90) hX dX10_note_90 rfl 0 rfl ?_
              refine gf_X10_277 (pc := 91) hX km0 rfl dX10_note_91 ?_
              refine aw_iconst (v := (-1 : Int32)) (pc := 94) hX dX10_note_94 (by decide) ?_
              obtain ⟨S95, hS95, h⟩ := ob h
              refine aw_iast (pc := 95) hX km32 hS95 dX10_note_95 ?_
              refine aw_aload_n (pc := 96) hX dX10_note_96 rfl 0 rfl ?_
              refine aw_dup (pc := 97) hX dX10_note_97 rfl ?_
              refine gf_X10_277 (pc := 98) hX km0 rfl dX10_note_98 ?_
              refine aw_iconst (v := (1 : Int32)) (pc := 101) hX dX10_note_101 (by decide) ?_
              refine aw_iadd (pc := 102) hX dX10_note_102 ?_
              refine pf_X10_277 (pc := 103) hX km0 rfl dX10_note_103 ?_
              obtain ⟨S103, eS103, h⟩ := on h
              refine aw_S eS103 ?_
              refine aw_aload_n (pc := 106) hX dX10_note_106 rfl 0 rfl ?_
              refine gf_X10_277 (pc := 107) hX km0 rfl dX10_note_107 ?_
              refine aw_iconst (v := (1 : Int32)) (pc := 110) hX dX10_note_110 (by decide) ?_
              refine aw_isub (pc := 111) hX dX10_note_111 ?_
              cases h
              exact aw_iret hX hQ dX10_note_112
            · rw [if_pos c40] at h
              refine aw_iconst (v := (-1 : Int32)) (pc := 43) hX dX10_note_43 (by decide) ?_
              cases h
              exact aw_iret hX hQ dX10_note_44

def f_X10_nurse_54 : Nat → Int32 → Int32 → Int32 → Mem → Option (Int32 × Mem)
  | 0, _, _, _, _ => none
  | n + 1, v1, v3, v4, S =>
  (rd S 2 14 (1 : Int32)).bind fun x61 =>
  if x61 ≤ v4 then
  (some (v3, S))
  else
  (bnd (f_X10_isHeld (0 : Int32) v4 S) fun r70 S70 =>
  if r70 = 0 then
  (f_X10_nurse_54 n v1 (v3 + (0 : Int32)) (v4 + 1) S70)
  else
  ((rd S70 21 230 v4).bind fun x82 =>
  if x82 = v1 then
  (f_X10_nurse_54 n v1 (v3 + (1 : Int32)) (v4 + 1) S70)
  else
  (f_X10_nurse_54 n v1 (v3 + (0 : Int32)) (v4 + 1) S70)))

def f_X10_nurse (v1 : Int32) (v2 : Int32) (S : Mem) : Option (Int32 × Mem) :=
  nxt (sI S 0 0 (0 : Int32)) fun S2 =>
  bnd (f_X10_isNurse v1 S2) fun r7 S7 =>
  if r7 = 0 then
  (some ((-1 : Int32), S7))
  else
  (if v2 < 0 then
  (some ((-1 : Int32), S7))
  else
  (if v2 ≤ (2 : Int32) then
  (if (2 : Int32) ≤ v2 then
  (f_X10_nurse_54 FU v1 (0 : Int32) (0 : Int32) S7)
  else
  (if v2 = 0 then
  ((rd S7 4 12 v1).bind fun x38 =>
  some (x38, S7))
  else
  ((rd S7 5 12 v1).bind fun x47 =>
  some (x47, S7))))
  else
  (some ((-1 : Int32), S7))))

set_option maxHeartbeats 4000000 in
set_option maxRecDepth 100000 in
theorem c_X10_nurse_54 {X : XT} {loc : Nat → Nat} {r : Int32} {Sf : Mem} (hX : AC X loc RX10 cX10_nurse (some .int) 5 1 0 0) (hQ : RetI X SKM loc 0 0 r Sf) : ∀ (n : Nat) (v1 : Int32) (v3 : Int32) (v4 : Int32) (S : Mem), f_X10_nurse_54 n v1 v3 v4 S = some (r, Sf) → AW X SKM loc 0 0 54 [(0, .ref 0), (1, .int v1), (3, .int v3), (4, .int v4)] [] S := by
  intro n
  induction n with
  | zero => intro v1 v3 v4 S h; cases h
  | succ n ih =>
    intro v1 v3 v4 S h
    unfold f_X10_nurse_54 at h
    refine aw_iload (pc := 54) hX dX10_nurse_54 3 rfl ?_
    refine aw_aload_n (pc := 56) hX dX10_nurse_56 rfl 0 rfl ?_
    refine gf_X10_13 (pc := 57) hX km0 rfl dX10_nurse_57 ?_
    refine aw_iconst (v := (1 : Int32)) (pc := 60) hX dX10_nurse_60 (by decide) ?_
    obtain ⟨x61, hx61, h⟩ := ob h
    refine aw_iald (pc := 61) hX km2 hx61 dX10_nurse_61 ?_
    refine aw_icmp_ge (pc := 62) hX (tgt := 100) dX10_nurse_62 (by decide) (fun c62 => ?_) (fun c62 => ?_)
    · rw [if_pos c62] at h
      refine aw_iload_n (pc := 100) hX dX10_nurse_100 rfl 2 rfl ?_
      cases h
      exact aw_iret hX hQ dX10_nurse_101
    · rw [if_neg c62] at h
      refine aw_iload_n (pc := 65) hX dX10_nurse_65 rfl 2 rfl ?_
      refine aw_aload_n (pc := 66) hX dX10_nurse_66 rfl 0 rfl ?_
      refine aw_iconst (v := (0 : Int32)) (pc := 67) hX dX10_nurse_67 (by decide) ?_
      refine aw_iload (pc := 68) hX dX10_nurse_68 3 rfl ?_
      obtain ⟨r70, S70, hr70, h⟩ := ob2 h
      refine aw_cVI (pc := 70) (As := [.int (0 : Int32), .int v4]) (rest := [.int v3]) hX (c_X10_isHeld hr70) ok_X10_isHeld kw_7_27 im_X10_isHeld se_X10_isHeld rfl km0 rfl (by decide) (Nat.le_of_ble_eq_true rfl) rfl dX10_nurse_70 (Nat.le_refl 0) (Nat.le_refl 0) ?_
      refine aw_if_eq (pc := 73) hX (tgt := 91) dX10_nurse_73 (by decide) (fun c73 => ?_) (fun c73 => ?_)
      · rw [if_pos c73] at h
        refine aw_iconst (v := (0 : Int32)) (pc := 91) hX dX10_nurse_91 (by decide) ?_
        refine aw_iadd (pc := 92) hX dX10_nurse_92 ?_
        refine aw_istore_n (ls' := [(3, .int (v3 + (0 : Int32))), (0, .ref 0), (1, .int v1), (4, .int v4)]) (pc := 93) hX dX10_nurse_93 rfl (by decide) rfl ?_
        refine aw_iinc (v := (v4 + 1)) (ls' := [(4, .int (v4 + 1)), (3, .int (v3 + (0 : Int32))), (0, .ref 0), (1, .int v1)]) (pc := 94) hX dX10_nurse_94 (pos := 3) rfl (by first | rfl | decide) (by decide) rfl ?_
        refine aw_goto (tgt := 54) (pc := 97) hX dX10_nurse_97 (by decide) ?_
        refine aw_sub (ls' := [(0, .ref 0), (1, .int v1), (3, .int (v3 + (0 : Int32))), (4, .int (v4 + 1))]) [2, 3, 1, 0] rfl ?_
        exact ih v1 (v3 + (0 : Int32)) (v4 + 1) S70 h
      · rw [if_neg c73] at h
        refine aw_aload_n (pc := 76) hX dX10_nurse_76 rfl 0 rfl ?_
        refine gf_X10_75 (pc := 77) hX km0 rfl dX10_nurse_77 ?_
        refine aw_iload (pc := 80) hX dX10_nurse_80 3 rfl ?_
        obtain ⟨x82, hx82, h⟩ := ob h
        refine aw_iald (pc := 82) hX km21 hx82 dX10_nurse_82 ?_
        refine aw_iload_n (pc := 83) hX dX10_nurse_83 rfl 1 rfl ?_
        refine aw_icmp_ne (pc := 84) hX (tgt := 91) dX10_nurse_84 (by decide) (fun c84 => ?_) (fun c84 => ?_)
        · rw [if_neg c84] at h
          refine aw_iconst (v := (0 : Int32)) (pc := 91) hX dX10_nurse_91 (by decide) ?_
          refine aw_iadd (pc := 92) hX dX10_nurse_92 ?_
          refine aw_istore_n (ls' := [(3, .int (v3 + (0 : Int32))), (0, .ref 0), (1, .int v1), (4, .int v4)]) (pc := 93) hX dX10_nurse_93 rfl (by decide) rfl ?_
          refine aw_iinc (v := (v4 + 1)) (ls' := [(4, .int (v4 + 1)), (3, .int (v3 + (0 : Int32))), (0, .ref 0), (1, .int v1)]) (pc := 94) hX dX10_nurse_94 (pos := 3) rfl (by first | rfl | decide) (by decide) rfl ?_
          refine aw_goto (tgt := 54) (pc := 97) hX dX10_nurse_97 (by decide) ?_
          refine aw_sub (ls' := [(0, .ref 0), (1, .int v1), (3, .int (v3 + (0 : Int32))), (4, .int (v4 + 1))]) [2, 3, 1, 0] rfl ?_
          exact ih v1 (v3 + (0 : Int32)) (v4 + 1) S70 h
        · rw [if_pos c84] at h
          refine aw_iconst (v := (1 : Int32)) (pc := 87) hX dX10_nurse_87 (by decide) ?_
          refine aw_goto (tgt := 92) (pc := 88) hX dX10_nurse_88 (by decide) ?_
          refine aw_iadd (pc := 92) hX dX10_nurse_92 ?_
          refine aw_istore_n (ls' := [(3, .int (v3 + (1 : Int32))), (0, .ref 0), (1, .int v1), (4, .int v4)]) (pc := 93) hX dX10_nurse_93 rfl (by decide) rfl ?_
          refine aw_iinc (v := (v4 + 1)) (ls' := [(4, .int (v4 + 1)), (3, .int (v3 + (1 : Int32))), (0, .ref 0), (1, .int v1)]) (pc := 94) hX dX10_nurse_94 (pos := 3) rfl (by first | rfl | decide) (by decide) rfl ?_
          refine aw_goto (tgt := 54) (pc := 97) hX dX10_nurse_97 (by decide) ?_
          refine aw_sub (ls' := [(0, .ref 0), (1, .int v1), (3, .int (v3 + (1 : Int32))), (4, .int (v4 + 1))]) [2, 3, 1, 0] rfl ?_
          exact ih v1 (v3 + (1 : Int32)) (v4 + 1) S70 h

set_option maxHeartbeats 4000000 in
set_option maxRecDepth 100000 in
theorem c_X10_nurse {v1 : Int32} {v2 : Int32} {S : Mem} {r : Int32} {Sf : Mem} (h : f_X10_nurse v1 v2 S = some (r, Sf)) : MetI yX10_nurse cX10_nurse 5 (some .int) 1 [.ref 0, .int v1, .int v2] SKM S r Sf := by
  refine MetI.intro (by decide +kernel) (Nat.le_of_ble_eq_true rfl) (fun X loc hX hQ => ?_)
  unfold f_X10_nurse at h
  show AW X SKM loc 0 0 0 [(0, .ref 0), (1, .int v1), (2, .int v2)] [] S
  refine aw_aload_n (pc := 0) hX dX10_nurse_0 rfl 0 rfl ?_
  refine aw_iconst (v := (0 : Int32)) (pc := 1) hX dX10_nurse_1 (by decide) ?_
  refine pf_X10_124 (pc := 2) hX km0 rfl dX10_nurse_2 ?_
  obtain ⟨S2, eS2, h⟩ := on h
  refine aw_S eS2 ?_
  refine aw_aload_n (pc := 5) hX dX10_nurse_5 rfl 0 rfl ?_
  refine aw_iload_n (pc := 6) hX dX10_nurse_6 rfl 1 rfl ?_
  obtain ⟨r7, S7, hr7, h⟩ := ob2 h
  refine aw_cVI (pc := 7) (As := [.int v1]) (rest := []) hX (c_X10_isNurse hr7) ok_X10_isNurse kw_7_23 im_X10_isNurse se_X10_isNurse rfl km0 rfl (by decide) (Nat.le_of_ble_eq_true rfl) rfl dX10_nurse_7 (Nat.le_refl 0) (Nat.le_refl 0) ?_
  refine aw_if_eq (pc := 10) hX (tgt := 22) dX10_nurse_10 (by decide) (fun c10 => ?_) (fun c10 => ?_)
  · rw [if_pos c10] at h
    refine aw_iconst (v := (-1 : Int32)) (pc := 22) hX dX10_nurse_22 (by decide) ?_
    cases h
    exact aw_iret hX hQ dX10_nurse_23
  · rw [if_neg c10] at h
    refine aw_iload_n (pc := 13) hX dX10_nurse_13 rfl 2 rfl ?_
    refine aw_if_lt (pc := 14) hX (tgt := 22) dX10_nurse_14 (by decide) (fun c14 => ?_) (fun c14 => ?_)
    · rw [if_pos c14] at h
      refine aw_iconst (v := (-1 : Int32)) (pc := 22) hX dX10_nurse_22 (by decide) ?_
      cases h
      exact aw_iret hX hQ dX10_nurse_23
    · rw [if_neg c14] at h
      refine aw_iload_n (pc := 17) hX dX10_nurse_17 rfl 2 rfl ?_
      refine aw_iconst (v := (2 : Int32)) (pc := 18) hX dX10_nurse_18 (by decide) ?_
      refine aw_icmp_le (pc := 19) hX (tgt := 24) dX10_nurse_19 (by decide) (fun c19 => ?_) (fun c19 => ?_)
      · rw [if_pos c19] at h
        refine aw_iload_n (pc := 24) hX dX10_nurse_24 rfl 2 rfl ?_
        refine aw_iconst (v := (2 : Int32)) (pc := 25) hX dX10_nurse_25 (by decide) ?_
        refine aw_icmp_ge (pc := 26) hX (tgt := 49) dX10_nurse_26 (by decide) (fun c26 => ?_) (fun c26 => ?_)
        · rw [if_pos c26] at h
          refine aw_iconst (v := (0 : Int32)) (pc := 49) hX dX10_nurse_49 (by decide) ?_
          refine aw_istore_n (ls' := [(3, .int (0 : Int32)), (0, .ref 0), (1, .int v1), (2, .int v2)]) (pc := 50) hX dX10_nurse_50 rfl (by decide) rfl ?_
          refine aw_iconst (v := (0 : Int32)) (pc := 51) hX dX10_nurse_51 (by decide) ?_
          refine aw_istore (ls' := [(4, .int (0 : Int32)), (3, .int (0 : Int32)), (0, .ref 0), (1, .int v1), (2, .int v2)]) (pc := 52) hX dX10_nurse_52 (by decide) rfl ?_
          refine aw_sub (ls' := [(0, .ref 0), (1, .int v1), (3, .int (0 : Int32)), (4, .int (0 : Int32))]) [2, 3, 1, 0] rfl ?_
          exact c_X10_nurse_54 hX hQ FU v1 (0 : Int32) (0 : Int32) S7 h
        · rw [if_neg c26] at h
          refine aw_iload_n (pc := 29) hX dX10_nurse_29 rfl 2 rfl ?_
          refine aw_if_ne (pc := 30) hX (tgt := 42) dX10_nurse_30 (by decide) (fun c30 => ?_) (fun c30 => ?_)
          · rw [if_neg c30] at h
            refine aw_aload_n (pc := 42) hX dX10_nurse_42 rfl 0 rfl ?_
            refine gf_X10_22 (pc := 43) hX km0 rfl dX10_nurse_43 ?_
            refine aw_iload_n (pc := 46) hX dX10_nurse_46 rfl 1 rfl ?_
            obtain ⟨x47, hx47, h⟩ := ob h
            refine aw_iald (pc := 47) hX km5 hx47 dX10_nurse_47 ?_
            cases h
            exact aw_iret hX hQ dX10_nurse_48
          · rw [if_pos c30] at h
            refine aw_aload_n (pc := 33) hX dX10_nurse_33 rfl 0 rfl ?_
            refine gf_X10_19 (pc := 34) hX km0 rfl dX10_nurse_34 ?_
            refine aw_iload_n (pc := 37) hX dX10_nurse_37 rfl 1 rfl ?_
            obtain ⟨x38, hx38, h⟩ := ob h
            refine aw_iald (pc := 38) hX km4 hx38 dX10_nurse_38 ?_
            refine aw_goto (tgt := 48) (pc := 39) hX dX10_nurse_39 (by decide) ?_
            cases h
            exact aw_iret hX hQ dX10_nurse_48
      · rw [if_neg c19] at h
        refine aw_iconst (v := (-1 : Int32)) (pc := 22) hX dX10_nurse_22 (by decide) ?_
        cases h
        exact aw_iret hX hQ dX10_nurse_23

def f_X10_out (v1 : Int32) (S : Mem) : Option (Int32 × Mem) :=
  nxt (sI S 0 0 (0 : Int32)) fun S2 =>
  if v1 < 0 then
  (some ((-1 : Int32), S2))
  else
  (if (S2.1 0 50) ≤ v1 then
  (some ((-1 : Int32), S2))
  else
  (if (S2.1 0 50) = (24 : Int32) then
  (some ((-1 : Int32), S2))
  else
  ((wr S2 32 24 (S2.1 0 50) v1).bind fun S37 =>
  nxt (sI S37 0 50 ((S37.1 0 50) + (1 : Int32))) fun S45 =>
  some (((S45.1 0 50) - (1 : Int32)), S45))))

set_option maxHeartbeats 4000000 in
set_option maxRecDepth 100000 in
theorem c_X10_out {v1 : Int32} {S : Mem} {r : Int32} {Sf : Mem} (h : f_X10_out v1 S = some (r, Sf)) : MetI yX10_out cX10_out 2 (some .int) 0 [.ref 0, .int v1] SKM S r Sf := by
  refine MetI.intro (by decide +kernel) (Nat.le_of_ble_eq_true rfl) (fun X loc hX hQ => ?_)
  unfold f_X10_out at h
  show AW X SKM loc 0 0 0 [(0, .ref 0), (1, .int v1)] [] S
  refine aw_aload_n (pc := 0) hX dX10_out_0 rfl 0 rfl ?_
  refine aw_iconst (v := (0 : Int32)) (pc := 1) hX dX10_out_1 (by decide) ?_
  refine pf_X10_124 (pc := 2) hX km0 rfl dX10_out_2 ?_
  obtain ⟨S2, eS2, h⟩ := on h
  refine aw_S eS2 ?_
  refine aw_iload_n (pc := 5) hX dX10_out_5 rfl 1 rfl ?_
  refine aw_if_lt (pc := 6) hX (tgt := 26) dX10_out_6 (by decide) (fun c6 => ?_) (fun c6 => ?_)
  · rw [if_pos c6] at h
    refine aw_iconst (v := (-1 : Int32)) (pc := 26) hX dX10_out_26 (by decide) ?_
    cases h
    exact aw_iret hX hQ dX10_out_27
  · rw [if_neg c6] at h
    refine aw_iload_n (pc := 9) hX dX10_out_9 rfl 1 rfl ?_
    refine aw_aload_n (pc := 10) hX dX10_out_10 rfl 0 rfl ?_
    refine gf_X10_277 (pc := 11) hX km0 rfl dX10_out_11 ?_
    refine aw_icmp_ge (pc := 14) hX (tgt := 26) dX10_out_14 (by decide) (fun c14 => ?_) (fun c14 => ?_)
    · rw [if_pos c14] at h
      refine aw_iconst (v := (-1 : Int32)) (pc := 26) hX dX10_out_26 (by decide) ?_
      cases h
      exact aw_iret hX hQ dX10_out_27
    · rw [if_neg c14] at h
      refine aw_aload_n (pc := 17) hX dX10_out_17 rfl 0 rfl ?_
      refine gf_X10_277 (pc := 18) hX km0 rfl dX10_out_18 ?_
      refine aw_bipush (v := (24 : Int32)) (pc := 21) hX dX10_out_21 (by decide) ?_
      refine aw_icmp_ne (pc := 23) hX (tgt := 28) dX10_out_23 (by decide) (fun c23 => ?_) (fun c23 => ?_)
      · rw [if_neg c23] at h
        refine aw_aload_n (pc := 28) hX dX10_out_28 rfl 0 rfl ?_
        refine gf_X10_115 (pc := 29) hX km0 rfl dX10_out_29 ?_
        refine aw_aload_n (pc := 32) hX dX10_out_32 rfl 0 rfl ?_
        refine gf_X10_277 (pc := 33) hX km0 rfl dX10_out_33 ?_
        refine aw_iload_n (pc := 36) hX dX10_out_36 rfl 1 rfl ?_
        obtain ⟨S37, hS37, h⟩ := ob h
        refine aw_iast (pc := 37) hX km32 hS37 dX10_out_37 ?_
        refine aw_aload_n (pc := 38) hX dX10_out_38 rfl 0 rfl ?_
        refine aw_dup (pc := 39) hX dX10_out_39 rfl ?_
        refine gf_X10_277 (pc := 40) hX km0 rfl dX10_out_40 ?_
        refine aw_iconst (v := (1 : Int32)) (pc := 43) hX dX10_out_43 (by decide) ?_
        refine aw_iadd (pc := 44) hX dX10_out_44 ?_
        refine pf_X10_277 (pc := 45) hX km0 rfl dX10_out_45 ?_
        obtain ⟨S45, eS45, h⟩ := on h
        refine aw_S eS45 ?_
        refine aw_aload_n (pc := 48) hX dX10_out_48 rfl 0 rfl ?_
        refine gf_X10_277 (pc := 49) hX km0 rfl dX10_out_49 ?_
        refine aw_iconst (v := (1 : Int32)) (pc := 52) hX dX10_out_52 (by decide) ?_
        refine aw_isub (pc := 53) hX dX10_out_53 ?_
        cases h
        exact aw_iret hX hQ dX10_out_54
      · rw [if_pos c23] at h
        refine aw_iconst (v := (-1 : Int32)) (pc := 26) hX dX10_out_26 (by decide) ?_
        cases h
        exact aw_iret hX hQ dX10_out_27

def f_X10_quiet_13 : Nat → Int32 → Mem → Option (Int32 × Mem)
  | 0, _, _ => none
  | n + 1, v1, S =>
  if (99 : Int32) < v1 then
  (some ((-2 : Int32), S))
  else
  (bnd (f_X10_angerBoth (1 : Int32) S) fun r21 S21 =>
  if r21 = 0 then
  (some (v1, S21))
  else
  ((f_X10_passes (1 : Int32) (0 : Int32) S21).bind fun S32 =>
  f_X10_quiet_13 n (v1 + 1) S32))

def f_X10_quiet (S : Mem) : Option (Int32 × Mem) :=
  nxt (sI S 0 0 (0 : Int32)) fun S2 =>
  (f_X10_copies (1 : Int32) (0 : Int32) S2).bind fun S8 =>
  f_X10_quiet_13 FU (0 : Int32) S8

set_option maxHeartbeats 4000000 in
set_option maxRecDepth 100000 in
theorem c_X10_quiet_13 {X : XT} {loc : Nat → Nat} {r : Int32} {Sf : Mem} (hX : AC X loc RX10 cX10_quiet (some .int) 2 7 0 0) (hQ : RetI X SKM loc 0 0 r Sf) : ∀ (n : Nat) (v1 : Int32) (S : Mem), f_X10_quiet_13 n v1 S = some (r, Sf) → AW X SKM loc 0 0 13 [(0, .ref 0), (1, .int v1)] [] S := by
  intro n
  induction n with
  | zero => intro v1 S h; cases h
  | succ n ih =>
    intro v1 S h
    unfold f_X10_quiet_13 at h
    refine aw_iload_n (pc := 13) hX dX10_quiet_13 rfl 1 rfl ?_
    refine aw_bipush (v := (99 : Int32)) (pc := 14) hX dX10_quiet_14 (by decide) ?_
    refine aw_icmp_gt (pc := 16) hX (tgt := 41) dX10_quiet_16 (by decide) (fun c16 => ?_) (fun c16 => ?_)
    · rw [if_pos c16] at h
      refine aw_bipush (v := (-2 : Int32)) (pc := 41) hX dX10_quiet_41 (by decide) ?_
      cases h
      exact aw_iret hX hQ dX10_quiet_43
    · rw [if_neg c16] at h
      refine aw_aload_n (pc := 19) hX dX10_quiet_19 rfl 0 rfl ?_
      refine aw_iconst (v := (1 : Int32)) (pc := 20) hX dX10_quiet_20 (by decide) ?_
      obtain ⟨r21, S21, hr21, h⟩ := ob2 h
      refine aw_cVI (pc := 21) (As := [.int (1 : Int32)]) (rest := []) hX (c_X10_angerBoth hr21) ok_X10_angerBoth kw_7_185 im_X10_angerBoth se_X10_angerBoth rfl km0 rfl (by decide) (Nat.le_of_ble_eq_true rfl) rfl dX10_quiet_21 (Nat.le_refl 0) (Nat.le_refl 0) ?_
      refine aw_if_ne (pc := 24) hX (tgt := 29) dX10_quiet_24 (by decide) (fun c24 => ?_) (fun c24 => ?_)
      · rw [if_neg c24] at h
        refine aw_aload_n (pc := 29) hX dX10_quiet_29 rfl 0 rfl ?_
        refine aw_iconst (v := (1 : Int32)) (pc := 30) hX dX10_quiet_30 (by decide) ?_
        refine aw_iconst (v := (0 : Int32)) (pc := 31) hX dX10_quiet_31 (by decide) ?_
        obtain ⟨S32, hr32, h⟩ := ob h
        refine aw_cVV (pc := 32) (As := [.int (1 : Int32), .int (0 : Int32)]) (rest := []) hX (c_X10_passes hr32) ok_X10_passes kw_7_130 im_X10_passes se_X10_passes rfl km0 rfl (by decide) (Nat.le_of_ble_eq_true rfl) rfl dX10_quiet_32 (Nat.le_refl 0) (Nat.le_refl 0) ?_
        refine aw_iinc (v := (v1 + 1)) (ls' := [(1, .int (v1 + 1)), (0, .ref 0)]) (pc := 35) hX dX10_quiet_35 (pos := 1) rfl (by first | rfl | decide) (by decide) rfl ?_
        refine aw_goto (tgt := 13) (pc := 38) hX dX10_quiet_38 (by decide) ?_
        refine aw_sub (ls' := [(0, .ref 0), (1, .int (v1 + 1))]) [1, 0] rfl ?_
        exact ih (v1 + 1) S32 h
      · rw [if_pos c24] at h
        refine aw_iload_n (pc := 27) hX dX10_quiet_27 rfl 1 rfl ?_
        cases h
        exact aw_iret hX hQ dX10_quiet_28

set_option maxHeartbeats 4000000 in
set_option maxRecDepth 100000 in
theorem c_X10_quiet {S : Mem} {r : Int32} {Sf : Mem} (h : f_X10_quiet S = some (r, Sf)) : MetI yX10_quiet cX10_quiet 2 (some .int) 7 [.ref 0] SKM S r Sf := by
  refine MetI.intro (by decide +kernel) (Nat.le_of_ble_eq_true rfl) (fun X loc hX hQ => ?_)
  unfold f_X10_quiet at h
  show AW X SKM loc 0 0 0 [(0, .ref 0)] [] S
  refine aw_aload_n (pc := 0) hX dX10_quiet_0 rfl 0 rfl ?_
  refine aw_iconst (v := (0 : Int32)) (pc := 1) hX dX10_quiet_1 (by decide) ?_
  refine pf_X10_124 (pc := 2) hX km0 rfl dX10_quiet_2 ?_
  obtain ⟨S2, eS2, h⟩ := on h
  refine aw_S eS2 ?_
  refine aw_aload_n (pc := 5) hX dX10_quiet_5 rfl 0 rfl ?_
  refine aw_iconst (v := (1 : Int32)) (pc := 6) hX dX10_quiet_6 (by decide) ?_
  refine aw_iconst (v := (0 : Int32)) (pc := 7) hX dX10_quiet_7 (by decide) ?_
  obtain ⟨S8, hr8, h⟩ := ob h
  refine aw_cVV (pc := 8) (As := [.int (1 : Int32), .int (0 : Int32)]) (rest := []) hX (c_X10_copies hr8) ok_X10_copies kw_7_110 im_X10_copies se_X10_copies rfl km0 rfl (by decide) (Nat.le_of_ble_eq_true rfl) rfl dX10_quiet_8 (Nat.le_refl 0) (Nat.le_refl 0) ?_
  refine aw_iconst (v := (0 : Int32)) (pc := 11) hX dX10_quiet_11 (by decide) ?_
  refine aw_istore_n (ls' := [(1, .int (0 : Int32)), (0, .ref 0)]) (pc := 12) hX dX10_quiet_12 rfl (by decide) rfl ?_
  refine aw_sub (ls' := [(0, .ref 0), (1, .int (0 : Int32))]) [1, 0] rfl ?_
  exact c_X10_quiet_13 hX hQ FU (0 : Int32) S8 h

def f_X10_restOf_4 : Nat → Int32 → Int32 → Int32 → Mem → Option (Int32 × Mem)
  | 0, _, _, _, _ => none
  | n + 1, v1, v2, v3, S =>
  if (4 : Int32) ≤ v3 then
  (if v1 = (-1 : Int32) then
  (some (v2, S))
  else
  (some ((-2 : Int32), S)))
  else
  ((dv v3 (2 : Int32)).bind fun x12 =>
  (rm v3 (2 : Int32)).bind fun x15 =>
  bnd (f_X10_isRest x12 x15 S) fun r16 S16 =>
  if r16 = 0 then
  (f_X10_restOf_4 n v1 v2 (v3 + 1) S16)
  else
  (if v2 = v1 then
  ((dv v3 (2 : Int32)).bind fun x34 =>
  (rm v3 (2 : Int32)).bind fun x38 =>
  some ((((10 : Int32) * x34) + x38), S16))
  else
  (f_X10_restOf_4 n v1 (v2 + 1) (v3 + 1) S16)))

def f_X10_restOf (v1 : Int32) (S : Mem) : Option (Int32 × Mem) :=
  f_X10_restOf_4 FU v1 (0 : Int32) (0 : Int32) S

set_option maxHeartbeats 4000000 in
set_option maxRecDepth 100000 in
theorem c_X10_restOf_4 {X : XT} {loc : Nat → Nat} {r : Int32} {Sf : Mem} (hX : AC X loc RX10 cX10_restOf (some .int) 4 5 0 0) (hQ : RetI X SKM loc 0 0 r Sf) : ∀ (n : Nat) (v1 : Int32) (v2 : Int32) (v3 : Int32) (S : Mem), f_X10_restOf_4 n v1 v2 v3 S = some (r, Sf) → AW X SKM loc 0 0 4 [(0, .ref 0), (1, .int v1), (2, .int v2), (3, .int v3)] [] S := by
  intro n
  induction n with
  | zero => intro v1 v2 v3 S h; cases h
  | succ n ih =>
    intro v1 v2 v3 S h
    unfold f_X10_restOf_4 at h
    refine aw_iload_n (pc := 4) hX dX10_restOf_4 rfl 3 rfl ?_
    refine aw_iconst (v := (4 : Int32)) (pc := 5) hX dX10_restOf_5 (by decide) ?_
    refine aw_icmp_ge (pc := 6) hX (tgt := 50) dX10_restOf_6 (by decide) (fun c6 => ?_) (fun c6 => ?_)
    · rw [if_pos c6] at h
      refine aw_iload_n (pc := 50) hX dX10_restOf_50 rfl 1 rfl ?_
      refine aw_iconst (v := (-1 : Int32)) (pc := 51) hX dX10_restOf_51 (by decide) ?_
      refine aw_icmp_ne (pc := 52) hX (tgt := 59) dX10_restOf_52 (by decide) (fun c52 => ?_) (fun c52 => ?_)
      · rw [if_neg c52] at h
        refine aw_bipush (v := (-2 : Int32)) (pc := 59) hX dX10_restOf_59 (by decide) ?_
        cases h
        exact aw_iret hX hQ dX10_restOf_61
      · rw [if_pos c52] at h
        refine aw_iload_n (pc := 55) hX dX10_restOf_55 rfl 2 rfl ?_
        refine aw_goto (tgt := 61) (pc := 56) hX dX10_restOf_56 (by decide) ?_
        cases h
        exact aw_iret hX hQ dX10_restOf_61
    · rw [if_neg c6] at h
      refine aw_aload_n (pc := 9) hX dX10_restOf_9 rfl 0 rfl ?_
      refine aw_iload_n (pc := 10) hX dX10_restOf_10 rfl 3 rfl ?_
      refine aw_iconst (v := (2 : Int32)) (pc := 11) hX dX10_restOf_11 (by decide) ?_
      obtain ⟨x12, hx12, h⟩ := ob h
      refine aw_idiv (pc := 12) hX dX10_restOf_12 hx12 ?_
      refine aw_iload_n (pc := 13) hX dX10_restOf_13 rfl 3 rfl ?_
      refine aw_iconst (v := (2 : Int32)) (pc := 14) hX dX10_restOf_14 (by decide) ?_
      obtain ⟨x15, hx15, h⟩ := ob h
      refine aw_irem (pc := 15) hX dX10_restOf_15 hx15 ?_
      obtain ⟨r16, S16, hr16, h⟩ := ob2 h
      refine aw_cVI (pc := 16) (As := [.int x12, .int x15]) (rest := []) hX (c_X10_isRest hr16) ok_X10_isRest kw_7_229 im_X10_isRest se_X10_isRest rfl km0 rfl (by decide) (Nat.le_of_ble_eq_true rfl) rfl dX10_restOf_16 (Nat.le_refl 0) (Nat.le_refl 0) ?_
      refine aw_if_ne (pc := 19) hX (tgt := 25) dX10_restOf_19 (by decide) (fun c19 => ?_) (fun c19 => ?_)
      · rw [if_neg c19] at h
        refine aw_iload_n (pc := 25) hX dX10_restOf_25 rfl 2 rfl ?_
        refine aw_iload_n (pc := 26) hX dX10_restOf_26 rfl 1 rfl ?_
        refine aw_icmp_ne (pc := 27) hX (tgt := 41) dX10_restOf_27 (by decide) (fun c27 => ?_) (fun c27 => ?_)
        · rw [if_neg c27] at h
          refine aw_iinc (v := (v2 + 1)) (ls' := [(2, .int (v2 + 1)), (0, .ref 0), (1, .int v1), (3, .int v3)]) (pc := 41) hX dX10_restOf_41 (pos := 2) rfl (by first | rfl | decide) (by decide) rfl ?_
          refine aw_iinc (v := (v3 + 1)) (ls' := [(3, .int (v3 + 1)), (2, .int (v2 + 1)), (0, .ref 0), (1, .int v1)]) (pc := 44) hX dX10_restOf_44 (pos := 3) rfl (by first | rfl | decide) (by decide) rfl ?_
          refine aw_goto (tgt := 4) (pc := 47) hX dX10_restOf_47 (by decide) ?_
          refine aw_sub (ls' := [(0, .ref 0), (1, .int v1), (2, .int (v2 + 1)), (3, .int (v3 + 1))]) [2, 3, 1, 0] rfl ?_
          exact ih v1 (v2 + 1) (v3 + 1) S16 h
        · rw [if_pos c27] at h
          refine aw_bipush (v := (10 : Int32)) (pc := 30) hX dX10_restOf_30 (by decide) ?_
          refine aw_iload_n (pc := 32) hX dX10_restOf_32 rfl 3 rfl ?_
          refine aw_iconst (v := (2 : Int32)) (pc := 33) hX dX10_restOf_33 (by decide) ?_
          obtain ⟨x34, hx34, h⟩ := ob h
          refine aw_idiv (pc := 34) hX dX10_restOf_34 hx34 ?_
          refine aw_imul (pc := 35) hX dX10_restOf_35 ?_
          refine aw_iload_n (pc := 36) hX dX10_restOf_36 rfl 3 rfl ?_
          refine aw_iconst (v := (2 : Int32)) (pc := 37) hX dX10_restOf_37 (by decide) ?_
          obtain ⟨x38, hx38, h⟩ := ob h
          refine aw_irem (pc := 38) hX dX10_restOf_38 hx38 ?_
          refine aw_iadd (pc := 39) hX dX10_restOf_39 ?_
          cases h
          exact aw_iret hX hQ dX10_restOf_40
      · rw [if_pos c19] at h
        refine aw_goto (tgt := 44) (pc := 22) hX dX10_restOf_22 (by decide) ?_
        refine aw_iinc (v := (v3 + 1)) (ls' := [(3, .int (v3 + 1)), (0, .ref 0), (1, .int v1), (2, .int v2)]) (pc := 44) hX dX10_restOf_44 (pos := 3) rfl (by first | rfl | decide) (by decide) rfl ?_
        refine aw_goto (tgt := 4) (pc := 47) hX dX10_restOf_47 (by decide) ?_
        refine aw_sub (ls' := [(0, .ref 0), (1, .int v1), (2, .int v2), (3, .int (v3 + 1))]) [1, 2, 3, 0] rfl ?_
        exact ih v1 v2 (v3 + 1) S16 h

set_option maxHeartbeats 4000000 in
set_option maxRecDepth 100000 in
theorem c_X10_restOf {v1 : Int32} {S : Mem} {r : Int32} {Sf : Mem} (h : f_X10_restOf v1 S = some (r, Sf)) : MetI yX10_restOf cX10_restOf 4 (some .int) 5 [.ref 0, .int v1] SKM S r Sf := by
  refine MetI.intro (by decide +kernel) (Nat.le_of_ble_eq_true rfl) (fun X loc hX hQ => ?_)
  unfold f_X10_restOf at h
  show AW X SKM loc 0 0 0 [(0, .ref 0), (1, .int v1)] [] S
  refine aw_iconst (v := (0 : Int32)) (pc := 0) hX dX10_restOf_0 (by decide) ?_
  refine aw_istore_n (ls' := [(2, .int (0 : Int32)), (0, .ref 0), (1, .int v1)]) (pc := 1) hX dX10_restOf_1 rfl (by decide) rfl ?_
  refine aw_iconst (v := (0 : Int32)) (pc := 2) hX dX10_restOf_2 (by decide) ?_
  refine aw_istore_n (ls' := [(3, .int (0 : Int32)), (2, .int (0 : Int32)), (0, .ref 0), (1, .int v1)]) (pc := 3) hX dX10_restOf_3 rfl (by decide) rfl ?_
  refine aw_sub (ls' := [(0, .ref 0), (1, .int v1), (2, .int (0 : Int32)), (3, .int (0 : Int32))]) [2, 3, 1, 0] rfl ?_
  exact c_X10_restOf_4 hX hQ FU v1 (0 : Int32) (0 : Int32) S h

def f_X10_rest (v1 : Int32) (S : Mem) : Option (Int32 × Mem) :=
  nxt (sI S 0 0 (0 : Int32)) fun S2 =>
  if 0 ≤ v1 then
  (bnd (f_X10_restOf v1 S2) fun r15 S15 =>
  some (r15, S15))
  else
  (some ((-1 : Int32), S2))

set_option maxHeartbeats 4000000 in
set_option maxRecDepth 100000 in
theorem c_X10_rest {v1 : Int32} {S : Mem} {r : Int32} {Sf : Mem} (h : f_X10_rest v1 S = some (r, Sf)) : MetI yX10_rest cX10_rest 2 (some .int) 6 [.ref 0, .int v1] SKM S r Sf := by
  refine MetI.intro (by decide +kernel) (Nat.le_of_ble_eq_true rfl) (fun X loc hX hQ => ?_)
  unfold f_X10_rest at h
  show AW X SKM loc 0 0 0 [(0, .ref 0), (1, .int v1)] [] S
  refine aw_aload_n (pc := 0) hX dX10_rest_0 rfl 0 rfl ?_
  refine aw_iconst (v := (0 : Int32)) (pc := 1) hX dX10_rest_1 (by decide) ?_
  refine pf_X10_124 (pc := 2) hX km0 rfl dX10_rest_2 ?_
  obtain ⟨S2, eS2, h⟩ := on h
  refine aw_S eS2 ?_
  refine aw_iload_n (pc := 5) hX dX10_rest_5 rfl 1 rfl ?_
  refine aw_if_ge (pc := 6) hX (tgt := 13) dX10_rest_6 (by decide) (fun c6 => ?_) (fun c6 => ?_)
  · rw [if_pos c6] at h
    refine aw_aload_n (pc := 13) hX dX10_rest_13 rfl 0 rfl ?_
    refine aw_iload_n (pc := 14) hX dX10_rest_14 rfl 1 rfl ?_
    obtain ⟨r15, S15, hr15, h⟩ := ob2 h
    refine aw_cVI (pc := 15) (As := [.int v1]) (rest := []) hX (c_X10_restOf hr15) ok_X10_restOf kw_7_225 im_X10_restOf se_X10_restOf rfl km0 rfl (by decide) (Nat.le_of_ble_eq_true rfl) rfl dX10_rest_15 (Nat.le_refl 0) (Nat.le_refl 0) ?_
    cases h
    exact aw_iret hX hQ dX10_rest_18
  · rw [if_neg c6] at h
    refine aw_iconst (v := (-1 : Int32)) (pc := 9) hX dX10_rest_9 (by decide) ?_
    refine aw_goto (tgt := 18) (pc := 10) hX dX10_rest_10 (by decide) ?_
    cases h
    exact aw_iret hX hQ dX10_rest_18

def f_X10_rests (S : Mem) : Option (Int32 × Mem) :=
  nxt (sI S 0 0 (0 : Int32)) fun S2 =>
  bnd (f_X10_restOf (-1 : Int32) S2) fun r7 S7 =>
  some (r7, S7)

set_option maxHeartbeats 4000000 in
set_option maxRecDepth 100000 in
theorem c_X10_rests {S : Mem} {r : Int32} {Sf : Mem} (h : f_X10_rests S = some (r, Sf)) : MetI yX10_rests cX10_rests 1 (some .int) 6 [.ref 0] SKM S r Sf := by
  refine MetI.intro (by decide +kernel) (Nat.le_of_ble_eq_true rfl) (fun X loc hX hQ => ?_)
  unfold f_X10_rests at h
  show AW X SKM loc 0 0 0 [(0, .ref 0)] [] S
  refine aw_aload_n (pc := 0) hX dX10_rests_0 rfl 0 rfl ?_
  refine aw_iconst (v := (0 : Int32)) (pc := 1) hX dX10_rests_1 (by decide) ?_
  refine pf_X10_124 (pc := 2) hX km0 rfl dX10_rests_2 ?_
  obtain ⟨S2, eS2, h⟩ := on h
  refine aw_S eS2 ?_
  refine aw_aload_n (pc := 5) hX dX10_rests_5 rfl 0 rfl ?_
  refine aw_iconst (v := (-1 : Int32)) (pc := 6) hX dX10_rests_6 (by decide) ?_
  obtain ⟨r7, S7, hr7, h⟩ := ob2 h
  refine aw_cVI (pc := 7) (As := [.int (-1 : Int32)]) (rest := []) hX (c_X10_restOf hr7) ok_X10_restOf kw_7_225 im_X10_restOf se_X10_restOf rfl km0 rfl (by decide) (Nat.le_of_ble_eq_true rfl) rfl dX10_rests_7 (Nat.le_refl 0) (Nat.le_refl 0) ?_
  cases h
  exact aw_iret hX hQ dX10_rests_10

def f_X10_safest_90 (R31 : Int32 → Int32 → Int32 → Int32 → Mem → Option (Int32 × Mem)) (v1 : Int32) (v4 : Int32) (v5 : Int32) (S : Mem) : Option (Int32 × Mem) :=
  R31 v1 v4 v5 (v4 + 1) S

def f_X10_safest_31 : Nat → Int32 → Int32 → Int32 → Int32 → Mem → Option (Int32 × Mem)
  | 0, _, _, _, _, _ => none
  | n + 1, v1, v2, v3, v4, S =>
  (rd S 2 14 (0 : Int32)).bind fun x38 =>
  if x38 ≤ v4 then
  (some (v2, S))
  else
  ((rd S 4 12 v4).bind fun x48 =>
  (rd S 7 20 v1).bind fun x58 =>
  (rd S 4 12 x58).bind fun x59 =>
  if x48 = x59 then
  (bnd (f_X10_mothsBy (0 : Int32) v1 v4 S) fun r71 S71 =>
  if v2 = (-1 : Int32) then
  (f_X10_safest_90 (f_X10_safest_31 n) v1 v4 r71 S71)
  else
  (if r71 < v3 then
  (f_X10_safest_90 (f_X10_safest_31 n) v1 v4 r71 S71)
  else
  (f_X10_safest_31 n v1 v2 v3 (v4 + 1) S71)))
  else
  (f_X10_safest_31 n v1 v2 v3 (v4 + 1) S))

def f_X10_safest (v1 : Int32) (S : Mem) : Option (Int32 × Mem) :=
  nxt (sI S 0 0 (0 : Int32)) fun S2 =>
  bnd (f_X10_isDoll v1 S2) fun r7 S7 =>
  if r7 = 0 then
  (some ((-1 : Int32), S7))
  else
  (bnd (f_X10_isHeld (0 : Int32) v1 S7) fun r16 S16 =>
  if r16 = 0 then
  (some ((-1 : Int32), S16))
  else
  (f_X10_safest_31 FU v1 (-1 : Int32) (0 : Int32) (0 : Int32) S16))

set_option maxHeartbeats 4000000 in
set_option maxRecDepth 100000 in
theorem c_X10_safest_90 {X : XT} {loc : Nat → Nat} {r : Int32} {Sf : Mem} (hX : AC X loc RX10 cX10_safest (some .int) 6 5 0 0) (hQ : RetI X SKM loc 0 0 r Sf) {R31 : Int32 → Int32 → Int32 → Int32 → Mem → Option (Int32 × Mem)} (IH31 : ∀ (v1 : Int32) (v2 : Int32) (v3 : Int32) (v4 : Int32) (S : Mem), R31 v1 v2 v3 v4 S = some (r, Sf) → AW X SKM loc 0 0 31 [(0, .ref 0), (1, .int v1), (2, .int v2), (3, .int v3), (4, .int v4)] [] S) (v1 : Int32) (v4 : Int32) (v5 : Int32) (S : Mem) (h : f_X10_safest_90 R31 v1 v4 v5 S = some (r, Sf)) : AW X SKM loc 0 0 90 [(0, .ref 0), (1, .int v1), (4, .int v4), (5, .int v5)] [] S := by
  unfold f_X10_safest_90 at h
  refine aw_iload (pc := 90) hX dX10_safest_90 2 rfl ?_
  refine aw_istore_n (ls' := [(2, .int v4), (0, .ref 0), (1, .int v1), (4, .int v4), (5, .int v5)]) (pc := 92) hX dX10_safest_92 rfl (by decide) rfl ?_
  refine aw_iload (pc := 93) hX dX10_safest_93 4 rfl ?_
  refine aw_istore_n (ls' := [(3, .int v5), (2, .int v4), (0, .ref 0), (1, .int v1), (4, .int v4), (5, .int v5)]) (pc := 95) hX dX10_safest_95 rfl (by decide) rfl ?_
  refine aw_iinc (v := (v4 + 1)) (ls' := [(4, .int (v4 + 1)), (3, .int v5), (2, .int v4), (0, .ref 0), (1, .int v1), (5, .int v5)]) (pc := 96) hX dX10_safest_96 (pos := 4) rfl (by first | rfl | decide) (by decide) rfl ?_
  refine aw_goto (tgt := 31) (pc := 99) hX dX10_safest_99 (by decide) ?_
  refine aw_sub (ls' := [(0, .ref 0), (1, .int v1), (2, .int v4), (3, .int v5), (4, .int (v4 + 1))]) [3, 4, 2, 1, 0] rfl ?_
  exact IH31 v1 v4 v5 (v4 + 1) S h

set_option maxHeartbeats 4000000 in
set_option maxRecDepth 100000 in
theorem c_X10_safest_31 {X : XT} {loc : Nat → Nat} {r : Int32} {Sf : Mem} (hX : AC X loc RX10 cX10_safest (some .int) 6 5 0 0) (hQ : RetI X SKM loc 0 0 r Sf) : ∀ (n : Nat) (v1 : Int32) (v2 : Int32) (v3 : Int32) (v4 : Int32) (S : Mem), f_X10_safest_31 n v1 v2 v3 v4 S = some (r, Sf) → AW X SKM loc 0 0 31 [(0, .ref 0), (1, .int v1), (2, .int v2), (3, .int v3), (4, .int v4)] [] S := by
  intro n
  induction n with
  | zero => intro v1 v2 v3 v4 S h; cases h
  | succ n ih =>
    intro v1 v2 v3 v4 S h
    unfold f_X10_safest_31 at h
    refine aw_iload (pc := 31) hX dX10_safest_31 4 rfl ?_
    refine aw_aload_n (pc := 33) hX dX10_safest_33 rfl 0 rfl ?_
    refine gf_X10_13 (pc := 34) hX km0 rfl dX10_safest_34 ?_
    refine aw_iconst (v := (0 : Int32)) (pc := 37) hX dX10_safest_37 (by decide) ?_
    obtain ⟨x38, hx38, h⟩ := ob h
    refine aw_iald (pc := 38) hX km2 hx38 dX10_safest_38 ?_
    refine aw_icmp_ge (pc := 39) hX (tgt := 102) dX10_safest_39 (by decide) (fun c39 => ?_) (fun c39 => ?_)
    · rw [if_pos c39] at h
      refine aw_iload_n (pc := 102) hX dX10_safest_102 rfl 2 rfl ?_
      cases h
      exact aw_iret hX hQ dX10_safest_103
    · rw [if_neg c39] at h
      refine aw_aload_n (pc := 42) hX dX10_safest_42 rfl 0 rfl ?_
      refine gf_X10_19 (pc := 43) hX km0 rfl dX10_safest_43 ?_
      refine aw_iload (pc := 46) hX dX10_safest_46 4 rfl ?_
      obtain ⟨x48, hx48, h⟩ := ob h
      refine aw_iald (pc := 48) hX km4 hx48 dX10_safest_48 ?_
      refine aw_aload_n (pc := 49) hX dX10_safest_49 rfl 0 rfl ?_
      refine gf_X10_19 (pc := 50) hX km0 rfl dX10_safest_50 ?_
      refine aw_aload_n (pc := 53) hX dX10_safest_53 rfl 0 rfl ?_
      refine gf_X10_28 (pc := 54) hX km0 rfl dX10_safest_54 ?_
      refine aw_iload_n (pc := 57) hX dX10_safest_57 rfl 1 rfl ?_
      obtain ⟨x58, hx58, h⟩ := ob h
      refine aw_iald (pc := 58) hX km7 hx58 dX10_safest_58 ?_
      obtain ⟨x59, hx59, h⟩ := ob h
      refine aw_iald (pc := 59) hX km4 hx59 dX10_safest_59 ?_
      refine aw_icmp_eq (pc := 60) hX (tgt := 66) dX10_safest_60 (by decide) (fun c60 => ?_) (fun c60 => ?_)
      · rw [if_pos c60] at h
        refine aw_aload_n (pc := 66) hX dX10_safest_66 rfl 0 rfl ?_
        refine aw_iconst (v := (0 : Int32)) (pc := 67) hX dX10_safest_67 (by decide) ?_
        refine aw_iload_n (pc := 68) hX dX10_safest_68 rfl 1 rfl ?_
        refine aw_iload (pc := 69) hX dX10_safest_69 4 rfl ?_
        obtain ⟨r71, S71, hr71, h⟩ := ob2 h
        refine aw_cVI (pc := 71) (As := [.int (0 : Int32), .int v1, .int v4]) (rest := []) hX (c_X10_mothsBy hr71) ok_X10_mothsBy kw_7_54 im_X10_mothsBy se_X10_mothsBy rfl km0 rfl (by decide) (Nat.le_of_ble_eq_true rfl) rfl dX10_safest_71 (Nat.le_refl 0) (Nat.le_refl 0) ?_
        refine aw_istore (ls' := [(5, .int r71), (0, .ref 0), (1, .int v1), (2, .int v2), (3, .int v3), (4, .int v4)]) (pc := 74) hX dX10_safest_74 (by decide) rfl ?_
        refine aw_iload_n (pc := 76) hX dX10_safest_76 rfl 3 rfl ?_
        refine aw_iconst (v := (-1 : Int32)) (pc := 77) hX dX10_safest_77 (by decide) ?_
        refine aw_icmp_eq (pc := 78) hX (tgt := 90) dX10_safest_78 (by decide) (fun c78 => ?_) (fun c78 => ?_)
        · rw [if_pos c78] at h
          refine aw_sub (ls' := [(0, .ref 0), (1, .int v1), (4, .int v4), (5, .int r71)]) [1, 2, 5, 0] rfl ?_
          exact c_X10_safest_90 hX hQ ih v1 v4 r71 S71 h
        · rw [if_neg c78] at h
          refine aw_iload (pc := 81) hX dX10_safest_81 0 rfl ?_
          refine aw_iload_n (pc := 83) hX dX10_safest_83 rfl 4 rfl ?_
          refine aw_icmp_lt (pc := 84) hX (tgt := 90) dX10_safest_84 (by decide) (fun c84 => ?_) (fun c84 => ?_)
          · rw [if_pos c84] at h
            refine aw_sub (ls' := [(0, .ref 0), (1, .int v1), (4, .int v4), (5, .int r71)]) [1, 2, 5, 0] rfl ?_
            exact c_X10_safest_90 hX hQ ih v1 v4 r71 S71 h
          · rw [if_neg c84] at h
            refine aw_goto (tgt := 96) (pc := 87) hX dX10_safest_87 (by decide) ?_
            refine aw_iinc (v := (v4 + 1)) (ls' := [(4, .int (v4 + 1)), (5, .int r71), (0, .ref 0), (1, .int v1), (2, .int v2), (3, .int v3)]) (pc := 96) hX dX10_safest_96 (pos := 5) rfl (by first | rfl | decide) (by decide) rfl ?_
            refine aw_goto (tgt := 31) (pc := 99) hX dX10_safest_99 (by decide) ?_
            refine aw_sub (ls' := [(0, .ref 0), (1, .int v1), (2, .int v2), (3, .int v3), (4, .int (v4 + 1))]) [2, 3, 4, 5, 0] rfl ?_
            exact ih v1 v2 v3 (v4 + 1) S71 h
      · rw [if_neg c60] at h
        refine aw_goto (tgt := 96) (pc := 63) hX dX10_safest_63 (by decide) ?_
        refine aw_iinc (v := (v4 + 1)) (ls' := [(4, .int (v4 + 1)), (0, .ref 0), (1, .int v1), (2, .int v2), (3, .int v3)]) (pc := 96) hX dX10_safest_96 (pos := 4) rfl (by first | rfl | decide) (by decide) rfl ?_
        refine aw_goto (tgt := 31) (pc := 99) hX dX10_safest_99 (by decide) ?_
        refine aw_sub (ls' := [(0, .ref 0), (1, .int v1), (2, .int v2), (3, .int v3), (4, .int (v4 + 1))]) [1, 2, 3, 4, 0] rfl ?_
        exact ih v1 v2 v3 (v4 + 1) S h

set_option maxHeartbeats 4000000 in
set_option maxRecDepth 100000 in
theorem c_X10_safest {v1 : Int32} {S : Mem} {r : Int32} {Sf : Mem} (h : f_X10_safest v1 S = some (r, Sf)) : MetI yX10_safest cX10_safest 6 (some .int) 5 [.ref 0, .int v1] SKM S r Sf := by
  refine MetI.intro (by decide +kernel) (Nat.le_of_ble_eq_true rfl) (fun X loc hX hQ => ?_)
  unfold f_X10_safest at h
  show AW X SKM loc 0 0 0 [(0, .ref 0), (1, .int v1)] [] S
  refine aw_aload_n (pc := 0) hX dX10_safest_0 rfl 0 rfl ?_
  refine aw_iconst (v := (0 : Int32)) (pc := 1) hX dX10_safest_1 (by decide) ?_
  refine pf_X10_124 (pc := 2) hX km0 rfl dX10_safest_2 ?_
  obtain ⟨S2, eS2, h⟩ := on h
  refine aw_S eS2 ?_
  refine aw_aload_n (pc := 5) hX dX10_safest_5 rfl 0 rfl ?_
  refine aw_iload_n (pc := 6) hX dX10_safest_6 rfl 1 rfl ?_
  obtain ⟨r7, S7, hr7, h⟩ := ob2 h
  refine aw_cVI (pc := 7) (As := [.int v1]) (rest := []) hX (c_X10_isDoll hr7) ok_X10_isDoll kw_7_11 im_X10_isDoll se_X10_isDoll rfl km0 rfl (by decide) (Nat.le_of_ble_eq_true rfl) rfl dX10_safest_7 (Nat.le_refl 0) (Nat.le_refl 0) ?_
  refine aw_if_eq (pc := 10) hX (tgt := 22) dX10_safest_10 (by decide) (fun c10 => ?_) (fun c10 => ?_)
  · rw [if_pos c10] at h
    refine aw_iconst (v := (-1 : Int32)) (pc := 22) hX dX10_safest_22 (by decide) ?_
    cases h
    exact aw_iret hX hQ dX10_safest_23
  · rw [if_neg c10] at h
    refine aw_aload_n (pc := 13) hX dX10_safest_13 rfl 0 rfl ?_
    refine aw_iconst (v := (0 : Int32)) (pc := 14) hX dX10_safest_14 (by decide) ?_
    refine aw_iload_n (pc := 15) hX dX10_safest_15 rfl 1 rfl ?_
    obtain ⟨r16, S16, hr16, h⟩ := ob2 h
    refine aw_cVI (pc := 16) (As := [.int (0 : Int32), .int v1]) (rest := []) hX (c_X10_isHeld hr16) ok_X10_isHeld kw_7_27 im_X10_isHeld se_X10_isHeld rfl km0 rfl (by decide) (Nat.le_of_ble_eq_true rfl) rfl dX10_safest_16 (Nat.le_refl 0) (Nat.le_refl 0) ?_
    refine aw_if_ne (pc := 19) hX (tgt := 24) dX10_safest_19 (by decide) (fun c19 => ?_) (fun c19 => ?_)
    · rw [if_neg c19] at h
      refine aw_iconst (v := (-1 : Int32)) (pc := 24) hX dX10_safest_24 (by decide) ?_
      refine aw_istore_n (ls' := [(2, .int (-1 : Int32)), (0, .ref 0), (1, .int v1)]) (pc := 25) hX dX10_safest_25 rfl (by decide) rfl ?_
      refine aw_iconst (v := (0 : Int32)) (pc := 26) hX dX10_safest_26 (by decide) ?_
      refine aw_istore_n (ls' := [(3, .int (0 : Int32)), (2, .int (-1 : Int32)), (0, .ref 0), (1, .int v1)]) (pc := 27) hX dX10_safest_27 rfl (by decide) rfl ?_
      refine aw_iconst (v := (0 : Int32)) (pc := 28) hX dX10_safest_28 (by decide) ?_
      refine aw_istore (ls' := [(4, .int (0 : Int32)), (3, .int (0 : Int32)), (2, .int (-1 : Int32)), (0, .ref 0), (1, .int v1)]) (pc := 29) hX dX10_safest_29 (by decide) rfl ?_
      refine aw_sub (ls' := [(0, .ref 0), (1, .int v1), (2, .int (-1 : Int32)), (3, .int (0 : Int32)), (4, .int (0 : Int32))]) [3, 4, 2, 1, 0] rfl ?_
      exact c_X10_safest_31 hX hQ FU v1 (-1 : Int32) (0 : Int32) (0 : Int32) S16 h
    · rw [if_pos c19] at h
      refine aw_iconst (v := (-1 : Int32)) (pc := 22) hX dX10_safest_22 (by decide) ?_
      cases h
      exact aw_iret hX hQ dX10_safest_23

def f_X10_stays_9 : Nat → Int32 → Int32 → Mem → Option (Int32 × Mem)
  | 0, _, _, _ => none
  | n + 1, v1, v2, S =>
  (rd S 2 14 (1 : Int32)).bind fun x15 =>
  if x15 ≤ v2 then
  (some (v1, S))
  else
  (bnd (f_X10_isHeld (0 : Int32) v2 S) fun r23 S23 =>
  if r23 = 0 then
  (f_X10_stays_9 n (v1 ||| (0 : Int32)) (v2 + 1) S23)
  else
  ((rd S23 23 230 v2).bind fun x34 =>
  (rd S23 8 20 v2).bind fun x40 =>
  if x34 ≤ x40 then
  (f_X10_stays_9 n (v1 ||| (0 : Int32)) (v2 + 1) S23)
  else
  (f_X10_stays_9 n (v1 ||| ((1 : Int32) <<< (v2 &&& 31))) (v2 + 1) S23)))

def f_X10_stays (S : Mem) : Option (Int32 × Mem) :=
  nxt (sI S 0 0 (0 : Int32)) fun S2 =>
  f_X10_stays_9 FU (0 : Int32) (0 : Int32) S2

set_option maxHeartbeats 4000000 in
set_option maxRecDepth 100000 in
theorem c_X10_stays_9 {X : XT} {loc : Nat → Nat} {r : Int32} {Sf : Mem} (hX : AC X loc RX10 cX10_stays (some .int) 3 1 0 0) (hQ : RetI X SKM loc 0 0 r Sf) : ∀ (n : Nat) (v1 : Int32) (v2 : Int32) (S : Mem), f_X10_stays_9 n v1 v2 S = some (r, Sf) → AW X SKM loc 0 0 9 [(0, .ref 0), (1, .int v1), (2, .int v2)] [] S := by
  intro n
  induction n with
  | zero => intro v1 v2 S h; cases h
  | succ n ih =>
    intro v1 v2 S h
    unfold f_X10_stays_9 at h
    refine aw_iload_n (pc := 9) hX dX10_stays_9 rfl 2 rfl ?_
    refine aw_aload_n (pc := 10) hX dX10_stays_10 rfl 0 rfl ?_
    refine gf_X10_13 (pc := 11) hX km0 rfl dX10_stays_11 ?_
    refine aw_iconst (v := (1 : Int32)) (pc := 14) hX dX10_stays_14 (by decide) ?_
    obtain ⟨x15, hx15, h⟩ := ob h
    refine aw_iald (pc := 15) hX km2 hx15 dX10_stays_15 ?_
    refine aw_icmp_ge (pc := 16) hX (tgt := 59) dX10_stays_16 (by decide) (fun c16 => ?_) (fun c16 => ?_)
    · rw [if_pos c16] at h
      refine aw_iload_n (pc := 59) hX dX10_stays_59 rfl 1 rfl ?_
      cases h
      exact aw_iret hX hQ dX10_stays_60
    · rw [if_neg c16] at h
      refine aw_iload_n (pc := 19) hX dX10_stays_19 rfl 1 rfl ?_
      refine aw_aload_n (pc := 20) hX dX10_stays_20 rfl 0 rfl ?_
      refine aw_iconst (v := (0 : Int32)) (pc := 21) hX dX10_stays_21 (by decide) ?_
      refine aw_iload_n (pc := 22) hX dX10_stays_22 rfl 2 rfl ?_
      obtain ⟨r23, S23, hr23, h⟩ := ob2 h
      refine aw_cVI (pc := 23) (As := [.int (0 : Int32), .int v2]) (rest := [.int v1]) hX (c_X10_isHeld hr23) ok_X10_isHeld kw_7_27 im_X10_isHeld se_X10_isHeld rfl km0 rfl (by decide) (Nat.le_of_ble_eq_true rfl) rfl dX10_stays_23 (Nat.le_refl 0) (Nat.le_refl 0) ?_
      refine aw_if_eq (pc := 26) hX (tgt := 50) dX10_stays_26 (by decide) (fun c26 => ?_) (fun c26 => ?_)
      · rw [if_pos c26] at h
        refine aw_iconst (v := (0 : Int32)) (pc := 50) hX dX10_stays_50 (by decide) ?_
        refine aw_ior (pc := 51) hX dX10_stays_51 ?_
        refine aw_istore_n (ls' := [(1, .int (v1 ||| (0 : Int32))), (0, .ref 0), (2, .int v2)]) (pc := 52) hX dX10_stays_52 rfl (by decide) rfl ?_
        refine aw_iinc (v := (v2 + 1)) (ls' := [(2, .int (v2 + 1)), (1, .int (v1 ||| (0 : Int32))), (0, .ref 0)]) (pc := 53) hX dX10_stays_53 (pos := 2) rfl (by first | rfl | decide) (by decide) rfl ?_
        refine aw_goto (tgt := 9) (pc := 56) hX dX10_stays_56 (by decide) ?_
        refine aw_sub (ls' := [(0, .ref 0), (1, .int (v1 ||| (0 : Int32))), (2, .int (v2 + 1))]) [2, 1, 0] rfl ?_
        exact ih (v1 ||| (0 : Int32)) (v2 + 1) S23 h
      · rw [if_neg c26] at h
        refine aw_aload_n (pc := 29) hX dX10_stays_29 rfl 0 rfl ?_
        refine gf_X10_81 (pc := 30) hX km0 rfl dX10_stays_30 ?_
        refine aw_iload_n (pc := 33) hX dX10_stays_33 rfl 2 rfl ?_
        obtain ⟨x34, hx34, h⟩ := ob h
        refine aw_iald (pc := 34) hX km23 hx34 dX10_stays_34 ?_
        refine aw_aload_n (pc := 35) hX dX10_stays_35 rfl 0 rfl ?_
        refine gf_X10_31 (pc := 36) hX km0 rfl dX10_stays_36 ?_
        refine aw_iload_n (pc := 39) hX dX10_stays_39 rfl 2 rfl ?_
        obtain ⟨x40, hx40, h⟩ := ob h
        refine aw_iald (pc := 40) hX km8 hx40 dX10_stays_40 ?_
        refine aw_icmp_le (pc := 41) hX (tgt := 50) dX10_stays_41 (by decide) (fun c41 => ?_) (fun c41 => ?_)
        · rw [if_pos c41] at h
          refine aw_iconst (v := (0 : Int32)) (pc := 50) hX dX10_stays_50 (by decide) ?_
          refine aw_ior (pc := 51) hX dX10_stays_51 ?_
          refine aw_istore_n (ls' := [(1, .int (v1 ||| (0 : Int32))), (0, .ref 0), (2, .int v2)]) (pc := 52) hX dX10_stays_52 rfl (by decide) rfl ?_
          refine aw_iinc (v := (v2 + 1)) (ls' := [(2, .int (v2 + 1)), (1, .int (v1 ||| (0 : Int32))), (0, .ref 0)]) (pc := 53) hX dX10_stays_53 (pos := 2) rfl (by first | rfl | decide) (by decide) rfl ?_
          refine aw_goto (tgt := 9) (pc := 56) hX dX10_stays_56 (by decide) ?_
          refine aw_sub (ls' := [(0, .ref 0), (1, .int (v1 ||| (0 : Int32))), (2, .int (v2 + 1))]) [2, 1, 0] rfl ?_
          exact ih (v1 ||| (0 : Int32)) (v2 + 1) S23 h
        · rw [if_neg c41] at h
          refine aw_iconst (v := (1 : Int32)) (pc := 44) hX dX10_stays_44 (by decide) ?_
          refine aw_iload_n (pc := 45) hX dX10_stays_45 rfl 2 rfl ?_
          refine aw_ishl (pc := 46) hX dX10_stays_46 ?_
          refine aw_goto (tgt := 51) (pc := 47) hX dX10_stays_47 (by decide) ?_
          refine aw_ior (pc := 51) hX dX10_stays_51 ?_
          refine aw_istore_n (ls' := [(1, .int (v1 ||| ((1 : Int32) <<< (v2 &&& 31)))), (0, .ref 0), (2, .int v2)]) (pc := 52) hX dX10_stays_52 rfl (by decide) rfl ?_
          refine aw_iinc (v := (v2 + 1)) (ls' := [(2, .int (v2 + 1)), (1, .int (v1 ||| ((1 : Int32) <<< (v2 &&& 31)))), (0, .ref 0)]) (pc := 53) hX dX10_stays_53 (pos := 2) rfl (by first | rfl | decide) (by decide) rfl ?_
          refine aw_goto (tgt := 9) (pc := 56) hX dX10_stays_56 (by decide) ?_
          refine aw_sub (ls' := [(0, .ref 0), (1, .int (v1 ||| ((1 : Int32) <<< (v2 &&& 31)))), (2, .int (v2 + 1))]) [2, 1, 0] rfl ?_
          exact ih (v1 ||| ((1 : Int32) <<< (v2 &&& 31))) (v2 + 1) S23 h

set_option maxHeartbeats 4000000 in
set_option maxRecDepth 100000 in
theorem c_X10_stays {S : Mem} {r : Int32} {Sf : Mem} (h : f_X10_stays S = some (r, Sf)) : MetI yX10_stays cX10_stays 3 (some .int) 1 [.ref 0] SKM S r Sf := by
  refine MetI.intro (by decide +kernel) (Nat.le_of_ble_eq_true rfl) (fun X loc hX hQ => ?_)
  unfold f_X10_stays at h
  show AW X SKM loc 0 0 0 [(0, .ref 0)] [] S
  refine aw_aload_n (pc := 0) hX dX10_stays_0 rfl 0 rfl ?_
  refine aw_iconst (v := (0 : Int32)) (pc := 1) hX dX10_stays_1 (by decide) ?_
  refine pf_X10_124 (pc := 2) hX km0 rfl dX10_stays_2 ?_
  obtain ⟨S2, eS2, h⟩ := on h
  refine aw_S eS2 ?_
  refine aw_iconst (v := (0 : Int32)) (pc := 5) hX dX10_stays_5 (by decide) ?_
  refine aw_istore_n (ls' := [(1, .int (0 : Int32)), (0, .ref 0)]) (pc := 6) hX dX10_stays_6 rfl (by decide) rfl ?_
  refine aw_iconst (v := (0 : Int32)) (pc := 7) hX dX10_stays_7 (by decide) ?_
  refine aw_istore_n (ls' := [(2, .int (0 : Int32)), (1, .int (0 : Int32)), (0, .ref 0)]) (pc := 8) hX dX10_stays_8 rfl (by decide) rfl ?_
  refine aw_sub (ls' := [(0, .ref 0), (1, .int (0 : Int32)), (2, .int (0 : Int32))]) [2, 1, 0] rfl ?_
  exact c_X10_stays_9 hX hQ FU (0 : Int32) (0 : Int32) S2 h

def f_X10_tea (v1 : Int32) (S : Mem) : Option (Int32 × Mem) :=
  nxt (sI S 0 0 (0 : Int32)) fun S2 =>
  bnd (f_X10_isCity v1 S2) fun r6 S6 =>
  if r6 = 0 then
  (some ((-1 : Int32), S6))
  else
  ((rd S6 19 46 ((1 : Int32) - v1)).bind fun x21 =>
  if x21 = 0 then
  (some ((-2 : Int32), S6))
  else
  ((f_X10_keepNow S6).bind fun S29 =>
  (rd S29 19 46 ((1 : Int32) - v1)).bind fun x47 =>
  (rd S29 2 14 (4 : Int32)).bind fun x53 =>
  bnd (f_J9_max_7cf53 (0 : Int32) (x47 - x53) S29) fun r55 S55 =>
  (wr S55 19 46 ((1 : Int32) - v1) r55).bind fun S58 =>
  (rd S58 19 46 ((1 : Int32) - v1)).bind fun x66 =>
  some (x66, S58)))

set_option maxHeartbeats 4000000 in
set_option maxRecDepth 100000 in
theorem c_X10_tea {v1 : Int32} {S : Mem} {r : Int32} {Sf : Mem} (h : f_X10_tea v1 S = some (r, Sf)) : MetI yX10_tea cX10_tea 2 (some .int) 2 [.ref 0, .int v1] SKM S r Sf := by
  refine MetI.intro (by decide +kernel) (Nat.le_of_ble_eq_true rfl) (fun X loc hX hQ => ?_)
  unfold f_X10_tea at h
  show AW X SKM loc 0 0 0 [(0, .ref 0), (1, .int v1)] [] S
  refine aw_aload_n (pc := 0) hX dX10_tea_0 rfl 0 rfl ?_
  refine aw_iconst (v := (0 : Int32)) (pc := 1) hX dX10_tea_1 (by decide) ?_
  refine pf_X10_124 (pc := 2) hX km0 rfl dX10_tea_2 ?_
  obtain ⟨S2, eS2, h⟩ := on h
  refine aw_S eS2 ?_
  refine aw_iload_n (pc := 5) hX dX10_tea_5 rfl 1 rfl ?_
  obtain ⟨r6, S6, hr6, h⟩ := ob2 h
  refine aw_cSI (pc := 6) (As := [.int v1]) (rest := []) hX (c_X10_isCity (sk := SKM) hr6) ok_X10_isCity kw_7_35 st_X10_isCity rfl (by decide) (Nat.le_of_ble_eq_true rfl) rfl dX10_tea_6 (Nat.le_refl 0) (Nat.le_refl 0) ?_
  refine aw_if_ne (pc := 9) hX (tgt := 14) dX10_tea_9 (by decide) (fun c9 => ?_) (fun c9 => ?_)
  · rw [if_neg c9] at h
    refine aw_aload_n (pc := 14) hX dX10_tea_14 rfl 0 rfl ?_
    refine gf_X10_69 (pc := 15) hX km0 rfl dX10_tea_15 ?_
    refine aw_iconst (v := (1 : Int32)) (pc := 18) hX dX10_tea_18 (by decide) ?_
    refine aw_iload_n (pc := 19) hX dX10_tea_19 rfl 1 rfl ?_
    refine aw_isub (pc := 20) hX dX10_tea_20 ?_
    obtain ⟨x21, hx21, h⟩ := ob h
    refine aw_iald (pc := 21) hX km19 hx21 dX10_tea_21 ?_
    refine aw_if_ne (pc := 22) hX (tgt := 28) dX10_tea_22 (by decide) (fun c22 => ?_) (fun c22 => ?_)
    · rw [if_neg c22] at h
      refine aw_aload_n (pc := 28) hX dX10_tea_28 rfl 0 rfl ?_
      obtain ⟨S29, hr29, h⟩ := ob h
      refine aw_cVV (pc := 29) (As := []) (rest := []) hX (c_X10_keepNow hr29) ok_X10_keepNow kw_7_106 im_X10_keepNow se_X10_keepNow rfl km0 rfl (by decide) (Nat.le_of_ble_eq_true rfl) rfl dX10_tea_29 (Nat.le_refl 0) (Nat.le_refl 0) ?_
      refine aw_aload_n (pc := 32) hX dX10_tea_32 rfl 0 rfl ?_
      refine gf_X10_69 (pc := 33) hX km0 rfl dX10_tea_33 ?_
      refine aw_iconst (v := (1 : Int32)) (pc := 36) hX dX10_tea_36 (by decide) ?_
      refine aw_iload_n (pc := 37) hX dX10_tea_37 rfl 1 rfl ?_
      refine aw_isub (pc := 38) hX dX10_tea_38 ?_
      refine aw_iconst (v := (0 : Int32)) (pc := 39) hX dX10_tea_39 (by decide) ?_
      refine aw_aload_n (pc := 40) hX dX10_tea_40 rfl 0 rfl ?_
      refine gf_X10_69 (pc := 41) hX km0 rfl dX10_tea_41 ?_
      refine aw_iconst (v := (1 : Int32)) (pc := 44) hX dX10_tea_44 (by decide) ?_
      refine aw_iload_n (pc := 45) hX dX10_tea_45 rfl 1 rfl ?_
      refine aw_isub (pc := 46) hX dX10_tea_46 ?_
      obtain ⟨x47, hx47, h⟩ := ob h
      refine aw_iald (pc := 47) hX km19 hx47 dX10_tea_47 ?_
      refine aw_aload_n (pc := 48) hX dX10_tea_48 rfl 0 rfl ?_
      refine gf_X10_13 (pc := 49) hX km0 rfl dX10_tea_49 ?_
      refine aw_iconst (v := (4 : Int32)) (pc := 52) hX dX10_tea_52 (by decide) ?_
      obtain ⟨x53, hx53, h⟩ := ob h
      refine aw_iald (pc := 53) hX km2 hx53 dX10_tea_53 ?_
      refine aw_isub (pc := 54) hX dX10_tea_54 ?_
      obtain ⟨r55, S55, hr55, h⟩ := ob2 h
      refine aw_cSI (pc := 55) (As := [.int (0 : Int32), .int (x47 - x53)]) (rest := [.int ((1 : Int32) - v1), .ref 19]) hX (c_J9_max_7cf53 (sk := SKM) hr55) ok_J9_max_7cf53 kw_7_66 st_J9_max_7cf53 rfl (by decide) (Nat.le_of_ble_eq_true rfl) rfl dX10_tea_55 (Nat.le_refl 0) (Nat.le_refl 0) ?_
      obtain ⟨S58, hS58, h⟩ := ob h
      refine aw_iast (pc := 58) hX km19 hS58 dX10_tea_58 ?_
      refine aw_aload_n (pc := 59) hX dX10_tea_59 rfl 0 rfl ?_
      refine gf_X10_69 (pc := 60) hX km0 rfl dX10_tea_60 ?_
      refine aw_iconst (v := (1 : Int32)) (pc := 63) hX dX10_tea_63 (by decide) ?_
      refine aw_iload_n (pc := 64) hX dX10_tea_64 rfl 1 rfl ?_
      refine aw_isub (pc := 65) hX dX10_tea_65 ?_
      obtain ⟨x66, hx66, h⟩ := ob h
      refine aw_iald (pc := 66) hX km19 hx66 dX10_tea_66 ?_
      cases h
      exact aw_iret hX hQ dX10_tea_67
    · rw [if_pos c22] at h
      refine aw_bipush (v := (-2 : Int32)) (pc := 25) hX dX10_tea_25 (by decide) ?_
      cases h
      exact aw_iret hX hQ dX10_tea_27
  · rw [if_pos c9] at h
    refine aw_iconst (v := (-1 : Int32)) (pc := 12) hX dX10_tea_12 (by decide) ?_
    cases h
    exact aw_iret hX hQ dX10_tea_13

def f_X10_thrown (S : Mem) : Option (Int32 × Mem) :=
  some ((S.1 0 0), S)

set_option maxHeartbeats 4000000 in
set_option maxRecDepth 100000 in
theorem c_X10_thrown {S : Mem} {r : Int32} {Sf : Mem} (h : f_X10_thrown S = some (r, Sf)) : MetI yX10_thrown cX10_thrown 1 (some .int) 0 [.ref 0] SKM S r Sf := by
  refine MetI.intro (by decide +kernel) (Nat.le_of_ble_eq_true rfl) (fun X loc hX hQ => ?_)
  unfold f_X10_thrown at h
  show AW X SKM loc 0 0 0 [(0, .ref 0)] [] S
  refine aw_aload_n (pc := 0) hX dX10_thrown_0 rfl 0 rfl ?_
  refine gf_X10_124 (pc := 1) hX km0 rfl dX10_thrown_1 ?_
  cases h
  exact aw_iret hX hQ dX10_thrown_4

def f_X10_tried_81 (v3 : Int32) (S : Mem) : Option (Int32 × Mem) :=
  (f_X10_goesOn v3 S).bind fun S83 =>
  nxt (sI S83 0 43 (0 : Int32)) fun S88 =>
  bnd (f_X10_hurtAll (1 : Int32) S88) fun r93 S93 =>
  some (r93, S93)

def f_X10_tried_36 (v1 : Int32) (v2 : Int32) (v3 : Int32) (t0 : Int32) (S : Mem) : Option (Int32 × Mem) :=
  if t0 = 0 then
  (some ((-1 : Int32), S))
  else
  (if v3 < 0 then
  (some ((-1 : Int32), S))
  else
  (if v3 ≤ (60 : Int32) then
  (nxt (sI S 0 43 v1) fun S57 =>
  (f_X10_copies (1 : Int32) (0 : Int32) S57).bind fun S63 =>
  if v1 = (2 : Int32) then
  ((wr S63 24 230 ((10 : Int32) + v2) (0 : Int32)).bind fun S80 =>
  f_X10_tried_81 v3 S80)
  else
  (f_X10_tried_81 v3 S63))
  else
  (some ((-1 : Int32), S))))

def f_X10_tried_35 (v1 : Int32) (v2 : Int32) (v3 : Int32) (S : Mem) : Option (Int32 × Mem) :=
  f_X10_tried_36 v1 v2 v3 (0 : Int32) S

def f_X10_tried (v1 : Int32) (v2 : Int32) (v3 : Int32) (S : Mem) : Option (Int32 × Mem) :=
  nxt (sI S 0 0 (0 : Int32)) fun S2 =>
  if v1 = (2 : Int32) then
  (bnd (f_X10_isDoll v2 S2) fun r12 S12 =>
  f_X10_tried_36 v1 v2 v3 r12 S12)
  else
  (if v1 < 0 then
  (f_X10_tried_35 v1 v2 v3 S2)
  else
  (if (5 : Int32) < v1 then
  (f_X10_tried_35 v1 v2 v3 S2)
  else
  (if v2 = 0 then
  (f_X10_tried_36 v1 v2 v3 (1 : Int32) S2)
  else
  (f_X10_tried_35 v1 v2 v3 S2))))

set_option maxHeartbeats 4000000 in
set_option maxRecDepth 100000 in
theorem c_X10_tried_81 {X : XT} {loc : Nat → Nat} {r : Int32} {Sf : Mem} (hX : AC X loc RX10 cX10_tried (some .int) 5 8 0 0) (hQ : RetI X SKM loc 0 0 r Sf) (v3 : Int32) (S : Mem) (h : f_X10_tried_81 v3 S = some (r, Sf)) : AW X SKM loc 0 0 81 [(0, .ref 0), (3, .int v3)] [] S := by
  unfold f_X10_tried_81 at h
  refine aw_aload_n (pc := 81) hX dX10_tried_81 rfl 0 rfl ?_
  refine aw_iload_n (pc := 82) hX dX10_tried_82 rfl 1 rfl ?_
  obtain ⟨S83, hr83, h⟩ := ob h
  refine aw_cVV (pc := 83) (As := [.int v3]) (rest := []) hX (c_X10_goesOn hr83) ok_X10_goesOn kw_7_169 im_X10_goesOn se_X10_goesOn rfl km0 rfl (by decide) (Nat.le_of_ble_eq_true rfl) rfl dX10_tried_83 (Nat.le_refl 0) (Nat.le_refl 0) ?_
  refine aw_aload_n (pc := 86) hX dX10_tried_86 rfl 0 rfl ?_
  refine aw_iconst (v := (0 : Int32)) (pc := 87) hX dX10_tried_87 (by decide) ?_
  refine pf_X10_317 (pc := 88) hX km0 rfl dX10_tried_88 ?_
  obtain ⟨S88, eS88, h⟩ := on h
  refine aw_S eS88 ?_
  refine aw_aload_n (pc := 91) hX dX10_tried_91 rfl 0 rfl ?_
  refine aw_iconst (v := (1 : Int32)) (pc := 92) hX dX10_tried_92 (by decide) ?_
  obtain ⟨r93, S93, hr93, h⟩ := ob2 h
  refine aw_cVI (pc := 93) (As := [.int (1 : Int32)]) (rest := []) hX (c_X10_hurtAll hr93) ok_X10_hurtAll kw_8_58 im_X10_hurtAll se_X10_hurtAll rfl km0 rfl (by decide) (Nat.le_of_ble_eq_true rfl) rfl dX10_tried_93 (Nat.le_refl 0) (Nat.le_refl 0) ?_
  cases h
  exact aw_iret hX hQ dX10_tried_96

set_option maxHeartbeats 4000000 in
set_option maxRecDepth 100000 in
theorem c_X10_tried_36 {X : XT} {loc : Nat → Nat} {r : Int32} {Sf : Mem} (hX : AC X loc RX10 cX10_tried (some .int) 5 8 0 0) (hQ : RetI X SKM loc 0 0 r Sf) (v1 : Int32) (v2 : Int32) (v3 : Int32) (t0 : Int32) (S : Mem) (h : f_X10_tried_36 v1 v2 v3 t0 S = some (r, Sf)) : AW X SKM loc 0 0 36 [(0, .ref 0), (1, .int v1), (2, .int v2), (3, .int v3)] [.int t0] S := by
  unfold f_X10_tried_36 at h
  refine aw_istore (ls' := [(4, .int t0), (0, .ref 0), (1, .int v1), (2, .int v2), (3, .int v3)]) (pc := 36) hX dX10_tried_36 (by decide) rfl ?_
  refine aw_iload (pc := 38) hX dX10_tried_38 0 rfl ?_
  refine aw_if_eq (pc := 40) hX (tgt := 53) dX10_tried_40 (by decide) (fun c40 => ?_) (fun c40 => ?_)
  · rw [if_pos c40] at h
    refine aw_iconst (v := (-1 : Int32)) (pc := 53) hX dX10_tried_53 (by decide) ?_
    cases h
    exact aw_iret hX hQ dX10_tried_54
  · rw [if_neg c40] at h
    refine aw_iload_n (pc := 43) hX dX10_tried_43 rfl 4 rfl ?_
    refine aw_if_lt (pc := 44) hX (tgt := 53) dX10_tried_44 (by decide) (fun c44 => ?_) (fun c44 => ?_)
    · rw [if_pos c44] at h
      refine aw_iconst (v := (-1 : Int32)) (pc := 53) hX dX10_tried_53 (by decide) ?_
      cases h
      exact aw_iret hX hQ dX10_tried_54
    · rw [if_neg c44] at h
      refine aw_iload_n (pc := 47) hX dX10_tried_47 rfl 4 rfl ?_
      refine aw_bipush (v := (60 : Int32)) (pc := 48) hX dX10_tried_48 (by decide) ?_
      refine aw_icmp_le (pc := 50) hX (tgt := 55) dX10_tried_50 (by decide) (fun c50 => ?_) (fun c50 => ?_)
      · rw [if_pos c50] at h
        refine aw_aload_n (pc := 55) hX dX10_tried_55 rfl 1 rfl ?_
        refine aw_iload_n (pc := 56) hX dX10_tried_56 rfl 2 rfl ?_
        refine pf_X10_317 (pc := 57) hX km0 rfl dX10_tried_57 ?_
        obtain ⟨S57, eS57, h⟩ := on h
        refine aw_S eS57 ?_
        refine aw_aload_n (pc := 60) hX dX10_tried_60 rfl 1 rfl ?_
        refine aw_iconst (v := (1 : Int32)) (pc := 61) hX dX10_tried_61 (by decide) ?_
        refine aw_iconst (v := (0 : Int32)) (pc := 62) hX dX10_tried_62 (by decide) ?_
        obtain ⟨S63, hr63, h⟩ := ob h
        refine aw_cVV (pc := 63) (As := [.int (1 : Int32), .int (0 : Int32)]) (rest := []) hX (c_X10_copies hr63) ok_X10_copies kw_7_110 im_X10_copies se_X10_copies rfl km0 rfl (by decide) (Nat.le_of_ble_eq_true rfl) rfl dX10_tried_63 (Nat.le_refl 0) (Nat.le_refl 0) ?_
        refine aw_iload_n (pc := 66) hX dX10_tried_66 rfl 2 rfl ?_
        refine aw_iconst (v := (2 : Int32)) (pc := 67) hX dX10_tried_67 (by decide) ?_
        refine aw_icmp_ne (pc := 68) hX (tgt := 81) dX10_tried_68 (by decide) (fun c68 => ?_) (fun c68 => ?_)
        · rw [if_neg c68] at h
          refine aw_sub (ls' := [(0, .ref 0), (3, .int v3)]) [1, 4] rfl ?_
          exact c_X10_tried_81 hX hQ v3 S63 h
        · rw [if_pos c68] at h
          refine aw_aload_n (pc := 71) hX dX10_tried_71 rfl 1 rfl ?_
          refine gf_X10_84 (pc := 72) hX km0 rfl dX10_tried_72 ?_
          refine aw_bipush (v := (10 : Int32)) (pc := 75) hX dX10_tried_75 (by decide) ?_
          refine aw_iload_n (pc := 77) hX dX10_tried_77 rfl 3 rfl ?_
          refine aw_iadd (pc := 78) hX dX10_tried_78 ?_
          refine aw_iconst (v := (0 : Int32)) (pc := 79) hX dX10_tried_79 (by decide) ?_
          obtain ⟨S80, hS80, h⟩ := ob h
          refine aw_iast (pc := 80) hX km24 hS80 dX10_tried_80 ?_
          refine aw_sub (ls' := [(0, .ref 0), (3, .int v3)]) [1, 4] rfl ?_
          exact c_X10_tried_81 hX hQ v3 S80 h
      · rw [if_neg c50] at h
        refine aw_iconst (v := (-1 : Int32)) (pc := 53) hX dX10_tried_53 (by decide) ?_
        cases h
        exact aw_iret hX hQ dX10_tried_54

set_option maxHeartbeats 4000000 in
set_option maxRecDepth 100000 in
theorem c_X10_tried_35 {X : XT} {loc : Nat → Nat} {r : Int32} {Sf : Mem} (hX : AC X loc RX10 cX10_tried (some .int) 5 8 0 0) (hQ : RetI X SKM loc 0 0 r Sf) (v1 : Int32) (v2 : Int32) (v3 : Int32) (S : Mem) (h : f_X10_tried_35 v1 v2 v3 S = some (r, Sf)) : AW X SKM loc 0 0 35 [(0, .ref 0), (1, .int v1), (2, .int v2), (3, .int v3)] [] S := by
  unfold f_X10_tried_35 at h
  refine aw_iconst (v := (0 : Int32)) (pc := 35) hX dX10_tried_35 (by decide) ?_
  exact c_X10_tried_36 hX hQ v1 v2 v3 (0 : Int32) S h

set_option maxHeartbeats 4000000 in
set_option maxRecDepth 100000 in
theorem c_X10_tried {v1 : Int32} {v2 : Int32} {v3 : Int32} {S : Mem} {r : Int32} {Sf : Mem} (h : f_X10_tried v1 v2 v3 S = some (r, Sf)) : MetI yX10_tried cX10_tried 5 (some .int) 8 [.ref 0, .int v1, .int v2, .int v3] SKM S r Sf := by
  refine MetI.intro (by decide +kernel) (Nat.le_of_ble_eq_true rfl) (fun X loc hX hQ => ?_)
  unfold f_X10_tried at h
  show AW X SKM loc 0 0 0 [(0, .ref 0), (1, .int v1), (2, .int v2), (3, .int v3)] [] S
  refine aw_aload_n (pc := 0) hX dX10_tried_0 rfl 0 rfl ?_
  refine aw_iconst (v := (0 : Int32)) (pc := 1) hX dX10_tried_1 (by decide) ?_
  refine pf_X10_124 (pc := 2) hX km0 rfl dX10_tried_2 ?_
  obtain ⟨S2, eS2, h⟩ := on h
  refine aw_S eS2 ?_
  refine aw_iload_n (pc := 5) hX dX10_tried_5 rfl 1 rfl ?_
  refine aw_iconst (v := (2 : Int32)) (pc := 6) hX dX10_tried_6 (by decide) ?_
  refine aw_icmp_ne (pc := 7) hX (tgt := 18) dX10_tried_7 (by decide) (fun c7 => ?_) (fun c7 => ?_)
  · rw [if_neg c7] at h
    refine aw_iload_n (pc := 18) hX dX10_tried_18 rfl 1 rfl ?_
    refine aw_if_lt (pc := 19) hX (tgt := 35) dX10_tried_19 (by decide) (fun c19 => ?_) (fun c19 => ?_)
    · rw [if_pos c19] at h
      exact c_X10_tried_35 hX hQ v1 v2 v3 S2 h
    · rw [if_neg c19] at h
      refine aw_iload_n (pc := 22) hX dX10_tried_22 rfl 1 rfl ?_
      refine aw_iconst (v := (5 : Int32)) (pc := 23) hX dX10_tried_23 (by decide) ?_
      refine aw_icmp_gt (pc := 24) hX (tgt := 35) dX10_tried_24 (by decide) (fun c24 => ?_) (fun c24 => ?_)
      · rw [if_pos c24] at h
        exact c_X10_tried_35 hX hQ v1 v2 v3 S2 h
      · rw [if_neg c24] at h
        refine aw_iload_n (pc := 27) hX dX10_tried_27 rfl 2 rfl ?_
        refine aw_if_ne (pc := 28) hX (tgt := 35) dX10_tried_28 (by decide) (fun c28 => ?_) (fun c28 => ?_)
        · rw [if_neg c28] at h
          exact c_X10_tried_35 hX hQ v1 v2 v3 S2 h
        · rw [if_pos c28] at h
          refine aw_iconst (v := (1 : Int32)) (pc := 31) hX dX10_tried_31 (by decide) ?_
          refine aw_goto (tgt := 36) (pc := 32) hX dX10_tried_32 (by decide) ?_
          exact c_X10_tried_36 hX hQ v1 v2 v3 (1 : Int32) S2 h
  · rw [if_pos c7] at h
    refine aw_aload_n (pc := 10) hX dX10_tried_10 rfl 0 rfl ?_
    refine aw_iload_n (pc := 11) hX dX10_tried_11 rfl 2 rfl ?_
    obtain ⟨r12, S12, hr12, h⟩ := ob2 h
    refine aw_cVI (pc := 12) (As := [.int v2]) (rest := []) hX (c_X10_isDoll hr12) ok_X10_isDoll kw_7_11 im_X10_isDoll se_X10_isDoll rfl km0 rfl (by decide) (Nat.le_of_ble_eq_true rfl) rfl dX10_tried_12 (Nat.le_refl 0) (Nat.le_refl 0) ?_
    refine aw_goto (tgt := 36) (pc := 15) hX dX10_tried_15 (by decide) ?_
    exact c_X10_tried_36 hX hQ v1 v2 v3 r12 S12 h

def f_X10_undo (S : Mem) : Option (Int32 × Mem) :=
  nxt (sI S 0 0 (0 : Int32)) fun S2 =>
  if (S2.1 0 42) = 0 then
  (some ((-1 : Int32), S2))
  else
  (nxt (sI S2 0 42 ((S2.1 0 42) - (1 : Int32))) fun S21 =>
  (f_X10_copies (0 : Int32) ((3 : Int32) + (S21.1 0 42)) S21).bind fun S32 =>
  some ((S32.1 0 42), S32))

set_option maxHeartbeats 4000000 in
set_option maxRecDepth 100000 in
theorem c_X10_undo {S : Mem} {r : Int32} {Sf : Mem} (h : f_X10_undo S = some (r, Sf)) : MetI yX10_undo cX10_undo 1 (some .int) 1 [.ref 0] SKM S r Sf := by
  refine MetI.intro (by decide +kernel) (Nat.le_of_ble_eq_true rfl) (fun X loc hX hQ => ?_)
  unfold f_X10_undo at h
  show AW X SKM loc 0 0 0 [(0, .ref 0)] [] S
  refine aw_aload_n (pc := 0) hX dX10_undo_0 rfl 0 rfl ?_
  refine aw_iconst (v := (0 : Int32)) (pc := 1) hX dX10_undo_1 (by decide) ?_
  refine pf_X10_124 (pc := 2) hX km0 rfl dX10_undo_2 ?_
  obtain ⟨S2, eS2, h⟩ := on h
  refine aw_S eS2 ?_
  refine aw_aload_n (pc := 5) hX dX10_undo_5 rfl 0 rfl ?_
  refine gf_X10_284 (pc := 6) hX km0 rfl dX10_undo_6 ?_
  refine aw_if_ne (pc := 9) hX (tgt := 14) dX10_undo_9 (by decide) (fun c9 => ?_) (fun c9 => ?_)
  · rw [if_neg c9] at h
    refine aw_aload_n (pc := 14) hX dX10_undo_14 rfl 0 rfl ?_
    refine aw_dup (pc := 15) hX dX10_undo_15 rfl ?_
    refine gf_X10_284 (pc := 16) hX km0 rfl dX10_undo_16 ?_
    refine aw_iconst (v := (1 : Int32)) (pc := 19) hX dX10_undo_19 (by decide) ?_
    refine aw_isub (pc := 20) hX dX10_undo_20 ?_
    refine pf_X10_284 (pc := 21) hX km0 rfl dX10_undo_21 ?_
    obtain ⟨S21, eS21, h⟩ := on h
    refine aw_S eS21 ?_
    refine aw_aload_n (pc := 24) hX dX10_undo_24 rfl 0 rfl ?_
    refine aw_iconst (v := (0 : Int32)) (pc := 25) hX dX10_undo_25 (by decide) ?_
    refine aw_iconst (v := (3 : Int32)) (pc := 26) hX dX10_undo_26 (by decide) ?_
    refine aw_aload_n (pc := 27) hX dX10_undo_27 rfl 0 rfl ?_
    refine gf_X10_284 (pc := 28) hX km0 rfl dX10_undo_28 ?_
    refine aw_iadd (pc := 31) hX dX10_undo_31 ?_
    obtain ⟨S32, hr32, h⟩ := ob h
    refine aw_cVV (pc := 32) (As := [.int (0 : Int32), .int ((3 : Int32) + (S21.1 0 42))]) (rest := []) hX (c_X10_copies hr32) ok_X10_copies kw_7_110 im_X10_copies se_X10_copies rfl km0 rfl (by decide) (Nat.le_of_ble_eq_true rfl) rfl dX10_undo_32 (Nat.le_refl 0) (Nat.le_refl 0) ?_
    refine aw_aload_n (pc := 35) hX dX10_undo_35 rfl 0 rfl ?_
    refine gf_X10_284 (pc := 36) hX km0 rfl dX10_undo_36 ?_
    cases h
    exact aw_iret hX hQ dX10_undo_39
  · rw [if_pos c9] at h
    refine aw_iconst (v := (-1 : Int32)) (pc := 12) hX dX10_undo_12 (by decide) ?_
    cases h
    exact aw_iret hX hQ dX10_undo_13

def f_X10_until_33 : Nat → Int32 → Int32 → Int32 → Mem → Option (Int32 × Mem)
  | 0, _, _, _, _ => none
  | n + 1, v1, v2, v3, S =>
  if (99 : Int32) < v3 then
  (some ((-2 : Int32), S))
  else
  ((rd S 22 230 ((10 : Int32) + v1)).bind fun x47 =>
  if x47 < v2 then
  ((f_X10_passes (1 : Int32) (0 : Int32) S).bind fun S57 =>
  f_X10_until_33 n v1 v2 (v3 + 1) S57)
  else
  (some (v3, S)))

def f_X10_until (v1 : Int32) (v2 : Int32) (S : Mem) : Option (Int32 × Mem) :=
  nxt (sI S 0 0 (0 : Int32)) fun S2 =>
  bnd (f_X10_isDoll v1 S2) fun r7 S7 =>
  if r7 = 0 then
  (some ((-1 : Int32), S7))
  else
  (if v2 < 0 then
  (some ((-1 : Int32), S7))
  else
  (if v2 ≤ (9 : Int32) then
  ((f_X10_copies (1 : Int32) (0 : Int32) S7).bind fun S28 =>
  f_X10_until_33 FU v1 v2 (0 : Int32) S28)
  else
  (some ((-1 : Int32), S7))))

set_option maxHeartbeats 4000000 in
set_option maxRecDepth 100000 in
theorem c_X10_until_33 {X : XT} {loc : Nat → Nat} {r : Int32} {Sf : Mem} (hX : AC X loc RX10 cX10_until (some .int) 4 7 0 0) (hQ : RetI X SKM loc 0 0 r Sf) : ∀ (n : Nat) (v1 : Int32) (v2 : Int32) (v3 : Int32) (S : Mem), f_X10_until_33 n v1 v2 v3 S = some (r, Sf) → AW X SKM loc 0 0 33 [(0, .ref 0), (1, .int v1), (2, .int v2), (3, .int v3)] [] S := by
  intro n
  induction n with
  | zero => intro v1 v2 v3 S h; cases h
  | succ n ih =>
    intro v1 v2 v3 S h
    unfold f_X10_until_33 at h
    refine aw_iload_n (pc := 33) hX dX10_until_33 rfl 3 rfl ?_
    refine aw_bipush (v := (99 : Int32)) (pc := 34) hX dX10_until_34 (by decide) ?_
    refine aw_icmp_gt (pc := 36) hX (tgt := 66) dX10_until_36 (by decide) (fun c36 => ?_) (fun c36 => ?_)
    · rw [if_pos c36] at h
      refine aw_bipush (v := (-2 : Int32)) (pc := 66) hX dX10_until_66 (by decide) ?_
      cases h
      exact aw_iret hX hQ dX10_until_68
    · rw [if_neg c36] at h
      refine aw_aload_n (pc := 39) hX dX10_until_39 rfl 0 rfl ?_
      refine gf_X10_78 (pc := 40) hX km0 rfl dX10_until_40 ?_
      refine aw_bipush (v := (10 : Int32)) (pc := 43) hX dX10_until_43 (by decide) ?_
      refine aw_iload_n (pc := 45) hX dX10_until_45 rfl 1 rfl ?_
      refine aw_iadd (pc := 46) hX dX10_until_46 ?_
      obtain ⟨x47, hx47, h⟩ := ob h
      refine aw_iald (pc := 47) hX km22 hx47 dX10_until_47 ?_
      refine aw_iload_n (pc := 48) hX dX10_until_48 rfl 2 rfl ?_
      refine aw_icmp_lt (pc := 49) hX (tgt := 54) dX10_until_49 (by decide) (fun c49 => ?_) (fun c49 => ?_)
      · rw [if_pos c49] at h
        refine aw_aload_n (pc := 54) hX dX10_until_54 rfl 0 rfl ?_
        refine aw_iconst (v := (1 : Int32)) (pc := 55) hX dX10_until_55 (by decide) ?_
        refine aw_iconst (v := (0 : Int32)) (pc := 56) hX dX10_until_56 (by decide) ?_
        obtain ⟨S57, hr57, h⟩ := ob h
        refine aw_cVV (pc := 57) (As := [.int (1 : Int32), .int (0 : Int32)]) (rest := []) hX (c_X10_passes hr57) ok_X10_passes kw_7_130 im_X10_passes se_X10_passes rfl km0 rfl (by decide) (Nat.le_of_ble_eq_true rfl) rfl dX10_until_57 (Nat.le_refl 0) (Nat.le_refl 0) ?_
        refine aw_iinc (v := (v3 + 1)) (ls' := [(3, .int (v3 + 1)), (0, .ref 0), (1, .int v1), (2, .int v2)]) (pc := 60) hX dX10_until_60 (pos := 3) rfl (by first | rfl | decide) (by decide) rfl ?_
        refine aw_goto (tgt := 33) (pc := 63) hX dX10_until_63 (by decide) ?_
        refine aw_sub (ls' := [(0, .ref 0), (1, .int v1), (2, .int v2), (3, .int (v3 + 1))]) [1, 2, 3, 0] rfl ?_
        exact ih v1 v2 (v3 + 1) S57 h
      · rw [if_neg c49] at h
        refine aw_iload_n (pc := 52) hX dX10_until_52 rfl 3 rfl ?_
        cases h
        exact aw_iret hX hQ dX10_until_53

set_option maxHeartbeats 4000000 in
set_option maxRecDepth 100000 in
theorem c_X10_until {v1 : Int32} {v2 : Int32} {S : Mem} {r : Int32} {Sf : Mem} (h : f_X10_until v1 v2 S = some (r, Sf)) : MetI yX10_until cX10_until 4 (some .int) 7 [.ref 0, .int v1, .int v2] SKM S r Sf := by
  refine MetI.intro (by decide +kernel) (Nat.le_of_ble_eq_true rfl) (fun X loc hX hQ => ?_)
  unfold f_X10_until at h
  show AW X SKM loc 0 0 0 [(0, .ref 0), (1, .int v1), (2, .int v2)] [] S
  refine aw_aload_n (pc := 0) hX dX10_until_0 rfl 0 rfl ?_
  refine aw_iconst (v := (0 : Int32)) (pc := 1) hX dX10_until_1 (by decide) ?_
  refine pf_X10_124 (pc := 2) hX km0 rfl dX10_until_2 ?_
  obtain ⟨S2, eS2, h⟩ := on h
  refine aw_S eS2 ?_
  refine aw_aload_n (pc := 5) hX dX10_until_5 rfl 0 rfl ?_
  refine aw_iload_n (pc := 6) hX dX10_until_6 rfl 1 rfl ?_
  obtain ⟨r7, S7, hr7, h⟩ := ob2 h
  refine aw_cVI (pc := 7) (As := [.int v1]) (rest := []) hX (c_X10_isDoll hr7) ok_X10_isDoll kw_7_11 im_X10_isDoll se_X10_isDoll rfl km0 rfl (by decide) (Nat.le_of_ble_eq_true rfl) rfl dX10_until_7 (Nat.le_refl 0) (Nat.le_refl 0) ?_
  refine aw_if_eq (pc := 10) hX (tgt := 23) dX10_until_10 (by decide) (fun c10 => ?_) (fun c10 => ?_)
  · rw [if_pos c10] at h
    refine aw_iconst (v := (-1 : Int32)) (pc := 23) hX dX10_until_23 (by decide) ?_
    cases h
    exact aw_iret hX hQ dX10_until_24
  · rw [if_neg c10] at h
    refine aw_iload_n (pc := 13) hX dX10_until_13 rfl 2 rfl ?_
    refine aw_if_lt (pc := 14) hX (tgt := 23) dX10_until_14 (by decide) (fun c14 => ?_) (fun c14 => ?_)
    · rw [if_pos c14] at h
      refine aw_iconst (v := (-1 : Int32)) (pc := 23) hX dX10_until_23 (by decide) ?_
      cases h
      exact aw_iret hX hQ dX10_until_24
    · rw [if_neg c14] at h
      refine aw_iload_n (pc := 17) hX dX10_until_17 rfl 2 rfl ?_
      refine aw_bipush (v := (9 : Int32)) (pc := 18) hX dX10_until_18 (by decide) ?_
      refine aw_icmp_le (pc := 20) hX (tgt := 25) dX10_until_20 (by decide) (fun c20 => ?_) (fun c20 => ?_)
      · rw [if_pos c20] at h
        refine aw_aload_n (pc := 25) hX dX10_until_25 rfl 0 rfl ?_
        refine aw_iconst (v := (1 : Int32)) (pc := 26) hX dX10_until_26 (by decide) ?_
        refine aw_iconst (v := (0 : Int32)) (pc := 27) hX dX10_until_27 (by decide) ?_
        obtain ⟨S28, hr28, h⟩ := ob h
        refine aw_cVV (pc := 28) (As := [.int (1 : Int32), .int (0 : Int32)]) (rest := []) hX (c_X10_copies hr28) ok_X10_copies kw_7_110 im_X10_copies se_X10_copies rfl km0 rfl (by decide) (Nat.le_of_ble_eq_true rfl) rfl dX10_until_28 (Nat.le_refl 0) (Nat.le_refl 0) ?_
        refine aw_iconst (v := (0 : Int32)) (pc := 31) hX dX10_until_31 (by decide) ?_
        refine aw_istore_n (ls' := [(3, .int (0 : Int32)), (0, .ref 0), (1, .int v1), (2, .int v2)]) (pc := 32) hX dX10_until_32 rfl (by decide) rfl ?_
        refine aw_sub (ls' := [(0, .ref 0), (1, .int v1), (2, .int v2), (3, .int (0 : Int32))]) [1, 2, 3, 0] rfl ?_
        exact c_X10_until_33 hX hQ FU v1 v2 (0 : Int32) S28 h
      · rw [if_neg c20] at h
        refine aw_iconst (v := (-1 : Int32)) (pc := 23) hX dX10_until_23 (by decide) ?_
        cases h
        exact aw_iret hX hQ dX10_until_24

def f_X10_whole_68 : Nat → Int32 → Int32 → Int32 → Int64 → Int64 → Int32 → Mem → Option (Int64 × Mem)
  | 0, _, _, _, _, _, _, _ => none
  | n + 1, v2, v3, v4, v5, v7, v9, S =>
  if v2 ≤ v9 then
  (bnd (f_X10_common v5 v7 S) fun r103 S103 =>
  if v3 = 0 then
  ((dvL v5 r103).bind fun x116 =>
  some (x116, S103))
  else
  ((dvL v7 r103).bind fun x124 =>
  some (x124, S103)))
  else
  (f_X10_whole_68 n v2 v3 v4 (v5 * ((((100 : Int32) - v4)).toInt64)) (v7 * (100 : Int64)) (v9 + 1) S)

def f_X10_whole (v1 : Int32) (v2 : Int32) (v3 : Int32) (S : Mem) : Option (Int64 × Mem) :=
  nxt (sI S 0 0 (0 : Int32)) fun S2 =>
  bnd (f_X10_isDoll v1 S2) fun r7 S7 =>
  if r7 = 0 then
  (some ((-1 : Int64), S7))
  else
  (bnd (f_X10_isHeld (0 : Int32) v1 S7) fun r16 S16 =>
  if r16 = 0 then
  (some ((-1 : Int64), S16))
  else
  (if v2 < 0 then
  (some ((-1 : Int64), S16))
  else
  (if (6 : Int32) < v2 then
  (some ((-1 : Int64), S16))
  else
  (if v3 < 0 then
  (some ((-1 : Int64), S16))
  else
  (if v3 ≤ (1 : Int32) then
  ((rd S16 21 230 v1).bind fun x53 =>
  bnd (f_X10_mothsBy (0 : Int32) v1 x53 S16) fun r54 S54 =>
  f_X10_whole_68 FU v2 v3 r54 (1 : Int64) (1 : Int64) (0 : Int32) S54)
  else
  (some ((-1 : Int64), S16)))))))

set_option maxHeartbeats 4000000 in
set_option maxRecDepth 100000 in
theorem c_X10_whole_68 {X : XT} {loc : Nat → Nat} {r : Int64} {Sf : Mem} (hX : AC X loc RX10 cX10_whole (some .long) 11 5 0 0) (hQ : RetL X SKM loc 0 0 r Sf) : ∀ (n : Nat) (v2 : Int32) (v3 : Int32) (v4 : Int32) (v5 : Int64) (v7 : Int64) (v9 : Int32) (S : Mem), f_X10_whole_68 n v2 v3 v4 v5 v7 v9 S = some (r, Sf) → AW X SKM loc 0 0 68 [(2, .int v2), (3, .int v3), (4, .int v4), (5, .long v5), (7, .long v7), (9, .int v9)] [] S := by
  intro n
  induction n with
  | zero => intro v2 v3 v4 v5 v7 v9 S h; cases h
  | succ n ih =>
    intro v2 v3 v4 v5 v7 v9 S h
    unfold f_X10_whole_68 at h
    refine aw_iload (pc := 68) hX dX10_whole_68 5 rfl ?_
    refine aw_iload_n (pc := 70) hX dX10_whole_70 rfl 0 rfl ?_
    refine aw_icmp_ge (pc := 71) hX (tgt := 99) dX10_whole_71 (by decide) (fun c71 => ?_) (fun c71 => ?_)
    · rw [if_pos c71] at h
      refine aw_lload (pc := 99) hX dX10_whole_99 3 rfl ?_
      refine aw_lload (pc := 101) hX dX10_whole_101 4 rfl ?_
      obtain ⟨r103, S103, hr103, h⟩ := ob2 h
      refine aw_cSL (pc := 103) (As := [.long v5, .long v7]) (rest := []) hX (c_X10_common (sk := SKM) hr103) ok_X10_common kw_8_7 st_X10_common rfl (by decide) (Nat.le_of_ble_eq_true rfl) rfl dX10_whole_103 (Nat.le_refl 0) (Nat.le_refl 0) ?_
      refine aw_lstore (ls' := [(9, .long r103), (2, .int v2), (3, .int v3), (4, .int v4), (5, .long v5), (7, .long v7)]) (pc := 106) hX dX10_whole_106 (by decide) rfl ?_
      refine aw_iload_n (pc := 108) hX dX10_whole_108 rfl 2 rfl ?_
      refine aw_if_ne (pc := 109) hX (tgt := 120) dX10_whole_109 (by decide) (fun c109 => ?_) (fun c109 => ?_)
      · rw [if_neg c109] at h
        refine aw_lload (pc := 120) hX dX10_whole_120 5 rfl ?_
        refine aw_lload (pc := 122) hX dX10_whole_122 0 rfl ?_
        obtain ⟨x124, hx124, h⟩ := ob h
        refine aw_ldiv (pc := 124) hX dX10_whole_124 hx124 ?_
        cases h
        exact aw_lret hX hQ dX10_whole_125
      · rw [if_pos c109] at h
        refine aw_lload (pc := 112) hX dX10_whole_112 4 rfl ?_
        refine aw_lload (pc := 114) hX dX10_whole_114 0 rfl ?_
        obtain ⟨x116, hx116, h⟩ := ob h
        refine aw_ldiv (pc := 116) hX dX10_whole_116 hx116 ?_
        refine aw_goto (tgt := 125) (pc := 117) hX dX10_whole_117 (by decide) ?_
        cases h
        exact aw_lret hX hQ dX10_whole_125
    · rw [if_neg c71] at h
      refine aw_lload (pc := 74) hX dX10_whole_74 3 rfl ?_
      refine aw_bipush (v := (100 : Int32)) (pc := 76) hX dX10_whole_76 (by decide) ?_
      refine aw_iload (pc := 78) hX dX10_whole_78 2 rfl ?_
      refine aw_isub (pc := 80) hX dX10_whole_80 ?_
      refine aw_i2l (pc := 81) hX dX10_whole_81 ?_
      refine aw_lmul (pc := 82) hX dX10_whole_82 ?_
      refine aw_lstore (ls' := [(5, .long (v5 * ((((100 : Int32) - v4)).toInt64))), (2, .int v2), (3, .int v3), (4, .int v4), (7, .long v7), (9, .int v9)]) (pc := 83) hX dX10_whole_83 (by decide) rfl ?_
      refine aw_lload (pc := 85) hX dX10_whole_85 4 rfl ?_
      refine aw_ldc2 (v := (100 : Int64)) (pc := 87) hX kw_8_6 dX10_whole_87 ?_
      refine aw_lmul (pc := 90) hX dX10_whole_90 ?_
      refine aw_lstore (ls' := [(7, .long (v7 * (100 : Int64))), (5, .long (v5 * ((((100 : Int32) - v4)).toInt64))), (2, .int v2), (3, .int v3), (4, .int v4), (9, .int v9)]) (pc := 91) hX dX10_whole_91 (by decide) rfl ?_
      refine aw_iinc (v := (v9 + 1)) (ls' := [(9, .int (v9 + 1)), (7, .long (v7 * (100 : Int64))), (5, .long (v5 * ((((100 : Int32) - v4)).toInt64))), (2, .int v2), (3, .int v3), (4, .int v4)]) (pc := 93) hX dX10_whole_93 (pos := 5) rfl (by first | rfl | decide) (by decide) rfl ?_
      refine aw_goto (tgt := 68) (pc := 96) hX dX10_whole_96 (by decide) ?_
      refine aw_sub (ls' := [(2, .int v2), (3, .int v3), (4, .int v4), (5, .long (v5 * ((((100 : Int32) - v4)).toInt64))), (7, .long (v7 * (100 : Int64))), (9, .int (v9 + 1))]) [3, 4, 5, 2, 1, 0] rfl ?_
      exact ih v2 v3 v4 (v5 * ((((100 : Int32) - v4)).toInt64)) (v7 * (100 : Int64)) (v9 + 1) S h

set_option maxHeartbeats 4000000 in
set_option maxRecDepth 100000 in
theorem c_X10_whole {v1 : Int32} {v2 : Int32} {v3 : Int32} {S : Mem} {r : Int64} {Sf : Mem} (h : f_X10_whole v1 v2 v3 S = some (r, Sf)) : MetL yX10_whole cX10_whole 11 (some .long) 5 [.ref 0, .int v1, .int v2, .int v3] SKM S r Sf := by
  refine MetL.intro (by decide +kernel) (Nat.le_of_ble_eq_true rfl) (fun X loc hX hQ => ?_)
  unfold f_X10_whole at h
  show AW X SKM loc 0 0 0 [(0, .ref 0), (1, .int v1), (2, .int v2), (3, .int v3)] [] S
  refine aw_aload_n (pc := 0) hX dX10_whole_0 rfl 0 rfl ?_
  refine aw_iconst (v := (0 : Int32)) (pc := 1) hX dX10_whole_1 (by decide) ?_
  refine pf_X10_124 (pc := 2) hX km0 rfl dX10_whole_2 ?_
  obtain ⟨S2, eS2, h⟩ := on h
  refine aw_S eS2 ?_
  refine aw_aload_n (pc := 5) hX dX10_whole_5 rfl 0 rfl ?_
  refine aw_iload_n (pc := 6) hX dX10_whole_6 rfl 1 rfl ?_
  obtain ⟨r7, S7, hr7, h⟩ := ob2 h
  refine aw_cVI (pc := 7) (As := [.int v1]) (rest := []) hX (c_X10_isDoll hr7) ok_X10_isDoll kw_7_11 im_X10_isDoll se_X10_isDoll rfl km0 rfl (by decide) (Nat.le_of_ble_eq_true rfl) rfl dX10_whole_7 (Nat.le_refl 0) (Nat.le_refl 0) ?_
  refine aw_if_eq (pc := 10) hX (tgt := 41) dX10_whole_10 (by decide) (fun c10 => ?_) (fun c10 => ?_)
  · rw [if_pos c10] at h
    refine aw_ldc2 (v := (-1 : Int64)) (pc := 41) hX kw_8_5 dX10_whole_41 ?_
    cases h
    exact aw_lret hX hQ dX10_whole_44
  · rw [if_neg c10] at h
    refine aw_aload_n (pc := 13) hX dX10_whole_13 rfl 0 rfl ?_
    refine aw_iconst (v := (0 : Int32)) (pc := 14) hX dX10_whole_14 (by decide) ?_
    refine aw_iload_n (pc := 15) hX dX10_whole_15 rfl 1 rfl ?_
    obtain ⟨r16, S16, hr16, h⟩ := ob2 h
    refine aw_cVI (pc := 16) (As := [.int (0 : Int32), .int v1]) (rest := []) hX (c_X10_isHeld hr16) ok_X10_isHeld kw_7_27 im_X10_isHeld se_X10_isHeld rfl km0 rfl (by decide) (Nat.le_of_ble_eq_true rfl) rfl dX10_whole_16 (Nat.le_refl 0) (Nat.le_refl 0) ?_
    refine aw_if_eq (pc := 19) hX (tgt := 41) dX10_whole_19 (by decide) (fun c19 => ?_) (fun c19 => ?_)
    · rw [if_pos c19] at h
      refine aw_ldc2 (v := (-1 : Int64)) (pc := 41) hX kw_8_5 dX10_whole_41 ?_
      cases h
      exact aw_lret hX hQ dX10_whole_44
    · rw [if_neg c19] at h
      refine aw_iload_n (pc := 22) hX dX10_whole_22 rfl 2 rfl ?_
      refine aw_if_lt (pc := 23) hX (tgt := 41) dX10_whole_23 (by decide) (fun c23 => ?_) (fun c23 => ?_)
      · rw [if_pos c23] at h
        refine aw_ldc2 (v := (-1 : Int64)) (pc := 41) hX kw_8_5 dX10_whole_41 ?_
        cases h
        exact aw_lret hX hQ dX10_whole_44
      · rw [if_neg c23] at h
        refine aw_iload_n (pc := 26) hX dX10_whole_26 rfl 2 rfl ?_
        refine aw_bipush (v := (6 : Int32)) (pc := 27) hX dX10_whole_27 (by decide) ?_
        refine aw_icmp_gt (pc := 29) hX (tgt := 41) dX10_whole_29 (by decide) (fun c29 => ?_) (fun c29 => ?_)
        · rw [if_pos c29] at h
          refine aw_ldc2 (v := (-1 : Int64)) (pc := 41) hX kw_8_5 dX10_whole_41 ?_
          cases h
          exact aw_lret hX hQ dX10_whole_44
        · rw [if_neg c29] at h
          refine aw_iload_n (pc := 32) hX dX10_whole_32 rfl 3 rfl ?_
          refine aw_if_lt (pc := 33) hX (tgt := 41) dX10_whole_33 (by decide) (fun c33 => ?_) (fun c33 => ?_)
          · rw [if_pos c33] at h
            refine aw_ldc2 (v := (-1 : Int64)) (pc := 41) hX kw_8_5 dX10_whole_41 ?_
            cases h
            exact aw_lret hX hQ dX10_whole_44
          · rw [if_neg c33] at h
            refine aw_iload_n (pc := 36) hX dX10_whole_36 rfl 3 rfl ?_
            refine aw_iconst (v := (1 : Int32)) (pc := 37) hX dX10_whole_37 (by decide) ?_
            refine aw_icmp_le (pc := 38) hX (tgt := 45) dX10_whole_38 (by decide) (fun c38 => ?_) (fun c38 => ?_)
            · rw [if_pos c38] at h
              refine aw_aload_n (pc := 45) hX dX10_whole_45 rfl 0 rfl ?_
              refine aw_iconst (v := (0 : Int32)) (pc := 46) hX dX10_whole_46 (by decide) ?_
              refine aw_iload_n (pc := 47) hX dX10_whole_47 rfl 1 rfl ?_
              refine aw_aload_n (pc := 48) hX dX10_whole_48 rfl 0 rfl ?_
              refine gf_X10_75 (pc := 49) hX km0 rfl dX10_whole_49 ?_
              refine aw_iload_n (pc := 52) hX dX10_whole_52 rfl 1 rfl ?_
              obtain ⟨x53, hx53, h⟩ := ob h
              refine aw_iald (pc := 53) hX km21 hx53 dX10_whole_53 ?_
              obtain ⟨r54, S54, hr54, h⟩ := ob2 h
              refine aw_cVI (pc := 54) (As := [.int (0 : Int32), .int v1, .int x53]) (rest := []) hX (c_X10_mothsBy hr54) ok_X10_mothsBy kw_7_54 im_X10_mothsBy se_X10_mothsBy rfl km0 rfl (by decide) (Nat.le_of_ble_eq_true rfl) rfl dX10_whole_54 (Nat.le_refl 0) (Nat.le_refl 0) ?_
              refine aw_istore (ls' := [(4, .int r54), (0, .ref 0), (1, .int v1), (2, .int v2), (3, .int v3)]) (pc := 57) hX dX10_whole_57 (by decide) rfl ?_
              refine aw_lconst (v := (1 : Int64)) (pc := 59) hX dX10_whole_59 (by decide) ?_
              refine aw_lstore (ls' := [(5, .long (1 : Int64)), (4, .int r54), (0, .ref 0), (1, .int v1), (2, .int v2), (3, .int v3)]) (pc := 60) hX dX10_whole_60 (by decide) rfl ?_
              refine aw_lconst (v := (1 : Int64)) (pc := 62) hX dX10_whole_62 (by decide) ?_
              refine aw_lstore (ls' := [(7, .long (1 : Int64)), (5, .long (1 : Int64)), (4, .int r54), (0, .ref 0), (1, .int v1), (2, .int v2), (3, .int v3)]) (pc := 63) hX dX10_whole_63 (by decide) rfl ?_
              refine aw_iconst (v := (0 : Int32)) (pc := 65) hX dX10_whole_65 (by decide) ?_
              refine aw_istore (ls' := [(9, .int (0 : Int32)), (7, .long (1 : Int64)), (5, .long (1 : Int64)), (4, .int r54), (0, .ref 0), (1, .int v1), (2, .int v2), (3, .int v3)]) (pc := 66) hX dX10_whole_66 (by decide) rfl ?_
              refine aw_sub (ls' := [(2, .int v2), (3, .int v3), (4, .int r54), (5, .long (1 : Int64)), (7, .long (1 : Int64)), (9, .int (0 : Int32))]) [6, 7, 3, 2, 1, 0] rfl ?_
              exact c_X10_whole_68 hX hQ FU v2 v3 r54 (1 : Int64) (1 : Int64) (0 : Int32) S54 h
            · rw [if_neg c38] at h
              refine aw_ldc2 (v := (-1 : Int64)) (pc := 41) hX kw_8_5 dX10_whole_41 ?_
              cases h
              exact aw_lret hX hQ dX10_whole_44

def f_X10_worst_51 (R10 : Int32 → Int32 → Mem → Option (Int32 × Mem)) (v1 : Int32) (v2 : Int32) (t0 : Int32) (t1 : Int32) (S : Mem) : Option (Int32 × Mem) :=
  if t0 ≤ t1 then
  (R10 v1 (v2 + 1) S)
  else
  (R10 v2 (v2 + 1) S)

def f_X10_worst_10 : Nat → Int32 → Int32 → Mem → Option (Int32 × Mem)
  | 0, _, _, _ => none
  | n + 1, v1, v2, S =>
  (rd S 2 14 (1 : Int32)).bind fun x16 =>
  if x16 ≤ v2 then
  (some (v1, S))
  else
  (bnd (f_X10_isHeld (0 : Int32) v2 S) fun r23 S23 =>
  if r23 = 0 then
  (f_X10_worst_10 n v1 (v2 + 1) S23)
  else
  ((rd S23 22 230 v2).bind fun x34 =>
  if v1 = (-2 : Int32) then
  (f_X10_worst_51 (f_X10_worst_10 n) v1 v2 x34 (0 : Int32) S23)
  else
  ((rd S23 22 230 v1).bind fun x50 =>
  f_X10_worst_51 (f_X10_worst_10 n) v1 v2 x34 x50 S23)))

def f_X10_worst (S : Mem) : Option (Int32 × Mem) :=
  nxt (sI S 0 0 (0 : Int32)) fun S2 =>
  f_X10_worst_10 FU (-2 : Int32) (0 : Int32) S2

set_option maxHeartbeats 4000000 in
set_option maxRecDepth 100000 in
theorem c_X10_worst_51 {X : XT} {loc : Nat → Nat} {r : Int32} {Sf : Mem} (hX : AC X loc RX10 cX10_worst (some .int) 3 1 0 0) (hQ : RetI X SKM loc 0 0 r Sf) {R10 : Int32 → Int32 → Mem → Option (Int32 × Mem)} (IH10 : ∀ (v1 : Int32) (v2 : Int32) (S : Mem), R10 v1 v2 S = some (r, Sf) → AW X SKM loc 0 0 10 [(0, .ref 0), (1, .int v1), (2, .int v2)] [] S) (v1 : Int32) (v2 : Int32) (t0 : Int32) (t1 : Int32) (S : Mem) (h : f_X10_worst_51 R10 v1 v2 t0 t1 S = some (r, Sf)) : AW X SKM loc 0 0 51 [(0, .ref 0), (1, .int v1), (2, .int v2)] [.int t1, .int t0] S := by
  unfold f_X10_worst_51 at h
  refine aw_icmp_le (pc := 51) hX (tgt := 56) dX10_worst_51 (by decide) (fun c51 => ?_) (fun c51 => ?_)
  · rw [if_pos c51] at h
    refine aw_iinc (v := (v2 + 1)) (ls' := [(2, .int (v2 + 1)), (0, .ref 0), (1, .int v1)]) (pc := 56) hX dX10_worst_56 (pos := 2) rfl (by first | rfl | decide) (by decide) rfl ?_
    refine aw_goto (tgt := 10) (pc := 59) hX dX10_worst_59 (by decide) ?_
    refine aw_sub (ls' := [(0, .ref 0), (1, .int v1), (2, .int (v2 + 1))]) [1, 2, 0] rfl ?_
    exact IH10 v1 (v2 + 1) S h
  · rw [if_neg c51] at h
    refine aw_iload_n (pc := 54) hX dX10_worst_54 rfl 2 rfl ?_
    refine aw_istore_n (ls' := [(1, .int v2), (0, .ref 0), (2, .int v2)]) (pc := 55) hX dX10_worst_55 rfl (by decide) rfl ?_
    refine aw_iinc (v := (v2 + 1)) (ls' := [(2, .int (v2 + 1)), (1, .int v2), (0, .ref 0)]) (pc := 56) hX dX10_worst_56 (pos := 2) rfl (by first | rfl | decide) (by decide) rfl ?_
    refine aw_goto (tgt := 10) (pc := 59) hX dX10_worst_59 (by decide) ?_
    refine aw_sub (ls' := [(0, .ref 0), (1, .int v2), (2, .int (v2 + 1))]) [2, 1, 0] rfl ?_
    exact IH10 v2 (v2 + 1) S h

set_option maxHeartbeats 4000000 in
set_option maxRecDepth 100000 in
theorem c_X10_worst_10 {X : XT} {loc : Nat → Nat} {r : Int32} {Sf : Mem} (hX : AC X loc RX10 cX10_worst (some .int) 3 1 0 0) (hQ : RetI X SKM loc 0 0 r Sf) : ∀ (n : Nat) (v1 : Int32) (v2 : Int32) (S : Mem), f_X10_worst_10 n v1 v2 S = some (r, Sf) → AW X SKM loc 0 0 10 [(0, .ref 0), (1, .int v1), (2, .int v2)] [] S := by
  intro n
  induction n with
  | zero => intro v1 v2 S h; cases h
  | succ n ih =>
    intro v1 v2 S h
    unfold f_X10_worst_10 at h
    refine aw_iload_n (pc := 10) hX dX10_worst_10 rfl 2 rfl ?_
    refine aw_aload_n (pc := 11) hX dX10_worst_11 rfl 0 rfl ?_
    refine gf_X10_13 (pc := 12) hX km0 rfl dX10_worst_12 ?_
    refine aw_iconst (v := (1 : Int32)) (pc := 15) hX dX10_worst_15 (by decide) ?_
    obtain ⟨x16, hx16, h⟩ := ob h
    refine aw_iald (pc := 16) hX km2 hx16 dX10_worst_16 ?_
    refine aw_icmp_ge (pc := 17) hX (tgt := 62) dX10_worst_17 (by decide) (fun c17 => ?_) (fun c17 => ?_)
    · rw [if_pos c17] at h
      refine aw_iload_n (pc := 62) hX dX10_worst_62 rfl 1 rfl ?_
      cases h
      exact aw_iret hX hQ dX10_worst_63
    · rw [if_neg c17] at h
      refine aw_aload_n (pc := 20) hX dX10_worst_20 rfl 0 rfl ?_
      refine aw_iconst (v := (0 : Int32)) (pc := 21) hX dX10_worst_21 (by decide) ?_
      refine aw_iload_n (pc := 22) hX dX10_worst_22 rfl 2 rfl ?_
      obtain ⟨r23, S23, hr23, h⟩ := ob2 h
      refine aw_cVI (pc := 23) (As := [.int (0 : Int32), .int v2]) (rest := []) hX (c_X10_isHeld hr23) ok_X10_isHeld kw_7_27 im_X10_isHeld se_X10_isHeld rfl km0 rfl (by decide) (Nat.le_of_ble_eq_true rfl) rfl dX10_worst_23 (Nat.le_refl 0) (Nat.le_refl 0) ?_
      refine aw_if_eq (pc := 26) hX (tgt := 56) dX10_worst_26 (by decide) (fun c26 => ?_) (fun c26 => ?_)
      · rw [if_pos c26] at h
        refine aw_iinc (v := (v2 + 1)) (ls' := [(2, .int (v2 + 1)), (0, .ref 0), (1, .int v1)]) (pc := 56) hX dX10_worst_56 (pos := 2) rfl (by first | rfl | decide) (by decide) rfl ?_
        refine aw_goto (tgt := 10) (pc := 59) hX dX10_worst_59 (by decide) ?_
        refine aw_sub (ls' := [(0, .ref 0), (1, .int v1), (2, .int (v2 + 1))]) [1, 2, 0] rfl ?_
        exact ih v1 (v2 + 1) S23 h
      · rw [if_neg c26] at h
        refine aw_aload_n (pc := 29) hX dX10_worst_29 rfl 0 rfl ?_
        refine gf_X10_78 (pc := 30) hX km0 rfl dX10_worst_30 ?_
        refine aw_iload_n (pc := 33) hX dX10_worst_33 rfl 2 rfl ?_
        obtain ⟨x34, hx34, h⟩ := ob h
        refine aw_iald (pc := 34) hX km22 hx34 dX10_worst_34 ?_
        refine aw_iload_n (pc := 35) hX dX10_worst_35 rfl 1 rfl ?_
        refine aw_bipush (v := (-2 : Int32)) (pc := 36) hX dX10_worst_36 (by decide) ?_
        refine aw_icmp_ne (pc := 38) hX (tgt := 45) dX10_worst_38 (by decide) (fun c38 => ?_) (fun c38 => ?_)
        · rw [if_neg c38] at h
          refine aw_aload_n (pc := 45) hX dX10_worst_45 rfl 0 rfl ?_
          refine gf_X10_78 (pc := 46) hX km0 rfl dX10_worst_46 ?_
          refine aw_iload_n (pc := 49) hX dX10_worst_49 rfl 1 rfl ?_
          obtain ⟨x50, hx50, h⟩ := ob h
          refine aw_iald (pc := 50) hX km22 hx50 dX10_worst_50 ?_
          exact c_X10_worst_51 hX hQ ih v1 v2 x34 x50 S23 h
        · rw [if_pos c38] at h
          refine aw_iconst (v := (0 : Int32)) (pc := 41) hX dX10_worst_41 (by decide) ?_
          refine aw_goto (tgt := 51) (pc := 42) hX dX10_worst_42 (by decide) ?_
          exact c_X10_worst_51 hX hQ ih v1 v2 x34 (0 : Int32) S23 h

set_option maxHeartbeats 4000000 in
set_option maxRecDepth 100000 in
theorem c_X10_worst {S : Mem} {r : Int32} {Sf : Mem} (h : f_X10_worst S = some (r, Sf)) : MetI yX10_worst cX10_worst 3 (some .int) 1 [.ref 0] SKM S r Sf := by
  refine MetI.intro (by decide +kernel) (Nat.le_of_ble_eq_true rfl) (fun X loc hX hQ => ?_)
  unfold f_X10_worst at h
  show AW X SKM loc 0 0 0 [(0, .ref 0)] [] S
  refine aw_aload_n (pc := 0) hX dX10_worst_0 rfl 0 rfl ?_
  refine aw_iconst (v := (0 : Int32)) (pc := 1) hX dX10_worst_1 (by decide) ?_
  refine pf_X10_124 (pc := 2) hX km0 rfl dX10_worst_2 ?_
  obtain ⟨S2, eS2, h⟩ := on h
  refine aw_S eS2 ?_
  refine aw_bipush (v := (-2 : Int32)) (pc := 5) hX dX10_worst_5 (by decide) ?_
  refine aw_istore_n (ls' := [(1, .int (-2 : Int32)), (0, .ref 0)]) (pc := 7) hX dX10_worst_7 rfl (by decide) rfl ?_
  refine aw_iconst (v := (0 : Int32)) (pc := 8) hX dX10_worst_8 (by decide) ?_
  refine aw_istore_n (ls' := [(2, .int (0 : Int32)), (1, .int (-2 : Int32)), (0, .ref 0)]) (pc := 9) hX dX10_worst_9 rfl (by decide) rfl ?_
  refine aw_sub (ls' := [(0, .ref 0), (1, .int (-2 : Int32)), (2, .int (0 : Int32))]) [2, 1, 0] rfl ?_
  exact c_X10_worst_10 hX hQ FU (-2 : Int32) (0 : Int32) S2 h

