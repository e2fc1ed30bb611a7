def f_X8_hold (w : Nat) (v1 : Int32) (S : Mem) : Option Mem :=
  nxt (sI S w 1 ((S.1 w 1) ||| ((1 : Int32) <<< (v1 &&& 31)))) fun S9 =>
  some S9

set_option maxHeartbeats 4000000 in
set_option maxRecDepth 100000 in
theorem c_X8_hold {sk : Skel} {w : Nat} {v1 : Int32} {S : Mem} {Sf : Mem} (hw : IsW sk w) (hT : IsT sk 31) (h : f_X8_hold w v1 S = some Sf) : MetV yX8_hold cX8_hold 2 none 0 [.ref w, .int v1] sk S Sf := by
  refine MetV.intro (by decide +kernel) (Nat.le_of_ble_eq_true rfl) (fun X loc hX hQ => ?_)
  unfold f_X8_hold at h
  show AW X sk loc 0 0 0 [(0, .ref w), (1, .int v1)] [] S
  refine aw_aload_n (pc := 0) hX dX8_hold_0 rfl 0 rfl ?_
  refine aw_dup (pc := 1) hX dX8_hold_1 rfl ?_
  refine gf_X8_15 (pc := 2) hX hw.1 rfl dX8_hold_2 ?_
  refine aw_iconst (v := (1 : Int32)) (pc := 5) hX dX8_hold_5 (by decide) ?_
  refine aw_iload_n (pc := 6) hX dX8_hold_6 rfl 1 rfl ?_
  refine aw_ishl (pc := 7) hX dX8_hold_7 ?_
  refine aw_ior (pc := 8) hX dX8_hold_8 ?_
  refine pf_X8_15 (pc := 9) hX hw.1 rfl dX8_hold_9 ?_
  obtain ⟨S9, eS9, h⟩ := on h
  refine aw_S eS9 ?_
  cases h
  exact aw_vret hX hQ dX8_hold_12

def f_X8_careFor (w : Nat) (v1 : Int32) (S : Mem) : Option (Int32 × Mem) :=
  (rd S (w + 1) 10 v1).bind fun x9 =>
  (rd S (w + 4) 6 x9).bind fun x10 =>
  some (x10, S)

set_option maxHeartbeats 4000000 in
set_option maxRecDepth 100000 in
theorem c_X8_careFor {sk : Skel} {w : Nat} {v1 : Int32} {S : Mem} {r : Int32} {Sf : Mem} (hw : IsW sk w) (hT : IsT sk 31) (h : f_X8_careFor w v1 S = some (r, Sf)) : MetI yX8_careFor cX8_careFor 2 (some .int) 0 [.ref w, .int v1] sk S r Sf := by
  refine MetI.intro (by decide +kernel) (Nat.le_of_ble_eq_true rfl) (fun X loc hX hQ => ?_)
  unfold f_X8_careFor at h
  show AW X sk loc 0 0 0 [(0, .ref w), (1, .int v1)] [] S
  refine aw_aload_n (pc := 0) hX dX8_careFor_0 rfl 0 rfl ?_
  refine gf_X8_35 (pc := 1) hX hw.1 rfl dX8_careFor_1 ?_
  refine aw_aload_n (pc := 4) hX dX8_careFor_4 rfl 0 rfl ?_
  refine gf_X8_25 (pc := 5) hX hw.1 rfl dX8_careFor_5 ?_
  refine aw_iload_n (pc := 8) hX dX8_careFor_8 rfl 1 rfl ?_
  obtain ⟨x9, hx9, h⟩ := ob h
  refine aw_iald (pc := 9) hX hw.2.1 hx9 dX8_careFor_9 ?_
  obtain ⟨x10, hx10, h⟩ := ob h
  refine aw_iald (pc := 10) hX hw.2.2.2.2.1 hx10 dX8_careFor_10 ?_
  cases h
  exact aw_iret hX hQ dX8_careFor_11

def f_X8_dollLaw (w : Nat) (v1 : Int32) (v2 : Int32) (v3 : Int32) (S : Mem) : Option (Int64 × Mem) :=
  if inb v1 3 = true then
  (if (S.1 (31 + 13 + 3 * (v1).toNatClampNeg) 0) = 0 then
  (some ((-9223372036854775808 : Int64), S))
  else
  ((rd S 38 10 v2).bind fun x36 =>
  (wr S (w + 7) 7 (0 : Int32) x36).bind fun S37 =>
  (rd S37 39 10 v2).bind fun x51 =>
  (wr S37 (w + 7) 7 (1 : Int32) x51).bind fun S52 =>
  (rd S52 (w + 2) 10 v2).bind fun x63 =>
  (wr S52 (w + 7) 7 (2 : Int32) x63).bind fun S64 =>
  (wr S64 (w + 7) 7 (3 : Int32) v3).bind fun S71 =>
  (rd S71 37 10 v2).bind fun x89 =>
  (rd S71 (w + 5) 2 x89).bind fun x90 =>
  (wr S71 (w + 7) 7 (4 : Int32) x90).bind fun S91 =>
  (rd S91 (w + 3) 10 v2).bind fun x102 =>
  (wr S91 (w + 7) 7 (5 : Int32) x102).bind fun S103 =>
  (wr S103 (w + 7) 7 (6 : Int32) (S103.1 w 0)).bind fun S114 =>
  bnd (f_X1_valueFor (31 + 13 + 3 * (v1).toNatClampNeg) (w + 7) 7 S114) fun r121 S121 =>
  some (r121, S121)))
  else none

set_option maxHeartbeats 4000000 in
set_option maxRecDepth 100000 in
theorem c_X8_dollLaw {sk : Skel} {w : Nat} {v1 : Int32} {v2 : Int32} {v3 : Int32} {S : Mem} {r : Int64} {Sf : Mem} (hw : IsW sk w) (hT : IsT sk 31) (h : f_X8_dollLaw w v1 v2 v3 S = some (r, Sf)) : MetL yX8_dollLaw cX8_dollLaw 5 (some .long) 2 [.ref w, .int v1, .int v2, .int v3] sk S r Sf := by
  refine MetL.intro (by decide +kernel) (Nat.le_of_ble_eq_true rfl) (fun X loc hX hQ => ?_)
  unfold f_X8_dollLaw at h
  show AW X sk loc 0 0 0 [(0, .ref w), (1, .int v1), (2, .int v2), (3, .int v3)] [] S
  refine aw_aload_n (pc := 0) hX dX8_dollLaw_0 rfl 0 rfl ?_
  refine gf_X8_50 (pc := 1) hX hw.1 rfl dX8_dollLaw_1 ?_
  refine gf_X8_146 (pc := 4) hX hT.1 rfl dX8_dollLaw_4 ?_
  refine aw_iload_n (pc := 7) hX dX8_dollLaw_7 rfl 1 rfl ?_
  by_cases hi8 : inb v1 3 = true
  · rw [if_pos hi8] at h
    refine aw_aald (pc := 8) hX hT.2.2.2.2.2.2.2.2.2.2.2.2.1 hi8 (laws_at hi8) dX8_dollLaw_8 ?_
    refine aw_astore (ls' := [(4, .ref (31 + 13 + 3 * (v1).toNatClampNeg)), (0, .ref w), (1, .int v1), (2, .int v2), (3, .int v3)]) (pc := 9) hX dX8_dollLaw_9 (by decide) rfl ?_
    refine aw_aload (pc := 11) hX dX8_dollLaw_11 0 rfl ?_
    refine gf_X8_150 (pc := 13) hX ((IsT.law hT hi8)).1 rfl dX8_dollLaw_13 ?_
    refine aw_if_ne (pc := 16) hX (tgt := 23) dX8_dollLaw_16 (by decide) (fun c16 => ?_) (fun c16 => ?_)
    · rw [if_neg c16] at h
      refine aw_aload_n (pc := 23) hX dX8_dollLaw_23 rfl 1 rfl ?_
      refine gf_X8_44 (pc := 24) hX hw.1 rfl dX8_dollLaw_24 ?_
      refine aw_iconst (v := (0 : Int32)) (pc := 27) hX dX8_dollLaw_27 (by decide) ?_
      refine aw_aload_n (pc := 28) hX dX8_dollLaw_28 rfl 1 rfl ?_
      refine gf_X8_50 (pc := 29) hX hw.1 rfl dX8_dollLaw_29 ?_
      refine gf_X8_123 (pc := 32) hX hT.1 rfl dX8_dollLaw_32 ?_
      refine aw_iload_n (pc := 35) hX dX8_dollLaw_35 rfl 3 rfl ?_
      obtain ⟨x36, hx36, h⟩ := ob h
      refine aw_iald (pc := 36) hX hT.2.2.2.2.2.2.2.1 hx36 dX8_dollLaw_36 ?_
      obtain ⟨S37, hS37, h⟩ := ob h
      refine aw_iast (pc := 37) hX hw.2.2.2.2.2.2.2 hS37 dX8_dollLaw_37 ?_
      refine aw_aload_n (pc := 38) hX dX8_dollLaw_38 rfl 1 rfl ?_
      refine gf_X8_44 (pc := 39) hX hw.1 rfl dX8_dollLaw_39 ?_
      refine aw_iconst (v := (1 : Int32)) (pc := 42) hX dX8_dollLaw_42 (by decide) ?_
      refine aw_aload_n (pc := 43) hX dX8_dollLaw_43 rfl 1 rfl ?_
      refine gf_X8_50 (pc := 44) hX hw.1 rfl dX8_dollLaw_44 ?_
      refine gf_X8_155 (pc := 47) hX hT.1 rfl dX8_dollLaw_47 ?_
      refine aw_iload_n (pc := 50) hX dX8_dollLaw_50 rfl 3 rfl ?_
      obtain ⟨x51, hx51, h⟩ := ob h
      refine aw_iald (pc := 51) hX hT.2.2.2.2.2.2.2.2.1 hx51 dX8_dollLaw_51 ?_
      obtain ⟨S52, hS52, h⟩ := ob h
      refine aw_iast (pc := 52) hX hw.2.2.2.2.2.2.2 hS52 dX8_dollLaw_52 ?_
      refine aw_aload_n (pc := 53) hX dX8_dollLaw_53 rfl 1 rfl ?_
      refine gf_X8_44 (pc := 54) hX hw.1 rfl dX8_dollLaw_54 ?_
      refine aw_iconst (v := (2 : Int32)) (pc := 57) hX dX8_dollLaw_57 (by decide) ?_
      refine aw_aload_n (pc := 58) hX dX8_dollLaw_58 rfl 1 rfl ?_
      refine gf_X8_29 (pc := 59) hX hw.1 rfl dX8_dollLaw_59 ?_
      refine aw_iload_n (pc := 62) hX dX8_dollLaw_62 rfl 3 rfl ?_
      obtain ⟨x63, hx63, h⟩ := ob h
      refine aw_iald (pc := 63) hX hw.2.2.1 hx63 dX8_dollLaw_63 ?_
      obtain ⟨S64, hS64, h⟩ := ob h
      refine aw_iast (pc := 64) hX hw.2.2.2.2.2.2.2 hS64 dX8_dollLaw_64 ?_
      refine aw_aload_n (pc := 65) hX dX8_dollLaw_65 rfl 1 rfl ?_
      refine gf_X8_44 (pc := 66) hX hw.1 rfl dX8_dollLaw_66 ?_
      refine aw_iconst (v := (3 : Int32)) (pc := 69) hX dX8_dollLaw_69 (by decide) ?_
      refine aw_iload_n (pc := 70) hX dX8_dollLaw_70 rfl 4 rfl ?_
      obtain ⟨S71, hS71, h⟩ := ob h
      refine aw_iast (pc := 71) hX hw.2.2.2.2.2.2.2 hS71 dX8_dollLaw_71 ?_
      refine aw_aload_n (pc := 72) hX dX8_dollLaw_72 rfl 1 rfl ?_
      refine gf_X8_44 (pc := 73) hX hw.1 rfl dX8_dollLaw_73 ?_
      refine aw_iconst (v := (4 : Int32)) (pc := 76) hX dX8_dollLaw_76 (by decide) ?_
      refine aw_aload_n (pc := 77) hX dX8_dollLaw_77 rfl 1 rfl ?_
      refine gf_X8_38 (pc := 78) hX hw.1 rfl dX8_dollLaw_78 ?_
      refine aw_aload_n (pc := 81) hX dX8_dollLaw_81 rfl 1 rfl ?_
      refine gf_X8_50 (pc := 82) hX hw.1 rfl dX8_dollLaw_82 ?_
      refine gf_X8_130 (pc := 85) hX hT.1 rfl dX8_dollLaw_85 ?_
      refine aw_iload_n (pc := 88) hX dX8_dollLaw_88 rfl 3 rfl ?_
      obtain ⟨x89, hx89, h⟩ := ob h
      refine aw_iald (pc := 89) hX hT.2.2.2.2.2.2.1 hx89 dX8_dollLaw_89 ?_
      obtain ⟨x90, hx90, h⟩ := ob h
      refine aw_iald (pc := 90) hX hw.2.2.2.2.2.1 hx90 dX8_dollLaw_90 ?_
      obtain ⟨S91, hS91, h⟩ := ob h
      refine aw_iast (pc := 91) hX hw.2.2.2.2.2.2.2 hS91 dX8_dollLaw_91 ?_
      refine aw_aload_n (pc := 92) hX dX8_dollLaw_92 rfl 1 rfl ?_
      refine gf_X8_44 (pc := 93) hX hw.1 rfl dX8_dollLaw_93 ?_
      refine aw_iconst (v := (5 : Int32)) (pc := 96) hX dX8_dollLaw_96 (by decide) ?_
      refine aw_aload_n (pc := 97) hX dX8_dollLaw_97 rfl 1 rfl ?_
      refine gf_X8_32 (pc := 98) hX hw.1 rfl dX8_dollLaw_98 ?_
      refine aw_iload_n (pc := 101) hX dX8_dollLaw_101 rfl 3 rfl ?_
      obtain ⟨x102, hx102, h⟩ := ob h
      refine aw_iald (pc := 102) hX hw.2.2.2.1 hx102 dX8_dollLaw_102 ?_
      obtain ⟨S103, hS103, h⟩ := ob h
      refine aw_iast (pc := 103) hX hw.2.2.2.2.2.2.2 hS103 dX8_dollLaw_103 ?_
      refine aw_aload_n (pc := 104) hX dX8_dollLaw_104 rfl 1 rfl ?_
      refine gf_X8_44 (pc := 105) hX hw.1 rfl dX8_dollLaw_105 ?_
      refine aw_bipush (v := (6 : Int32)) (pc := 108) hX dX8_dollLaw_108 (by decide) ?_
      refine aw_aload_n (pc := 110) hX dX8_dollLaw_110 rfl 1 rfl ?_
      refine gf_X8_9 (pc := 111) hX hw.1 rfl dX8_dollLaw_111 ?_
      obtain ⟨S114, hS114, h⟩ := ob h
      refine aw_iast (pc := 114) hX hw.2.2.2.2.2.2.2 hS114 dX8_dollLaw_114 ?_
      refine aw_aload (pc := 115) hX dX8_dollLaw_115 0 rfl ?_
      refine aw_aload_n (pc := 117) hX dX8_dollLaw_117 rfl 1 rfl ?_
      refine gf_X8_44 (pc := 118) hX hw.1 rfl dX8_dollLaw_118 ?_
      obtain ⟨r121, S121, hr121, h⟩ := ob2 h
      refine aw_cVL (pc := 121) (As := [.ref (w + 7)]) (rest := []) hX (c_X1_valueFor (sk := sk) (IsT.law hT hi8) hw.2.2.2.2.2.2.2 hr121) ok_X1_valueFor kw_3_224 im_X1_valueFor se_X1_valueFor rfl ((IsT.law hT hi8)).1 rfl (by decide) (Nat.le_of_ble_eq_true rfl) rfl dX8_dollLaw_121 (Nat.le_refl 0) (Nat.le_refl 0) ?_
      cases h
      exact aw_lret hX hQ dX8_dollLaw_124
    · rw [if_pos c16] at h
      refine aw_ldc2 (v := (-9223372036854775808 : Int64)) (pc := 19) hX kw_3_223 dX8_dollLaw_19 ?_
      cases h
      exact aw_lret hX hQ dX8_dollLaw_22
  · rw [if_neg hi8] at h
    cases h

def f_X8_within (v0 : Int64) (v2 : Int32) (S : Mem) : Option (Int32 × Mem) :=
  bnd (f_J9_min_f86c9 ((v2).toInt64) v0 S) fun r4 S4 =>
  bnd (f_J9_max_f86c9 (0 : Int64) r4 S4) fun r7 S7 =>
  some (((r7).toInt32), S7)

set_option maxHeartbeats 4000000 in
set_option maxRecDepth 100000 in
theorem c_X8_within {sk : Skel} {v0 : Int64} {v2 : Int32} {S : Mem} {r : Int32} {Sf : Mem} (h : f_X8_within v0 v2 S = some (r, Sf)) : MetI yX8_within cX8_within 3 (some .int) 1 [.long v0, .int v2] sk S r Sf := by
  refine MetI.intro (by decide +kernel) (Nat.le_of_ble_eq_true rfl) (fun X loc hX hQ => ?_)
  unfold f_X8_within at h
  show AW X sk loc 0 0 0 [(0, .long v0), (2, .int v2)] [] S
  refine aw_lconst (v := (0 : Int64)) (pc := 0) hX dX8_within_0 (by decide) ?_
  refine aw_iload_n (pc := 1) hX dX8_within_1 rfl 1 rfl ?_
  refine aw_i2l (pc := 2) hX dX8_within_2 ?_
  refine aw_lload_n (pc := 3) hX dX8_within_3 rfl 0 rfl ?_
  obtain ⟨r4, S4, hr4, h⟩ := ob2 h
  refine aw_cSL (pc := 4) (As := [.long ((v2).toInt64), .long v0]) (rest := [.long (0 : Int64)]) hX (c_J9_min_f86c9 (sk := sk) hr4) ok_J9_min_f86c9 kw_4_0 st_J9_min_f86c9 rfl (by decide) (Nat.le_of_ble_eq_true rfl) rfl dX8_within_4 (Nat.le_refl 0) (Nat.le_refl 0) ?_
  obtain ⟨r7, S7, hr7, h⟩ := ob2 h
  refine aw_cSL (pc := 7) (As := [.long (0 : Int64), .long r4]) (rest := []) hX (c_J9_max_f86c9 (sk := sk) hr7) ok_J9_max_f86c9 kw_4_3 st_J9_max_f86c9 rfl (by decide) (Nat.le_of_ble_eq_true rfl) rfl dX8_within_7 (Nat.le_refl 0) (Nat.le_refl 0) ?_
  refine aw_l2i (pc := 10) hX dX8_within_10 ?_
  cases h
  exact aw_iret hX hQ dX8_within_11

def f_X8_hurtOne_69 (w : Nat) (v1 : Int32) (t0 : Int32) (S : Mem) : Option Mem :=
  (rd S 37 10 v1).bind fun x79 =>
  (rd S (w + 5) 2 x79).bind fun x97 =>
  bnd (f_J9_min_7cf53 (999 : Int32) (x97 + t0) S) fun r101 S101 =>
  (wr S101 (w + 5) 2 x79 r101).bind fun S104 =>
  some S104

def f_X8_hurtOne (w : Nat) (v1 : Int32) (S : Mem) : Option Mem :=
  (rd S (w + 2) 10 v1).bind fun x12 =>
  bnd (f_J9_min_7cf53 (9 : Int32) (x12 + (1 : Int32)) S) fun r15 S15 =>
  (wr S15 (w + 2) 10 v1 r15).bind fun S18 =>
  nxt (sI S18 w 12 ((S18.1 w 12) ||| ((1 : Int32) <<< (v1 &&& 31)))) fun S28 =>
  bnd (f_X8_careFor w v1 S28) fun r36 S36 =>
  bnd (f_X8_dollLaw w (1 : Int32) v1 r36 S36) fun r39 S39 =>
  if r39 = (-9223372036854775808 : Int64) then
  ((rd S39 38 10 v1).bind fun x59 =>
  f_X8_hurtOne_69 w v1 x59 S39)
  else
  (bnd (f_X8_within r39 (99 : Int32) S39) fun r66 S66 =>
  f_X8_hurtOne_69 w v1 r66 S66)

set_option maxHeartbeats 4000000 in
set_option maxRecDepth 100000 in
theorem c_X8_hurtOne_69 {X : XT} {loc : Nat → Nat} {sk : Skel} {w : Nat} {Sf : Mem} (hX : AC X loc RX8 cX8_hurtOne none 6 3 0 0) (hQ : RetV X sk loc 0 0 Sf) (hw : IsW sk w) (hT : IsT sk 31) (v1 : Int32) (t0 : Int32) (S : Mem) (h : f_X8_hurtOne_69 w v1 t0 S = some Sf) : AW X sk loc 0 0 69 [(0, .ref w), (1, .int v1)] [.int t0] S := by
  unfold f_X8_hurtOne_69 at h
  refine aw_istore (ls' := [(4, .int t0), (0, .ref w), (1, .int v1)]) (pc := 69) hX dX8_hurtOne_69 (by decide) rfl ?_
  refine aw_aload_n (pc := 71) hX dX8_hurtOne_71 rfl 1 rfl ?_
  refine gf_X8_50 (pc := 72) hX hw.1 rfl dX8_hurtOne_72 ?_
  refine gf_X8_130 (pc := 75) hX hT.1 rfl dX8_hurtOne_75 ?_
  refine aw_iload_n (pc := 78) hX dX8_hurtOne_78 rfl 2 rfl ?_
  obtain ⟨x79, hx79, h⟩ := ob h
  refine aw_iald (pc := 79) hX hT.2.2.2.2.2.2.1 hx79 dX8_hurtOne_79 ?_
  refine aw_istore (ls' := [(5, .int x79), (4, .int t0), (0, .ref w), (1, .int v1)]) (pc := 80) hX dX8_hurtOne_80 (by decide) rfl ?_
  refine aw_aload_n (pc := 82) hX dX8_hurtOne_82 rfl 2 rfl ?_
  refine gf_X8_38 (pc := 83) hX hw.1 rfl dX8_hurtOne_83 ?_
  refine aw_iload (pc := 86) hX dX8_hurtOne_86 0 rfl ?_
  refine aw_sipush (v := (999 : Int32)) (pc := 88) hX dX8_hurtOne_88 (by decide) ?_
  refine aw_aload_n (pc := 91) hX dX8_hurtOne_91 rfl 2 rfl ?_
  refine gf_X8_38 (pc := 92) hX hw.1 rfl dX8_hurtOne_92 ?_
  refine aw_iload (pc := 95) hX dX8_hurtOne_95 0 rfl ?_
  obtain ⟨x97, hx97, h⟩ := ob h
  refine aw_iald (pc := 97) hX hw.2.2.2.2.2.1 hx97 dX8_hurtOne_97 ?_
  refine aw_iload (pc := 98) hX dX8_hurtOne_98 1 rfl ?_
  refine aw_iadd (pc := 100) hX dX8_hurtOne_100 ?_
  obtain ⟨r101, S101, hr101, h⟩ := ob2 h
  refine aw_cSI (pc := 101) (As := [.int (999 : Int32), .int (x97 + t0)]) (rest := [.int x79, .ref (w + 5)]) hX (c_J9_min_7cf53 (sk := sk) hr101) ok_J9_min_7cf53 kw_4_71 st_J9_min_7cf53 rfl (by decide) (Nat.le_of_ble_eq_true rfl) rfl dX8_hurtOne_101 (Nat.le_refl 0) (Nat.le_refl 0) ?_
  obtain ⟨S104, hS104, h⟩ := ob h
  refine aw_iast (pc := 104) hX hw.2.2.2.2.2.1 hS104 dX8_hurtOne_104 ?_
  cases h
  exact aw_vret hX hQ dX8_hurtOne_105

set_option maxHeartbeats 4000000 in
set_option maxRecDepth 100000 in
theorem c_X8_hurtOne {sk : Skel} {w : Nat} {v1 : Int32} {S : Mem} {Sf : Mem} (hw : IsW sk w) (hT : IsT sk 31) (h : f_X8_hurtOne w v1 S = some Sf) : MetV yX8_hurtOne cX8_hurtOne 6 none 3 [.ref w, .int v1] sk S Sf := by
  refine MetV.intro (by decide +kernel) (Nat.le_of_ble_eq_true rfl) (fun X loc hX hQ => ?_)
  unfold f_X8_hurtOne at h
  show AW X sk loc 0 0 0 [(0, .ref w), (1, .int v1)] [] S
  refine aw_aload_n (pc := 0) hX dX8_hurtOne_0 rfl 0 rfl ?_
  refine gf_X8_29 (pc := 1) hX hw.1 rfl dX8_hurtOne_1 ?_
  refine aw_iload_n (pc := 4) hX dX8_hurtOne_4 rfl 1 rfl ?_
  refine aw_bipush (v := (9 : Int32)) (pc := 5) hX dX8_hurtOne_5 (by decide) ?_
  refine aw_aload_n (pc := 7) hX dX8_hurtOne_7 rfl 0 rfl ?_
  refine gf_X8_29 (pc := 8) hX hw.1 rfl dX8_hurtOne_8 ?_
  refine aw_iload_n (pc := 11) hX dX8_hurtOne_11 rfl 1 rfl ?_
  obtain ⟨x12, hx12, h⟩ := ob h
  refine aw_iald (pc := 12) hX hw.2.2.1 hx12 dX8_hurtOne_12 ?_
  refine aw_iconst (v := (1 : Int32)) (pc := 13) hX dX8_hurtOne_13 (by decide) ?_
  refine aw_iadd (pc := 14) hX dX8_hurtOne_14 ?_
  obtain ⟨r15, S15, hr15, h⟩ := ob2 h
  refine aw_cSI (pc := 15) (As := [.int (9 : Int32), .int (x12 + (1 : Int32))]) (rest := [.int v1, .ref (w + 2)]) hX (c_J9_min_7cf53 (sk := sk) hr15) ok_J9_min_7cf53 kw_4_71 st_J9_min_7cf53 rfl (by decide) (Nat.le_of_ble_eq_true rfl) rfl dX8_hurtOne_15 (Nat.le_refl 0) (Nat.le_refl 0) ?_
  obtain ⟨S18, hS18, h⟩ := ob h
  refine aw_iast (pc := 18) hX hw.2.2.1 hS18 dX8_hurtOne_18 ?_
  refine aw_aload_n (pc := 19) hX dX8_hurtOne_19 rfl 0 rfl ?_
  refine aw_dup (pc := 20) hX dX8_hurtOne_20 rfl ?_
  refine gf_X8_47 (pc := 21) hX hw.1 rfl dX8_hurtOne_21 ?_
  refine aw_iconst (v := (1 : Int32)) (pc := 24) hX dX8_hurtOne_24 (by decide) ?_
  refine aw_iload_n (pc := 25) hX dX8_hurtOne_25 rfl 1 rfl ?_
  refine aw_ishl (pc := 26) hX dX8_hurtOne_26 ?_
  refine aw_ior (pc := 27) hX dX8_hurtOne_27 ?_
  refine pf_X8_47 (pc := 28) hX hw.1 rfl dX8_hurtOne_28 ?_
  obtain ⟨S28, eS28, h⟩ := on h
  refine aw_S eS28 ?_
  refine aw_aload_n (pc := 31) hX dX8_hurtOne_31 rfl 0 rfl ?_
  refine aw_iconst (v := (1 : Int32)) (pc := 32) hX dX8_hurtOne_32 (by decide) ?_
  refine aw_iload_n (pc := 33) hX dX8_hurtOne_33 rfl 1 rfl ?_
  refine aw_aload_n (pc := 34) hX dX8_hurtOne_34 rfl 0 rfl ?_
  refine aw_iload_n (pc := 35) hX dX8_hurtOne_35 rfl 1 rfl ?_
  obtain ⟨r36, S36, hr36, h⟩ := ob2 h
  refine aw_cVI (pc := 36) (As := [.int v1]) (rest := [.int v1, .int (1 : Int32), .ref w]) hX (c_X8_careFor (sk := sk) hw hT hr36) ok_X8_careFor kw_4_57 im_X8_careFor se_X8_careFor rfl hw.1 rfl (by decide) (Nat.le_of_ble_eq_true rfl) rfl dX8_hurtOne_36 (Nat.le_refl 0) (Nat.le_refl 0) ?_
  obtain ⟨r39, S39, hr39, h⟩ := ob2 h
  refine aw_cVL (pc := 39) (As := [.int (1 : Int32), .int v1, .int r36]) (rest := []) hX (c_X8_dollLaw (sk := sk) hw hT hr39) ok_X8_dollLaw kw_3_219 im_X8_dollLaw se_X8_dollLaw rfl hw.1 rfl (by decide) (Nat.le_of_ble_eq_true rfl) rfl dX8_hurtOne_39 (Nat.le_refl 0) (Nat.le_refl 0) ?_
  refine aw_lstore_n (ls' := [(2, .long r39), (0, .ref w), (1, .int v1)]) (pc := 42) hX dX8_hurtOne_42 rfl (by decide) rfl ?_
  refine aw_lload_n (pc := 43) hX dX8_hurtOne_43 rfl 0 rfl ?_
  refine aw_ldc2 (v := (-9223372036854775808 : Int64)) (pc := 44) hX kw_3_223 dX8_hurtOne_44 ?_
  refine aw_lcmp (pc := 47) hX dX8_hurtOne_47 ?_
  refine aw_if_ne (pc := 48) hX (tgt := 63) dX8_hurtOne_48 (by decide) (fun c48 => ?_) (fun c48 => ?_)
  · rw [if_neg (fun q => c48 (lc_eq.mpr q))] at h
    refine aw_lload_n (pc := 63) hX dX8_hurtOne_63 rfl 0 rfl ?_
    refine aw_bipush (v := (99 : Int32)) (pc := 64) hX dX8_hurtOne_64 (by decide) ?_
    obtain ⟨r66, S66, hr66, h⟩ := ob2 h
    refine aw_cSI (pc := 66) (As := [.long r39, .int (99 : Int32)]) (rest := []) hX (c_X8_within (sk := sk) hr66) ok_X8_within kw_3_237 st_X8_within rfl (by decide) (Nat.le_of_ble_eq_true rfl) rfl dX8_hurtOne_66 (Nat.le_refl 0) (Nat.le_refl 0) ?_
    refine aw_sub (ls' := [(0, .ref w), (1, .int v1)]) [1, 2] rfl ?_
    exact c_X8_hurtOne_69 hX hQ hw hT v1 r66 S66 h
  · rw [if_pos (lc_eq.mp c48)] at h
    refine aw_aload_n (pc := 51) hX dX8_hurtOne_51 rfl 1 rfl ?_
    refine gf_X8_50 (pc := 52) hX hw.1 rfl dX8_hurtOne_52 ?_
    refine gf_X8_123 (pc := 55) hX hT.1 rfl dX8_hurtOne_55 ?_
    refine aw_iload_n (pc := 58) hX dX8_hurtOne_58 rfl 2 rfl ?_
    obtain ⟨x59, hx59, h⟩ := ob h
    refine aw_iald (pc := 59) hX hT.2.2.2.2.2.2.2.1 hx59 dX8_hurtOne_59 ?_
    refine aw_goto (tgt := 69) (pc := 60) hX dX8_hurtOne_60 (by decide) ?_
    refine aw_sub (ls' := [(0, .ref w), (1, .int v1)]) [1, 2] rfl ?_
    exact c_X8_hurtOne_69 hX hQ hw hT v1 x59 S39 h

def f_X8_holds (w : Nat) (v1 : Int32) (S : Mem) : Option (Int32 × Mem) :=
  (rd S 40 2 ((1 : Int32) - v1)).bind fun x14 =>
  some (((S.1 w 1) &&& x14), S)

set_option maxHeartbeats 4000000 in
set_option maxRecDepth 100000 in
theorem c_X8_holds {sk : Skel} {w : Nat} {v1 : Int32} {S : Mem} {r : Int32} {Sf : Mem} (hw : IsW sk w) (hT : IsT sk 31) (h : f_X8_holds w v1 S = some (r, Sf)) : MetI yX8_holds cX8_holds 2 (some .int) 0 [.ref w, .int v1] sk S r Sf := by
  refine MetI.intro (by decide +kernel) (Nat.le_of_ble_eq_true rfl) (fun X loc hX hQ => ?_)
  unfold f_X8_holds at h
  show AW X sk loc 0 0 0 [(0, .ref w), (1, .int v1)] [] S
  refine aw_aload_n (pc := 0) hX dX8_holds_0 rfl 0 rfl ?_
  refine gf_X8_15 (pc := 1) hX hw.1 rfl dX8_holds_1 ?_
  refine aw_aload_n (pc := 4) hX dX8_holds_4 rfl 0 rfl ?_
  refine gf_X8_50 (pc := 5) hX hw.1 rfl dX8_holds_5 ?_
  refine gf_X8_136 (pc := 8) hX hT.1 rfl dX8_holds_8 ?_
  refine aw_iconst (v := (1 : Int32)) (pc := 11) hX dX8_holds_11 (by decide) ?_
  refine aw_iload_n (pc := 12) hX dX8_holds_12 rfl 1 rfl ?_
  refine aw_isub (pc := 13) hX dX8_holds_13 ?_
  obtain ⟨x14, hx14, h⟩ := ob h
  refine aw_iald (pc := 14) hX hT.2.2.2.2.2.2.2.2.2.1 hx14 dX8_holds_14 ?_
  refine aw_iand (pc := 15) hX dX8_holds_15 ?_
  cases h
  exact aw_iret hX hQ dX8_holds_16

def f_X8_mostLoved_15 (w : Nat) : Nat → Int32 → Int32 → Int32 → Int32 → Mem → Option (Int32 × Mem)
  | 0, _, _, _, _, _ => none
  | n + 1, v2, v3, v4, v5, S =>
  if (S.1 31 1) ≤ v5 then
  (some (v3, S))
  else
  (if ((v2 >>> (v5 &&& 31)) &&& (1 : Int32)) = (1 : Int32) then
  ((rd S 38 10 v5).bind fun x46 =>
  if x46 ≤ v4 then
  (f_X8_mostLoved_15 w n v2 v3 v4 (v5 + 1) S)
  else
  ((rd S 38 10 v5).bind fun x64 =>
  f_X8_mostLoved_15 w n v2 v5 x64 (v5 + 1) S))
  else
  (f_X8_mostLoved_15 w n v2 v3 v4 (v5 + 1) S))

def f_X8_mostLoved (w : Nat) (v1 : Int32) (S : Mem) : Option (Int32 × Mem) :=
  bnd (f_X8_holds w v1 S) fun r2 S2 =>
  f_X8_mostLoved_15 w FU r2 (-2 : Int32) (-1 : Int32) (0 : Int32) S2

set_option maxHeartbeats 4000000 in
set_option maxRecDepth 100000 in
theorem c_X8_mostLoved_15 {X : XT} {loc : Nat → Nat} {sk : Skel} {w : Nat} {r : Int32} {Sf : Mem} (hX : AC X loc RX8 cX8_mostLoved (some .int) 6 1 0 0) (hQ : RetI X sk loc 0 0 r Sf) (hw : IsW sk w) (hT : IsT sk 31) : ∀ (n : Nat) (v2 : Int32) (v3 : Int32) (v4 : Int32) (v5 : Int32) (S : Mem), f_X8_mostLoved_15 w n v2 v3 v4 v5 S = some (r, Sf) → AW X sk loc 0 0 15 [(0, .ref w), (2, .int v2), (3, .int v3), (4, .int v4), (5, .int v5)] [] S := by
  intro n
  induction n with
  | zero => intro v2 v3 v4 v5 S h; cases h
  | succ n ih =>
    intro v2 v3 v4 v5 S h
    unfold f_X8_mostLoved_15 at h
    refine aw_iload (pc := 15) hX dX8_mostLoved_15 4 rfl ?_
    refine aw_aload_n (pc := 17) hX dX8_mostLoved_17 rfl 0 rfl ?_
    refine gf_X8_50 (pc := 18) hX hw.1 rfl dX8_mostLoved_18 ?_
    refine gf_X8_54 (pc := 21) hX hT.1 rfl dX8_mostLoved_21 ?_
    refine aw_icmp_ge (pc := 24) hX (tgt := 73) dX8_mostLoved_24 (by decide) (fun c24 => ?_) (fun c24 => ?_)
    · rw [if_pos c24] at h
      refine aw_iload_n (pc := 73) hX dX8_mostLoved_73 rfl 2 rfl ?_
      cases h
      exact aw_iret hX hQ dX8_mostLoved_74
    · rw [if_neg c24] at h
      refine aw_iload_n (pc := 27) hX dX8_mostLoved_27 rfl 1 rfl ?_
      refine aw_iload (pc := 28) hX dX8_mostLoved_28 4 rfl ?_
      refine aw_ishr (pc := 30) hX dX8_mostLoved_30 ?_
      refine aw_iconst (v := (1 : Int32)) (pc := 31) hX dX8_mostLoved_31 (by decide) ?_
      refine aw_iand (pc := 32) hX dX8_mostLoved_32 ?_
      refine aw_iconst (v := (1 : Int32)) (pc := 33) hX dX8_mostLoved_33 (by decide) ?_
      refine aw_icmp_ne (pc := 34) hX (tgt := 67) dX8_mostLoved_34 (by decide) (fun c34 => ?_) (fun c34 => ?_)
      · rw [if_neg c34] at h
        refine aw_iinc (v := (v5 + 1)) (ls' := [(5, .int (v5 + 1)), (0, .ref w), (2, .int v2), (3, .int v3), (4, .int v4)]) (pc := 67) hX dX8_mostLoved_67 (pos := 4) rfl (by first | rfl | decide) (by decide) rfl ?_
        refine aw_goto (tgt := 15) (pc := 70) hX dX8_mostLoved_70 (by decide) ?_
        refine aw_sub (ls' := [(0, .ref w), (2, .int v2), (3, .int v3), (4, .int v4), (5, .int (v5 + 1))]) [1, 2, 3, 4, 0] rfl ?_
        exact ih v2 v3 v4 (v5 + 1) S h
      · rw [if_pos c34] at h
        refine aw_aload_n (pc := 37) hX dX8_mostLoved_37 rfl 0 rfl ?_
        refine gf_X8_50 (pc := 38) hX hw.1 rfl dX8_mostLoved_38 ?_
        refine gf_X8_123 (pc := 41) hX hT.1 rfl dX8_mostLoved_41 ?_
        refine aw_iload (pc := 44) hX dX8_mostLoved_44 4 rfl ?_
        obtain ⟨x46, hx46, h⟩ := ob h
        refine aw_iald (pc := 46) hX hT.2.2.2.2.2.2.2.1 hx46 dX8_mostLoved_46 ?_
        refine aw_iload (pc := 47) hX dX8_mostLoved_47 3 rfl ?_
        refine aw_icmp_le (pc := 49) hX (tgt := 67) dX8_mostLoved_49 (by decide) (fun c49 => ?_) (fun c49 => ?_)
        · rw [if_pos c49] at h
          refine aw_iinc (v := (v5 + 1)) (ls' := [(5, .int (v5 + 1)), (0, .ref w), (2, .int v2), (3, .int v3), (4, .int v4)]) (pc := 67) hX dX8_mostLoved_67 (pos := 4) rfl (by first | rfl | decide) (by decide) rfl ?_
          refine aw_goto (tgt := 15) (pc := 70) hX dX8_mostLoved_70 (by decide) ?_
          refine aw_sub (ls' := [(0, .ref w), (2, .int v2), (3, .int v3), (4, .int v4), (5, .int (v5 + 1))]) [1, 2, 3, 4, 0] rfl ?_
          exact ih v2 v3 v4 (v5 + 1) S h
        · rw [if_neg c49] at h
          refine aw_iload (pc := 52) hX dX8_mostLoved_52 4 rfl ?_
          refine aw_istore_n (ls' := [(3, .int v5), (0, .ref w), (2, .int v2), (4, .int v4), (5, .int v5)]) (pc := 54) hX dX8_mostLoved_54 rfl (by decide) rfl ?_
          refine aw_aload_n (pc := 55) hX dX8_mostLoved_55 rfl 1 rfl ?_
          refine gf_X8_50 (pc := 56) hX hw.1 rfl dX8_mostLoved_56 ?_
          refine gf_X8_123 (pc := 59) hX hT.1 rfl dX8_mostLoved_59 ?_
          refine aw_iload (pc := 62) hX dX8_mostLoved_62 4 rfl ?_
          obtain ⟨x64, hx64, h⟩ := ob h
          refine aw_iald (pc := 64) hX hT.2.2.2.2.2.2.2.1 hx64 dX8_mostLoved_64 ?_
          refine aw_istore (ls' := [(4, .int x64), (3, .int v5), (0, .ref w), (2, .int v2), (5, .int v5)]) (pc := 65) hX dX8_mostLoved_65 (by decide) rfl ?_
          refine aw_iinc (v := (v5 + 1)) (ls' := [(5, .int (v5 + 1)), (4, .int x64), (3, .int v5), (0, .ref w), (2, .int v2)]) (pc := 67) hX dX8_mostLoved_67 (pos := 4) rfl (by first | rfl | decide) (by decide) rfl ?_
          refine aw_goto (tgt := 15) (pc := 70) hX dX8_mostLoved_70 (by decide) ?_
          refine aw_sub (ls' := [(0, .ref w), (2, .int v2), (3, .int v5), (4, .int x64), (5, .int (v5 + 1))]) [3, 4, 2, 1, 0] rfl ?_
          exact ih v2 v5 x64 (v5 + 1) S h

set_option maxHeartbeats 4000000 in
set_option maxRecDepth 100000 in
theorem c_X8_mostLoved {sk : Skel} {w : Nat} {v1 : Int32} {S : Mem} {r : Int32} {Sf : Mem} (hw : IsW sk w) (hT : IsT sk 31) (h : f_X8_mostLoved w v1 S = some (r, Sf)) : MetI yX8_mostLoved cX8_mostLoved 6 (some .int) 1 [.ref w, .int v1] sk S r Sf := by
  refine MetI.intro (by decide +kernel) (Nat.le_of_ble_eq_true rfl) (fun X loc hX hQ => ?_)
  unfold f_X8_mostLoved at h
  show AW X sk loc 0 0 0 [(0, .ref w), (1, .int v1)] [] S
  refine aw_aload_n (pc := 0) hX dX8_mostLoved_0 rfl 0 rfl ?_
  refine aw_iload_n (pc := 1) hX dX8_mostLoved_1 rfl 1 rfl ?_
  obtain ⟨r2, S2, hr2, h⟩ := ob2 h
  refine aw_cVI (pc := 2) (As := [.int v1]) (rest := []) hX (c_X8_holds (sk := sk) hw hT hr2) ok_X8_holds kw_4_80 im_X8_holds se_X8_holds rfl hw.1 rfl (by decide) (Nat.le_of_ble_eq_true rfl) rfl dX8_mostLoved_2 (Nat.le_refl 0) (Nat.le_refl 0) ?_
  refine aw_istore_n (ls' := [(2, .int r2), (0, .ref w), (1, .int v1)]) (pc := 5) hX dX8_mostLoved_5 rfl (by decide) rfl ?_
  refine aw_bipush (v := (-2 : Int32)) (pc := 6) hX dX8_mostLoved_6 (by decide) ?_
  refine aw_istore_n (ls' := [(3, .int (-2 : Int32)), (2, .int r2), (0, .ref w), (1, .int v1)]) (pc := 8) hX dX8_mostLoved_8 rfl (by decide) rfl ?_
  refine aw_iconst (v := (-1 : Int32)) (pc := 9) hX dX8_mostLoved_9 (by decide) ?_
  refine aw_istore (ls' := [(4, .int (-1 : Int32)), (3, .int (-2 : Int32)), (2, .int r2), (0, .ref w), (1, .int v1)]) (pc := 10) hX dX8_mostLoved_10 (by decide) rfl ?_
  refine aw_iconst (v := (0 : Int32)) (pc := 12) hX dX8_mostLoved_12 (by decide) ?_
  refine aw_istore (ls' := [(5, .int (0 : Int32)), (4, .int (-1 : Int32)), (3, .int (-2 : Int32)), (2, .int r2), (0, .ref w), (1, .int v1)]) (pc := 13) hX dX8_mostLoved_13 (by decide) rfl ?_
  refine aw_sub (ls' := [(0, .ref w), (2, .int r2), (3, .int (-2 : Int32)), (4, .int (-1 : Int32)), (5, .int (0 : Int32))]) [4, 3, 2, 1, 0] rfl ?_
  exact c_X8_mostLoved_15 hX hQ hw hT FU r2 (-2 : Int32) (-1 : Int32) (0 : Int32) S2 h

def f_X8_answerBreaches_35 (w : Nat) (R2 : Int32 → Mem → Option Mem) (v1 : Int32) (t0 : Int32) (S : Mem) : Option Mem :=
  if t0 < 0 then
  (R2 (v1 + 1) S)
  else
  ((f_X8_hurtOne w t0 S).bind fun S42 =>
  (wr S42 (w + 5) 2 v1 (0 : Int32)).bind fun S51 =>
  (rd S51 (w + 6) 2 v1).bind fun x58 =>
  (wr S51 (w + 6) 2 v1 (x58 + (1 : Int32))).bind fun S61 =>
  R2 (v1 + 1) S61)

def f_X8_answerBreaches_2 (w : Nat) : Nat → Int32 → Mem → Option Mem
  | 0, _, _ => none
  | n + 1, v1, S =>
  if (2 : Int32) ≤ v1 then
  (some S)
  else
  ((rd S (w + 5) 2 v1).bind fun x12 =>
  (rd S 41 4 (1 : Int32)).bind fun x21 =>
  if x12 < x21 then
  (f_X8_answerBreaches_35 w (f_X8_answerBreaches_2 w n) v1 (-2 : Int32) S)
  else
  (bnd (f_X8_mostLoved w v1 S) fun r27 S27 =>
  f_X8_answerBreaches_35 w (f_X8_answerBreaches_2 w n) v1 r27 S27))

def f_X8_answerBreaches (w : Nat) (S : Mem) : Option Mem :=
  f_X8_answerBreaches_2 w FU (0 : Int32) S

set_option maxHeartbeats 4000000 in
set_option maxRecDepth 100000 in
theorem c_X8_answerBreaches_35 {X : XT} {loc : Nat → Nat} {sk : Skel} {w : Nat} {Sf : Mem} (hX : AC X loc RX8 cX8_answerBreaches none 3 4 0 0) (hQ : RetV X sk loc 0 0 Sf) (hw : IsW sk w) (hT : IsT sk 31) {R2 : Int32 → Mem → Option Mem} (IH2 : ∀ (v1 : Int32) (S : Mem), R2 v1 S = some Sf → AW X sk loc 0 0 2 [(0, .ref w), (1, .int v1)] [] S) (v1 : Int32) (t0 : Int32) (S : Mem) (h : f_X8_answerBreaches_35 w R2 v1 t0 S = some Sf) : AW X sk loc 0 0 35 [(0, .ref w), (1, .int v1)] [.int t0] S := by
  unfold f_X8_answerBreaches_35 at h
  refine aw_istore_n (ls' := [(2, .int t0), (0, .ref w), (1, .int v1)]) (pc := 35) hX dX8_answerBreaches_35 rfl (by decide) rfl ?_
  refine aw_iload_n (pc := 36) hX dX8_answerBreaches_36 rfl 0 rfl ?_
  refine aw_if_lt (pc := 37) hX (tgt := 62) dX8_answerBreaches_37 (by decide) (fun c37 => ?_) (fun c37 => ?_)
  · rw [if_pos c37] at h
    refine aw_iinc (v := (v1 + 1)) (ls' := [(1, .int (v1 + 1)), (2, .int t0), (0, .ref w)]) (pc := 62) hX dX8_answerBreaches_62 (pos := 2) rfl (by first | rfl | decide) (by decide) rfl ?_
    refine aw_goto (tgt := 2) (pc := 65) hX dX8_answerBreaches_65 (by decide) ?_
    refine aw_sub (ls' := [(0, .ref w), (1, .int (v1 + 1))]) [2, 0] rfl ?_
    exact IH2 (v1 + 1) S h
  · rw [if_neg c37] at h
    refine aw_aload_n (pc := 40) hX dX8_answerBreaches_40 rfl 1 rfl ?_
    refine aw_iload_n (pc := 41) hX dX8_answerBreaches_41 rfl 0 rfl ?_
    obtain ⟨S42, hr42, h⟩ := ob h
    refine aw_cVV (pc := 42) (As := [.int t0]) (rest := []) hX (c_X8_hurtOne (sk := sk) hw hT hr42) ok_X8_hurtOne kw_4_67 im_X8_hurtOne se_X8_hurtOne rfl hw.1 rfl (by decide) (Nat.le_of_ble_eq_true rfl) rfl dX8_answerBreaches_42 (Nat.le_refl 0) (Nat.le_refl 0) ?_
    refine aw_aload_n (pc := 45) hX dX8_answerBreaches_45 rfl 1 rfl ?_
    refine gf_X8_38 (pc := 46) hX hw.1 rfl dX8_answerBreaches_46 ?_
    refine aw_iload_n (pc := 49) hX dX8_answerBreaches_49 rfl 2 rfl ?_
    refine aw_iconst (v := (0 : Int32)) (pc := 50) hX dX8_answerBreaches_50 (by decide) ?_
    obtain ⟨S51, hS51, h⟩ := ob h
    refine aw_iast (pc := 51) hX hw.2.2.2.2.2.1 hS51 dX8_answerBreaches_51 ?_
    refine aw_aload_n (pc := 52) hX dX8_answerBreaches_52 rfl 1 rfl ?_
    refine gf_X8_41 (pc := 53) hX hw.1 rfl dX8_answerBreaches_53 ?_
    refine aw_iload_n (pc := 56) hX dX8_answerBreaches_56 rfl 2 rfl ?_
    refine aw_dup2 (pc := 57) hX dX8_answerBreaches_57 rfl rfl ?_
    obtain ⟨x58, hx58, h⟩ := ob h
    refine aw_iald (pc := 58) hX hw.2.2.2.2.2.2.1 hx58 dX8_answerBreaches_58 ?_
    refine aw_iconst (v := (1 : Int32)) (pc := 59) hX dX8_answerBreaches_59 (by decide) ?_
    refine aw_iadd (pc := 60) hX dX8_answerBreaches_60 ?_
    obtain ⟨S61, hS61, h⟩ := ob h
    refine aw_iast (pc := 61) hX hw.2.2.2.2.2.2.1 hS61 dX8_answerBreaches_61 ?_
    refine aw_iinc (v := (v1 + 1)) (ls' := [(1, .int (v1 + 1)), (2, .int t0), (0, .ref w)]) (pc := 62) hX dX8_answerBreaches_62 (pos := 2) rfl (by first | rfl | decide) (by decide) rfl ?_
    refine aw_goto (tgt := 2) (pc := 65) hX dX8_answerBreaches_65 (by decide) ?_
    refine aw_sub (ls' := [(0, .ref w), (1, .int (v1 + 1))]) [2, 0] rfl ?_
    exact IH2 (v1 + 1) S61 h

set_option maxHeartbeats 4000000 in
set_option maxRecDepth 100000 in
theorem c_X8_answerBreaches_2 {X : XT} {loc : Nat → Nat} {sk : Skel} {w : Nat} {Sf : Mem} (hX : AC X loc RX8 cX8_answerBreaches none 3 4 0 0) (hQ : RetV X sk loc 0 0 Sf) (hw : IsW sk w) (hT : IsT sk 31) : ∀ (n : Nat) (v1 : Int32) (S : Mem), f_X8_answerBreaches_2 w n v1 S = some Sf → AW X sk loc 0 0 2 [(0, .ref w), (1, .int v1)] [] S := by
  intro n
  induction n with
  | zero => intro v1 S h; cases h
  | succ n ih =>
    intro v1 S h
    unfold f_X8_answerBreaches_2 at h
    refine aw_iload_n (pc := 2) hX dX8_answerBreaches_2 rfl 1 rfl ?_
    refine aw_iconst (v := (2 : Int32)) (pc := 3) hX dX8_answerBreaches_3 (by decide) ?_
    refine aw_icmp_ge (pc := 4) hX (tgt := 68) dX8_answerBreaches_4 (by decide) (fun c4 => ?_) (fun c4 => ?_)
    · rw [if_pos c4] at h
      cases h
      exact aw_vret hX hQ dX8_answerBreaches_68
    · rw [if_neg c4] at h
      refine aw_aload_n (pc := 7) hX dX8_answerBreaches_7 rfl 0 rfl ?_
      refine gf_X8_38 (pc := 8) hX hw.1 rfl dX8_answerBreaches_8 ?_
      refine aw_iload_n (pc := 11) hX dX8_answerBreaches_11 rfl 1 rfl ?_
      obtain ⟨x12, hx12, h⟩ := ob h
      refine aw_iald (pc := 12) hX hw.2.2.2.2.2.1 hx12 dX8_answerBreaches_12 ?_
      refine aw_aload_n (pc := 13) hX dX8_answerBreaches_13 rfl 0 rfl ?_
      refine gf_X8_50 (pc := 14) hX hw.1 rfl dX8_answerBreaches_14 ?_
      refine gf_X8_59 (pc := 17) hX hT.1 rfl dX8_answerBreaches_17 ?_
      refine aw_iconst (v := (1 : Int32)) (pc := 20) hX dX8_answerBreaches_20 (by decide) ?_
      obtain ⟨x21, hx21, h⟩ := ob h
      refine aw_iald (pc := 21) hX hT.2.2.2.2.2.2.2.2.2.2.1 hx21 dX8_answerBreaches_21 ?_
      refine aw_icmp_lt (pc := 22) hX (tgt := 33) dX8_answerBreaches_22 (by decide) (fun c22 => ?_) (fun c22 => ?_)
      · rw [if_pos c22] at h
        refine aw_bipush (v := (-2 : Int32)) (pc := 33) hX dX8_answerBreaches_33 (by decide) ?_
        exact c_X8_answerBreaches_35 hX hQ hw hT ih v1 (-2 : Int32) S h
      · rw [if_neg c22] at h
        refine aw_aload_n (pc := 25) hX dX8_answerBreaches_25 rfl 0 rfl ?_
        refine aw_iload_n (pc := 26) hX dX8_answerBreaches_26 rfl 1 rfl ?_
        obtain ⟨r27, S27, hr27, h⟩ := ob2 h
        refine aw_cVI (pc := 27) (As := [.int v1]) (rest := []) hX (c_X8_mostLoved (sk := sk) hw hT hr27) ok_X8_mostLoved kw_4_76 im_X8_mostLoved se_X8_mostLoved rfl hw.1 rfl (by decide) (Nat.le_of_ble_eq_true rfl) rfl dX8_answerBreaches_27 (Nat.le_refl 0) (Nat.le_refl 0) ?_
        refine aw_goto (tgt := 35) (pc := 30) hX dX8_answerBreaches_30 (by decide) ?_
        exact c_X8_answerBreaches_35 hX hQ hw hT ih v1 r27 S27 h

set_option maxHeartbeats 4000000 in
set_option maxRecDepth 100000 in
theorem c_X8_answerBreaches {sk : Skel} {w : Nat} {S : Mem} {Sf : Mem} (hw : IsW sk w) (hT : IsT sk 31) (h : f_X8_answerBreaches w S = some Sf) : MetV yX8_answerBreaches cX8_answerBreaches 3 none 4 [.ref w] sk S Sf := by
  refine MetV.intro (by decide +kernel) (Nat.le_of_ble_eq_true rfl) (fun X loc hX hQ => ?_)
  unfold f_X8_answerBreaches at h
  show AW X sk loc 0 0 0 [(0, .ref w)] [] S
  refine aw_iconst (v := (0 : Int32)) (pc := 0) hX dX8_answerBreaches_0 (by decide) ?_
  refine aw_istore_n (ls' := [(1, .int (0 : Int32)), (0, .ref w)]) (pc := 1) hX dX8_answerBreaches_1 rfl (by decide) rfl ?_
  refine aw_sub (ls' := [(0, .ref w), (1, .int (0 : Int32))]) [1, 0] rfl ?_
  exact c_X8_answerBreaches_2 hX hQ hw hT FU (0 : Int32) S h

def f_X8_calmLaw_23 (w : Nat) : Nat → Int32 → Nat → Int32 → Mem → Option (Int64 × Mem)
  | 0, _, _, _, _ => none
  | n + 1, v1, b2, v3, S =>
  if (7 : Int32) ≤ v3 then
  ((rd S (w + 5) 2 v1).bind fun x52 =>
  (wr S (w + 7) 7 (4 : Int32) x52).bind fun S53 =>
  (wr S53 (w + 7) 7 (6 : Int32) (S53.1 w 0)).bind fun S64 =>
  bnd (f_X1_valueFor b2 (w + 7) 7 S64) fun r70 S70 =>
  some (r70, S70))
  else
  ((wr S (w + 7) 7 v3 (0 : Int32)).bind fun S35 =>
  f_X8_calmLaw_23 w n v1 b2 (v3 + 1) S35)

def f_X8_calmLaw (w : Nat) (v1 : Int32) (S : Mem) : Option (Int64 × Mem) :=
  if inb (2 : Int32) 3 = true then
  (if (S.1 (31 + 13 + 3 * ((2 : Int32)).toNatClampNeg) 0) = 0 then
  (some ((-9223372036854775808 : Int64), S))
  else
  (f_X8_calmLaw_23 w FU v1 (31 + 13 + 3 * ((2 : Int32)).toNatClampNeg) (0 : Int32) S))
  else none

set_option maxHeartbeats 4000000 in
set_option maxRecDepth 100000 in
theorem c_X8_calmLaw_23 {X : XT} {loc : Nat → Nat} {sk : Skel} {w : Nat} {r : Int64} {Sf : Mem} (hX : AC X loc RX8 cX8_calmLaw (some .long) 4 2 0 0) (hQ : RetL X sk loc 0 0 r Sf) (hw : IsW sk w) (hT : IsT sk 31) : ∀ (n : Nat) (v1 : Int32) (b2 : Nat) (v3 : Int32) (hb2 : IsLaw sk b2) (S : Mem), f_X8_calmLaw_23 w n v1 b2 v3 S = some (r, Sf) → AW X sk loc 0 0 23 [(0, .ref w), (1, .int v1), (2, .ref b2), (3, .int v3)] [] S := by
  intro n
  induction n with
  | zero => intro v1 b2 v3 hb2 S h; cases h
  | succ n ih =>
    intro v1 b2 v3 hb2 S h
    unfold f_X8_calmLaw_23 at h
    refine aw_iload_n (pc := 23) hX dX8_calmLaw_23 rfl 3 rfl ?_
    refine aw_bipush (v := (7 : Int32)) (pc := 24) hX dX8_calmLaw_24 (by decide) ?_
    refine aw_icmp_ge (pc := 26) hX (tgt := 42) dX8_calmLaw_26 (by decide) (fun c26 => ?_) (fun c26 => ?_)
    · rw [if_pos c26] at h
      refine aw_aload_n (pc := 42) hX dX8_calmLaw_42 rfl 0 rfl ?_
      refine gf_X8_44 (pc := 43) hX hw.1 rfl dX8_calmLaw_43 ?_
      refine aw_iconst (v := (4 : Int32)) (pc := 46) hX dX8_calmLaw_46 (by decide) ?_
      refine aw_aload_n (pc := 47) hX dX8_calmLaw_47 rfl 0 rfl ?_
      refine gf_X8_38 (pc := 48) hX hw.1 rfl dX8_calmLaw_48 ?_
      refine aw_iload_n (pc := 51) hX dX8_calmLaw_51 rfl 1 rfl ?_
      obtain ⟨x52, hx52, h⟩ := ob h
      refine aw_iald (pc := 52) hX hw.2.2.2.2.2.1 hx52 dX8_calmLaw_52 ?_
      obtain ⟨S53, hS53, h⟩ := ob h
      refine aw_iast (pc := 53) hX hw.2.2.2.2.2.2.2 hS53 dX8_calmLaw_53 ?_
      refine aw_aload_n (pc := 54) hX dX8_calmLaw_54 rfl 0 rfl ?_
      refine gf_X8_44 (pc := 55) hX hw.1 rfl dX8_calmLaw_55 ?_
      refine aw_bipush (v := (6 : Int32)) (pc := 58) hX dX8_calmLaw_58 (by decide) ?_
      refine aw_aload_n (pc := 60) hX dX8_calmLaw_60 rfl 0 rfl ?_
      refine gf_X8_9 (pc := 61) hX hw.1 rfl dX8_calmLaw_61 ?_
      obtain ⟨S64, hS64, h⟩ := ob h
      refine aw_iast (pc := 64) hX hw.2.2.2.2.2.2.2 hS64 dX8_calmLaw_64 ?_
      refine aw_aload_n (pc := 65) hX dX8_calmLaw_65 rfl 2 rfl ?_
      refine aw_aload_n (pc := 66) hX dX8_calmLaw_66 rfl 0 rfl ?_
      refine gf_X8_44 (pc := 67) hX hw.1 rfl dX8_calmLaw_67 ?_
      obtain ⟨r70, S70, hr70, h⟩ := ob2 h
      refine aw_cVL (pc := 70) (As := [.ref (w + 7)]) (rest := []) hX (c_X1_valueFor (sk := sk) hb2 hw.2.2.2.2.2.2.2 hr70) ok_X1_valueFor kw_3_224 im_X1_valueFor se_X1_valueFor rfl hb2.1 rfl (by decide) (Nat.le_of_ble_eq_true rfl) rfl dX8_calmLaw_70 (Nat.le_refl 0) (Nat.le_refl 0) ?_
      cases h
      exact aw_lret hX hQ dX8_calmLaw_73
    · rw [if_neg c26] at h
      refine aw_aload_n (pc := 29) hX dX8_calmLaw_29 rfl 0 rfl ?_
      refine gf_X8_44 (pc := 30) hX hw.1 rfl dX8_calmLaw_30 ?_
      refine aw_iload_n (pc := 33) hX dX8_calmLaw_33 rfl 3 rfl ?_
      refine aw_iconst (v := (0 : Int32)) (pc := 34) hX dX8_calmLaw_34 (by decide) ?_
      obtain ⟨S35, hS35, h⟩ := ob h
      refine aw_iast (pc := 35) hX hw.2.2.2.2.2.2.2 hS35 dX8_calmLaw_35 ?_
      refine aw_iinc (v := (v3 + 1)) (ls' := [(3, .int (v3 + 1)), (0, .ref w), (1, .int v1), (2, .ref b2)]) (pc := 36) hX dX8_calmLaw_36 (pos := 3) rfl (by first | rfl | decide) (by decide) rfl ?_
      refine aw_goto (tgt := 23) (pc := 39) hX dX8_calmLaw_39 (by decide) ?_
      refine aw_sub (ls' := [(0, .ref w), (1, .int v1), (2, .ref b2), (3, .int (v3 + 1))]) [1, 2, 3, 0] rfl ?_
      exact ih v1 b2 (v3 + 1) hb2 S35 h

set_option maxHeartbeats 4000000 in
set_option maxRecDepth 100000 in
theorem c_X8_calmLaw {sk : Skel} {w : Nat} {v1 : Int32} {S : Mem} {r : Int64} {Sf : Mem} (hw : IsW sk w) (hT : IsT sk 31) (h : f_X8_calmLaw w v1 S = some (r, Sf)) : MetL yX8_calmLaw cX8_calmLaw 4 (some .long) 2 [.ref w, .int v1] sk S r Sf := by
  refine MetL.intro (by decide +kernel) (Nat.le_of_ble_eq_true rfl) (fun X loc hX hQ => ?_)
  unfold f_X8_calmLaw at h
  show AW X sk loc 0 0 0 [(0, .ref w), (1, .int v1)] [] S
  refine aw_aload_n (pc := 0) hX dX8_calmLaw_0 rfl 0 rfl ?_
  refine gf_X8_50 (pc := 1) hX hw.1 rfl dX8_calmLaw_1 ?_
  refine gf_X8_146 (pc := 4) hX hT.1 rfl dX8_calmLaw_4 ?_
  refine aw_iconst (v := (2 : Int32)) (pc := 7) hX dX8_calmLaw_7 (by decide) ?_
  by_cases hi8 : inb (2 : Int32) 3 = true
  · rw [if_pos hi8] at h
    refine aw_aald (pc := 8) hX hT.2.2.2.2.2.2.2.2.2.2.2.2.1 hi8 (laws_at hi8) dX8_calmLaw_8 ?_
    refine aw_astore_n (ls' := [(2, .ref (31 + 13 + 3 * ((2 : Int32)).toNatClampNeg)), (0, .ref w), (1, .int v1)]) (pc := 9) hX dX8_calmLaw_9 rfl (by decide) rfl ?_
    refine aw_aload_n (pc := 10) hX dX8_calmLaw_10 rfl 0 rfl ?_
    refine gf_X8_150 (pc := 11) hX ((IsT.law hT hi8)).1 rfl dX8_calmLaw_11 ?_
    refine aw_if_ne (pc := 14) hX (tgt := 21) dX8_calmLaw_14 (by decide) (fun c14 => ?_) (fun c14 => ?_)
    · rw [if_neg c14] at h
      refine aw_iconst (v := (0 : Int32)) (pc := 21) hX dX8_calmLaw_21 (by decide) ?_
      refine aw_istore_n (ls' := [(3, .int (0 : Int32)), (2, .ref (31 + 13 + 3 * ((2 : Int32)).toNatClampNeg)), (0, .ref w), (1, .int v1)]) (pc := 22) hX dX8_calmLaw_22 rfl (by decide) rfl ?_
      refine aw_sub (ls' := [(0, .ref w), (1, .int v1), (2, .ref (31 + 13 + 3 * ((2 : Int32)).toNatClampNeg)), (3, .int (0 : Int32))]) [2, 3, 1, 0] rfl ?_
      exact c_X8_calmLaw_23 hX hQ hw hT FU v1 (31 + 13 + 3 * ((2 : Int32)).toNatClampNeg) (0 : Int32) (IsT.law hT hi8) S h
    · rw [if_pos c14] at h
      refine aw_ldc2 (v := (-9223372036854775808 : Int64)) (pc := 17) hX kw_3_223 dX8_calmLaw_17 ?_
      cases h
      exact aw_lret hX hQ dX8_calmLaw_20
  · rw [if_neg hi8] at h
    cases h

def f_X8_forgive_48 (w : Nat) (R2 : Int32 → Mem → Option Mem) (v1 : Int32) (t0 : Int32) (S : Mem) : Option Mem :=
  (rd S (w + 5) 2 v1).bind fun x61 =>
  bnd (f_J9_max_7cf53 (0 : Int32) (x61 - t0) S) fun r65 S65 =>
  (wr S65 (w + 5) 2 v1 r65).bind fun S68 =>
  R2 (v1 + 1) S68

def f_X8_forgive_2 (w : Nat) : Nat → Int32 → Mem → Option Mem
  | 0, _, _ => none
  | n + 1, v1, S =>
  if (2 : Int32) ≤ v1 then
  (some S)
  else
  ((rd S 40 2 v1).bind fun x19 =>
  if ((S.1 w 12) &&& x19) = 0 then
  (bnd (f_X8_calmLaw w v1 S) fun r26 S26 =>
  if r26 = (-9223372036854775808 : Int64) then
  (f_X8_forgive_48 w (f_X8_forgive_2 w n) v1 (1 : Int32) S26)
  else
  (bnd (f_X8_within r26 (99 : Int32) S26) fun r45 S45 =>
  f_X8_forgive_48 w (f_X8_forgive_2 w n) v1 r45 S45))
  else
  (f_X8_forgive_2 w n (v1 + 1) S))

def f_X8_forgive (w : Nat) (S : Mem) : Option Mem :=
  f_X8_forgive_2 w FU (0 : Int32) S

set_option maxHeartbeats 4000000 in
set_option maxRecDepth 100000 in
theorem c_X8_forgive_48 {X : XT} {loc : Nat → Nat} {sk : Skel} {w : Nat} {Sf : Mem} (hX : AC X loc RX8 cX8_forgive none 5 3 0 0) (hQ : RetV X sk loc 0 0 Sf) (hw : IsW sk w) (hT : IsT sk 31) {R2 : Int32 → Mem → Option Mem} (IH2 : ∀ (v1 : Int32) (S : Mem), R2 v1 S = some Sf → AW X sk loc 0 0 2 [(0, .ref w), (1, .int v1)] [] S) (v1 : Int32) (t0 : Int32) (S : Mem) (h : f_X8_forgive_48 w R2 v1 t0 S = some Sf) : AW X sk loc 0 0 48 [(0, .ref w), (1, .int v1)] [.int t0] S := by
  unfold f_X8_forgive_48 at h
  refine aw_istore (ls' := [(4, .int t0), (0, .ref w), (1, .int v1)]) (pc := 48) hX dX8_forgive_48 (by decide) rfl ?_
  refine aw_aload_n (pc := 50) hX dX8_forgive_50 rfl 1 rfl ?_
  refine gf_X8_38 (pc := 51) hX hw.1 rfl dX8_forgive_51 ?_
  refine aw_iload_n (pc := 54) hX dX8_forgive_54 rfl 2 rfl ?_
  refine aw_iconst (v := (0 : Int32)) (pc := 55) hX dX8_forgive_55 (by decide) ?_
  refine aw_aload_n (pc := 56) hX dX8_forgive_56 rfl 1 rfl ?_
  refine gf_X8_38 (pc := 57) hX hw.1 rfl dX8_forgive_57 ?_
  refine aw_iload_n (pc := 60) hX dX8_forgive_60 rfl 2 rfl ?_
  obtain ⟨x61, hx61, h⟩ := ob h
  refine aw_iald (pc := 61) hX hw.2.2.2.2.2.1 hx61 dX8_forgive_61 ?_
  refine aw_iload (pc := 62) hX dX8_forgive_62 0 rfl ?_
  refine aw_isub (pc := 64) hX dX8_forgive_64 ?_
  obtain ⟨r65, S65, hr65, h⟩ := ob2 h
  refine aw_cSI (pc := 65) (As := [.int (0 : Int32), .int (x61 - t0)]) (rest := [.int v1, .ref (w + 5)]) hX (c_J9_max_7cf53 (sk := sk) hr65) ok_J9_max_7cf53 kw_3_234 st_J9_max_7cf53 rfl (by decide) (Nat.le_of_ble_eq_true rfl) rfl dX8_forgive_65 (Nat.le_refl 0) (Nat.le_refl 0) ?_
  obtain ⟨S68, hS68, h⟩ := ob h
  refine aw_iast (pc := 68) hX hw.2.2.2.2.2.1 hS68 dX8_forgive_68 ?_
  refine aw_iinc (v := (v1 + 1)) (ls' := [(1, .int (v1 + 1)), (4, .int t0), (0, .ref w)]) (pc := 69) hX dX8_forgive_69 (pos := 2) rfl (by first | rfl | decide) (by decide) rfl ?_
  refine aw_goto (tgt := 2) (pc := 72) hX dX8_forgive_72 (by decide) ?_
  refine aw_sub (ls' := [(0, .ref w), (1, .int (v1 + 1))]) [2, 0] rfl ?_
  exact IH2 (v1 + 1) S68 h

set_option maxHeartbeats 4000000 in
set_option maxRecDepth 100000 in
theorem c_X8_forgive_2 {X : XT} {loc : Nat → Nat} {sk : Skel} {w : Nat} {Sf : Mem} (hX : AC X loc RX8 cX8_forgive none 5 3 0 0) (hQ : RetV X sk loc 0 0 Sf) (hw : IsW sk w) (hT : IsT sk 31) : ∀ (n : Nat) (v1 : Int32) (S : Mem), f_X8_forgive_2 w n v1 S = some Sf → AW X sk loc 0 0 2 [(0, .ref w), (1, .int v1)] [] S := by
  intro n
  induction n with
  | zero => intro v1 S h; cases h
  | succ n ih =>
    intro v1 S h
    unfold f_X8_forgive_2 at h
    refine aw_iload_n (pc := 2) hX dX8_forgive_2 rfl 1 rfl ?_
    refine aw_iconst (v := (2 : Int32)) (pc := 3) hX dX8_forgive_3 (by decide) ?_
    refine aw_icmp_ge (pc := 4) hX (tgt := 75) dX8_forgive_4 (by decide) (fun c4 => ?_) (fun c4 => ?_)
    · rw [if_pos c4] at h
      cases h
      exact aw_vret hX hQ dX8_forgive_75
    · rw [if_neg c4] at h
      refine aw_aload_n (pc := 7) hX dX8_forgive_7 rfl 0 rfl ?_
      refine gf_X8_47 (pc := 8) hX hw.1 rfl dX8_forgive_8 ?_
      refine aw_aload_n (pc := 11) hX dX8_forgive_11 rfl 0 rfl ?_
      refine gf_X8_50 (pc := 12) hX hw.1 rfl dX8_forgive_12 ?_
      refine gf_X8_136 (pc := 15) hX hT.1 rfl dX8_forgive_15 ?_
      refine aw_iload_n (pc := 18) hX dX8_forgive_18 rfl 1 rfl ?_
      obtain ⟨x19, hx19, h⟩ := ob h
      refine aw_iald (pc := 19) hX hT.2.2.2.2.2.2.2.2.2.1 hx19 dX8_forgive_19 ?_
      refine aw_iand (pc := 20) hX dX8_forgive_20 ?_
      refine aw_if_ne (pc := 21) hX (tgt := 69) dX8_forgive_21 (by decide) (fun c21 => ?_) (fun c21 => ?_)
      · rw [if_neg c21] at h
        refine aw_iinc (v := (v1 + 1)) (ls' := [(1, .int (v1 + 1)), (0, .ref w)]) (pc := 69) hX dX8_forgive_69 (pos := 1) rfl (by first | rfl | decide) (by decide) rfl ?_
        refine aw_goto (tgt := 2) (pc := 72) hX dX8_forgive_72 (by decide) ?_
        refine aw_sub (ls' := [(0, .ref w), (1, .int (v1 + 1))]) [1, 0] rfl ?_
        exact ih (v1 + 1) S h
      · rw [if_pos c21] at h
        refine aw_aload_n (pc := 24) hX dX8_forgive_24 rfl 0 rfl ?_
        refine aw_iload_n (pc := 25) hX dX8_forgive_25 rfl 1 rfl ?_
        obtain ⟨r26, S26, hr26, h⟩ := ob2 h
        refine aw_cVL (pc := 26) (As := [.int v1]) (rest := []) hX (c_X8_calmLaw (sk := sk) hw hT hr26) ok_X8_calmLaw kw_4_85 im_X8_calmLaw se_X8_calmLaw rfl hw.1 rfl (by decide) (Nat.le_of_ble_eq_true rfl) rfl dX8_forgive_26 (Nat.le_refl 0) (Nat.le_refl 0) ?_
        refine aw_lstore_n (ls' := [(2, .long r26), (0, .ref w), (1, .int v1)]) (pc := 29) hX dX8_forgive_29 rfl (by decide) rfl ?_
        refine aw_lload_n (pc := 30) hX dX8_forgive_30 rfl 0 rfl ?_
        refine aw_ldc2 (v := (-9223372036854775808 : Int64)) (pc := 31) hX kw_3_223 dX8_forgive_31 ?_
        refine aw_lcmp (pc := 34) hX dX8_forgive_34 ?_
        refine aw_if_ne (pc := 35) hX (tgt := 42) dX8_forgive_35 (by decide) (fun c35 => ?_) (fun c35 => ?_)
        · rw [if_neg (fun q => c35 (lc_eq.mpr q))] at h
          refine aw_lload_n (pc := 42) hX dX8_forgive_42 rfl 0 rfl ?_
          refine aw_bipush (v := (99 : Int32)) (pc := 43) hX dX8_forgive_43 (by decide) ?_
          obtain ⟨r45, S45, hr45, h⟩ := ob2 h
          refine aw_cSI (pc := 45) (As := [.long r26, .int (99 : Int32)]) (rest := []) hX (c_X8_within (sk := sk) hr45) ok_X8_within kw_3_237 st_X8_within rfl (by decide) (Nat.le_of_ble_eq_true rfl) rfl dX8_forgive_45 (Nat.le_refl 0) (Nat.le_refl 0) ?_
          refine aw_sub (ls' := [(0, .ref w), (1, .int v1)]) [1, 2] rfl ?_
          exact c_X8_forgive_48 hX hQ hw hT ih v1 r45 S45 h
        · rw [if_pos (lc_eq.mp c35)] at h
          refine aw_iconst (v := (1 : Int32)) (pc := 38) hX dX8_forgive_38 (by decide) ?_
          refine aw_goto (tgt := 48) (pc := 39) hX dX8_forgive_39 (by decide) ?_
          refine aw_sub (ls' := [(0, .ref w), (1, .int v1)]) [1, 2] rfl ?_
          exact c_X8_forgive_48 hX hQ hw hT ih v1 (1 : Int32) S26 h

set_option maxHeartbeats 4000000 in
set_option maxRecDepth 100000 in
theorem c_X8_forgive {sk : Skel} {w : Nat} {S : Mem} {Sf : Mem} (hw : IsW sk w) (hT : IsT sk 31) (h : f_X8_forgive w S = some Sf) : MetV yX8_forgive cX8_forgive 5 none 3 [.ref w] sk S Sf := by
  refine MetV.intro (by decide +kernel) (Nat.le_of_ble_eq_true rfl) (fun X loc hX hQ => ?_)
  unfold f_X8_forgive at h
  show AW X sk loc 0 0 0 [(0, .ref w)] [] S
  refine aw_iconst (v := (0 : Int32)) (pc := 0) hX dX8_forgive_0 (by decide) ?_
  refine aw_istore_n (ls' := [(1, .int (0 : Int32)), (0, .ref w)]) (pc := 1) hX dX8_forgive_1 rfl (by decide) rfl ?_
  refine aw_sub (ls' := [(0, .ref w), (1, .int (0 : Int32))]) [1, 0] rfl ?_
  exact c_X8_forgive_2 hX hQ hw hT FU (0 : Int32) S h

def f_X8_isHeld (w : Nat) (v1 : Int32) (S : Mem) : Option (Int32 × Mem) :=
  if (((S.1 w 1) >>> (v1 &&& 31)) &&& (1 : Int32)) = (1 : Int32) then
  (some ((1 : Int32), S))
  else
  (some ((0 : Int32), S))

set_option maxHeartbeats 4000000 in
set_option maxRecDepth 100000 in
theorem c_X8_isHeld {sk : Skel} {w : Nat} {v1 : Int32} {S : Mem} {r : Int32} {Sf : Mem} (hw : IsW sk w) (hT : IsT sk 31) (h : f_X8_isHeld w v1 S = some (r, Sf)) : MetI yX8_isHeld cX8_isHeld 2 (some .boolean) 0 [.ref w, .int v1] sk S r Sf := by
  refine MetI.intro (by decide +kernel) (Nat.le_of_ble_eq_true rfl) (fun X loc hX hQ => ?_)
  unfold f_X8_isHeld at h
  show AW X sk loc 0 0 0 [(0, .ref w), (1, .int v1)] [] S
  refine aw_aload_n (pc := 0) hX dX8_isHeld_0 rfl 0 rfl ?_
  refine gf_X8_15 (pc := 1) hX hw.1 rfl dX8_isHeld_1 ?_
  refine aw_iload_n (pc := 4) hX dX8_isHeld_4 rfl 1 rfl ?_
  refine aw_ishr (pc := 5) hX dX8_isHeld_5 ?_
  refine aw_iconst (v := (1 : Int32)) (pc := 6) hX dX8_isHeld_6 (by decide) ?_
  refine aw_iand (pc := 7) hX dX8_isHeld_7 ?_
  refine aw_iconst (v := (1 : Int32)) (pc := 8) hX dX8_isHeld_8 (by decide) ?_
  refine aw_icmp_ne (pc := 9) hX (tgt := 16) dX8_isHeld_9 (by decide) (fun c9 => ?_) (fun c9 => ?_)
  · rw [if_neg c9] at h
    refine aw_iconst (v := (0 : Int32)) (pc := 16) hX dX8_isHeld_16 (by decide) ?_
    cases h
    exact aw_zret hX hQ (by decide) dX8_isHeld_17
  · rw [if_pos c9] at h
    refine aw_iconst (v := (1 : Int32)) (pc := 12) hX dX8_isHeld_12 (by decide) ?_
    refine aw_goto (tgt := 17) (pc := 13) hX dX8_isHeld_13 (by decide) ?_
    cases h
    exact aw_zret hX hQ (by decide) dX8_isHeld_17

def f_X8_growFond_76 (w : Nat) (R2 : Int32 → Mem → Option Mem) (v1 : Int32) (t1 : Int32) (t2 : Int32) (S : Mem) : Option Mem :=
  (wr S (w + 3) 10 t1 t2).bind fun S76 =>
  R2 (v1 + 1) S76

def f_X8_growFond_38 (w : Nat) (R2 : Int32 → Mem → Option Mem) (v1 : Int32) (t0 : Int32) (S : Mem) : Option Mem :=
  if t0 = 0 then
  ((rd S (w + 3) 10 v1).bind fun x70 =>
  bnd (f_J9_min_7cf53 (9 : Int32) (x70 + (1 : Int32)) S) fun r73 S73 =>
  f_X8_growFond_76 w R2 v1 v1 r73 S73)
  else
  ((rd S (w + 3) 10 v1).bind fun x54 =>
  bnd (f_J9_max_7cf53 (0 : Int32) (x54 - (2 : Int32)) S) fun r57 S57 =>
  f_X8_growFond_76 w R2 v1 v1 r57 S57)

def f_X8_growFond_2 (w : Nat) : Nat → Int32 → Mem → Option Mem
  | 0, _, _ => none
  | n + 1, v1, S =>
  if (S.1 31 1) ≤ v1 then
  (some S)
  else
  (bnd (f_X8_isHeld w v1 S) fun r15 S15 =>
  if r15 = 0 then
  (f_X8_growFond_2 w n (v1 + 1) S15)
  else
  (if (((S15.1 w 12) >>> (v1 &&& 31)) &&& (1 : Int32)) = (1 : Int32) then
  (f_X8_growFond_38 w (f_X8_growFond_2 w n) v1 (1 : Int32) S15)
  else
  (f_X8_growFond_38 w (f_X8_growFond_2 w n) v1 (0 : Int32) S15)))

def f_X8_growFond (w : Nat) (S : Mem) : Option Mem :=
  f_X8_growFond_2 w FU (0 : Int32) S

set_option maxHeartbeats 4000000 in
set_option maxRecDepth 100000 in
theorem c_X8_growFond_76 {X : XT} {loc : Nat → Nat} {sk : Skel} {w : Nat} {Sf : Mem} (hX : AC X loc RX8 cX8_growFond none 3 1 0 0) (hQ : RetV X sk loc 0 0 Sf) (hw : IsW sk w) (hT : IsT sk 31) {R2 : Int32 → Mem → Option Mem} (IH2 : ∀ (v1 : Int32) (S : Mem), R2 v1 S = some Sf → AW X sk loc 0 0 2 [(0, .ref w), (1, .int v1)] [] S) (v1 : Int32) (t1 : Int32) (t2 : Int32) (S : Mem) (h : f_X8_growFond_76 w R2 v1 t1 t2 S = some Sf) : AW X sk loc 0 0 76 [(0, .ref w), (1, .int v1)] [.int t2, .int t1, .ref (w + 3)] S := by
  unfold f_X8_growFond_76 at h
  obtain ⟨S76, hS76, h⟩ := ob h
  refine aw_iast (pc := 76) hX hw.2.2.2.1 hS76 dX8_growFond_76 ?_
  refine aw_iinc (v := (v1 + 1)) (ls' := [(1, .int (v1 + 1)), (0, .ref w)]) (pc := 77) hX dX8_growFond_77 (pos := 1) rfl (by first | rfl | decide) (by decide) rfl ?_
  refine aw_goto (tgt := 2) (pc := 80) hX dX8_growFond_80 (by decide) ?_
  refine aw_sub (ls' := [(0, .ref w), (1, .int (v1 + 1))]) [1, 0] rfl ?_
  exact IH2 (v1 + 1) S76 h

set_option maxHeartbeats 4000000 in
set_option maxRecDepth 100000 in
theorem c_X8_growFond_38 {X : XT} {loc : Nat → Nat} {sk : Skel} {w : Nat} {Sf : Mem} (hX : AC X loc RX8 cX8_growFond none 3 1 0 0) (hQ : RetV X sk loc 0 0 Sf) (hw : IsW sk w) (hT : IsT sk 31) {R2 : Int32 → Mem → Option Mem} (IH2 : ∀ (v1 : Int32) (S : Mem), R2 v1 S = some Sf → AW X sk loc 0 0 2 [(0, .ref w), (1, .int v1)] [] S) (v1 : Int32) (t0 : Int32) (S : Mem) (h : f_X8_growFond_38 w R2 v1 t0 S = some Sf) : AW X sk loc 0 0 38 [(0, .ref w), (1, .int v1)] [.int t0] S := by
  unfold f_X8_growFond_38 at h
  refine aw_istore_n (ls' := [(2, .int t0), (0, .ref w), (1, .int v1)]) (pc := 38) hX dX8_growFond_38 rfl (by decide) rfl ?_
  refine aw_aload_n (pc := 39) hX dX8_growFond_39 rfl 1 rfl ?_
  refine gf_X8_32 (pc := 40) hX hw.1 rfl dX8_growFond_40 ?_
  refine aw_iload_n (pc := 43) hX dX8_growFond_43 rfl 2 rfl ?_
  refine aw_iload_n (pc := 44) hX dX8_growFond_44 rfl 0 rfl ?_
  refine aw_if_eq (pc := 45) hX (tgt := 63) dX8_growFond_45 (by decide) (fun c45 => ?_) (fun c45 => ?_)
  · rw [if_pos c45] at h
    refine aw_bipush (v := (9 : Int32)) (pc := 63) hX dX8_growFond_63 (by decide) ?_
    refine aw_aload_n (pc := 65) hX dX8_growFond_65 rfl 1 rfl ?_
    refine gf_X8_32 (pc := 66) hX hw.1 rfl dX8_growFond_66 ?_
    refine aw_iload_n (pc := 69) hX dX8_growFond_69 rfl 2 rfl ?_
    obtain ⟨x70, hx70, h⟩ := ob h
    refine aw_iald (pc := 70) hX hw.2.2.2.1 hx70 dX8_growFond_70 ?_
    refine aw_iconst (v := (1 : Int32)) (pc := 71) hX dX8_growFond_71 (by decide) ?_
    refine aw_iadd (pc := 72) hX dX8_growFond_72 ?_
    obtain ⟨r73, S73, hr73, h⟩ := ob2 h
    refine aw_cSI (pc := 73) (As := [.int (9 : Int32), .int (x70 + (1 : Int32))]) (rest := [.int v1, .ref (w + 3)]) hX (c_J9_min_7cf53 (sk := sk) hr73) ok_J9_min_7cf53 kw_4_71 st_J9_min_7cf53 rfl (by decide) (Nat.le_of_ble_eq_true rfl) rfl dX8_growFond_73 (Nat.le_refl 0) (Nat.le_refl 0) ?_
    refine aw_sub (ls' := [(0, .ref w), (1, .int v1)]) [1, 2] rfl ?_
    exact c_X8_growFond_76 hX hQ hw hT IH2 v1 v1 r73 S73 h
  · rw [if_neg c45] at h
    refine aw_iconst (v := (0 : Int32)) (pc := 48) hX dX8_growFond_48 (by decide) ?_
    refine aw_aload_n (pc := 49) hX dX8_growFond_49 rfl 1 rfl ?_
    refine gf_X8_32 (pc := 50) hX hw.1 rfl dX8_growFond_50 ?_
    refine aw_iload_n (pc := 53) hX dX8_growFond_53 rfl 2 rfl ?_
    obtain ⟨x54, hx54, h⟩ := ob h
    refine aw_iald (pc := 54) hX hw.2.2.2.1 hx54 dX8_growFond_54 ?_
    refine aw_iconst (v := (2 : Int32)) (pc := 55) hX dX8_growFond_55 (by decide) ?_
    refine aw_isub (pc := 56) hX dX8_growFond_56 ?_
    obtain ⟨r57, S57, hr57, h⟩ := ob2 h
    refine aw_cSI (pc := 57) (As := [.int (0 : Int32), .int (x54 - (2 : Int32))]) (rest := [.int v1, .ref (w + 3)]) hX (c_J9_max_7cf53 (sk := sk) hr57) ok_J9_max_7cf53 kw_3_234 st_J9_max_7cf53 rfl (by decide) (Nat.le_of_ble_eq_true rfl) rfl dX8_growFond_57 (Nat.le_refl 0) (Nat.le_refl 0) ?_
    refine aw_goto (tgt := 76) (pc := 60) hX dX8_growFond_60 (by decide) ?_
    refine aw_sub (ls' := [(0, .ref w), (1, .int v1)]) [1, 2] rfl ?_
    exact c_X8_growFond_76 hX hQ hw hT IH2 v1 v1 r57 S57 h

set_option maxHeartbeats 4000000 in
set_option maxRecDepth 100000 in
theorem c_X8_growFond_2 {X : XT} {loc : Nat → Nat} {sk : Skel} {w : Nat} {Sf : Mem} (hX : AC X loc RX8 cX8_growFond none 3 1 0 0) (hQ : RetV X sk loc 0 0 Sf) (hw : IsW sk w) (hT : IsT sk 31) : ∀ (n : Nat) (v1 : Int32) (S : Mem), f_X8_growFond_2 w n v1 S = some Sf → AW X sk loc 0 0 2 [(0, .ref w), (1, .int v1)] [] S := by
  intro n
  induction n with
  | zero => intro v1 S h; cases h
  | succ n ih =>
    intro v1 S h
    unfold f_X8_growFond_2 at h
    refine aw_iload_n (pc := 2) hX dX8_growFond_2 rfl 1 rfl ?_
    refine aw_aload_n (pc := 3) hX dX8_growFond_3 rfl 0 rfl ?_
    refine gf_X8_50 (pc := 4) hX hw.1 rfl dX8_growFond_4 ?_
    refine gf_X8_54 (pc := 7) hX hT.1 rfl dX8_growFond_7 ?_
    refine aw_icmp_ge (pc := 10) hX (tgt := 83) dX8_growFond_10 (by decide) (fun c10 => ?_) (fun c10 => ?_)
    · rw [if_pos c10] at h
      cases h
      exact aw_vret hX hQ dX8_growFond_83
    · rw [if_neg c10] at h
      refine aw_aload_n (pc := 13) hX dX8_growFond_13 rfl 0 rfl ?_
      refine aw_iload_n (pc := 14) hX dX8_growFond_14 rfl 1 rfl ?_
      obtain ⟨r15, S15, hr15, h⟩ := ob2 h
      refine aw_cVI (pc := 15) (As := [.int v1]) (rest := []) hX (c_X8_isHeld (sk := sk) hw hT hr15) ok_X8_isHeld kw_3_175 im_X8_isHeld se_X8_isHeld rfl hw.1 rfl (by decide) (Nat.le_of_ble_eq_true rfl) rfl dX8_growFond_15 (Nat.le_refl 0) (Nat.le_refl 0) ?_
      refine aw_if_eq (pc := 18) hX (tgt := 77) dX8_growFond_18 (by decide) (fun c18 => ?_) (fun c18 => ?_)
      · rw [if_pos c18] at h
        refine aw_iinc (v := (v1 + 1)) (ls' := [(1, .int (v1 + 1)), (0, .ref w)]) (pc := 77) hX dX8_growFond_77 (pos := 1) rfl (by first | rfl | decide) (by decide) rfl ?_
        refine aw_goto (tgt := 2) (pc := 80) hX dX8_growFond_80 (by decide) ?_
        refine aw_sub (ls' := [(0, .ref w), (1, .int (v1 + 1))]) [1, 0] rfl ?_
        exact ih (v1 + 1) S15 h
      · rw [if_neg c18] at h
        refine aw_aload_n (pc := 21) hX dX8_growFond_21 rfl 0 rfl ?_
        refine gf_X8_47 (pc := 22) hX hw.1 rfl dX8_growFond_22 ?_
        refine aw_iload_n (pc := 25) hX dX8_growFond_25 rfl 1 rfl ?_
        refine aw_ishr (pc := 26) hX dX8_growFond_26 ?_
        refine aw_iconst (v := (1 : Int32)) (pc := 27) hX dX8_growFond_27 (by decide) ?_
        refine aw_iand (pc := 28) hX dX8_growFond_28 ?_
        refine aw_iconst (v := (1 : Int32)) (pc := 29) hX dX8_growFond_29 (by decide) ?_
        refine aw_icmp_ne (pc := 30) hX (tgt := 37) dX8_growFond_30 (by decide) (fun c30 => ?_) (fun c30 => ?_)
        · rw [if_neg c30] at h
          refine aw_iconst (v := (0 : Int32)) (pc := 37) hX dX8_growFond_37 (by decide) ?_
          exact c_X8_growFond_38 hX hQ hw hT ih v1 (0 : Int32) S15 h
        · rw [if_pos c30] at h
          refine aw_iconst (v := (1 : Int32)) (pc := 33) hX dX8_growFond_33 (by decide) ?_
          refine aw_goto (tgt := 38) (pc := 34) hX dX8_growFond_34 (by decide) ?_
          exact c_X8_growFond_38 hX hQ hw hT ih v1 (1 : Int32) S15 h

set_option maxHeartbeats 4000000 in
set_option maxRecDepth 100000 in
theorem c_X8_growFond {sk : Skel} {w : Nat} {S : Mem} {Sf : Mem} (hw : IsW sk w) (hT : IsT sk 31) (h : f_X8_growFond w S = some Sf) : MetV yX8_growFond cX8_growFond 3 none 1 [.ref w] sk S Sf := by
  refine MetV.intro (by decide +kernel) (Nat.le_of_ble_eq_true rfl) (fun X loc hX hQ => ?_)
  unfold f_X8_growFond at h
  show AW X sk loc 0 0 0 [(0, .ref w)] [] S
  refine aw_iconst (v := (0 : Int32)) (pc := 0) hX dX8_growFond_0 (by decide) ?_
  refine aw_istore_n (ls' := [(1, .int (0 : Int32)), (0, .ref w)]) (pc := 1) hX dX8_growFond_1 rfl (by decide) rfl ?_
  refine aw_sub (ls' := [(0, .ref w), (1, .int (0 : Int32))]) [1, 0] rfl ?_
  exact c_X8_growFond_2 hX hQ hw hT FU (0 : Int32) S h

def f_X8_isDrawn_10 (w : Nat) (v1 : Int32) (S : Mem) : Option (Int32 × Mem) :=
  if v1 ≤ 0 then
  (some ((0 : Int32), S))
  else
  (some ((1 : Int32), S))

def f_X8_isDrawn (w : Nat) (v1 : Int32) (S : Mem) : Option (Int32 × Mem) :=
  if v1 ≤ 0 then
  (f_X8_isDrawn_10 w v1 S)
  else
  (if v1 < (100 : Int32) then
  (nxt (sL S w 3 ((((S.2 w 3) * (1103515245 : Int64)) + (12345 : Int64)) &&& (2147483647 : Int64))) fun S37 =>
  (rmL ((S37.2 w 3) >>> (((16 : Int32)).toInt64 &&& 63)) (100 : Int64)).bind fun x50 =>
  if ((v1).toInt64) ≤ x50 then
  (some ((0 : Int32), S37))
  else
  (some ((1 : Int32), S37)))
  else
  (f_X8_isDrawn_10 w v1 S))

set_option maxHeartbeats 4000000 in
set_option maxRecDepth 100000 in
theorem c_X8_isDrawn_10 {X : XT} {loc : Nat → Nat} {sk : Skel} {w : Nat} {r : Int32} {Sf : Mem} (hX : AC X loc RX8 cX8_isDrawn (some .boolean) 2 0 0 0) (hQ : RetI X sk loc 0 0 r Sf) (hw : IsW sk w) (hT : IsT sk 31) (v1 : Int32) (S : Mem) (h : f_X8_isDrawn_10 w v1 S = some (r, Sf)) : AW X sk loc 0 0 10 [(1, .int v1)] [] S := by
  unfold f_X8_isDrawn_10 at h
  refine aw_iload_n (pc := 10) hX dX8_isDrawn_10 rfl 0 rfl ?_
  refine aw_if_le (pc := 11) hX (tgt := 18) dX8_isDrawn_11 (by decide) (fun c11 => ?_) (fun c11 => ?_)
  · rw [if_pos c11] at h
    refine aw_iconst (v := (0 : Int32)) (pc := 18) hX dX8_isDrawn_18 (by decide) ?_
    cases h
    exact aw_zret hX hQ (by decide) dX8_isDrawn_19
  · rw [if_neg c11] at h
    refine aw_iconst (v := (1 : Int32)) (pc := 14) hX dX8_isDrawn_14 (by decide) ?_
    refine aw_goto (tgt := 19) (pc := 15) hX dX8_isDrawn_15 (by decide) ?_
    cases h
    exact aw_zret hX hQ (by decide) dX8_isDrawn_19

set_option maxHeartbeats 4000000 in
set_option maxRecDepth 100000 in
theorem c_X8_isDrawn {sk : Skel} {w : Nat} {v1 : Int32} {S : Mem} {r : Int32} {Sf : Mem} (hw : IsW sk w) (hT : IsT sk 31) (h : f_X8_isDrawn w v1 S = some (r, Sf)) : MetI yX8_isDrawn cX8_isDrawn 2 (some .boolean) 0 [.ref w, .int v1] sk S r Sf := by
  refine MetI.intro (by decide +kernel) (Nat.le_of_ble_eq_true rfl) (fun X loc hX hQ => ?_)
  unfold f_X8_isDrawn at h
  show AW X sk loc 0 0 0 [(0, .ref w), (1, .int v1)] [] S
  refine aw_iload_n (pc := 0) hX dX8_isDrawn_0 rfl 1 rfl ?_
  refine aw_if_le (pc := 1) hX (tgt := 10) dX8_isDrawn_1 (by decide) (fun c1 => ?_) (fun c1 => ?_)
  · rw [if_pos c1] at h
    refine aw_sub (ls' := [(1, .int v1)]) [1] rfl ?_
    exact c_X8_isDrawn_10 hX hQ hw hT v1 S h
  · rw [if_neg c1] at h
    refine aw_iload_n (pc := 4) hX dX8_isDrawn_4 rfl 1 rfl ?_
    refine aw_bipush (v := (100 : Int32)) (pc := 5) hX dX8_isDrawn_5 (by decide) ?_
    refine aw_icmp_lt (pc := 7) hX (tgt := 20) dX8_isDrawn_7 (by decide) (fun c7 => ?_) (fun c7 => ?_)
    · rw [if_pos c7] at h
      refine aw_aload_n (pc := 20) hX dX8_isDrawn_20 rfl 0 rfl ?_
      refine aw_aload_n (pc := 21) hX dX8_isDrawn_21 rfl 0 rfl ?_
      refine gf_X8_21 (pc := 22) hX hw.1 rfl dX8_isDrawn_22 ?_
      refine aw_ldc2 (v := (1103515245 : Int64)) (pc := 25) hX kw_4_63 dX8_isDrawn_25 ?_
      refine aw_lmul (pc := 28) hX dX8_isDrawn_28 ?_
      refine aw_ldc2 (v := (12345 : Int64)) (pc := 29) hX kw_4_64 dX8_isDrawn_29 ?_
      refine aw_ladd (pc := 32) hX dX8_isDrawn_32 ?_
      refine aw_ldc2 (v := (2147483647 : Int64)) (pc := 33) hX kw_4_65 dX8_isDrawn_33 ?_
      refine aw_land (pc := 36) hX dX8_isDrawn_36 ?_
      refine pf_X8_21 (pc := 37) hX hw.1 rfl dX8_isDrawn_37 ?_
      obtain ⟨S37, eS37, h⟩ := on h
      refine aw_S eS37 ?_
      refine aw_aload_n (pc := 40) hX dX8_isDrawn_40 rfl 0 rfl ?_
      refine gf_X8_21 (pc := 41) hX hw.1 rfl dX8_isDrawn_41 ?_
      refine aw_bipush (v := (16 : Int32)) (pc := 44) hX dX8_isDrawn_44 (by decide) ?_
      refine aw_lshr (pc := 46) hX dX8_isDrawn_46 ?_
      refine aw_ldc2 (v := (100 : Int64)) (pc := 47) hX kw_4_66 dX8_isDrawn_47 ?_
      obtain ⟨x50, hx50, h⟩ := ob h
      refine aw_lrem (pc := 50) hX dX8_isDrawn_50 hx50 ?_
      refine aw_iload_n (pc := 51) hX dX8_isDrawn_51 rfl 1 rfl ?_
      refine aw_i2l (pc := 52) hX dX8_isDrawn_52 ?_
      refine aw_lcmp (pc := 53) hX dX8_isDrawn_53 ?_
      refine aw_if_ge (pc := 54) hX (tgt := 61) dX8_isDrawn_54 (by decide) (fun c54 => ?_) (fun c54 => ?_)
      · rw [if_pos (lc_ge.mp c54)] at h
        refine aw_iconst (v := (0 : Int32)) (pc := 61) hX dX8_isDrawn_61 (by decide) ?_
        cases h
        exact aw_zret hX hQ (by decide) dX8_isDrawn_62
      · rw [if_neg (fun q => c54 (lc_ge.mpr q))] at h
        refine aw_iconst (v := (1 : Int32)) (pc := 57) hX dX8_isDrawn_57 (by decide) ?_
        refine aw_goto (tgt := 62) (pc := 58) hX dX8_isDrawn_58 (by decide) ?_
        cases h
        exact aw_zret hX hQ (by decide) dX8_isDrawn_62
    · rw [if_neg c7] at h
      refine aw_sub (ls' := [(1, .int v1)]) [1] rfl ?_
      exact c_X8_isDrawn_10 hX hQ hw hT v1 S h

def f_X8_oddsFor (w : Nat) (v1 : Int32) (v2 : Int32) (S : Mem) : Option (Int32 × Mem) :=
  bnd (f_X8_dollLaw w (0 : Int32) v1 v2 S) fun r4 S4 =>
  if r4 = (-9223372036854775808 : Int64) then
  ((rd S4 41 4 (0 : Int32)).bind fun x25 =>
  bnd (f_J9_max_7cf53 (0 : Int32) (x25 - ((10 : Int32) * v2)) S4) fun r31 S31 =>
  some (r31, S31))
  else
  (bnd (f_X8_within r4 (100 : Int32) S4) fun r40 S40 =>
  some (r40, S40))

set_option maxHeartbeats 4000000 in
set_option maxRecDepth 100000 in
theorem c_X8_oddsFor {sk : Skel} {w : Nat} {v1 : Int32} {v2 : Int32} {S : Mem} {r : Int32} {Sf : Mem} (hw : IsW sk w) (hT : IsT sk 31) (h : f_X8_oddsFor w v1 v2 S = some (r, Sf)) : MetI yX8_oddsFor cX8_oddsFor 5 (some .int) 3 [.ref w, .int v1, .int v2] sk S r Sf := by
  refine MetI.intro (by decide +kernel) (Nat.le_of_ble_eq_true rfl) (fun X loc hX hQ => ?_)
  unfold f_X8_oddsFor at h
  show AW X sk loc 0 0 0 [(0, .ref w), (1, .int v1), (2, .int v2)] [] S
  refine aw_aload_n (pc := 0) hX dX8_oddsFor_0 rfl 0 rfl ?_
  refine aw_iconst (v := (0 : Int32)) (pc := 1) hX dX8_oddsFor_1 (by decide) ?_
  refine aw_iload_n (pc := 2) hX dX8_oddsFor_2 rfl 1 rfl ?_
  refine aw_iload_n (pc := 3) hX dX8_oddsFor_3 rfl 2 rfl ?_
  obtain ⟨r4, S4, hr4, h⟩ := ob2 h
  refine aw_cVL (pc := 4) (As := [.int (0 : Int32), .int v1, .int v2]) (rest := []) hX (c_X8_dollLaw (sk := sk) hw hT hr4) ok_X8_dollLaw kw_3_219 im_X8_dollLaw se_X8_dollLaw rfl hw.1 rfl (by decide) (Nat.le_of_ble_eq_true rfl) rfl dX8_oddsFor_4 (Nat.le_refl 0) (Nat.le_refl 0) ?_
  refine aw_lstore_n (ls' := [(3, .long r4), (0, .ref w), (1, .int v1), (2, .int v2)]) (pc := 7) hX dX8_oddsFor_7 rfl (by decide) rfl ?_
  refine aw_lload_n (pc := 8) hX dX8_oddsFor_8 rfl 0 rfl ?_
  refine aw_ldc2 (v := (-9223372036854775808 : Int64)) (pc := 9) hX kw_3_223 dX8_oddsFor_9 ?_
  refine aw_lcmp (pc := 12) hX dX8_oddsFor_12 ?_
  refine aw_if_ne (pc := 13) hX (tgt := 37) dX8_oddsFor_13 (by decide) (fun c13 => ?_) (fun c13 => ?_)
  · rw [if_neg (fun q => c13 (lc_eq.mpr q))] at h
    refine aw_lload_n (pc := 37) hX dX8_oddsFor_37 rfl 0 rfl ?_
    refine aw_bipush (v := (100 : Int32)) (pc := 38) hX dX8_oddsFor_38 (by decide) ?_
    obtain ⟨r40, S40, hr40, h⟩ := ob2 h
    refine aw_cSI (pc := 40) (As := [.long r4, .int (100 : Int32)]) (rest := []) hX (c_X8_within (sk := sk) hr40) ok_X8_within kw_3_237 st_X8_within rfl (by decide) (Nat.le_of_ble_eq_true rfl) rfl dX8_oddsFor_40 (Nat.le_refl 0) (Nat.le_refl 0) ?_
    cases h
    exact aw_iret hX hQ dX8_oddsFor_43
  · rw [if_pos (lc_eq.mp c13)] at h
    refine aw_iconst (v := (0 : Int32)) (pc := 16) hX dX8_oddsFor_16 (by decide) ?_
    refine aw_aload_n (pc := 17) hX dX8_oddsFor_17 rfl 1 rfl ?_
    refine gf_X8_50 (pc := 18) hX hw.1 rfl dX8_oddsFor_18 ?_
    refine gf_X8_59 (pc := 21) hX hT.1 rfl dX8_oddsFor_21 ?_
    refine aw_iconst (v := (0 : Int32)) (pc := 24) hX dX8_oddsFor_24 (by decide) ?_
    obtain ⟨x25, hx25, h⟩ := ob h
    refine aw_iald (pc := 25) hX hT.2.2.2.2.2.2.2.2.2.2.1 hx25 dX8_oddsFor_25 ?_
    refine aw_bipush (v := (10 : Int32)) (pc := 26) hX dX8_oddsFor_26 (by decide) ?_
    refine aw_iload_n (pc := 28) hX dX8_oddsFor_28 rfl 3 rfl ?_
    refine aw_imul (pc := 29) hX dX8_oddsFor_29 ?_
    refine aw_isub (pc := 30) hX dX8_oddsFor_30 ?_
    obtain ⟨r31, S31, hr31, h⟩ := ob2 h
    refine aw_cSI (pc := 31) (As := [.int (0 : Int32), .int (x25 - ((10 : Int32) * v2))]) (rest := []) hX (c_J9_max_7cf53 (sk := sk) hr31) ok_J9_max_7cf53 kw_3_234 st_J9_max_7cf53 rfl (by decide) (Nat.le_of_ble_eq_true rfl) rfl dX8_oddsFor_31 (Nat.le_refl 0) (Nat.le_refl 0) ?_
    refine aw_goto (tgt := 43) (pc := 34) hX dX8_oddsFor_34 (by decide) ?_
    cases h
    exact aw_iret hX hQ dX8_oddsFor_43

def f_X8_letMothsCome_53 (w : Nat) (R2 : Int32 → Int32 → Mem → Option Mem) (v1 : Int32) (v2 : Int32) (S : Mem) : Option Mem :=
  nxt (sI S w 2 ((S.1 w 2) + (1 : Int32))) fun S60 =>
  (f_X8_hurtOne w v2 S60).bind fun S65 =>
  R2 v1 (v2 + 1) S65

def f_X8_letMothsCome_2 (w : Nat) : Nat → Int32 → Int32 → Mem → Option Mem
  | 0, _, _, _ => none
  | n + 1, v1, v2, S =>
  if (S.1 31 1) ≤ v2 then
  (some S)
  else
  (bnd (f_X8_isHeld w v2 S) fun r15 S15 =>
  if r15 = 0 then
  (f_X8_letMothsCome_2 w n v1 (v2 + 1) S15)
  else
  (bnd (f_X8_careFor w v2 S15) fun r25 S25 =>
  bnd (f_X8_oddsFor w v2 r25 S25) fun r28 S28 =>
  if v1 = 0 then
  (if r28 < (50 : Int32) then
  (f_X8_letMothsCome_2 w n v1 (v2 + 1) S28)
  else
  (f_X8_letMothsCome_53 w (f_X8_letMothsCome_2 w n) v1 v2 S28))
  else
  (bnd (f_X8_isDrawn w r28 S28) fun r38 S38 =>
  if r38 = 0 then
  (f_X8_letMothsCome_2 w n v1 (v2 + 1) S38)
  else
  (f_X8_letMothsCome_53 w (f_X8_letMothsCome_2 w n) v1 v2 S38))))

def f_X8_letMothsCome (w : Nat) (v1 : Int32) (S : Mem) : Option Mem :=
  f_X8_letMothsCome_2 w FU v1 (0 : Int32) S

set_option maxHeartbeats 4000000 in
set_option maxRecDepth 100000 in
theorem c_X8_letMothsCome_53 {X : XT} {loc : Nat → Nat} {sk : Skel} {w : Nat} {Sf : Mem} (hX : AC X loc RX8 cX8_letMothsCome none 4 4 0 0) (hQ : RetV X sk loc 0 0 Sf) (hw : IsW sk w) (hT : IsT sk 31) {R2 : Int32 → Int32 → Mem → Option Mem} (IH2 : ∀ (v1 : Int32) (v2 : Int32) (S : Mem), R2 v1 v2 S = some Sf → AW X sk loc 0 0 2 [(0, .ref w), (1, .int v1), (2, .int v2)] [] S) (v1 : Int32) (v2 : Int32) (S : Mem) (h : f_X8_letMothsCome_53 w R2 v1 v2 S = some Sf) : AW X sk loc 0 0 53 [(0, .ref w), (1, .int v1), (2, .int v2)] [] S := by
  unfold f_X8_letMothsCome_53 at h
  refine aw_aload_n (pc := 53) hX dX8_letMothsCome_53 rfl 0 rfl ?_
  refine aw_dup (pc := 54) hX dX8_letMothsCome_54 rfl ?_
  refine gf_X8_18 (pc := 55) hX hw.1 rfl dX8_letMothsCome_55 ?_
  refine aw_iconst (v := (1 : Int32)) (pc := 58) hX dX8_letMothsCome_58 (by decide) ?_
  refine aw_iadd (pc := 59) hX dX8_letMothsCome_59 ?_
  refine pf_X8_18 (pc := 60) hX hw.1 rfl dX8_letMothsCome_60 ?_
  obtain ⟨S60, eS60, h⟩ := on h
  refine aw_S eS60 ?_
  refine aw_aload_n (pc := 63) hX dX8_letMothsCome_63 rfl 0 rfl ?_
  refine aw_iload_n (pc := 64) hX dX8_letMothsCome_64 rfl 2 rfl ?_
  obtain ⟨S65, hr65, h⟩ := ob h
  refine aw_cVV (pc := 65) (As := [.int v2]) (rest := []) hX (c_X8_hurtOne (sk := sk) hw hT hr65) ok_X8_hurtOne kw_4_67 im_X8_hurtOne se_X8_hurtOne rfl hw.1 rfl (by decide) (Nat.le_of_ble_eq_true rfl) rfl dX8_letMothsCome_65 (Nat.le_refl 0) (Nat.le_refl 0) ?_
  refine aw_iinc (v := (v2 + 1)) (ls' := [(2, .int (v2 + 1)), (0, .ref w), (1, .int v1)]) (pc := 68) hX dX8_letMothsCome_68 (pos := 2) rfl (by first | rfl | decide) (by decide) rfl ?_
  refine aw_goto (tgt := 2) (pc := 71) hX dX8_letMothsCome_71 (by decide) ?_
  refine aw_sub (ls' := [(0, .ref w), (1, .int v1), (2, .int (v2 + 1))]) [1, 2, 0] rfl ?_
  exact IH2 v1 (v2 + 1) S65 h

set_option maxHeartbeats 4000000 in
set_option maxRecDepth 100000 in
theorem c_X8_letMothsCome_2 {X : XT} {loc : Nat → Nat} {sk : Skel} {w : Nat} {Sf : Mem} (hX : AC X loc RX8 cX8_letMothsCome none 4 4 0 0) (hQ : RetV X sk loc 0 0 Sf) (hw : IsW sk w) (hT : IsT sk 31) : ∀ (n : Nat) (v1 : Int32) (v2 : Int32) (S : Mem), f_X8_letMothsCome_2 w n v1 v2 S = some Sf → AW X sk loc 0 0 2 [(0, .ref w), (1, .int v1), (2, .int v2)] [] S := by
  intro n
  induction n with
  | zero => intro v1 v2 S h; cases h
  | succ n ih =>
    intro v1 v2 S h
    unfold f_X8_letMothsCome_2 at h
    refine aw_iload_n (pc := 2) hX dX8_letMothsCome_2 rfl 2 rfl ?_
    refine aw_aload_n (pc := 3) hX dX8_letMothsCome_3 rfl 0 rfl ?_
    refine gf_X8_50 (pc := 4) hX hw.1 rfl dX8_letMothsCome_4 ?_
    refine gf_X8_54 (pc := 7) hX hT.1 rfl dX8_letMothsCome_7 ?_
    refine aw_icmp_ge (pc := 10) hX (tgt := 74) dX8_letMothsCome_10 (by decide) (fun c10 => ?_) (fun c10 => ?_)
    · rw [if_pos c10] at h
      cases h
      exact aw_vret hX hQ dX8_letMothsCome_74
    · rw [if_neg c10] at h
      refine aw_aload_n (pc := 13) hX dX8_letMothsCome_13 rfl 0 rfl ?_
      refine aw_iload_n (pc := 14) hX dX8_letMothsCome_14 rfl 2 rfl ?_
      obtain ⟨r15, S15, hr15, h⟩ := ob2 h
      refine aw_cVI (pc := 15) (As := [.int v2]) (rest := []) hX (c_X8_isHeld (sk := sk) hw hT hr15) ok_X8_isHeld kw_3_175 im_X8_isHeld se_X8_isHeld rfl hw.1 rfl (by decide) (Nat.le_of_ble_eq_true rfl) rfl dX8_letMothsCome_15 (Nat.le_refl 0) (Nat.le_refl 0) ?_
      refine aw_if_eq (pc := 18) hX (tgt := 68) dX8_letMothsCome_18 (by decide) (fun c18 => ?_) (fun c18 => ?_)
      · rw [if_pos c18] at h
        refine aw_iinc (v := (v2 + 1)) (ls' := [(2, .int (v2 + 1)), (0, .ref w), (1, .int v1)]) (pc := 68) hX dX8_letMothsCome_68 (pos := 2) rfl (by first | rfl | decide) (by decide) rfl ?_
        refine aw_goto (tgt := 2) (pc := 71) hX dX8_letMothsCome_71 (by decide) ?_
        refine aw_sub (ls' := [(0, .ref w), (1, .int v1), (2, .int (v2 + 1))]) [1, 2, 0] rfl ?_
        exact ih v1 (v2 + 1) S15 h
      · rw [if_neg c18] at h
        refine aw_aload_n (pc := 21) hX dX8_letMothsCome_21 rfl 0 rfl ?_
        refine aw_iload_n (pc := 22) hX dX8_letMothsCome_22 rfl 2 rfl ?_
        refine aw_aload_n (pc := 23) hX dX8_letMothsCome_23 rfl 0 rfl ?_
        refine aw_iload_n (pc := 24) hX dX8_letMothsCome_24 rfl 2 rfl ?_
        obtain ⟨r25, S25, hr25, h⟩ := ob2 h
        refine aw_cVI (pc := 25) (As := [.int v2]) (rest := [.int v2, .ref w]) hX (c_X8_careFor (sk := sk) hw hT hr25) ok_X8_careFor kw_4_57 im_X8_careFor se_X8_careFor rfl hw.1 rfl (by decide) (Nat.le_of_ble_eq_true rfl) rfl dX8_letMothsCome_25 (Nat.le_refl 0) (Nat.le_refl 0) ?_
        obtain ⟨r28, S28, hr28, h⟩ := ob2 h
        refine aw_cVI (pc := 28) (As := [.int v2, .int r25]) (rest := []) hX (c_X8_oddsFor (sk := sk) hw hT hr28) ok_X8_oddsFor kw_4_58 im_X8_oddsFor se_X8_oddsFor rfl hw.1 rfl (by decide) (Nat.le_of_ble_eq_true rfl) rfl dX8_letMothsCome_28 (Nat.le_refl 0) (Nat.le_refl 0) ?_
        refine aw_istore_n (ls' := [(3, .int r28), (0, .ref w), (1, .int v1), (2, .int v2)]) (pc := 31) hX dX8_letMothsCome_31 rfl (by decide) rfl ?_
        refine aw_iload_n (pc := 32) hX dX8_letMothsCome_32 rfl 2 rfl ?_
        refine aw_if_eq (pc := 33) hX (tgt := 47) dX8_letMothsCome_33 (by decide) (fun c33 => ?_) (fun c33 => ?_)
        · rw [if_pos c33] at h
          refine aw_iload_n (pc := 47) hX dX8_letMothsCome_47 rfl 0 rfl ?_
          refine aw_bipush (v := (50 : Int32)) (pc := 48) hX dX8_letMothsCome_48 (by decide) ?_
          refine aw_icmp_lt (pc := 50) hX (tgt := 68) dX8_letMothsCome_50 (by decide) (fun c50 => ?_) (fun c50 => ?_)
          · rw [if_pos c50] at h
            refine aw_iinc (v := (v2 + 1)) (ls' := [(2, .int (v2 + 1)), (3, .int r28), (0, .ref w), (1, .int v1)]) (pc := 68) hX dX8_letMothsCome_68 (pos := 3) rfl (by first | rfl | decide) (by decide) rfl ?_
            refine aw_goto (tgt := 2) (pc := 71) hX dX8_letMothsCome_71 (by decide) ?_
            refine aw_sub (ls' := [(0, .ref w), (1, .int v1), (2, .int (v2 + 1))]) [2, 3, 0] rfl ?_
            exact ih v1 (v2 + 1) S28 h
          · rw [if_neg c50] at h
            refine aw_sub (ls' := [(0, .ref w), (1, .int v1), (2, .int v2)]) [1, 2, 3] rfl ?_
            exact c_X8_letMothsCome_53 hX hQ hw hT ih v1 v2 S28 h
        · rw [if_neg c33] at h
          refine aw_aload_n (pc := 36) hX dX8_letMothsCome_36 rfl 1 rfl ?_
          refine aw_iload_n (pc := 37) hX dX8_letMothsCome_37 rfl 0 rfl ?_
          obtain ⟨r38, S38, hr38, h⟩ := ob2 h
          refine aw_cVI (pc := 38) (As := [.int r28]) (rest := []) hX (c_X8_isDrawn (sk := sk) hw hT hr38) ok_X8_isDrawn kw_4_59 im_X8_isDrawn se_X8_isDrawn rfl hw.1 rfl (by decide) (Nat.le_of_ble_eq_true rfl) rfl dX8_letMothsCome_38 (Nat.le_refl 0) (Nat.le_refl 0) ?_
          refine aw_if_eq (pc := 41) hX (tgt := 68) dX8_letMothsCome_41 (by decide) (fun c41 => ?_) (fun c41 => ?_)
          · rw [if_pos c41] at h
            refine aw_iinc (v := (v2 + 1)) (ls' := [(2, .int (v2 + 1)), (3, .int r28), (0, .ref w), (1, .int v1)]) (pc := 68) hX dX8_letMothsCome_68 (pos := 3) rfl (by first | rfl | decide) (by decide) rfl ?_
            refine aw_goto (tgt := 2) (pc := 71) hX dX8_letMothsCome_71 (by decide) ?_
            refine aw_sub (ls' := [(0, .ref w), (1, .int v1), (2, .int (v2 + 1))]) [2, 3, 0] rfl ?_
            exact ih v1 (v2 + 1) S38 h
          · rw [if_neg c41] at h
            refine aw_goto (tgt := 53) (pc := 44) hX dX8_letMothsCome_44 (by decide) ?_
            refine aw_sub (ls' := [(0, .ref w), (1, .int v1), (2, .int v2)]) [1, 2, 3] rfl ?_
            exact c_X8_letMothsCome_53 hX hQ hw hT ih v1 v2 S38 h

set_option maxHeartbeats 4000000 in
set_option maxRecDepth 100000 in
theorem c_X8_letMothsCome {sk : Skel} {w : Nat} {v1 : Int32} {S : Mem} {Sf : Mem} (hw : IsW sk w) (hT : IsT sk 31) (h : f_X8_letMothsCome w v1 S = some Sf) : MetV yX8_letMothsCome cX8_letMothsCome 4 none 4 [.ref w, .int v1] sk S Sf := by
  refine MetV.intro (by decide +kernel) (Nat.le_of_ble_eq_true rfl) (fun X loc hX hQ => ?_)
  unfold f_X8_letMothsCome at h
  show AW X sk loc 0 0 0 [(0, .ref w), (1, .int v1)] [] S
  refine aw_iconst (v := (0 : Int32)) (pc := 0) hX dX8_letMothsCome_0 (by decide) ?_
  refine aw_istore_n (ls' := [(2, .int (0 : Int32)), (0, .ref w), (1, .int v1)]) (pc := 1) hX dX8_letMothsCome_1 rfl (by decide) rfl ?_
  refine aw_sub (ls' := [(0, .ref w), (1, .int v1), (2, .int (0 : Int32))]) [1, 2, 0] rfl ?_
  exact c_X8_letMothsCome_2 hX hQ hw hT FU v1 (0 : Int32) S h

def f_X8_run_54 (w : Nat) (R2 : Int32 → Int32 → Int32 → Mem → Option Mem) (v1 : Int32) (v2 : Int32) (v3 : Int32) (S : Mem) : Option Mem :=
  (f_X8_growFond w S).bind fun S55 =>
  nxt (sI S55 w 0 ((S55.1 w 0) + (1 : Int32))) fun S65 =>
  R2 v1 v2 (v3 + 1) S65

def f_X8_run_43 (w : Nat) (R2 : Int32 → Int32 → Int32 → Mem → Option Mem) (v1 : Int32) (v2 : Int32) (v3 : Int32) (S : Mem) : Option Mem :=
  if (v2 &&& (8 : Int32)) = 0 then
  ((f_X8_forgive w S).bind fun S51 =>
  f_X8_run_54 w R2 v1 v2 v3 S51)
  else
  (f_X8_run_54 w R2 v1 v2 v3 S)

def f_X8_run_33 (w : Nat) (R2 : Int32 → Int32 → Int32 → Mem → Option Mem) (v1 : Int32) (v2 : Int32) (v3 : Int32) (S : Mem) : Option Mem :=
  if (v2 &&& (4 : Int32)) = 0 then
  ((f_X8_answerBreaches w S).bind fun S40 =>
  f_X8_run_43 w R2 v1 v2 v3 S40)
  else
  (f_X8_run_43 w R2 v1 v2 v3 S)

def f_X8_run_30 (w : Nat) (R2 : Int32 → Int32 → Int32 → Mem → Option Mem) (v1 : Int32) (v2 : Int32) (v3 : Int32) (t1 : Int32) (S : Mem) : Option Mem :=
  (f_X8_letMothsCome w t1 S).bind fun S30 =>
  f_X8_run_33 w R2 v1 v2 v3 S30

def f_X8_run_2 (w : Nat) : Nat → Int32 → Int32 → Int32 → Mem → Option Mem
  | 0, _, _, _, _ => none
  | n + 1, v1, v2, v3, S =>
  if v1 ≤ v3 then
  (some S)
  else
  (nxt (sI S w 12 (0 : Int32)) fun S9 =>
  if (v2 &&& (2 : Int32)) = 0 then
  (if (v2 &&& (1 : Int32)) = 0 then
  (f_X8_run_30 w (f_X8_run_2 w n) v1 v2 v3 (0 : Int32) S9)
  else
  (f_X8_run_30 w (f_X8_run_2 w n) v1 v2 v3 (1 : Int32) S9))
  else
  (f_X8_run_33 w (f_X8_run_2 w n) v1 v2 v3 S9))

def f_X8_run (w : Nat) (v1 : Int32) (v2 : Int32) (S : Mem) : Option Mem :=
  f_X8_run_2 w FU v1 v2 (0 : Int32) S

set_option maxHeartbeats 4000000 in
set_option maxRecDepth 100000 in
theorem c_X8_run_54 {X : XT} {loc : Nat → Nat} {sk : Skel} {w : Nat} {Sf : Mem} (hX : AC X loc RX8 cX8_run none 4 5 0 0) (hQ : RetV X sk loc 0 0 Sf) (hw : IsW sk w) (hT : IsT sk 31) {R2 : Int32 → Int32 → Int32 → Mem → Option Mem} (IH2 : ∀ (v1 : Int32) (v2 : Int32) (v3 : Int32) (S : Mem), R2 v1 v2 v3 S = some Sf → AW X sk loc 0 0 2 [(0, .ref w), (1, .int v1), (2, .int v2), (3, .int v3)] [] S) (v1 : Int32) (v2 : Int32) (v3 : Int32) (S : Mem) (h : f_X8_run_54 w R2 v1 v2 v3 S = some Sf) : AW X sk loc 0 0 54 [(0, .ref w), (1, .int v1), (2, .int v2), (3, .int v3)] [] S := by
  unfold f_X8_run_54 at h
  refine aw_aload_n (pc := 54) hX dX8_run_54 rfl 0 rfl ?_
  obtain ⟨S55, hr55, h⟩ := ob h
  refine aw_cVV (pc := 55) (As := []) (rest := []) hX (c_X8_growFond (sk := sk) hw hT hr55) ok_X8_growFond kw_4_86 im_X8_growFond se_X8_growFond rfl hw.1 rfl (by decide) (Nat.le_of_ble_eq_true rfl) rfl dX8_run_55 (Nat.le_refl 0) (Nat.le_refl 0) ?_
  refine aw_aload_n (pc := 58) hX dX8_run_58 rfl 0 rfl ?_
  refine aw_dup (pc := 59) hX dX8_run_59 rfl ?_
  refine gf_X8_9 (pc := 60) hX hw.1 rfl dX8_run_60 ?_
  refine aw_iconst (v := (1 : Int32)) (pc := 63) hX dX8_run_63 (by decide) ?_
  refine aw_iadd (pc := 64) hX dX8_run_64 ?_
  refine pf_X8_9 (pc := 65) hX hw.1 rfl dX8_run_65 ?_
  obtain ⟨S65, eS65, h⟩ := on h
  refine aw_S eS65 ?_
  refine aw_iinc (v := (v3 + 1)) (ls' := [(3, .int (v3 + 1)), (0, .ref w), (1, .int v1), (2, .int v2)]) (pc := 68) hX dX8_run_68 (pos := 3) rfl (by first | rfl | decide) (by decide) rfl ?_
  refine aw_goto (tgt := 2) (pc := 71) hX dX8_run_71 (by decide) ?_
  refine aw_sub (ls' := [(0, .ref w), (1, .int v1), (2, .int v2), (3, .int (v3 + 1))]) [1, 2, 3, 0] rfl ?_
  exact IH2 v1 v2 (v3 + 1) S65 h

set_option maxHeartbeats 4000000 in
set_option maxRecDepth 100000 in
theorem c_X8_run_43 {X : XT} {loc : Nat → Nat} {sk : Skel} {w : Nat} {Sf : Mem} (hX : AC X loc RX8 cX8_run none 4 5 0 0) (hQ : RetV X sk loc 0 0 Sf) (hw : IsW sk w) (hT : IsT sk 31) {R2 : Int32 → Int32 → Int32 → Mem → Option Mem} (IH2 : ∀ (v1 : Int32) (v2 : Int32) (v3 : Int32) (S : Mem), R2 v1 v2 v3 S = some Sf → AW X sk loc 0 0 2 [(0, .ref w), (1, .int v1), (2, .int v2), (3, .int v3)] [] S) (v1 : Int32) (v2 : Int32) (v3 : Int32) (S : Mem) (h : f_X8_run_43 w R2 v1 v2 v3 S = some Sf) : AW X sk loc 0 0 43 [(0, .ref w), (1, .int v1), (2, .int v2), (3, .int v3)] [] S := by
  unfold f_X8_run_43 at h
  refine aw_iload_n (pc := 43) hX dX8_run_43 rfl 2 rfl ?_
  refine aw_bipush (v := (8 : Int32)) (pc := 44) hX dX8_run_44 (by decide) ?_
  refine aw_iand (pc := 46) hX dX8_run_46 ?_
  refine aw_if_ne (pc := 47) hX (tgt := 54) dX8_run_47 (by decide) (fun c47 => ?_) (fun c47 => ?_)
  · rw [if_neg c47] at h
    exact c_X8_run_54 hX hQ hw hT IH2 v1 v2 v3 S h
  · rw [if_pos c47] at h
    refine aw_aload_n (pc := 50) hX dX8_run_50 rfl 0 rfl ?_
    obtain ⟨S51, hr51, h⟩ := ob h
    refine aw_cVV (pc := 51) (As := []) (rest := []) hX (c_X8_forgive (sk := sk) hw hT hr51) ok_X8_forgive kw_4_81 im_X8_forgive se_X8_forgive rfl hw.1 rfl (by decide) (Nat.le_of_ble_eq_true rfl) rfl dX8_run_51 (Nat.le_refl 0) (Nat.le_refl 0) ?_
    exact c_X8_run_54 hX hQ hw hT IH2 v1 v2 v3 S51 h

set_option maxHeartbeats 4000000 in
set_option maxRecDepth 100000 in
theorem c_X8_run_33 {X : XT} {loc : Nat → Nat} {sk : Skel} {w : Nat} {Sf : Mem} (hX : AC X loc RX8 cX8_run none 4 5 0 0) (hQ : RetV X sk loc 0 0 Sf) (hw : IsW sk w) (hT : IsT sk 31) {R2 : Int32 → Int32 → Int32 → Mem → Option Mem} (IH2 : ∀ (v1 : Int32) (v2 : Int32) (v3 : Int32) (S : Mem), R2 v1 v2 v3 S = some Sf → AW X sk loc 0 0 2 [(0, .ref w), (1, .int v1), (2, .int v2), (3, .int v3)] [] S) (v1 : Int32) (v2 : Int32) (v3 : Int32) (S : Mem) (h : f_X8_run_33 w R2 v1 v2 v3 S = some Sf) : AW X sk loc 0 0 33 [(0, .ref w), (1, .int v1), (2, .int v2), (3, .int v3)] [] S := by
  unfold f_X8_run_33 at h
  refine aw_iload_n (pc := 33) hX dX8_run_33 rfl 2 rfl ?_
  refine aw_iconst (v := (4 : Int32)) (pc := 34) hX dX8_run_34 (by decide) ?_
  refine aw_iand (pc := 35) hX dX8_run_35 ?_
  refine aw_if_ne (pc := 36) hX (tgt := 43) dX8_run_36 (by decide) (fun c36 => ?_) (fun c36 => ?_)
  · rw [if_neg c36] at h
    exact c_X8_run_43 hX hQ hw hT IH2 v1 v2 v3 S h
  · rw [if_pos c36] at h
    refine aw_aload_n (pc := 39) hX dX8_run_39 rfl 0 rfl ?_
    obtain ⟨S40, hr40, h⟩ := ob h
    refine aw_cVV (pc := 40) (As := []) (rest := []) hX (c_X8_answerBreaches (sk := sk) hw hT hr40) ok_X8_answerBreaches kw_4_72 im_X8_answerBreaches se_X8_answerBreaches rfl hw.1 rfl (by decide) (Nat.le_of_ble_eq_true rfl) rfl dX8_run_40 (Nat.le_refl 0) (Nat.le_refl 0) ?_
    exact c_X8_run_43 hX hQ hw hT IH2 v1 v2 v3 S40 h

set_option maxHeartbeats 4000000 in
set_option maxRecDepth 100000 in
theorem c_X8_run_30 {X : XT} {loc : Nat → Nat} {sk : Skel} {w : Nat} {Sf : Mem} (hX : AC X loc RX8 cX8_run none 4 5 0 0) (hQ : RetV X sk loc 0 0 Sf) (hw : IsW sk w) (hT : IsT sk 31) {R2 : Int32 → Int32 → Int32 → Mem → Option Mem} (IH2 : ∀ (v1 : Int32) (v2 : Int32) (v3 : Int32) (S : Mem), R2 v1 v2 v3 S = some Sf → AW X sk loc 0 0 2 [(0, .ref w), (1, .int v1), (2, .int v2), (3, .int v3)] [] S) (v1 : Int32) (v2 : Int32) (v3 : Int32) (t1 : Int32) (S : Mem) (h : f_X8_run_30 w R2 v1 v2 v3 t1 S = some Sf) : AW X sk loc 0 0 30 [(0, .ref w), (1, .int v1), (2, .int v2), (3, .int v3)] [.int t1, .ref w] S := by
  unfold f_X8_run_30 at h
  obtain ⟨S30, hr30, h⟩ := ob h
  refine aw_cVV (pc := 30) (As := [.int t1]) (rest := []) hX (c_X8_letMothsCome (sk := sk) hw hT hr30) ok_X8_letMothsCome kw_4_53 im_X8_letMothsCome se_X8_letMothsCome rfl hw.1 rfl (by decide) (Nat.le_of_ble_eq_true rfl) rfl dX8_run_30 (Nat.le_refl 0) (Nat.le_refl 0) ?_
  exact c_X8_run_33 hX hQ hw hT IH2 v1 v2 v3 S30 h

set_option maxHeartbeats 4000000 in
set_option maxRecDepth 100000 in
theorem c_X8_run_2 {X : XT} {loc : Nat → Nat} {sk : Skel} {w : Nat} {Sf : Mem} (hX : AC X loc RX8 cX8_run none 4 5 0 0) (hQ : RetV X sk loc 0 0 Sf) (hw : IsW sk w) (hT : IsT sk 31) : ∀ (n : Nat) (v1 : Int32) (v2 : Int32) (v3 : Int32) (S : Mem), f_X8_run_2 w n v1 v2 v3 S = some Sf → AW X sk loc 0 0 2 [(0, .ref w), (1, .int v1), (2, .int v2), (3, .int v3)] [] S := by
  intro n
  induction n with
  | zero => intro v1 v2 v3 S h; cases h
  | succ n ih =>
    intro v1 v2 v3 S h
    unfold f_X8_run_2 at h
    refine aw_iload_n (pc := 2) hX dX8_run_2 rfl 3 rfl ?_
    refine aw_iload_n (pc := 3) hX dX8_run_3 rfl 1 rfl ?_
    refine aw_icmp_ge (pc := 4) hX (tgt := 74) dX8_run_4 (by decide) (fun c4 => ?_) (fun c4 => ?_)
    · rw [if_pos c4] at h
      cases h
      exact aw_vret hX hQ dX8_run_74
    · rw [if_neg c4] at h
      refine aw_aload_n (pc := 7) hX dX8_run_7 rfl 0 rfl ?_
      refine aw_iconst (v := (0 : Int32)) (pc := 8) hX dX8_run_8 (by decide) ?_
      refine pf_X8_47 (pc := 9) hX hw.1 rfl dX8_run_9 ?_
      obtain ⟨S9, eS9, h⟩ := on h
      refine aw_S eS9 ?_
      refine aw_iload_n (pc := 12) hX dX8_run_12 rfl 2 rfl ?_
      refine aw_iconst (v := (2 : Int32)) (pc := 13) hX dX8_run_13 (by decide) ?_
      refine aw_iand (pc := 14) hX dX8_run_14 ?_
      refine aw_if_ne (pc := 15) hX (tgt := 33) dX8_run_15 (by decide) (fun c15 => ?_) (fun c15 => ?_)
      · rw [if_neg c15] at h
        exact c_X8_run_33 hX hQ hw hT ih v1 v2 v3 S9 h
      · rw [if_pos c15] at h
        refine aw_aload_n (pc := 18) hX dX8_run_18 rfl 0 rfl ?_
        refine aw_iload_n (pc := 19) hX dX8_run_19 rfl 2 rfl ?_
        refine aw_iconst (v := (1 : Int32)) (pc := 20) hX dX8_run_20 (by decide) ?_
        refine aw_iand (pc := 21) hX dX8_run_21 ?_
        refine aw_if_eq (pc := 22) hX (tgt := 29) dX8_run_22 (by decide) (fun c22 => ?_) (fun c22 => ?_)
        · rw [if_pos c22] at h
          refine aw_iconst (v := (0 : Int32)) (pc := 29) hX dX8_run_29 (by decide) ?_
          exact c_X8_run_30 hX hQ hw hT ih v1 v2 v3 (0 : Int32) S9 h
        · rw [if_neg c22] at h
          refine aw_iconst (v := (1 : Int32)) (pc := 25) hX dX8_run_25 (by decide) ?_
          refine aw_goto (tgt := 30) (pc := 26) hX dX8_run_26 (by decide) ?_
          exact c_X8_run_30 hX hQ hw hT ih v1 v2 v3 (1 : Int32) S9 h

set_option maxHeartbeats 4000000 in
set_option maxRecDepth 100000 in
theorem c_X8_run {sk : Skel} {w : Nat} {v1 : Int32} {v2 : Int32} {S : Mem} {Sf : Mem} (hw : IsW sk w) (hT : IsT sk 31) (h : f_X8_run w v1 v2 S = some Sf) : MetV yX8_run cX8_run 4 none 5 [.ref w, .int v1, .int v2] sk S Sf := by
  refine MetV.intro (by decide +kernel) (Nat.le_of_ble_eq_true rfl) (fun X loc hX hQ => ?_)
  unfold f_X8_run at h
  show AW X sk loc 0 0 0 [(0, .ref w), (1, .int v1), (2, .int v2)] [] S
  refine aw_iconst (v := (0 : Int32)) (pc := 0) hX dX8_run_0 (by decide) ?_
  refine aw_istore_n (ls' := [(3, .int (0 : Int32)), (0, .ref w), (1, .int v1), (2, .int v2)]) (pc := 1) hX dX8_run_1 rfl (by decide) rfl ?_
  refine aw_sub (ls' := [(0, .ref w), (1, .int v1), (2, .int v2), (3, .int (0 : Int32))]) [1, 2, 3, 0] rfl ?_
  exact c_X8_run_2 hX hQ hw hT FU v1 v2 (0 : Int32) S h

def f_X8_angerOfBoth (w : Nat) (S : Mem) : Option (Int32 × Mem) :=
  (rd S (w + 5) 2 (0 : Int32)).bind fun x5 =>
  (rd S (w + 5) 2 (1 : Int32)).bind fun x11 =>
  some ((x5 + x11), S)

set_option maxHeartbeats 4000000 in
set_option maxRecDepth 100000 in
theorem c_X8_angerOfBoth {sk : Skel} {w : Nat} {S : Mem} {r : Int32} {Sf : Mem} (hw : IsW sk w) (hT : IsT sk 31) (h : f_X8_angerOfBoth w S = some (r, Sf)) : MetI yX8_angerOfBoth cX8_angerOfBoth 1 (some .int) 0 [.ref w] sk S r Sf := by
  refine MetI.intro (by decide +kernel) (Nat.le_of_ble_eq_true rfl) (fun X loc hX hQ => ?_)
  unfold f_X8_angerOfBoth at h
  show AW X sk loc 0 0 0 [(0, .ref w)] [] S
  refine aw_aload_n (pc := 0) hX dX8_angerOfBoth_0 rfl 0 rfl ?_
  refine gf_X8_38 (pc := 1) hX hw.1 rfl dX8_angerOfBoth_1 ?_
  refine aw_iconst (v := (0 : Int32)) (pc := 4) hX dX8_angerOfBoth_4 (by decide) ?_
  obtain ⟨x5, hx5, h⟩ := ob h
  refine aw_iald (pc := 5) hX hw.2.2.2.2.2.1 hx5 dX8_angerOfBoth_5 ?_
  refine aw_aload_n (pc := 6) hX dX8_angerOfBoth_6 rfl 0 rfl ?_
  refine gf_X8_38 (pc := 7) hX hw.1 rfl dX8_angerOfBoth_7 ?_
  refine aw_iconst (v := (1 : Int32)) (pc := 10) hX dX8_angerOfBoth_10 (by decide) ?_
  obtain ⟨x11, hx11, h⟩ := ob h
  refine aw_iald (pc := 11) hX hw.2.2.2.2.2.1 hx11 dX8_angerOfBoth_11 ?_
  refine aw_iadd (pc := 12) hX dX8_angerOfBoth_12 ?_
  cases h
  exact aw_iret hX hQ dX8_angerOfBoth_13

def f_X8_take (w : Nat) (w1 : Nat) (S : Mem) : Option Mem :=
  nxt (sI S w 0 (S.1 w1 0)) fun S5 =>
  nxt (sI S5 w 1 (S5.1 w1 1)) fun S13 =>
  nxt (sI S13 w 2 (S13.1 w1 2)) fun S21 =>
  nxt (sL S21 w 3 (S21.2 w1 3)) fun S29 =>
  (f_X9_copy (w1 + 1) 10 (w + 1) 10 S29).bind fun S40 =>
  (f_X9_copy (w1 + 2) 10 (w + 2) 10 S40).bind fun S51 =>
  (f_X9_copy (w1 + 3) 10 (w + 3) 10 S51).bind fun S62 =>
  (f_X9_copy (w1 + 4) 6 (w + 4) 6 S62).bind fun S73 =>
  (f_X9_copy (w1 + 5) 2 (w + 5) 2 S73).bind fun S84 =>
  (f_X9_copy (w1 + 6) 2 (w + 6) 2 S84).bind fun S95 =>
  some S95

set_option maxHeartbeats 4000000 in
set_option maxRecDepth 100000 in
theorem c_X8_take {sk : Skel} {w : Nat} {w1 : Nat} {S : Mem} {Sf : Mem} (hw : IsW sk w) (hT : IsT sk 31) (hw1 : IsW sk w1) (h : f_X8_take w w1 S = some Sf) : MetV yX8_take cX8_take 2 none 1 [.ref w, .ref w1] sk S Sf := by
  refine MetV.intro (by decide +kernel) (Nat.le_of_ble_eq_true rfl) (fun X loc hX hQ => ?_)
  unfold f_X8_take at h
  show AW X sk loc 0 0 0 [(0, .ref w), (1, .ref w1)] [] S
  refine aw_aload_n (pc := 0) hX dX8_take_0 rfl 0 rfl ?_
  refine aw_aload_n (pc := 1) hX dX8_take_1 rfl 1 rfl ?_
  refine gf_X8_9 (pc := 2) hX hw1.1 rfl dX8_take_2 ?_
  refine pf_X8_9 (pc := 5) hX hw.1 rfl dX8_take_5 ?_
  obtain ⟨S5, eS5, h⟩ := on h
  refine aw_S eS5 ?_
  refine aw_aload_n (pc := 8) hX dX8_take_8 rfl 0 rfl ?_
  refine aw_aload_n (pc := 9) hX dX8_take_9 rfl 1 rfl ?_
  refine gf_X8_15 (pc := 10) hX hw1.1 rfl dX8_take_10 ?_
  refine pf_X8_15 (pc := 13) hX hw.1 rfl dX8_take_13 ?_
  obtain ⟨S13, eS13, h⟩ := on h
  refine aw_S eS13 ?_
  refine aw_aload_n (pc := 16) hX dX8_take_16 rfl 0 rfl ?_
  refine aw_aload_n (pc := 17) hX dX8_take_17 rfl 1 rfl ?_
  refine gf_X8_18 (pc := 18) hX hw1.1 rfl dX8_take_18 ?_
  refine pf_X8_18 (pc := 21) hX hw.1 rfl dX8_take_21 ?_
  obtain ⟨S21, eS21, h⟩ := on h
  refine aw_S eS21 ?_
  refine aw_aload_n (pc := 24) hX dX8_take_24 rfl 0 rfl ?_
  refine aw_aload_n (pc := 25) hX dX8_take_25 rfl 1 rfl ?_
  refine gf_X8_21 (pc := 26) hX hw1.1 rfl dX8_take_26 ?_
  refine pf_X8_21 (pc := 29) hX hw.1 rfl dX8_take_29 ?_
  obtain ⟨S29, eS29, h⟩ := on h
  refine aw_S eS29 ?_
  refine aw_aload_n (pc := 32) hX dX8_take_32 rfl 1 rfl ?_
  refine gf_X8_25 (pc := 33) hX hw1.1 rfl dX8_take_33 ?_
  refine aw_aload_n (pc := 36) hX dX8_take_36 rfl 0 rfl ?_
  refine gf_X8_25 (pc := 37) hX hw.1 rfl dX8_take_37 ?_
  obtain ⟨S40, hr40, h⟩ := ob h
  refine aw_cSNV (pc := 40) (host := "DollTruce") (As := [.ref (w1 + 1), .ref (w + 1)]) (rest := []) hX (c_X9_copy (sk := sk) hw1.2.1 hw.2.1 hr40) ok_X9_copy (by decide) st_X9_copy rfl (by decide) (Nat.le_of_ble_eq_true rfl) rfl dX8_take_40 (Nat.le_refl 0) (Nat.le_refl 0) ?_
  refine aw_aload_n (pc := 43) hX dX8_take_43 rfl 1 rfl ?_
  refine gf_X8_29 (pc := 44) hX hw1.1 rfl dX8_take_44 ?_
  refine aw_aload_n (pc := 47) hX dX8_take_47 rfl 0 rfl ?_
  refine gf_X8_29 (pc := 48) hX hw.1 rfl dX8_take_48 ?_
  obtain ⟨S51, hr51, h⟩ := ob h
  refine aw_cSNV (pc := 51) (host := "DollTruce") (As := [.ref (w1 + 2), .ref (w + 2)]) (rest := []) hX (c_X9_copy (sk := sk) hw1.2.2.1 hw.2.2.1 hr51) ok_X9_copy (by decide) st_X9_copy rfl (by decide) (Nat.le_of_ble_eq_true rfl) rfl dX8_take_51 (Nat.le_refl 0) (Nat.le_refl 0) ?_
  refine aw_aload_n (pc := 54) hX dX8_take_54 rfl 1 rfl ?_
  refine gf_X8_32 (pc := 55) hX hw1.1 rfl dX8_take_55 ?_
  refine aw_aload_n (pc := 58) hX dX8_take_58 rfl 0 rfl ?_
  refine gf_X8_32 (pc := 59) hX hw.1 rfl dX8_take_59 ?_
  obtain ⟨S62, hr62, h⟩ := ob h
  refine aw_cSNV (pc := 62) (host := "DollTruce") (As := [.ref (w1 + 3), .ref (w + 3)]) (rest := []) hX (c_X9_copy (sk := sk) hw1.2.2.2.1 hw.2.2.2.1 hr62) ok_X9_copy (by decide) st_X9_copy rfl (by decide) (Nat.le_of_ble_eq_true rfl) rfl dX8_take_62 (Nat.le_refl 0) (Nat.le_refl 0) ?_
  refine aw_aload_n (pc := 65) hX dX8_take_65 rfl 1 rfl ?_
  refine gf_X8_35 (pc := 66) hX hw1.1 rfl dX8_take_66 ?_
  refine aw_aload_n (pc := 69) hX dX8_take_69 rfl 0 rfl ?_
  refine gf_X8_35 (pc := 70) hX hw.1 rfl dX8_take_70 ?_
  obtain ⟨S73, hr73, h⟩ := ob h
  refine aw_cSNV (pc := 73) (host := "DollTruce") (As := [.ref (w1 + 4), .ref (w + 4)]) (rest := []) hX (c_X9_copy (sk := sk) hw1.2.2.2.2.1 hw.2.2.2.2.1 hr73) ok_X9_copy (by decide) st_X9_copy rfl (by decide) (Nat.le_of_ble_eq_true rfl) rfl dX8_take_73 (Nat.le_refl 0) (Nat.le_refl 0) ?_
  refine aw_aload_n (pc := 76) hX dX8_take_76 rfl 1 rfl ?_
  refine gf_X8_38 (pc := 77) hX hw1.1 rfl dX8_take_77 ?_
  refine aw_aload_n (pc := 80) hX dX8_take_80 rfl 0 rfl ?_
  refine gf_X8_38 (pc := 81) hX hw.1 rfl dX8_take_81 ?_
  obtain ⟨S84, hr84, h⟩ := ob h
  refine aw_cSNV (pc := 84) (host := "DollTruce") (As := [.ref (w1 + 5), .ref (w + 5)]) (rest := []) hX (c_X9_copy (sk := sk) hw1.2.2.2.2.2.1 hw.2.2.2.2.2.1 hr84) ok_X9_copy (by decide) st_X9_copy rfl (by decide) (Nat.le_of_ble_eq_true rfl) rfl dX8_take_84 (Nat.le_refl 0) (Nat.le_refl 0) ?_
  refine aw_aload_n (pc := 87) hX dX8_take_87 rfl 1 rfl ?_
  refine gf_X8_41 (pc := 88) hX hw1.1 rfl dX8_take_88 ?_
  refine aw_aload_n (pc := 91) hX dX8_take_91 rfl 0 rfl ?_
  refine gf_X8_41 (pc := 92) hX hw.1 rfl dX8_take_92 ?_
  obtain ⟨S95, hr95, h⟩ := ob h
  refine aw_cSNV (pc := 95) (host := "DollTruce") (As := [.ref (w1 + 6), .ref (w + 6)]) (rest := []) hX (c_X9_copy (sk := sk) hw1.2.2.2.2.2.2.1 hw.2.2.2.2.2.2.1 hr95) ok_X9_copy (by decide) st_X9_copy rfl (by decide) (Nat.le_of_ble_eq_true rfl) rfl dX8_take_95 (Nat.le_refl 0) (Nat.le_refl 0) ?_
  cases h
  exact aw_vret hX hQ dX8_take_98

def f_X8_begin_97 (w : Nat) : Nat → Int32 → Mem → Option Mem
  | 0, _, _ => none
  | n + 1, v1, S =>
  if (2 : Int32) ≤ v1 then
  (some S)
  else
  ((wr S (w + 5) 2 v1 (0 : Int32)).bind fun S108 =>
  (wr S108 (w + 6) 2 v1 (0 : Int32)).bind fun S115 =>
  f_X8_begin_97 w n (v1 + 1) S115)

def f_X8_begin_69 (w : Nat) : Nat → Int32 → Mem → Option Mem
  | 0, _, _ => none
  | n + 1, v1, S =>
  if (10 : Int32) ≤ v1 then
  (f_X8_begin_97 w FU (0 : Int32) S)
  else
  ((wr S (w + 2) 10 v1 (0 : Int32)).bind fun S81 =>
  (wr S81 (w + 3) 10 v1 (0 : Int32)).bind fun S88 =>
  f_X8_begin_69 w n (v1 + 1) S88)

def f_X8_begin (w : Nat) (S : Mem) : Option Mem :=
  nxt (sI S w 0 (0 : Int32)) fun S2 =>
  nxt (sI S2 w 1 (((1 : Int32) <<< ((S2.1 31 1) &&& 31)) - (1 : Int32))) fun S17 =>
  nxt (sI S17 w 2 (0 : Int32)) fun S22 =>
  (rd S22 41 4 (3 : Int32)).bind fun x34 =>
  nxt (sL S22 w 3 ((x34).toInt64)) fun S36 =>
  (f_X9_copy 36 10 (w + 1) 10 S36).bind fun S50 =>
  (f_X9_copy 34 6 (w + 4) 6 S50).bind fun S64 =>
  f_X8_begin_69 w FU (0 : Int32) S64

set_option maxHeartbeats 4000000 in
set_option maxRecDepth 100000 in
theorem c_X8_begin_97 {X : XT} {loc : Nat → Nat} {sk : Skel} {w : Nat} {Sf : Mem} (hX : AC X loc RX8 cX8_begin none 2 1 0 0) (hQ : RetV X sk loc 0 0 Sf) (hw : IsW sk w) (hT : IsT sk 31) : ∀ (n : Nat) (v1 : Int32) (S : Mem), f_X8_begin_97 w n v1 S = some Sf → AW X sk loc 0 0 97 [(0, .ref w), (1, .int v1)] [] S := by
  intro n
  induction n with
  | zero => intro v1 S h; cases h
  | succ n ih =>
    intro v1 S h
    unfold f_X8_begin_97 at h
    refine aw_iload_n (pc := 97) hX dX8_begin_97 rfl 1 rfl ?_
    refine aw_iconst (v := (2 : Int32)) (pc := 98) hX dX8_begin_98 (by decide) ?_
    refine aw_icmp_ge (pc := 99) hX (tgt := 122) dX8_begin_99 (by decide) (fun c99 => ?_) (fun c99 => ?_)
    · rw [if_pos c99] at h
      cases h
      exact aw_vret hX hQ dX8_begin_122
    · rw [if_neg c99] at h
      refine aw_aload_n (pc := 102) hX dX8_begin_102 rfl 0 rfl ?_
      refine gf_X8_38 (pc := 103) hX hw.1 rfl dX8_begin_103 ?_
      refine aw_iload_n (pc := 106) hX dX8_begin_106 rfl 1 rfl ?_
      refine aw_iconst (v := (0 : Int32)) (pc := 107) hX dX8_begin_107 (by decide) ?_
      obtain ⟨S108, hS108, h⟩ := ob h
      refine aw_iast (pc := 108) hX hw.2.2.2.2.2.1 hS108 dX8_begin_108 ?_
      refine aw_aload_n (pc := 109) hX dX8_begin_109 rfl 0 rfl ?_
      refine gf_X8_41 (pc := 110) hX hw.1 rfl dX8_begin_110 ?_
      refine aw_iload_n (pc := 113) hX dX8_begin_113 rfl 1 rfl ?_
      refine aw_iconst (v := (0 : Int32)) (pc := 114) hX dX8_begin_114 (by decide) ?_
      obtain ⟨S115, hS115, h⟩ := ob h
      refine aw_iast (pc := 115) hX hw.2.2.2.2.2.2.1 hS115 dX8_begin_115 ?_
      refine aw_iinc (v := (v1 + 1)) (ls' := [(1, .int (v1 + 1)), (0, .ref w)]) (pc := 116) hX dX8_begin_116 (pos := 1) rfl (by first | rfl | decide) (by decide) rfl ?_
      refine aw_goto (tgt := 97) (pc := 119) hX dX8_begin_119 (by decide) ?_
      refine aw_sub (ls' := [(0, .ref w), (1, .int (v1 + 1))]) [1, 0] rfl ?_
      exact ih (v1 + 1) S115 h

set_option maxHeartbeats 4000000 in
set_option maxRecDepth 100000 in
theorem c_X8_begin_69 {X : XT} {loc : Nat → Nat} {sk : Skel} {w : Nat} {Sf : Mem} (hX : AC X loc RX8 cX8_begin none 2 1 0 0) (hQ : RetV X sk loc 0 0 Sf) (hw : IsW sk w) (hT : IsT sk 31) : ∀ (n : Nat) (v1 : Int32) (S : Mem), f_X8_begin_69 w n v1 S = some Sf → AW X sk loc 0 0 69 [(0, .ref w), (1, .int v1)] [] S := by
  intro n
  induction n with
  | zero => intro v1 S h; cases h
  | succ n ih =>
    intro v1 S h
    unfold f_X8_begin_69 at h
    refine aw_iload_n (pc := 69) hX dX8_begin_69 rfl 1 rfl ?_
    refine aw_bipush (v := (10 : Int32)) (pc := 70) hX dX8_begin_70 (by decide) ?_
    refine aw_icmp_ge (pc := 72) hX (tgt := 95) dX8_begin_72 (by decide) (fun c72 => ?_) (fun c72 => ?_)
    · rw [if_pos c72] at h
      refine aw_iconst (v := (0 : Int32)) (pc := 95) hX dX8_begin_95 (by decide) ?_
      refine aw_istore_n (ls' := [(1, .int (0 : Int32)), (0, .ref w)]) (pc := 96) hX dX8_begin_96 rfl (by decide) rfl ?_
      refine aw_sub (ls' := [(0, .ref w), (1, .int (0 : Int32))]) [1, 0] rfl ?_
      exact c_X8_begin_97 hX hQ hw hT FU (0 : Int32) S h
    · rw [if_neg c72] at h
      refine aw_aload_n (pc := 75) hX dX8_begin_75 rfl 0 rfl ?_
      refine gf_X8_29 (pc := 76) hX hw.1 rfl dX8_begin_76 ?_
      refine aw_iload_n (pc := 79) hX dX8_begin_79 rfl 1 rfl ?_
      refine aw_iconst (v := (0 : Int32)) (pc := 80) hX dX8_begin_80 (by decide) ?_
      obtain ⟨S81, hS81, h⟩ := ob h
      refine aw_iast (pc := 81) hX hw.2.2.1 hS81 dX8_begin_81 ?_
      refine aw_aload_n (pc := 82) hX dX8_begin_82 rfl 0 rfl ?_
      refine gf_X8_32 (pc := 83) hX hw.1 rfl dX8_begin_83 ?_
      refine aw_iload_n (pc := 86) hX dX8_begin_86 rfl 1 rfl ?_
      refine aw_iconst (v := (0 : Int32)) (pc := 87) hX dX8_begin_87 (by decide) ?_
      obtain ⟨S88, hS88, h⟩ := ob h
      refine aw_iast (pc := 88) hX hw.2.2.2.1 hS88 dX8_begin_88 ?_
      refine aw_iinc (v := (v1 + 1)) (ls' := [(1, .int (v1 + 1)), (0, .ref w)]) (pc := 89) hX dX8_begin_89 (pos := 1) rfl (by first | rfl | decide) (by decide) rfl ?_
      refine aw_goto (tgt := 69) (pc := 92) hX dX8_begin_92 (by decide) ?_
      refine aw_sub (ls' := [(0, .ref w), (1, .int (v1 + 1))]) [1, 0] rfl ?_
      exact ih (v1 + 1) S88 h

set_option maxHeartbeats 4000000 in
set_option maxRecDepth 100000 in
theorem c_X8_begin {sk : Skel} {w : Nat} {S : Mem} {Sf : Mem} (hw : IsW sk w) (hT : IsT sk 31) (h : f_X8_begin w S = some Sf) : MetV yX8_begin cX8_begin 2 none 1 [.ref w] sk S Sf := by
  refine MetV.intro (by decide +kernel) (Nat.le_of_ble_eq_true rfl) (fun X loc hX hQ => ?_)
  unfold f_X8_begin at h
  show AW X sk loc 0 0 0 [(0, .ref w)] [] S
  refine aw_aload_n (pc := 0) hX dX8_begin_0 rfl 0 rfl ?_
  refine aw_iconst (v := (0 : Int32)) (pc := 1) hX dX8_begin_1 (by decide) ?_
  refine pf_X8_9 (pc := 2) hX hw.1 rfl dX8_begin_2 ?_
  obtain ⟨S2, eS2, h⟩ := on h
  refine aw_S eS2 ?_
  refine aw_aload_n (pc := 5) hX dX8_begin_5 rfl 0 rfl ?_
  refine aw_iconst (v := (1 : Int32)) (pc := 6) hX dX8_begin_6 (by decide) ?_
  refine aw_aload_n (pc := 7) hX dX8_begin_7 rfl 0 rfl ?_
  refine gf_X8_50 (pc := 8) hX hw.1 rfl dX8_begin_8 ?_
  refine gf_X8_54 (pc := 11) hX hT.1 rfl dX8_begin_11 ?_
  refine aw_ishl (pc := 14) hX dX8_begin_14 ?_
  refine aw_iconst (v := (1 : Int32)) (pc := 15) hX dX8_begin_15 (by decide) ?_
  refine aw_isub (pc := 16) hX dX8_begin_16 ?_
  refine pf_X8_15 (pc := 17) hX hw.1 rfl dX8_begin_17 ?_
  obtain ⟨S17, eS17, h⟩ := on h
  refine aw_S eS17 ?_
  refine aw_aload_n (pc := 20) hX dX8_begin_20 rfl 0 rfl ?_
  refine aw_iconst (v := (0 : Int32)) (pc := 21) hX dX8_begin_21 (by decide) ?_
  refine pf_X8_18 (pc := 22) hX hw.1 rfl dX8_begin_22 ?_
  obtain ⟨S22, eS22, h⟩ := on h
  refine aw_S eS22 ?_
  refine aw_aload_n (pc := 25) hX dX8_begin_25 rfl 0 rfl ?_
  refine aw_aload_n (pc := 26) hX dX8_begin_26 rfl 0 rfl ?_
  refine gf_X8_50 (pc := 27) hX hw.1 rfl dX8_begin_27 ?_
  refine gf_X8_59 (pc := 30) hX hT.1 rfl dX8_begin_30 ?_
  refine aw_iconst (v := (3 : Int32)) (pc := 33) hX dX8_begin_33 (by decide) ?_
  obtain ⟨x34, hx34, h⟩ := ob h
  refine aw_iald (pc := 34) hX hT.2.2.2.2.2.2.2.2.2.2.1 hx34 dX8_begin_34 ?_
  refine aw_i2l (pc := 35) hX dX8_begin_35 ?_
  refine pf_X8_21 (pc := 36) hX hw.1 rfl dX8_begin_36 ?_
  obtain ⟨S36, eS36, h⟩ := on h
  refine aw_S eS36 ?_
  refine aw_aload_n (pc := 39) hX dX8_begin_39 rfl 0 rfl ?_
  refine gf_X8_50 (pc := 40) hX hw.1 rfl dX8_begin_40 ?_
  refine gf_X8_62 (pc := 43) hX hT.1 rfl dX8_begin_43 ?_
  refine aw_aload_n (pc := 46) hX dX8_begin_46 rfl 0 rfl ?_
  refine gf_X8_25 (pc := 47) hX hw.1 rfl dX8_begin_47 ?_
  obtain ⟨S50, hr50, h⟩ := ob h
  refine aw_cSNV (pc := 50) (host := "DollTruce") (As := [.ref 36, .ref (w + 1)]) (rest := []) hX (c_X9_copy (sk := sk) hT.2.2.2.2.2.1 hw.2.1 hr50) ok_X9_copy (by decide) st_X9_copy rfl (by decide) (Nat.le_of_ble_eq_true rfl) rfl dX8_begin_50 (Nat.le_refl 0) (Nat.le_refl 0) ?_
  refine aw_aload_n (pc := 53) hX dX8_begin_53 rfl 0 rfl ?_
  refine gf_X8_50 (pc := 54) hX hw.1 rfl dX8_begin_54 ?_
  refine gf_X8_69 (pc := 57) hX hT.1 rfl dX8_begin_57 ?_
  refine aw_aload_n (pc := 60) hX dX8_begin_60 rfl 0 rfl ?_
  refine gf_X8_35 (pc := 61) hX hw.1 rfl dX8_begin_61 ?_
  obtain ⟨S64, hr64, h⟩ := ob h
  refine aw_cSNV (pc := 64) (host := "DollTruce") (As := [.ref 34, .ref (w + 4)]) (rest := []) hX (c_X9_copy (sk := sk) hT.2.2.2.1 hw.2.2.2.2.1 hr64) ok_X9_copy (by decide) st_X9_copy rfl (by decide) (Nat.le_of_ble_eq_true rfl) rfl dX8_begin_64 (Nat.le_refl 0) (Nat.le_refl 0) ?_
  refine aw_iconst (v := (0 : Int32)) (pc := 67) hX dX8_begin_67 (by decide) ?_
  refine aw_istore_n (ls' := [(1, .int (0 : Int32)), (0, .ref w)]) (pc := 68) hX dX8_begin_68 rfl (by decide) rfl ?_
  refine aw_sub (ls' := [(0, .ref w), (1, .int (0 : Int32))]) [1, 0] rfl ?_
  exact c_X8_begin_69 hX hQ hw hT FU (0 : Int32) S64 h

def f_X8_breachesOfBoth (w : Nat) (S : Mem) : Option (Int32 × Mem) :=
  (rd S (w + 6) 2 (0 : Int32)).bind fun x5 =>
  (rd S (w + 6) 2 (1 : Int32)).bind fun x11 =>
  some ((x5 + x11), S)

set_option maxHeartbeats 4000000 in
set_option maxRecDepth 100000 in
theorem c_X8_breachesOfBoth {sk : Skel} {w : Nat} {S : Mem} {r : Int32} {Sf : Mem} (hw : IsW sk w) (hT : IsT sk 31) (h : f_X8_breachesOfBoth w S = some (r, Sf)) : MetI yX8_breachesOfBoth cX8_breachesOfBoth 1 (some .int) 0 [.ref w] sk S r Sf := by
  refine MetI.intro (by decide +kernel) (Nat.le_of_ble_eq_true rfl) (fun X loc hX hQ => ?_)
  unfold f_X8_breachesOfBoth at h
  show AW X sk loc 0 0 0 [(0, .ref w)] [] S
  refine aw_aload_n (pc := 0) hX dX8_breachesOfBoth_0 rfl 0 rfl ?_
  refine gf_X8_41 (pc := 1) hX hw.1 rfl dX8_breachesOfBoth_1 ?_
  refine aw_iconst (v := (0 : Int32)) (pc := 4) hX dX8_breachesOfBoth_4 (by decide) ?_
  obtain ⟨x5, hx5, h⟩ := ob h
  refine aw_iald (pc := 5) hX hw.2.2.2.2.2.2.1 hx5 dX8_breachesOfBoth_5 ?_
  refine aw_aload_n (pc := 6) hX dX8_breachesOfBoth_6 rfl 0 rfl ?_
  refine gf_X8_41 (pc := 7) hX hw.1 rfl dX8_breachesOfBoth_7 ?_
  refine aw_iconst (v := (1 : Int32)) (pc := 10) hX dX8_breachesOfBoth_10 (by decide) ?_
  obtain ⟨x11, hx11, h⟩ := ob h
  refine aw_iald (pc := 11) hX hw.2.2.2.2.2.2.1 hx11 dX8_breachesOfBoth_11 ?_
  refine aw_iadd (pc := 12) hX dX8_breachesOfBoth_12 ?_
  cases h
  exact aw_iret hX hQ dX8_breachesOfBoth_13

def f_X8_careForAll_2 (w : Nat) : Nat → Int32 → Int32 → Mem → Option Mem
  | 0, _, _, _ => none
  | n + 1, v1, v2, S =>
  if (6 : Int32) ≤ v2 then
  (some S)
  else
  ((wr S (w + 4) 6 v2 v1).bind fun S14 =>
  f_X8_careForAll_2 w n v1 (v2 + 1) S14)

def f_X8_careForAll (w : Nat) (v1 : Int32) (S : Mem) : Option Mem :=
  f_X8_careForAll_2 w FU v1 (0 : Int32) S

set_option maxHeartbeats 4000000 in
set_option maxRecDepth 100000 in
theorem c_X8_careForAll_2 {X : XT} {loc : Nat → Nat} {sk : Skel} {w : Nat} {Sf : Mem} (hX : AC X loc RX8 cX8_careForAll none 3 0 0 0) (hQ : RetV X sk loc 0 0 Sf) (hw : IsW sk w) (hT : IsT sk 31) : ∀ (n : Nat) (v1 : Int32) (v2 : Int32) (S : Mem), f_X8_careForAll_2 w n v1 v2 S = some Sf → AW X sk loc 0 0 2 [(0, .ref w), (1, .int v1), (2, .int v2)] [] S := by
  intro n
  induction n with
  | zero => intro v1 v2 S h; cases h
  | succ n ih =>
    intro v1 v2 S h
    unfold f_X8_careForAll_2 at h
    refine aw_iload_n (pc := 2) hX dX8_careForAll_2 rfl 2 rfl ?_
    refine aw_bipush (v := (6 : Int32)) (pc := 3) hX dX8_careForAll_3 (by decide) ?_
    refine aw_icmp_ge (pc := 5) hX (tgt := 21) dX8_careForAll_5 (by decide) (fun c5 => ?_) (fun c5 => ?_)
    · rw [if_pos c5] at h
      cases h
      exact aw_vret hX hQ dX8_careForAll_21
    · rw [if_neg c5] at h
      refine aw_aload_n (pc := 8) hX dX8_careForAll_8 rfl 0 rfl ?_
      refine gf_X8_35 (pc := 9) hX hw.1 rfl dX8_careForAll_9 ?_
      refine aw_iload_n (pc := 12) hX dX8_careForAll_12 rfl 2 rfl ?_
      refine aw_iload_n (pc := 13) hX dX8_careForAll_13 rfl 1 rfl ?_
      obtain ⟨S14, hS14, h⟩ := ob h
      refine aw_iast (pc := 14) hX hw.2.2.2.2.1 hS14 dX8_careForAll_14 ?_
      refine aw_iinc (v := (v2 + 1)) (ls' := [(2, .int (v2 + 1)), (0, .ref w), (1, .int v1)]) (pc := 15) hX dX8_careForAll_15 (pos := 2) rfl (by first | rfl | decide) (by decide) rfl ?_
      refine aw_goto (tgt := 2) (pc := 18) hX dX8_careForAll_18 (by decide) ?_
      refine aw_sub (ls' := [(0, .ref w), (1, .int v1), (2, .int (v2 + 1))]) [1, 2, 0] rfl ?_
      exact ih v1 (v2 + 1) S14 h

set_option maxHeartbeats 4000000 in
set_option maxRecDepth 100000 in
theorem c_X8_careForAll {sk : Skel} {w : Nat} {v1 : Int32} {S : Mem} {Sf : Mem} (hw : IsW sk w) (hT : IsT sk 31) (h : f_X8_careForAll w v1 S = some Sf) : MetV yX8_careForAll cX8_careForAll 3 none 0 [.ref w, .int v1] sk S Sf := by
  refine MetV.intro (by decide +kernel) (Nat.le_of_ble_eq_true rfl) (fun X loc hX hQ => ?_)
  unfold f_X8_careForAll at h
  show AW X sk loc 0 0 0 [(0, .ref w), (1, .int v1)] [] S
  refine aw_iconst (v := (0 : Int32)) (pc := 0) hX dX8_careForAll_0 (by decide) ?_
  refine aw_istore_n (ls' := [(2, .int (0 : Int32)), (0, .ref w), (1, .int v1)]) (pc := 1) hX dX8_careForAll_1 rfl (by decide) rfl ?_
  refine aw_sub (ls' := [(0, .ref w), (1, .int v1), (2, .int (0 : Int32))]) [1, 2, 0] rfl ?_
  exact c_X8_careForAll_2 hX hQ hw hT FU v1 (0 : Int32) S h

def f_X8_heldBy_4 (w : Nat) : Nat → Int32 → Int32 → Int32 → Mem → Option (Int32 × Mem)
  | 0, _, _, _, _ => none
  | n + 1, v1, v2, v3, S =>
  if (S.1 31 1) ≤ v3 then
  (some (v2, S))
  else
  (bnd (f_X8_isHeld w v3 S) fun r17 S17 =>
  if r17 = 0 then
  (f_X8_heldBy_4 w n v1 v2 (v3 + 1) S17)
  else
  ((rd S17 (w + 1) 10 v3).bind fun x28 =>
  if x28 = v1 then
  (f_X8_heldBy_4 w n v1 (v2 + 1) (v3 + 1) S17)
  else
  (f_X8_heldBy_4 w n v1 v2 (v3 + 1) S17)))

def f_X8_heldBy (w : Nat) (v1 : Int32) (S : Mem) : Option (Int32 × Mem) :=
  f_X8_heldBy_4 w FU v1 (0 : Int32) (0 : Int32) S

set_option maxHeartbeats 4000000 in
set_option maxRecDepth 100000 in
theorem c_X8_heldBy_4 {X : XT} {loc : Nat → Nat} {sk : Skel} {w : Nat} {r : Int32} {Sf : Mem} (hX : AC X loc RX8 cX8_heldBy (some .int) 4 1 0 0) (hQ : RetI X sk loc 0 0 r Sf) (hw : IsW sk w) (hT : IsT sk 31) : ∀ (n : Nat) (v1 : Int32) (v2 : Int32) (v3 : Int32) (S : Mem), f_X8_heldBy_4 w n v1 v2 v3 S = some (r, Sf) → AW X sk loc 0 0 4 [(0, .ref w), (1, .int v1), (2, .int v2), (3, .int v3)] [] S := by
  intro n
  induction n with
  | zero => intro v1 v2 v3 S h; cases h
  | succ n ih =>
    intro v1 v2 v3 S h
    unfold f_X8_heldBy_4 at h
    refine aw_iload_n (pc := 4) hX dX8_heldBy_4 rfl 3 rfl ?_
    refine aw_aload_n (pc := 5) hX dX8_heldBy_5 rfl 0 rfl ?_
    refine gf_X8_50 (pc := 6) hX hw.1 rfl dX8_heldBy_6 ?_
    refine gf_X8_54 (pc := 9) hX hT.1 rfl dX8_heldBy_9 ?_
    refine aw_icmp_ge (pc := 12) hX (tgt := 42) dX8_heldBy_12 (by decide) (fun c12 => ?_) (fun c12 => ?_)
    · rw [if_pos c12] at h
      refine aw_iload_n (pc := 42) hX dX8_heldBy_42 rfl 2 rfl ?_
      cases h
      exact aw_iret hX hQ dX8_heldBy_43
    · rw [if_neg c12] at h
      refine aw_aload_n (pc := 15) hX dX8_heldBy_15 rfl 0 rfl ?_
      refine aw_iload_n (pc := 16) hX dX8_heldBy_16 rfl 3 rfl ?_
      obtain ⟨r17, S17, hr17, h⟩ := ob2 h
      refine aw_cVI (pc := 17) (As := [.int v3]) (rest := []) hX (c_X8_isHeld (sk := sk) hw hT hr17) ok_X8_isHeld kw_3_175 im_X8_isHeld se_X8_isHeld rfl hw.1 rfl (by decide) (Nat.le_of_ble_eq_true rfl) rfl dX8_heldBy_17 (Nat.le_refl 0) (Nat.le_refl 0) ?_
      refine aw_if_eq (pc := 20) hX (tgt := 36) dX8_heldBy_20 (by decide) (fun c20 => ?_) (fun c20 => ?_)
      · rw [if_pos c20] at h
        refine aw_iinc (v := (v3 + 1)) (ls' := [(3, .int (v3 + 1)), (0, .ref w), (1, .int v1), (2, .int v2)]) (pc := 36) hX dX8_heldBy_36 (pos := 3) rfl (by first | rfl | decide) (by decide) rfl ?_
        refine aw_goto (tgt := 4) (pc := 39) hX dX8_heldBy_39 (by decide) ?_
        refine aw_sub (ls' := [(0, .ref w), (1, .int v1), (2, .int v2), (3, .int (v3 + 1))]) [1, 2, 3, 0] rfl ?_
        exact ih v1 v2 (v3 + 1) S17 h
      · rw [if_neg c20] at h
        refine aw_aload_n (pc := 23) hX dX8_heldBy_23 rfl 0 rfl ?_
        refine gf_X8_25 (pc := 24) hX hw.1 rfl dX8_heldBy_24 ?_
        refine aw_iload_n (pc := 27) hX dX8_heldBy_27 rfl 3 rfl ?_
        obtain ⟨x28, hx28, h⟩ := ob h
        refine aw_iald (pc := 28) hX hw.2.1 hx28 dX8_heldBy_28 ?_
        refine aw_iload_n (pc := 29) hX dX8_heldBy_29 rfl 1 rfl ?_
        refine aw_icmp_ne (pc := 30) hX (tgt := 36) dX8_heldBy_30 (by decide) (fun c30 => ?_) (fun c30 => ?_)
        · rw [if_neg c30] at h
          refine aw_iinc (v := (v3 + 1)) (ls' := [(3, .int (v3 + 1)), (0, .ref w), (1, .int v1), (2, .int v2)]) (pc := 36) hX dX8_heldBy_36 (pos := 3) rfl (by first | rfl | decide) (by decide) rfl ?_
          refine aw_goto (tgt := 4) (pc := 39) hX dX8_heldBy_39 (by decide) ?_
          refine aw_sub (ls' := [(0, .ref w), (1, .int v1), (2, .int v2), (3, .int (v3 + 1))]) [1, 2, 3, 0] rfl ?_
          exact ih v1 v2 (v3 + 1) S17 h
        · rw [if_pos c30] at h
          refine aw_iinc (v := (v2 + 1)) (ls' := [(2, .int (v2 + 1)), (0, .ref w), (1, .int v1), (3, .int v3)]) (pc := 33) hX dX8_heldBy_33 (pos := 2) rfl (by first | rfl | decide) (by decide) rfl ?_
          refine aw_iinc (v := (v3 + 1)) (ls' := [(3, .int (v3 + 1)), (2, .int (v2 + 1)), (0, .ref w), (1, .int v1)]) (pc := 36) hX dX8_heldBy_36 (pos := 3) rfl (by first | rfl | decide) (by decide) rfl ?_
          refine aw_goto (tgt := 4) (pc := 39) hX dX8_heldBy_39 (by decide) ?_
          refine aw_sub (ls' := [(0, .ref w), (1, .int v1), (2, .int (v2 + 1)), (3, .int (v3 + 1))]) [2, 3, 1, 0] rfl ?_
          exact ih v1 (v2 + 1) (v3 + 1) S17 h

set_option maxHeartbeats 4000000 in
set_option maxRecDepth 100000 in
theorem c_X8_heldBy {sk : Skel} {w : Nat} {v1 : Int32} {S : Mem} {r : Int32} {Sf : Mem} (hw : IsW sk w) (hT : IsT sk 31) (h : f_X8_heldBy w v1 S = some (r, Sf)) : MetI yX8_heldBy cX8_heldBy 4 (some .int) 1 [.ref w, .int v1] sk S r Sf := by
  refine MetI.intro (by decide +kernel) (Nat.le_of_ble_eq_true rfl) (fun X loc hX hQ => ?_)
  unfold f_X8_heldBy at h
  show AW X sk loc 0 0 0 [(0, .ref w), (1, .int v1)] [] S
  refine aw_iconst (v := (0 : Int32)) (pc := 0) hX dX8_heldBy_0 (by decide) ?_
  refine aw_istore_n (ls' := [(2, .int (0 : Int32)), (0, .ref w), (1, .int v1)]) (pc := 1) hX dX8_heldBy_1 rfl (by decide) rfl ?_
  refine aw_iconst (v := (0 : Int32)) (pc := 2) hX dX8_heldBy_2 (by decide) ?_
  refine aw_istore_n (ls' := [(3, .int (0 : Int32)), (2, .int (0 : Int32)), (0, .ref w), (1, .int v1)]) (pc := 3) hX dX8_heldBy_3 rfl (by decide) rfl ?_
  refine aw_sub (ls' := [(0, .ref w), (1, .int v1), (2, .int (0 : Int32)), (3, .int (0 : Int32))]) [2, 3, 1, 0] rfl ?_
  exact c_X8_heldBy_4 hX hQ hw hT FU v1 (0 : Int32) (0 : Int32) S h

def f_X8_hurtOfAll_4 (w : Nat) : Nat → Int32 → Int32 → Mem → Option (Int32 × Mem)
  | 0, _, _, _ => none
  | n + 1, v1, v2, S =>
  if (S.1 31 1) ≤ v2 then
  (some (v1, S))
  else
  ((rd S (w + 2) 10 v2).bind fun x21 =>
  f_X8_hurtOfAll_4 w n (v1 + x21) (v2 + 1) S)

def f_X8_hurtOfAll (w : Nat) (S : Mem) : Option (Int32 × Mem) :=
  f_X8_hurtOfAll_4 w FU (0 : Int32) (0 : Int32) S

set_option maxHeartbeats 4000000 in
set_option maxRecDepth 100000 in
theorem c_X8_hurtOfAll_4 {X : XT} {loc : Nat → Nat} {sk : Skel} {w : Nat} {r : Int32} {Sf : Mem} (hX : AC X loc RX8 cX8_hurtOfAll (some .int) 3 0 0 0) (hQ : RetI X sk loc 0 0 r Sf) (hw : IsW sk w) (hT : IsT sk 31) : ∀ (n : Nat) (v1 : Int32) (v2 : Int32) (S : Mem), f_X8_hurtOfAll_4 w n v1 v2 S = some (r, Sf) → AW X sk loc 0 0 4 [(0, .ref w), (1, .int v1), (2, .int v2)] [] S := by
  intro n
  induction n with
  | zero => intro v1 v2 S h; cases h
  | succ n ih =>
    intro v1 v2 S h
    unfold f_X8_hurtOfAll_4 at h
    refine aw_iload_n (pc := 4) hX dX8_hurtOfAll_4 rfl 2 rfl ?_
    refine aw_aload_n (pc := 5) hX dX8_hurtOfAll_5 rfl 0 rfl ?_
    refine gf_X8_50 (pc := 6) hX hw.1 rfl dX8_hurtOfAll_6 ?_
    refine gf_X8_54 (pc := 9) hX hT.1 rfl dX8_hurtOfAll_9 ?_
    refine aw_icmp_ge (pc := 12) hX (tgt := 30) dX8_hurtOfAll_12 (by decide) (fun c12 => ?_) (fun c12 => ?_)
    · rw [if_pos c12] at h
      refine aw_iload_n (pc := 30) hX dX8_hurtOfAll_30 rfl 1 rfl ?_
      cases h
      exact aw_iret hX hQ dX8_hurtOfAll_31
    · rw [if_neg c12] at h
      refine aw_iload_n (pc := 15) hX dX8_hurtOfAll_15 rfl 1 rfl ?_
      refine aw_aload_n (pc := 16) hX dX8_hurtOfAll_16 rfl 0 rfl ?_
      refine gf_X8_29 (pc := 17) hX hw.1 rfl dX8_hurtOfAll_17 ?_
      refine aw_iload_n (pc := 20) hX dX8_hurtOfAll_20 rfl 2 rfl ?_
      obtain ⟨x21, hx21, h⟩ := ob h
      refine aw_iald (pc := 21) hX hw.2.2.1 hx21 dX8_hurtOfAll_21 ?_
      refine aw_iadd (pc := 22) hX dX8_hurtOfAll_22 ?_
      refine aw_istore_n (ls' := [(1, .int (v1 + x21)), (0, .ref w), (2, .int v2)]) (pc := 23) hX dX8_hurtOfAll_23 rfl (by decide) rfl ?_
      refine aw_iinc (v := (v2 + 1)) (ls' := [(2, .int (v2 + 1)), (1, .int (v1 + x21)), (0, .ref w)]) (pc := 24) hX dX8_hurtOfAll_24 (pos := 2) rfl (by first | rfl | decide) (by decide) rfl ?_
      refine aw_goto (tgt := 4) (pc := 27) hX dX8_hurtOfAll_27 (by decide) ?_
      refine aw_sub (ls' := [(0, .ref w), (1, .int (v1 + x21)), (2, .int (v2 + 1))]) [2, 1, 0] rfl ?_
      exact ih (v1 + x21) (v2 + 1) S h

set_option maxHeartbeats 4000000 in
set_option maxRecDepth 100000 in
theorem c_X8_hurtOfAll {sk : Skel} {w : Nat} {S : Mem} {r : Int32} {Sf : Mem} (hw : IsW sk w) (hT : IsT sk 31) (h : f_X8_hurtOfAll w S = some (r, Sf)) : MetI yX8_hurtOfAll cX8_hurtOfAll 3 (some .int) 0 [.ref w] sk S r Sf := by
  refine MetI.intro (by decide +kernel) (Nat.le_of_ble_eq_true rfl) (fun X loc hX hQ => ?_)
  unfold f_X8_hurtOfAll at h
  show AW X sk loc 0 0 0 [(0, .ref w)] [] S
  refine aw_iconst (v := (0 : Int32)) (pc := 0) hX dX8_hurtOfAll_0 (by decide) ?_
  refine aw_istore_n (ls' := [(1, .int (0 : Int32)), (0, .ref w)]) (pc := 1) hX dX8_hurtOfAll_1 rfl (by decide) rfl ?_
  refine aw_iconst (v := (0 : Int32)) (pc := 2) hX dX8_hurtOfAll_2 (by decide) ?_
  refine aw_istore_n (ls' := [(2, .int (0 : Int32)), (1, .int (0 : Int32)), (0, .ref w)]) (pc := 3) hX dX8_hurtOfAll_3 rfl (by decide) rfl ?_
  refine aw_sub (ls' := [(0, .ref w), (1, .int (0 : Int32)), (2, .int (0 : Int32))]) [2, 1, 0] rfl ?_
  exact c_X8_hurtOfAll_4 hX hQ hw hT FU (0 : Int32) (0 : Int32) S h

def f_X8_ownHeld (w : Nat) (v1 : Int32) (S : Mem) : Option (Int32 × Mem) :=
  (rd S 40 2 v1).bind fun x12 =>
  some (((S.1 w 1) &&& x12), S)

set_option maxHeartbeats 4000000 in
set_option maxRecDepth 100000 in
theorem c_X8_ownHeld {sk : Skel} {w : Nat} {v1 : Int32} {S : Mem} {r : Int32} {Sf : Mem} (hw : IsW sk w) (hT : IsT sk 31) (h : f_X8_ownHeld w v1 S = some (r, Sf)) : MetI yX8_ownHeld cX8_ownHeld 2 (some .int) 0 [.ref w, .int v1] sk S r Sf := by
  refine MetI.intro (by decide +kernel) (Nat.le_of_ble_eq_true rfl) (fun X loc hX hQ => ?_)
  unfold f_X8_ownHeld at h
  show AW X sk loc 0 0 0 [(0, .ref w), (1, .int v1)] [] S
  refine aw_aload_n (pc := 0) hX dX8_ownHeld_0 rfl 0 rfl ?_
  refine gf_X8_15 (pc := 1) hX hw.1 rfl dX8_ownHeld_1 ?_
  refine aw_aload_n (pc := 4) hX dX8_ownHeld_4 rfl 0 rfl ?_
  refine gf_X8_50 (pc := 5) hX hw.1 rfl dX8_ownHeld_5 ?_
  refine gf_X8_136 (pc := 8) hX hT.1 rfl dX8_ownHeld_8 ?_
  refine aw_iload_n (pc := 11) hX dX8_ownHeld_11 rfl 1 rfl ?_
  obtain ⟨x12, hx12, h⟩ := ob h
  refine aw_iald (pc := 12) hX hT.2.2.2.2.2.2.2.2.2.1 hx12 dX8_ownHeld_12 ?_
  refine aw_iand (pc := 13) hX dX8_ownHeld_13 ?_
  cases h
  exact aw_iret hX hQ dX8_ownHeld_14

def f_X8_sendHome (w : Nat) (v1 : Int32) (S : Mem) : Option Mem :=
  nxt (sI S w 1 ((S.1 w 1) &&& (((1 : Int32) <<< (v1 &&& 31)) ^^^ (-1 : Int32)))) fun S11 =>
  some S11

set_option maxHeartbeats 4000000 in
set_option maxRecDepth 100000 in
theorem c_X8_sendHome {sk : Skel} {w : Nat} {v1 : Int32} {S : Mem} {Sf : Mem} (hw : IsW sk w) (hT : IsT sk 31) (h : f_X8_sendHome w v1 S = some Sf) : MetV yX8_sendHome cX8_sendHome 2 none 0 [.ref w, .int v1] sk S Sf := by
  refine MetV.intro (by decide +kernel) (Nat.le_of_ble_eq_true rfl) (fun X loc hX hQ => ?_)
  unfold f_X8_sendHome at h
  show AW X sk loc 0 0 0 [(0, .ref w), (1, .int v1)] [] S
  refine aw_aload_n (pc := 0) hX dX8_sendHome_0 rfl 0 rfl ?_
  refine aw_dup (pc := 1) hX dX8_sendHome_1 rfl ?_
  refine gf_X8_15 (pc := 2) hX hw.1 rfl dX8_sendHome_2 ?_
  refine aw_iconst (v := (1 : Int32)) (pc := 5) hX dX8_sendHome_5 (by decide) ?_
  refine aw_iload_n (pc := 6) hX dX8_sendHome_6 rfl 1 rfl ?_
  refine aw_ishl (pc := 7) hX dX8_sendHome_7 ?_
  refine aw_iconst (v := (-1 : Int32)) (pc := 8) hX dX8_sendHome_8 (by decide) ?_
  refine aw_ixor (pc := 9) hX dX8_sendHome_9 ?_
  refine aw_iand (pc := 10) hX dX8_sendHome_10 ?_
  refine pf_X8_15 (pc := 11) hX hw.1 rfl dX8_sendHome_11 ?_
  obtain ⟨S11, eS11, h⟩ := on h
  refine aw_S eS11 ?_
  cases h
  exact aw_vret hX hQ dX8_sendHome_14

