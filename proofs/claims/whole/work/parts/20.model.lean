def f_X10_breachesBoth (v1 : Int32) (S : Mem) : Option (Int32 × Mem) :=
  (rd S 20 46 ((2 : Int32) * v1)).bind fun x7 =>
  (rd S 20 46 (((2 : Int32) * v1) + (1 : Int32))).bind fun x17 =>
  some ((x7 + x17), S)

set_option maxHeartbeats 4000000 in
set_option maxRecDepth 100000 in
theorem c_X10_breachesBoth {v1 : Int32} {S : Mem} {r : Int32} {Sf : Mem} (h : f_X10_breachesBoth v1 S = some (r, Sf)) : MetI yX10_breachesBoth cX10_breachesBoth 2 (some .int) 0 [.ref 0, .int v1] SKM S r Sf := by
  refine MetI.intro (by decide +kernel) (Nat.le_of_ble_eq_true rfl) (fun X loc hX hQ => ?_)
  unfold f_X10_breachesBoth at h
  show AW X SKM loc 0 0 0 [(0, .ref 0), (1, .int v1)] [] S
  refine aw_aload_n (pc := 0) hX dX10_breachesBoth_0 rfl 0 rfl ?_
  refine gf_X10_72 (pc := 1) hX km0 rfl dX10_breachesBoth_1 ?_
  refine aw_iconst (v := (2 : Int32)) (pc := 4) hX dX10_breachesBoth_4 (by decide) ?_
  refine aw_iload_n (pc := 5) hX dX10_breachesBoth_5 rfl 1 rfl ?_
  refine aw_imul (pc := 6) hX dX10_breachesBoth_6 ?_
  obtain ⟨x7, hx7, h⟩ := ob h
  refine aw_iald (pc := 7) hX km20 hx7 dX10_breachesBoth_7 ?_
  refine aw_aload_n (pc := 8) hX dX10_breachesBoth_8 rfl 0 rfl ?_
  refine gf_X10_72 (pc := 9) hX km0 rfl dX10_breachesBoth_9 ?_
  refine aw_iconst (v := (2 : Int32)) (pc := 12) hX dX10_breachesBoth_12 (by decide) ?_
  refine aw_iload_n (pc := 13) hX dX10_breachesBoth_13 rfl 1 rfl ?_
  refine aw_imul (pc := 14) hX dX10_breachesBoth_14 ?_
  refine aw_iconst (v := (1 : Int32)) (pc := 15) hX dX10_breachesBoth_15 (by decide) ?_
  refine aw_iadd (pc := 16) hX dX10_breachesBoth_16 ?_
  obtain ⟨x17, hx17, h⟩ := ob h
  refine aw_iald (pc := 17) hX km20 hx17 dX10_breachesBoth_17 ?_
  refine aw_iadd (pc := 18) hX dX10_breachesBoth_18 ?_
  cases h
  exact aw_iret hX hQ dX10_breachesBoth_19

def f_X10_isCity (v0 : Int32) (S : Mem) : Option (Int32 × Mem) :=
  if v0 = 0 then
  (some ((1 : Int32), S))
  else
  (if v0 = (1 : Int32) then
  (some ((1 : Int32), S))
  else
  (some ((0 : Int32), S)))

set_option maxHeartbeats 4000000 in
set_option maxRecDepth 100000 in
theorem c_X10_isCity {sk : Skel} {v0 : Int32} {S : Mem} {r : Int32} {Sf : Mem} (h : f_X10_isCity v0 S = some (r, Sf)) : MetI yX10_isCity cX10_isCity 1 (some .boolean) 0 [.int v0] sk S r Sf := by
  refine MetI.intro (by decide +kernel) (Nat.le_of_ble_eq_true rfl) (fun X loc hX hQ => ?_)
  unfold f_X10_isCity at h
  show AW X sk loc 0 0 0 [(0, .int v0)] [] S
  refine aw_iload_n (pc := 0) hX dX10_isCity_0 rfl 0 rfl ?_
  refine aw_if_eq (pc := 1) hX (tgt := 9) dX10_isCity_1 (by decide) (fun c1 => ?_) (fun c1 => ?_)
  · rw [if_pos c1] at h
    refine aw_iconst (v := (1 : Int32)) (pc := 9) hX dX10_isCity_9 (by decide) ?_
    refine aw_goto (tgt := 14) (pc := 10) hX dX10_isCity_10 (by decide) ?_
    cases h
    exact aw_zret hX hQ (by decide) dX10_isCity_14
  · rw [if_neg c1] at h
    refine aw_iload_n (pc := 4) hX dX10_isCity_4 rfl 0 rfl ?_
    refine aw_iconst (v := (1 : Int32)) (pc := 5) hX dX10_isCity_5 (by decide) ?_
    refine aw_icmp_ne (pc := 6) hX (tgt := 13) dX10_isCity_6 (by decide) (fun c6 => ?_) (fun c6 => ?_)
    · rw [if_neg c6] at h
      refine aw_iconst (v := (0 : Int32)) (pc := 13) hX dX10_isCity_13 (by decide) ?_
      cases h
      exact aw_zret hX hQ (by decide) dX10_isCity_14
    · rw [if_pos c6] at h
      refine aw_iconst (v := (1 : Int32)) (pc := 9) hX dX10_isCity_9 (by decide) ?_
      refine aw_goto (tgt := 14) (pc := 10) hX dX10_isCity_10 (by decide) ?_
      cases h
      exact aw_zret hX hQ (by decide) dX10_isCity_14

def f_X10_isDoll (v1 : Int32) (S : Mem) : Option (Int32 × Mem) :=
  if v1 < 0 then
  (some ((0 : Int32), S))
  else
  ((rd S 2 14 (1 : Int32)).bind fun x10 =>
  if x10 ≤ v1 then
  (some ((0 : Int32), S))
  else
  (some ((1 : Int32), S)))

set_option maxHeartbeats 4000000 in
set_option maxRecDepth 100000 in
theorem c_X10_isDoll {v1 : Int32} {S : Mem} {r : Int32} {Sf : Mem} (h : f_X10_isDoll v1 S = some (r, Sf)) : MetI yX10_isDoll cX10_isDoll 2 (some .boolean) 0 [.ref 0, .int v1] SKM S r Sf := by
  refine MetI.intro (by decide +kernel) (Nat.le_of_ble_eq_true rfl) (fun X loc hX hQ => ?_)
  unfold f_X10_isDoll at h
  show AW X SKM loc 0 0 0 [(0, .ref 0), (1, .int v1)] [] S
  refine aw_iload_n (pc := 0) hX dX10_isDoll_0 rfl 1 rfl ?_
  refine aw_if_lt (pc := 1) hX (tgt := 18) dX10_isDoll_1 (by decide) (fun c1 => ?_) (fun c1 => ?_)
  · rw [if_pos c1] at h
    refine aw_iconst (v := (0 : Int32)) (pc := 18) hX dX10_isDoll_18 (by decide) ?_
    cases h
    exact aw_zret hX hQ (by decide) dX10_isDoll_19
  · rw [if_neg c1] at h
    refine aw_iload_n (pc := 4) hX dX10_isDoll_4 rfl 1 rfl ?_
    refine aw_aload_n (pc := 5) hX dX10_isDoll_5 rfl 0 rfl ?_
    refine gf_X10_13 (pc := 6) hX km0 rfl dX10_isDoll_6 ?_
    refine aw_iconst (v := (1 : Int32)) (pc := 9) hX dX10_isDoll_9 (by decide) ?_
    obtain ⟨x10, hx10, h⟩ := ob h
    refine aw_iald (pc := 10) hX km2 hx10 dX10_isDoll_10 ?_
    refine aw_icmp_ge (pc := 11) hX (tgt := 18) dX10_isDoll_11 (by decide) (fun c11 => ?_) (fun c11 => ?_)
    · rw [if_pos c11] at h
      refine aw_iconst (v := (0 : Int32)) (pc := 18) hX dX10_isDoll_18 (by decide) ?_
      cases h
      exact aw_zret hX hQ (by decide) dX10_isDoll_19
    · rw [if_neg c11] at h
      refine aw_iconst (v := (1 : Int32)) (pc := 14) hX dX10_isDoll_14 (by decide) ?_
      refine aw_goto (tgt := 19) (pc := 15) hX dX10_isDoll_15 (by decide) ?_
      cases h
      exact aw_zret hX hQ (by decide) dX10_isDoll_19

def f_X10_copies_91 : Nat → Int32 → Int32 → Int32 → Mem → Option Mem
  | 0, _, _, _, _ => none
  | n + 1, v1, v2, v3, S =>
  if (10 : Int32) ≤ v3 then
  (some S)
  else
  ((rd S 21 230 (((10 : Int32) * v2) + v3)).bind fun x117 =>
  (wr S 21 230 (((10 : Int32) * v1) + v3) x117).bind fun S118 =>
  (rd S118 22 230 (((10 : Int32) * v2) + v3)).bind fun x139 =>
  (wr S118 22 230 (((10 : Int32) * v1) + v3) x139).bind fun S140 =>
  (rd S140 23 230 (((10 : Int32) * v2) + v3)).bind fun x161 =>
  (wr S140 23 230 (((10 : Int32) * v1) + v3) x161).bind fun S162 =>
  (rd S162 24 230 (((10 : Int32) * v2) + v3)).bind fun x183 =>
  (wr S162 24 230 (((10 : Int32) * v1) + v3) x183).bind fun S184 =>
  f_X10_copies_91 n v1 v2 (v3 + 1) S184)

def f_X10_copies_38 : Nat → Int32 → Int32 → Int32 → Mem → Option Mem
  | 0, _, _, _, _ => none
  | n + 1, v1, v2, v3, S =>
  if (2 : Int32) ≤ v3 then
  (f_X10_copies_91 FU v1 v2 (0 : Int32) S)
  else
  ((rd S 19 46 (((2 : Int32) * v2) + v3)).bind fun x61 =>
  (wr S 19 46 (((2 : Int32) * v1) + v3) x61).bind fun S62 =>
  (rd S62 20 46 (((2 : Int32) * v2) + v3)).bind fun x81 =>
  (wr S62 20 46 (((2 : Int32) * v1) + v3) x81).bind fun S82 =>
  f_X10_copies_38 n v1 v2 (v3 + 1) S82)

def f_X10_copies (v1 : Int32) (v2 : Int32) (S : Mem) : Option Mem :=
  (rd S 16 23 v2).bind fun x10 =>
  (wr S 16 23 v1 x10).bind fun S11 =>
  (rd S11 17 23 v2).bind fun x22 =>
  (wr S11 17 23 v1 x22).bind fun S23 =>
  (rd S23 18 23 v2).bind fun x34 =>
  (wr S23 18 23 v1 x34).bind fun S35 =>
  f_X10_copies_38 FU v1 v2 (0 : Int32) S35

set_option maxHeartbeats 4000000 in
set_option maxRecDepth 100000 in
theorem c_X10_copies_91 {X : XT} {loc : Nat → Nat} {Sf : Mem} (hX : AC X loc RX10 cX10_copies none 4 0 0 0) (hQ : RetV X SKM loc 0 0 Sf) : ∀ (n : Nat) (v1 : Int32) (v2 : Int32) (v3 : Int32) (S : Mem), f_X10_copies_91 n v1 v2 v3 S = some Sf → AW X SKM loc 0 0 91 [(0, .ref 0), (1, .int v1), (2, .int v2), (3, .int v3)] [] S := by
  intro n
  induction n with
  | zero => intro v1 v2 v3 S h; cases h
  | succ n ih =>
    intro v1 v2 v3 S h
    unfold f_X10_copies_91 at h
    refine aw_iload_n (pc := 91) hX dX10_copies_91 rfl 3 rfl ?_
    refine aw_bipush (v := (10 : Int32)) (pc := 92) hX dX10_copies_92 (by decide) ?_
    refine aw_icmp_ge (pc := 94) hX (tgt := 191) dX10_copies_94 (by decide) (fun c94 => ?_) (fun c94 => ?_)
    · rw [if_pos c94] at h
      cases h
      exact aw_vret hX hQ dX10_copies_191
    · rw [if_neg c94] at h
      refine aw_aload_n (pc := 97) hX dX10_copies_97 rfl 0 rfl ?_
      refine gf_X10_75 (pc := 98) hX km0 rfl dX10_copies_98 ?_
      refine aw_bipush (v := (10 : Int32)) (pc := 101) hX dX10_copies_101 (by decide) ?_
      refine aw_iload_n (pc := 103) hX dX10_copies_103 rfl 1 rfl ?_
      refine aw_imul (pc := 104) hX dX10_copies_104 ?_
      refine aw_iload_n (pc := 105) hX dX10_copies_105 rfl 3 rfl ?_
      refine aw_iadd (pc := 106) hX dX10_copies_106 ?_
      refine aw_aload_n (pc := 107) hX dX10_copies_107 rfl 0 rfl ?_
      refine gf_X10_75 (pc := 108) hX km0 rfl dX10_copies_108 ?_
      refine aw_bipush (v := (10 : Int32)) (pc := 111) hX dX10_copies_111 (by decide) ?_
      refine aw_iload_n (pc := 113) hX dX10_copies_113 rfl 2 rfl ?_
      refine aw_imul (pc := 114) hX dX10_copies_114 ?_
      refine aw_iload_n (pc := 115) hX dX10_copies_115 rfl 3 rfl ?_
      refine aw_iadd (pc := 116) hX dX10_copies_116 ?_
      obtain ⟨x117, hx117, h⟩ := ob h
      refine aw_iald (pc := 117) hX km21 hx117 dX10_copies_117 ?_
      obtain ⟨S118, hS118, h⟩ := ob h
      refine aw_iast (pc := 118) hX km21 hS118 dX10_copies_118 ?_
      refine aw_aload_n (pc := 119) hX dX10_copies_119 rfl 0 rfl ?_
      refine gf_X10_78 (pc := 120) hX km0 rfl dX10_copies_120 ?_
      refine aw_bipush (v := (10 : Int32)) (pc := 123) hX dX10_copies_123 (by decide) ?_
      refine aw_iload_n (pc := 125) hX dX10_copies_125 rfl 1 rfl ?_
      refine aw_imul (pc := 126) hX dX10_copies_126 ?_
      refine aw_iload_n (pc := 127) hX dX10_copies_127 rfl 3 rfl ?_
      refine aw_iadd (pc := 128) hX dX10_copies_128 ?_
      refine aw_aload_n (pc := 129) hX dX10_copies_129 rfl 0 rfl ?_
      refine gf_X10_78 (pc := 130) hX km0 rfl dX10_copies_130 ?_
      refine aw_bipush (v := (10 : Int32)) (pc := 133) hX dX10_copies_133 (by decide) ?_
      refine aw_iload_n (pc := 135) hX dX10_copies_135 rfl 2 rfl ?_
      refine aw_imul (pc := 136) hX dX10_copies_136 ?_
      refine aw_iload_n (pc := 137) hX dX10_copies_137 rfl 3 rfl ?_
      refine aw_iadd (pc := 138) hX dX10_copies_138 ?_
      obtain ⟨x139, hx139, h⟩ := ob h
      refine aw_iald (pc := 139) hX km22 hx139 dX10_copies_139 ?_
      obtain ⟨S140, hS140, h⟩ := ob h
      refine aw_iast (pc := 140) hX km22 hS140 dX10_copies_140 ?_
      refine aw_aload_n (pc := 141) hX dX10_copies_141 rfl 0 rfl ?_
      refine gf_X10_81 (pc := 142) hX km0 rfl dX10_copies_142 ?_
      refine aw_bipush (v := (10 : Int32)) (pc := 145) hX dX10_copies_145 (by decide) ?_
      refine aw_iload_n (pc := 147) hX dX10_copies_147 rfl 1 rfl ?_
      refine aw_imul (pc := 148) hX dX10_copies_148 ?_
      refine aw_iload_n (pc := 149) hX dX10_copies_149 rfl 3 rfl ?_
      refine aw_iadd (pc := 150) hX dX10_copies_150 ?_
      refine aw_aload_n (pc := 151) hX dX10_copies_151 rfl 0 rfl ?_
      refine gf_X10_81 (pc := 152) hX km0 rfl dX10_copies_152 ?_
      refine aw_bipush (v := (10 : Int32)) (pc := 155) hX dX10_copies_155 (by decide) ?_
      refine aw_iload_n (pc := 157) hX dX10_copies_157 rfl 2 rfl ?_
      refine aw_imul (pc := 158) hX dX10_copies_158 ?_
      refine aw_iload_n (pc := 159) hX dX10_copies_159 rfl 3 rfl ?_
      refine aw_iadd (pc := 160) hX dX10_copies_160 ?_
      obtain ⟨x161, hx161, h⟩ := ob h
      refine aw_iald (pc := 161) hX km23 hx161 dX10_copies_161 ?_
      obtain ⟨S162, hS162, h⟩ := ob h
      refine aw_iast (pc := 162) hX km23 hS162 dX10_copies_162 ?_
      refine aw_aload_n (pc := 163) hX dX10_copies_163 rfl 0 rfl ?_
      refine gf_X10_84 (pc := 164) hX km0 rfl dX10_copies_164 ?_
      refine aw_bipush (v := (10 : Int32)) (pc := 167) hX dX10_copies_167 (by decide) ?_
      refine aw_iload_n (pc := 169) hX dX10_copies_169 rfl 1 rfl ?_
      refine aw_imul (pc := 170) hX dX10_copies_170 ?_
      refine aw_iload_n (pc := 171) hX dX10_copies_171 rfl 3 rfl ?_
      refine aw_iadd (pc := 172) hX dX10_copies_172 ?_
      refine aw_aload_n (pc := 173) hX dX10_copies_173 rfl 0 rfl ?_
      refine gf_X10_84 (pc := 174) hX km0 rfl dX10_copies_174 ?_
      refine aw_bipush (v := (10 : Int32)) (pc := 177) hX dX10_copies_177 (by decide) ?_
      refine aw_iload_n (pc := 179) hX dX10_copies_179 rfl 2 rfl ?_
      refine aw_imul (pc := 180) hX dX10_copies_180 ?_
      refine aw_iload_n (pc := 181) hX dX10_copies_181 rfl 3 rfl ?_
      refine aw_iadd (pc := 182) hX dX10_copies_182 ?_
      obtain ⟨x183, hx183, h⟩ := ob h
      refine aw_iald (pc := 183) hX km24 hx183 dX10_copies_183 ?_
      obtain ⟨S184, hS184, h⟩ := ob h
      refine aw_iast (pc := 184) hX km24 hS184 dX10_copies_184 ?_
      refine aw_iinc (v := (v3 + 1)) (ls' := [(3, .int (v3 + 1)), (0, .ref 0), (1, .int v1), (2, .int v2)]) (pc := 185) hX dX10_copies_185 (pos := 3) rfl (by first | rfl | decide) (by decide) rfl ?_
      refine aw_goto (tgt := 91) (pc := 188) hX dX10_copies_188 (by decide) ?_
      refine aw_sub (ls' := [(0, .ref 0), (1, .int v1), (2, .int v2), (3, .int (v3 + 1))]) [1, 2, 3, 0] rfl ?_
      exact ih v1 v2 (v3 + 1) S184 h

set_option maxHeartbeats 4000000 in
set_option maxRecDepth 100000 in
theorem c_X10_copies_38 {X : XT} {loc : Nat → Nat} {Sf : Mem} (hX : AC X loc RX10 cX10_copies none 4 0 0 0) (hQ : RetV X SKM loc 0 0 Sf) : ∀ (n : Nat) (v1 : Int32) (v2 : Int32) (v3 : Int32) (S : Mem), f_X10_copies_38 n v1 v2 v3 S = some Sf → AW X SKM loc 0 0 38 [(0, .ref 0), (1, .int v1), (2, .int v2), (3, .int v3)] [] S := by
  intro n
  induction n with
  | zero => intro v1 v2 v3 S h; cases h
  | succ n ih =>
    intro v1 v2 v3 S h
    unfold f_X10_copies_38 at h
    refine aw_iload_n (pc := 38) hX dX10_copies_38 rfl 3 rfl ?_
    refine aw_iconst (v := (2 : Int32)) (pc := 39) hX dX10_copies_39 (by decide) ?_
    refine aw_icmp_ge (pc := 40) hX (tgt := 89) dX10_copies_40 (by decide) (fun c40 => ?_) (fun c40 => ?_)
    · rw [if_pos c40] at h
      refine aw_iconst (v := (0 : Int32)) (pc := 89) hX dX10_copies_89 (by decide) ?_
      refine aw_istore_n (ls' := [(3, .int (0 : Int32)), (0, .ref 0), (1, .int v1), (2, .int v2)]) (pc := 90) hX dX10_copies_90 rfl (by decide) rfl ?_
      refine aw_sub (ls' := [(0, .ref 0), (1, .int v1), (2, .int v2), (3, .int (0 : Int32))]) [1, 2, 3, 0] rfl ?_
      exact c_X10_copies_91 hX hQ FU v1 v2 (0 : Int32) S h
    · rw [if_neg c40] at h
      refine aw_aload_n (pc := 43) hX dX10_copies_43 rfl 0 rfl ?_
      refine gf_X10_69 (pc := 44) hX km0 rfl dX10_copies_44 ?_
      refine aw_iconst (v := (2 : Int32)) (pc := 47) hX dX10_copies_47 (by decide) ?_
      refine aw_iload_n (pc := 48) hX dX10_copies_48 rfl 1 rfl ?_
      refine aw_imul (pc := 49) hX dX10_copies_49 ?_
      refine aw_iload_n (pc := 50) hX dX10_copies_50 rfl 3 rfl ?_
      refine aw_iadd (pc := 51) hX dX10_copies_51 ?_
      refine aw_aload_n (pc := 52) hX dX10_copies_52 rfl 0 rfl ?_
      refine gf_X10_69 (pc := 53) hX km0 rfl dX10_copies_53 ?_
      refine aw_iconst (v := (2 : Int32)) (pc := 56) hX dX10_copies_56 (by decide) ?_
      refine aw_iload_n (pc := 57) hX dX10_copies_57 rfl 2 rfl ?_
      refine aw_imul (pc := 58) hX dX10_copies_58 ?_
      refine aw_iload_n (pc := 59) hX dX10_copies_59 rfl 3 rfl ?_
      refine aw_iadd (pc := 60) hX dX10_copies_60 ?_
      obtain ⟨x61, hx61, h⟩ := ob h
      refine aw_iald (pc := 61) hX km19 hx61 dX10_copies_61 ?_
      obtain ⟨S62, hS62, h⟩ := ob h
      refine aw_iast (pc := 62) hX km19 hS62 dX10_copies_62 ?_
      refine aw_aload_n (pc := 63) hX dX10_copies_63 rfl 0 rfl ?_
      refine gf_X10_72 (pc := 64) hX km0 rfl dX10_copies_64 ?_
      refine aw_iconst (v := (2 : Int32)) (pc := 67) hX dX10_copies_67 (by decide) ?_
      refine aw_iload_n (pc := 68) hX dX10_copies_68 rfl 1 rfl ?_
      refine aw_imul (pc := 69) hX dX10_copies_69 ?_
      refine aw_iload_n (pc := 70) hX dX10_copies_70 rfl 3 rfl ?_
      refine aw_iadd (pc := 71) hX dX10_copies_71 ?_
      refine aw_aload_n (pc := 72) hX dX10_copies_72 rfl 0 rfl ?_
      refine gf_X10_72 (pc := 73) hX km0 rfl dX10_copies_73 ?_
      refine aw_iconst (v := (2 : Int32)) (pc := 76) hX dX10_copies_76 (by decide) ?_
      refine aw_iload_n (pc := 77) hX dX10_copies_77 rfl 2 rfl ?_
      refine aw_imul (pc := 78) hX dX10_copies_78 ?_
      refine aw_iload_n (pc := 79) hX dX10_copies_79 rfl 3 rfl ?_
      refine aw_iadd (pc := 80) hX dX10_copies_80 ?_
      obtain ⟨x81, hx81, h⟩ := ob h
      refine aw_iald (pc := 81) hX km20 hx81 dX10_copies_81 ?_
      obtain ⟨S82, hS82, h⟩ := ob h
      refine aw_iast (pc := 82) hX km20 hS82 dX10_copies_82 ?_
      refine aw_iinc (v := (v3 + 1)) (ls' := [(3, .int (v3 + 1)), (0, .ref 0), (1, .int v1), (2, .int v2)]) (pc := 83) hX dX10_copies_83 (pos := 3) rfl (by first | rfl | decide) (by decide) rfl ?_
      refine aw_goto (tgt := 38) (pc := 86) hX dX10_copies_86 (by decide) ?_
      refine aw_sub (ls' := [(0, .ref 0), (1, .int v1), (2, .int v2), (3, .int (v3 + 1))]) [1, 2, 3, 0] rfl ?_
      exact ih v1 v2 (v3 + 1) S82 h

set_option maxHeartbeats 4000000 in
set_option maxRecDepth 100000 in
theorem c_X10_copies {v1 : Int32} {v2 : Int32} {S : Mem} {Sf : Mem} (h : f_X10_copies v1 v2 S = some Sf) : MetV yX10_copies cX10_copies 4 none 0 [.ref 0, .int v1, .int v2] SKM S Sf := by
  refine MetV.intro (by decide +kernel) (Nat.le_of_ble_eq_true rfl) (fun X loc hX hQ => ?_)
  unfold f_X10_copies at h
  show AW X SKM loc 0 0 0 [(0, .ref 0), (1, .int v1), (2, .int v2)] [] S
  refine aw_aload_n (pc := 0) hX dX10_copies_0 rfl 0 rfl ?_
  refine gf_X10_60 (pc := 1) hX km0 rfl dX10_copies_1 ?_
  refine aw_iload_n (pc := 4) hX dX10_copies_4 rfl 1 rfl ?_
  refine aw_aload_n (pc := 5) hX dX10_copies_5 rfl 0 rfl ?_
  refine gf_X10_60 (pc := 6) hX km0 rfl dX10_copies_6 ?_
  refine aw_iload_n (pc := 9) hX dX10_copies_9 rfl 2 rfl ?_
  obtain ⟨x10, hx10, h⟩ := ob h
  refine aw_iald (pc := 10) hX km16 hx10 dX10_copies_10 ?_
  obtain ⟨S11, hS11, h⟩ := ob h
  refine aw_iast (pc := 11) hX km16 hS11 dX10_copies_11 ?_
  refine aw_aload_n (pc := 12) hX dX10_copies_12 rfl 0 rfl ?_
  refine gf_X10_63 (pc := 13) hX km0 rfl dX10_copies_13 ?_
  refine aw_iload_n (pc := 16) hX dX10_copies_16 rfl 1 rfl ?_
  refine aw_aload_n (pc := 17) hX dX10_copies_17 rfl 0 rfl ?_
  refine gf_X10_63 (pc := 18) hX km0 rfl dX10_copies_18 ?_
  refine aw_iload_n (pc := 21) hX dX10_copies_21 rfl 2 rfl ?_
  obtain ⟨x22, hx22, h⟩ := ob h
  refine aw_iald (pc := 22) hX km17 hx22 dX10_copies_22 ?_
  obtain ⟨S23, hS23, h⟩ := ob h
  refine aw_iast (pc := 23) hX km17 hS23 dX10_copies_23 ?_
  refine aw_aload_n (pc := 24) hX dX10_copies_24 rfl 0 rfl ?_
  refine gf_X10_66 (pc := 25) hX km0 rfl dX10_copies_25 ?_
  refine aw_iload_n (pc := 28) hX dX10_copies_28 rfl 1 rfl ?_
  refine aw_aload_n (pc := 29) hX dX10_copies_29 rfl 0 rfl ?_
  refine gf_X10_66 (pc := 30) hX km0 rfl dX10_copies_30 ?_
  refine aw_iload_n (pc := 33) hX dX10_copies_33 rfl 2 rfl ?_
  obtain ⟨x34, hx34, h⟩ := ob h
  refine aw_iald (pc := 34) hX km18 hx34 dX10_copies_34 ?_
  obtain ⟨S35, hS35, h⟩ := ob h
  refine aw_iast (pc := 35) hX km18 hS35 dX10_copies_35 ?_
  refine aw_iconst (v := (0 : Int32)) (pc := 36) hX dX10_copies_36 (by decide) ?_
  refine aw_istore_n (ls' := [(3, .int (0 : Int32)), (0, .ref 0), (1, .int v1), (2, .int v2)]) (pc := 37) hX dX10_copies_37 rfl (by decide) rfl ?_
  refine aw_sub (ls' := [(0, .ref 0), (1, .int v1), (2, .int v2), (3, .int (0 : Int32))]) [1, 2, 3, 0] rfl ?_
  exact c_X10_copies_38 hX hQ FU v1 v2 (0 : Int32) S35 h

def f_X10_isHeld (v1 : Int32) (v2 : Int32) (S : Mem) : Option (Int32 × Mem) :=
  (rd S 24 230 (((10 : Int32) * v1) + v2)).bind fun x10 =>
  if x10 = (1 : Int32) then
  (some ((1 : Int32), S))
  else
  (some ((0 : Int32), S))

set_option maxHeartbeats 4000000 in
set_option maxRecDepth 100000 in
theorem c_X10_isHeld {v1 : Int32} {v2 : Int32} {S : Mem} {r : Int32} {Sf : Mem} (h : f_X10_isHeld v1 v2 S = some (r, Sf)) : MetI yX10_isHeld cX10_isHeld 3 (some .boolean) 0 [.ref 0, .int v1, .int v2] SKM S r Sf := by
  refine MetI.intro (by decide +kernel) (Nat.le_of_ble_eq_true rfl) (fun X loc hX hQ => ?_)
  unfold f_X10_isHeld at h
  show AW X SKM loc 0 0 0 [(0, .ref 0), (1, .int v1), (2, .int v2)] [] S
  refine aw_aload_n (pc := 0) hX dX10_isHeld_0 rfl 0 rfl ?_
  refine gf_X10_84 (pc := 1) hX km0 rfl dX10_isHeld_1 ?_
  refine aw_bipush (v := (10 : Int32)) (pc := 4) hX dX10_isHeld_4 (by decide) ?_
  refine aw_iload_n (pc := 6) hX dX10_isHeld_6 rfl 1 rfl ?_
  refine aw_imul (pc := 7) hX dX10_isHeld_7 ?_
  refine aw_iload_n (pc := 8) hX dX10_isHeld_8 rfl 2 rfl ?_
  refine aw_iadd (pc := 9) hX dX10_isHeld_9 ?_
  obtain ⟨x10, hx10, h⟩ := ob h
  refine aw_iald (pc := 10) hX km24 hx10 dX10_isHeld_10 ?_
  refine aw_iconst (v := (1 : Int32)) (pc := 11) hX dX10_isHeld_11 (by decide) ?_
  refine aw_icmp_ne (pc := 12) hX (tgt := 19) dX10_isHeld_12 (by decide) (fun c12 => ?_) (fun c12 => ?_)
  · rw [if_neg c12] at h
    refine aw_iconst (v := (0 : Int32)) (pc := 19) hX dX10_isHeld_19 (by decide) ?_
    cases h
    exact aw_zret hX hQ (by decide) dX10_isHeld_20
  · rw [if_pos c12] at h
    refine aw_iconst (v := (1 : Int32)) (pc := 15) hX dX10_isHeld_15 (by decide) ?_
    refine aw_goto (tgt := 20) (pc := 16) hX dX10_isHeld_16 (by decide) ?_
    cases h
    exact aw_zret hX hQ (by decide) dX10_isHeld_20

def f_X10_ownerOf (v1 : Int32) (S : Mem) : Option (Int32 × Mem) :=
  (rd S 7 20 v1).bind fun x10 =>
  (rd S 4 12 x10).bind fun x11 =>
  some (((1 : Int32) - x11), S)

set_option maxHeartbeats 4000000 in
set_option maxRecDepth 100000 in
theorem c_X10_ownerOf {v1 : Int32} {S : Mem} {r : Int32} {Sf : Mem} (h : f_X10_ownerOf v1 S = some (r, Sf)) : MetI yX10_ownerOf cX10_ownerOf 2 (some .int) 0 [.ref 0, .int v1] SKM S r Sf := by
  refine MetI.intro (by decide +kernel) (Nat.le_of_ble_eq_true rfl) (fun X loc hX hQ => ?_)
  unfold f_X10_ownerOf at h
  show AW X SKM loc 0 0 0 [(0, .ref 0), (1, .int v1)] [] S
  refine aw_iconst (v := (1 : Int32)) (pc := 0) hX dX10_ownerOf_0 (by decide) ?_
  refine aw_aload_n (pc := 1) hX dX10_ownerOf_1 rfl 0 rfl ?_
  refine gf_X10_19 (pc := 2) hX km0 rfl dX10_ownerOf_2 ?_
  refine aw_aload_n (pc := 5) hX dX10_ownerOf_5 rfl 0 rfl ?_
  refine gf_X10_28 (pc := 6) hX km0 rfl dX10_ownerOf_6 ?_
  refine aw_iload_n (pc := 9) hX dX10_ownerOf_9 rfl 1 rfl ?_
  obtain ⟨x10, hx10, h⟩ := ob h
  refine aw_iald (pc := 10) hX km7 hx10 dX10_ownerOf_10 ?_
  obtain ⟨x11, hx11, h⟩ := ob h
  refine aw_iald (pc := 11) hX km4 hx11 dX10_ownerOf_11 ?_
  refine aw_isub (pc := 12) hX dX10_ownerOf_12 ?_
  cases h
  exact aw_iret hX hQ dX10_ownerOf_13

def f_X10_holds (v1 : Int32) (v2 : Int32) (v3 : Int32) (S : Mem) : Option (Int32 × Mem) :=
  bnd (f_X10_isHeld v1 v3 S) fun r3 S3 =>
  if r3 = 0 then
  (some ((0 : Int32), S3))
  else
  (bnd (f_X10_ownerOf v3 S3) fun r11 S11 =>
  if r11 = v2 then
  (some ((0 : Int32), S11))
  else
  (some ((1 : Int32), S11)))

set_option maxHeartbeats 4000000 in
set_option maxRecDepth 100000 in
theorem c_X10_holds {v1 : Int32} {v2 : Int32} {v3 : Int32} {S : Mem} {r : Int32} {Sf : Mem} (h : f_X10_holds v1 v2 v3 S = some (r, Sf)) : MetI yX10_holds cX10_holds 4 (some .boolean) 1 [.ref 0, .int v1, .int v2, .int v3] SKM S r Sf := by
  refine MetI.intro (by decide +kernel) (Nat.le_of_ble_eq_true rfl) (fun X loc hX hQ => ?_)
  unfold f_X10_holds at h
  show AW X SKM loc 0 0 0 [(0, .ref 0), (1, .int v1), (2, .int v2), (3, .int v3)] [] S
  refine aw_aload_n (pc := 0) hX dX10_holds_0 rfl 0 rfl ?_
  refine aw_iload_n (pc := 1) hX dX10_holds_1 rfl 1 rfl ?_
  refine aw_iload_n (pc := 2) hX dX10_holds_2 rfl 3 rfl ?_
  obtain ⟨r3, S3, hr3, h⟩ := ob2 h
  refine aw_cVI (pc := 3) (As := [.int v1, .int v3]) (rest := []) hX (c_X10_isHeld hr3) ok_X10_isHeld kw_7_27 im_X10_isHeld se_X10_isHeld rfl km0 rfl (by decide) (Nat.le_of_ble_eq_true rfl) rfl dX10_holds_3 (Nat.le_refl 0) (Nat.le_refl 0) ?_
  refine aw_if_eq (pc := 6) hX (tgt := 22) dX10_holds_6 (by decide) (fun c6 => ?_) (fun c6 => ?_)
  · rw [if_pos c6] at h
    refine aw_iconst (v := (0 : Int32)) (pc := 22) hX dX10_holds_22 (by decide) ?_
    cases h
    exact aw_zret hX hQ (by decide) dX10_holds_23
  · rw [if_neg c6] at h
    refine aw_aload_n (pc := 9) hX dX10_holds_9 rfl 0 rfl ?_
    refine aw_iload_n (pc := 10) hX dX10_holds_10 rfl 3 rfl ?_
    obtain ⟨r11, S11, hr11, h⟩ := ob2 h
    refine aw_cVI (pc := 11) (As := [.int v3]) (rest := []) hX (c_X10_ownerOf hr11) ok_X10_ownerOf kw_7_15 im_X10_ownerOf se_X10_ownerOf rfl km0 rfl (by decide) (Nat.le_of_ble_eq_true rfl) rfl dX10_holds_11 (Nat.le_refl 0) (Nat.le_refl 0) ?_
    refine aw_iload_n (pc := 14) hX dX10_holds_14 rfl 2 rfl ?_
    refine aw_icmp_eq (pc := 15) hX (tgt := 22) dX10_holds_15 (by decide) (fun c15 => ?_) (fun c15 => ?_)
    · rw [if_pos c15] at h
      refine aw_iconst (v := (0 : Int32)) (pc := 22) hX dX10_holds_22 (by decide) ?_
      cases h
      exact aw_zret hX hQ (by decide) dX10_holds_23
    · rw [if_neg c15] at h
      refine aw_iconst (v := (1 : Int32)) (pc := 18) hX dX10_holds_18 (by decide) ?_
      refine aw_goto (tgt := 23) (pc := 19) hX dX10_holds_19 (by decide) ?_
      cases h
      exact aw_zret hX hQ (by decide) dX10_holds_23

def f_X10_answerOf_5 : Nat → Int32 → Int32 → Int32 → Int32 → Mem → Option (Int32 × Mem)
  | 0, _, _, _, _, _ => none
  | n + 1, v1, v2, v3, v4, S =>
  (rd S 2 14 (1 : Int32)).bind fun x12 =>
  if x12 ≤ v4 then
  (some (v3, S))
  else
  (bnd (f_X10_holds v1 v2 v4 S) fun r21 S21 =>
  if r21 = 0 then
  (f_X10_answerOf_5 n v1 v2 v3 (v4 + 1) S21)
  else
  (if v3 = (-1 : Int32) then
  (f_X10_answerOf_5 n v1 v2 v4 (v4 + 1) S21)
  else
  ((rd S21 8 20 v4).bind fun x38 =>
  (rd S21 8 20 v3).bind fun x44 =>
  if x38 ≤ x44 then
  (f_X10_answerOf_5 n v1 v2 v3 (v4 + 1) S21)
  else
  (f_X10_answerOf_5 n v1 v2 v4 (v4 + 1) S21))))

def f_X10_answerOf (v1 : Int32) (v2 : Int32) (S : Mem) : Option (Int32 × Mem) :=
  f_X10_answerOf_5 FU v1 v2 (-1 : Int32) (0 : Int32) S

set_option maxHeartbeats 4000000 in
set_option maxRecDepth 100000 in
theorem c_X10_answerOf_5 {X : XT} {loc : Nat → Nat} {r : Int32} {Sf : Mem} (hX : AC X loc RX10 cX10_answerOf (some .int) 5 2 0 0) (hQ : RetI X SKM loc 0 0 r Sf) : ∀ (n : Nat) (v1 : Int32) (v2 : Int32) (v3 : Int32) (v4 : Int32) (S : Mem), f_X10_answerOf_5 n v1 v2 v3 v4 S = some (r, Sf) → AW X SKM loc 0 0 5 [(0, .ref 0), (1, .int v1), (2, .int v2), (3, .int v3), (4, .int v4)] [] S := by
  intro n
  induction n with
  | zero => intro v1 v2 v3 v4 S h; cases h
  | succ n ih =>
    intro v1 v2 v3 v4 S h
    unfold f_X10_answerOf_5 at h
    refine aw_iload (pc := 5) hX dX10_answerOf_5 4 rfl ?_
    refine aw_aload_n (pc := 7) hX dX10_answerOf_7 rfl 0 rfl ?_
    refine gf_X10_13 (pc := 8) hX km0 rfl dX10_answerOf_8 ?_
    refine aw_iconst (v := (1 : Int32)) (pc := 11) hX dX10_answerOf_11 (by decide) ?_
    obtain ⟨x12, hx12, h⟩ := ob h
    refine aw_iald (pc := 12) hX km2 hx12 dX10_answerOf_12 ?_
    refine aw_icmp_ge (pc := 13) hX (tgt := 57) dX10_answerOf_13 (by decide) (fun c13 => ?_) (fun c13 => ?_)
    · rw [if_pos c13] at h
      refine aw_iload_n (pc := 57) hX dX10_answerOf_57 rfl 3 rfl ?_
      cases h
      exact aw_iret hX hQ dX10_answerOf_58
    · rw [if_neg c13] at h
      refine aw_aload_n (pc := 16) hX dX10_answerOf_16 rfl 0 rfl ?_
      refine aw_iload_n (pc := 17) hX dX10_answerOf_17 rfl 1 rfl ?_
      refine aw_iload_n (pc := 18) hX dX10_answerOf_18 rfl 2 rfl ?_
      refine aw_iload (pc := 19) hX dX10_answerOf_19 4 rfl ?_
      obtain ⟨r21, S21, hr21, h⟩ := ob2 h
      refine aw_cVI (pc := 21) (As := [.int v1, .int v2, .int v4]) (rest := []) hX (c_X10_holds hr21) ok_X10_holds kw_7_42 im_X10_holds se_X10_holds rfl km0 rfl (by decide) (Nat.le_of_ble_eq_true rfl) rfl dX10_answerOf_21 (Nat.le_refl 0) (Nat.le_refl 0) ?_
      refine aw_if_eq (pc := 24) hX (tgt := 51) dX10_answerOf_24 (by decide) (fun c24 => ?_) (fun c24 => ?_)
      · rw [if_pos c24] at h
        refine aw_iinc (v := (v4 + 1)) (ls' := [(4, .int (v4 + 1)), (0, .ref 0), (1, .int v1), (2, .int v2), (3, .int v3)]) (pc := 51) hX dX10_answerOf_51 (pos := 4) rfl (by first | rfl | decide) (by decide) rfl ?_
        refine aw_goto (tgt := 5) (pc := 54) hX dX10_answerOf_54 (by decide) ?_
        refine aw_sub (ls' := [(0, .ref 0), (1, .int v1), (2, .int v2), (3, .int v3), (4, .int (v4 + 1))]) [1, 2, 3, 4, 0] rfl ?_
        exact ih v1 v2 v3 (v4 + 1) S21 h
      · rw [if_neg c24] at h
        refine aw_iload_n (pc := 27) hX dX10_answerOf_27 rfl 3 rfl ?_
        refine aw_iconst (v := (-1 : Int32)) (pc := 28) hX dX10_answerOf_28 (by decide) ?_
        refine aw_icmp_eq (pc := 29) hX (tgt := 48) dX10_answerOf_29 (by decide) (fun c29 => ?_) (fun c29 => ?_)
        · rw [if_pos c29] at h
          refine aw_iload (pc := 48) hX dX10_answerOf_48 4 rfl ?_
          refine aw_istore_n (ls' := [(3, .int v4), (0, .ref 0), (1, .int v1), (2, .int v2), (4, .int v4)]) (pc := 50) hX dX10_answerOf_50 rfl (by decide) rfl ?_
          refine aw_iinc (v := (v4 + 1)) (ls' := [(4, .int (v4 + 1)), (3, .int v4), (0, .ref 0), (1, .int v1), (2, .int v2)]) (pc := 51) hX dX10_answerOf_51 (pos := 4) rfl (by first | rfl | decide) (by decide) rfl ?_
          refine aw_goto (tgt := 5) (pc := 54) hX dX10_answerOf_54 (by decide) ?_
          refine aw_sub (ls' := [(0, .ref 0), (1, .int v1), (2, .int v2), (3, .int v4), (4, .int (v4 + 1))]) [2, 3, 4, 1, 0] rfl ?_
          exact ih v1 v2 v4 (v4 + 1) S21 h
        · rw [if_neg c29] at h
          refine aw_aload_n (pc := 32) hX dX10_answerOf_32 rfl 0 rfl ?_
          refine gf_X10_31 (pc := 33) hX km0 rfl dX10_answerOf_33 ?_
          refine aw_iload (pc := 36) hX dX10_answerOf_36 4 rfl ?_
          obtain ⟨x38, hx38, h⟩ := ob h
          refine aw_iald (pc := 38) hX km8 hx38 dX10_answerOf_38 ?_
          refine aw_aload_n (pc := 39) hX dX10_answerOf_39 rfl 0 rfl ?_
          refine gf_X10_31 (pc := 40) hX km0 rfl dX10_answerOf_40 ?_
          refine aw_iload_n (pc := 43) hX dX10_answerOf_43 rfl 3 rfl ?_
          obtain ⟨x44, hx44, h⟩ := ob h
          refine aw_iald (pc := 44) hX km8 hx44 dX10_answerOf_44 ?_
          refine aw_icmp_le (pc := 45) hX (tgt := 51) dX10_answerOf_45 (by decide) (fun c45 => ?_) (fun c45 => ?_)
          · rw [if_pos c45] at h
            refine aw_iinc (v := (v4 + 1)) (ls' := [(4, .int (v4 + 1)), (0, .ref 0), (1, .int v1), (2, .int v2), (3, .int v3)]) (pc := 51) hX dX10_answerOf_51 (pos := 4) rfl (by first | rfl | decide) (by decide) rfl ?_
            refine aw_goto (tgt := 5) (pc := 54) hX dX10_answerOf_54 (by decide) ?_
            refine aw_sub (ls' := [(0, .ref 0), (1, .int v1), (2, .int v2), (3, .int v3), (4, .int (v4 + 1))]) [1, 2, 3, 4, 0] rfl ?_
            exact ih v1 v2 v3 (v4 + 1) S21 h
          · rw [if_neg c45] at h
            refine aw_iload (pc := 48) hX dX10_answerOf_48 4 rfl ?_
            refine aw_istore_n (ls' := [(3, .int v4), (0, .ref 0), (1, .int v1), (2, .int v2), (4, .int v4)]) (pc := 50) hX dX10_answerOf_50 rfl (by decide) rfl ?_
            refine aw_iinc (v := (v4 + 1)) (ls' := [(4, .int (v4 + 1)), (3, .int v4), (0, .ref 0), (1, .int v1), (2, .int v2)]) (pc := 51) hX dX10_answerOf_51 (pos := 4) rfl (by first | rfl | decide) (by decide) rfl ?_
            refine aw_goto (tgt := 5) (pc := 54) hX dX10_answerOf_54 (by decide) ?_
            refine aw_sub (ls' := [(0, .ref 0), (1, .int v1), (2, .int v2), (3, .int v4), (4, .int (v4 + 1))]) [2, 3, 4, 1, 0] rfl ?_
            exact ih v1 v2 v4 (v4 + 1) S21 h

set_option maxHeartbeats 4000000 in
set_option maxRecDepth 100000 in
theorem c_X10_answerOf {v1 : Int32} {v2 : Int32} {S : Mem} {r : Int32} {Sf : Mem} (h : f_X10_answerOf v1 v2 S = some (r, Sf)) : MetI yX10_answerOf cX10_answerOf 5 (some .int) 2 [.ref 0, .int v1, .int v2] SKM S r Sf := by
  refine MetI.intro (by decide +kernel) (Nat.le_of_ble_eq_true rfl) (fun X loc hX hQ => ?_)
  unfold f_X10_answerOf at h
  show AW X SKM loc 0 0 0 [(0, .ref 0), (1, .int v1), (2, .int v2)] [] S
  refine aw_iconst (v := (-1 : Int32)) (pc := 0) hX dX10_answerOf_0 (by decide) ?_
  refine aw_istore_n (ls' := [(3, .int (-1 : Int32)), (0, .ref 0), (1, .int v1), (2, .int v2)]) (pc := 1) hX dX10_answerOf_1 rfl (by decide) rfl ?_
  refine aw_iconst (v := (0 : Int32)) (pc := 2) hX dX10_answerOf_2 (by decide) ?_
  refine aw_istore (ls' := [(4, .int (0 : Int32)), (3, .int (-1 : Int32)), (0, .ref 0), (1, .int v1), (2, .int v2)]) (pc := 3) hX dX10_answerOf_3 (by decide) rfl ?_
  refine aw_sub (ls' := [(0, .ref 0), (1, .int v1), (2, .int v2), (3, .int (-1 : Int32)), (4, .int (0 : Int32))]) [2, 3, 4, 1, 0] rfl ?_
  exact c_X10_answerOf_5 hX hQ FU v1 v2 (-1 : Int32) (0 : Int32) S h

def f_X10_careIn (v1 : Int32) (S : Mem) : Option (Int32 × Mem) :=
  if (S.1 0 43) = (4 : Int32) then
  (some ((9 : Int32), S))
  else
  (if v1 = (S.1 0 44) then
  (some ((S.1 0 45), S))
  else
  ((rd S 5 12 v1).bind fun x33 =>
  some (x33, S)))

set_option maxHeartbeats 4000000 in
set_option maxRecDepth 100000 in
theorem c_X10_careIn {v1 : Int32} {S : Mem} {r : Int32} {Sf : Mem} (h : f_X10_careIn v1 S = some (r, Sf)) : MetI yX10_careIn cX10_careIn 2 (some .int) 0 [.ref 0, .int v1] SKM S r Sf := by
  refine MetI.intro (by decide +kernel) (Nat.le_of_ble_eq_true rfl) (fun X loc hX hQ => ?_)
  unfold f_X10_careIn at h
  show AW X SKM loc 0 0 0 [(0, .ref 0), (1, .int v1)] [] S
  refine aw_aload_n (pc := 0) hX dX10_careIn_0 rfl 0 rfl ?_
  refine gf_X10_317 (pc := 1) hX km0 rfl dX10_careIn_1 ?_
  refine aw_iconst (v := (4 : Int32)) (pc := 4) hX dX10_careIn_4 (by decide) ?_
  refine aw_icmp_ne (pc := 5) hX (tgt := 13) dX10_careIn_5 (by decide) (fun c5 => ?_) (fun c5 => ?_)
  · rw [if_neg c5] at h
    refine aw_iload_n (pc := 13) hX dX10_careIn_13 rfl 1 rfl ?_
    refine aw_aload_n (pc := 14) hX dX10_careIn_14 rfl 0 rfl ?_
    refine gf_X10_87 (pc := 15) hX km0 rfl dX10_careIn_15 ?_
    refine aw_icmp_ne (pc := 18) hX (tgt := 28) dX10_careIn_18 (by decide) (fun c18 => ?_) (fun c18 => ?_)
    · rw [if_neg c18] at h
      refine aw_aload_n (pc := 28) hX dX10_careIn_28 rfl 0 rfl ?_
      refine gf_X10_22 (pc := 29) hX km0 rfl dX10_careIn_29 ?_
      refine aw_iload_n (pc := 32) hX dX10_careIn_32 rfl 1 rfl ?_
      obtain ⟨x33, hx33, h⟩ := ob h
      refine aw_iald (pc := 33) hX km5 hx33 dX10_careIn_33 ?_
      cases h
      exact aw_iret hX hQ dX10_careIn_34
    · rw [if_pos c18] at h
      refine aw_aload_n (pc := 21) hX dX10_careIn_21 rfl 0 rfl ?_
      refine gf_X10_320 (pc := 22) hX km0 rfl dX10_careIn_22 ?_
      refine aw_goto (tgt := 34) (pc := 25) hX dX10_careIn_25 (by decide) ?_
      cases h
      exact aw_iret hX hQ dX10_careIn_34
  · rw [if_pos c5] at h
    refine aw_bipush (v := (9 : Int32)) (pc := 8) hX dX10_careIn_8 (by decide) ?_
    refine aw_goto (tgt := 34) (pc := 10) hX dX10_careIn_10 (by decide) ?_
    cases h
    exact aw_iret hX hQ dX10_careIn_34

def f_X10_calls (v1 : Int32) (v2 : Int32) (v3 : Int32) (S : Mem) : Option Mem :=
  (rd S 8 20 v2).bind fun x10 =>
  (wrL S 14 7 (0 : Int32) ((x10).toInt64)).bind fun S12 =>
  (rd S12 9 20 v2).bind fun x23 =>
  (wrL S12 14 7 (1 : Int32) ((x23).toInt64)).bind fun S25 =>
  (rd S25 22 230 (((10 : Int32) * v1) + v2)).bind fun x41 =>
  (wrL S25 14 7 (2 : Int32) ((x41).toInt64)).bind fun S43 =>
  bnd (f_X10_careIn v3 S43) fun r51 S51 =>
  (wrL S51 14 7 (3 : Int32) ((r51).toInt64)).bind fun S55 =>
  bnd (f_X10_ownerOf v2 S55) fun r70 S70 =>
  (rd S70 19 46 (((2 : Int32) * v1) + r70)).bind fun x74 =>
  (wrL S70 14 7 (4 : Int32) ((x74).toInt64)).bind fun S76 =>
  (rd S76 23 230 (((10 : Int32) * v1) + v2)).bind fun x92 =>
  (wrL S76 14 7 (5 : Int32) ((x92).toInt64)).bind fun S94 =>
  (rd S94 16 23 v1).bind fun x106 =>
  (wrL S94 14 7 (6 : Int32) ((x106).toInt64)).bind fun S108 =>
  some S108

set_option maxHeartbeats 4000000 in
set_option maxRecDepth 100000 in
theorem c_X10_calls {v1 : Int32} {v2 : Int32} {v3 : Int32} {S : Mem} {Sf : Mem} (h : f_X10_calls v1 v2 v3 S = some Sf) : MetV yX10_calls cX10_calls 4 none 1 [.ref 0, .int v1, .int v2, .int v3] SKM S Sf := by
  refine MetV.intro (by decide +kernel) (Nat.le_of_ble_eq_true rfl) (fun X loc hX hQ => ?_)
  unfold f_X10_calls at h
  show AW X SKM loc 0 0 0 [(0, .ref 0), (1, .int v1), (2, .int v2), (3, .int v3)] [] S
  refine aw_aload_n (pc := 0) hX dX10_calls_0 rfl 0 rfl ?_
  refine gf_X10_53 (pc := 1) hX km0 rfl dX10_calls_1 ?_
  refine aw_iconst (v := (0 : Int32)) (pc := 4) hX dX10_calls_4 (by decide) ?_
  refine aw_aload_n (pc := 5) hX dX10_calls_5 rfl 0 rfl ?_
  refine gf_X10_31 (pc := 6) hX km0 rfl dX10_calls_6 ?_
  refine aw_iload_n (pc := 9) hX dX10_calls_9 rfl 2 rfl ?_
  obtain ⟨x10, hx10, h⟩ := ob h
  refine aw_iald (pc := 10) hX km8 hx10 dX10_calls_10 ?_
  refine aw_i2l (pc := 11) hX dX10_calls_11 ?_
  obtain ⟨S12, hS12, h⟩ := ob h
  refine aw_last (pc := 12) hX km14 hS12 dX10_calls_12 ?_
  refine aw_aload_n (pc := 13) hX dX10_calls_13 rfl 0 rfl ?_
  refine gf_X10_53 (pc := 14) hX km0 rfl dX10_calls_14 ?_
  refine aw_iconst (v := (1 : Int32)) (pc := 17) hX dX10_calls_17 (by decide) ?_
  refine aw_aload_n (pc := 18) hX dX10_calls_18 rfl 0 rfl ?_
  refine gf_X10_34 (pc := 19) hX km0 rfl dX10_calls_19 ?_
  refine aw_iload_n (pc := 22) hX dX10_calls_22 rfl 2 rfl ?_
  obtain ⟨x23, hx23, h⟩ := ob h
  refine aw_iald (pc := 23) hX km9 hx23 dX10_calls_23 ?_
  refine aw_i2l (pc := 24) hX dX10_calls_24 ?_
  obtain ⟨S25, hS25, h⟩ := ob h
  refine aw_last (pc := 25) hX km14 hS25 dX10_calls_25 ?_
  refine aw_aload_n (pc := 26) hX dX10_calls_26 rfl 0 rfl ?_
  refine gf_X10_53 (pc := 27) hX km0 rfl dX10_calls_27 ?_
  refine aw_iconst (v := (2 : Int32)) (pc := 30) hX dX10_calls_30 (by decide) ?_
  refine aw_aload_n (pc := 31) hX dX10_calls_31 rfl 0 rfl ?_
  refine gf_X10_78 (pc := 32) hX km0 rfl dX10_calls_32 ?_
  refine aw_bipush (v := (10 : Int32)) (pc := 35) hX dX10_calls_35 (by decide) ?_
  refine aw_iload_n (pc := 37) hX dX10_calls_37 rfl 1 rfl ?_
  refine aw_imul (pc := 38) hX dX10_calls_38 ?_
  refine aw_iload_n (pc := 39) hX dX10_calls_39 rfl 2 rfl ?_
  refine aw_iadd (pc := 40) hX dX10_calls_40 ?_
  obtain ⟨x41, hx41, h⟩ := ob h
  refine aw_iald (pc := 41) hX km22 hx41 dX10_calls_41 ?_
  refine aw_i2l (pc := 42) hX dX10_calls_42 ?_
  obtain ⟨S43, hS43, h⟩ := ob h
  refine aw_last (pc := 43) hX km14 hS43 dX10_calls_43 ?_
  refine aw_aload_n (pc := 44) hX dX10_calls_44 rfl 0 rfl ?_
  refine gf_X10_53 (pc := 45) hX km0 rfl dX10_calls_45 ?_
  refine aw_iconst (v := (3 : Int32)) (pc := 48) hX dX10_calls_48 (by decide) ?_
  refine aw_aload_n (pc := 49) hX dX10_calls_49 rfl 0 rfl ?_
  refine aw_iload_n (pc := 50) hX dX10_calls_50 rfl 3 rfl ?_
  obtain ⟨r51, S51, hr51, h⟩ := ob2 h
  refine aw_cVI (pc := 51) (As := [.int v3]) (rest := [.int (3 : Int32), .ref 14]) hX (c_X10_careIn hr51) ok_X10_careIn kw_7_62 im_X10_careIn se_X10_careIn rfl km0 rfl (by decide) (Nat.le_of_ble_eq_true rfl) rfl dX10_calls_51 (Nat.le_refl 0) (Nat.le_refl 0) ?_
  refine aw_i2l (pc := 54) hX dX10_calls_54 ?_
  obtain ⟨S55, hS55, h⟩ := ob h
  refine aw_last (pc := 55) hX km14 hS55 dX10_calls_55 ?_
  refine aw_aload_n (pc := 56) hX dX10_calls_56 rfl 0 rfl ?_
  refine gf_X10_53 (pc := 57) hX km0 rfl dX10_calls_57 ?_
  refine aw_iconst (v := (4 : Int32)) (pc := 60) hX dX10_calls_60 (by decide) ?_
  refine aw_aload_n (pc := 61) hX dX10_calls_61 rfl 0 rfl ?_
  refine gf_X10_69 (pc := 62) hX km0 rfl dX10_calls_62 ?_
  refine aw_iconst (v := (2 : Int32)) (pc := 65) hX dX10_calls_65 (by decide) ?_
  refine aw_iload_n (pc := 66) hX dX10_calls_66 rfl 1 rfl ?_
  refine aw_imul (pc := 67) hX dX10_calls_67 ?_
  refine aw_aload_n (pc := 68) hX dX10_calls_68 rfl 0 rfl ?_
  refine aw_iload_n (pc := 69) hX dX10_calls_69 rfl 2 rfl ?_
  obtain ⟨r70, S70, hr70, h⟩ := ob2 h
  refine aw_cVI (pc := 70) (As := [.int v2]) (rest := [.int ((2 : Int32) * v1), .ref 19, .int (4 : Int32), .ref 14]) hX (c_X10_ownerOf hr70) ok_X10_ownerOf kw_7_15 im_X10_ownerOf se_X10_ownerOf rfl km0 rfl (by decide) (Nat.le_of_ble_eq_true rfl) rfl dX10_calls_70 (Nat.le_refl 0) (Nat.le_refl 0) ?_
  refine aw_iadd (pc := 73) hX dX10_calls_73 ?_
  obtain ⟨x74, hx74, h⟩ := ob h
  refine aw_iald (pc := 74) hX km19 hx74 dX10_calls_74 ?_
  refine aw_i2l (pc := 75) hX dX10_calls_75 ?_
  obtain ⟨S76, hS76, h⟩ := ob h
  refine aw_last (pc := 76) hX km14 hS76 dX10_calls_76 ?_
  refine aw_aload_n (pc := 77) hX dX10_calls_77 rfl 0 rfl ?_
  refine gf_X10_53 (pc := 78) hX km0 rfl dX10_calls_78 ?_
  refine aw_iconst (v := (5 : Int32)) (pc := 81) hX dX10_calls_81 (by decide) ?_
  refine aw_aload_n (pc := 82) hX dX10_calls_82 rfl 0 rfl ?_
  refine gf_X10_81 (pc := 83) hX km0 rfl dX10_calls_83 ?_
  refine aw_bipush (v := (10 : Int32)) (pc := 86) hX dX10_calls_86 (by decide) ?_
  refine aw_iload_n (pc := 88) hX dX10_calls_88 rfl 1 rfl ?_
  refine aw_imul (pc := 89) hX dX10_calls_89 ?_
  refine aw_iload_n (pc := 90) hX dX10_calls_90 rfl 2 rfl ?_
  refine aw_iadd (pc := 91) hX dX10_calls_91 ?_
  obtain ⟨x92, hx92, h⟩ := ob h
  refine aw_iald (pc := 92) hX km23 hx92 dX10_calls_92 ?_
  refine aw_i2l (pc := 93) hX dX10_calls_93 ?_
  obtain ⟨S94, hS94, h⟩ := ob h
  refine aw_last (pc := 94) hX km14 hS94 dX10_calls_94 ?_
  refine aw_aload_n (pc := 95) hX dX10_calls_95 rfl 0 rfl ?_
  refine gf_X10_53 (pc := 96) hX km0 rfl dX10_calls_96 ?_
  refine aw_bipush (v := (6 : Int32)) (pc := 99) hX dX10_calls_99 (by decide) ?_
  refine aw_aload_n (pc := 101) hX dX10_calls_101 rfl 0 rfl ?_
  refine gf_X10_60 (pc := 102) hX km0 rfl dX10_calls_102 ?_
  refine aw_iload_n (pc := 105) hX dX10_calls_105 rfl 1 rfl ?_
  obtain ⟨x106, hx106, h⟩ := ob h
  refine aw_iald (pc := 106) hX km16 hx106 dX10_calls_106 ?_
  refine aw_i2l (pc := 107) hX dX10_calls_107 ?_
  obtain ⟨S108, hS108, h⟩ := ob h
  refine aw_last (pc := 108) hX km14 hS108 dX10_calls_108 ?_
  cases h
  exact aw_vret hX hQ dX10_calls_109

def f_X10_is (v0 : Int32) (S : Mem) : Option (Int64 × Mem) :=
  if v0 = 0 then
  (some ((0 : Int64), S))
  else
  (some ((1 : Int64), S))

set_option maxHeartbeats 4000000 in
set_option maxRecDepth 100000 in
theorem c_X10_is {sk : Skel} {v0 : Int32} {S : Mem} {r : Int64} {Sf : Mem} (h : f_X10_is v0 S = some (r, Sf)) : MetL yX10_is cX10_is 1 (some .long) 0 [.int v0] sk S r Sf := by
  refine MetL.intro (by decide +kernel) (Nat.le_of_ble_eq_true rfl) (fun X loc hX hQ => ?_)
  unfold f_X10_is at h
  show AW X sk loc 0 0 0 [(0, .int v0)] [] S
  refine aw_iload_n (pc := 0) hX dX10_is_0 rfl 0 rfl ?_
  refine aw_if_eq (pc := 1) hX (tgt := 8) dX10_is_1 (by decide) (fun c1 => ?_) (fun c1 => ?_)
  · rw [if_pos c1] at h
    refine aw_lconst (v := (0 : Int64)) (pc := 8) hX dX10_is_8 (by decide) ?_
    cases h
    exact aw_lret hX hQ dX10_is_9
  · rw [if_neg c1] at h
    refine aw_lconst (v := (1 : Int64)) (pc := 4) hX dX10_is_4 (by decide) ?_
    refine aw_goto (tgt := 9) (pc := 5) hX dX10_is_5 (by decide) ?_
    cases h
    exact aw_lret hX hQ dX10_is_9

def f_X10_works_407 (v6 : Int64) (S : Mem) : Option (Int32 × Mem) :=
  (wrL S 15 64 ((S.1 0 30) - (1 : Int32)) v6).bind fun S419 =>
  if (1000000000000 : Int64) < v6 then
  (some ((0 : Int32), S419))
  else
  (if v6 < (-1000000000000 : Int64) then
  (some ((0 : Int32), S419))
  else
  (some ((1 : Int32), S419)))

def f_X10_works_212 (v2 : Int64) (v4 : Int64) (S : Mem) : Option (Int32 × Mem) :=
  f_X10_works_407 (v4 * v2) S

def f_X10_works_250 (t0 : Int32) (S : Mem) : Option (Int32 × Mem) :=
  bnd (f_X10_is t0 S) fun r250 S250 =>
  f_X10_works_407 r250 S250

def f_X10_works_290 (t0 : Int32) (S : Mem) : Option (Int32 × Mem) :=
  bnd (f_X10_is t0 S) fun r290 S290 =>
  f_X10_works_407 r290 S290

def f_X10_works_270 (t0 : Int32) (S : Mem) : Option (Int32 × Mem) :=
  bnd (f_X10_is t0 S) fun r270 S270 =>
  f_X10_works_407 r270 S270

def f_X10_works_310 (t0 : Int32) (S : Mem) : Option (Int32 × Mem) :=
  bnd (f_X10_is t0 S) fun r310 S310 =>
  f_X10_works_407 r310 S310

def f_X10_works_350 (t0 : Int32) (S : Mem) : Option (Int32 × Mem) :=
  bnd (f_X10_is t0 S) fun r350 S350 =>
  f_X10_works_407 r350 S350

def f_X10_works_330 (t0 : Int32) (S : Mem) : Option (Int32 × Mem) :=
  bnd (f_X10_is t0 S) fun r330 S330 =>
  f_X10_works_407 r330 S330

def f_X10_works_376 (t0 : Int32) (S : Mem) : Option (Int32 × Mem) :=
  bnd (f_X10_is t0 S) fun r376 S376 =>
  f_X10_works_407 r376 S376

def f_X10_works_375 (S : Mem) : Option (Int32 × Mem) :=
  f_X10_works_376 (0 : Int32) S

def f_X10_works_402 (t0 : Int32) (S : Mem) : Option (Int32 × Mem) :=
  bnd (f_X10_is t0 S) fun r402 S402 =>
  f_X10_works_407 r402 S402

def f_X10_works_397 (S : Mem) : Option (Int32 × Mem) :=
  f_X10_works_402 (1 : Int32) S

def f_X10_works_40 (t1 : Int32) (t2 : Int32) (S : Mem) : Option (Int32 × Mem) :=
  bnd (f_X10_is t2 S) fun r40 S40 =>
  (wrL S40 15 64 t1 r40).bind fun S43 =>
  some ((1 : Int32), S43)

def f_X10_works (v1 : Int32) (S : Mem) : Option (Int32 × Mem) :=
  (rdL S 15 64 ((S.1 0 30) - (1 : Int32))).bind fun x10 =>
  if v1 = (260 : Int32) then
  (if x10 = (0 : Int64) then
  (f_X10_works_40 ((S.1 0 30) - (1 : Int32)) (1 : Int32) S)
  else
  (f_X10_works_40 ((S.1 0 30) - (1 : Int32)) (0 : Int32) S))
  else
  ((rdL S 15 64 ((S.1 0 30) - (2 : Int32))).bind fun x56 =>
  nxt (sI S 0 30 ((S.1 0 30) - (1 : Int32))) fun S66 =>
  if v1 = 42 then
  (if x56 = (0 : Int64) then
  (f_X10_works_212 x10 x56 S66)
  else
  (bnd (f_J9_abs_067f4 x10 S66) fun r194 S194 =>
  bnd (f_J9_abs_067f4 x56 S194) fun r202 S202 =>
  (dvL (1000000000000 : Int64) r202).bind fun x205 =>
  if r194 ≤ x205 then
  (f_X10_works_212 x10 x56 S202)
  else
  (some ((0 : Int32), S202))))
  else
  (if v1 = 43 then
  (f_X10_works_407 (x56 + x10) S66)
  else
  (if v1 = 45 then
  (f_X10_works_407 (x56 - x10) S66)
  else
  (if v1 = 47 then
  (if x10 = (0 : Int64) then
  (some ((0 : Int32), S66))
  else
  ((dvL x56 x10).bind fun x232 =>
  f_X10_works_407 x232 S66))
  else
  (if v1 = 60 then
  (if x10 ≤ x56 then
  (f_X10_works_250 (0 : Int32) S66)
  else
  (f_X10_works_250 (1 : Int32) S66))
  else
  (if v1 = 61 then
  (if x56 = x10 then
  (f_X10_works_290 (1 : Int32) S66)
  else
  (f_X10_works_290 (0 : Int32) S66))
  else
  (if v1 = 62 then
  (if x56 ≤ x10 then
  (f_X10_works_270 (0 : Int32) S66)
  else
  (f_X10_works_270 (1 : Int32) S66))
  else
  (if v1 = 256 then
  (if x10 < x56 then
  (f_X10_works_310 (0 : Int32) S66)
  else
  (f_X10_works_310 (1 : Int32) S66))
  else
  (if v1 = 257 then
  (if x56 = x10 then
  (f_X10_works_350 (0 : Int32) S66)
  else
  (f_X10_works_350 (1 : Int32) S66))
  else
  (if v1 = 258 then
  (if x56 < x10 then
  (f_X10_works_330 (0 : Int32) S66)
  else
  (f_X10_works_330 (1 : Int32) S66))
  else
  (if v1 = 261 then
  (if x56 = (0 : Int64) then
  (f_X10_works_375 S66)
  else
  (if x10 = (0 : Int64) then
  (f_X10_works_375 S66)
  else
  (f_X10_works_376 (1 : Int32) S66)))
  else
  (if x56 = (0 : Int64) then
  (if x10 = (0 : Int64) then
  (f_X10_works_402 (0 : Int32) S66)
  else
  (f_X10_works_397 S66))
  else
  (f_X10_works_397 S66)))))))))))))

set_option maxHeartbeats 4000000 in
set_option maxRecDepth 100000 in
theorem c_X10_works_407 {X : XT} {loc : Nat → Nat} {r : Int32} {Sf : Mem} (hX : AC X loc RX10 cX10_works (some .boolean) 8 1 0 0) (hQ : RetI X SKM loc 0 0 r Sf) (v6 : Int64) (S : Mem) (h : f_X10_works_407 v6 S = some (r, Sf)) : AW X SKM loc 0 0 407 [(0, .ref 0), (6, .long v6)] [] S := by
  unfold f_X10_works_407 at h
  refine aw_aload_n (pc := 407) hX dX10_works_407 rfl 0 rfl ?_
  refine gf_X10_57 (pc := 408) hX km0 rfl dX10_works_408 ?_
  refine aw_aload_n (pc := 411) hX dX10_works_411 rfl 0 rfl ?_
  refine gf_X10_287 (pc := 412) hX km0 rfl dX10_works_412 ?_
  refine aw_iconst (v := (1 : Int32)) (pc := 415) hX dX10_works_415 (by decide) ?_
  refine aw_isub (pc := 416) hX dX10_works_416 ?_
  refine aw_lload (pc := 417) hX dX10_works_417 1 rfl ?_
  obtain ⟨S419, hS419, h⟩ := ob h
  refine aw_last (pc := 419) hX km15 hS419 dX10_works_419 ?_
  refine aw_lload (pc := 420) hX dX10_works_420 1 rfl ?_
  refine aw_ldc2 (v := (1000000000000 : Int64)) (pc := 422) hX kw_7_89 dX10_works_422 ?_
  refine aw_lcmp (pc := 425) hX dX10_works_425 ?_
  refine aw_if_gt (pc := 426) hX (tgt := 442) dX10_works_426 (by decide) (fun c426 => ?_) (fun c426 => ?_)
  · rw [if_pos (lc_gt.mp c426)] at h
    refine aw_iconst (v := (0 : Int32)) (pc := 442) hX dX10_works_442 (by decide) ?_
    cases h
    exact aw_zret hX hQ (by decide) dX10_works_443
  · rw [if_neg (fun q => c426 (lc_gt.mpr q))] at h
    refine aw_lload (pc := 429) hX dX10_works_429 1 rfl ?_
    refine aw_ldc2 (v := (-1000000000000 : Int64)) (pc := 431) hX kw_7_90 dX10_works_431 ?_
    refine aw_lcmp (pc := 434) hX dX10_works_434 ?_
    refine aw_if_lt (pc := 435) hX (tgt := 442) dX10_works_435 (by decide) (fun c435 => ?_) (fun c435 => ?_)
    · rw [if_pos (lc_lt.mp c435)] at h
      refine aw_iconst (v := (0 : Int32)) (pc := 442) hX dX10_works_442 (by decide) ?_
      cases h
      exact aw_zret hX hQ (by decide) dX10_works_443
    · rw [if_neg (fun q => c435 (lc_lt.mpr q))] at h
      refine aw_iconst (v := (1 : Int32)) (pc := 438) hX dX10_works_438 (by decide) ?_
      refine aw_goto (tgt := 443) (pc := 439) hX dX10_works_439 (by decide) ?_
      cases h
      exact aw_zret hX hQ (by decide) dX10_works_443

set_option maxHeartbeats 4000000 in
set_option maxRecDepth 100000 in
theorem c_X10_works_212 {X : XT} {loc : Nat → Nat} {r : Int32} {Sf : Mem} (hX : AC X loc RX10 cX10_works (some .boolean) 8 1 0 0) (hQ : RetI X SKM loc 0 0 r Sf) (v2 : Int64) (v4 : Int64) (S : Mem) (h : f_X10_works_212 v2 v4 S = some (r, Sf)) : AW X SKM loc 0 0 212 [(0, .ref 0), (2, .long v2), (4, .long v4)] [] S := by
  unfold f_X10_works_212 at h
  refine aw_lload (pc := 212) hX dX10_works_212 2 rfl ?_
  refine aw_lload_n (pc := 214) hX dX10_works_214 rfl 1 rfl ?_
  refine aw_lmul (pc := 215) hX dX10_works_215 ?_
  refine aw_lstore (ls' := [(6, .long (v4 * v2)), (0, .ref 0), (2, .long v2), (4, .long v4)]) (pc := 216) hX dX10_works_216 (by decide) rfl ?_
  refine aw_goto (tgt := 407) (pc := 218) hX dX10_works_218 (by decide) ?_
  refine aw_sub (ls' := [(0, .ref 0), (6, .long (v4 * v2))]) [1, 0] rfl ?_
  exact c_X10_works_407 hX hQ (v4 * v2) S h

set_option maxHeartbeats 4000000 in
set_option maxRecDepth 100000 in
theorem c_X10_works_250 {X : XT} {loc : Nat → Nat} {r : Int32} {Sf : Mem} (hX : AC X loc RX10 cX10_works (some .boolean) 8 1 0 0) (hQ : RetI X SKM loc 0 0 r Sf) (t0 : Int32) (S : Mem) (h : f_X10_works_250 t0 S = some (r, Sf)) : AW X SKM loc 0 0 250 [(0, .ref 0)] [.int t0] S := by
  unfold f_X10_works_250 at h
  obtain ⟨r250, S250, hr250, h⟩ := ob2 h
  refine aw_cSL (pc := 250) (As := [.int t0]) (rest := []) hX (c_X10_is (sk := SKM) hr250) ok_X10_is kw_7_83 st_X10_is rfl (by decide) (Nat.le_of_ble_eq_true rfl) rfl dX10_works_250 (Nat.le_refl 0) (Nat.le_refl 0) ?_
  refine aw_lstore (ls' := [(6, .long r250), (0, .ref 0)]) (pc := 253) hX dX10_works_253 (by decide) rfl ?_
  refine aw_goto (tgt := 407) (pc := 255) hX dX10_works_255 (by decide) ?_
  refine aw_sub (ls' := [(0, .ref 0), (6, .long r250)]) [1, 0] rfl ?_
  exact c_X10_works_407 hX hQ r250 S250 h

set_option maxHeartbeats 4000000 in
set_option maxRecDepth 100000 in
theorem c_X10_works_290 {X : XT} {loc : Nat → Nat} {r : Int32} {Sf : Mem} (hX : AC X loc RX10 cX10_works (some .boolean) 8 1 0 0) (hQ : RetI X SKM loc 0 0 r Sf) (t0 : Int32) (S : Mem) (h : f_X10_works_290 t0 S = some (r, Sf)) : AW X SKM loc 0 0 290 [(0, .ref 0)] [.int t0] S := by
  unfold f_X10_works_290 at h
  obtain ⟨r290, S290, hr290, h⟩ := ob2 h
  refine aw_cSL (pc := 290) (As := [.int t0]) (rest := []) hX (c_X10_is (sk := SKM) hr290) ok_X10_is kw_7_83 st_X10_is rfl (by decide) (Nat.le_of_ble_eq_true rfl) rfl dX10_works_290 (Nat.le_refl 0) (Nat.le_refl 0) ?_
  refine aw_lstore (ls' := [(6, .long r290), (0, .ref 0)]) (pc := 293) hX dX10_works_293 (by decide) rfl ?_
  refine aw_goto (tgt := 407) (pc := 295) hX dX10_works_295 (by decide) ?_
  refine aw_sub (ls' := [(0, .ref 0), (6, .long r290)]) [1, 0] rfl ?_
  exact c_X10_works_407 hX hQ r290 S290 h

set_option maxHeartbeats 4000000 in
set_option maxRecDepth 100000 in
theorem c_X10_works_270 {X : XT} {loc : Nat → Nat} {r : Int32} {Sf : Mem} (hX : AC X loc RX10 cX10_works (some .boolean) 8 1 0 0) (hQ : RetI X SKM loc 0 0 r Sf) (t0 : Int32) (S : Mem) (h : f_X10_works_270 t0 S = some (r, Sf)) : AW X SKM loc 0 0 270 [(0, .ref 0)] [.int t0] S := by
  unfold f_X10_works_270 at h
  obtain ⟨r270, S270, hr270, h⟩ := ob2 h
  refine aw_cSL (pc := 270) (As := [.int t0]) (rest := []) hX (c_X10_is (sk := SKM) hr270) ok_X10_is kw_7_83 st_X10_is rfl (by decide) (Nat.le_of_ble_eq_true rfl) rfl dX10_works_270 (Nat.le_refl 0) (Nat.le_refl 0) ?_
  refine aw_lstore (ls' := [(6, .long r270), (0, .ref 0)]) (pc := 273) hX dX10_works_273 (by decide) rfl ?_
  refine aw_goto (tgt := 407) (pc := 275) hX dX10_works_275 (by decide) ?_
  refine aw_sub (ls' := [(0, .ref 0), (6, .long r270)]) [1, 0] rfl ?_
  exact c_X10_works_407 hX hQ r270 S270 h

set_option maxHeartbeats 4000000 in
set_option maxRecDepth 100000 in
theorem c_X10_works_310 {X : XT} {loc : Nat → Nat} {r : Int32} {Sf : Mem} (hX : AC X loc RX10 cX10_works (some .boolean) 8 1 0 0) (hQ : RetI X SKM loc 0 0 r Sf) (t0 : Int32) (S : Mem) (h : f_X10_works_310 t0 S = some (r, Sf)) : AW X SKM loc 0 0 310 [(0, .ref 0)] [.int t0] S := by
  unfold f_X10_works_310 at h
  obtain ⟨r310, S310, hr310, h⟩ := ob2 h
  refine aw_cSL (pc := 310) (As := [.int t0]) (rest := []) hX (c_X10_is (sk := SKM) hr310) ok_X10_is kw_7_83 st_X10_is rfl (by decide) (Nat.le_of_ble_eq_true rfl) rfl dX10_works_310 (Nat.le_refl 0) (Nat.le_refl 0) ?_
  refine aw_lstore (ls' := [(6, .long r310), (0, .ref 0)]) (pc := 313) hX dX10_works_313 (by decide) rfl ?_
  refine aw_goto (tgt := 407) (pc := 315) hX dX10_works_315 (by decide) ?_
  refine aw_sub (ls' := [(0, .ref 0), (6, .long r310)]) [1, 0] rfl ?_
  exact c_X10_works_407 hX hQ r310 S310 h

set_option maxHeartbeats 4000000 in
set_option maxRecDepth 100000 in
theorem c_X10_works_350 {X : XT} {loc : Nat → Nat} {r : Int32} {Sf : Mem} (hX : AC X loc RX10 cX10_works (some .boolean) 8 1 0 0) (hQ : RetI X SKM loc 0 0 r Sf) (t0 : Int32) (S : Mem) (h : f_X10_works_350 t0 S = some (r, Sf)) : AW X SKM loc 0 0 350 [(0, .ref 0)] [.int t0] S := by
  unfold f_X10_works_350 at h
  obtain ⟨r350, S350, hr350, h⟩ := ob2 h
  refine aw_cSL (pc := 350) (As := [.int t0]) (rest := []) hX (c_X10_is (sk := SKM) hr350) ok_X10_is kw_7_83 st_X10_is rfl (by decide) (Nat.le_of_ble_eq_true rfl) rfl dX10_works_350 (Nat.le_refl 0) (Nat.le_refl 0) ?_
  refine aw_lstore (ls' := [(6, .long r350), (0, .ref 0)]) (pc := 353) hX dX10_works_353 (by decide) rfl ?_
  refine aw_goto (tgt := 407) (pc := 355) hX dX10_works_355 (by decide) ?_
  refine aw_sub (ls' := [(0, .ref 0), (6, .long r350)]) [1, 0] rfl ?_
  exact c_X10_works_407 hX hQ r350 S350 h

set_option maxHeartbeats 4000000 in
set_option maxRecDepth 100000 in
theorem c_X10_works_330 {X : XT} {loc : Nat → Nat} {r : Int32} {Sf : Mem} (hX : AC X loc RX10 cX10_works (some .boolean) 8 1 0 0) (hQ : RetI X SKM loc 0 0 r Sf) (t0 : Int32) (S : Mem) (h : f_X10_works_330 t0 S = some (r, Sf)) : AW X SKM loc 0 0 330 [(0, .ref 0)] [.int t0] S := by
  unfold f_X10_works_330 at h
  obtain ⟨r330, S330, hr330, h⟩ := ob2 h
  refine aw_cSL (pc := 330) (As := [.int t0]) (rest := []) hX (c_X10_is (sk := SKM) hr330) ok_X10_is kw_7_83 st_X10_is rfl (by decide) (Nat.le_of_ble_eq_true rfl) rfl dX10_works_330 (Nat.le_refl 0) (Nat.le_refl 0) ?_
  refine aw_lstore (ls' := [(6, .long r330), (0, .ref 0)]) (pc := 333) hX dX10_works_333 (by decide) rfl ?_
  refine aw_goto (tgt := 407) (pc := 335) hX dX10_works_335 (by decide) ?_
  refine aw_sub (ls' := [(0, .ref 0), (6, .long r330)]) [1, 0] rfl ?_
  exact c_X10_works_407 hX hQ r330 S330 h

set_option maxHeartbeats 4000000 in
set_option maxRecDepth 100000 in
theorem c_X10_works_376 {X : XT} {loc : Nat → Nat} {r : Int32} {Sf : Mem} (hX : AC X loc RX10 cX10_works (some .boolean) 8 1 0 0) (hQ : RetI X SKM loc 0 0 r Sf) (t0 : Int32) (S : Mem) (h : f_X10_works_376 t0 S = some (r, Sf)) : AW X SKM loc 0 0 376 [(0, .ref 0)] [.int t0] S := by
  unfold f_X10_works_376 at h
  obtain ⟨r376, S376, hr376, h⟩ := ob2 h
  refine aw_cSL (pc := 376) (As := [.int t0]) (rest := []) hX (c_X10_is (sk := SKM) hr376) ok_X10_is kw_7_83 st_X10_is rfl (by decide) (Nat.le_of_ble_eq_true rfl) rfl dX10_works_376 (Nat.le_refl 0) (Nat.le_refl 0) ?_
  refine aw_lstore (ls' := [(6, .long r376), (0, .ref 0)]) (pc := 379) hX dX10_works_379 (by decide) rfl ?_
  refine aw_goto (tgt := 407) (pc := 381) hX dX10_works_381 (by decide) ?_
  refine aw_sub (ls' := [(0, .ref 0), (6, .long r376)]) [1, 0] rfl ?_
  exact c_X10_works_407 hX hQ r376 S376 h

set_option maxHeartbeats 4000000 in
set_option maxRecDepth 100000 in
theorem c_X10_works_375 {X : XT} {loc : Nat → Nat} {r : Int32} {Sf : Mem} (hX : AC X loc RX10 cX10_works (some .boolean) 8 1 0 0) (hQ : RetI X SKM loc 0 0 r Sf) (S : Mem) (h : f_X10_works_375 S = some (r, Sf)) : AW X SKM loc 0 0 375 [(0, .ref 0)] [] S := by
  unfold f_X10_works_375 at h
  refine aw_iconst (v := (0 : Int32)) (pc := 375) hX dX10_works_375 (by decide) ?_
  exact c_X10_works_376 hX hQ (0 : Int32) S h

set_option maxHeartbeats 4000000 in
set_option maxRecDepth 100000 in
theorem c_X10_works_402 {X : XT} {loc : Nat → Nat} {r : Int32} {Sf : Mem} (hX : AC X loc RX10 cX10_works (some .boolean) 8 1 0 0) (hQ : RetI X SKM loc 0 0 r Sf) (t0 : Int32) (S : Mem) (h : f_X10_works_402 t0 S = some (r, Sf)) : AW X SKM loc 0 0 402 [(0, .ref 0)] [.int t0] S := by
  unfold f_X10_works_402 at h
  obtain ⟨r402, S402, hr402, h⟩ := ob2 h
  refine aw_cSL (pc := 402) (As := [.int t0]) (rest := []) hX (c_X10_is (sk := SKM) hr402) ok_X10_is kw_7_83 st_X10_is rfl (by decide) (Nat.le_of_ble_eq_true rfl) rfl dX10_works_402 (Nat.le_refl 0) (Nat.le_refl 0) ?_
  refine aw_lstore (ls' := [(6, .long r402), (0, .ref 0)]) (pc := 405) hX dX10_works_405 (by decide) rfl ?_
  refine aw_sub (ls' := [(0, .ref 0), (6, .long r402)]) [1, 0] rfl ?_
  exact c_X10_works_407 hX hQ r402 S402 h

set_option maxHeartbeats 4000000 in
set_option maxRecDepth 100000 in
theorem c_X10_works_397 {X : XT} {loc : Nat → Nat} {r : Int32} {Sf : Mem} (hX : AC X loc RX10 cX10_works (some .boolean) 8 1 0 0) (hQ : RetI X SKM loc 0 0 r Sf) (S : Mem) (h : f_X10_works_397 S = some (r, Sf)) : AW X SKM loc 0 0 397 [(0, .ref 0)] [] S := by
  unfold f_X10_works_397 at h
  refine aw_iconst (v := (1 : Int32)) (pc := 397) hX dX10_works_397 (by decide) ?_
  refine aw_goto (tgt := 402) (pc := 398) hX dX10_works_398 (by decide) ?_
  exact c_X10_works_402 hX hQ (1 : Int32) S h

set_option maxHeartbeats 4000000 in
set_option maxRecDepth 100000 in
theorem c_X10_works_40 {X : XT} {loc : Nat → Nat} {r : Int32} {Sf : Mem} (hX : AC X loc RX10 cX10_works (some .boolean) 8 1 0 0) (hQ : RetI X SKM loc 0 0 r Sf) (t1 : Int32) (t2 : Int32) (S : Mem) (h : f_X10_works_40 t1 t2 S = some (r, Sf)) : AW X SKM loc 0 0 40 [] [.int t2, .int t1, .ref 15] S := by
  unfold f_X10_works_40 at h
  obtain ⟨r40, S40, hr40, h⟩ := ob2 h
  refine aw_cSL (pc := 40) (As := [.int t2]) (rest := [.int t1, .ref 15]) hX (c_X10_is (sk := SKM) hr40) ok_X10_is kw_7_83 st_X10_is rfl (by decide) (Nat.le_of_ble_eq_true rfl) rfl dX10_works_40 (Nat.le_refl 0) (Nat.le_refl 0) ?_
  obtain ⟨S43, hS43, h⟩ := ob h
  refine aw_last (pc := 43) hX km15 hS43 dX10_works_43 ?_
  refine aw_iconst (v := (1 : Int32)) (pc := 44) hX dX10_works_44 (by decide) ?_
  cases h
  exact aw_zret hX hQ (by decide) dX10_works_45

set_option maxHeartbeats 4000000 in
set_option maxRecDepth 100000 in
theorem c_X10_works {v1 : Int32} {S : Mem} {r : Int32} {Sf : Mem} (h : f_X10_works v1 S = some (r, Sf)) : MetI yX10_works cX10_works 8 (some .boolean) 1 [.ref 0, .int v1] SKM S r Sf := by
  refine MetI.intro (by decide +kernel) (Nat.le_of_ble_eq_true rfl) (fun X loc hX hQ => ?_)
  unfold f_X10_works at h
  show AW X SKM loc 0 0 0 [(0, .ref 0), (1, .int v1)] [] S
  refine aw_aload_n (pc := 0) hX dX10_works_0 rfl 0 rfl ?_
  refine gf_X10_57 (pc := 1) hX km0 rfl dX10_works_1 ?_
  refine aw_aload_n (pc := 4) hX dX10_works_4 rfl 0 rfl ?_
  refine gf_X10_287 (pc := 5) hX km0 rfl dX10_works_5 ?_
  refine aw_iconst (v := (1 : Int32)) (pc := 8) hX dX10_works_8 (by decide) ?_
  refine aw_isub (pc := 9) hX dX10_works_9 ?_
  obtain ⟨x10, hx10, h⟩ := ob h
  refine aw_lald (pc := 10) hX km15 hx10 dX10_works_10 ?_
  refine aw_lstore_n (ls' := [(2, .long x10), (0, .ref 0), (1, .int v1)]) (pc := 11) hX dX10_works_11 rfl (by decide) rfl ?_
  refine aw_iload_n (pc := 12) hX dX10_works_12 rfl 2 rfl ?_
  refine aw_sipush (v := (260 : Int32)) (pc := 13) hX dX10_works_13 (by decide) ?_
  refine aw_icmp_ne (pc := 16) hX (tgt := 46) dX10_works_16 (by decide) (fun c16 => ?_) (fun c16 => ?_)
  · rw [if_neg c16] at h
    refine aw_aload_n (pc := 46) hX dX10_works_46 rfl 1 rfl ?_
    refine gf_X10_57 (pc := 47) hX km0 rfl dX10_works_47 ?_
    refine aw_aload_n (pc := 50) hX dX10_works_50 rfl 1 rfl ?_
    refine gf_X10_287 (pc := 51) hX km0 rfl dX10_works_51 ?_
    refine aw_iconst (v := (2 : Int32)) (pc := 54) hX dX10_works_54 (by decide) ?_
    refine aw_isub (pc := 55) hX dX10_works_55 ?_
    obtain ⟨x56, hx56, h⟩ := ob h
    refine aw_lald (pc := 56) hX km15 hx56 dX10_works_56 ?_
    refine aw_lstore (ls' := [(4, .long x56), (2, .long x10), (0, .ref 0), (1, .int v1)]) (pc := 57) hX dX10_works_57 (by decide) rfl ?_
    refine aw_aload_n (pc := 59) hX dX10_works_59 rfl 2 rfl ?_
    refine aw_dup (pc := 60) hX dX10_works_60 rfl ?_
    refine gf_X10_287 (pc := 61) hX km0 rfl dX10_works_61 ?_
    refine aw_iconst (v := (1 : Int32)) (pc := 64) hX dX10_works_64 (by decide) ?_
    refine aw_isub (pc := 65) hX dX10_works_65 ?_
    refine pf_X10_287 (pc := 66) hX km0 rfl dX10_works_66 ?_
    obtain ⟨S66, eS66, h⟩ := on h
    refine aw_S eS66 ?_
    refine aw_iload_n (pc := 69) hX dX10_works_69 rfl 3 rfl ?_
    by_cases c70_0 : v1 = 42
    · rw [if_pos c70_0] at h
      refine aw_look (pc := 70) hX (off := 116) (tgt := 186) dX10_works_70 (by decide) (by rw [c70_0]; decide) (by decide) ?_
      refine aw_lload (pc := 186) hX dX10_works_186 0 rfl ?_
      refine aw_lconst (v := (0 : Int64)) (pc := 188) hX dX10_works_188 (by decide) ?_
      refine aw_lcmp (pc := 189) hX dX10_works_189 ?_
      refine aw_if_eq (pc := 190) hX (tgt := 212) dX10_works_190 (by decide) (fun c190 => ?_) (fun c190 => ?_)
      · rw [if_pos (lc_eq.mp c190)] at h
        refine aw_sub (ls' := [(0, .ref 0), (2, .long x10), (4, .long x56)]) [2, 1, 0] rfl ?_
        exact c_X10_works_212 hX hQ x10 x56 S66 h
      · rw [if_neg (fun q => c190 (lc_eq.mpr q))] at h
        refine aw_lload_n (pc := 193) hX dX10_works_193 rfl 1 rfl ?_
        obtain ⟨r194, S194, hr194, h⟩ := ob2 h
        refine aw_cSL (pc := 194) (As := [.long x10]) (rest := []) hX (c_J9_abs_067f4 (sk := SKM) hr194) ok_J9_abs_067f4 kw_7_86 st_J9_abs_067f4 rfl (by decide) (Nat.le_of_ble_eq_true rfl) rfl dX10_works_194 (Nat.le_refl 0) (Nat.le_refl 0) ?_
        refine aw_ldc2 (v := (1000000000000 : Int64)) (pc := 197) hX kw_7_89 dX10_works_197 ?_
        refine aw_lload (pc := 200) hX dX10_works_200 0 rfl ?_
        obtain ⟨r202, S202, hr202, h⟩ := ob2 h
        refine aw_cSL (pc := 202) (As := [.long x56]) (rest := [.long (1000000000000 : Int64), .long r194]) hX (c_J9_abs_067f4 (sk := SKM) hr202) ok_J9_abs_067f4 kw_7_86 st_J9_abs_067f4 rfl (by decide) (Nat.le_of_ble_eq_true rfl) rfl dX10_works_202 (Nat.le_refl 0) (Nat.le_refl 0) ?_
        obtain ⟨x205, hx205, h⟩ := ob h
        refine aw_ldiv (pc := 205) hX dX10_works_205 hx205 ?_
        refine aw_lcmp (pc := 206) hX dX10_works_206 ?_
        refine aw_if_le (pc := 207) hX (tgt := 212) dX10_works_207 (by decide) (fun c207 => ?_) (fun c207 => ?_)
        · rw [if_pos (lc_le.mp c207)] at h
          refine aw_sub (ls' := [(0, .ref 0), (2, .long x10), (4, .long x56)]) [2, 1, 0] rfl ?_
          exact c_X10_works_212 hX hQ x10 x56 S202 h
        · rw [if_neg (fun q => c207 (lc_le.mpr q))] at h
          refine aw_iconst (v := (0 : Int32)) (pc := 210) hX dX10_works_210 (by decide) ?_
          cases h
          exact aw_zret hX hQ (by decide) dX10_works_211
    · rw [if_neg c70_0] at h
      by_cases c70_1 : v1 = 43
      · rw [if_pos c70_1] at h
        refine aw_look (pc := 70) hX (off := 98) (tgt := 168) dX10_works_70 (by decide) (by rw [c70_1]; decide) (by decide) ?_
        refine aw_lload (pc := 168) hX dX10_works_168 0 rfl ?_
        refine aw_lload_n (pc := 170) hX dX10_works_170 rfl 1 rfl ?_
        refine aw_ladd (pc := 171) hX dX10_works_171 ?_
        refine aw_lstore (ls' := [(6, .long (x56 + x10)), (4, .long x56), (2, .long x10), (0, .ref 0), (1, .int v1)]) (pc := 172) hX dX10_works_172 (by decide) rfl ?_
        refine aw_goto (tgt := 407) (pc := 174) hX dX10_works_174 (by decide) ?_
        refine aw_sub (ls' := [(0, .ref 0), (6, .long (x56 + x10))]) [3, 0] rfl ?_
        exact c_X10_works_407 hX hQ (x56 + x10) S66 h
      · rw [if_neg c70_1] at h
        by_cases c70_2 : v1 = 45
        · rw [if_pos c70_2] at h
          refine aw_look (pc := 70) hX (off := 107) (tgt := 177) dX10_works_70 (by decide) (by rw [c70_2]; decide) (by decide) ?_
          refine aw_lload (pc := 177) hX dX10_works_177 0 rfl ?_
          refine aw_lload_n (pc := 179) hX dX10_works_179 rfl 1 rfl ?_
          refine aw_lsub (pc := 180) hX dX10_works_180 ?_
          refine aw_lstore (ls' := [(6, .long (x56 - x10)), (4, .long x56), (2, .long x10), (0, .ref 0), (1, .int v1)]) (pc := 181) hX dX10_works_181 (by decide) rfl ?_
          refine aw_goto (tgt := 407) (pc := 183) hX dX10_works_183 (by decide) ?_
          refine aw_sub (ls' := [(0, .ref 0), (6, .long (x56 - x10))]) [3, 0] rfl ?_
          exact c_X10_works_407 hX hQ (x56 - x10) S66 h
        · rw [if_neg c70_2] at h
          by_cases c70_3 : v1 = 47
          · rw [if_pos c70_3] at h
            refine aw_look (pc := 70) hX (off := 151) (tgt := 221) dX10_works_70 (by decide) (by rw [c70_3]; decide) (by decide) ?_
            refine aw_lload_n (pc := 221) hX dX10_works_221 rfl 1 rfl ?_
            refine aw_lconst (v := (0 : Int64)) (pc := 222) hX dX10_works_222 (by decide) ?_
            refine aw_lcmp (pc := 223) hX dX10_works_223 ?_
            refine aw_if_ne (pc := 224) hX (tgt := 229) dX10_works_224 (by decide) (fun c224 => ?_) (fun c224 => ?_)
            · rw [if_neg (fun q => c224 (lc_eq.mpr q))] at h
              refine aw_lload (pc := 229) hX dX10_works_229 0 rfl ?_
              refine aw_lload_n (pc := 231) hX dX10_works_231 rfl 1 rfl ?_
              obtain ⟨x232, hx232, h⟩ := ob h
              refine aw_ldiv (pc := 232) hX dX10_works_232 hx232 ?_
              refine aw_lstore (ls' := [(6, .long x232), (4, .long x56), (2, .long x10), (0, .ref 0), (1, .int v1)]) (pc := 233) hX dX10_works_233 (by decide) rfl ?_
              refine aw_goto (tgt := 407) (pc := 235) hX dX10_works_235 (by decide) ?_
              refine aw_sub (ls' := [(0, .ref 0), (6, .long x232)]) [3, 0] rfl ?_
              exact c_X10_works_407 hX hQ x232 S66 h
            · rw [if_pos (lc_eq.mp c224)] at h
              refine aw_iconst (v := (0 : Int32)) (pc := 227) hX dX10_works_227 (by decide) ?_
              cases h
              exact aw_zret hX hQ (by decide) dX10_works_228
          · rw [if_neg c70_3] at h
            by_cases c70_4 : v1 = 60
            · rw [if_pos c70_4] at h
              refine aw_look (pc := 70) hX (off := 168) (tgt := 238) dX10_works_70 (by decide) (by rw [c70_4]; decide) (by decide) ?_
              refine aw_lload (pc := 238) hX dX10_works_238 0 rfl ?_
              refine aw_lload_n (pc := 240) hX dX10_works_240 rfl 1 rfl ?_
              refine aw_lcmp (pc := 241) hX dX10_works_241 ?_
              refine aw_if_ge (pc := 242) hX (tgt := 249) dX10_works_242 (by decide) (fun c242 => ?_) (fun c242 => ?_)
              · rw [if_pos (lc_ge.mp c242)] at h
                refine aw_iconst (v := (0 : Int32)) (pc := 249) hX dX10_works_249 (by decide) ?_
                refine aw_sub (ls' := [(0, .ref 0)]) [2] rfl ?_
                exact c_X10_works_250 hX hQ (0 : Int32) S66 h
              · rw [if_neg (fun q => c242 (lc_ge.mpr q))] at h
                refine aw_iconst (v := (1 : Int32)) (pc := 245) hX dX10_works_245 (by decide) ?_
                refine aw_goto (tgt := 250) (pc := 246) hX dX10_works_246 (by decide) ?_
                refine aw_sub (ls' := [(0, .ref 0)]) [2] rfl ?_
                exact c_X10_works_250 hX hQ (1 : Int32) S66 h
            · rw [if_neg c70_4] at h
              by_cases c70_5 : v1 = 61
              · rw [if_pos c70_5] at h
                refine aw_look (pc := 70) hX (off := 208) (tgt := 278) dX10_works_70 (by decide) (by rw [c70_5]; decide) (by decide) ?_
                refine aw_lload (pc := 278) hX dX10_works_278 0 rfl ?_
                refine aw_lload_n (pc := 280) hX dX10_works_280 rfl 1 rfl ?_
                refine aw_lcmp (pc := 281) hX dX10_works_281 ?_
                refine aw_if_ne (pc := 282) hX (tgt := 289) dX10_works_282 (by decide) (fun c282 => ?_) (fun c282 => ?_)
                · rw [if_neg (fun q => c282 (lc_eq.mpr q))] at h
                  refine aw_iconst (v := (0 : Int32)) (pc := 289) hX dX10_works_289 (by decide) ?_
                  refine aw_sub (ls' := [(0, .ref 0)]) [2] rfl ?_
                  exact c_X10_works_290 hX hQ (0 : Int32) S66 h
                · rw [if_pos (lc_eq.mp c282)] at h
                  refine aw_iconst (v := (1 : Int32)) (pc := 285) hX dX10_works_285 (by decide) ?_
                  refine aw_goto (tgt := 290) (pc := 286) hX dX10_works_286 (by decide) ?_
                  refine aw_sub (ls' := [(0, .ref 0)]) [2] rfl ?_
                  exact c_X10_works_290 hX hQ (1 : Int32) S66 h
              · rw [if_neg c70_5] at h
                by_cases c70_6 : v1 = 62
                · rw [if_pos c70_6] at h
                  refine aw_look (pc := 70) hX (off := 188) (tgt := 258) dX10_works_70 (by decide) (by rw [c70_6]; decide) (by decide) ?_
                  refine aw_lload (pc := 258) hX dX10_works_258 0 rfl ?_
                  refine aw_lload_n (pc := 260) hX dX10_works_260 rfl 1 rfl ?_
                  refine aw_lcmp (pc := 261) hX dX10_works_261 ?_
                  refine aw_if_le (pc := 262) hX (tgt := 269) dX10_works_262 (by decide) (fun c262 => ?_) (fun c262 => ?_)
                  · rw [if_pos (lc_le.mp c262)] at h
                    refine aw_iconst (v := (0 : Int32)) (pc := 269) hX dX10_works_269 (by decide) ?_
                    refine aw_sub (ls' := [(0, .ref 0)]) [2] rfl ?_
                    exact c_X10_works_270 hX hQ (0 : Int32) S66 h
                  · rw [if_neg (fun q => c262 (lc_le.mpr q))] at h
                    refine aw_iconst (v := (1 : Int32)) (pc := 265) hX dX10_works_265 (by decide) ?_
                    refine aw_goto (tgt := 270) (pc := 266) hX dX10_works_266 (by decide) ?_
                    refine aw_sub (ls' := [(0, .ref 0)]) [2] rfl ?_
                    exact c_X10_works_270 hX hQ (1 : Int32) S66 h
                · rw [if_neg c70_6] at h
                  by_cases c70_7 : v1 = 256
                  · rw [if_pos c70_7] at h
                    refine aw_look (pc := 70) hX (off := 228) (tgt := 298) dX10_works_70 (by decide) (by rw [c70_7]; decide) (by decide) ?_
                    refine aw_lload (pc := 298) hX dX10_works_298 0 rfl ?_
                    refine aw_lload_n (pc := 300) hX dX10_works_300 rfl 1 rfl ?_
                    refine aw_lcmp (pc := 301) hX dX10_works_301 ?_
                    refine aw_if_gt (pc := 302) hX (tgt := 309) dX10_works_302 (by decide) (fun c302 => ?_) (fun c302 => ?_)
                    · rw [if_pos (lc_gt.mp c302)] at h
                      refine aw_iconst (v := (0 : Int32)) (pc := 309) hX dX10_works_309 (by decide) ?_
                      refine aw_sub (ls' := [(0, .ref 0)]) [2] rfl ?_
                      exact c_X10_works_310 hX hQ (0 : Int32) S66 h
                    · rw [if_neg (fun q => c302 (lc_gt.mpr q))] at h
                      refine aw_iconst (v := (1 : Int32)) (pc := 305) hX dX10_works_305 (by decide) ?_
                      refine aw_goto (tgt := 310) (pc := 306) hX dX10_works_306 (by decide) ?_
                      refine aw_sub (ls' := [(0, .ref 0)]) [2] rfl ?_
                      exact c_X10_works_310 hX hQ (1 : Int32) S66 h
                  · rw [if_neg c70_7] at h
                    by_cases c70_8 : v1 = 257
                    · rw [if_pos c70_8] at h
                      refine aw_look (pc := 70) hX (off := 268) (tgt := 338) dX10_works_70 (by decide) (by rw [c70_8]; decide) (by decide) ?_
                      refine aw_lload (pc := 338) hX dX10_works_338 0 rfl ?_
                      refine aw_lload_n (pc := 340) hX dX10_works_340 rfl 1 rfl ?_
                      refine aw_lcmp (pc := 341) hX dX10_works_341 ?_
                      refine aw_if_eq (pc := 342) hX (tgt := 349) dX10_works_342 (by decide) (fun c342 => ?_) (fun c342 => ?_)
                      · rw [if_pos (lc_eq.mp c342)] at h
                        refine aw_iconst (v := (0 : Int32)) (pc := 349) hX dX10_works_349 (by decide) ?_
                        refine aw_sub (ls' := [(0, .ref 0)]) [2] rfl ?_
                        exact c_X10_works_350 hX hQ (0 : Int32) S66 h
                      · rw [if_neg (fun q => c342 (lc_eq.mpr q))] at h
                        refine aw_iconst (v := (1 : Int32)) (pc := 345) hX dX10_works_345 (by decide) ?_
                        refine aw_goto (tgt := 350) (pc := 346) hX dX10_works_346 (by decide) ?_
                        refine aw_sub (ls' := [(0, .ref 0)]) [2] rfl ?_
                        exact c_X10_works_350 hX hQ (1 : Int32) S66 h
                    · rw [if_neg c70_8] at h
                      by_cases c70_9 : v1 = 258
                      · rw [if_pos c70_9] at h
                        refine aw_look (pc := 70) hX (off := 248) (tgt := 318) dX10_works_70 (by decide) (by rw [c70_9]; decide) (by decide) ?_
                        refine aw_lload (pc := 318) hX dX10_works_318 0 rfl ?_
                        refine aw_lload_n (pc := 320) hX dX10_works_320 rfl 1 rfl ?_
                        refine aw_lcmp (pc := 321) hX dX10_works_321 ?_
                        refine aw_if_lt (pc := 322) hX (tgt := 329) dX10_works_322 (by decide) (fun c322 => ?_) (fun c322 => ?_)
                        · rw [if_pos (lc_lt.mp c322)] at h
                          refine aw_iconst (v := (0 : Int32)) (pc := 329) hX dX10_works_329 (by decide) ?_
                          refine aw_sub (ls' := [(0, .ref 0)]) [2] rfl ?_
                          exact c_X10_works_330 hX hQ (0 : Int32) S66 h
                        · rw [if_neg (fun q => c322 (lc_lt.mpr q))] at h
                          refine aw_iconst (v := (1 : Int32)) (pc := 325) hX dX10_works_325 (by decide) ?_
                          refine aw_goto (tgt := 330) (pc := 326) hX dX10_works_326 (by decide) ?_
                          refine aw_sub (ls' := [(0, .ref 0)]) [2] rfl ?_
                          exact c_X10_works_330 hX hQ (1 : Int32) S66 h
                      · rw [if_neg c70_9] at h
                        by_cases c70_10 : v1 = 261
                        · rw [if_pos c70_10] at h
                          refine aw_look (pc := 70) hX (off := 288) (tgt := 358) dX10_works_70 (by decide) (by rw [c70_10]; decide) (by decide) ?_
                          refine aw_lload (pc := 358) hX dX10_works_358 0 rfl ?_
                          refine aw_lconst (v := (0 : Int64)) (pc := 360) hX dX10_works_360 (by decide) ?_
                          refine aw_lcmp (pc := 361) hX dX10_works_361 ?_
                          refine aw_if_eq (pc := 362) hX (tgt := 375) dX10_works_362 (by decide) (fun c362 => ?_) (fun c362 => ?_)
                          · rw [if_pos (lc_eq.mp c362)] at h
                            refine aw_sub (ls' := [(0, .ref 0)]) [2] rfl ?_
                            exact c_X10_works_375 hX hQ S66 h
                          · rw [if_neg (fun q => c362 (lc_eq.mpr q))] at h
                            refine aw_lload_n (pc := 365) hX dX10_works_365 rfl 1 rfl ?_
                            refine aw_lconst (v := (0 : Int64)) (pc := 366) hX dX10_works_366 (by decide) ?_
                            refine aw_lcmp (pc := 367) hX dX10_works_367 ?_
                            refine aw_if_eq (pc := 368) hX (tgt := 375) dX10_works_368 (by decide) (fun c368 => ?_) (fun c368 => ?_)
                            · rw [if_pos (lc_eq.mp c368)] at h
                              refine aw_sub (ls' := [(0, .ref 0)]) [2] rfl ?_
                              exact c_X10_works_375 hX hQ S66 h
                            · rw [if_neg (fun q => c368 (lc_eq.mpr q))] at h
                              refine aw_iconst (v := (1 : Int32)) (pc := 371) hX dX10_works_371 (by decide) ?_
                              refine aw_goto (tgt := 376) (pc := 372) hX dX10_works_372 (by decide) ?_
                              refine aw_sub (ls' := [(0, .ref 0)]) [2] rfl ?_
                              exact c_X10_works_376 hX hQ (1 : Int32) S66 h
                        · rw [if_neg c70_10] at h
                          refine aw_look (pc := 70) hX (off := 314) (tgt := 384) dX10_works_70 (by decide) (by have e0 := ne_i c70_0 (by decide : (42 : Int32).toInt = 42); have e1 := ne_i c70_1 (by decide : (43 : Int32).toInt = 43); have e2 := ne_i c70_2 (by decide : (45 : Int32).toInt = 45); have e3 := ne_i c70_3 (by decide : (47 : Int32).toInt = 47); have e4 := ne_i c70_4 (by decide : (60 : Int32).toInt = 60); have e5 := ne_i c70_5 (by decide : (61 : Int32).toInt = 61); have e6 := ne_i c70_6 (by decide : (62 : Int32).toInt = 62); have e7 := ne_i c70_7 (by decide : (256 : Int32).toInt = 256); have e8 := ne_i c70_8 (by decide : (257 : Int32).toInt = 257); have e9 := ne_i c70_9 (by decide : (258 : Int32).toInt = 258); have e10 := ne_i c70_10 (by decide : (261 : Int32).toInt = 261); exact lk_out (by simp; omega)) (by decide) ?_
                          refine aw_lload (pc := 384) hX dX10_works_384 0 rfl ?_
                          refine aw_lconst (v := (0 : Int64)) (pc := 386) hX dX10_works_386 (by decide) ?_
                          refine aw_lcmp (pc := 387) hX dX10_works_387 ?_
                          refine aw_if_ne (pc := 388) hX (tgt := 397) dX10_works_388 (by decide) (fun c388 => ?_) (fun c388 => ?_)
                          · rw [if_neg (fun q => c388 (lc_eq.mpr q))] at h
                            refine aw_sub (ls' := [(0, .ref 0)]) [2] rfl ?_
                            exact c_X10_works_397 hX hQ S66 h
                          · rw [if_pos (lc_eq.mp c388)] at h
                            refine aw_lload_n (pc := 391) hX dX10_works_391 rfl 1 rfl ?_
                            refine aw_lconst (v := (0 : Int64)) (pc := 392) hX dX10_works_392 (by decide) ?_
                            refine aw_lcmp (pc := 393) hX dX10_works_393 ?_
                            refine aw_if_eq (pc := 394) hX (tgt := 401) dX10_works_394 (by decide) (fun c394 => ?_) (fun c394 => ?_)
                            · rw [if_pos (lc_eq.mp c394)] at h
                              refine aw_iconst (v := (0 : Int32)) (pc := 401) hX dX10_works_401 (by decide) ?_
                              refine aw_sub (ls' := [(0, .ref 0)]) [2] rfl ?_
                              exact c_X10_works_402 hX hQ (0 : Int32) S66 h
                            · rw [if_neg (fun q => c394 (lc_eq.mpr q))] at h
                              refine aw_sub (ls' := [(0, .ref 0)]) [2] rfl ?_
                              exact c_X10_works_397 hX hQ S66 h
  · rw [if_pos c16] at h
    refine aw_aload_n (pc := 19) hX dX10_works_19 rfl 1 rfl ?_
    refine gf_X10_57 (pc := 20) hX km0 rfl dX10_works_20 ?_
    refine aw_aload_n (pc := 23) hX dX10_works_23 rfl 1 rfl ?_
    refine gf_X10_287 (pc := 24) hX km0 rfl dX10_works_24 ?_
    refine aw_iconst (v := (1 : Int32)) (pc := 27) hX dX10_works_27 (by decide) ?_
    refine aw_isub (pc := 28) hX dX10_works_28 ?_
    refine aw_lload_n (pc := 29) hX dX10_works_29 rfl 0 rfl ?_
    refine aw_lconst (v := (0 : Int64)) (pc := 30) hX dX10_works_30 (by decide) ?_
    refine aw_lcmp (pc := 31) hX dX10_works_31 ?_
    refine aw_if_ne (pc := 32) hX (tgt := 39) dX10_works_32 (by decide) (fun c32 => ?_) (fun c32 => ?_)
    · rw [if_neg (fun q => c32 (lc_eq.mpr q))] at h
      refine aw_iconst (v := (0 : Int32)) (pc := 39) hX dX10_works_39 (by decide) ?_
      refine aw_sub (ls' := []) [] rfl ?_
      exact c_X10_works_40 hX hQ ((S.1 0 30) - (1 : Int32)) (0 : Int32) S h
    · rw [if_pos (lc_eq.mp c32)] at h
      refine aw_iconst (v := (1 : Int32)) (pc := 35) hX dX10_works_35 (by decide) ?_
      refine aw_goto (tgt := 40) (pc := 36) hX dX10_works_36 (by decide) ?_
      refine aw_sub (ls' := []) [] rfl ?_
      exact c_X10_works_40 hX hQ ((S.1 0 30) - (1 : Int32)) (1 : Int32) S h

def f_X10_goes_85 (R12 : Int32 → Int32 → Mem → Option (Int32 × Mem)) (v1 : Int32) (v2 : Int32) (t1 : Int32) (t2 : Int64) (S : Mem) : Option (Int32 × Mem) :=
  (wrL S 15 64 t1 t2).bind fun S85 =>
  nxt (sI S85 0 30 ((S85.1 0 30) + (1 : Int32))) fun S93 =>
  R12 v1 (v2 + 1) S93

def f_X10_goes_12 : Nat → Int32 → Int32 → Mem → Option (Int32 × Mem)
  | 0, _, _, _ => none
  | n + 1, v1, v2, S =>
  (rd S 11 6 v1).bind fun x18 =>
  if x18 ≤ v2 then
  (some ((1 : Int32), S))
  else
  ((rd S 12 128 v2).bind fun x27 =>
  if x27 = (2 : Int32) then
  ((rd S 13 128 v2).bind fun x38 =>
  bnd (f_X10_works x38 S) fun r39 S39 =>
  if r39 = 0 then
  (some ((0 : Int32), S39))
  else
  (f_X10_goes_12 n v1 (v2 + 1) S39))
  else
  ((rd S 12 128 v2).bind fun x60 =>
  if x60 = 0 then
  ((rd S 13 128 v2).bind fun x69 =>
  f_X10_goes_85 (f_X10_goes_12 n) v1 v2 (S.1 0 30) ((x69).toInt64) S)
  else
  ((rd S 13 128 v2).bind fun x83 =>
  (rdL S 14 7 x83).bind fun x84 =>
  f_X10_goes_85 (f_X10_goes_12 n) v1 v2 (S.1 0 30) x84 S)))

def f_X10_goes (v1 : Int32) (S : Mem) : Option (Int32 × Mem) :=
  nxt (sI S 0 30 (0 : Int32)) fun S2 =>
  (rd S2 10 6 v1).bind fun x10 =>
  f_X10_goes_12 FU v1 x10 S2

set_option maxHeartbeats 4000000 in
set_option maxRecDepth 100000 in
theorem c_X10_goes_85 {X : XT} {loc : Nat → Nat} {r : Int32} {Sf : Mem} (hX : AC X loc RX10 cX10_goes (some .boolean) 3 2 0 0) (hQ : RetI X SKM loc 0 0 r Sf) {R12 : Int32 → Int32 → Mem → Option (Int32 × Mem)} (IH12 : ∀ (v1 : Int32) (v2 : Int32) (S : Mem), R12 v1 v2 S = some (r, Sf) → AW X SKM loc 0 0 12 [(0, .ref 0), (1, .int v1), (2, .int v2)] [] S) (v1 : Int32) (v2 : Int32) (t1 : Int32) (t2 : Int64) (S : Mem) (h : f_X10_goes_85 R12 v1 v2 t1 t2 S = some (r, Sf)) : AW X SKM loc 0 0 85 [(0, .ref 0), (1, .int v1), (2, .int v2)] [.long t2, .int t1, .ref 15] S := by
  unfold f_X10_goes_85 at h
  obtain ⟨S85, hS85, h⟩ := ob h
  refine aw_last (pc := 85) hX km15 hS85 dX10_goes_85 ?_
  refine aw_aload_n (pc := 86) hX dX10_goes_86 rfl 0 rfl ?_
  refine aw_dup (pc := 87) hX dX10_goes_87 rfl ?_
  refine gf_X10_287 (pc := 88) hX km0 rfl dX10_goes_88 ?_
  refine aw_iconst (v := (1 : Int32)) (pc := 91) hX dX10_goes_91 (by decide) ?_
  refine aw_iadd (pc := 92) hX dX10_goes_92 ?_
  refine pf_X10_287 (pc := 93) hX km0 rfl dX10_goes_93 ?_
  obtain ⟨S93, eS93, h⟩ := on h
  refine aw_S eS93 ?_
  refine aw_iinc (v := (v2 + 1)) (ls' := [(2, .int (v2 + 1)), (0, .ref 0), (1, .int v1)]) (pc := 96) hX dX10_goes_96 (pos := 2) rfl (by first | rfl | decide) (by decide) rfl ?_
  refine aw_goto (tgt := 12) (pc := 99) hX dX10_goes_99 (by decide) ?_
  refine aw_sub (ls' := [(0, .ref 0), (1, .int v1), (2, .int (v2 + 1))]) [1, 2, 0] rfl ?_
  exact IH12 v1 (v2 + 1) S93 h

set_option maxHeartbeats 4000000 in
set_option maxRecDepth 100000 in
theorem c_X10_goes_12 {X : XT} {loc : Nat → Nat} {r : Int32} {Sf : Mem} (hX : AC X loc RX10 cX10_goes (some .boolean) 3 2 0 0) (hQ : RetI X SKM loc 0 0 r Sf) : ∀ (n : Nat) (v1 : Int32) (v2 : Int32) (S : Mem), f_X10_goes_12 n v1 v2 S = some (r, Sf) → AW X SKM loc 0 0 12 [(0, .ref 0), (1, .int v1), (2, .int v2)] [] S := by
  intro n
  induction n with
  | zero => intro v1 v2 S h; cases h
  | succ n ih =>
    intro v1 v2 S h
    unfold f_X10_goes_12 at h
    refine aw_iload_n (pc := 12) hX dX10_goes_12 rfl 2 rfl ?_
    refine aw_aload_n (pc := 13) hX dX10_goes_13 rfl 0 rfl ?_
    refine gf_X10_40 (pc := 14) hX km0 rfl dX10_goes_14 ?_
    refine aw_iload_n (pc := 17) hX dX10_goes_17 rfl 1 rfl ?_
    obtain ⟨x18, hx18, h⟩ := ob h
    refine aw_iald (pc := 18) hX km11 hx18 dX10_goes_18 ?_
    refine aw_icmp_ge (pc := 19) hX (tgt := 102) dX10_goes_19 (by decide) (fun c19 => ?_) (fun c19 => ?_)
    · rw [if_pos c19] at h
      refine aw_iconst (v := (1 : Int32)) (pc := 102) hX dX10_goes_102 (by decide) ?_
      cases h
      exact aw_zret hX hQ (by decide) dX10_goes_103
    · rw [if_neg c19] at h
      refine aw_aload_n (pc := 22) hX dX10_goes_22 rfl 0 rfl ?_
      refine gf_X10_43 (pc := 23) hX km0 rfl dX10_goes_23 ?_
      refine aw_iload_n (pc := 26) hX dX10_goes_26 rfl 2 rfl ?_
      obtain ⟨x27, hx27, h⟩ := ob h
      refine aw_iald (pc := 27) hX km12 hx27 dX10_goes_27 ?_
      refine aw_iconst (v := (2 : Int32)) (pc := 28) hX dX10_goes_28 (by decide) ?_
      refine aw_icmp_ne (pc := 29) hX (tgt := 47) dX10_goes_29 (by decide) (fun c29 => ?_) (fun c29 => ?_)
      · rw [if_neg c29] at h
        refine aw_aload_n (pc := 47) hX dX10_goes_47 rfl 0 rfl ?_
        refine gf_X10_57 (pc := 48) hX km0 rfl dX10_goes_48 ?_
        refine aw_aload_n (pc := 51) hX dX10_goes_51 rfl 0 rfl ?_
        refine gf_X10_287 (pc := 52) hX km0 rfl dX10_goes_52 ?_
        refine aw_aload_n (pc := 55) hX dX10_goes_55 rfl 0 rfl ?_
        refine gf_X10_43 (pc := 56) hX km0 rfl dX10_goes_56 ?_
        refine aw_iload_n (pc := 59) hX dX10_goes_59 rfl 2 rfl ?_
        obtain ⟨x60, hx60, h⟩ := ob h
        refine aw_iald (pc := 60) hX km12 hx60 dX10_goes_60 ?_
        refine aw_if_ne (pc := 61) hX (tgt := 74) dX10_goes_61 (by decide) (fun c61 => ?_) (fun c61 => ?_)
        · rw [if_neg c61] at h
          refine aw_aload_n (pc := 74) hX dX10_goes_74 rfl 0 rfl ?_
          refine gf_X10_53 (pc := 75) hX km0 rfl dX10_goes_75 ?_
          refine aw_aload_n (pc := 78) hX dX10_goes_78 rfl 0 rfl ?_
          refine gf_X10_46 (pc := 79) hX km0 rfl dX10_goes_79 ?_
          refine aw_iload_n (pc := 82) hX dX10_goes_82 rfl 2 rfl ?_
          obtain ⟨x83, hx83, h⟩ := ob h
          refine aw_iald (pc := 83) hX km13 hx83 dX10_goes_83 ?_
          obtain ⟨x84, hx84, h⟩ := ob h
          refine aw_lald (pc := 84) hX km14 hx84 dX10_goes_84 ?_
          exact c_X10_goes_85 hX hQ ih v1 v2 (S.1 0 30) x84 S h
        · rw [if_pos c61] at h
          refine aw_aload_n (pc := 64) hX dX10_goes_64 rfl 0 rfl ?_
          refine gf_X10_46 (pc := 65) hX km0 rfl dX10_goes_65 ?_
          refine aw_iload_n (pc := 68) hX dX10_goes_68 rfl 2 rfl ?_
          obtain ⟨x69, hx69, h⟩ := ob h
          refine aw_iald (pc := 69) hX km13 hx69 dX10_goes_69 ?_
          refine aw_i2l (pc := 70) hX dX10_goes_70 ?_
          refine aw_goto (tgt := 85) (pc := 71) hX dX10_goes_71 (by decide) ?_
          exact c_X10_goes_85 hX hQ ih v1 v2 (S.1 0 30) ((x69).toInt64) S h
      · rw [if_pos c29] at h
        refine aw_aload_n (pc := 32) hX dX10_goes_32 rfl 0 rfl ?_
        refine aw_aload_n (pc := 33) hX dX10_goes_33 rfl 0 rfl ?_
        refine gf_X10_46 (pc := 34) hX km0 rfl dX10_goes_34 ?_
        refine aw_iload_n (pc := 37) hX dX10_goes_37 rfl 2 rfl ?_
        obtain ⟨x38, hx38, h⟩ := ob h
        refine aw_iald (pc := 38) hX km13 hx38 dX10_goes_38 ?_
        obtain ⟨r39, S39, hr39, h⟩ := ob2 h
        refine aw_cVI (pc := 39) (As := [.int x38]) (rest := []) hX (c_X10_works hr39) ok_X10_works kw_7_79 im_X10_works se_X10_works rfl km0 rfl (by decide) (Nat.le_of_ble_eq_true rfl) rfl dX10_goes_39 (Nat.le_refl 0) (Nat.le_refl 0) ?_
        refine aw_if_ne (pc := 42) hX (tgt := 96) dX10_goes_42 (by decide) (fun c42 => ?_) (fun c42 => ?_)
        · rw [if_neg c42] at h
          refine aw_iinc (v := (v2 + 1)) (ls' := [(2, .int (v2 + 1)), (0, .ref 0), (1, .int v1)]) (pc := 96) hX dX10_goes_96 (pos := 2) rfl (by first | rfl | decide) (by decide) rfl ?_
          refine aw_goto (tgt := 12) (pc := 99) hX dX10_goes_99 (by decide) ?_
          refine aw_sub (ls' := [(0, .ref 0), (1, .int v1), (2, .int (v2 + 1))]) [1, 2, 0] rfl ?_
          exact ih v1 (v2 + 1) S39 h
        · rw [if_pos c42] at h
          refine aw_iconst (v := (0 : Int32)) (pc := 45) hX dX10_goes_45 (by decide) ?_
          cases h
          exact aw_zret hX hQ (by decide) dX10_goes_46

set_option maxHeartbeats 4000000 in
set_option maxRecDepth 100000 in
theorem c_X10_goes {v1 : Int32} {S : Mem} {r : Int32} {Sf : Mem} (h : f_X10_goes v1 S = some (r, Sf)) : MetI yX10_goes cX10_goes 3 (some .boolean) 2 [.ref 0, .int v1] SKM S r Sf := by
  refine MetI.intro (by decide +kernel) (Nat.le_of_ble_eq_true rfl) (fun X loc hX hQ => ?_)
  unfold f_X10_goes at h
  show AW X SKM loc 0 0 0 [(0, .ref 0), (1, .int v1)] [] S
  refine aw_aload_n (pc := 0) hX dX10_goes_0 rfl 0 rfl ?_
  refine aw_iconst (v := (0 : Int32)) (pc := 1) hX dX10_goes_1 (by decide) ?_
  refine pf_X10_287 (pc := 2) hX km0 rfl dX10_goes_2 ?_
  obtain ⟨S2, eS2, h⟩ := on h
  refine aw_S eS2 ?_
  refine aw_aload_n (pc := 5) hX dX10_goes_5 rfl 0 rfl ?_
  refine gf_X10_37 (pc := 6) hX km0 rfl dX10_goes_6 ?_
  refine aw_iload_n (pc := 9) hX dX10_goes_9 rfl 1 rfl ?_
  obtain ⟨x10, hx10, h⟩ := ob h
  refine aw_iald (pc := 10) hX km10 hx10 dX10_goes_10 ?_
  refine aw_istore_n (ls' := [(2, .int x10), (0, .ref 0), (1, .int v1)]) (pc := 11) hX dX10_goes_11 rfl (by decide) rfl ?_
  refine aw_sub (ls' := [(0, .ref 0), (1, .int v1), (2, .int x10)]) [1, 2, 0] rfl ?_
  exact c_X10_goes_12 hX hQ FU v1 x10 S2 h

def f_X10_hasLaw (v1 : Int32) (S : Mem) : Option (Int32 × Mem) :=
  (rd S 11 6 v1).bind fun x5 =>
  (rd S 10 6 v1).bind fun x11 =>
  if x5 ≤ x11 then
  (some ((0 : Int32), S))
  else
  (some ((1 : Int32), S))

set_option maxHeartbeats 4000000 in
set_option maxRecDepth 100000 in
theorem c_X10_hasLaw {v1 : Int32} {S : Mem} {r : Int32} {Sf : Mem} (h : f_X10_hasLaw v1 S = some (r, Sf)) : MetI yX10_hasLaw cX10_hasLaw 2 (some .boolean) 0 [.ref 0, .int v1] SKM S r Sf := by
  refine MetI.intro (by decide +kernel) (Nat.le_of_ble_eq_true rfl) (fun X loc hX hQ => ?_)
  unfold f_X10_hasLaw at h
  show AW X SKM loc 0 0 0 [(0, .ref 0), (1, .int v1)] [] S
  refine aw_aload_n (pc := 0) hX dX10_hasLaw_0 rfl 0 rfl ?_
  refine gf_X10_40 (pc := 1) hX km0 rfl dX10_hasLaw_1 ?_
  refine aw_iload_n (pc := 4) hX dX10_hasLaw_4 rfl 1 rfl ?_
  obtain ⟨x5, hx5, h⟩ := ob h
  refine aw_iald (pc := 5) hX km11 hx5 dX10_hasLaw_5 ?_
  refine aw_aload_n (pc := 6) hX dX10_hasLaw_6 rfl 0 rfl ?_
  refine gf_X10_37 (pc := 7) hX km0 rfl dX10_hasLaw_7 ?_
  refine aw_iload_n (pc := 10) hX dX10_hasLaw_10 rfl 1 rfl ?_
  obtain ⟨x11, hx11, h⟩ := ob h
  refine aw_iald (pc := 11) hX km10 hx11 dX10_hasLaw_11 ?_
  refine aw_icmp_le (pc := 12) hX (tgt := 19) dX10_hasLaw_12 (by decide) (fun c12 => ?_) (fun c12 => ?_)
  · rw [if_pos c12] at h
    refine aw_iconst (v := (0 : Int32)) (pc := 19) hX dX10_hasLaw_19 (by decide) ?_
    cases h
    exact aw_zret hX hQ (by decide) dX10_hasLaw_20
  · rw [if_neg c12] at h
    refine aw_iconst (v := (1 : Int32)) (pc := 15) hX dX10_hasLaw_15 (by decide) ?_
    refine aw_goto (tgt := 20) (pc := 16) hX dX10_hasLaw_16 (by decide) ?_
    cases h
    exact aw_zret hX hQ (by decide) dX10_hasLaw_20

def f_X10_within (v1 : Int32) (v2 : Int32) (v3 : Int32) (S : Mem) : Option (Int32 × Mem) :=
  bnd (f_X10_hasLaw v1 S) fun r2 S2 =>
  if r2 = 0 then
  (some (v3, S2))
  else
  (bnd (f_X10_goes v1 S2) fun r10 S10 =>
  if r10 = 0 then
  (some (v3, S10))
  else
  ((rdL S10 15 64 (0 : Int32)).bind fun x26 =>
  bnd (f_J9_min_f86c9 ((v2).toInt64) x26 S10) fun r27 S27 =>
  bnd (f_J9_max_f86c9 (0 : Int64) r27 S27) fun r30 S30 =>
  some (((r30).toInt32), S30)))

set_option maxHeartbeats 4000000 in
set_option maxRecDepth 100000 in
theorem c_X10_within {v1 : Int32} {v2 : Int32} {v3 : Int32} {S : Mem} {r : Int32} {Sf : Mem} (h : f_X10_within v1 v2 v3 S = some (r, Sf)) : MetI yX10_within cX10_within 4 (some .int) 3 [.ref 0, .int v1, .int v2, .int v3] SKM S r Sf := by
  refine MetI.intro (by decide +kernel) (Nat.le_of_ble_eq_true rfl) (fun X loc hX hQ => ?_)
  unfold f_X10_within at h
  show AW X SKM loc 0 0 0 [(0, .ref 0), (1, .int v1), (2, .int v2), (3, .int v3)] [] S
  refine aw_aload_n (pc := 0) hX dX10_within_0 rfl 0 rfl ?_
  refine aw_iload_n (pc := 1) hX dX10_within_1 rfl 1 rfl ?_
  obtain ⟨r2, S2, hr2, h⟩ := ob2 h
  refine aw_cVI (pc := 2) (As := [.int v1]) (rest := []) hX (c_X10_hasLaw hr2) ok_X10_hasLaw kw_7_71 im_X10_hasLaw se_X10_hasLaw rfl km0 rfl (by decide) (Nat.le_of_ble_eq_true rfl) rfl dX10_within_2 (Nat.le_refl 0) (Nat.le_refl 0) ?_
  refine aw_if_eq (pc := 5) hX (tgt := 16) dX10_within_5 (by decide) (fun c5 => ?_) (fun c5 => ?_)
  · rw [if_pos c5] at h
    refine aw_iload_n (pc := 16) hX dX10_within_16 rfl 3 rfl ?_
    cases h
    exact aw_iret hX hQ dX10_within_17
  · rw [if_neg c5] at h
    refine aw_aload_n (pc := 8) hX dX10_within_8 rfl 0 rfl ?_
    refine aw_iload_n (pc := 9) hX dX10_within_9 rfl 1 rfl ?_
    obtain ⟨r10, S10, hr10, h⟩ := ob2 h
    refine aw_cVI (pc := 10) (As := [.int v1]) (rest := []) hX (c_X10_goes hr10) ok_X10_goes kw_7_75 im_X10_goes se_X10_goes rfl km0 rfl (by decide) (Nat.le_of_ble_eq_true rfl) rfl dX10_within_10 (Nat.le_refl 0) (Nat.le_refl 0) ?_
    refine aw_if_ne (pc := 13) hX (tgt := 18) dX10_within_13 (by decide) (fun c13 => ?_) (fun c13 => ?_)
    · rw [if_neg c13] at h
      refine aw_lconst (v := (0 : Int64)) (pc := 18) hX dX10_within_18 (by decide) ?_
      refine aw_iload_n (pc := 19) hX dX10_within_19 rfl 2 rfl ?_
      refine aw_i2l (pc := 20) hX dX10_within_20 ?_
      refine aw_aload_n (pc := 21) hX dX10_within_21 rfl 0 rfl ?_
      refine gf_X10_57 (pc := 22) hX km0 rfl dX10_within_22 ?_
      refine aw_iconst (v := (0 : Int32)) (pc := 25) hX dX10_within_25 (by decide) ?_
      obtain ⟨x26, hx26, h⟩ := ob h
      refine aw_lald (pc := 26) hX km15 hx26 dX10_within_26 ?_
      obtain ⟨r27, S27, hr27, h⟩ := ob2 h
      refine aw_cSL (pc := 27) (As := [.long ((v2).toInt64), .long x26]) (rest := [.long (0 : Int64)]) hX (c_J9_min_f86c9 (sk := SKM) hr27) ok_J9_min_f86c9 kw_7_91 st_J9_min_f86c9 rfl (by decide) (Nat.le_of_ble_eq_true rfl) rfl dX10_within_27 (Nat.le_refl 0) (Nat.le_refl 0) ?_
      obtain ⟨r30, S30, hr30, h⟩ := ob2 h
      refine aw_cSL (pc := 30) (As := [.long (0 : Int64), .long r27]) (rest := []) hX (c_J9_max_f86c9 (sk := SKM) hr30) ok_J9_max_f86c9 kw_7_92 st_J9_max_f86c9 rfl (by decide) (Nat.le_of_ble_eq_true rfl) rfl dX10_within_30 (Nat.le_refl 0) (Nat.le_refl 0) ?_
      refine aw_l2i (pc := 33) hX dX10_within_33 ?_
      cases h
      exact aw_iret hX hQ dX10_within_34
    · rw [if_pos c13] at h
      refine aw_iload_n (pc := 16) hX dX10_within_16 rfl 3 rfl ?_
      cases h
      exact aw_iret hX hQ dX10_within_17

def f_X10_hurts (v1 : Int32) (v2 : Int32) (S : Mem) : Option Mem :=
  (rd S 22 230 (((10 : Int32) * v1) + v2)).bind fun x19 =>
  bnd (f_J9_min_7cf53 (9 : Int32) (x19 + (1 : Int32)) S) fun r22 S22 =>
  (wr S22 22 230 (((10 : Int32) * v1) + v2) r22).bind fun S25 =>
  nxt (sI S25 0 40 ((S25.1 0 40) ||| ((1 : Int32) <<< (v2 &&& 31)))) fun S35 =>
  (rd S35 21 230 (((10 : Int32) * v1) + v2)).bind fun x46 =>
  (f_X10_calls v1 v2 x46 S35).bind fun S47 =>
  bnd (f_X10_ownerOf v2 S47) fun r55 S55 =>
  (rd S55 19 46 (((2 : Int32) * v1) + r55)).bind fun x76 =>
  (rd S55 8 20 v2).bind fun x86 =>
  bnd (f_X10_within (1 : Int32) (99 : Int32) x86 S55) fun r87 S87 =>
  bnd (f_J9_min_7cf53 (999 : Int32) (x76 + r87) S87) fun r91 S91 =>
  (wr S91 19 46 (((2 : Int32) * v1) + r55) r91).bind fun S94 =>
  some S94

set_option maxHeartbeats 4000000 in
set_option maxRecDepth 100000 in
theorem c_X10_hurts {v1 : Int32} {v2 : Int32} {S : Mem} {Sf : Mem} (h : f_X10_hurts v1 v2 S = some Sf) : MetV yX10_hurts cX10_hurts 5 none 4 [.ref 0, .int v1, .int v2] SKM S Sf := by
  refine MetV.intro (by decide +kernel) (Nat.le_of_ble_eq_true rfl) (fun X loc hX hQ => ?_)
  unfold f_X10_hurts at h
  show AW X SKM loc 0 0 0 [(0, .ref 0), (1, .int v1), (2, .int v2)] [] S
  refine aw_bipush (v := (10 : Int32)) (pc := 0) hX dX10_hurts_0 (by decide) ?_
  refine aw_iload_n (pc := 2) hX dX10_hurts_2 rfl 1 rfl ?_
  refine aw_imul (pc := 3) hX dX10_hurts_3 ?_
  refine aw_iload_n (pc := 4) hX dX10_hurts_4 rfl 2 rfl ?_
  refine aw_iadd (pc := 5) hX dX10_hurts_5 ?_
  refine aw_istore_n (ls' := [(3, .int (((10 : Int32) * v1) + v2)), (0, .ref 0), (1, .int v1), (2, .int v2)]) (pc := 6) hX dX10_hurts_6 rfl (by decide) rfl ?_
  refine aw_aload_n (pc := 7) hX dX10_hurts_7 rfl 1 rfl ?_
  refine gf_X10_78 (pc := 8) hX km0 rfl dX10_hurts_8 ?_
  refine aw_iload_n (pc := 11) hX dX10_hurts_11 rfl 0 rfl ?_
  refine aw_bipush (v := (9 : Int32)) (pc := 12) hX dX10_hurts_12 (by decide) ?_
  refine aw_aload_n (pc := 14) hX dX10_hurts_14 rfl 1 rfl ?_
  refine gf_X10_78 (pc := 15) hX km0 rfl dX10_hurts_15 ?_
  refine aw_iload_n (pc := 18) hX dX10_hurts_18 rfl 0 rfl ?_
  obtain ⟨x19, hx19, h⟩ := ob h
  refine aw_iald (pc := 19) hX km22 hx19 dX10_hurts_19 ?_
  refine aw_iconst (v := (1 : Int32)) (pc := 20) hX dX10_hurts_20 (by decide) ?_
  refine aw_iadd (pc := 21) hX dX10_hurts_21 ?_
  obtain ⟨r22, S22, hr22, h⟩ := ob2 h
  refine aw_cSI (pc := 22) (As := [.int (9 : Int32), .int (x19 + (1 : Int32))]) (rest := [.int (((10 : Int32) * v1) + v2), .ref 22]) hX (c_J9_min_7cf53 (sk := SKM) hr22) ok_J9_min_7cf53 kw_7_148 st_J9_min_7cf53 rfl (by decide) (Nat.le_of_ble_eq_true rfl) rfl dX10_hurts_22 (Nat.le_refl 0) (Nat.le_refl 0) ?_
  obtain ⟨S25, hS25, h⟩ := ob h
  refine aw_iast (pc := 25) hX km22 hS25 dX10_hurts_25 ?_
  refine aw_aload_n (pc := 26) hX dX10_hurts_26 rfl 1 rfl ?_
  refine aw_dup (pc := 27) hX dX10_hurts_27 rfl ?_
  refine gf_X10_361 (pc := 28) hX km0 rfl dX10_hurts_28 ?_
  refine aw_iconst (v := (1 : Int32)) (pc := 31) hX dX10_hurts_31 (by decide) ?_
  refine aw_iload_n (pc := 32) hX dX10_hurts_32 rfl 3 rfl ?_
  refine aw_ishl (pc := 33) hX dX10_hurts_33 ?_
  refine aw_ior (pc := 34) hX dX10_hurts_34 ?_
  refine pf_X10_361 (pc := 35) hX km0 rfl dX10_hurts_35 ?_
  obtain ⟨S35, eS35, h⟩ := on h
  refine aw_S eS35 ?_
  refine aw_aload_n (pc := 38) hX dX10_hurts_38 rfl 1 rfl ?_
  refine aw_iload_n (pc := 39) hX dX10_hurts_39 rfl 2 rfl ?_
  refine aw_iload_n (pc := 40) hX dX10_hurts_40 rfl 3 rfl ?_
  refine aw_aload_n (pc := 41) hX dX10_hurts_41 rfl 1 rfl ?_
  refine gf_X10_75 (pc := 42) hX km0 rfl dX10_hurts_42 ?_
  refine aw_iload_n (pc := 45) hX dX10_hurts_45 rfl 0 rfl ?_
  obtain ⟨x46, hx46, h⟩ := ob h
  refine aw_iald (pc := 46) hX km21 hx46 dX10_hurts_46 ?_
  obtain ⟨S47, hr47, h⟩ := ob h
  refine aw_cVV (pc := 47) (As := [.int v1, .int v2, .int x46]) (rest := []) hX (c_X10_calls hr47) ok_X10_calls kw_7_58 im_X10_calls se_X10_calls rfl km0 rfl (by decide) (Nat.le_of_ble_eq_true rfl) rfl dX10_hurts_47 (Nat.le_refl 0) (Nat.le_refl 0) ?_
  refine aw_iconst (v := (2 : Int32)) (pc := 50) hX dX10_hurts_50 (by decide) ?_
  refine aw_iload_n (pc := 51) hX dX10_hurts_51 rfl 2 rfl ?_
  refine aw_imul (pc := 52) hX dX10_hurts_52 ?_
  refine aw_aload_n (pc := 53) hX dX10_hurts_53 rfl 1 rfl ?_
  refine aw_iload_n (pc := 54) hX dX10_hurts_54 rfl 3 rfl ?_
  obtain ⟨r55, S55, hr55, h⟩ := ob2 h
  refine aw_cVI (pc := 55) (As := [.int v2]) (rest := [.int ((2 : Int32) * v1)]) hX (c_X10_ownerOf hr55) ok_X10_ownerOf kw_7_15 im_X10_ownerOf se_X10_ownerOf rfl km0 rfl (by decide) (Nat.le_of_ble_eq_true rfl) rfl dX10_hurts_55 (Nat.le_refl 0) (Nat.le_refl 0) ?_
  refine aw_iadd (pc := 58) hX dX10_hurts_58 ?_
  refine aw_istore (ls' := [(4, .int (((2 : Int32) * v1) + r55)), (3, .int (((10 : Int32) * v1) + v2)), (0, .ref 0), (1, .int v1), (2, .int v2)]) (pc := 59) hX dX10_hurts_59 (by decide) rfl ?_
  refine aw_aload_n (pc := 61) hX dX10_hurts_61 rfl 2 rfl ?_
  refine gf_X10_69 (pc := 62) hX km0 rfl dX10_hurts_62 ?_
  refine aw_iload (pc := 65) hX dX10_hurts_65 0 rfl ?_
  refine aw_sipush (v := (999 : Int32)) (pc := 67) hX dX10_hurts_67 (by decide) ?_
  refine aw_aload_n (pc := 70) hX dX10_hurts_70 rfl 2 rfl ?_
  refine gf_X10_69 (pc := 71) hX km0 rfl dX10_hurts_71 ?_
  refine aw_iload (pc := 74) hX dX10_hurts_74 0 rfl ?_
  obtain ⟨x76, hx76, h⟩ := ob h
  refine aw_iald (pc := 76) hX km19 hx76 dX10_hurts_76 ?_
  refine aw_aload_n (pc := 77) hX dX10_hurts_77 rfl 2 rfl ?_
  refine aw_iconst (v := (1 : Int32)) (pc := 78) hX dX10_hurts_78 (by decide) ?_
  refine aw_bipush (v := (99 : Int32)) (pc := 79) hX dX10_hurts_79 (by decide) ?_
  refine aw_aload_n (pc := 81) hX dX10_hurts_81 rfl 2 rfl ?_
  refine gf_X10_31 (pc := 82) hX km0 rfl dX10_hurts_82 ?_
  refine aw_iload_n (pc := 85) hX dX10_hurts_85 rfl 4 rfl ?_
  obtain ⟨x86, hx86, h⟩ := ob h
  refine aw_iald (pc := 86) hX km8 hx86 dX10_hurts_86 ?_
  obtain ⟨r87, S87, hr87, h⟩ := ob2 h
  refine aw_cVI (pc := 87) (As := [.int (1 : Int32), .int (99 : Int32), .int x86]) (rest := [.int x76, .int (999 : Int32), .int (((2 : Int32) * v1) + r55), .ref 19]) hX (c_X10_within hr87) ok_X10_within kw_7_67 im_X10_within se_X10_within rfl km0 rfl (by decide) (Nat.le_of_ble_eq_true rfl) rfl dX10_hurts_87 (Nat.le_refl 0) (Nat.le_refl 0) ?_
  refine aw_iadd (pc := 90) hX dX10_hurts_90 ?_
  obtain ⟨r91, S91, hr91, h⟩ := ob2 h
  refine aw_cSI (pc := 91) (As := [.int (999 : Int32), .int (x76 + r87)]) (rest := [.int (((2 : Int32) * v1) + r55), .ref 19]) hX (c_J9_min_7cf53 (sk := SKM) hr91) ok_J9_min_7cf53 kw_7_148 st_J9_min_7cf53 rfl (by decide) (Nat.le_of_ble_eq_true rfl) rfl dX10_hurts_91 (Nat.le_refl 0) (Nat.le_refl 0) ?_
  obtain ⟨S94, hS94, h⟩ := ob h
  refine aw_iast (pc := 94) hX km19 hS94 dX10_hurts_94 ?_
  cases h
  exact aw_vret hX hQ dX10_hurts_95

def f_X10_answers (v1 : Int32) (v2 : Int32) (S : Mem) : Option Mem :=
  (rd S 19 46 (((2 : Int32) * v1) + v2)).bind fun x9 =>
  (rd S 2 14 (3 : Int32)).bind fun x15 =>
  if x9 < x15 then
  (some S)
  else
  (if (S.1 0 43) = (3 : Int32) then
  (some S)
  else
  (bnd (f_X10_answerOf v1 v2 S) fun r31 S31 =>
  if r31 = (-1 : Int32) then
  (some S31)
  else
  ((f_X10_hurts v1 r31 S31).bind fun S44 =>
  (wr S44 19 46 (((2 : Int32) * v1) + v2) (0 : Int32)).bind fun S57 =>
  (rd S57 20 46 (((2 : Int32) * v1) + v2)).bind fun x68 =>
  (wr S57 20 46 (((2 : Int32) * v1) + v2) (x68 + (1 : Int32))).bind fun S71 =>
  some S71)))

set_option maxHeartbeats 4000000 in
set_option maxRecDepth 100000 in
theorem c_X10_answers {v1 : Int32} {v2 : Int32} {S : Mem} {Sf : Mem} (h : f_X10_answers v1 v2 S = some Sf) : MetV yX10_answers cX10_answers 4 none 5 [.ref 0, .int v1, .int v2] SKM S Sf := by
  refine MetV.intro (by decide +kernel) (Nat.le_of_ble_eq_true rfl) (fun X loc hX hQ => ?_)
  unfold f_X10_answers at h
  show AW X SKM loc 0 0 0 [(0, .ref 0), (1, .int v1), (2, .int v2)] [] S
  refine aw_aload_n (pc := 0) hX dX10_answers_0 rfl 0 rfl ?_
  refine gf_X10_69 (pc := 1) hX km0 rfl dX10_answers_1 ?_
  refine aw_iconst (v := (2 : Int32)) (pc := 4) hX dX10_answers_4 (by decide) ?_
  refine aw_iload_n (pc := 5) hX dX10_answers_5 rfl 1 rfl ?_
  refine aw_imul (pc := 6) hX dX10_answers_6 ?_
  refine aw_iload_n (pc := 7) hX dX10_answers_7 rfl 2 rfl ?_
  refine aw_iadd (pc := 8) hX dX10_answers_8 ?_
  obtain ⟨x9, hx9, h⟩ := ob h
  refine aw_iald (pc := 9) hX km19 hx9 dX10_answers_9 ?_
  refine aw_aload_n (pc := 10) hX dX10_answers_10 rfl 0 rfl ?_
  refine gf_X10_13 (pc := 11) hX km0 rfl dX10_answers_11 ?_
  refine aw_iconst (v := (3 : Int32)) (pc := 14) hX dX10_answers_14 (by decide) ?_
  obtain ⟨x15, hx15, h⟩ := ob h
  refine aw_iald (pc := 15) hX km2 hx15 dX10_answers_15 ?_
  refine aw_icmp_lt (pc := 16) hX (tgt := 27) dX10_answers_16 (by decide) (fun c16 => ?_) (fun c16 => ?_)
  · rw [if_pos c16] at h
    cases h
    exact aw_vret hX hQ dX10_answers_27
  · rw [if_neg c16] at h
    refine aw_aload_n (pc := 19) hX dX10_answers_19 rfl 0 rfl ?_
    refine gf_X10_317 (pc := 20) hX km0 rfl dX10_answers_20 ?_
    refine aw_iconst (v := (3 : Int32)) (pc := 23) hX dX10_answers_23 (by decide) ?_
    refine aw_icmp_ne (pc := 24) hX (tgt := 28) dX10_answers_24 (by decide) (fun c24 => ?_) (fun c24 => ?_)
    · rw [if_neg c24] at h
      refine aw_aload_n (pc := 28) hX dX10_answers_28 rfl 0 rfl ?_
      refine aw_iload_n (pc := 29) hX dX10_answers_29 rfl 1 rfl ?_
      refine aw_iload_n (pc := 30) hX dX10_answers_30 rfl 2 rfl ?_
      obtain ⟨r31, S31, hr31, h⟩ := ob2 h
      refine aw_cVI (pc := 31) (As := [.int v1, .int v2]) (rest := []) hX (c_X10_answerOf hr31) ok_X10_answerOf kw_7_153 im_X10_answerOf se_X10_answerOf rfl km0 rfl (by decide) (Nat.le_of_ble_eq_true rfl) rfl dX10_answers_31 (Nat.le_refl 0) (Nat.le_refl 0) ?_
      refine aw_istore_n (ls' := [(3, .int r31), (0, .ref 0), (1, .int v1), (2, .int v2)]) (pc := 34) hX dX10_answers_34 rfl (by decide) rfl ?_
      refine aw_iload_n (pc := 35) hX dX10_answers_35 rfl 0 rfl ?_
      refine aw_iconst (v := (-1 : Int32)) (pc := 36) hX dX10_answers_36 (by decide) ?_
      refine aw_icmp_ne (pc := 37) hX (tgt := 41) dX10_answers_37 (by decide) (fun c37 => ?_) (fun c37 => ?_)
      · rw [if_neg c37] at h
        refine aw_aload_n (pc := 41) hX dX10_answers_41 rfl 1 rfl ?_
        refine aw_iload_n (pc := 42) hX dX10_answers_42 rfl 2 rfl ?_
        refine aw_iload_n (pc := 43) hX dX10_answers_43 rfl 0 rfl ?_
        obtain ⟨S44, hr44, h⟩ := ob h
        refine aw_cVV (pc := 44) (As := [.int v1, .int r31]) (rest := []) hX (c_X10_hurts hr44) ok_X10_hurts kw_7_144 im_X10_hurts se_X10_hurts rfl km0 rfl (by decide) (Nat.le_of_ble_eq_true rfl) rfl dX10_answers_44 (Nat.le_refl 0) (Nat.le_refl 0) ?_
        refine aw_aload_n (pc := 47) hX dX10_answers_47 rfl 1 rfl ?_
        refine gf_X10_69 (pc := 48) hX km0 rfl dX10_answers_48 ?_
        refine aw_iconst (v := (2 : Int32)) (pc := 51) hX dX10_answers_51 (by decide) ?_
        refine aw_iload_n (pc := 52) hX dX10_answers_52 rfl 2 rfl ?_
        refine aw_imul (pc := 53) hX dX10_answers_53 ?_
        refine aw_iload_n (pc := 54) hX dX10_answers_54 rfl 3 rfl ?_
        refine aw_iadd (pc := 55) hX dX10_answers_55 ?_
        refine aw_iconst (v := (0 : Int32)) (pc := 56) hX dX10_answers_56 (by decide) ?_
        obtain ⟨S57, hS57, h⟩ := ob h
        refine aw_iast (pc := 57) hX km19 hS57 dX10_answers_57 ?_
        refine aw_aload_n (pc := 58) hX dX10_answers_58 rfl 1 rfl ?_
        refine gf_X10_72 (pc := 59) hX km0 rfl dX10_answers_59 ?_
        refine aw_iconst (v := (2 : Int32)) (pc := 62) hX dX10_answers_62 (by decide) ?_
        refine aw_iload_n (pc := 63) hX dX10_answers_63 rfl 2 rfl ?_
        refine aw_imul (pc := 64) hX dX10_answers_64 ?_
        refine aw_iload_n (pc := 65) hX dX10_answers_65 rfl 3 rfl ?_
        refine aw_iadd (pc := 66) hX dX10_answers_66 ?_
        refine aw_dup2 (pc := 67) hX dX10_answers_67 rfl rfl ?_
        obtain ⟨x68, hx68, h⟩ := ob h
        refine aw_iald (pc := 68) hX km20 hx68 dX10_answers_68 ?_
        refine aw_iconst (v := (1 : Int32)) (pc := 69) hX dX10_answers_69 (by decide) ?_
        refine aw_iadd (pc := 70) hX dX10_answers_70 ?_
        obtain ⟨S71, hS71, h⟩ := ob h
        refine aw_iast (pc := 71) hX km20 hS71 dX10_answers_71 ?_
        cases h
        exact aw_vret hX hQ dX10_answers_72
      · rw [if_pos c37] at h
        cases h
        exact aw_vret hX hQ dX10_answers_40
    · rw [if_pos c24] at h
      cases h
      exact aw_vret hX hQ dX10_answers_27

def f_X10_callsCity_2 : Nat → Int32 → Int32 → Int32 → Mem → Option Mem
  | 0, _, _, _, _ => none
  | n + 1, v1, v2, v3, S =>
  if (7 : Int32) ≤ v3 then
  ((rd S 19 46 (((2 : Int32) * v1) + v2)).bind fun x35 =>
  (wrL S 14 7 (4 : Int32) ((x35).toInt64)).bind fun S37 =>
  (rd S37 16 23 v1).bind fun x49 =>
  (wrL S37 14 7 (6 : Int32) ((x49).toInt64)).bind fun S51 =>
  some S51)
  else
  ((wrL S 14 7 v3 (0 : Int64)).bind fun S14 =>
  f_X10_callsCity_2 n v1 v2 (v3 + 1) S14)

def f_X10_callsCity (v1 : Int32) (v2 : Int32) (S : Mem) : Option Mem :=
  f_X10_callsCity_2 FU v1 v2 (0 : Int32) S

set_option maxHeartbeats 4000000 in
set_option maxRecDepth 100000 in
theorem c_X10_callsCity_2 {X : XT} {loc : Nat → Nat} {Sf : Mem} (hX : AC X loc RX10 cX10_callsCity none 4 0 0 0) (hQ : RetV X SKM loc 0 0 Sf) : ∀ (n : Nat) (v1 : Int32) (v2 : Int32) (v3 : Int32) (S : Mem), f_X10_callsCity_2 n v1 v2 v3 S = some Sf → AW X SKM loc 0 0 2 [(0, .ref 0), (1, .int v1), (2, .int v2), (3, .int v3)] [] S := by
  intro n
  induction n with
  | zero => intro v1 v2 v3 S h; cases h
  | succ n ih =>
    intro v1 v2 v3 S h
    unfold f_X10_callsCity_2 at h
    refine aw_iload_n (pc := 2) hX dX10_callsCity_2 rfl 3 rfl ?_
    refine aw_bipush (v := (7 : Int32)) (pc := 3) hX dX10_callsCity_3 (by decide) ?_
    refine aw_icmp_ge (pc := 5) hX (tgt := 21) dX10_callsCity_5 (by decide) (fun c5 => ?_) (fun c5 => ?_)
    · rw [if_pos c5] at h
      refine aw_aload_n (pc := 21) hX dX10_callsCity_21 rfl 0 rfl ?_
      refine gf_X10_53 (pc := 22) hX km0 rfl dX10_callsCity_22 ?_
      refine aw_iconst (v := (4 : Int32)) (pc := 25) hX dX10_callsCity_25 (by decide) ?_
      refine aw_aload_n (pc := 26) hX dX10_callsCity_26 rfl 0 rfl ?_
      refine gf_X10_69 (pc := 27) hX km0 rfl dX10_callsCity_27 ?_
      refine aw_iconst (v := (2 : Int32)) (pc := 30) hX dX10_callsCity_30 (by decide) ?_
      refine aw_iload_n (pc := 31) hX dX10_callsCity_31 rfl 1 rfl ?_
      refine aw_imul (pc := 32) hX dX10_callsCity_32 ?_
      refine aw_iload_n (pc := 33) hX dX10_callsCity_33 rfl 2 rfl ?_
      refine aw_iadd (pc := 34) hX dX10_callsCity_34 ?_
      obtain ⟨x35, hx35, h⟩ := ob h
      refine aw_iald (pc := 35) hX km19 hx35 dX10_callsCity_35 ?_
      refine aw_i2l (pc := 36) hX dX10_callsCity_36 ?_
      obtain ⟨S37, hS37, h⟩ := ob h
      refine aw_last (pc := 37) hX km14 hS37 dX10_callsCity_37 ?_
      refine aw_aload_n (pc := 38) hX dX10_callsCity_38 rfl 0 rfl ?_
      refine gf_X10_53 (pc := 39) hX km0 rfl dX10_callsCity_39 ?_
      refine aw_bipush (v := (6 : Int32)) (pc := 42) hX dX10_callsCity_42 (by decide) ?_
      refine aw_aload_n (pc := 44) hX dX10_callsCity_44 rfl 0 rfl ?_
      refine gf_X10_60 (pc := 45) hX km0 rfl dX10_callsCity_45 ?_
      refine aw_iload_n (pc := 48) hX dX10_callsCity_48 rfl 1 rfl ?_
      obtain ⟨x49, hx49, h⟩ := ob h
      refine aw_iald (pc := 49) hX km16 hx49 dX10_callsCity_49 ?_
      refine aw_i2l (pc := 50) hX dX10_callsCity_50 ?_
      obtain ⟨S51, hS51, h⟩ := ob h
      refine aw_last (pc := 51) hX km14 hS51 dX10_callsCity_51 ?_
      cases h
      exact aw_vret hX hQ dX10_callsCity_52
    · rw [if_neg c5] at h
      refine aw_aload_n (pc := 8) hX dX10_callsCity_8 rfl 0 rfl ?_
      refine gf_X10_53 (pc := 9) hX km0 rfl dX10_callsCity_9 ?_
      refine aw_iload_n (pc := 12) hX dX10_callsCity_12 rfl 3 rfl ?_
      refine aw_lconst (v := (0 : Int64)) (pc := 13) hX dX10_callsCity_13 (by decide) ?_
      obtain ⟨S14, hS14, h⟩ := ob h
      refine aw_last (pc := 14) hX km14 hS14 dX10_callsCity_14 ?_
      refine aw_iinc (v := (v3 + 1)) (ls' := [(3, .int (v3 + 1)), (0, .ref 0), (1, .int v1), (2, .int v2)]) (pc := 15) hX dX10_callsCity_15 (pos := 3) rfl (by first | rfl | decide) (by decide) rfl ?_
      refine aw_goto (tgt := 2) (pc := 18) hX dX10_callsCity_18 (by decide) ?_
      refine aw_sub (ls' := [(0, .ref 0), (1, .int v1), (2, .int v2), (3, .int (v3 + 1))]) [1, 2, 3, 0] rfl ?_
      exact ih v1 v2 (v3 + 1) S14 h

set_option maxHeartbeats 4000000 in
set_option maxRecDepth 100000 in
theorem c_X10_callsCity {v1 : Int32} {v2 : Int32} {S : Mem} {Sf : Mem} (h : f_X10_callsCity v1 v2 S = some Sf) : MetV yX10_callsCity cX10_callsCity 4 none 0 [.ref 0, .int v1, .int v2] SKM S Sf := by
  refine MetV.intro (by decide +kernel) (Nat.le_of_ble_eq_true rfl) (fun X loc hX hQ => ?_)
  unfold f_X10_callsCity at h
  show AW X SKM loc 0 0 0 [(0, .ref 0), (1, .int v1), (2, .int v2)] [] S
  refine aw_iconst (v := (0 : Int32)) (pc := 0) hX dX10_callsCity_0 (by decide) ?_
  refine aw_istore_n (ls' := [(3, .int (0 : Int32)), (0, .ref 0), (1, .int v1), (2, .int v2)]) (pc := 1) hX dX10_callsCity_1 rfl (by decide) rfl ?_
  refine aw_sub (ls' := [(0, .ref 0), (1, .int v1), (2, .int v2), (3, .int (0 : Int32))]) [1, 2, 3, 0] rfl ?_
  exact c_X10_callsCity_2 hX hQ FU v1 v2 (0 : Int32) S h

def f_X10_draw (v1 : Int32) (v2 : Int32) (S : Mem) : Option (Int32 × Mem) :=
  (rd S 17 23 v1).bind fun x10 =>
  (wr S 17 23 v1 (((x10 * (1103515245 : Int32)) + (12345 : Int32)) &&& (2147483647 : Int32))).bind fun S23 =>
  (rd S23 17 23 v1).bind fun x29 =>
  (rm (x29 >>> ((16 : Int32) &&& 31)) v2).bind fun x34 =>
  some (x34, S23)

set_option maxHeartbeats 4000000 in
set_option maxRecDepth 100000 in
theorem c_X10_draw {v1 : Int32} {v2 : Int32} {S : Mem} {r : Int32} {Sf : Mem} (h : f_X10_draw v1 v2 S = some (r, Sf)) : MetI yX10_draw cX10_draw 3 (some .int) 0 [.ref 0, .int v1, .int v2] SKM S r Sf := by
  refine MetI.intro (by decide +kernel) (Nat.le_of_ble_eq_true rfl) (fun X loc hX hQ => ?_)
  unfold f_X10_draw at h
  show AW X SKM loc 0 0 0 [(0, .ref 0), (1, .int v1), (2, .int v2)] [] S
  refine aw_aload_n (pc := 0) hX dX10_draw_0 rfl 0 rfl ?_
  refine gf_X10_63 (pc := 1) hX km0 rfl dX10_draw_1 ?_
  refine aw_iload_n (pc := 4) hX dX10_draw_4 rfl 1 rfl ?_
  refine aw_aload_n (pc := 5) hX dX10_draw_5 rfl 0 rfl ?_
  refine gf_X10_63 (pc := 6) hX km0 rfl dX10_draw_6 ?_
  refine aw_iload_n (pc := 9) hX dX10_draw_9 rfl 1 rfl ?_
  obtain ⟨x10, hx10, h⟩ := ob h
  refine aw_iald (pc := 10) hX km17 hx10 dX10_draw_10 ?_
  refine aw_ldcw (v := (1103515245 : Int32)) (pc := 11) hX kw_7_142 dX10_draw_11 ?_
  refine aw_imul (pc := 14) hX dX10_draw_14 ?_
  refine aw_sipush (v := (12345 : Int32)) (pc := 15) hX dX10_draw_15 (by decide) ?_
  refine aw_iadd (pc := 18) hX dX10_draw_18 ?_
  refine aw_ldcw (v := (2147483647 : Int32)) (pc := 19) hX kw_7_143 dX10_draw_19 ?_
  refine aw_iand (pc := 22) hX dX10_draw_22 ?_
  obtain ⟨S23, hS23, h⟩ := ob h
  refine aw_iast (pc := 23) hX km17 hS23 dX10_draw_23 ?_
  refine aw_aload_n (pc := 24) hX dX10_draw_24 rfl 0 rfl ?_
  refine gf_X10_63 (pc := 25) hX km0 rfl dX10_draw_25 ?_
  refine aw_iload_n (pc := 28) hX dX10_draw_28 rfl 1 rfl ?_
  obtain ⟨x29, hx29, h⟩ := ob h
  refine aw_iald (pc := 29) hX km17 hx29 dX10_draw_29 ?_
  refine aw_bipush (v := (16 : Int32)) (pc := 30) hX dX10_draw_30 (by decide) ?_
  refine aw_ishr (pc := 32) hX dX10_draw_32 ?_
  refine aw_iload_n (pc := 33) hX dX10_draw_33 rfl 2 rfl ?_
  obtain ⟨x34, hx34, h⟩ := ob h
  refine aw_irem (pc := 34) hX dX10_draw_34 hx34 ?_
  cases h
  exact aw_iret hX hQ dX10_draw_35

def f_X10_mothsBy (v1 : Int32) (v2 : Int32) (v3 : Int32) (S : Mem) : Option (Int32 × Mem) :=
  (f_X10_calls v1 v2 v3 S).bind fun S4 =>
  (rd S4 2 14 (2 : Int32)).bind fun x17 =>
  bnd (f_X10_careIn v3 S4) fun r22 S22 =>
  bnd (f_J9_max_7cf53 (0 : Int32) (x17 - ((10 : Int32) * r22)) S22) fun r27 S27 =>
  bnd (f_X10_within (0 : Int32) (100 : Int32) r27 S27) fun r30 S30 =>
  some (r30, S30)

set_option maxHeartbeats 4000000 in
set_option maxRecDepth 100000 in
theorem c_X10_mothsBy {v1 : Int32} {v2 : Int32} {v3 : Int32} {S : Mem} {r : Int32} {Sf : Mem} (h : f_X10_mothsBy v1 v2 v3 S = some (r, Sf)) : MetI yX10_mothsBy cX10_mothsBy 4 (some .int) 4 [.ref 0, .int v1, .int v2, .int v3] SKM S r Sf := by
  refine MetI.intro (by decide +kernel) (Nat.le_of_ble_eq_true rfl) (fun X loc hX hQ => ?_)
  unfold f_X10_mothsBy at h
  show AW X SKM loc 0 0 0 [(0, .ref 0), (1, .int v1), (2, .int v2), (3, .int v3)] [] S
  refine aw_aload_n (pc := 0) hX dX10_mothsBy_0 rfl 0 rfl ?_
  refine aw_iload_n (pc := 1) hX dX10_mothsBy_1 rfl 1 rfl ?_
  refine aw_iload_n (pc := 2) hX dX10_mothsBy_2 rfl 2 rfl ?_
  refine aw_iload_n (pc := 3) hX dX10_mothsBy_3 rfl 3 rfl ?_
  obtain ⟨S4, hr4, h⟩ := ob h
  refine aw_cVV (pc := 4) (As := [.int v1, .int v2, .int v3]) (rest := []) hX (c_X10_calls hr4) ok_X10_calls kw_7_58 im_X10_calls se_X10_calls rfl km0 rfl (by decide) (Nat.le_of_ble_eq_true rfl) rfl dX10_mothsBy_4 (Nat.le_refl 0) (Nat.le_refl 0) ?_
  refine aw_aload_n (pc := 7) hX dX10_mothsBy_7 rfl 0 rfl ?_
  refine aw_iconst (v := (0 : Int32)) (pc := 8) hX dX10_mothsBy_8 (by decide) ?_
  refine aw_bipush (v := (100 : Int32)) (pc := 9) hX dX10_mothsBy_9 (by decide) ?_
  refine aw_iconst (v := (0 : Int32)) (pc := 11) hX dX10_mothsBy_11 (by decide) ?_
  refine aw_aload_n (pc := 12) hX dX10_mothsBy_12 rfl 0 rfl ?_
  refine gf_X10_13 (pc := 13) hX km0 rfl dX10_mothsBy_13 ?_
  refine aw_iconst (v := (2 : Int32)) (pc := 16) hX dX10_mothsBy_16 (by decide) ?_
  obtain ⟨x17, hx17, h⟩ := ob h
  refine aw_iald (pc := 17) hX km2 hx17 dX10_mothsBy_17 ?_
  refine aw_bipush (v := (10 : Int32)) (pc := 18) hX dX10_mothsBy_18 (by decide) ?_
  refine aw_aload_n (pc := 20) hX dX10_mothsBy_20 rfl 0 rfl ?_
  refine aw_iload_n (pc := 21) hX dX10_mothsBy_21 rfl 3 rfl ?_
  obtain ⟨r22, S22, hr22, h⟩ := ob2 h
  refine aw_cVI (pc := 22) (As := [.int v3]) (rest := [.int (10 : Int32), .int x17, .int (0 : Int32), .int (100 : Int32), .int (0 : Int32), .ref 0]) hX (c_X10_careIn hr22) ok_X10_careIn kw_7_62 im_X10_careIn se_X10_careIn rfl km0 rfl (by decide) (Nat.le_of_ble_eq_true rfl) rfl dX10_mothsBy_22 (Nat.le_refl 0) (Nat.le_refl 0) ?_
  refine aw_imul (pc := 25) hX dX10_mothsBy_25 ?_
  refine aw_isub (pc := 26) hX dX10_mothsBy_26 ?_
  obtain ⟨r27, S27, hr27, h⟩ := ob2 h
  refine aw_cSI (pc := 27) (As := [.int (0 : Int32), .int (x17 - ((10 : Int32) * r22))]) (rest := [.int (100 : Int32), .int (0 : Int32), .ref 0]) hX (c_J9_max_7cf53 (sk := SKM) hr27) ok_J9_max_7cf53 kw_7_66 st_J9_max_7cf53 rfl (by decide) (Nat.le_of_ble_eq_true rfl) rfl dX10_mothsBy_27 (Nat.le_refl 0) (Nat.le_refl 0) ?_
  obtain ⟨r30, S30, hr30, h⟩ := ob2 h
  refine aw_cVI (pc := 30) (As := [.int (0 : Int32), .int (100 : Int32), .int r27]) (rest := []) hX (c_X10_within hr30) ok_X10_within kw_7_67 im_X10_within se_X10_within rfl km0 rfl (by decide) (Nat.le_of_ble_eq_true rfl) rfl dX10_mothsBy_30 (Nat.le_refl 0) (Nat.le_refl 0) ?_
  cases h
  exact aw_iret hX hQ dX10_mothsBy_33

def f_X10_comeMoths_65 (v4 : Int32) (S : Mem) : Option (Int32 × Mem) :=
  if v4 < (50 : Int32) then
  (some ((0 : Int32), S))
  else
  (some ((1 : Int32), S))

def f_X10_comeMoths (v1 : Int32) (v2 : Int32) (v3 : Int32) (S : Mem) : Option (Int32 × Mem) :=
  if (S.1 0 43) = (1 : Int32) then
  (some ((0 : Int32), S))
  else
  ((rd S 21 230 (((10 : Int32) * v1) + v2)).bind fun x23 =>
  bnd (f_X10_mothsBy v1 v2 x23 S) fun r24 S24 =>
  if v3 = 0 then
  (f_X10_comeMoths_65 r24 S24)
  else
  (if r24 ≤ 0 then
  (f_X10_comeMoths_65 r24 S24)
  else
  (if (100 : Int32) ≤ r24 then
  (f_X10_comeMoths_65 r24 S24)
  else
  (bnd (f_X10_draw v1 (100 : Int32) S24) fun r49 S49 =>
  if r24 ≤ r49 then
  (some ((0 : Int32), S49))
  else
  (some ((1 : Int32), S49))))))

set_option maxHeartbeats 4000000 in
set_option maxRecDepth 100000 in
theorem c_X10_comeMoths_65 {X : XT} {loc : Nat → Nat} {r : Int32} {Sf : Mem} (hX : AC X loc RX10 cX10_comeMoths (some .boolean) 5 5 0 0) (hQ : RetI X SKM loc 0 0 r Sf) (v4 : Int32) (S : Mem) (h : f_X10_comeMoths_65 v4 S = some (r, Sf)) : AW X SKM loc 0 0 65 [(4, .int v4)] [] S := by
  unfold f_X10_comeMoths_65 at h
  refine aw_iload (pc := 65) hX dX10_comeMoths_65 0 rfl ?_
  refine aw_bipush (v := (50 : Int32)) (pc := 67) hX dX10_comeMoths_67 (by decide) ?_
  refine aw_icmp_lt (pc := 69) hX (tgt := 76) dX10_comeMoths_69 (by decide) (fun c69 => ?_) (fun c69 => ?_)
  · rw [if_pos c69] at h
    refine aw_iconst (v := (0 : Int32)) (pc := 76) hX dX10_comeMoths_76 (by decide) ?_
    cases h
    exact aw_zret hX hQ (by decide) dX10_comeMoths_77
  · rw [if_neg c69] at h
    refine aw_iconst (v := (1 : Int32)) (pc := 72) hX dX10_comeMoths_72 (by decide) ?_
    refine aw_goto (tgt := 77) (pc := 73) hX dX10_comeMoths_73 (by decide) ?_
    cases h
    exact aw_zret hX hQ (by decide) dX10_comeMoths_77

set_option maxHeartbeats 4000000 in
set_option maxRecDepth 100000 in
theorem c_X10_comeMoths {v1 : Int32} {v2 : Int32} {v3 : Int32} {S : Mem} {r : Int32} {Sf : Mem} (h : f_X10_comeMoths v1 v2 v3 S = some (r, Sf)) : MetI yX10_comeMoths cX10_comeMoths 5 (some .boolean) 5 [.ref 0, .int v1, .int v2, .int v3] SKM S r Sf := by
  refine MetI.intro (by decide +kernel) (Nat.le_of_ble_eq_true rfl) (fun X loc hX hQ => ?_)
  unfold f_X10_comeMoths at h
  show AW X SKM loc 0 0 0 [(0, .ref 0), (1, .int v1), (2, .int v2), (3, .int v3)] [] S
  refine aw_aload_n (pc := 0) hX dX10_comeMoths_0 rfl 0 rfl ?_
  refine gf_X10_317 (pc := 1) hX km0 rfl dX10_comeMoths_1 ?_
  refine aw_iconst (v := (1 : Int32)) (pc := 4) hX dX10_comeMoths_4 (by decide) ?_
  refine aw_icmp_ne (pc := 5) hX (tgt := 10) dX10_comeMoths_5 (by decide) (fun c5 => ?_) (fun c5 => ?_)
  · rw [if_neg c5] at h
    refine aw_aload_n (pc := 10) hX dX10_comeMoths_10 rfl 0 rfl ?_
    refine aw_iload_n (pc := 11) hX dX10_comeMoths_11 rfl 1 rfl ?_
    refine aw_iload_n (pc := 12) hX dX10_comeMoths_12 rfl 2 rfl ?_
    refine aw_aload_n (pc := 13) hX dX10_comeMoths_13 rfl 0 rfl ?_
    refine gf_X10_75 (pc := 14) hX km0 rfl dX10_comeMoths_14 ?_
    refine aw_bipush (v := (10 : Int32)) (pc := 17) hX dX10_comeMoths_17 (by decide) ?_
    refine aw_iload_n (pc := 19) hX dX10_comeMoths_19 rfl 1 rfl ?_
    refine aw_imul (pc := 20) hX dX10_comeMoths_20 ?_
    refine aw_iload_n (pc := 21) hX dX10_comeMoths_21 rfl 2 rfl ?_
    refine aw_iadd (pc := 22) hX dX10_comeMoths_22 ?_
    obtain ⟨x23, hx23, h⟩ := ob h
    refine aw_iald (pc := 23) hX km21 hx23 dX10_comeMoths_23 ?_
    obtain ⟨r24, S24, hr24, h⟩ := ob2 h
    refine aw_cVI (pc := 24) (As := [.int v1, .int v2, .int x23]) (rest := []) hX (c_X10_mothsBy hr24) ok_X10_mothsBy kw_7_54 im_X10_mothsBy se_X10_mothsBy rfl km0 rfl (by decide) (Nat.le_of_ble_eq_true rfl) rfl dX10_comeMoths_24 (Nat.le_refl 0) (Nat.le_refl 0) ?_
    refine aw_istore (ls' := [(4, .int r24), (0, .ref 0), (1, .int v1), (2, .int v2), (3, .int v3)]) (pc := 27) hX dX10_comeMoths_27 (by decide) rfl ?_
    refine aw_iload_n (pc := 29) hX dX10_comeMoths_29 rfl 4 rfl ?_
    refine aw_if_eq (pc := 30) hX (tgt := 65) dX10_comeMoths_30 (by decide) (fun c30 => ?_) (fun c30 => ?_)
    · rw [if_pos c30] at h
      refine aw_sub (ls' := [(4, .int r24)]) [0] rfl ?_
      exact c_X10_comeMoths_65 hX hQ r24 S24 h
    · rw [if_neg c30] at h
      refine aw_iload (pc := 33) hX dX10_comeMoths_33 0 rfl ?_
      refine aw_if_le (pc := 35) hX (tgt := 65) dX10_comeMoths_35 (by decide) (fun c35 => ?_) (fun c35 => ?_)
      · rw [if_pos c35] at h
        refine aw_sub (ls' := [(4, .int r24)]) [0] rfl ?_
        exact c_X10_comeMoths_65 hX hQ r24 S24 h
      · rw [if_neg c35] at h
        refine aw_iload (pc := 38) hX dX10_comeMoths_38 0 rfl ?_
        refine aw_bipush (v := (100 : Int32)) (pc := 40) hX dX10_comeMoths_40 (by decide) ?_
        refine aw_icmp_ge (pc := 42) hX (tgt := 65) dX10_comeMoths_42 (by decide) (fun c42 => ?_) (fun c42 => ?_)
        · rw [if_pos c42] at h
          refine aw_sub (ls' := [(4, .int r24)]) [0] rfl ?_
          exact c_X10_comeMoths_65 hX hQ r24 S24 h
        · rw [if_neg c42] at h
          refine aw_aload_n (pc := 45) hX dX10_comeMoths_45 rfl 1 rfl ?_
          refine aw_iload_n (pc := 46) hX dX10_comeMoths_46 rfl 2 rfl ?_
          refine aw_bipush (v := (100 : Int32)) (pc := 47) hX dX10_comeMoths_47 (by decide) ?_
          obtain ⟨r49, S49, hr49, h⟩ := ob2 h
          refine aw_cVI (pc := 49) (As := [.int v1, .int (100 : Int32)]) (rest := []) hX (c_X10_draw hr49) ok_X10_draw kw_7_138 im_X10_draw se_X10_draw rfl km0 rfl (by decide) (Nat.le_of_ble_eq_true rfl) rfl dX10_comeMoths_49 (Nat.le_refl 0) (Nat.le_refl 0) ?_
          refine aw_iload (pc := 52) hX dX10_comeMoths_52 0 rfl ?_
          refine aw_icmp_ge (pc := 54) hX (tgt := 61) dX10_comeMoths_54 (by decide) (fun c54 => ?_) (fun c54 => ?_)
          · rw [if_pos c54] at h
            refine aw_iconst (v := (0 : Int32)) (pc := 61) hX dX10_comeMoths_61 (by decide) ?_
            refine aw_goto (tgt := 77) (pc := 62) hX dX10_comeMoths_62 (by decide) ?_
            cases h
            exact aw_zret hX hQ (by decide) dX10_comeMoths_77
          · rw [if_neg c54] at h
            refine aw_iconst (v := (1 : Int32)) (pc := 57) hX dX10_comeMoths_57 (by decide) ?_
            refine aw_goto (tgt := 77) (pc := 58) hX dX10_comeMoths_58 (by decide) ?_
            cases h
            exact aw_zret hX hQ (by decide) dX10_comeMoths_77
  · rw [if_pos c5] at h
    refine aw_iconst (v := (0 : Int32)) (pc := 8) hX dX10_comeMoths_8 (by decide) ?_
    cases h
    exact aw_zret hX hQ (by decide) dX10_comeMoths_9

def f_X10_wasHurt_2 : Nat → Int32 → Int32 → Mem → Option (Int32 × Mem)
  | 0, _, _, _ => none
  | n + 1, v1, v2, S =>
  (rd S 2 14 (1 : Int32)).bind fun x8 =>
  if x8 ≤ v2 then
  (some ((0 : Int32), S))
  else
  (if (((S.1 0 40) >>> (v2 &&& 31)) &&& (1 : Int32)) = (1 : Int32) then
  (bnd (f_X10_ownerOf v2 S) fun r26 S26 =>
  if r26 = v1 then
  (some ((1 : Int32), S26))
  else
  (f_X10_wasHurt_2 n v1 (v2 + 1) S26))
  else
  (f_X10_wasHurt_2 n v1 (v2 + 1) S))

def f_X10_wasHurt (v1 : Int32) (S : Mem) : Option (Int32 × Mem) :=
  f_X10_wasHurt_2 FU v1 (0 : Int32) S

set_option maxHeartbeats 4000000 in
set_option maxRecDepth 100000 in
theorem c_X10_wasHurt_2 {X : XT} {loc : Nat → Nat} {r : Int32} {Sf : Mem} (hX : AC X loc RX10 cX10_wasHurt (some .boolean) 3 1 0 0) (hQ : RetI X SKM loc 0 0 r Sf) : ∀ (n : Nat) (v1 : Int32) (v2 : Int32) (S : Mem), f_X10_wasHurt_2 n v1 v2 S = some (r, Sf) → AW X SKM loc 0 0 2 [(0, .ref 0), (1, .int v1), (2, .int v2)] [] S := by
  intro n
  induction n with
  | zero => intro v1 v2 S h; cases h
  | succ n ih =>
    intro v1 v2 S h
    unfold f_X10_wasHurt_2 at h
    refine aw_iload_n (pc := 2) hX dX10_wasHurt_2 rfl 2 rfl ?_
    refine aw_aload_n (pc := 3) hX dX10_wasHurt_3 rfl 0 rfl ?_
    refine gf_X10_13 (pc := 4) hX km0 rfl dX10_wasHurt_4 ?_
    refine aw_iconst (v := (1 : Int32)) (pc := 7) hX dX10_wasHurt_7 (by decide) ?_
    obtain ⟨x8, hx8, h⟩ := ob h
    refine aw_iald (pc := 8) hX km2 hx8 dX10_wasHurt_8 ?_
    refine aw_icmp_ge (pc := 9) hX (tgt := 41) dX10_wasHurt_9 (by decide) (fun c9 => ?_) (fun c9 => ?_)
    · rw [if_pos c9] at h
      refine aw_iconst (v := (0 : Int32)) (pc := 41) hX dX10_wasHurt_41 (by decide) ?_
      cases h
      exact aw_zret hX hQ (by decide) dX10_wasHurt_42
    · rw [if_neg c9] at h
      refine aw_aload_n (pc := 12) hX dX10_wasHurt_12 rfl 0 rfl ?_
      refine gf_X10_361 (pc := 13) hX km0 rfl dX10_wasHurt_13 ?_
      refine aw_iload_n (pc := 16) hX dX10_wasHurt_16 rfl 2 rfl ?_
      refine aw_ishr (pc := 17) hX dX10_wasHurt_17 ?_
      refine aw_iconst (v := (1 : Int32)) (pc := 18) hX dX10_wasHurt_18 (by decide) ?_
      refine aw_iand (pc := 19) hX dX10_wasHurt_19 ?_
      refine aw_iconst (v := (1 : Int32)) (pc := 20) hX dX10_wasHurt_20 (by decide) ?_
      refine aw_icmp_ne (pc := 21) hX (tgt := 35) dX10_wasHurt_21 (by decide) (fun c21 => ?_) (fun c21 => ?_)
      · rw [if_neg c21] at h
        refine aw_iinc (v := (v2 + 1)) (ls' := [(2, .int (v2 + 1)), (0, .ref 0), (1, .int v1)]) (pc := 35) hX dX10_wasHurt_35 (pos := 2) rfl (by first | rfl | decide) (by decide) rfl ?_
        refine aw_goto (tgt := 2) (pc := 38) hX dX10_wasHurt_38 (by decide) ?_
        refine aw_sub (ls' := [(0, .ref 0), (1, .int v1), (2, .int (v2 + 1))]) [1, 2, 0] rfl ?_
        exact ih v1 (v2 + 1) S h
      · rw [if_pos c21] at h
        refine aw_aload_n (pc := 24) hX dX10_wasHurt_24 rfl 0 rfl ?_
        refine aw_iload_n (pc := 25) hX dX10_wasHurt_25 rfl 2 rfl ?_
        obtain ⟨r26, S26, hr26, h⟩ := ob2 h
        refine aw_cVI (pc := 26) (As := [.int v2]) (rest := []) hX (c_X10_ownerOf hr26) ok_X10_ownerOf kw_7_15 im_X10_ownerOf se_X10_ownerOf rfl km0 rfl (by decide) (Nat.le_of_ble_eq_true rfl) rfl dX10_wasHurt_26 (Nat.le_refl 0) (Nat.le_refl 0) ?_
        refine aw_iload_n (pc := 29) hX dX10_wasHurt_29 rfl 1 rfl ?_
        refine aw_icmp_ne (pc := 30) hX (tgt := 35) dX10_wasHurt_30 (by decide) (fun c30 => ?_) (fun c30 => ?_)
        · rw [if_neg c30] at h
          refine aw_iinc (v := (v2 + 1)) (ls' := [(2, .int (v2 + 1)), (0, .ref 0), (1, .int v1)]) (pc := 35) hX dX10_wasHurt_35 (pos := 2) rfl (by first | rfl | decide) (by decide) rfl ?_
          refine aw_goto (tgt := 2) (pc := 38) hX dX10_wasHurt_38 (by decide) ?_
          refine aw_sub (ls' := [(0, .ref 0), (1, .int v1), (2, .int (v2 + 1))]) [1, 2, 0] rfl ?_
          exact ih v1 (v2 + 1) S26 h
        · rw [if_pos c30] at h
          refine aw_iconst (v := (1 : Int32)) (pc := 33) hX dX10_wasHurt_33 (by decide) ?_
          cases h
          exact aw_zret hX hQ (by decide) dX10_wasHurt_34

set_option maxHeartbeats 4000000 in
set_option maxRecDepth 100000 in
theorem c_X10_wasHurt {v1 : Int32} {S : Mem} {r : Int32} {Sf : Mem} (h : f_X10_wasHurt v1 S = some (r, Sf)) : MetI yX10_wasHurt cX10_wasHurt 3 (some .boolean) 1 [.ref 0, .int v1] SKM S r Sf := by
  refine MetI.intro (by decide +kernel) (Nat.le_of_ble_eq_true rfl) (fun X loc hX hQ => ?_)
  unfold f_X10_wasHurt at h
  show AW X SKM loc 0 0 0 [(0, .ref 0), (1, .int v1)] [] S
  refine aw_iconst (v := (0 : Int32)) (pc := 0) hX dX10_wasHurt_0 (by decide) ?_
  refine aw_istore_n (ls' := [(2, .int (0 : Int32)), (0, .ref 0), (1, .int v1)]) (pc := 1) hX dX10_wasHurt_1 rfl (by decide) rfl ?_
  refine aw_sub (ls' := [(0, .ref 0), (1, .int v1), (2, .int (0 : Int32))]) [1, 2, 0] rfl ?_
  exact c_X10_wasHurt_2 hX hQ FU v1 (0 : Int32) S h

def f_X10_passes_224 (R146 : Int32 → Int32 → Mem → Option Mem) (v1 : Int32) (v3 : Int32) (t1 : Int32) (t2 : Int32) (S : Mem) : Option Mem :=
  (wr S 23 230 t1 t2).bind fun S224 =>
  R146 v1 (v3 + 1) S224

def f_X10_passes_146 : Nat → Int32 → Int32 → Mem → Option Mem
  | 0, _, _, _ => none
  | n + 1, v1, v3, S =>
  (rd S 2 14 (1 : Int32)).bind fun x152 =>
  if x152 ≤ v3 then
  ((rd S 16 23 v1).bind fun x237 =>
  (wr S 16 23 v1 (x237 + (1 : Int32))).bind fun S240 =>
  some S240)
  else
  (bnd (f_X10_isHeld v1 v3 S) fun r167 S167 =>
  if r167 = 0 then
  (f_X10_passes_146 n v1 (v3 + 1) S167)
  else
  (if (((S167.1 0 40) >>> (v3 &&& 31)) &&& (1 : Int32)) = (1 : Int32) then
  ((rd S167 23 230 (((10 : Int32) * v1) + v3)).bind fun x201 =>
  bnd (f_J9_max_7cf53 (0 : Int32) (x201 - (2 : Int32)) S167) fun r204 S204 =>
  f_X10_passes_224 (f_X10_passes_146 n) v1 v3 (((10 : Int32) * v1) + v3) r204 S204)
  else
  ((rd S167 23 230 (((10 : Int32) * v1) + v3)).bind fun x218 =>
  bnd (f_J9_min_7cf53 (9 : Int32) (x218 + (1 : Int32)) S167) fun r221 S221 =>
  f_X10_passes_224 (f_X10_passes_146 n) v1 v3 (((10 : Int32) * v1) + v3) r221 S221)))

def f_X10_passes_75 : Nat → Int32 → Int32 → Mem → Option Mem
  | 0, _, _, _ => none
  | n + 1, v1, v3, S =>
  if (2 : Int32) ≤ v3 then
  (f_X10_passes_146 FU v1 (0 : Int32) S)
  else
  (bnd (f_X10_wasHurt v3 S) fun r82 S82 =>
  if r82 = 0 then
  (if (S82.1 0 43) = (5 : Int32) then
  (f_X10_passes_75 n v1 (v3 + 1) S82)
  else
  ((f_X10_callsCity v1 v3 S82).bind fun S102 =>
  (rd S102 19 46 (((2 : Int32) * v1) + v3)).bind fun x124 =>
  bnd (f_X10_within (2 : Int32) (99 : Int32) (1 : Int32) S102) fun r130 S130 =>
  bnd (f_J9_max_7cf53 (0 : Int32) (x124 - r130) S130) fun r134 S134 =>
  (wr S134 19 46 (((2 : Int32) * v1) + v3) r134).bind fun S137 =>
  f_X10_passes_75 n v1 (v3 + 1) S137))
  else
  (f_X10_passes_75 n v1 (v3 + 1) S82))

def f_X10_passes_7 : Nat → Int32 → Int32 → Int32 → Mem → Option Mem
  | 0, _, _, _, _ => none
  | n + 1, v1, v2, v3, S =>
  (rd S 2 14 (1 : Int32)).bind fun x13 =>
  if x13 ≤ v3 then
  ((f_X10_answers v1 (0 : Int32) S).bind fun S64 =>
  (f_X10_answers v1 (1 : Int32) S64).bind fun S70 =>
  f_X10_passes_75 FU v1 (0 : Int32) S70)
  else
  (bnd (f_X10_isHeld v1 v3 S) fun r20 S20 =>
  if r20 = 0 then
  (f_X10_passes_7 n v1 v2 (v3 + 1) S20)
  else
  (bnd (f_X10_comeMoths v1 v3 v2 S20) fun r30 S30 =>
  if r30 = 0 then
  (f_X10_passes_7 n v1 v2 (v3 + 1) S30)
  else
  ((rd S30 18 23 v1).bind fun x45 =>
  (wr S30 18 23 v1 (x45 + (1 : Int32))).bind fun S48 =>
  (f_X10_hurts v1 v3 S48).bind fun S52 =>
  f_X10_passes_7 n v1 v2 (v3 + 1) S52)))

def f_X10_passes (v1 : Int32) (v2 : Int32) (S : Mem) : Option Mem :=
  nxt (sI S 0 40 (0 : Int32)) fun S2 =>
  f_X10_passes_7 FU v1 v2 (0 : Int32) S2

set_option maxHeartbeats 4000000 in
set_option maxRecDepth 100000 in
theorem c_X10_passes_224 {X : XT} {loc : Nat → Nat} {Sf : Mem} (hX : AC X loc RX10 cX10_passes none 5 6 0 0) (hQ : RetV X SKM loc 0 0 Sf) {R146 : Int32 → Int32 → Mem → Option Mem} (IH146 : ∀ (v1 : Int32) (v3 : Int32) (S : Mem), R146 v1 v3 S = some Sf → AW X SKM loc 0 0 146 [(0, .ref 0), (1, .int v1), (3, .int v3)] [] S) (v1 : Int32) (v3 : Int32) (t1 : Int32) (t2 : Int32) (S : Mem) (h : f_X10_passes_224 R146 v1 v3 t1 t2 S = some Sf) : AW X SKM loc 0 0 224 [(0, .ref 0), (1, .int v1), (3, .int v3)] [.int t2, .int t1, .ref 23] S := by
  unfold f_X10_passes_224 at h
  obtain ⟨S224, hS224, h⟩ := ob h
  refine aw_iast (pc := 224) hX km23 hS224 dX10_passes_224 ?_
  refine aw_iinc (v := (v3 + 1)) (ls' := [(3, .int (v3 + 1)), (0, .ref 0), (1, .int v1)]) (pc := 225) hX dX10_passes_225 (pos := 2) rfl (by first | rfl | decide) (by decide) rfl ?_
  refine aw_goto (tgt := 146) (pc := 228) hX dX10_passes_228 (by decide) ?_
  refine aw_sub (ls' := [(0, .ref 0), (1, .int v1), (3, .int (v3 + 1))]) [1, 2, 0] rfl ?_
  exact IH146 v1 (v3 + 1) S224 h

set_option maxHeartbeats 4000000 in
set_option maxRecDepth 100000 in
theorem c_X10_passes_146 {X : XT} {loc : Nat → Nat} {Sf : Mem} (hX : AC X loc RX10 cX10_passes none 5 6 0 0) (hQ : RetV X SKM loc 0 0 Sf) : ∀ (n : Nat) (v1 : Int32) (v3 : Int32) (S : Mem), f_X10_passes_146 n v1 v3 S = some Sf → AW X SKM loc 0 0 146 [(0, .ref 0), (1, .int v1), (3, .int v3)] [] S := by
  intro n
  induction n with
  | zero => intro v1 v3 S h; cases h
  | succ n ih =>
    intro v1 v3 S h
    unfold f_X10_passes_146 at h
    refine aw_iload_n (pc := 146) hX dX10_passes_146 rfl 2 rfl ?_
    refine aw_aload_n (pc := 147) hX dX10_passes_147 rfl 0 rfl ?_
    refine gf_X10_13 (pc := 148) hX km0 rfl dX10_passes_148 ?_
    refine aw_iconst (v := (1 : Int32)) (pc := 151) hX dX10_passes_151 (by decide) ?_
    obtain ⟨x152, hx152, h⟩ := ob h
    refine aw_iald (pc := 152) hX km2 hx152 dX10_passes_152 ?_
    refine aw_icmp_ge (pc := 153) hX (tgt := 231) dX10_passes_153 (by decide) (fun c153 => ?_) (fun c153 => ?_)
    · rw [if_pos c153] at h
      refine aw_aload_n (pc := 231) hX dX10_passes_231 rfl 0 rfl ?_
      refine gf_X10_60 (pc := 232) hX km0 rfl dX10_passes_232 ?_
      refine aw_iload_n (pc := 235) hX dX10_passes_235 rfl 1 rfl ?_
      refine aw_dup2 (pc := 236) hX dX10_passes_236 rfl rfl ?_
      obtain ⟨x237, hx237, h⟩ := ob h
      refine aw_iald (pc := 237) hX km16 hx237 dX10_passes_237 ?_
      refine aw_iconst (v := (1 : Int32)) (pc := 238) hX dX10_passes_238 (by decide) ?_
      refine aw_iadd (pc := 239) hX dX10_passes_239 ?_
      obtain ⟨S240, hS240, h⟩ := ob h
      refine aw_iast (pc := 240) hX km16 hS240 dX10_passes_240 ?_
      cases h
      exact aw_vret hX hQ dX10_passes_241
    · rw [if_neg c153] at h
      refine aw_bipush (v := (10 : Int32)) (pc := 156) hX dX10_passes_156 (by decide) ?_
      refine aw_iload_n (pc := 158) hX dX10_passes_158 rfl 1 rfl ?_
      refine aw_imul (pc := 159) hX dX10_passes_159 ?_
      refine aw_iload_n (pc := 160) hX dX10_passes_160 rfl 2 rfl ?_
      refine aw_iadd (pc := 161) hX dX10_passes_161 ?_
      refine aw_istore (ls' := [(4, .int (((10 : Int32) * v1) + v3)), (0, .ref 0), (1, .int v1), (3, .int v3)]) (pc := 162) hX dX10_passes_162 (by decide) rfl ?_
      refine aw_aload_n (pc := 164) hX dX10_passes_164 rfl 1 rfl ?_
      refine aw_iload_n (pc := 165) hX dX10_passes_165 rfl 2 rfl ?_
      refine aw_iload_n (pc := 166) hX dX10_passes_166 rfl 3 rfl ?_
      obtain ⟨r167, S167, hr167, h⟩ := ob2 h
      refine aw_cVI (pc := 167) (As := [.int v1, .int v3]) (rest := []) hX (c_X10_isHeld hr167) ok_X10_isHeld kw_7_27 im_X10_isHeld se_X10_isHeld rfl km0 rfl (by decide) (Nat.le_of_ble_eq_true rfl) rfl dX10_passes_167 (Nat.le_refl 0) (Nat.le_refl 0) ?_
      refine aw_if_ne (pc := 170) hX (tgt := 176) dX10_passes_170 (by decide) (fun c170 => ?_) (fun c170 => ?_)
      · rw [if_neg c170] at h
        refine aw_aload_n (pc := 176) hX dX10_passes_176 rfl 1 rfl ?_
        refine gf_X10_81 (pc := 177) hX km0 rfl dX10_passes_177 ?_
        refine aw_iload (pc := 180) hX dX10_passes_180 0 rfl ?_
        refine aw_aload_n (pc := 182) hX dX10_passes_182 rfl 1 rfl ?_
        refine gf_X10_361 (pc := 183) hX km0 rfl dX10_passes_183 ?_
        refine aw_iload_n (pc := 186) hX dX10_passes_186 rfl 3 rfl ?_
        refine aw_ishr (pc := 187) hX dX10_passes_187 ?_
        refine aw_iconst (v := (1 : Int32)) (pc := 188) hX dX10_passes_188 (by decide) ?_
        refine aw_iand (pc := 189) hX dX10_passes_189 ?_
        refine aw_iconst (v := (1 : Int32)) (pc := 190) hX dX10_passes_190 (by decide) ?_
        refine aw_icmp_ne (pc := 191) hX (tgt := 210) dX10_passes_191 (by decide) (fun c191 => ?_) (fun c191 => ?_)
        · rw [if_neg c191] at h
          refine aw_bipush (v := (9 : Int32)) (pc := 210) hX dX10_passes_210 (by decide) ?_
          refine aw_aload_n (pc := 212) hX dX10_passes_212 rfl 1 rfl ?_
          refine gf_X10_81 (pc := 213) hX km0 rfl dX10_passes_213 ?_
          refine aw_iload (pc := 216) hX dX10_passes_216 0 rfl ?_
          obtain ⟨x218, hx218, h⟩ := ob h
          refine aw_iald (pc := 218) hX km23 hx218 dX10_passes_218 ?_
          refine aw_iconst (v := (1 : Int32)) (pc := 219) hX dX10_passes_219 (by decide) ?_
          refine aw_iadd (pc := 220) hX dX10_passes_220 ?_
          obtain ⟨r221, S221, hr221, h⟩ := ob2 h
          refine aw_cSI (pc := 221) (As := [.int (9 : Int32), .int (x218 + (1 : Int32))]) (rest := [.int (((10 : Int32) * v1) + v3), .ref 23]) hX (c_J9_min_7cf53 (sk := SKM) hr221) ok_J9_min_7cf53 kw_7_148 st_J9_min_7cf53 rfl (by decide) (Nat.le_of_ble_eq_true rfl) rfl dX10_passes_221 (Nat.le_refl 0) (Nat.le_refl 0) ?_
          refine aw_sub (ls' := [(0, .ref 0), (1, .int v1), (3, .int v3)]) [1, 2, 3] rfl ?_
          exact c_X10_passes_224 hX hQ ih v1 v3 (((10 : Int32) * v1) + v3) r221 S221 h
        · rw [if_pos c191] at h
          refine aw_iconst (v := (0 : Int32)) (pc := 194) hX dX10_passes_194 (by decide) ?_
          refine aw_aload_n (pc := 195) hX dX10_passes_195 rfl 1 rfl ?_
          refine gf_X10_81 (pc := 196) hX km0 rfl dX10_passes_196 ?_
          refine aw_iload (pc := 199) hX dX10_passes_199 0 rfl ?_
          obtain ⟨x201, hx201, h⟩ := ob h
          refine aw_iald (pc := 201) hX km23 hx201 dX10_passes_201 ?_
          refine aw_iconst (v := (2 : Int32)) (pc := 202) hX dX10_passes_202 (by decide) ?_
          refine aw_isub (pc := 203) hX dX10_passes_203 ?_
          obtain ⟨r204, S204, hr204, h⟩ := ob2 h
          refine aw_cSI (pc := 204) (As := [.int (0 : Int32), .int (x201 - (2 : Int32))]) (rest := [.int (((10 : Int32) * v1) + v3), .ref 23]) hX (c_J9_max_7cf53 (sk := SKM) hr204) ok_J9_max_7cf53 kw_7_66 st_J9_max_7cf53 rfl (by decide) (Nat.le_of_ble_eq_true rfl) rfl dX10_passes_204 (Nat.le_refl 0) (Nat.le_refl 0) ?_
          refine aw_goto (tgt := 224) (pc := 207) hX dX10_passes_207 (by decide) ?_
          refine aw_sub (ls' := [(0, .ref 0), (1, .int v1), (3, .int v3)]) [1, 2, 3] rfl ?_
          exact c_X10_passes_224 hX hQ ih v1 v3 (((10 : Int32) * v1) + v3) r204 S204 h
      · rw [if_pos c170] at h
        refine aw_goto (tgt := 225) (pc := 173) hX dX10_passes_173 (by decide) ?_
        refine aw_iinc (v := (v3 + 1)) (ls' := [(3, .int (v3 + 1)), (4, .int (((10 : Int32) * v1) + v3)), (0, .ref 0), (1, .int v1)]) (pc := 225) hX dX10_passes_225 (pos := 3) rfl (by first | rfl | decide) (by decide) rfl ?_
        refine aw_goto (tgt := 146) (pc := 228) hX dX10_passes_228 (by decide) ?_
        refine aw_sub (ls' := [(0, .ref 0), (1, .int v1), (3, .int (v3 + 1))]) [2, 3, 0] rfl ?_
        exact ih v1 (v3 + 1) S167 h

set_option maxHeartbeats 4000000 in
set_option maxRecDepth 100000 in
theorem c_X10_passes_75 {X : XT} {loc : Nat → Nat} {Sf : Mem} (hX : AC X loc RX10 cX10_passes none 5 6 0 0) (hQ : RetV X SKM loc 0 0 Sf) : ∀ (n : Nat) (v1 : Int32) (v3 : Int32) (S : Mem), f_X10_passes_75 n v1 v3 S = some Sf → AW X SKM loc 0 0 75 [(0, .ref 0), (1, .int v1), (3, .int v3)] [] S := by
  intro n
  induction n with
  | zero => intro v1 v3 S h; cases h
  | succ n ih =>
    intro v1 v3 S h
    unfold f_X10_passes_75 at h
    refine aw_iload_n (pc := 75) hX dX10_passes_75 rfl 2 rfl ?_
    refine aw_iconst (v := (2 : Int32)) (pc := 76) hX dX10_passes_76 (by decide) ?_
    refine aw_icmp_ge (pc := 77) hX (tgt := 144) dX10_passes_77 (by decide) (fun c77 => ?_) (fun c77 => ?_)
    · rw [if_pos c77] at h
      refine aw_iconst (v := (0 : Int32)) (pc := 144) hX dX10_passes_144 (by decide) ?_
      refine aw_istore_n (ls' := [(3, .int (0 : Int32)), (0, .ref 0), (1, .int v1)]) (pc := 145) hX dX10_passes_145 rfl (by decide) rfl ?_
      refine aw_sub (ls' := [(0, .ref 0), (1, .int v1), (3, .int (0 : Int32))]) [1, 2, 0] rfl ?_
      exact c_X10_passes_146 hX hQ FU v1 (0 : Int32) S h
    · rw [if_neg c77] at h
      refine aw_aload_n (pc := 80) hX dX10_passes_80 rfl 0 rfl ?_
      refine aw_iload_n (pc := 81) hX dX10_passes_81 rfl 2 rfl ?_
      obtain ⟨r82, S82, hr82, h⟩ := ob2 h
      refine aw_cVI (pc := 82) (As := [.int v3]) (rest := []) hX (c_X10_wasHurt hr82) ok_X10_wasHurt kw_7_157 im_X10_wasHurt se_X10_wasHurt rfl km0 rfl (by decide) (Nat.le_of_ble_eq_true rfl) rfl dX10_passes_82 (Nat.le_refl 0) (Nat.le_refl 0) ?_
      refine aw_if_ne (pc := 85) hX (tgt := 138) dX10_passes_85 (by decide) (fun c85 => ?_) (fun c85 => ?_)
      · rw [if_neg c85] at h
        refine aw_iinc (v := (v3 + 1)) (ls' := [(3, .int (v3 + 1)), (0, .ref 0), (1, .int v1)]) (pc := 138) hX dX10_passes_138 (pos := 2) rfl (by first | rfl | decide) (by decide) rfl ?_
        refine aw_goto (tgt := 75) (pc := 141) hX dX10_passes_141 (by decide) ?_
        refine aw_sub (ls' := [(0, .ref 0), (1, .int v1), (3, .int (v3 + 1))]) [1, 2, 0] rfl ?_
        exact ih v1 (v3 + 1) S82 h
      · rw [if_pos c85] at h
        refine aw_aload_n (pc := 88) hX dX10_passes_88 rfl 0 rfl ?_
        refine gf_X10_317 (pc := 89) hX km0 rfl dX10_passes_89 ?_
        refine aw_iconst (v := (5 : Int32)) (pc := 92) hX dX10_passes_92 (by decide) ?_
        refine aw_icmp_ne (pc := 93) hX (tgt := 99) dX10_passes_93 (by decide) (fun c93 => ?_) (fun c93 => ?_)
        · rw [if_neg c93] at h
          refine aw_aload_n (pc := 99) hX dX10_passes_99 rfl 0 rfl ?_
          refine aw_iload_n (pc := 100) hX dX10_passes_100 rfl 1 rfl ?_
          refine aw_iload_n (pc := 101) hX dX10_passes_101 rfl 2 rfl ?_
          obtain ⟨S102, hr102, h⟩ := ob h
          refine aw_cVV (pc := 102) (As := [.int v1, .int v3]) (rest := []) hX (c_X10_callsCity hr102) ok_X10_callsCity kw_7_98 im_X10_callsCity se_X10_callsCity rfl km0 rfl (by decide) (Nat.le_of_ble_eq_true rfl) rfl dX10_passes_102 (Nat.le_refl 0) (Nat.le_refl 0) ?_
          refine aw_aload_n (pc := 105) hX dX10_passes_105 rfl 0 rfl ?_
          refine gf_X10_69 (pc := 106) hX km0 rfl dX10_passes_106 ?_
          refine aw_iconst (v := (2 : Int32)) (pc := 109) hX dX10_passes_109 (by decide) ?_
          refine aw_iload_n (pc := 110) hX dX10_passes_110 rfl 1 rfl ?_
          refine aw_imul (pc := 111) hX dX10_passes_111 ?_
          refine aw_iload_n (pc := 112) hX dX10_passes_112 rfl 2 rfl ?_
          refine aw_iadd (pc := 113) hX dX10_passes_113 ?_
          refine aw_iconst (v := (0 : Int32)) (pc := 114) hX dX10_passes_114 (by decide) ?_
          refine aw_aload_n (pc := 115) hX dX10_passes_115 rfl 0 rfl ?_
          refine gf_X10_69 (pc := 116) hX km0 rfl dX10_passes_116 ?_
          refine aw_iconst (v := (2 : Int32)) (pc := 119) hX dX10_passes_119 (by decide) ?_
          refine aw_iload_n (pc := 120) hX dX10_passes_120 rfl 1 rfl ?_
          refine aw_imul (pc := 121) hX dX10_passes_121 ?_
          refine aw_iload_n (pc := 122) hX dX10_passes_122 rfl 2 rfl ?_
          refine aw_iadd (pc := 123) hX dX10_passes_123 ?_
          obtain ⟨x124, hx124, h⟩ := ob h
          refine aw_iald (pc := 124) hX km19 hx124 dX10_passes_124 ?_
          refine aw_aload_n (pc := 125) hX dX10_passes_125 rfl 0 rfl ?_
          refine aw_iconst (v := (2 : Int32)) (pc := 126) hX dX10_passes_126 (by decide) ?_
          refine aw_bipush (v := (99 : Int32)) (pc := 127) hX dX10_passes_127 (by decide) ?_
          refine aw_iconst (v := (1 : Int32)) (pc := 129) hX dX10_passes_129 (by decide) ?_
          obtain ⟨r130, S130, hr130, h⟩ := ob2 h
          refine aw_cVI (pc := 130) (As := [.int (2 : Int32), .int (99 : Int32), .int (1 : Int32)]) (rest := [.int x124, .int (0 : Int32), .int (((2 : Int32) * v1) + v3), .ref 19]) hX (c_X10_within hr130) ok_X10_within kw_7_67 im_X10_within se_X10_within rfl km0 rfl (by decide) (Nat.le_of_ble_eq_true rfl) rfl dX10_passes_130 (Nat.le_refl 0) (Nat.le_refl 0) ?_
          refine aw_isub (pc := 133) hX dX10_passes_133 ?_
          obtain ⟨r134, S134, hr134, h⟩ := ob2 h
          refine aw_cSI (pc := 134) (As := [.int (0 : Int32), .int (x124 - r130)]) (rest := [.int (((2 : Int32) * v1) + v3), .ref 19]) hX (c_J9_max_7cf53 (sk := SKM) hr134) ok_J9_max_7cf53 kw_7_66 st_J9_max_7cf53 rfl (by decide) (Nat.le_of_ble_eq_true rfl) rfl dX10_passes_134 (Nat.le_refl 0) (Nat.le_refl 0) ?_
          obtain ⟨S137, hS137, h⟩ := ob h
          refine aw_iast (pc := 137) hX km19 hS137 dX10_passes_137 ?_
          refine aw_iinc (v := (v3 + 1)) (ls' := [(3, .int (v3 + 1)), (0, .ref 0), (1, .int v1)]) (pc := 138) hX dX10_passes_138 (pos := 2) rfl (by first | rfl | decide) (by decide) rfl ?_
          refine aw_goto (tgt := 75) (pc := 141) hX dX10_passes_141 (by decide) ?_
          refine aw_sub (ls' := [(0, .ref 0), (1, .int v1), (3, .int (v3 + 1))]) [1, 2, 0] rfl ?_
          exact ih v1 (v3 + 1) S137 h
        · rw [if_pos c93] at h
          refine aw_goto (tgt := 138) (pc := 96) hX dX10_passes_96 (by decide) ?_
          refine aw_iinc (v := (v3 + 1)) (ls' := [(3, .int (v3 + 1)), (0, .ref 0), (1, .int v1)]) (pc := 138) hX dX10_passes_138 (pos := 2) rfl (by first | rfl | decide) (by decide) rfl ?_
          refine aw_goto (tgt := 75) (pc := 141) hX dX10_passes_141 (by decide) ?_
          refine aw_sub (ls' := [(0, .ref 0), (1, .int v1), (3, .int (v3 + 1))]) [1, 2, 0] rfl ?_
          exact ih v1 (v3 + 1) S82 h

set_option maxHeartbeats 4000000 in
set_option maxRecDepth 100000 in
theorem c_X10_passes_7 {X : XT} {loc : Nat → Nat} {Sf : Mem} (hX : AC X loc RX10 cX10_passes none 5 6 0 0) (hQ : RetV X SKM loc 0 0 Sf) : ∀ (n : Nat) (v1 : Int32) (v2 : Int32) (v3 : Int32) (S : Mem), f_X10_passes_7 n v1 v2 v3 S = some Sf → AW X SKM loc 0 0 7 [(0, .ref 0), (1, .int v1), (2, .int v2), (3, .int v3)] [] S := by
  intro n
  induction n with
  | zero => intro v1 v2 v3 S h; cases h
  | succ n ih =>
    intro v1 v2 v3 S h
    unfold f_X10_passes_7 at h
    refine aw_iload_n (pc := 7) hX dX10_passes_7 rfl 3 rfl ?_
    refine aw_aload_n (pc := 8) hX dX10_passes_8 rfl 0 rfl ?_
    refine gf_X10_13 (pc := 9) hX km0 rfl dX10_passes_9 ?_
    refine aw_iconst (v := (1 : Int32)) (pc := 12) hX dX10_passes_12 (by decide) ?_
    obtain ⟨x13, hx13, h⟩ := ob h
    refine aw_iald (pc := 13) hX km2 hx13 dX10_passes_13 ?_
    refine aw_icmp_ge (pc := 14) hX (tgt := 61) dX10_passes_14 (by decide) (fun c14 => ?_) (fun c14 => ?_)
    · rw [if_pos c14] at h
      refine aw_aload_n (pc := 61) hX dX10_passes_61 rfl 0 rfl ?_
      refine aw_iload_n (pc := 62) hX dX10_passes_62 rfl 1 rfl ?_
      refine aw_iconst (v := (0 : Int32)) (pc := 63) hX dX10_passes_63 (by decide) ?_
      obtain ⟨S64, hr64, h⟩ := ob h
      refine aw_cVV (pc := 64) (As := [.int v1, .int (0 : Int32)]) (rest := []) hX (c_X10_answers hr64) ok_X10_answers kw_7_149 im_X10_answers se_X10_answers rfl km0 rfl (by decide) (Nat.le_of_ble_eq_true rfl) rfl dX10_passes_64 (Nat.le_refl 0) (Nat.le_refl 0) ?_
      refine aw_aload_n (pc := 67) hX dX10_passes_67 rfl 0 rfl ?_
      refine aw_iload_n (pc := 68) hX dX10_passes_68 rfl 1 rfl ?_
      refine aw_iconst (v := (1 : Int32)) (pc := 69) hX dX10_passes_69 (by decide) ?_
      obtain ⟨S70, hr70, h⟩ := ob h
      refine aw_cVV (pc := 70) (As := [.int v1, .int (1 : Int32)]) (rest := []) hX (c_X10_answers hr70) ok_X10_answers kw_7_149 im_X10_answers se_X10_answers rfl km0 rfl (by decide) (Nat.le_of_ble_eq_true rfl) rfl dX10_passes_70 (Nat.le_refl 0) (Nat.le_refl 0) ?_
      refine aw_iconst (v := (0 : Int32)) (pc := 73) hX dX10_passes_73 (by decide) ?_
      refine aw_istore_n (ls' := [(3, .int (0 : Int32)), (0, .ref 0), (1, .int v1), (2, .int v2)]) (pc := 74) hX dX10_passes_74 rfl (by decide) rfl ?_
      refine aw_sub (ls' := [(0, .ref 0), (1, .int v1), (3, .int (0 : Int32))]) [1, 2, 0] rfl ?_
      exact c_X10_passes_75 hX hQ FU v1 (0 : Int32) S70 h
    · rw [if_neg c14] at h
      refine aw_aload_n (pc := 17) hX dX10_passes_17 rfl 0 rfl ?_
      refine aw_iload_n (pc := 18) hX dX10_passes_18 rfl 1 rfl ?_
      refine aw_iload_n (pc := 19) hX dX10_passes_19 rfl 3 rfl ?_
      obtain ⟨r20, S20, hr20, h⟩ := ob2 h
      refine aw_cVI (pc := 20) (As := [.int v1, .int v3]) (rest := []) hX (c_X10_isHeld hr20) ok_X10_isHeld kw_7_27 im_X10_isHeld se_X10_isHeld rfl km0 rfl (by decide) (Nat.le_of_ble_eq_true rfl) rfl dX10_passes_20 (Nat.le_refl 0) (Nat.le_refl 0) ?_
      refine aw_if_eq (pc := 23) hX (tgt := 55) dX10_passes_23 (by decide) (fun c23 => ?_) (fun c23 => ?_)
      · rw [if_pos c23] at h
        refine aw_iinc (v := (v3 + 1)) (ls' := [(3, .int (v3 + 1)), (0, .ref 0), (1, .int v1), (2, .int v2)]) (pc := 55) hX dX10_passes_55 (pos := 3) rfl (by first | rfl | decide) (by decide) rfl ?_
        refine aw_goto (tgt := 7) (pc := 58) hX dX10_passes_58 (by decide) ?_
        refine aw_sub (ls' := [(0, .ref 0), (1, .int v1), (2, .int v2), (3, .int (v3 + 1))]) [1, 2, 3, 0] rfl ?_
        exact ih v1 v2 (v3 + 1) S20 h
      · rw [if_neg c23] at h
        refine aw_aload_n (pc := 26) hX dX10_passes_26 rfl 0 rfl ?_
        refine aw_iload_n (pc := 27) hX dX10_passes_27 rfl 1 rfl ?_
        refine aw_iload_n (pc := 28) hX dX10_passes_28 rfl 3 rfl ?_
        refine aw_iload_n (pc := 29) hX dX10_passes_29 rfl 2 rfl ?_
        obtain ⟨r30, S30, hr30, h⟩ := ob2 h
        refine aw_cVI (pc := 30) (As := [.int v1, .int v3, .int v2]) (rest := []) hX (c_X10_comeMoths hr30) ok_X10_comeMoths kw_7_134 im_X10_comeMoths se_X10_comeMoths rfl km0 rfl (by decide) (Nat.le_of_ble_eq_true rfl) rfl dX10_passes_30 (Nat.le_refl 0) (Nat.le_refl 0) ?_
        refine aw_if_ne (pc := 33) hX (tgt := 39) dX10_passes_33 (by decide) (fun c33 => ?_) (fun c33 => ?_)
        · rw [if_neg c33] at h
          refine aw_aload_n (pc := 39) hX dX10_passes_39 rfl 0 rfl ?_
          refine gf_X10_66 (pc := 40) hX km0 rfl dX10_passes_40 ?_
          refine aw_iload_n (pc := 43) hX dX10_passes_43 rfl 1 rfl ?_
          refine aw_dup2 (pc := 44) hX dX10_passes_44 rfl rfl ?_
          obtain ⟨x45, hx45, h⟩ := ob h
          refine aw_iald (pc := 45) hX km18 hx45 dX10_passes_45 ?_
          refine aw_iconst (v := (1 : Int32)) (pc := 46) hX dX10_passes_46 (by decide) ?_
          refine aw_iadd (pc := 47) hX dX10_passes_47 ?_
          obtain ⟨S48, hS48, h⟩ := ob h
          refine aw_iast (pc := 48) hX km18 hS48 dX10_passes_48 ?_
          refine aw_aload_n (pc := 49) hX dX10_passes_49 rfl 0 rfl ?_
          refine aw_iload_n (pc := 50) hX dX10_passes_50 rfl 1 rfl ?_
          refine aw_iload_n (pc := 51) hX dX10_passes_51 rfl 3 rfl ?_
          obtain ⟨S52, hr52, h⟩ := ob h
          refine aw_cVV (pc := 52) (As := [.int v1, .int v3]) (rest := []) hX (c_X10_hurts hr52) ok_X10_hurts kw_7_144 im_X10_hurts se_X10_hurts rfl km0 rfl (by decide) (Nat.le_of_ble_eq_true rfl) rfl dX10_passes_52 (Nat.le_refl 0) (Nat.le_refl 0) ?_
          refine aw_iinc (v := (v3 + 1)) (ls' := [(3, .int (v3 + 1)), (0, .ref 0), (1, .int v1), (2, .int v2)]) (pc := 55) hX dX10_passes_55 (pos := 3) rfl (by first | rfl | decide) (by decide) rfl ?_
          refine aw_goto (tgt := 7) (pc := 58) hX dX10_passes_58 (by decide) ?_
          refine aw_sub (ls' := [(0, .ref 0), (1, .int v1), (2, .int v2), (3, .int (v3 + 1))]) [1, 2, 3, 0] rfl ?_
          exact ih v1 v2 (v3 + 1) S52 h
        · rw [if_pos c33] at h
          refine aw_goto (tgt := 55) (pc := 36) hX dX10_passes_36 (by decide) ?_
          refine aw_iinc (v := (v3 + 1)) (ls' := [(3, .int (v3 + 1)), (0, .ref 0), (1, .int v1), (2, .int v2)]) (pc := 55) hX dX10_passes_55 (pos := 3) rfl (by first | rfl | decide) (by decide) rfl ?_
          refine aw_goto (tgt := 7) (pc := 58) hX dX10_passes_58 (by decide) ?_
          refine aw_sub (ls' := [(0, .ref 0), (1, .int v1), (2, .int v2), (3, .int (v3 + 1))]) [1, 2, 3, 0] rfl ?_
          exact ih v1 v2 (v3 + 1) S30 h

set_option maxHeartbeats 4000000 in
set_option maxRecDepth 100000 in
theorem c_X10_passes {v1 : Int32} {v2 : Int32} {S : Mem} {Sf : Mem} (h : f_X10_passes v1 v2 S = some Sf) : MetV yX10_passes cX10_passes 5 none 6 [.ref 0, .int v1, .int v2] SKM S Sf := by
  refine MetV.intro (by decide +kernel) (Nat.le_of_ble_eq_true rfl) (fun X loc hX hQ => ?_)
  unfold f_X10_passes at h
  show AW X SKM loc 0 0 0 [(0, .ref 0), (1, .int v1), (2, .int v2)] [] S
  refine aw_aload_n (pc := 0) hX dX10_passes_0 rfl 0 rfl ?_
  refine aw_iconst (v := (0 : Int32)) (pc := 1) hX dX10_passes_1 (by decide) ?_
  refine pf_X10_361 (pc := 2) hX km0 rfl dX10_passes_2 ?_
  obtain ⟨S2, eS2, h⟩ := on h
  refine aw_S eS2 ?_
  refine aw_iconst (v := (0 : Int32)) (pc := 5) hX dX10_passes_5 (by decide) ?_
  refine aw_istore_n (ls' := [(3, .int (0 : Int32)), (0, .ref 0), (1, .int v1), (2, .int v2)]) (pc := 6) hX dX10_passes_6 rfl (by decide) rfl ?_
  refine aw_sub (ls' := [(0, .ref 0), (1, .int v1), (2, .int v2), (3, .int (0 : Int32))]) [1, 2, 3, 0] rfl ?_
  exact c_X10_passes_7 hX hQ FU v1 v2 (0 : Int32) S2 h

def f_X10_goesOn_2 : Nat → Int32 → Int32 → Mem → Option Mem
  | 0, _, _, _ => none
  | n + 1, v1, v2, S =>
  if v1 ≤ v2 then
  (some S)
  else
  ((f_X10_passes (1 : Int32) (0 : Int32) S).bind fun S10 =>
  f_X10_goesOn_2 n v1 (v2 + 1) S10)

def f_X10_goesOn (v1 : Int32) (S : Mem) : Option Mem :=
  f_X10_goesOn_2 FU v1 (0 : Int32) S

set_option maxHeartbeats 4000000 in
set_option maxRecDepth 100000 in
theorem c_X10_goesOn_2 {X : XT} {loc : Nat → Nat} {Sf : Mem} (hX : AC X loc RX10 cX10_goesOn none 3 7 0 0) (hQ : RetV X SKM loc 0 0 Sf) : ∀ (n : Nat) (v1 : Int32) (v2 : Int32) (S : Mem), f_X10_goesOn_2 n v1 v2 S = some Sf → AW X SKM loc 0 0 2 [(0, .ref 0), (1, .int v1), (2, .int v2)] [] S := by
  intro n
  induction n with
  | zero => intro v1 v2 S h; cases h
  | succ n ih =>
    intro v1 v2 S h
    unfold f_X10_goesOn_2 at h
    refine aw_iload_n (pc := 2) hX dX10_goesOn_2 rfl 2 rfl ?_
    refine aw_iload_n (pc := 3) hX dX10_goesOn_3 rfl 1 rfl ?_
    refine aw_icmp_ge (pc := 4) hX (tgt := 19) dX10_goesOn_4 (by decide) (fun c4 => ?_) (fun c4 => ?_)
    · rw [if_pos c4] at h
      cases h
      exact aw_vret hX hQ dX10_goesOn_19
    · rw [if_neg c4] at h
      refine aw_aload_n (pc := 7) hX dX10_goesOn_7 rfl 0 rfl ?_
      refine aw_iconst (v := (1 : Int32)) (pc := 8) hX dX10_goesOn_8 (by decide) ?_
      refine aw_iconst (v := (0 : Int32)) (pc := 9) hX dX10_goesOn_9 (by decide) ?_
      obtain ⟨S10, hr10, h⟩ := ob h
      refine aw_cVV (pc := 10) (As := [.int (1 : Int32), .int (0 : Int32)]) (rest := []) hX (c_X10_passes hr10) ok_X10_passes kw_7_130 im_X10_passes se_X10_passes rfl km0 rfl (by decide) (Nat.le_of_ble_eq_true rfl) rfl dX10_goesOn_10 (Nat.le_refl 0) (Nat.le_refl 0) ?_
      refine aw_iinc (v := (v2 + 1)) (ls' := [(2, .int (v2 + 1)), (0, .ref 0), (1, .int v1)]) (pc := 13) hX dX10_goesOn_13 (pos := 2) rfl (by first | rfl | decide) (by decide) rfl ?_
      refine aw_goto (tgt := 2) (pc := 16) hX dX10_goesOn_16 (by decide) ?_
      refine aw_sub (ls' := [(0, .ref 0), (1, .int v1), (2, .int (v2 + 1))]) [1, 2, 0] rfl ?_
      exact ih v1 (v2 + 1) S10 h

set_option maxHeartbeats 4000000 in
set_option maxRecDepth 100000 in
theorem c_X10_goesOn {v1 : Int32} {S : Mem} {Sf : Mem} (h : f_X10_goesOn v1 S = some Sf) : MetV yX10_goesOn cX10_goesOn 3 none 7 [.ref 0, .int v1] SKM S Sf := by
  refine MetV.intro (by decide +kernel) (Nat.le_of_ble_eq_true rfl) (fun X loc hX hQ => ?_)
  unfold f_X10_goesOn at h
  show AW X SKM loc 0 0 0 [(0, .ref 0), (1, .int v1)] [] S
  refine aw_iconst (v := (0 : Int32)) (pc := 0) hX dX10_goesOn_0 (by decide) ?_
  refine aw_istore_n (ls' := [(2, .int (0 : Int32)), (0, .ref 0), (1, .int v1)]) (pc := 1) hX dX10_goesOn_1 rfl (by decide) rfl ?_
  refine aw_sub (ls' := [(0, .ref 0), (1, .int v1), (2, .int (0 : Int32))]) [1, 2, 0] rfl ?_
  exact c_X10_goesOn_2 hX hQ FU v1 (0 : Int32) S h

def f_X10_runs (v1 : Int32) (S : Mem) : Option Mem :=
  (f_X10_copies (1 : Int32) (0 : Int32) S).bind fun S3 =>
  (f_X10_goesOn v1 S3).bind fun S8 =>
  some S8

set_option maxHeartbeats 4000000 in
set_option maxRecDepth 100000 in
theorem c_X10_runs {v1 : Int32} {S : Mem} {Sf : Mem} (h : f_X10_runs v1 S = some Sf) : MetV yX10_runs cX10_runs 2 none 8 [.ref 0, .int v1] SKM S Sf := by
  refine MetV.intro (by decide +kernel) (Nat.le_of_ble_eq_true rfl) (fun X loc hX hQ => ?_)
  unfold f_X10_runs at h
  show AW X SKM loc 0 0 0 [(0, .ref 0), (1, .int v1)] [] S
  refine aw_aload_n (pc := 0) hX dX10_runs_0 rfl 0 rfl ?_
  refine aw_iconst (v := (1 : Int32)) (pc := 1) hX dX10_runs_1 (by decide) ?_
  refine aw_iconst (v := (0 : Int32)) (pc := 2) hX dX10_runs_2 (by decide) ?_
  obtain ⟨S3, hr3, h⟩ := ob h
  refine aw_cVV (pc := 3) (As := [.int (1 : Int32), .int (0 : Int32)]) (rest := []) hX (c_X10_copies hr3) ok_X10_copies kw_7_110 im_X10_copies se_X10_copies rfl km0 rfl (by decide) (Nat.le_of_ble_eq_true rfl) rfl dX10_runs_3 (Nat.le_refl 0) (Nat.le_refl 0) ?_
  refine aw_aload_n (pc := 6) hX dX10_runs_6 rfl 0 rfl ?_
  refine aw_iload_n (pc := 7) hX dX10_runs_7 rfl 1 rfl ?_
  obtain ⟨S8, hr8, h⟩ := ob h
  refine aw_cVV (pc := 8) (As := [.int v1]) (rest := []) hX (c_X10_goesOn hr8) ok_X10_goesOn kw_7_169 im_X10_goesOn se_X10_goesOn rfl km0 rfl (by decide) (Nat.le_of_ble_eq_true rfl) rfl dX10_runs_8 (Nat.le_refl 0) (Nat.le_refl 0) ?_
  cases h
  exact aw_vret hX hQ dX10_runs_11

def f_X10_ahead_50 (v1 : Int32) (v2 : Int32) (v3 : Int32) (S : Mem) : Option (Int32 × Mem) :=
  (f_X10_runs v1 S).bind fun S52 =>
  if v2 = 0 then
  ((rd S52 22 230 ((10 : Int32) + v3)).bind fun x92 =>
  some (x92, S52))
  else
  (if v2 = 1 then
  ((rd S52 19 46 ((2 : Int32) + v3)).bind fun x101 =>
  some (x101, S52))
  else
  (bnd (f_X10_breachesBoth (1 : Int32) S52) fun r105 S105 =>
  bnd (f_X10_breachesBoth (0 : Int32) S105) fun r110 S110 =>
  some ((r105 - r110), S110)))

def f_X10_ahead_36 (v1 : Int32) (v2 : Int32) (v3 : Int32) (S : Mem) : Option (Int32 × Mem) :=
  if v2 = (1 : Int32) then
  (bnd (f_X10_isCity v3 S) fun r42 S42 =>
  if r42 = 0 then
  (some ((-1 : Int32), S42))
  else
  (f_X10_ahead_50 v1 v2 v3 S42))
  else
  (f_X10_ahead_50 v1 v2 v3 S)

def f_X10_ahead (v1 : Int32) (v2 : Int32) (v3 : Int32) (S : Mem) : Option (Int32 × Mem) :=
  nxt (sI S 0 0 (0 : Int32)) fun S2 =>
  if v1 < 0 then
  (some ((-1 : Int32), S2))
  else
  (if (60 : Int32) < v1 then
  (some ((-1 : Int32), S2))
  else
  (if v2 < 0 then
  (some ((-1 : Int32), S2))
  else
  (if (2 : Int32) < v2 then
  (some ((-1 : Int32), S2))
  else
  (if v2 = 0 then
  (bnd (f_X10_isDoll v3 S2) fun r30 S30 =>
  if r30 = 0 then
  (some ((-1 : Int32), S30))
  else
  (f_X10_ahead_36 v1 v2 v3 S30))
  else
  (f_X10_ahead_36 v1 v2 v3 S2)))))

set_option maxHeartbeats 4000000 in
set_option maxRecDepth 100000 in
theorem c_X10_ahead_50 {X : XT} {loc : Nat → Nat} {r : Int32} {Sf : Mem} (hX : AC X loc RX10 cX10_ahead (some .int) 4 9 0 0) (hQ : RetI X SKM loc 0 0 r Sf) (v1 : Int32) (v2 : Int32) (v3 : Int32) (S : Mem) (h : f_X10_ahead_50 v1 v2 v3 S = some (r, Sf)) : AW X SKM loc 0 0 50 [(0, .ref 0), (1, .int v1), (2, .int v2), (3, .int v3)] [] S := by
  unfold f_X10_ahead_50 at h
  refine aw_aload_n (pc := 50) hX dX10_ahead_50 rfl 0 rfl ?_
  refine aw_iload_n (pc := 51) hX dX10_ahead_51 rfl 1 rfl ?_
  obtain ⟨S52, hr52, h⟩ := ob h
  refine aw_cVV (pc := 52) (As := [.int v1]) (rest := []) hX (c_X10_runs hr52) ok_X10_runs kw_7_165 im_X10_runs se_X10_runs rfl km0 rfl (by decide) (Nat.le_of_ble_eq_true rfl) rfl dX10_ahead_52 (Nat.le_refl 0) (Nat.le_refl 0) ?_
  refine aw_iload_n (pc := 55) hX dX10_ahead_55 rfl 2 rfl ?_
  by_cases c56_0 : v2 = 0
  · rw [if_pos c56_0] at h
    refine aw_look (pc := 56) hX (off := 28) (tgt := 84) dX10_ahead_56 (by decide) (by rw [c56_0]; decide) (by decide) ?_
    refine aw_aload_n (pc := 84) hX dX10_ahead_84 rfl 0 rfl ?_
    refine gf_X10_78 (pc := 85) hX km0 rfl dX10_ahead_85 ?_
    refine aw_bipush (v := (10 : Int32)) (pc := 88) hX dX10_ahead_88 (by decide) ?_
    refine aw_iload_n (pc := 90) hX dX10_ahead_90 rfl 3 rfl ?_
    refine aw_iadd (pc := 91) hX dX10_ahead_91 ?_
    obtain ⟨x92, hx92, h⟩ := ob h
    refine aw_iald (pc := 92) hX km22 hx92 dX10_ahead_92 ?_
    cases h
    exact aw_iret hX hQ dX10_ahead_93
  · rw [if_neg c56_0] at h
    by_cases c56_1 : v2 = 1
    · rw [if_pos c56_1] at h
      refine aw_look (pc := 56) hX (off := 38) (tgt := 94) dX10_ahead_56 (by decide) (by rw [c56_1]; decide) (by decide) ?_
      refine aw_aload_n (pc := 94) hX dX10_ahead_94 rfl 0 rfl ?_
      refine gf_X10_69 (pc := 95) hX km0 rfl dX10_ahead_95 ?_
      refine aw_iconst (v := (2 : Int32)) (pc := 98) hX dX10_ahead_98 (by decide) ?_
      refine aw_iload_n (pc := 99) hX dX10_ahead_99 rfl 3 rfl ?_
      refine aw_iadd (pc := 100) hX dX10_ahead_100 ?_
      obtain ⟨x101, hx101, h⟩ := ob h
      refine aw_iald (pc := 101) hX km19 hx101 dX10_ahead_101 ?_
      cases h
      exact aw_iret hX hQ dX10_ahead_102
    · rw [if_neg c56_1] at h
      refine aw_look (pc := 56) hX (off := 47) (tgt := 103) dX10_ahead_56 (by decide) (by have e0 := ne_i c56_0 (by decide : (0 : Int32).toInt = 0); have e1 := ne_i c56_1 (by decide : (1 : Int32).toInt = 1); exact lk_out (by simp; omega)) (by decide) ?_
      refine aw_aload_n (pc := 103) hX dX10_ahead_103 rfl 0 rfl ?_
      refine aw_iconst (v := (1 : Int32)) (pc := 104) hX dX10_ahead_104 (by decide) ?_
      obtain ⟨r105, S105, hr105, h⟩ := ob2 h
      refine aw_cVI (pc := 105) (As := [.int (1 : Int32)]) (rest := []) hX (c_X10_breachesBoth hr105) ok_X10_breachesBoth kw_7_173 im_X10_breachesBoth se_X10_breachesBoth rfl km0 rfl (by decide) (Nat.le_of_ble_eq_true rfl) rfl dX10_ahead_105 (Nat.le_refl 0) (Nat.le_refl 0) ?_
      refine aw_aload_n (pc := 108) hX dX10_ahead_108 rfl 0 rfl ?_
      refine aw_iconst (v := (0 : Int32)) (pc := 109) hX dX10_ahead_109 (by decide) ?_
      obtain ⟨r110, S110, hr110, h⟩ := ob2 h
      refine aw_cVI (pc := 110) (As := [.int (0 : Int32)]) (rest := [.int r105]) hX (c_X10_breachesBoth hr110) ok_X10_breachesBoth kw_7_173 im_X10_breachesBoth se_X10_breachesBoth rfl km0 rfl (by decide) (Nat.le_of_ble_eq_true rfl) rfl dX10_ahead_110 (Nat.le_refl 0) (Nat.le_refl 0) ?_
      refine aw_isub (pc := 113) hX dX10_ahead_113 ?_
      cases h
      exact aw_iret hX hQ dX10_ahead_114

set_option maxHeartbeats 4000000 in
set_option maxRecDepth 100000 in
theorem c_X10_ahead_36 {X : XT} {loc : Nat → Nat} {r : Int32} {Sf : Mem} (hX : AC X loc RX10 cX10_ahead (some .int) 4 9 0 0) (hQ : RetI X SKM loc 0 0 r Sf) (v1 : Int32) (v2 : Int32) (v3 : Int32) (S : Mem) (h : f_X10_ahead_36 v1 v2 v3 S = some (r, Sf)) : AW X SKM loc 0 0 36 [(0, .ref 0), (1, .int v1), (2, .int v2), (3, .int v3)] [] S := by
  unfold f_X10_ahead_36 at h
  refine aw_iload_n (pc := 36) hX dX10_ahead_36 rfl 2 rfl ?_
  refine aw_iconst (v := (1 : Int32)) (pc := 37) hX dX10_ahead_37 (by decide) ?_
  refine aw_icmp_ne (pc := 38) hX (tgt := 50) dX10_ahead_38 (by decide) (fun c38 => ?_) (fun c38 => ?_)
  · rw [if_neg c38] at h
    exact c_X10_ahead_50 hX hQ v1 v2 v3 S h
  · rw [if_pos c38] at h
    refine aw_iload_n (pc := 41) hX dX10_ahead_41 rfl 3 rfl ?_
    obtain ⟨r42, S42, hr42, h⟩ := ob2 h
    refine aw_cSI (pc := 42) (As := [.int v3]) (rest := []) hX (c_X10_isCity (sk := SKM) hr42) ok_X10_isCity kw_7_35 st_X10_isCity rfl (by decide) (Nat.le_of_ble_eq_true rfl) rfl dX10_ahead_42 (Nat.le_refl 0) (Nat.le_refl 0) ?_
    refine aw_if_ne (pc := 45) hX (tgt := 50) dX10_ahead_45 (by decide) (fun c45 => ?_) (fun c45 => ?_)
    · rw [if_neg c45] at h
      exact c_X10_ahead_50 hX hQ v1 v2 v3 S42 h
    · rw [if_pos c45] at h
      refine aw_iconst (v := (-1 : Int32)) (pc := 48) hX dX10_ahead_48 (by decide) ?_
      cases h
      exact aw_iret hX hQ dX10_ahead_49

set_option maxHeartbeats 4000000 in
set_option maxRecDepth 100000 in
theorem c_X10_ahead {v1 : Int32} {v2 : Int32} {v3 : Int32} {S : Mem} {r : Int32} {Sf : Mem} (h : f_X10_ahead v1 v2 v3 S = some (r, Sf)) : MetI yX10_ahead cX10_ahead 4 (some .int) 9 [.ref 0, .int v1, .int v2, .int v3] SKM S r Sf := by
  refine MetI.intro (by decide +kernel) (Nat.le_of_ble_eq_true rfl) (fun X loc hX hQ => ?_)
  unfold f_X10_ahead at h
  show AW X SKM loc 0 0 0 [(0, .ref 0), (1, .int v1), (2, .int v2), (3, .int v3)] [] S
  refine aw_aload_n (pc := 0) hX dX10_ahead_0 rfl 0 rfl ?_
  refine aw_iconst (v := (0 : Int32)) (pc := 1) hX dX10_ahead_1 (by decide) ?_
  refine pf_X10_124 (pc := 2) hX km0 rfl dX10_ahead_2 ?_
  obtain ⟨S2, eS2, h⟩ := on h
  refine aw_S eS2 ?_
  refine aw_iload_n (pc := 5) hX dX10_ahead_5 rfl 1 rfl ?_
  refine aw_if_lt (pc := 6) hX (tgt := 48) dX10_ahead_6 (by decide) (fun c6 => ?_) (fun c6 => ?_)
  · rw [if_pos c6] at h
    refine aw_iconst (v := (-1 : Int32)) (pc := 48) hX dX10_ahead_48 (by decide) ?_
    cases h
    exact aw_iret hX hQ dX10_ahead_49
  · rw [if_neg c6] at h
    refine aw_iload_n (pc := 9) hX dX10_ahead_9 rfl 1 rfl ?_
    refine aw_bipush (v := (60 : Int32)) (pc := 10) hX dX10_ahead_10 (by decide) ?_
    refine aw_icmp_gt (pc := 12) hX (tgt := 48) dX10_ahead_12 (by decide) (fun c12 => ?_) (fun c12 => ?_)
    · rw [if_pos c12] at h
      refine aw_iconst (v := (-1 : Int32)) (pc := 48) hX dX10_ahead_48 (by decide) ?_
      cases h
      exact aw_iret hX hQ dX10_ahead_49
    · rw [if_neg c12] at h
      refine aw_iload_n (pc := 15) hX dX10_ahead_15 rfl 2 rfl ?_
      refine aw_if_lt (pc := 16) hX (tgt := 48) dX10_ahead_16 (by decide) (fun c16 => ?_) (fun c16 => ?_)
      · rw [if_pos c16] at h
        refine aw_iconst (v := (-1 : Int32)) (pc := 48) hX dX10_ahead_48 (by decide) ?_
        cases h
        exact aw_iret hX hQ dX10_ahead_49
      · rw [if_neg c16] at h
        refine aw_iload_n (pc := 19) hX dX10_ahead_19 rfl 2 rfl ?_
        refine aw_iconst (v := (2 : Int32)) (pc := 20) hX dX10_ahead_20 (by decide) ?_
        refine aw_icmp_gt (pc := 21) hX (tgt := 48) dX10_ahead_21 (by decide) (fun c21 => ?_) (fun c21 => ?_)
        · rw [if_pos c21] at h
          refine aw_iconst (v := (-1 : Int32)) (pc := 48) hX dX10_ahead_48 (by decide) ?_
          cases h
          exact aw_iret hX hQ dX10_ahead_49
        · rw [if_neg c21] at h
          refine aw_iload_n (pc := 24) hX dX10_ahead_24 rfl 2 rfl ?_
          refine aw_if_ne (pc := 25) hX (tgt := 36) dX10_ahead_25 (by decide) (fun c25 => ?_) (fun c25 => ?_)
          · rw [if_neg c25] at h
            exact c_X10_ahead_36 hX hQ v1 v2 v3 S2 h
          · rw [if_pos c25] at h
            refine aw_aload_n (pc := 28) hX dX10_ahead_28 rfl 0 rfl ?_
            refine aw_iload_n (pc := 29) hX dX10_ahead_29 rfl 3 rfl ?_
            obtain ⟨r30, S30, hr30, h⟩ := ob2 h
            refine aw_cVI (pc := 30) (As := [.int v3]) (rest := []) hX (c_X10_isDoll hr30) ok_X10_isDoll kw_7_11 im_X10_isDoll se_X10_isDoll rfl km0 rfl (by decide) (Nat.le_of_ble_eq_true rfl) rfl dX10_ahead_30 (Nat.le_refl 0) (Nat.le_refl 0) ?_
            refine aw_if_eq (pc := 33) hX (tgt := 48) dX10_ahead_33 (by decide) (fun c33 => ?_) (fun c33 => ?_)
            · rw [if_pos c33] at h
              refine aw_iconst (v := (-1 : Int32)) (pc := 48) hX dX10_ahead_48 (by decide) ?_
              cases h
              exact aw_iret hX hQ dX10_ahead_49
            · rw [if_neg c33] at h
              exact c_X10_ahead_36 hX hQ v1 v2 v3 S30 h

def f_X10_angerBoth (v1 : Int32) (S : Mem) : Option (Int32 × Mem) :=
  (rd S 19 46 ((2 : Int32) * v1)).bind fun x7 =>
  (rd S 19 46 (((2 : Int32) * v1) + (1 : Int32))).bind fun x17 =>
  some ((x7 + x17), S)

set_option maxHeartbeats 4000000 in
set_option maxRecDepth 100000 in
theorem c_X10_angerBoth {v1 : Int32} {S : Mem} {r : Int32} {Sf : Mem} (h : f_X10_angerBoth v1 S = some (r, Sf)) : MetI yX10_angerBoth cX10_angerBoth 2 (some .int) 0 [.ref 0, .int v1] SKM S r Sf := by
  refine MetI.intro (by decide +kernel) (Nat.le_of_ble_eq_true rfl) (fun X loc hX hQ => ?_)
  unfold f_X10_angerBoth at h
  show AW X SKM loc 0 0 0 [(0, .ref 0), (1, .int v1)] [] S
  refine aw_aload_n (pc := 0) hX dX10_angerBoth_0 rfl 0 rfl ?_
  refine gf_X10_69 (pc := 1) hX km0 rfl dX10_angerBoth_1 ?_
  refine aw_iconst (v := (2 : Int32)) (pc := 4) hX dX10_angerBoth_4 (by decide) ?_
  refine aw_iload_n (pc := 5) hX dX10_angerBoth_5 rfl 1 rfl ?_
  refine aw_imul (pc := 6) hX dX10_angerBoth_6 ?_
  obtain ⟨x7, hx7, h⟩ := ob h
  refine aw_iald (pc := 7) hX km19 hx7 dX10_angerBoth_7 ?_
  refine aw_aload_n (pc := 8) hX dX10_angerBoth_8 rfl 0 rfl ?_
  refine gf_X10_69 (pc := 9) hX km0 rfl dX10_angerBoth_9 ?_
  refine aw_iconst (v := (2 : Int32)) (pc := 12) hX dX10_angerBoth_12 (by decide) ?_
  refine aw_iload_n (pc := 13) hX dX10_angerBoth_13 rfl 1 rfl ?_
  refine aw_imul (pc := 14) hX dX10_angerBoth_14 ?_
  refine aw_iconst (v := (1 : Int32)) (pc := 15) hX dX10_angerBoth_15 (by decide) ?_
  refine aw_iadd (pc := 16) hX dX10_angerBoth_16 ?_
  obtain ⟨x17, hx17, h⟩ := ob h
  refine aw_iald (pc := 17) hX km19 hx17 dX10_angerBoth_17 ?_
  refine aw_iadd (pc := 18) hX dX10_angerBoth_18 ?_
  cases h
  exact aw_iret hX hQ dX10_angerBoth_19

def f_X10_answersOn (v1 : Int32) (S : Mem) : Option (Int32 × Mem) :=
  nxt (sI S 0 0 (0 : Int32)) fun S2 =>
  bnd (f_X10_isCity v1 S2) fun r6 S6 =>
  if r6 = 0 then
  (some ((-1 : Int32), S6))
  else
  (bnd (f_X10_answerOf (0 : Int32) v1 S6) fun r17 S17 =>
  if r17 = (-1 : Int32) then
  (some ((-2 : Int32), S17))
  else
  (some (r17, S17)))

set_option maxHeartbeats 4000000 in
set_option maxRecDepth 100000 in
theorem c_X10_answersOn {v1 : Int32} {S : Mem} {r : Int32} {Sf : Mem} (h : f_X10_answersOn v1 S = some (r, Sf)) : MetI yX10_answersOn cX10_answersOn 3 (some .int) 3 [.ref 0, .int v1] SKM S r Sf := by
  refine MetI.intro (by decide +kernel) (Nat.le_of_ble_eq_true rfl) (fun X loc hX hQ => ?_)
  unfold f_X10_answersOn at h
  show AW X SKM loc 0 0 0 [(0, .ref 0), (1, .int v1)] [] S
  refine aw_aload_n (pc := 0) hX dX10_answersOn_0 rfl 0 rfl ?_
  refine aw_iconst (v := (0 : Int32)) (pc := 1) hX dX10_answersOn_1 (by decide) ?_
  refine pf_X10_124 (pc := 2) hX km0 rfl dX10_answersOn_2 ?_
  obtain ⟨S2, eS2, h⟩ := on h
  refine aw_S eS2 ?_
  refine aw_iload_n (pc := 5) hX dX10_answersOn_5 rfl 1 rfl ?_
  obtain ⟨r6, S6, hr6, h⟩ := ob2 h
  refine aw_cSI (pc := 6) (As := [.int v1]) (rest := []) hX (c_X10_isCity (sk := SKM) hr6) ok_X10_isCity kw_7_35 st_X10_isCity rfl (by decide) (Nat.le_of_ble_eq_true rfl) rfl dX10_answersOn_6 (Nat.le_refl 0) (Nat.le_refl 0) ?_
  refine aw_if_ne (pc := 9) hX (tgt := 14) dX10_answersOn_9 (by decide) (fun c9 => ?_) (fun c9 => ?_)
  · rw [if_neg c9] at h
    refine aw_aload_n (pc := 14) hX dX10_answersOn_14 rfl 0 rfl ?_
    refine aw_iconst (v := (0 : Int32)) (pc := 15) hX dX10_answersOn_15 (by decide) ?_
    refine aw_iload_n (pc := 16) hX dX10_answersOn_16 rfl 1 rfl ?_
    obtain ⟨r17, S17, hr17, h⟩ := ob2 h
    refine aw_cVI (pc := 17) (As := [.int (0 : Int32), .int v1]) (rest := []) hX (c_X10_answerOf hr17) ok_X10_answerOf kw_7_153 im_X10_answerOf se_X10_answerOf rfl km0 rfl (by decide) (Nat.le_of_ble_eq_true rfl) rfl dX10_answersOn_17 (Nat.le_refl 0) (Nat.le_refl 0) ?_
    refine aw_istore_n (ls' := [(2, .int r17), (0, .ref 0), (1, .int v1)]) (pc := 20) hX dX10_answersOn_20 rfl (by decide) rfl ?_
    refine aw_iload_n (pc := 21) hX dX10_answersOn_21 rfl 0 rfl ?_
    refine aw_iconst (v := (-1 : Int32)) (pc := 22) hX dX10_answersOn_22 (by decide) ?_
    refine aw_icmp_ne (pc := 23) hX (tgt := 31) dX10_answersOn_23 (by decide) (fun c23 => ?_) (fun c23 => ?_)
    · rw [if_neg c23] at h
      refine aw_iload_n (pc := 31) hX dX10_answersOn_31 rfl 0 rfl ?_
      cases h
      exact aw_iret hX hQ dX10_answersOn_32
    · rw [if_pos c23] at h
      refine aw_bipush (v := (-2 : Int32)) (pc := 26) hX dX10_answersOn_26 (by decide) ?_
      refine aw_goto (tgt := 32) (pc := 28) hX dX10_answersOn_28 (by decide) ?_
      cases h
      exact aw_iret hX hQ dX10_answersOn_32
  · rw [if_pos c9] at h
    refine aw_iconst (v := (-1 : Int32)) (pc := 12) hX dX10_answersOn_12 (by decide) ?_
    cases h
    exact aw_iret hX hQ dX10_answersOn_13

def f_X10_back (S : Mem) : Option (Int32 × Mem) :=
  nxt (sI S 0 0 (0 : Int32)) fun S2 =>
  if (S2.1 0 41) = 0 then
  (some ((-1 : Int32), S2))
  else
  ((f_X10_copies (0 : Int32) (2 : Int32) S2).bind fun S17 =>
  nxt (sI S17 0 42 (0 : Int32)) fun S22 =>
  (rd S22 16 23 (0 : Int32)).bind fun x30 =>
  some (x30, S22))

set_option maxHeartbeats 4000000 in
set_option maxRecDepth 100000 in
theorem c_X10_back {S : Mem} {r : Int32} {Sf : Mem} (h : f_X10_back S = some (r, Sf)) : MetI yX10_back cX10_back 1 (some .int) 1 [.ref 0] SKM S r Sf := by
  refine MetI.intro (by decide +kernel) (Nat.le_of_ble_eq_true rfl) (fun X loc hX hQ => ?_)
  unfold f_X10_back at h
  show AW X SKM loc 0 0 0 [(0, .ref 0)] [] S
  refine aw_aload_n (pc := 0) hX dX10_back_0 rfl 0 rfl ?_
  refine aw_iconst (v := (0 : Int32)) (pc := 1) hX dX10_back_1 (by decide) ?_
  refine pf_X10_124 (pc := 2) hX km0 rfl dX10_back_2 ?_
  obtain ⟨S2, eS2, h⟩ := on h
  refine aw_S eS2 ?_
  refine aw_aload_n (pc := 5) hX dX10_back_5 rfl 0 rfl ?_
  refine gf_X10_280 (pc := 6) hX km0 rfl dX10_back_6 ?_
  refine aw_if_ne (pc := 9) hX (tgt := 14) dX10_back_9 (by decide) (fun c9 => ?_) (fun c9 => ?_)
  · rw [if_neg c9] at h
    refine aw_aload_n (pc := 14) hX dX10_back_14 rfl 0 rfl ?_
    refine aw_iconst (v := (0 : Int32)) (pc := 15) hX dX10_back_15 (by decide) ?_
    refine aw_iconst (v := (2 : Int32)) (pc := 16) hX dX10_back_16 (by decide) ?_
    obtain ⟨S17, hr17, h⟩ := ob h
    refine aw_cVV (pc := 17) (As := [.int (0 : Int32), .int (2 : Int32)]) (rest := []) hX (c_X10_copies hr17) ok_X10_copies kw_7_110 im_X10_copies se_X10_copies rfl km0 rfl (by decide) (Nat.le_of_ble_eq_true rfl) rfl dX10_back_17 (Nat.le_refl 0) (Nat.le_refl 0) ?_
    refine aw_aload_n (pc := 20) hX dX10_back_20 rfl 0 rfl ?_
    refine aw_iconst (v := (0 : Int32)) (pc := 21) hX dX10_back_21 (by decide) ?_
    refine pf_X10_284 (pc := 22) hX km0 rfl dX10_back_22 ?_
    obtain ⟨S22, eS22, h⟩ := on h
    refine aw_S eS22 ?_
    refine aw_aload_n (pc := 25) hX dX10_back_25 rfl 0 rfl ?_
    refine gf_X10_60 (pc := 26) hX km0 rfl dX10_back_26 ?_
    refine aw_iconst (v := (0 : Int32)) (pc := 29) hX dX10_back_29 (by decide) ?_
    obtain ⟨x30, hx30, h⟩ := ob h
    refine aw_iald (pc := 30) hX km16 hx30 dX10_back_30 ?_
    cases h
    exact aw_iret hX hQ dX10_back_31
  · rw [if_pos c9] at h
    refine aw_iconst (v := (-1 : Int32)) (pc := 12) hX dX10_back_12 (by decide) ?_
    cases h
    exact aw_iret hX hQ dX10_back_13

def f_X10_starts_153 (R63 : Int32 → Int32 → Mem → Option Mem) (v1 : Int32) (v2 : Int32) (t1 : Int32) (t2 : Int32) (S : Mem) : Option Mem :=
  (wr S 24 230 t1 t2).bind fun S153 =>
  R63 v1 (v2 + 1) S153

def f_X10_starts_109 (R63 : Int32 → Int32 → Mem → Option Mem) (v1 : Int32) (v2 : Int32) (v3 : Int32) (t1 : Int32) (t2 : Int32) (S : Mem) : Option Mem :=
  (wr S 21 230 t1 t2).bind fun S109 =>
  (wr S109 22 230 (((10 : Int32) * v1) + v2) (0 : Int32)).bind fun S121 =>
  (wr S121 23 230 (((10 : Int32) * v1) + v2) (0 : Int32)).bind fun S133 =>
  if v3 = 0 then
  (f_X10_starts_153 R63 v1 v2 (((10 : Int32) * v1) + v2) (0 : Int32) S133)
  else
  (f_X10_starts_153 R63 v1 v2 (((10 : Int32) * v1) + v2) (1 : Int32) S133)

def f_X10_starts_84 (R63 : Int32 → Int32 → Mem → Option Mem) (v1 : Int32) (v2 : Int32) (t0 : Int32) (S : Mem) : Option Mem :=
  if t0 = 0 then
  (f_X10_starts_109 R63 v1 v2 t0 (((10 : Int32) * v1) + v2) (0 : Int32) S)
  else
  ((rd S 7 20 v2).bind fun x104 =>
  f_X10_starts_109 R63 v1 v2 t0 (((10 : Int32) * v1) + v2) x104 S)

def f_X10_starts_63 : Nat → Int32 → Int32 → Mem → Option Mem
  | 0, _, _, _ => none
  | n + 1, v1, v2, S =>
  if (10 : Int32) ≤ v2 then
  (some S)
  else
  ((rd S 2 14 (1 : Int32)).bind fun x75 =>
  if x75 ≤ v2 then
  (f_X10_starts_84 (f_X10_starts_63 n) v1 v2 (0 : Int32) S)
  else
  (f_X10_starts_84 (f_X10_starts_63 n) v1 v2 (1 : Int32) S))

def f_X10_starts_28 : Nat → Int32 → Int32 → Mem → Option Mem
  | 0, _, _, _ => none
  | n + 1, v1, v2, S =>
  if (2 : Int32) ≤ v2 then
  (f_X10_starts_63 FU v1 (0 : Int32) S)
  else
  ((wr S 19 46 (((2 : Int32) * v1) + v2) (0 : Int32)).bind fun S43 =>
  (wr S43 20 46 (((2 : Int32) * v1) + v2) (0 : Int32)).bind fun S54 =>
  f_X10_starts_28 n v1 (v2 + 1) S54)

def f_X10_starts (v1 : Int32) (S : Mem) : Option Mem :=
  (wr S 16 23 v1 (0 : Int32)).bind fun S6 =>
  (rd S6 2 14 (5 : Int32)).bind fun x17 =>
  (wr S6 17 23 v1 x17).bind fun S18 =>
  (wr S18 18 23 v1 (0 : Int32)).bind fun S25 =>
  f_X10_starts_28 FU v1 (0 : Int32) S25

set_option maxHeartbeats 4000000 in
set_option maxRecDepth 100000 in
theorem c_X10_starts_153 {X : XT} {loc : Nat → Nat} {Sf : Mem} (hX : AC X loc RX10 cX10_starts none 4 0 0 0) (hQ : RetV X SKM loc 0 0 Sf) {R63 : Int32 → Int32 → Mem → Option Mem} (IH63 : ∀ (v1 : Int32) (v2 : Int32) (S : Mem), R63 v1 v2 S = some Sf → AW X SKM loc 0 0 63 [(0, .ref 0), (1, .int v1), (2, .int v2)] [] S) (v1 : Int32) (v2 : Int32) (t1 : Int32) (t2 : Int32) (S : Mem) (h : f_X10_starts_153 R63 v1 v2 t1 t2 S = some Sf) : AW X SKM loc 0 0 153 [(0, .ref 0), (1, .int v1), (2, .int v2)] [.int t2, .int t1, .ref 24] S := by
  unfold f_X10_starts_153 at h
  obtain ⟨S153, hS153, h⟩ := ob h
  refine aw_iast (pc := 153) hX km24 hS153 dX10_starts_153 ?_
  refine aw_iinc (v := (v2 + 1)) (ls' := [(2, .int (v2 + 1)), (0, .ref 0), (1, .int v1)]) (pc := 154) hX dX10_starts_154 (pos := 2) rfl (by first | rfl | decide) (by decide) rfl ?_
  refine aw_goto (tgt := 63) (pc := 157) hX dX10_starts_157 (by decide) ?_
  refine aw_sub (ls' := [(0, .ref 0), (1, .int v1), (2, .int (v2 + 1))]) [1, 2, 0] rfl ?_
  exact IH63 v1 (v2 + 1) S153 h

set_option maxHeartbeats 4000000 in
set_option maxRecDepth 100000 in
theorem c_X10_starts_109 {X : XT} {loc : Nat → Nat} {Sf : Mem} (hX : AC X loc RX10 cX10_starts none 4 0 0 0) (hQ : RetV X SKM loc 0 0 Sf) {R63 : Int32 → Int32 → Mem → Option Mem} (IH63 : ∀ (v1 : Int32) (v2 : Int32) (S : Mem), R63 v1 v2 S = some Sf → AW X SKM loc 0 0 63 [(0, .ref 0), (1, .int v1), (2, .int v2)] [] S) (v1 : Int32) (v2 : Int32) (v3 : Int32) (t1 : Int32) (t2 : Int32) (S : Mem) (h : f_X10_starts_109 R63 v1 v2 v3 t1 t2 S = some Sf) : AW X SKM loc 0 0 109 [(0, .ref 0), (1, .int v1), (2, .int v2), (3, .int v3)] [.int t2, .int t1, .ref 21] S := by
  unfold f_X10_starts_109 at h
  obtain ⟨S109, hS109, h⟩ := ob h
  refine aw_iast (pc := 109) hX km21 hS109 dX10_starts_109 ?_
  refine aw_aload_n (pc := 110) hX dX10_starts_110 rfl 0 rfl ?_
  refine gf_X10_78 (pc := 111) hX km0 rfl dX10_starts_111 ?_
  refine aw_bipush (v := (10 : Int32)) (pc := 114) hX dX10_starts_114 (by decide) ?_
  refine aw_iload_n (pc := 116) hX dX10_starts_116 rfl 1 rfl ?_
  refine aw_imul (pc := 117) hX dX10_starts_117 ?_
  refine aw_iload_n (pc := 118) hX dX10_starts_118 rfl 2 rfl ?_
  refine aw_iadd (pc := 119) hX dX10_starts_119 ?_
  refine aw_iconst (v := (0 : Int32)) (pc := 120) hX dX10_starts_120 (by decide) ?_
  obtain ⟨S121, hS121, h⟩ := ob h
  refine aw_iast (pc := 121) hX km22 hS121 dX10_starts_121 ?_
  refine aw_aload_n (pc := 122) hX dX10_starts_122 rfl 0 rfl ?_
  refine gf_X10_81 (pc := 123) hX km0 rfl dX10_starts_123 ?_
  refine aw_bipush (v := (10 : Int32)) (pc := 126) hX dX10_starts_126 (by decide) ?_
  refine aw_iload_n (pc := 128) hX dX10_starts_128 rfl 1 rfl ?_
  refine aw_imul (pc := 129) hX dX10_starts_129 ?_
  refine aw_iload_n (pc := 130) hX dX10_starts_130 rfl 2 rfl ?_
  refine aw_iadd (pc := 131) hX dX10_starts_131 ?_
  refine aw_iconst (v := (0 : Int32)) (pc := 132) hX dX10_starts_132 (by decide) ?_
  obtain ⟨S133, hS133, h⟩ := ob h
  refine aw_iast (pc := 133) hX km23 hS133 dX10_starts_133 ?_
  refine aw_aload_n (pc := 134) hX dX10_starts_134 rfl 0 rfl ?_
  refine gf_X10_84 (pc := 135) hX km0 rfl dX10_starts_135 ?_
  refine aw_bipush (v := (10 : Int32)) (pc := 138) hX dX10_starts_138 (by decide) ?_
  refine aw_iload_n (pc := 140) hX dX10_starts_140 rfl 1 rfl ?_
  refine aw_imul (pc := 141) hX dX10_starts_141 ?_
  refine aw_iload_n (pc := 142) hX dX10_starts_142 rfl 2 rfl ?_
  refine aw_iadd (pc := 143) hX dX10_starts_143 ?_
  refine aw_iload_n (pc := 144) hX dX10_starts_144 rfl 3 rfl ?_
  refine aw_if_eq (pc := 145) hX (tgt := 152) dX10_starts_145 (by decide) (fun c145 => ?_) (fun c145 => ?_)
  · rw [if_pos c145] at h
    refine aw_iconst (v := (0 : Int32)) (pc := 152) hX dX10_starts_152 (by decide) ?_
    refine aw_sub (ls' := [(0, .ref 0), (1, .int v1), (2, .int v2)]) [0, 1, 2] rfl ?_
    exact c_X10_starts_153 hX hQ IH63 v1 v2 (((10 : Int32) * v1) + v2) (0 : Int32) S133 h
  · rw [if_neg c145] at h
    refine aw_iconst (v := (1 : Int32)) (pc := 148) hX dX10_starts_148 (by decide) ?_
    refine aw_goto (tgt := 153) (pc := 149) hX dX10_starts_149 (by decide) ?_
    refine aw_sub (ls' := [(0, .ref 0), (1, .int v1), (2, .int v2)]) [0, 1, 2] rfl ?_
    exact c_X10_starts_153 hX hQ IH63 v1 v2 (((10 : Int32) * v1) + v2) (1 : Int32) S133 h

set_option maxHeartbeats 4000000 in
set_option maxRecDepth 100000 in
theorem c_X10_starts_84 {X : XT} {loc : Nat → Nat} {Sf : Mem} (hX : AC X loc RX10 cX10_starts none 4 0 0 0) (hQ : RetV X SKM loc 0 0 Sf) {R63 : Int32 → Int32 → Mem → Option Mem} (IH63 : ∀ (v1 : Int32) (v2 : Int32) (S : Mem), R63 v1 v2 S = some Sf → AW X SKM loc 0 0 63 [(0, .ref 0), (1, .int v1), (2, .int v2)] [] S) (v1 : Int32) (v2 : Int32) (t0 : Int32) (S : Mem) (h : f_X10_starts_84 R63 v1 v2 t0 S = some Sf) : AW X SKM loc 0 0 84 [(0, .ref 0), (1, .int v1), (2, .int v2)] [.int t0] S := by
  unfold f_X10_starts_84 at h
  refine aw_istore_n (ls' := [(3, .int t0), (0, .ref 0), (1, .int v1), (2, .int v2)]) (pc := 84) hX dX10_starts_84 rfl (by decide) rfl ?_
  refine aw_aload_n (pc := 85) hX dX10_starts_85 rfl 1 rfl ?_
  refine gf_X10_75 (pc := 86) hX km0 rfl dX10_starts_86 ?_
  refine aw_bipush (v := (10 : Int32)) (pc := 89) hX dX10_starts_89 (by decide) ?_
  refine aw_iload_n (pc := 91) hX dX10_starts_91 rfl 2 rfl ?_
  refine aw_imul (pc := 92) hX dX10_starts_92 ?_
  refine aw_iload_n (pc := 93) hX dX10_starts_93 rfl 3 rfl ?_
  refine aw_iadd (pc := 94) hX dX10_starts_94 ?_
  refine aw_iload_n (pc := 95) hX dX10_starts_95 rfl 0 rfl ?_
  refine aw_if_eq (pc := 96) hX (tgt := 108) dX10_starts_96 (by decide) (fun c96 => ?_) (fun c96 => ?_)
  · rw [if_pos c96] at h
    refine aw_iconst (v := (0 : Int32)) (pc := 108) hX dX10_starts_108 (by decide) ?_
    refine aw_sub (ls' := [(0, .ref 0), (1, .int v1), (2, .int v2), (3, .int t0)]) [1, 2, 3, 0] rfl ?_
    exact c_X10_starts_109 hX hQ IH63 v1 v2 t0 (((10 : Int32) * v1) + v2) (0 : Int32) S h
  · rw [if_neg c96] at h
    refine aw_aload_n (pc := 99) hX dX10_starts_99 rfl 1 rfl ?_
    refine gf_X10_28 (pc := 100) hX km0 rfl dX10_starts_100 ?_
    refine aw_iload_n (pc := 103) hX dX10_starts_103 rfl 3 rfl ?_
    obtain ⟨x104, hx104, h⟩ := ob h
    refine aw_iald (pc := 104) hX km7 hx104 dX10_starts_104 ?_
    refine aw_goto (tgt := 109) (pc := 105) hX dX10_starts_105 (by decide) ?_
    refine aw_sub (ls' := [(0, .ref 0), (1, .int v1), (2, .int v2), (3, .int t0)]) [1, 2, 3, 0] rfl ?_
    exact c_X10_starts_109 hX hQ IH63 v1 v2 t0 (((10 : Int32) * v1) + v2) x104 S h

set_option maxHeartbeats 4000000 in
set_option maxRecDepth 100000 in
theorem c_X10_starts_63 {X : XT} {loc : Nat → Nat} {Sf : Mem} (hX : AC X loc RX10 cX10_starts none 4 0 0 0) (hQ : RetV X SKM loc 0 0 Sf) : ∀ (n : Nat) (v1 : Int32) (v2 : Int32) (S : Mem), f_X10_starts_63 n v1 v2 S = some Sf → AW X SKM loc 0 0 63 [(0, .ref 0), (1, .int v1), (2, .int v2)] [] S := by
  intro n
  induction n with
  | zero => intro v1 v2 S h; cases h
  | succ n ih =>
    intro v1 v2 S h
    unfold f_X10_starts_63 at h
    refine aw_iload_n (pc := 63) hX dX10_starts_63 rfl 2 rfl ?_
    refine aw_bipush (v := (10 : Int32)) (pc := 64) hX dX10_starts_64 (by decide) ?_
    refine aw_icmp_ge (pc := 66) hX (tgt := 160) dX10_starts_66 (by decide) (fun c66 => ?_) (fun c66 => ?_)
    · rw [if_pos c66] at h
      cases h
      exact aw_vret hX hQ dX10_starts_160
    · rw [if_neg c66] at h
      refine aw_iload_n (pc := 69) hX dX10_starts_69 rfl 2 rfl ?_
      refine aw_aload_n (pc := 70) hX dX10_starts_70 rfl 0 rfl ?_
      refine gf_X10_13 (pc := 71) hX km0 rfl dX10_starts_71 ?_
      refine aw_iconst (v := (1 : Int32)) (pc := 74) hX dX10_starts_74 (by decide) ?_
      obtain ⟨x75, hx75, h⟩ := ob h
      refine aw_iald (pc := 75) hX km2 hx75 dX10_starts_75 ?_
      refine aw_icmp_ge (pc := 76) hX (tgt := 83) dX10_starts_76 (by decide) (fun c76 => ?_) (fun c76 => ?_)
      · rw [if_pos c76] at h
        refine aw_iconst (v := (0 : Int32)) (pc := 83) hX dX10_starts_83 (by decide) ?_
        exact c_X10_starts_84 hX hQ ih v1 v2 (0 : Int32) S h
      · rw [if_neg c76] at h
        refine aw_iconst (v := (1 : Int32)) (pc := 79) hX dX10_starts_79 (by decide) ?_
        refine aw_goto (tgt := 84) (pc := 80) hX dX10_starts_80 (by decide) ?_
        exact c_X10_starts_84 hX hQ ih v1 v2 (1 : Int32) S h

set_option maxHeartbeats 4000000 in
set_option maxRecDepth 100000 in
theorem c_X10_starts_28 {X : XT} {loc : Nat → Nat} {Sf : Mem} (hX : AC X loc RX10 cX10_starts none 4 0 0 0) (hQ : RetV X SKM loc 0 0 Sf) : ∀ (n : Nat) (v1 : Int32) (v2 : Int32) (S : Mem), f_X10_starts_28 n v1 v2 S = some Sf → AW X SKM loc 0 0 28 [(0, .ref 0), (1, .int v1), (2, .int v2)] [] S := by
  intro n
  induction n with
  | zero => intro v1 v2 S h; cases h
  | succ n ih =>
    intro v1 v2 S h
    unfold f_X10_starts_28 at h
    refine aw_iload_n (pc := 28) hX dX10_starts_28 rfl 2 rfl ?_
    refine aw_iconst (v := (2 : Int32)) (pc := 29) hX dX10_starts_29 (by decide) ?_
    refine aw_icmp_ge (pc := 30) hX (tgt := 61) dX10_starts_30 (by decide) (fun c30 => ?_) (fun c30 => ?_)
    · rw [if_pos c30] at h
      refine aw_iconst (v := (0 : Int32)) (pc := 61) hX dX10_starts_61 (by decide) ?_
      refine aw_istore_n (ls' := [(2, .int (0 : Int32)), (0, .ref 0), (1, .int v1)]) (pc := 62) hX dX10_starts_62 rfl (by decide) rfl ?_
      refine aw_sub (ls' := [(0, .ref 0), (1, .int v1), (2, .int (0 : Int32))]) [1, 2, 0] rfl ?_
      exact c_X10_starts_63 hX hQ FU v1 (0 : Int32) S h
    · rw [if_neg c30] at h
      refine aw_aload_n (pc := 33) hX dX10_starts_33 rfl 0 rfl ?_
      refine gf_X10_69 (pc := 34) hX km0 rfl dX10_starts_34 ?_
      refine aw_iconst (v := (2 : Int32)) (pc := 37) hX dX10_starts_37 (by decide) ?_
      refine aw_iload_n (pc := 38) hX dX10_starts_38 rfl 1 rfl ?_
      refine aw_imul (pc := 39) hX dX10_starts_39 ?_
      refine aw_iload_n (pc := 40) hX dX10_starts_40 rfl 2 rfl ?_
      refine aw_iadd (pc := 41) hX dX10_starts_41 ?_
      refine aw_iconst (v := (0 : Int32)) (pc := 42) hX dX10_starts_42 (by decide) ?_
      obtain ⟨S43, hS43, h⟩ := ob h
      refine aw_iast (pc := 43) hX km19 hS43 dX10_starts_43 ?_
      refine aw_aload_n (pc := 44) hX dX10_starts_44 rfl 0 rfl ?_
      refine gf_X10_72 (pc := 45) hX km0 rfl dX10_starts_45 ?_
      refine aw_iconst (v := (2 : Int32)) (pc := 48) hX dX10_starts_48 (by decide) ?_
      refine aw_iload_n (pc := 49) hX dX10_starts_49 rfl 1 rfl ?_
      refine aw_imul (pc := 50) hX dX10_starts_50 ?_
      refine aw_iload_n (pc := 51) hX dX10_starts_51 rfl 2 rfl ?_
      refine aw_iadd (pc := 52) hX dX10_starts_52 ?_
      refine aw_iconst (v := (0 : Int32)) (pc := 53) hX dX10_starts_53 (by decide) ?_
      obtain ⟨S54, hS54, h⟩ := ob h
      refine aw_iast (pc := 54) hX km20 hS54 dX10_starts_54 ?_
      refine aw_iinc (v := (v2 + 1)) (ls' := [(2, .int (v2 + 1)), (0, .ref 0), (1, .int v1)]) (pc := 55) hX dX10_starts_55 (pos := 2) rfl (by first | rfl | decide) (by decide) rfl ?_
      refine aw_goto (tgt := 28) (pc := 58) hX dX10_starts_58 (by decide) ?_
      refine aw_sub (ls' := [(0, .ref 0), (1, .int v1), (2, .int (v2 + 1))]) [1, 2, 0] rfl ?_
      exact ih v1 (v2 + 1) S54 h

set_option maxHeartbeats 4000000 in
set_option maxRecDepth 100000 in
theorem c_X10_starts {v1 : Int32} {S : Mem} {Sf : Mem} (h : f_X10_starts v1 S = some Sf) : MetV yX10_starts cX10_starts 4 none 0 [.ref 0, .int v1] SKM S Sf := by
  refine MetV.intro (by decide +kernel) (Nat.le_of_ble_eq_true rfl) (fun X loc hX hQ => ?_)
  unfold f_X10_starts at h
  show AW X SKM loc 0 0 0 [(0, .ref 0), (1, .int v1)] [] S
  refine aw_aload_n (pc := 0) hX dX10_starts_0 rfl 0 rfl ?_
  refine gf_X10_60 (pc := 1) hX km0 rfl dX10_starts_1 ?_
  refine aw_iload_n (pc := 4) hX dX10_starts_4 rfl 1 rfl ?_
  refine aw_iconst (v := (0 : Int32)) (pc := 5) hX dX10_starts_5 (by decide) ?_
  obtain ⟨S6, hS6, h⟩ := ob h
  refine aw_iast (pc := 6) hX km16 hS6 dX10_starts_6 ?_
  refine aw_aload_n (pc := 7) hX dX10_starts_7 rfl 0 rfl ?_
  refine gf_X10_63 (pc := 8) hX km0 rfl dX10_starts_8 ?_
  refine aw_iload_n (pc := 11) hX dX10_starts_11 rfl 1 rfl ?_
  refine aw_aload_n (pc := 12) hX dX10_starts_12 rfl 0 rfl ?_
  refine gf_X10_13 (pc := 13) hX km0 rfl dX10_starts_13 ?_
  refine aw_iconst (v := (5 : Int32)) (pc := 16) hX dX10_starts_16 (by decide) ?_
  obtain ⟨x17, hx17, h⟩ := ob h
  refine aw_iald (pc := 17) hX km2 hx17 dX10_starts_17 ?_
  obtain ⟨S18, hS18, h⟩ := ob h
  refine aw_iast (pc := 18) hX km17 hS18 dX10_starts_18 ?_
  refine aw_aload_n (pc := 19) hX dX10_starts_19 rfl 0 rfl ?_
  refine gf_X10_66 (pc := 20) hX km0 rfl dX10_starts_20 ?_
  refine aw_iload_n (pc := 23) hX dX10_starts_23 rfl 1 rfl ?_
  refine aw_iconst (v := (0 : Int32)) (pc := 24) hX dX10_starts_24 (by decide) ?_
  obtain ⟨S25, hS25, h⟩ := ob h
  refine aw_iast (pc := 25) hX km18 hS25 dX10_starts_25 ?_
  refine aw_iconst (v := (0 : Int32)) (pc := 26) hX dX10_starts_26 (by decide) ?_
  refine aw_istore_n (ls' := [(2, .int (0 : Int32)), (0, .ref 0), (1, .int v1)]) (pc := 27) hX dX10_starts_27 rfl (by decide) rfl ?_
  refine aw_sub (ls' := [(0, .ref 0), (1, .int v1), (2, .int (0 : Int32))]) [1, 2, 0] rfl ?_
  exact c_X10_starts_28 hX hQ FU v1 (0 : Int32) S25 h

def f_X10_begins (S : Mem) : Option Mem :=
  (f_X10_starts (0 : Int32) S).bind fun S2 =>
  some S2

set_option maxHeartbeats 4000000 in
set_option maxRecDepth 100000 in
theorem c_X10_begins {S : Mem} {Sf : Mem} (h : f_X10_begins S = some Sf) : MetV yX10_begins cX10_begins 1 none 1 [.ref 0] SKM S Sf := by
  refine MetV.intro (by decide +kernel) (Nat.le_of_ble_eq_true rfl) (fun X loc hX hQ => ?_)
  unfold f_X10_begins at h
  show AW X SKM loc 0 0 0 [(0, .ref 0)] [] S
  refine aw_aload_n (pc := 0) hX dX10_begins_0 rfl 0 rfl ?_
  refine aw_iconst (v := (0 : Int32)) (pc := 1) hX dX10_begins_1 (by decide) ?_
  obtain ⟨S2, hr2, h⟩ := ob h
  refine aw_cVV (pc := 2) (As := [.int (0 : Int32)]) (rest := []) hX (c_X10_starts hr2) ok_X10_starts kw_5_168 im_X10_starts se_X10_starts rfl km0 rfl (by decide) (Nat.le_of_ble_eq_true rfl) rfl dX10_begins_2 (Nat.le_refl 0) (Nat.le_refl 0) ?_
  cases h
  exact aw_vret hX hQ dX10_begins_5

def f_X10_bitsOf_4 : Nat → Int32 → Int32 → Int32 → Mem → Option (Int32 × Mem)
  | 0, _, _, _, _ => none
  | n + 1, v0, v1, v2, S =>
  if (10 : Int32) ≤ v2 then
  (some (v1, S))
  else
  (f_X10_bitsOf_4 n v0 (v1 + ((v0 >>> (v2 &&& 31)) &&& (1 : Int32))) (v2 + 1) S)

def f_X10_bitsOf (v0 : Int32) (S : Mem) : Option (Int32 × Mem) :=
  f_X10_bitsOf_4 FU v0 (0 : Int32) (0 : Int32) S

set_option maxHeartbeats 4000000 in
set_option maxRecDepth 100000 in
theorem c_X10_bitsOf_4 {X : XT} {loc : Nat → Nat} {sk : Skel} {r : Int32} {Sf : Mem} (hX : AC X loc RX10 cX10_bitsOf (some .int) 3 0 0 0) (hQ : RetI X sk loc 0 0 r Sf) : ∀ (n : Nat) (v0 : Int32) (v1 : Int32) (v2 : Int32) (S : Mem), f_X10_bitsOf_4 n v0 v1 v2 S = some (r, Sf) → AW X sk loc 0 0 4 [(0, .int v0), (1, .int v1), (2, .int v2)] [] S := by
  intro n
  induction n with
  | zero => intro v0 v1 v2 S h; cases h
  | succ n ih =>
    intro v0 v1 v2 S h
    unfold f_X10_bitsOf_4 at h
    refine aw_iload_n (pc := 4) hX dX10_bitsOf_4 rfl 2 rfl ?_
    refine aw_bipush (v := (10 : Int32)) (pc := 5) hX dX10_bitsOf_5 (by decide) ?_
    refine aw_icmp_ge (pc := 7) hX (tgt := 24) dX10_bitsOf_7 (by decide) (fun c7 => ?_) (fun c7 => ?_)
    · rw [if_pos c7] at h
      refine aw_iload_n (pc := 24) hX dX10_bitsOf_24 rfl 1 rfl ?_
      cases h
      exact aw_iret hX hQ dX10_bitsOf_25
    · rw [if_neg c7] at h
      refine aw_iload_n (pc := 10) hX dX10_bitsOf_10 rfl 1 rfl ?_
      refine aw_iload_n (pc := 11) hX dX10_bitsOf_11 rfl 0 rfl ?_
      refine aw_iload_n (pc := 12) hX dX10_bitsOf_12 rfl 2 rfl ?_
      refine aw_ishr (pc := 13) hX dX10_bitsOf_13 ?_
      refine aw_iconst (v := (1 : Int32)) (pc := 14) hX dX10_bitsOf_14 (by decide) ?_
      refine aw_iand (pc := 15) hX dX10_bitsOf_15 ?_
      refine aw_iadd (pc := 16) hX dX10_bitsOf_16 ?_
      refine aw_istore_n (ls' := [(1, .int (v1 + ((v0 >>> (v2 &&& 31)) &&& (1 : Int32)))), (0, .int v0), (2, .int v2)]) (pc := 17) hX dX10_bitsOf_17 rfl (by decide) rfl ?_
      refine aw_iinc (v := (v2 + 1)) (ls' := [(2, .int (v2 + 1)), (1, .int (v1 + ((v0 >>> (v2 &&& 31)) &&& (1 : Int32)))), (0, .int v0)]) (pc := 18) hX dX10_bitsOf_18 (pos := 2) rfl (by first | rfl | decide) (by decide) rfl ?_
      refine aw_goto (tgt := 4) (pc := 21) hX dX10_bitsOf_21 (by decide) ?_
      refine aw_sub (ls' := [(0, .int v0), (1, .int (v1 + ((v0 >>> (v2 &&& 31)) &&& (1 : Int32)))), (2, .int (v2 + 1))]) [2, 1, 0] rfl ?_
      exact ih v0 (v1 + ((v0 >>> (v2 &&& 31)) &&& (1 : Int32))) (v2 + 1) S h

set_option maxHeartbeats 4000000 in
set_option maxRecDepth 100000 in
theorem c_X10_bitsOf {sk : Skel} {v0 : Int32} {S : Mem} {r : Int32} {Sf : Mem} (h : f_X10_bitsOf v0 S = some (r, Sf)) : MetI yX10_bitsOf cX10_bitsOf 3 (some .int) 0 [.int v0] sk S r Sf := by
  refine MetI.intro (by decide +kernel) (Nat.le_of_ble_eq_true rfl) (fun X loc hX hQ => ?_)
  unfold f_X10_bitsOf at h
  show AW X sk loc 0 0 0 [(0, .int v0)] [] S
  refine aw_iconst (v := (0 : Int32)) (pc := 0) hX dX10_bitsOf_0 (by decide) ?_
  refine aw_istore_n (ls' := [(1, .int (0 : Int32)), (0, .int v0)]) (pc := 1) hX dX10_bitsOf_1 rfl (by decide) rfl ?_
  refine aw_iconst (v := (0 : Int32)) (pc := 2) hX dX10_bitsOf_2 (by decide) ?_
  refine aw_istore_n (ls' := [(2, .int (0 : Int32)), (1, .int (0 : Int32)), (0, .int v0)]) (pc := 3) hX dX10_bitsOf_3 rfl (by decide) rfl ?_
  refine aw_sub (ls' := [(0, .int v0), (1, .int (0 : Int32)), (2, .int (0 : Int32))]) [2, 1, 0] rfl ?_
  exact c_X10_bitsOf_4 hX hQ FU v0 (0 : Int32) (0 : Int32) S h

def f_X10_heldBy_4 : Nat → Int32 → Int32 → Int32 → Mem → Option (Int32 × Mem)
  | 0, _, _, _, _ => none
  | n + 1, v1, v2, v3, S =>
  (rd S 2 14 (1 : Int32)).bind fun x10 =>
  if x10 ≤ v3 then
  (some (v2, S))
  else
  (bnd (f_X10_holds (0 : Int32) v1 v3 S) fun r19 S19 =>
  if r19 = 0 then
  (f_X10_heldBy_4 n v1 (v2 ||| (0 : Int32)) (v3 + 1) S19)
  else
  (f_X10_heldBy_4 n v1 (v2 ||| ((1 : Int32) <<< (v3 &&& 31))) (v3 + 1) S19))

def f_X10_heldBy (v1 : Int32) (S : Mem) : Option (Int32 × Mem) :=
  f_X10_heldBy_4 FU v1 (0 : Int32) (0 : Int32) S

set_option maxHeartbeats 4000000 in
set_option maxRecDepth 100000 in
theorem c_X10_heldBy_4 {X : XT} {loc : Nat → Nat} {r : Int32} {Sf : Mem} (hX : AC X loc RX10 cX10_heldBy (some .int) 4 2 0 0) (hQ : RetI X SKM loc 0 0 r Sf) : ∀ (n : Nat) (v1 : Int32) (v2 : Int32) (v3 : Int32) (S : Mem), f_X10_heldBy_4 n v1 v2 v3 S = some (r, Sf) → AW X SKM loc 0 0 4 [(0, .ref 0), (1, .int v1), (2, .int v2), (3, .int v3)] [] S := by
  intro n
  induction n with
  | zero => intro v1 v2 v3 S h; cases h
  | succ n ih =>
    intro v1 v2 v3 S h
    unfold f_X10_heldBy_4 at h
    refine aw_iload_n (pc := 4) hX dX10_heldBy_4 rfl 3 rfl ?_
    refine aw_aload_n (pc := 5) hX dX10_heldBy_5 rfl 0 rfl ?_
    refine gf_X10_13 (pc := 6) hX km0 rfl dX10_heldBy_6 ?_
    refine aw_iconst (v := (1 : Int32)) (pc := 9) hX dX10_heldBy_9 (by decide) ?_
    obtain ⟨x10, hx10, h⟩ := ob h
    refine aw_iald (pc := 10) hX km2 hx10 dX10_heldBy_10 ?_
    refine aw_icmp_ge (pc := 11) hX (tgt := 40) dX10_heldBy_11 (by decide) (fun c11 => ?_) (fun c11 => ?_)
    · rw [if_pos c11] at h
      refine aw_iload_n (pc := 40) hX dX10_heldBy_40 rfl 2 rfl ?_
      cases h
      exact aw_iret hX hQ dX10_heldBy_41
    · rw [if_neg c11] at h
      refine aw_iload_n (pc := 14) hX dX10_heldBy_14 rfl 2 rfl ?_
      refine aw_aload_n (pc := 15) hX dX10_heldBy_15 rfl 0 rfl ?_
      refine aw_iconst (v := (0 : Int32)) (pc := 16) hX dX10_heldBy_16 (by decide) ?_
      refine aw_iload_n (pc := 17) hX dX10_heldBy_17 rfl 1 rfl ?_
      refine aw_iload_n (pc := 18) hX dX10_heldBy_18 rfl 3 rfl ?_
      obtain ⟨r19, S19, hr19, h⟩ := ob2 h
      refine aw_cVI (pc := 19) (As := [.int (0 : Int32), .int v1, .int v3]) (rest := [.int v2]) hX (c_X10_holds hr19) ok_X10_holds kw_7_42 im_X10_holds se_X10_holds rfl km0 rfl (by decide) (Nat.le_of_ble_eq_true rfl) rfl dX10_heldBy_19 (Nat.le_refl 0) (Nat.le_refl 0) ?_
      refine aw_if_eq (pc := 22) hX (tgt := 31) dX10_heldBy_22 (by decide) (fun c22 => ?_) (fun c22 => ?_)
      · rw [if_pos c22] at h
        refine aw_iconst (v := (0 : Int32)) (pc := 31) hX dX10_heldBy_31 (by decide) ?_
        refine aw_ior (pc := 32) hX dX10_heldBy_32 ?_
        refine aw_istore_n (ls' := [(2, .int (v2 ||| (0 : Int32))), (0, .ref 0), (1, .int v1), (3, .int v3)]) (pc := 33) hX dX10_heldBy_33 rfl (by decide) rfl ?_
        refine aw_iinc (v := (v3 + 1)) (ls' := [(3, .int (v3 + 1)), (2, .int (v2 ||| (0 : Int32))), (0, .ref 0), (1, .int v1)]) (pc := 34) hX dX10_heldBy_34 (pos := 3) rfl (by first | rfl | decide) (by decide) rfl ?_
        refine aw_goto (tgt := 4) (pc := 37) hX dX10_heldBy_37 (by decide) ?_
        refine aw_sub (ls' := [(0, .ref 0), (1, .int v1), (2, .int (v2 ||| (0 : Int32))), (3, .int (v3 + 1))]) [2, 3, 1, 0] rfl ?_
        exact ih v1 (v2 ||| (0 : Int32)) (v3 + 1) S19 h
      · rw [if_neg c22] at h
        refine aw_iconst (v := (1 : Int32)) (pc := 25) hX dX10_heldBy_25 (by decide) ?_
        refine aw_iload_n (pc := 26) hX dX10_heldBy_26 rfl 3 rfl ?_
        refine aw_ishl (pc := 27) hX dX10_heldBy_27 ?_
        refine aw_goto (tgt := 32) (pc := 28) hX dX10_heldBy_28 (by decide) ?_
        refine aw_ior (pc := 32) hX dX10_heldBy_32 ?_
        refine aw_istore_n (ls' := [(2, .int (v2 ||| ((1 : Int32) <<< (v3 &&& 31)))), (0, .ref 0), (1, .int v1), (3, .int v3)]) (pc := 33) hX dX10_heldBy_33 rfl (by decide) rfl ?_
        refine aw_iinc (v := (v3 + 1)) (ls' := [(3, .int (v3 + 1)), (2, .int (v2 ||| ((1 : Int32) <<< (v3 &&& 31)))), (0, .ref 0), (1, .int v1)]) (pc := 34) hX dX10_heldBy_34 (pos := 3) rfl (by first | rfl | decide) (by decide) rfl ?_
        refine aw_goto (tgt := 4) (pc := 37) hX dX10_heldBy_37 (by decide) ?_
        refine aw_sub (ls' := [(0, .ref 0), (1, .int v1), (2, .int (v2 ||| ((1 : Int32) <<< (v3 &&& 31)))), (3, .int (v3 + 1))]) [2, 3, 1, 0] rfl ?_
        exact ih v1 (v2 ||| ((1 : Int32) <<< (v3 &&& 31))) (v3 + 1) S19 h

set_option maxHeartbeats 4000000 in
set_option maxRecDepth 100000 in
theorem c_X10_heldBy {v1 : Int32} {S : Mem} {r : Int32} {Sf : Mem} (h : f_X10_heldBy v1 S = some (r, Sf)) : MetI yX10_heldBy cX10_heldBy 4 (some .int) 2 [.ref 0, .int v1] SKM S r Sf := by
  refine MetI.intro (by decide +kernel) (Nat.le_of_ble_eq_true rfl) (fun X loc hX hQ => ?_)
  unfold f_X10_heldBy at h
  show AW X SKM loc 0 0 0 [(0, .ref 0), (1, .int v1)] [] S
  refine aw_iconst (v := (0 : Int32)) (pc := 0) hX dX10_heldBy_0 (by decide) ?_
  refine aw_istore_n (ls' := [(2, .int (0 : Int32)), (0, .ref 0), (1, .int v1)]) (pc := 1) hX dX10_heldBy_1 rfl (by decide) rfl ?_
  refine aw_iconst (v := (0 : Int32)) (pc := 2) hX dX10_heldBy_2 (by decide) ?_
  refine aw_istore_n (ls' := [(3, .int (0 : Int32)), (2, .int (0 : Int32)), (0, .ref 0), (1, .int v1)]) (pc := 3) hX dX10_heldBy_3 rfl (by decide) rfl ?_
  refine aw_sub (ls' := [(0, .ref 0), (1, .int v1), (2, .int (0 : Int32)), (3, .int (0 : Int32))]) [2, 3, 1, 0] rfl ?_
  exact c_X10_heldBy_4 hX hQ FU v1 (0 : Int32) (0 : Int32) S h

def f_X10_sumOf_5 (a1 : Nat) (n1 : Nat) : Nat → Int32 → Int32 → Int32 → Mem → Option (Int32 × Mem)
  | 0, _, _, _, _ => none
  | n + 1, v2, v3, v4, S =>
  (rd S 2 14 (1 : Int32)).bind fun x12 =>
  if x12 ≤ v4 then
  (some (v3, S))
  else
  (if ((v2 >>> (v4 &&& 31)) &&& (1 : Int32)) = (1 : Int32) then
  ((rd S a1 n1 v4).bind fun x30 =>
  f_X10_sumOf_5 a1 n1 n v2 (v3 + x30) (v4 + 1) S)
  else
  (f_X10_sumOf_5 a1 n1 n v2 (v3 + (0 : Int32)) (v4 + 1) S))

def f_X10_sumOf (a1 : Nat) (n1 : Nat) (v2 : Int32) (S : Mem) : Option (Int32 × Mem) :=
  f_X10_sumOf_5 a1 n1 FU v2 (0 : Int32) (0 : Int32) S

set_option maxHeartbeats 4000000 in
set_option maxRecDepth 100000 in
theorem c_X10_sumOf_5 {X : XT} {loc : Nat → Nat} {a1 : Nat} {n1 : Nat} {r : Int32} {Sf : Mem} (hX : AC X loc RX10 cX10_sumOf (some .int) 5 0 0 0) (hQ : RetI X SKM loc 0 0 r Sf) (ha1 : SKM[a1]? = some (0, n1, [])) : ∀ (n : Nat) (v2 : Int32) (v3 : Int32) (v4 : Int32) (S : Mem), f_X10_sumOf_5 a1 n1 n v2 v3 v4 S = some (r, Sf) → AW X SKM loc 0 0 5 [(0, .ref 0), (1, .ref a1), (2, .int v2), (3, .int v3), (4, .int v4)] [] S := by
  intro n
  induction n with
  | zero => intro v2 v3 v4 S h; cases h
  | succ n ih =>
    intro v2 v3 v4 S h
    unfold f_X10_sumOf_5 at h
    refine aw_iload (pc := 5) hX dX10_sumOf_5 4 rfl ?_
    refine aw_aload_n (pc := 7) hX dX10_sumOf_7 rfl 0 rfl ?_
    refine gf_X10_13 (pc := 8) hX km0 rfl dX10_sumOf_8 ?_
    refine aw_iconst (v := (1 : Int32)) (pc := 11) hX dX10_sumOf_11 (by decide) ?_
    obtain ⟨x12, hx12, h⟩ := ob h
    refine aw_iald (pc := 12) hX km2 hx12 dX10_sumOf_12 ?_
    refine aw_icmp_ge (pc := 13) hX (tgt := 43) dX10_sumOf_13 (by decide) (fun c13 => ?_) (fun c13 => ?_)
    · rw [if_pos c13] at h
      refine aw_iload_n (pc := 43) hX dX10_sumOf_43 rfl 3 rfl ?_
      cases h
      exact aw_iret hX hQ dX10_sumOf_44
    · rw [if_neg c13] at h
      refine aw_iload_n (pc := 16) hX dX10_sumOf_16 rfl 3 rfl ?_
      refine aw_iload_n (pc := 17) hX dX10_sumOf_17 rfl 2 rfl ?_
      refine aw_iload (pc := 18) hX dX10_sumOf_18 4 rfl ?_
      refine aw_ishr (pc := 20) hX dX10_sumOf_20 ?_
      refine aw_iconst (v := (1 : Int32)) (pc := 21) hX dX10_sumOf_21 (by decide) ?_
      refine aw_iand (pc := 22) hX dX10_sumOf_22 ?_
      refine aw_iconst (v := (1 : Int32)) (pc := 23) hX dX10_sumOf_23 (by decide) ?_
      refine aw_icmp_ne (pc := 24) hX (tgt := 34) dX10_sumOf_24 (by decide) (fun c24 => ?_) (fun c24 => ?_)
      · rw [if_neg c24] at h
        refine aw_iconst (v := (0 : Int32)) (pc := 34) hX dX10_sumOf_34 (by decide) ?_
        refine aw_iadd (pc := 35) hX dX10_sumOf_35 ?_
        refine aw_istore_n (ls' := [(3, .int (v3 + (0 : Int32))), (0, .ref 0), (1, .ref a1), (2, .int v2), (4, .int v4)]) (pc := 36) hX dX10_sumOf_36 rfl (by decide) rfl ?_
        refine aw_iinc (v := (v4 + 1)) (ls' := [(4, .int (v4 + 1)), (3, .int (v3 + (0 : Int32))), (0, .ref 0), (1, .ref a1), (2, .int v2)]) (pc := 37) hX dX10_sumOf_37 (pos := 4) rfl (by first | rfl | decide) (by decide) rfl ?_
        refine aw_goto (tgt := 5) (pc := 40) hX dX10_sumOf_40 (by decide) ?_
        refine aw_sub (ls' := [(0, .ref 0), (1, .ref a1), (2, .int v2), (3, .int (v3 + (0 : Int32))), (4, .int (v4 + 1))]) [2, 3, 4, 1, 0] rfl ?_
        exact ih v2 (v3 + (0 : Int32)) (v4 + 1) S h
      · rw [if_pos c24] at h
        refine aw_aload_n (pc := 27) hX dX10_sumOf_27 rfl 1 rfl ?_
        refine aw_iload (pc := 28) hX dX10_sumOf_28 4 rfl ?_
        obtain ⟨x30, hx30, h⟩ := ob h
        refine aw_iald (pc := 30) hX ha1 hx30 dX10_sumOf_30 ?_
        refine aw_goto (tgt := 35) (pc := 31) hX dX10_sumOf_31 (by decide) ?_
        refine aw_iadd (pc := 35) hX dX10_sumOf_35 ?_
        refine aw_istore_n (ls' := [(3, .int (v3 + x30)), (0, .ref 0), (1, .ref a1), (2, .int v2), (4, .int v4)]) (pc := 36) hX dX10_sumOf_36 rfl (by decide) rfl ?_
        refine aw_iinc (v := (v4 + 1)) (ls' := [(4, .int (v4 + 1)), (3, .int (v3 + x30)), (0, .ref 0), (1, .ref a1), (2, .int v2)]) (pc := 37) hX dX10_sumOf_37 (pos := 4) rfl (by first | rfl | decide) (by decide) rfl ?_
        refine aw_goto (tgt := 5) (pc := 40) hX dX10_sumOf_40 (by decide) ?_
        refine aw_sub (ls' := [(0, .ref 0), (1, .ref a1), (2, .int v2), (3, .int (v3 + x30)), (4, .int (v4 + 1))]) [2, 3, 4, 1, 0] rfl ?_
        exact ih v2 (v3 + x30) (v4 + 1) S h

set_option maxHeartbeats 4000000 in
set_option maxRecDepth 100000 in
theorem c_X10_sumOf {a1 : Nat} {n1 : Nat} {v2 : Int32} {S : Mem} {r : Int32} {Sf : Mem} (ha1 : SKM[a1]? = some (0, n1, [])) (h : f_X10_sumOf a1 n1 v2 S = some (r, Sf)) : MetI yX10_sumOf cX10_sumOf 5 (some .int) 0 [.ref 0, .ref a1, .int v2] SKM S r Sf := by
  refine MetI.intro (by decide +kernel) (Nat.le_of_ble_eq_true rfl) (fun X loc hX hQ => ?_)
  unfold f_X10_sumOf at h
  show AW X SKM loc 0 0 0 [(0, .ref 0), (1, .ref a1), (2, .int v2)] [] S
  refine aw_iconst (v := (0 : Int32)) (pc := 0) hX dX10_sumOf_0 (by decide) ?_
  refine aw_istore_n (ls' := [(3, .int (0 : Int32)), (0, .ref 0), (1, .ref a1), (2, .int v2)]) (pc := 1) hX dX10_sumOf_1 rfl (by decide) rfl ?_
  refine aw_iconst (v := (0 : Int32)) (pc := 2) hX dX10_sumOf_2 (by decide) ?_
  refine aw_istore (ls' := [(4, .int (0 : Int32)), (3, .int (0 : Int32)), (0, .ref 0), (1, .ref a1), (2, .int v2)]) (pc := 3) hX dX10_sumOf_3 (by decide) rfl ?_
  refine aw_sub (ls' := [(0, .ref 0), (1, .ref a1), (2, .int v2), (3, .int (0 : Int32)), (4, .int (0 : Int32))]) [2, 3, 4, 1, 0] rfl ?_
  exact c_X10_sumOf_5 hX hQ ha1 FU v2 (0 : Int32) (0 : Int32) S h

def f_X10_best_168 (R45 : Int32 → Int32 → Int32 → Int32 → Int32 → Int32 → Mem → Option (Int32 × Mem)) (v1 : Int32) (v2 : Int32) (v3 : Int32) (v6 : Int32) (v9 : Int32) (S : Mem) : Option (Int32 × Mem) :=
  R45 v1 v2 v3 v6 v9 (v6 + 1) S

def f_X10_best_45 : Nat → Int32 → Int32 → Int32 → Int32 → Int32 → Int32 → Mem → Option (Int32 × Mem)
  | 0, _, _, _, _, _, _, _ => none
  | n + 1, v1, v2, v3, v4, v5, v6, S =>
  (rd S 2 14 (1 : Int32)).bind fun x53 =>
  if ((1 : Int32) <<< (x53 &&& 31)) ≤ v6 then
  (if v4 = (-1 : Int32) then
  (some ((-2 : Int32), S))
  else
  (if v3 = 0 then
  (some (v4, S))
  else
  (some (v5, S))))
  else
  (bnd (f_X10_heldBy (1 : Int32) S) fun r62 S62 =>
  bnd (f_X10_heldBy (0 : Int32) S62) fun r72 S72 =>
  if ((v6 &&& r62) ||| (v6 &&& r72)) = v6 then
  (bnd (f_X10_bitsOf (v6 &&& r62) S72) fun r90 S90 =>
  if r90 = v1 then
  (bnd (f_X10_bitsOf (v6 &&& r72) S90) fun r99 S99 =>
  if r99 = v1 then
  (bnd (f_X10_sumOf 9 20 (v6 &&& r62) S99) fun r116 S116 =>
  bnd (f_X10_sumOf 9 20 (v6 &&& r72) S116) fun r126 S126 =>
  bnd (f_J9_abs_0f7a4 (r116 - r126) S126) fun r130 S130 =>
  if r130 ≤ v2 then
  (bnd (f_X10_sumOf 8 20 v6 S130) fun r147 S147 =>
  if v4 = (-1 : Int32) then
  (f_X10_best_168 (f_X10_best_45 n) v1 v2 v3 v6 r147 S147)
  else
  (if v5 < r147 then
  (f_X10_best_168 (f_X10_best_45 n) v1 v2 v3 v6 r147 S147)
  else
  (f_X10_best_45 n v1 v2 v3 v4 v5 (v6 + 1) S147)))
  else
  (f_X10_best_45 n v1 v2 v3 v4 v5 (v6 + 1) S130))
  else
  (f_X10_best_45 n v1 v2 v3 v4 v5 (v6 + 1) S99))
  else
  (f_X10_best_45 n v1 v2 v3 v4 v5 (v6 + 1) S90))
  else
  (f_X10_best_45 n v1 v2 v3 v4 v5 (v6 + 1) S72))

def f_X10_best (v1 : Int32) (v2 : Int32) (v3 : Int32) (S : Mem) : Option (Int32 × Mem) :=
  nxt (sI S 0 0 (0 : Int32)) fun S2 =>
  if v1 < 0 then
  (some ((-1 : Int32), S2))
  else
  (if (5 : Int32) < v1 then
  (some ((-1 : Int32), S2))
  else
  (if v2 < 0 then
  (some ((-1 : Int32), S2))
  else
  (if (999 : Int32) < v2 then
  (some ((-1 : Int32), S2))
  else
  (if v3 < 0 then
  (some ((-1 : Int32), S2))
  else
  (if v3 ≤ (1 : Int32) then
  (f_X10_best_45 FU v1 v2 v3 (-1 : Int32) (0 : Int32) (0 : Int32) S2)
  else
  (some ((-1 : Int32), S2)))))))

set_option maxHeartbeats 4000000 in
set_option maxRecDepth 100000 in
theorem c_X10_best_168 {X : XT} {loc : Nat → Nat} {r : Int32} {Sf : Mem} (hX : AC X loc RX10 cX10_best (some .int) 10 3 0 0) (hQ : RetI X SKM loc 0 0 r Sf) {R45 : Int32 → Int32 → Int32 → Int32 → Int32 → Int32 → Mem → Option (Int32 × Mem)} (IH45 : ∀ (v1 : Int32) (v2 : Int32) (v3 : Int32) (v4 : Int32) (v5 : Int32) (v6 : Int32) (S : Mem), R45 v1 v2 v3 v4 v5 v6 S = some (r, Sf) → AW X SKM loc 0 0 45 [(0, .ref 0), (1, .int v1), (2, .int v2), (3, .int v3), (4, .int v4), (5, .int v5), (6, .int v6)] [] S) (v1 : Int32) (v2 : Int32) (v3 : Int32) (v6 : Int32) (v9 : Int32) (S : Mem) (h : f_X10_best_168 R45 v1 v2 v3 v6 v9 S = some (r, Sf)) : AW X SKM loc 0 0 168 [(0, .ref 0), (1, .int v1), (2, .int v2), (3, .int v3), (6, .int v6), (9, .int v9)] [] S := by
  unfold f_X10_best_168 at h
  refine aw_iload (pc := 168) hX dX10_best_168 4 rfl ?_
  refine aw_istore (ls' := [(4, .int v6), (0, .ref 0), (1, .int v1), (2, .int v2), (3, .int v3), (6, .int v6), (9, .int v9)]) (pc := 170) hX dX10_best_170 (by decide) rfl ?_
  refine aw_iload (pc := 172) hX dX10_best_172 6 rfl ?_
  refine aw_istore (ls' := [(5, .int v9), (4, .int v6), (0, .ref 0), (1, .int v1), (2, .int v2), (3, .int v3), (6, .int v6), (9, .int v9)]) (pc := 174) hX dX10_best_174 (by decide) rfl ?_
  refine aw_iinc (v := (v6 + 1)) (ls' := [(6, .int (v6 + 1)), (5, .int v9), (4, .int v6), (0, .ref 0), (1, .int v1), (2, .int v2), (3, .int v3), (9, .int v9)]) (pc := 176) hX dX10_best_176 (pos := 6) rfl (by first | rfl | decide) (by decide) rfl ?_
  refine aw_goto (tgt := 45) (pc := 179) hX dX10_best_179 (by decide) ?_
  refine aw_sub (ls' := [(0, .ref 0), (1, .int v1), (2, .int v2), (3, .int v3), (4, .int v6), (5, .int v9), (6, .int (v6 + 1))]) [3, 4, 5, 6, 2, 1, 0] rfl ?_
  exact IH45 v1 v2 v3 v6 v9 (v6 + 1) S h

set_option maxHeartbeats 4000000 in
set_option maxRecDepth 100000 in
theorem c_X10_best_45 {X : XT} {loc : Nat → Nat} {r : Int32} {Sf : Mem} (hX : AC X loc RX10 cX10_best (some .int) 10 3 0 0) (hQ : RetI X SKM loc 0 0 r Sf) : ∀ (n : Nat) (v1 : Int32) (v2 : Int32) (v3 : Int32) (v4 : Int32) (v5 : Int32) (v6 : Int32) (S : Mem), f_X10_best_45 n v1 v2 v3 v4 v5 v6 S = some (r, Sf) → AW X SKM loc 0 0 45 [(0, .ref 0), (1, .int v1), (2, .int v2), (3, .int v3), (4, .int v4), (5, .int v5), (6, .int v6)] [] S := by
  intro n
  induction n with
  | zero => intro v1 v2 v3 v4 v5 v6 S h; cases h
  | succ n ih =>
    intro v1 v2 v3 v4 v5 v6 S h
    unfold f_X10_best_45 at h
    refine aw_iload (pc := 45) hX dX10_best_45 6 rfl ?_
    refine aw_iconst (v := (1 : Int32)) (pc := 47) hX dX10_best_47 (by decide) ?_
    refine aw_aload_n (pc := 48) hX dX10_best_48 rfl 0 rfl ?_
    refine gf_X10_13 (pc := 49) hX km0 rfl dX10_best_49 ?_
    refine aw_iconst (v := (1 : Int32)) (pc := 52) hX dX10_best_52 (by decide) ?_
    obtain ⟨x53, hx53, h⟩ := ob h
    refine aw_iald (pc := 53) hX km2 hx53 dX10_best_53 ?_
    refine aw_ishl (pc := 54) hX dX10_best_54 ?_
    refine aw_icmp_ge (pc := 55) hX (tgt := 182) dX10_best_55 (by decide) (fun c55 => ?_) (fun c55 => ?_)
    · rw [if_pos c55] at h
      refine aw_iload (pc := 182) hX dX10_best_182 4 rfl ?_
      refine aw_iconst (v := (-1 : Int32)) (pc := 184) hX dX10_best_184 (by decide) ?_
      refine aw_icmp_ne (pc := 185) hX (tgt := 191) dX10_best_185 (by decide) (fun c185 => ?_) (fun c185 => ?_)
      · rw [if_neg c185] at h
        refine aw_iload_n (pc := 191) hX dX10_best_191 rfl 3 rfl ?_
        refine aw_if_ne (pc := 192) hX (tgt := 200) dX10_best_192 (by decide) (fun c192 => ?_) (fun c192 => ?_)
        · rw [if_neg c192] at h
          refine aw_iload (pc := 200) hX dX10_best_200 5 rfl ?_
          cases h
          exact aw_iret hX hQ dX10_best_202
        · rw [if_pos c192] at h
          refine aw_iload (pc := 195) hX dX10_best_195 4 rfl ?_
          refine aw_goto (tgt := 202) (pc := 197) hX dX10_best_197 (by decide) ?_
          cases h
          exact aw_iret hX hQ dX10_best_202
      · rw [if_pos c185] at h
        refine aw_bipush (v := (-2 : Int32)) (pc := 188) hX dX10_best_188 (by decide) ?_
        cases h
        exact aw_iret hX hQ dX10_best_190
    · rw [if_neg c55] at h
      refine aw_iload (pc := 58) hX dX10_best_58 6 rfl ?_
      refine aw_aload_n (pc := 60) hX dX10_best_60 rfl 0 rfl ?_
      refine aw_iconst (v := (1 : Int32)) (pc := 61) hX dX10_best_61 (by decide) ?_
      obtain ⟨r62, S62, hr62, h⟩ := ob2 h
      refine aw_cVI (pc := 62) (As := [.int (1 : Int32)]) (rest := [.int v6]) hX (c_X10_heldBy hr62) ok_X10_heldBy kw_7_38 im_X10_heldBy se_X10_heldBy rfl km0 rfl (by decide) (Nat.le_of_ble_eq_true rfl) rfl dX10_best_62 (Nat.le_refl 0) (Nat.le_refl 0) ?_
      refine aw_iand (pc := 65) hX dX10_best_65 ?_
      refine aw_istore (ls' := [(7, .int (v6 &&& r62)), (0, .ref 0), (1, .int v1), (2, .int v2), (3, .int v3), (4, .int v4), (5, .int v5), (6, .int v6)]) (pc := 66) hX dX10_best_66 (by decide) rfl ?_
      refine aw_iload (pc := 68) hX dX10_best_68 7 rfl ?_
      refine aw_aload_n (pc := 70) hX dX10_best_70 rfl 1 rfl ?_
      refine aw_iconst (v := (0 : Int32)) (pc := 71) hX dX10_best_71 (by decide) ?_
      obtain ⟨r72, S72, hr72, h⟩ := ob2 h
      refine aw_cVI (pc := 72) (As := [.int (0 : Int32)]) (rest := [.int v6]) hX (c_X10_heldBy hr72) ok_X10_heldBy kw_7_38 im_X10_heldBy se_X10_heldBy rfl km0 rfl (by decide) (Nat.le_of_ble_eq_true rfl) rfl dX10_best_72 (Nat.le_refl 0) (Nat.le_refl 0) ?_
      refine aw_iand (pc := 75) hX dX10_best_75 ?_
      refine aw_istore (ls' := [(8, .int (v6 &&& r72)), (7, .int (v6 &&& r62)), (0, .ref 0), (1, .int v1), (2, .int v2), (3, .int v3), (4, .int v4), (5, .int v5), (6, .int v6)]) (pc := 76) hX dX10_best_76 (by decide) rfl ?_
      refine aw_iload (pc := 78) hX dX10_best_78 1 rfl ?_
      refine aw_iload (pc := 80) hX dX10_best_80 0 rfl ?_
      refine aw_ior (pc := 82) hX dX10_best_82 ?_
      refine aw_iload (pc := 83) hX dX10_best_83 8 rfl ?_
      refine aw_icmp_ne (pc := 85) hX (tgt := 176) dX10_best_85 (by decide) (fun c85 => ?_) (fun c85 => ?_)
      · rw [if_neg c85] at h
        refine aw_iinc (v := (v6 + 1)) (ls' := [(6, .int (v6 + 1)), (8, .int (v6 &&& r72)), (7, .int (v6 &&& r62)), (0, .ref 0), (1, .int v1), (2, .int v2), (3, .int v3), (4, .int v4), (5, .int v5)]) (pc := 176) hX dX10_best_176 (pos := 8) rfl (by first | rfl | decide) (by decide) rfl ?_
        refine aw_goto (tgt := 45) (pc := 179) hX dX10_best_179 (by decide) ?_
        refine aw_sub (ls' := [(0, .ref 0), (1, .int v1), (2, .int v2), (3, .int v3), (4, .int v4), (5, .int v5), (6, .int (v6 + 1))]) [3, 4, 5, 6, 7, 8, 0] rfl ?_
        exact ih v1 v2 v3 v4 v5 (v6 + 1) S72 h
      · rw [if_pos c85] at h
        refine aw_iload (pc := 88) hX dX10_best_88 1 rfl ?_
        obtain ⟨r90, S90, hr90, h⟩ := ob2 h
        refine aw_cSI (pc := 90) (As := [.int (v6 &&& r62)]) (rest := []) hX (c_X10_bitsOf (sk := SKM) hr90) ok_X10_bitsOf kw_7_197 st_X10_bitsOf rfl (by decide) (Nat.le_of_ble_eq_true rfl) rfl dX10_best_90 (Nat.le_refl 0) (Nat.le_refl 0) ?_
        refine aw_iload_n (pc := 93) hX dX10_best_93 rfl 3 rfl ?_
        refine aw_icmp_ne (pc := 94) hX (tgt := 176) dX10_best_94 (by decide) (fun c94 => ?_) (fun c94 => ?_)
        · rw [if_neg c94] at h
          refine aw_iinc (v := (v6 + 1)) (ls' := [(6, .int (v6 + 1)), (8, .int (v6 &&& r72)), (7, .int (v6 &&& r62)), (0, .ref 0), (1, .int v1), (2, .int v2), (3, .int v3), (4, .int v4), (5, .int v5)]) (pc := 176) hX dX10_best_176 (pos := 8) rfl (by first | rfl | decide) (by decide) rfl ?_
          refine aw_goto (tgt := 45) (pc := 179) hX dX10_best_179 (by decide) ?_
          refine aw_sub (ls' := [(0, .ref 0), (1, .int v1), (2, .int v2), (3, .int v3), (4, .int v4), (5, .int v5), (6, .int (v6 + 1))]) [3, 4, 5, 6, 7, 8, 0] rfl ?_
          exact ih v1 v2 v3 v4 v5 (v6 + 1) S90 h
        · rw [if_pos c94] at h
          refine aw_iload (pc := 97) hX dX10_best_97 0 rfl ?_
          obtain ⟨r99, S99, hr99, h⟩ := ob2 h
          refine aw_cSI (pc := 99) (As := [.int (v6 &&& r72)]) (rest := []) hX (c_X10_bitsOf (sk := SKM) hr99) ok_X10_bitsOf kw_7_197 st_X10_bitsOf rfl (by decide) (Nat.le_of_ble_eq_true rfl) rfl dX10_best_99 (Nat.le_refl 0) (Nat.le_refl 0) ?_
          refine aw_iload_n (pc := 102) hX dX10_best_102 rfl 3 rfl ?_
          refine aw_icmp_eq (pc := 103) hX (tgt := 109) dX10_best_103 (by decide) (fun c103 => ?_) (fun c103 => ?_)
          · rw [if_pos c103] at h
            refine aw_aload_n (pc := 109) hX dX10_best_109 rfl 2 rfl ?_
            refine aw_aload_n (pc := 110) hX dX10_best_110 rfl 2 rfl ?_
            refine gf_X10_34 (pc := 111) hX km0 rfl dX10_best_111 ?_
            refine aw_iload (pc := 114) hX dX10_best_114 1 rfl ?_
            obtain ⟨r116, S116, hr116, h⟩ := ob2 h
            refine aw_cVI (pc := 116) (As := [.ref 9, .int (v6 &&& r62)]) (rest := []) hX (c_X10_sumOf km9 hr116) ok_X10_sumOf kw_7_46 im_X10_sumOf se_X10_sumOf rfl km0 rfl (by decide) (Nat.le_of_ble_eq_true rfl) rfl dX10_best_116 (Nat.le_refl 0) (Nat.le_refl 0) ?_
            refine aw_aload_n (pc := 119) hX dX10_best_119 rfl 2 rfl ?_
            refine aw_aload_n (pc := 120) hX dX10_best_120 rfl 2 rfl ?_
            refine gf_X10_34 (pc := 121) hX km0 rfl dX10_best_121 ?_
            refine aw_iload (pc := 124) hX dX10_best_124 0 rfl ?_
            obtain ⟨r126, S126, hr126, h⟩ := ob2 h
            refine aw_cVI (pc := 126) (As := [.ref 9, .int (v6 &&& r72)]) (rest := [.int r116]) hX (c_X10_sumOf km9 hr126) ok_X10_sumOf kw_7_46 im_X10_sumOf se_X10_sumOf rfl km0 rfl (by decide) (Nat.le_of_ble_eq_true rfl) rfl dX10_best_126 (Nat.le_refl 0) (Nat.le_refl 0) ?_
            refine aw_isub (pc := 129) hX dX10_best_129 ?_
            obtain ⟨r130, S130, hr130, h⟩ := ob2 h
            refine aw_cSI (pc := 130) (As := [.int (r116 - r126)]) (rest := []) hX (c_J9_abs_0f7a4 (sk := SKM) hr130) ok_J9_abs_0f7a4 kw_7_200 st_J9_abs_0f7a4 rfl (by decide) (Nat.le_of_ble_eq_true rfl) rfl dX10_best_130 (Nat.le_refl 0) (Nat.le_refl 0) ?_
            refine aw_iload_n (pc := 133) hX dX10_best_133 rfl 4 rfl ?_
            refine aw_icmp_le (pc := 134) hX (tgt := 140) dX10_best_134 (by decide) (fun c134 => ?_) (fun c134 => ?_)
            · rw [if_pos c134] at h
              refine aw_aload_n (pc := 140) hX dX10_best_140 rfl 2 rfl ?_
              refine aw_aload_n (pc := 141) hX dX10_best_141 rfl 2 rfl ?_
              refine gf_X10_31 (pc := 142) hX km0 rfl dX10_best_142 ?_
              refine aw_iload (pc := 145) hX dX10_best_145 8 rfl ?_
              obtain ⟨r147, S147, hr147, h⟩ := ob2 h
              refine aw_cVI (pc := 147) (As := [.ref 8, .int v6]) (rest := []) hX (c_X10_sumOf km8 hr147) ok_X10_sumOf kw_7_46 im_X10_sumOf se_X10_sumOf rfl km0 rfl (by decide) (Nat.le_of_ble_eq_true rfl) rfl dX10_best_147 (Nat.le_refl 0) (Nat.le_refl 0) ?_
              refine aw_istore (ls' := [(9, .int r147), (8, .int (v6 &&& r72)), (7, .int (v6 &&& r62)), (0, .ref 0), (1, .int v1), (2, .int v2), (3, .int v3), (4, .int v4), (5, .int v5), (6, .int v6)]) (pc := 150) hX dX10_best_150 (by decide) rfl ?_
              refine aw_iload (pc := 152) hX dX10_best_152 7 rfl ?_
              refine aw_iconst (v := (-1 : Int32)) (pc := 154) hX dX10_best_154 (by decide) ?_
              refine aw_icmp_eq (pc := 155) hX (tgt := 168) dX10_best_155 (by decide) (fun c155 => ?_) (fun c155 => ?_)
              · rw [if_pos c155] at h
                refine aw_sub (ls' := [(0, .ref 0), (1, .int v1), (2, .int v2), (3, .int v3), (6, .int v6), (9, .int r147)]) [3, 4, 5, 6, 9, 0] rfl ?_
                exact c_X10_best_168 hX hQ ih v1 v2 v3 v6 r147 S147 h
              · rw [if_neg c155] at h
                refine aw_iload (pc := 158) hX dX10_best_158 0 rfl ?_
                refine aw_iload (pc := 160) hX dX10_best_160 8 rfl ?_
                refine aw_icmp_gt (pc := 162) hX (tgt := 168) dX10_best_162 (by decide) (fun c162 => ?_) (fun c162 => ?_)
                · rw [if_pos c162] at h
                  refine aw_sub (ls' := [(0, .ref 0), (1, .int v1), (2, .int v2), (3, .int v3), (6, .int v6), (9, .int r147)]) [3, 4, 5, 6, 9, 0] rfl ?_
                  exact c_X10_best_168 hX hQ ih v1 v2 v3 v6 r147 S147 h
                · rw [if_neg c162] at h
                  refine aw_goto (tgt := 176) (pc := 165) hX dX10_best_165 (by decide) ?_
                  refine aw_iinc (v := (v6 + 1)) (ls' := [(6, .int (v6 + 1)), (9, .int r147), (8, .int (v6 &&& r72)), (7, .int (v6 &&& r62)), (0, .ref 0), (1, .int v1), (2, .int v2), (3, .int v3), (4, .int v4), (5, .int v5)]) (pc := 176) hX dX10_best_176 (pos := 9) rfl (by first | rfl | decide) (by decide) rfl ?_
                  refine aw_goto (tgt := 45) (pc := 179) hX dX10_best_179 (by decide) ?_
                  refine aw_sub (ls' := [(0, .ref 0), (1, .int v1), (2, .int v2), (3, .int v3), (4, .int v4), (5, .int v5), (6, .int (v6 + 1))]) [4, 5, 6, 7, 8, 9, 0] rfl ?_
                  exact ih v1 v2 v3 v4 v5 (v6 + 1) S147 h
            · rw [if_neg c134] at h
              refine aw_goto (tgt := 176) (pc := 137) hX dX10_best_137 (by decide) ?_
              refine aw_iinc (v := (v6 + 1)) (ls' := [(6, .int (v6 + 1)), (8, .int (v6 &&& r72)), (7, .int (v6 &&& r62)), (0, .ref 0), (1, .int v1), (2, .int v2), (3, .int v3), (4, .int v4), (5, .int v5)]) (pc := 176) hX dX10_best_176 (pos := 8) rfl (by first | rfl | decide) (by decide) rfl ?_
              refine aw_goto (tgt := 45) (pc := 179) hX dX10_best_179 (by decide) ?_
              refine aw_sub (ls' := [(0, .ref 0), (1, .int v1), (2, .int v2), (3, .int v3), (4, .int v4), (5, .int v5), (6, .int (v6 + 1))]) [3, 4, 5, 6, 7, 8, 0] rfl ?_
              exact ih v1 v2 v3 v4 v5 (v6 + 1) S130 h
          · rw [if_neg c103] at h
            refine aw_goto (tgt := 176) (pc := 106) hX dX10_best_106 (by decide) ?_
            refine aw_iinc (v := (v6 + 1)) (ls' := [(6, .int (v6 + 1)), (8, .int (v6 &&& r72)), (7, .int (v6 &&& r62)), (0, .ref 0), (1, .int v1), (2, .int v2), (3, .int v3), (4, .int v4), (5, .int v5)]) (pc := 176) hX dX10_best_176 (pos := 8) rfl (by first | rfl | decide) (by decide) rfl ?_
            refine aw_goto (tgt := 45) (pc := 179) hX dX10_best_179 (by decide) ?_
            refine aw_sub (ls' := [(0, .ref 0), (1, .int v1), (2, .int v2), (3, .int v3), (4, .int v4), (5, .int v5), (6, .int (v6 + 1))]) [3, 4, 5, 6, 7, 8, 0] rfl ?_
            exact ih v1 v2 v3 v4 v5 (v6 + 1) S99 h

set_option maxHeartbeats 4000000 in
set_option maxRecDepth 100000 in
theorem c_X10_best {v1 : Int32} {v2 : Int32} {v3 : Int32} {S : Mem} {r : Int32} {Sf : Mem} (h : f_X10_best v1 v2 v3 S = some (r, Sf)) : MetI yX10_best cX10_best 10 (some .int) 3 [.ref 0, .int v1, .int v2, .int v3] SKM S r Sf := by
  refine MetI.intro (by decide +kernel) (Nat.le_of_ble_eq_true rfl) (fun X loc hX hQ => ?_)
  unfold f_X10_best at h
  show AW X SKM loc 0 0 0 [(0, .ref 0), (1, .int v1), (2, .int v2), (3, .int v3)] [] S
  refine aw_aload_n (pc := 0) hX dX10_best_0 rfl 0 rfl ?_
  refine aw_iconst (v := (0 : Int32)) (pc := 1) hX dX10_best_1 (by decide) ?_
  refine pf_X10_124 (pc := 2) hX km0 rfl dX10_best_2 ?_
  obtain ⟨S2, eS2, h⟩ := on h
  refine aw_S eS2 ?_
  refine aw_iload_n (pc := 5) hX dX10_best_5 rfl 1 rfl ?_
  refine aw_if_lt (pc := 6) hX (tgt := 34) dX10_best_6 (by decide) (fun c6 => ?_) (fun c6 => ?_)
  · rw [if_pos c6] at h
    refine aw_iconst (v := (-1 : Int32)) (pc := 34) hX dX10_best_34 (by decide) ?_
    cases h
    exact aw_iret hX hQ dX10_best_35
  · rw [if_neg c6] at h
    refine aw_iload_n (pc := 9) hX dX10_best_9 rfl 1 rfl ?_
    refine aw_iconst (v := (5 : Int32)) (pc := 10) hX dX10_best_10 (by decide) ?_
    refine aw_icmp_gt (pc := 11) hX (tgt := 34) dX10_best_11 (by decide) (fun c11 => ?_) (fun c11 => ?_)
    · rw [if_pos c11] at h
      refine aw_iconst (v := (-1 : Int32)) (pc := 34) hX dX10_best_34 (by decide) ?_
      cases h
      exact aw_iret hX hQ dX10_best_35
    · rw [if_neg c11] at h
      refine aw_iload_n (pc := 14) hX dX10_best_14 rfl 2 rfl ?_
      refine aw_if_lt (pc := 15) hX (tgt := 34) dX10_best_15 (by decide) (fun c15 => ?_) (fun c15 => ?_)
      · rw [if_pos c15] at h
        refine aw_iconst (v := (-1 : Int32)) (pc := 34) hX dX10_best_34 (by decide) ?_
        cases h
        exact aw_iret hX hQ dX10_best_35
      · rw [if_neg c15] at h
        refine aw_iload_n (pc := 18) hX dX10_best_18 rfl 2 rfl ?_
        refine aw_sipush (v := (999 : Int32)) (pc := 19) hX dX10_best_19 (by decide) ?_
        refine aw_icmp_gt (pc := 22) hX (tgt := 34) dX10_best_22 (by decide) (fun c22 => ?_) (fun c22 => ?_)
        · rw [if_pos c22] at h
          refine aw_iconst (v := (-1 : Int32)) (pc := 34) hX dX10_best_34 (by decide) ?_
          cases h
          exact aw_iret hX hQ dX10_best_35
        · rw [if_neg c22] at h
          refine aw_iload_n (pc := 25) hX dX10_best_25 rfl 3 rfl ?_
          refine aw_if_lt (pc := 26) hX (tgt := 34) dX10_best_26 (by decide) (fun c26 => ?_) (fun c26 => ?_)
          · rw [if_pos c26] at h
            refine aw_iconst (v := (-1 : Int32)) (pc := 34) hX dX10_best_34 (by decide) ?_
            cases h
            exact aw_iret hX hQ dX10_best_35
          · rw [if_neg c26] at h
            refine aw_iload_n (pc := 29) hX dX10_best_29 rfl 3 rfl ?_
            refine aw_iconst (v := (1 : Int32)) (pc := 30) hX dX10_best_30 (by decide) ?_
            refine aw_icmp_le (pc := 31) hX (tgt := 36) dX10_best_31 (by decide) (fun c31 => ?_) (fun c31 => ?_)
            · rw [if_pos c31] at h
              refine aw_iconst (v := (-1 : Int32)) (pc := 36) hX dX10_best_36 (by decide) ?_
              refine aw_istore (ls' := [(4, .int (-1 : Int32)), (0, .ref 0), (1, .int v1), (2, .int v2), (3, .int v3)]) (pc := 37) hX dX10_best_37 (by decide) rfl ?_
              refine aw_iconst (v := (0 : Int32)) (pc := 39) hX dX10_best_39 (by decide) ?_
              refine aw_istore (ls' := [(5, .int (0 : Int32)), (4, .int (-1 : Int32)), (0, .ref 0), (1, .int v1), (2, .int v2), (3, .int v3)]) (pc := 40) hX dX10_best_40 (by decide) rfl ?_
              refine aw_iconst (v := (0 : Int32)) (pc := 42) hX dX10_best_42 (by decide) ?_
              refine aw_istore (ls' := [(6, .int (0 : Int32)), (5, .int (0 : Int32)), (4, .int (-1 : Int32)), (0, .ref 0), (1, .int v1), (2, .int v2), (3, .int v3)]) (pc := 43) hX dX10_best_43 (by decide) rfl ?_
              refine aw_sub (ls' := [(0, .ref 0), (1, .int v1), (2, .int v2), (3, .int v3), (4, .int (-1 : Int32)), (5, .int (0 : Int32)), (6, .int (0 : Int32))]) [3, 4, 5, 6, 2, 1, 0] rfl ?_
              exact c_X10_best_45 hX hQ FU v1 v2 v3 (-1 : Int32) (0 : Int32) (0 : Int32) S2 h
            · rw [if_neg c31] at h
              refine aw_iconst (v := (-1 : Int32)) (pc := 34) hX dX10_best_34 (by decide) ?_
              cases h
              exact aw_iret hX hQ dX10_best_35

def f_X10_knownMany (S : Mem) : Option (Int32 × Mem) :=
  if (S.1 0 51) = (-1 : Int32) then
  (some ((S.1 0 50), S))
  else
  (some ((S.1 0 51), S))

set_option maxHeartbeats 4000000 in
set_option maxRecDepth 100000 in
theorem c_X10_knownMany {S : Mem} {r : Int32} {Sf : Mem} (h : f_X10_knownMany S = some (r, Sf)) : MetI yX10_knownMany cX10_knownMany 1 (some .int) 0 [.ref 0] SKM S r Sf := by
  refine MetI.intro (by decide +kernel) (Nat.le_of_ble_eq_true rfl) (fun X loc hX hQ => ?_)
  unfold f_X10_knownMany at h
  show AW X SKM loc 0 0 0 [(0, .ref 0)] [] S
  refine aw_aload_n (pc := 0) hX dX10_knownMany_0 rfl 0 rfl ?_
  refine gf_X10_99 (pc := 1) hX km0 rfl dX10_knownMany_1 ?_
  refine aw_iconst (v := (-1 : Int32)) (pc := 4) hX dX10_knownMany_4 (by decide) ?_
  refine aw_icmp_ne (pc := 5) hX (tgt := 15) dX10_knownMany_5 (by decide) (fun c5 => ?_) (fun c5 => ?_)
  · rw [if_neg c5] at h
    refine aw_aload_n (pc := 15) hX dX10_knownMany_15 rfl 0 rfl ?_
    refine gf_X10_99 (pc := 16) hX km0 rfl dX10_knownMany_16 ?_
    cases h
    exact aw_iret hX hQ dX10_knownMany_19
  · rw [if_pos c5] at h
    refine aw_aload_n (pc := 8) hX dX10_knownMany_8 rfl 0 rfl ?_
    refine gf_X10_277 (pc := 9) hX km0 rfl dX10_knownMany_9 ?_
    refine aw_goto (tgt := 19) (pc := 12) hX dX10_knownMany_12 (by decide) ?_
    cases h
    exact aw_iret hX hQ dX10_knownMany_19

def f_X10_isSo_70 (R2 : Int32 → Int32 → Mem → Option (Int32 × Mem)) (v1 : Int32) (v2 : Int32) (t0 : Int32) (S : Mem) : Option (Int32 × Mem) :=
  (rd S 31 24 v2).bind fun x75 =>
  if t0 = x75 then
  (R2 v1 (v2 + 1) S)
  else
  (some ((0 : Int32), S))

def f_X10_isSo_2 : Nat → Int32 → Int32 → Mem → Option (Int32 × Mem)
  | 0, _, _, _ => none
  | n + 1, v1, v2, S =>
  bnd (f_X10_knownMany S) fun r4 S4 =>
  if r4 ≤ v2 then
  (some ((1 : Int32), S4))
  else
  ((rd S4 33 24 v2).bind fun x15 =>
  if x15 = 0 then
  ((rd S4 32 24 v2).bind fun x24 =>
  if x24 = (-1 : Int32) then
  ((rd S4 28 24 v2).bind fun x34 =>
  if x34 = v1 then
  ((rd S4 29 24 v2).bind fun x53 =>
  (rd S4 22 230 ((10 : Int32) + x53)).bind fun x55 =>
  (rd S4 30 24 v2).bind fun x61 =>
  if x55 < x61 then
  (f_X10_isSo_70 (f_X10_isSo_2 n) v1 v2 (0 : Int32) S4)
  else
  (f_X10_isSo_70 (f_X10_isSo_2 n) v1 v2 (1 : Int32) S4))
  else
  (f_X10_isSo_2 n v1 (v2 + 1) S4))
  else
  (f_X10_isSo_2 n v1 (v2 + 1) S4))
  else
  (f_X10_isSo_2 n v1 (v2 + 1) S4))

def f_X10_isSo (v1 : Int32) (S : Mem) : Option (Int32 × Mem) :=
  f_X10_isSo_2 FU v1 (0 : Int32) S

set_option maxHeartbeats 4000000 in
set_option maxRecDepth 100000 in
theorem c_X10_isSo_70 {X : XT} {loc : Nat → Nat} {r : Int32} {Sf : Mem} (hX : AC X loc RX10 cX10_isSo (some .boolean) 3 1 0 0) (hQ : RetI X SKM loc 0 0 r Sf) {R2 : Int32 → Int32 → Mem → Option (Int32 × Mem)} (IH2 : ∀ (v1 : Int32) (v2 : Int32) (S : Mem), R2 v1 v2 S = some (r, Sf) → AW X SKM loc 0 0 2 [(0, .ref 0), (1, .int v1), (2, .int v2)] [] S) (v1 : Int32) (v2 : Int32) (t0 : Int32) (S : Mem) (h : f_X10_isSo_70 R2 v1 v2 t0 S = some (r, Sf)) : AW X SKM loc 0 0 70 [(0, .ref 0), (1, .int v1), (2, .int v2)] [.int t0] S := by
  unfold f_X10_isSo_70 at h
  refine aw_aload_n (pc := 70) hX dX10_isSo_70 rfl 0 rfl ?_
  refine gf_X10_111 (pc := 71) hX km0 rfl dX10_isSo_71 ?_
  refine aw_iload_n (pc := 74) hX dX10_isSo_74 rfl 2 rfl ?_
  obtain ⟨x75, hx75, h⟩ := ob h
  refine aw_zald (pc := 75) hX km31 hx75 dX10_isSo_75 ?_
  refine aw_icmp_eq (pc := 76) hX (tgt := 81) dX10_isSo_76 (by decide) (fun c76 => ?_) (fun c76 => ?_)
  · rw [if_pos c76] at h
    refine aw_iinc (v := (v2 + 1)) (ls' := [(2, .int (v2 + 1)), (0, .ref 0), (1, .int v1)]) (pc := 81) hX dX10_isSo_81 (pos := 2) rfl (by first | rfl | decide) (by decide) rfl ?_
    refine aw_goto (tgt := 2) (pc := 84) hX dX10_isSo_84 (by decide) ?_
    refine aw_sub (ls' := [(0, .ref 0), (1, .int v1), (2, .int (v2 + 1))]) [1, 2, 0] rfl ?_
    exact IH2 v1 (v2 + 1) S h
  · rw [if_neg c76] at h
    refine aw_iconst (v := (0 : Int32)) (pc := 79) hX dX10_isSo_79 (by decide) ?_
    cases h
    exact aw_zret hX hQ (by decide) dX10_isSo_80

set_option maxHeartbeats 4000000 in
set_option maxRecDepth 100000 in
theorem c_X10_isSo_2 {X : XT} {loc : Nat → Nat} {r : Int32} {Sf : Mem} (hX : AC X loc RX10 cX10_isSo (some .boolean) 3 1 0 0) (hQ : RetI X SKM loc 0 0 r Sf) : ∀ (n : Nat) (v1 : Int32) (v2 : Int32) (S : Mem), f_X10_isSo_2 n v1 v2 S = some (r, Sf) → AW X SKM loc 0 0 2 [(0, .ref 0), (1, .int v1), (2, .int v2)] [] S := by
  intro n
  induction n with
  | zero => intro v1 v2 S h; cases h
  | succ n ih =>
    intro v1 v2 S h
    unfold f_X10_isSo_2 at h
    refine aw_iload_n (pc := 2) hX dX10_isSo_2 rfl 2 rfl ?_
    refine aw_aload_n (pc := 3) hX dX10_isSo_3 rfl 0 rfl ?_
    obtain ⟨r4, S4, hr4, h⟩ := ob2 h
    refine aw_cVI (pc := 4) (As := []) (rest := [.int v2]) hX (c_X10_knownMany hr4) ok_X10_knownMany kw_8_38 im_X10_knownMany se_X10_knownMany rfl km0 rfl (by decide) (Nat.le_of_ble_eq_true rfl) rfl dX10_isSo_4 (Nat.le_refl 0) (Nat.le_refl 0) ?_
    refine aw_icmp_ge (pc := 7) hX (tgt := 87) dX10_isSo_7 (by decide) (fun c7 => ?_) (fun c7 => ?_)
    · rw [if_pos c7] at h
      refine aw_iconst (v := (1 : Int32)) (pc := 87) hX dX10_isSo_87 (by decide) ?_
      cases h
      exact aw_zret hX hQ (by decide) dX10_isSo_88
    · rw [if_neg c7] at h
      refine aw_aload_n (pc := 10) hX dX10_isSo_10 rfl 0 rfl ?_
      refine gf_X10_118 (pc := 11) hX km0 rfl dX10_isSo_11 ?_
      refine aw_iload_n (pc := 14) hX dX10_isSo_14 rfl 2 rfl ?_
      obtain ⟨x15, hx15, h⟩ := ob h
      refine aw_zald (pc := 15) hX km33 hx15 dX10_isSo_15 ?_
      refine aw_if_ne (pc := 16) hX (tgt := 81) dX10_isSo_16 (by decide) (fun c16 => ?_) (fun c16 => ?_)
      · rw [if_neg c16] at h
        refine aw_iinc (v := (v2 + 1)) (ls' := [(2, .int (v2 + 1)), (0, .ref 0), (1, .int v1)]) (pc := 81) hX dX10_isSo_81 (pos := 2) rfl (by first | rfl | decide) (by decide) rfl ?_
        refine aw_goto (tgt := 2) (pc := 84) hX dX10_isSo_84 (by decide) ?_
        refine aw_sub (ls' := [(0, .ref 0), (1, .int v1), (2, .int (v2 + 1))]) [1, 2, 0] rfl ?_
        exact ih v1 (v2 + 1) S4 h
      · rw [if_pos c16] at h
        refine aw_aload_n (pc := 19) hX dX10_isSo_19 rfl 0 rfl ?_
        refine gf_X10_115 (pc := 20) hX km0 rfl dX10_isSo_20 ?_
        refine aw_iload_n (pc := 23) hX dX10_isSo_23 rfl 2 rfl ?_
        obtain ⟨x24, hx24, h⟩ := ob h
        refine aw_iald (pc := 24) hX km32 hx24 dX10_isSo_24 ?_
        refine aw_iconst (v := (-1 : Int32)) (pc := 25) hX dX10_isSo_25 (by decide) ?_
        refine aw_icmp_ne (pc := 26) hX (tgt := 81) dX10_isSo_26 (by decide) (fun c26 => ?_) (fun c26 => ?_)
        · rw [if_neg c26] at h
          refine aw_iinc (v := (v2 + 1)) (ls' := [(2, .int (v2 + 1)), (0, .ref 0), (1, .int v1)]) (pc := 81) hX dX10_isSo_81 (pos := 2) rfl (by first | rfl | decide) (by decide) rfl ?_
          refine aw_goto (tgt := 2) (pc := 84) hX dX10_isSo_84 (by decide) ?_
          refine aw_sub (ls' := [(0, .ref 0), (1, .int v1), (2, .int (v2 + 1))]) [1, 2, 0] rfl ?_
          exact ih v1 (v2 + 1) S4 h
        · rw [if_pos c26] at h
          refine aw_aload_n (pc := 29) hX dX10_isSo_29 rfl 0 rfl ?_
          refine gf_X10_102 (pc := 30) hX km0 rfl dX10_isSo_30 ?_
          refine aw_iload_n (pc := 33) hX dX10_isSo_33 rfl 2 rfl ?_
          obtain ⟨x34, hx34, h⟩ := ob h
          refine aw_iald (pc := 34) hX km28 hx34 dX10_isSo_34 ?_
          refine aw_iload_n (pc := 35) hX dX10_isSo_35 rfl 1 rfl ?_
          refine aw_icmp_eq (pc := 36) hX (tgt := 42) dX10_isSo_36 (by decide) (fun c36 => ?_) (fun c36 => ?_)
          · rw [if_pos c36] at h
            refine aw_aload_n (pc := 42) hX dX10_isSo_42 rfl 0 rfl ?_
            refine gf_X10_78 (pc := 43) hX km0 rfl dX10_isSo_43 ?_
            refine aw_bipush (v := (10 : Int32)) (pc := 46) hX dX10_isSo_46 (by decide) ?_
            refine aw_aload_n (pc := 48) hX dX10_isSo_48 rfl 0 rfl ?_
            refine gf_X10_105 (pc := 49) hX km0 rfl dX10_isSo_49 ?_
            refine aw_iload_n (pc := 52) hX dX10_isSo_52 rfl 2 rfl ?_
            obtain ⟨x53, hx53, h⟩ := ob h
            refine aw_iald (pc := 53) hX km29 hx53 dX10_isSo_53 ?_
            refine aw_iadd (pc := 54) hX dX10_isSo_54 ?_
            obtain ⟨x55, hx55, h⟩ := ob h
            refine aw_iald (pc := 55) hX km22 hx55 dX10_isSo_55 ?_
            refine aw_aload_n (pc := 56) hX dX10_isSo_56 rfl 0 rfl ?_
            refine gf_X10_108 (pc := 57) hX km0 rfl dX10_isSo_57 ?_
            refine aw_iload_n (pc := 60) hX dX10_isSo_60 rfl 2 rfl ?_
            obtain ⟨x61, hx61, h⟩ := ob h
            refine aw_iald (pc := 61) hX km30 hx61 dX10_isSo_61 ?_
            refine aw_icmp_lt (pc := 62) hX (tgt := 69) dX10_isSo_62 (by decide) (fun c62 => ?_) (fun c62 => ?_)
            · rw [if_pos c62] at h
              refine aw_iconst (v := (0 : Int32)) (pc := 69) hX dX10_isSo_69 (by decide) ?_
              exact c_X10_isSo_70 hX hQ ih v1 v2 (0 : Int32) S4 h
            · rw [if_neg c62] at h
              refine aw_iconst (v := (1 : Int32)) (pc := 65) hX dX10_isSo_65 (by decide) ?_
              refine aw_goto (tgt := 70) (pc := 66) hX dX10_isSo_66 (by decide) ?_
              exact c_X10_isSo_70 hX hQ ih v1 v2 (1 : Int32) S4 h
          · rw [if_neg c36] at h
            refine aw_goto (tgt := 81) (pc := 39) hX dX10_isSo_39 (by decide) ?_
            refine aw_iinc (v := (v2 + 1)) (ls' := [(2, .int (v2 + 1)), (0, .ref 0), (1, .int v1)]) (pc := 81) hX dX10_isSo_81 (pos := 2) rfl (by first | rfl | decide) (by decide) rfl ?_
            refine aw_goto (tgt := 2) (pc := 84) hX dX10_isSo_84 (by decide) ?_
            refine aw_sub (ls' := [(0, .ref 0), (1, .int v1), (2, .int (v2 + 1))]) [1, 2, 0] rfl ?_
            exact ih v1 (v2 + 1) S4 h

set_option maxHeartbeats 4000000 in
set_option maxRecDepth 100000 in
theorem c_X10_isSo {v1 : Int32} {S : Mem} {r : Int32} {Sf : Mem} (h : f_X10_isSo v1 S = some (r, Sf)) : MetI yX10_isSo cX10_isSo 3 (some .boolean) 1 [.ref 0, .int v1] SKM S r Sf := by
  refine MetI.intro (by decide +kernel) (Nat.le_of_ble_eq_true rfl) (fun X loc hX hQ => ?_)
  unfold f_X10_isSo at h
  show AW X SKM loc 0 0 0 [(0, .ref 0), (1, .int v1)] [] S
  refine aw_iconst (v := (0 : Int32)) (pc := 0) hX dX10_isSo_0 (by decide) ?_
  refine aw_istore_n (ls' := [(2, .int (0 : Int32)), (0, .ref 0), (1, .int v1)]) (pc := 1) hX dX10_isSo_1 rfl (by decide) rfl ?_
  refine aw_sub (ls' := [(0, .ref 0), (1, .int v1), (2, .int (0 : Int32))]) [1, 2, 0] rfl ?_
  exact c_X10_isSo_2 hX hQ FU v1 (0 : Int32) S h

def f_X10_fitsCare_7 : Nat → Int32 → Int32 → Mem → Option (Int32 × Mem)
  | 0, _, _, _ => none
  | n + 1, v1, v2, S =>
  if v1 < v2 then
  (some ((1 : Int32), S))
  else
  ((f_X10_passes (1 : Int32) (0 : Int32) S).bind fun S15 =>
  bnd (f_X10_isSo v2 S15) fun r20 S20 =>
  if r20 = 0 then
  (some ((0 : Int32), S20))
  else
  (f_X10_fitsCare_7 n v1 (v2 + 1) S20))

def f_X10_fitsCare (v1 : Int32) (S : Mem) : Option (Int32 × Mem) :=
  (f_X10_starts (1 : Int32) S).bind fun S2 =>
  f_X10_fitsCare_7 FU v1 (1 : Int32) S2

set_option maxHeartbeats 4000000 in
set_option maxRecDepth 100000 in
theorem c_X10_fitsCare_7 {X : XT} {loc : Nat → Nat} {r : Int32} {Sf : Mem} (hX : AC X loc RX10 cX10_fitsCare (some .boolean) 3 7 0 0) (hQ : RetI X SKM loc 0 0 r Sf) : ∀ (n : Nat) (v1 : Int32) (v2 : Int32) (S : Mem), f_X10_fitsCare_7 n v1 v2 S = some (r, Sf) → AW X SKM loc 0 0 7 [(0, .ref 0), (1, .int v1), (2, .int v2)] [] S := by
  intro n
  induction n with
  | zero => intro v1 v2 S h; cases h
  | succ n ih =>
    intro v1 v2 S h
    unfold f_X10_fitsCare_7 at h
    refine aw_iload_n (pc := 7) hX dX10_fitsCare_7 rfl 2 rfl ?_
    refine aw_iload_n (pc := 8) hX dX10_fitsCare_8 rfl 1 rfl ?_
    refine aw_icmp_gt (pc := 9) hX (tgt := 34) dX10_fitsCare_9 (by decide) (fun c9 => ?_) (fun c9 => ?_)
    · rw [if_pos c9] at h
      refine aw_iconst (v := (1 : Int32)) (pc := 34) hX dX10_fitsCare_34 (by decide) ?_
      cases h
      exact aw_zret hX hQ (by decide) dX10_fitsCare_35
    · rw [if_neg c9] at h
      refine aw_aload_n (pc := 12) hX dX10_fitsCare_12 rfl 0 rfl ?_
      refine aw_iconst (v := (1 : Int32)) (pc := 13) hX dX10_fitsCare_13 (by decide) ?_
      refine aw_iconst (v := (0 : Int32)) (pc := 14) hX dX10_fitsCare_14 (by decide) ?_
      obtain ⟨S15, hr15, h⟩ := ob h
      refine aw_cVV (pc := 15) (As := [.int (1 : Int32), .int (0 : Int32)]) (rest := []) hX (c_X10_passes hr15) ok_X10_passes kw_7_130 im_X10_passes se_X10_passes rfl km0 rfl (by decide) (Nat.le_of_ble_eq_true rfl) rfl dX10_fitsCare_15 (Nat.le_refl 0) (Nat.le_refl 0) ?_
      refine aw_aload_n (pc := 18) hX dX10_fitsCare_18 rfl 0 rfl ?_
      refine aw_iload_n (pc := 19) hX dX10_fitsCare_19 rfl 2 rfl ?_
      obtain ⟨r20, S20, hr20, h⟩ := ob2 h
      refine aw_cVI (pc := 20) (As := [.int v2]) (rest := []) hX (c_X10_isSo hr20) ok_X10_isSo kw_8_46 im_X10_isSo se_X10_isSo rfl km0 rfl (by decide) (Nat.le_of_ble_eq_true rfl) rfl dX10_fitsCare_20 (Nat.le_refl 0) (Nat.le_refl 0) ?_
      refine aw_if_ne (pc := 23) hX (tgt := 28) dX10_fitsCare_23 (by decide) (fun c23 => ?_) (fun c23 => ?_)
      · rw [if_neg c23] at h
        refine aw_iinc (v := (v2 + 1)) (ls' := [(2, .int (v2 + 1)), (0, .ref 0), (1, .int v1)]) (pc := 28) hX dX10_fitsCare_28 (pos := 2) rfl (by first | rfl | decide) (by decide) rfl ?_
        refine aw_goto (tgt := 7) (pc := 31) hX dX10_fitsCare_31 (by decide) ?_
        refine aw_sub (ls' := [(0, .ref 0), (1, .int v1), (2, .int (v2 + 1))]) [1, 2, 0] rfl ?_
        exact ih v1 (v2 + 1) S20 h
      · rw [if_pos c23] at h
        refine aw_iconst (v := (0 : Int32)) (pc := 26) hX dX10_fitsCare_26 (by decide) ?_
        cases h
        exact aw_zret hX hQ (by decide) dX10_fitsCare_27

set_option maxHeartbeats 4000000 in
set_option maxRecDepth 100000 in
theorem c_X10_fitsCare {v1 : Int32} {S : Mem} {r : Int32} {Sf : Mem} (h : f_X10_fitsCare v1 S = some (r, Sf)) : MetI yX10_fitsCare cX10_fitsCare 3 (some .boolean) 7 [.ref 0, .int v1] SKM S r Sf := by
  refine MetI.intro (by decide +kernel) (Nat.le_of_ble_eq_true rfl) (fun X loc hX hQ => ?_)
  unfold f_X10_fitsCare at h
  show AW X SKM loc 0 0 0 [(0, .ref 0), (1, .int v1)] [] S
  refine aw_aload_n (pc := 0) hX dX10_fitsCare_0 rfl 0 rfl ?_
  refine aw_iconst (v := (1 : Int32)) (pc := 1) hX dX10_fitsCare_1 (by decide) ?_
  obtain ⟨S2, hr2, h⟩ := ob h
  refine aw_cVV (pc := 2) (As := [.int (1 : Int32)]) (rest := []) hX (c_X10_starts hr2) ok_X10_starts kw_5_168 im_X10_starts se_X10_starts rfl km0 rfl (by decide) (Nat.le_of_ble_eq_true rfl) rfl dX10_fitsCare_2 (Nat.le_refl 0) (Nat.le_refl 0) ?_
  refine aw_iconst (v := (1 : Int32)) (pc := 5) hX dX10_fitsCare_5 (by decide) ?_
  refine aw_istore_n (ls' := [(2, .int (1 : Int32)), (0, .ref 0), (1, .int v1)]) (pc := 6) hX dX10_fitsCare_6 rfl (by decide) rfl ?_
  refine aw_sub (ls' := [(0, .ref 0), (1, .int v1), (2, .int (1 : Int32))]) [1, 2, 0] rfl ?_
  exact c_X10_fitsCare_7 hX hQ FU v1 (1 : Int32) S2 h

def f_X10_isNurse (v1 : Int32) (S : Mem) : Option (Int32 × Mem) :=
  if v1 < 0 then
  (some ((0 : Int32), S))
  else
  ((rd S 2 14 (0 : Int32)).bind fun x10 =>
  if x10 ≤ v1 then
  (some ((0 : Int32), S))
  else
  (some ((1 : Int32), S)))

set_option maxHeartbeats 4000000 in
set_option maxRecDepth 100000 in
theorem c_X10_isNurse {v1 : Int32} {S : Mem} {r : Int32} {Sf : Mem} (h : f_X10_isNurse v1 S = some (r, Sf)) : MetI yX10_isNurse cX10_isNurse 2 (some .boolean) 0 [.ref 0, .int v1] SKM S r Sf := by
  refine MetI.intro (by decide +kernel) (Nat.le_of_ble_eq_true rfl) (fun X loc hX hQ => ?_)
  unfold f_X10_isNurse at h
  show AW X SKM loc 0 0 0 [(0, .ref 0), (1, .int v1)] [] S
  refine aw_iload_n (pc := 0) hX dX10_isNurse_0 rfl 1 rfl ?_
  refine aw_if_lt (pc := 1) hX (tgt := 18) dX10_isNurse_1 (by decide) (fun c1 => ?_) (fun c1 => ?_)
  · rw [if_pos c1] at h
    refine aw_iconst (v := (0 : Int32)) (pc := 18) hX dX10_isNurse_18 (by decide) ?_
    cases h
    exact aw_zret hX hQ (by decide) dX10_isNurse_19
  · rw [if_neg c1] at h
    refine aw_iload_n (pc := 4) hX dX10_isNurse_4 rfl 1 rfl ?_
    refine aw_aload_n (pc := 5) hX dX10_isNurse_5 rfl 0 rfl ?_
    refine gf_X10_13 (pc := 6) hX km0 rfl dX10_isNurse_6 ?_
    refine aw_iconst (v := (0 : Int32)) (pc := 9) hX dX10_isNurse_9 (by decide) ?_
    obtain ⟨x10, hx10, h⟩ := ob h
    refine aw_iald (pc := 10) hX km2 hx10 dX10_isNurse_10 ?_
    refine aw_icmp_ge (pc := 11) hX (tgt := 18) dX10_isNurse_11 (by decide) (fun c11 => ?_) (fun c11 => ?_)
    · rw [if_pos c11] at h
      refine aw_iconst (v := (0 : Int32)) (pc := 18) hX dX10_isNurse_18 (by decide) ?_
      cases h
      exact aw_zret hX hQ (by decide) dX10_isNurse_19
    · rw [if_neg c11] at h
      refine aw_iconst (v := (1 : Int32)) (pc := 14) hX dX10_isNurse_14 (by decide) ?_
      refine aw_goto (tgt := 19) (pc := 15) hX dX10_isNurse_15 (by decide) ?_
      cases h
      exact aw_zret hX hQ (by decide) dX10_isNurse_19

