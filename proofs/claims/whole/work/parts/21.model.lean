def f_X10_cares_144 : Nat → Int32 → Int32 → Int32 → Mem → Option (Int32 × Mem)
  | 0, _, _, _, _ => none
  | n + 1, v2, v3, v4, S =>
  if (9 : Int32) < v4 then
  (nxt (sI S 0 44 (-1 : Int32)) fun S184 =>
  some (v3, S184))
  else
  (nxt (sI S 0 45 v4) fun S154 =>
  bnd (f_X10_fitsCare v2 S154) fun r160 S160 =>
  if r160 = 0 then
  (f_X10_cares_144 n v2 (v3 ||| (0 : Int32)) (v4 + 1) S160)
  else
  (f_X10_cares_144 n v2 (v3 ||| ((1 : Int32) <<< (v4 &&& 31))) (v4 + 1) S160))

def f_X10_cares_90 : Nat → Int32 → Int32 → Int32 → Mem → Option (Int32 × Mem)
  | 0, _, _, _, _ => none
  | n + 1, v1, v2, v3, S =>
  bnd (f_X10_knownMany S) fun r92 S92 =>
  if r92 ≤ v3 then
  (nxt (sI S92 0 44 v1) fun S138 =>
  f_X10_cares_144 FU v2 (0 : Int32) (0 : Int32) S138)
  else
  ((rd S92 33 24 v3).bind fun x103 =>
  if x103 = 0 then
  ((rd S92 32 24 v3).bind fun x112 =>
  if x112 = (-1 : Int32) then
  ((rd S92 28 24 v3).bind fun x123 =>
  bnd (f_J9_max_7cf53 v2 x123 S92) fun r124 S124 =>
  f_X10_cares_90 n v1 r124 (v3 + 1) S124)
  else
  (f_X10_cares_90 n v1 v2 (v3 + 1) S92))
  else
  (f_X10_cares_90 n v1 v2 (v3 + 1) S92))

def f_X10_cares_47 : Nat → Int32 → Int32 → Int32 → Mem → Option (Int32 × Mem)
  | 0, _, _, _, _ => none
  | n + 1, v1, v2, v3, S =>
  if v3 < 0 then
  (f_X10_cares_90 FU v1 v2 (0 : Int32) S)
  else
  ((rd S 33 24 v3).bind fun x56 =>
  if x56 = 0 then
  ((rd S 32 24 v3).bind fun x65 =>
  if x65 = (-1 : Int32) then
  (f_X10_cares_47 n v1 v2 (v3 + (-1)) S)
  else
  ((rd S 32 24 v3).bind fun x79 =>
  (wrZ S 33 24 x79 (1 : Int32)).bind fun S81 =>
  f_X10_cares_47 n v1 v2 (v3 + (-1)) S81))
  else
  (f_X10_cares_47 n v1 v2 (v3 + (-1)) S))

def f_X10_cares_19 : Nat → Int32 → Int32 → Int32 → Mem → Option (Int32 × Mem)
  | 0, _, _, _, _ => none
  | n + 1, v1, v2, v3, S =>
  bnd (f_X10_knownMany S) fun r21 S21 =>
  if r21 ≤ v3 then
  (bnd (f_X10_knownMany S21) fun r41 S41 =>
  f_X10_cares_47 FU v1 v2 (r41 - (1 : Int32)) S41)
  else
  ((wrZ S21 33 24 v3 (0 : Int32)).bind fun S33 =>
  f_X10_cares_19 n v1 v2 (v3 + 1) S33)

def f_X10_cares (v1 : Int32) (S : Mem) : Option (Int32 × Mem) :=
  nxt (sI S 0 0 (0 : Int32)) fun S2 =>
  bnd (f_X10_isNurse v1 S2) fun r7 S7 =>
  if r7 = 0 then
  (some ((-1 : Int32), S7))
  else
  (f_X10_cares_19 FU v1 (0 : Int32) (0 : Int32) S7)

set_option maxHeartbeats 4000000 in
set_option maxRecDepth 100000 in
theorem c_X10_cares_144 {X : XT} {loc : Nat → Nat} {r : Int32} {Sf : Mem} (hX : AC X loc RX10 cX10_cares (some .int) 5 8 0 0) (hQ : RetI X SKM loc 0 0 r Sf) : ∀ (n : Nat) (v2 : Int32) (v3 : Int32) (v4 : Int32) (S : Mem), f_X10_cares_144 n v2 v3 v4 S = some (r, Sf) → AW X SKM loc 0 0 144 [(0, .ref 0), (2, .int v2), (3, .int v3), (4, .int v4)] [] S := by
  intro n
  induction n with
  | zero => intro v2 v3 v4 S h; cases h
  | succ n ih =>
    intro v2 v3 v4 S h
    unfold f_X10_cares_144 at h
    refine aw_iload (pc := 144) hX dX10_cares_144 3 rfl ?_
    refine aw_bipush (v := (9 : Int32)) (pc := 146) hX dX10_cares_146 (by decide) ?_
    refine aw_icmp_gt (pc := 148) hX (tgt := 182) dX10_cares_148 (by decide) (fun c148 => ?_) (fun c148 => ?_)
    · rw [if_pos c148] at h
      refine aw_aload_n (pc := 182) hX dX10_cares_182 rfl 0 rfl ?_
      refine aw_iconst (v := (-1 : Int32)) (pc := 183) hX dX10_cares_183 (by decide) ?_
      refine pf_X10_87 (pc := 184) hX km0 rfl dX10_cares_184 ?_
      obtain ⟨S184, eS184, h⟩ := on h
      refine aw_S eS184 ?_
      refine aw_iload_n (pc := 187) hX dX10_cares_187 rfl 2 rfl ?_
      cases h
      exact aw_iret hX hQ dX10_cares_188
    · rw [if_neg c148] at h
      refine aw_aload_n (pc := 151) hX dX10_cares_151 rfl 0 rfl ?_
      refine aw_iload (pc := 152) hX dX10_cares_152 3 rfl ?_
      refine pf_X10_320 (pc := 154) hX km0 rfl dX10_cares_154 ?_
      obtain ⟨S154, eS154, h⟩ := on h
      refine aw_S eS154 ?_
      refine aw_iload_n (pc := 157) hX dX10_cares_157 rfl 2 rfl ?_
      refine aw_aload_n (pc := 158) hX dX10_cares_158 rfl 0 rfl ?_
      refine aw_iload_n (pc := 159) hX dX10_cares_159 rfl 1 rfl ?_
      obtain ⟨r160, S160, hr160, h⟩ := ob2 h
      refine aw_cVI (pc := 160) (As := [.int v2]) (rest := [.int v3]) hX (c_X10_fitsCare hr160) ok_X10_fitsCare kw_8_42 im_X10_fitsCare se_X10_fitsCare rfl km0 rfl (by decide) (Nat.le_of_ble_eq_true rfl) rfl dX10_cares_160 (Nat.le_refl 0) (Nat.le_refl 0) ?_
      refine aw_if_eq (pc := 163) hX (tgt := 173) dX10_cares_163 (by decide) (fun c163 => ?_) (fun c163 => ?_)
      · rw [if_pos c163] at h
        refine aw_iconst (v := (0 : Int32)) (pc := 173) hX dX10_cares_173 (by decide) ?_
        refine aw_ior (pc := 174) hX dX10_cares_174 ?_
        refine aw_istore_n (ls' := [(3, .int (v3 ||| (0 : Int32))), (0, .ref 0), (2, .int v2), (4, .int v4)]) (pc := 175) hX dX10_cares_175 rfl (by decide) rfl ?_
        refine aw_iinc (v := (v4 + 1)) (ls' := [(4, .int (v4 + 1)), (3, .int (v3 ||| (0 : Int32))), (0, .ref 0), (2, .int v2)]) (pc := 176) hX dX10_cares_176 (pos := 3) rfl (by first | rfl | decide) (by decide) rfl ?_
        refine aw_goto (tgt := 144) (pc := 179) hX dX10_cares_179 (by decide) ?_
        refine aw_sub (ls' := [(0, .ref 0), (2, .int v2), (3, .int (v3 ||| (0 : Int32))), (4, .int (v4 + 1))]) [2, 3, 1, 0] rfl ?_
        exact ih v2 (v3 ||| (0 : Int32)) (v4 + 1) S160 h
      · rw [if_neg c163] at h
        refine aw_iconst (v := (1 : Int32)) (pc := 166) hX dX10_cares_166 (by decide) ?_
        refine aw_iload (pc := 167) hX dX10_cares_167 3 rfl ?_
        refine aw_ishl (pc := 169) hX dX10_cares_169 ?_
        refine aw_goto (tgt := 174) (pc := 170) hX dX10_cares_170 (by decide) ?_
        refine aw_ior (pc := 174) hX dX10_cares_174 ?_
        refine aw_istore_n (ls' := [(3, .int (v3 ||| ((1 : Int32) <<< (v4 &&& 31)))), (0, .ref 0), (2, .int v2), (4, .int v4)]) (pc := 175) hX dX10_cares_175 rfl (by decide) rfl ?_
        refine aw_iinc (v := (v4 + 1)) (ls' := [(4, .int (v4 + 1)), (3, .int (v3 ||| ((1 : Int32) <<< (v4 &&& 31)))), (0, .ref 0), (2, .int v2)]) (pc := 176) hX dX10_cares_176 (pos := 3) rfl (by first | rfl | decide) (by decide) rfl ?_
        refine aw_goto (tgt := 144) (pc := 179) hX dX10_cares_179 (by decide) ?_
        refine aw_sub (ls' := [(0, .ref 0), (2, .int v2), (3, .int (v3 ||| ((1 : Int32) <<< (v4 &&& 31)))), (4, .int (v4 + 1))]) [2, 3, 1, 0] rfl ?_
        exact ih v2 (v3 ||| ((1 : Int32) <<< (v4 &&& 31))) (v4 + 1) S160 h

set_option maxHeartbeats 4000000 in
set_option maxRecDepth 100000 in
theorem c_X10_cares_90 {X : XT} {loc : Nat → Nat} {r : Int32} {Sf : Mem} (hX : AC X loc RX10 cX10_cares (some .int) 5 8 0 0) (hQ : RetI X SKM loc 0 0 r Sf) : ∀ (n : Nat) (v1 : Int32) (v2 : Int32) (v3 : Int32) (S : Mem), f_X10_cares_90 n v1 v2 v3 S = some (r, Sf) → AW X SKM loc 0 0 90 [(0, .ref 0), (1, .int v1), (2, .int v2), (3, .int v3)] [] S := by
  intro n
  induction n with
  | zero => intro v1 v2 v3 S h; cases h
  | succ n ih =>
    intro v1 v2 v3 S h
    unfold f_X10_cares_90 at h
    refine aw_iload_n (pc := 90) hX dX10_cares_90 rfl 3 rfl ?_
    refine aw_aload_n (pc := 91) hX dX10_cares_91 rfl 0 rfl ?_
    obtain ⟨r92, S92, hr92, h⟩ := ob2 h
    refine aw_cVI (pc := 92) (As := []) (rest := [.int v3]) hX (c_X10_knownMany hr92) ok_X10_knownMany kw_8_38 im_X10_knownMany se_X10_knownMany rfl km0 rfl (by decide) (Nat.le_of_ble_eq_true rfl) rfl dX10_cares_92 (Nat.le_refl 0) (Nat.le_refl 0) ?_
    refine aw_icmp_ge (pc := 95) hX (tgt := 134) dX10_cares_95 (by decide) (fun c95 => ?_) (fun c95 => ?_)
    · rw [if_pos c95] at h
      refine aw_iconst (v := (0 : Int32)) (pc := 134) hX dX10_cares_134 (by decide) ?_
      refine aw_istore_n (ls' := [(3, .int (0 : Int32)), (0, .ref 0), (1, .int v1), (2, .int v2)]) (pc := 135) hX dX10_cares_135 rfl (by decide) rfl ?_
      refine aw_aload_n (pc := 136) hX dX10_cares_136 rfl 1 rfl ?_
      refine aw_iload_n (pc := 137) hX dX10_cares_137 rfl 2 rfl ?_
      refine pf_X10_87 (pc := 138) hX km0 rfl dX10_cares_138 ?_
      obtain ⟨S138, eS138, h⟩ := on h
      refine aw_S eS138 ?_
      refine aw_iconst (v := (0 : Int32)) (pc := 141) hX dX10_cares_141 (by decide) ?_
      refine aw_istore (ls' := [(4, .int (0 : Int32)), (3, .int (0 : Int32)), (0, .ref 0), (1, .int v1), (2, .int v2)]) (pc := 142) hX dX10_cares_142 (by decide) rfl ?_
      refine aw_sub (ls' := [(0, .ref 0), (2, .int v2), (3, .int (0 : Int32)), (4, .int (0 : Int32))]) [2, 4, 1, 0] rfl ?_
      exact c_X10_cares_144 hX hQ FU v2 (0 : Int32) (0 : Int32) S138 h
    · rw [if_neg c95] at h
      refine aw_aload_n (pc := 98) hX dX10_cares_98 rfl 0 rfl ?_
      refine gf_X10_118 (pc := 99) hX km0 rfl dX10_cares_99 ?_
      refine aw_iload_n (pc := 102) hX dX10_cares_102 rfl 3 rfl ?_
      obtain ⟨x103, hx103, h⟩ := ob h
      refine aw_zald (pc := 103) hX km33 hx103 dX10_cares_103 ?_
      refine aw_if_ne (pc := 104) hX (tgt := 128) dX10_cares_104 (by decide) (fun c104 => ?_) (fun c104 => ?_)
      · rw [if_neg c104] at h
        refine aw_iinc (v := (v3 + 1)) (ls' := [(3, .int (v3 + 1)), (0, .ref 0), (1, .int v1), (2, .int v2)]) (pc := 128) hX dX10_cares_128 (pos := 3) rfl (by first | rfl | decide) (by decide) rfl ?_
        refine aw_goto (tgt := 90) (pc := 131) hX dX10_cares_131 (by decide) ?_
        refine aw_sub (ls' := [(0, .ref 0), (1, .int v1), (2, .int v2), (3, .int (v3 + 1))]) [1, 2, 3, 0] rfl ?_
        exact ih v1 v2 (v3 + 1) S92 h
      · rw [if_pos c104] at h
        refine aw_aload_n (pc := 107) hX dX10_cares_107 rfl 0 rfl ?_
        refine gf_X10_115 (pc := 108) hX km0 rfl dX10_cares_108 ?_
        refine aw_iload_n (pc := 111) hX dX10_cares_111 rfl 3 rfl ?_
        obtain ⟨x112, hx112, h⟩ := ob h
        refine aw_iald (pc := 112) hX km32 hx112 dX10_cares_112 ?_
        refine aw_iconst (v := (-1 : Int32)) (pc := 113) hX dX10_cares_113 (by decide) ?_
        refine aw_icmp_ne (pc := 114) hX (tgt := 128) dX10_cares_114 (by decide) (fun c114 => ?_) (fun c114 => ?_)
        · rw [if_neg c114] at h
          refine aw_iinc (v := (v3 + 1)) (ls' := [(3, .int (v3 + 1)), (0, .ref 0), (1, .int v1), (2, .int v2)]) (pc := 128) hX dX10_cares_128 (pos := 3) rfl (by first | rfl | decide) (by decide) rfl ?_
          refine aw_goto (tgt := 90) (pc := 131) hX dX10_cares_131 (by decide) ?_
          refine aw_sub (ls' := [(0, .ref 0), (1, .int v1), (2, .int v2), (3, .int (v3 + 1))]) [1, 2, 3, 0] rfl ?_
          exact ih v1 v2 (v3 + 1) S92 h
        · rw [if_pos c114] at h
          refine aw_iload_n (pc := 117) hX dX10_cares_117 rfl 2 rfl ?_
          refine aw_aload_n (pc := 118) hX dX10_cares_118 rfl 0 rfl ?_
          refine gf_X10_102 (pc := 119) hX km0 rfl dX10_cares_119 ?_
          refine aw_iload_n (pc := 122) hX dX10_cares_122 rfl 3 rfl ?_
          obtain ⟨x123, hx123, h⟩ := ob h
          refine aw_iald (pc := 123) hX km28 hx123 dX10_cares_123 ?_
          obtain ⟨r124, S124, hr124, h⟩ := ob2 h
          refine aw_cSI (pc := 124) (As := [.int v2, .int x123]) (rest := []) hX (c_J9_max_7cf53 (sk := SKM) hr124) ok_J9_max_7cf53 kw_7_66 st_J9_max_7cf53 rfl (by decide) (Nat.le_of_ble_eq_true rfl) rfl dX10_cares_124 (Nat.le_refl 0) (Nat.le_refl 0) ?_
          refine aw_istore_n (ls' := [(2, .int r124), (0, .ref 0), (1, .int v1), (3, .int v3)]) (pc := 127) hX dX10_cares_127 rfl (by decide) rfl ?_
          refine aw_iinc (v := (v3 + 1)) (ls' := [(3, .int (v3 + 1)), (2, .int r124), (0, .ref 0), (1, .int v1)]) (pc := 128) hX dX10_cares_128 (pos := 3) rfl (by first | rfl | decide) (by decide) rfl ?_
          refine aw_goto (tgt := 90) (pc := 131) hX dX10_cares_131 (by decide) ?_
          refine aw_sub (ls' := [(0, .ref 0), (1, .int v1), (2, .int r124), (3, .int (v3 + 1))]) [2, 3, 1, 0] rfl ?_
          exact ih v1 r124 (v3 + 1) S124 h

set_option maxHeartbeats 4000000 in
set_option maxRecDepth 100000 in
theorem c_X10_cares_47 {X : XT} {loc : Nat → Nat} {r : Int32} {Sf : Mem} (hX : AC X loc RX10 cX10_cares (some .int) 5 8 0 0) (hQ : RetI X SKM loc 0 0 r Sf) : ∀ (n : Nat) (v1 : Int32) (v2 : Int32) (v3 : Int32) (S : Mem), f_X10_cares_47 n v1 v2 v3 S = some (r, Sf) → AW X SKM loc 0 0 47 [(0, .ref 0), (1, .int v1), (2, .int v2), (3, .int v3)] [] S := by
  intro n
  induction n with
  | zero => intro v1 v2 v3 S h; cases h
  | succ n ih =>
    intro v1 v2 v3 S h
    unfold f_X10_cares_47 at h
    refine aw_iload_n (pc := 47) hX dX10_cares_47 rfl 3 rfl ?_
    refine aw_if_lt (pc := 48) hX (tgt := 88) dX10_cares_48 (by decide) (fun c48 => ?_) (fun c48 => ?_)
    · rw [if_pos c48] at h
      refine aw_iconst (v := (0 : Int32)) (pc := 88) hX dX10_cares_88 (by decide) ?_
      refine aw_istore_n (ls' := [(3, .int (0 : Int32)), (0, .ref 0), (1, .int v1), (2, .int v2)]) (pc := 89) hX dX10_cares_89 rfl (by decide) rfl ?_
      refine aw_sub (ls' := [(0, .ref 0), (1, .int v1), (2, .int v2), (3, .int (0 : Int32))]) [1, 2, 3, 0] rfl ?_
      exact c_X10_cares_90 hX hQ FU v1 v2 (0 : Int32) S h
    · rw [if_neg c48] at h
      refine aw_aload_n (pc := 51) hX dX10_cares_51 rfl 0 rfl ?_
      refine gf_X10_118 (pc := 52) hX km0 rfl dX10_cares_52 ?_
      refine aw_iload_n (pc := 55) hX dX10_cares_55 rfl 3 rfl ?_
      obtain ⟨x56, hx56, h⟩ := ob h
      refine aw_zald (pc := 56) hX km33 hx56 dX10_cares_56 ?_
      refine aw_if_ne (pc := 57) hX (tgt := 82) dX10_cares_57 (by decide) (fun c57 => ?_) (fun c57 => ?_)
      · rw [if_neg c57] at h
        refine aw_iinc (v := (v3 + (-1))) (ls' := [(3, .int (v3 + (-1))), (0, .ref 0), (1, .int v1), (2, .int v2)]) (pc := 82) hX dX10_cares_82 (pos := 3) rfl (by first | rfl | decide) (by decide) rfl ?_
        refine aw_goto (tgt := 47) (pc := 85) hX dX10_cares_85 (by decide) ?_
        refine aw_sub (ls' := [(0, .ref 0), (1, .int v1), (2, .int v2), (3, .int (v3 + (-1)))]) [1, 2, 3, 0] rfl ?_
        exact ih v1 v2 (v3 + (-1)) S h
      · rw [if_pos c57] at h
        refine aw_aload_n (pc := 60) hX dX10_cares_60 rfl 0 rfl ?_
        refine gf_X10_115 (pc := 61) hX km0 rfl dX10_cares_61 ?_
        refine aw_iload_n (pc := 64) hX dX10_cares_64 rfl 3 rfl ?_
        obtain ⟨x65, hx65, h⟩ := ob h
        refine aw_iald (pc := 65) hX km32 hx65 dX10_cares_65 ?_
        refine aw_iconst (v := (-1 : Int32)) (pc := 66) hX dX10_cares_66 (by decide) ?_
        refine aw_icmp_eq (pc := 67) hX (tgt := 82) dX10_cares_67 (by decide) (fun c67 => ?_) (fun c67 => ?_)
        · rw [if_pos c67] at h
          refine aw_iinc (v := (v3 + (-1))) (ls' := [(3, .int (v3 + (-1))), (0, .ref 0), (1, .int v1), (2, .int v2)]) (pc := 82) hX dX10_cares_82 (pos := 3) rfl (by first | rfl | decide) (by decide) rfl ?_
          refine aw_goto (tgt := 47) (pc := 85) hX dX10_cares_85 (by decide) ?_
          refine aw_sub (ls' := [(0, .ref 0), (1, .int v1), (2, .int v2), (3, .int (v3 + (-1)))]) [1, 2, 3, 0] rfl ?_
          exact ih v1 v2 (v3 + (-1)) S h
        · rw [if_neg c67] at h
          refine aw_aload_n (pc := 70) hX dX10_cares_70 rfl 0 rfl ?_
          refine gf_X10_118 (pc := 71) hX km0 rfl dX10_cares_71 ?_
          refine aw_aload_n (pc := 74) hX dX10_cares_74 rfl 0 rfl ?_
          refine gf_X10_115 (pc := 75) hX km0 rfl dX10_cares_75 ?_
          refine aw_iload_n (pc := 78) hX dX10_cares_78 rfl 3 rfl ?_
          obtain ⟨x79, hx79, h⟩ := ob h
          refine aw_iald (pc := 79) hX km32 hx79 dX10_cares_79 ?_
          refine aw_iconst (v := (1 : Int32)) (pc := 80) hX dX10_cares_80 (by decide) ?_
          obtain ⟨S81, hS81, h⟩ := ob h
          refine aw_zast (pc := 81) hX km33 hS81 dX10_cares_81 ?_
          refine aw_iinc (v := (v3 + (-1))) (ls' := [(3, .int (v3 + (-1))), (0, .ref 0), (1, .int v1), (2, .int v2)]) (pc := 82) hX dX10_cares_82 (pos := 3) rfl (by first | rfl | decide) (by decide) rfl ?_
          refine aw_goto (tgt := 47) (pc := 85) hX dX10_cares_85 (by decide) ?_
          refine aw_sub (ls' := [(0, .ref 0), (1, .int v1), (2, .int v2), (3, .int (v3 + (-1)))]) [1, 2, 3, 0] rfl ?_
          exact ih v1 v2 (v3 + (-1)) S81 h

set_option maxHeartbeats 4000000 in
set_option maxRecDepth 100000 in
theorem c_X10_cares_19 {X : XT} {loc : Nat → Nat} {r : Int32} {Sf : Mem} (hX : AC X loc RX10 cX10_cares (some .int) 5 8 0 0) (hQ : RetI X SKM loc 0 0 r Sf) : ∀ (n : Nat) (v1 : Int32) (v2 : Int32) (v3 : Int32) (S : Mem), f_X10_cares_19 n v1 v2 v3 S = some (r, Sf) → AW X SKM loc 0 0 19 [(0, .ref 0), (1, .int v1), (2, .int v2), (3, .int v3)] [] S := by
  intro n
  induction n with
  | zero => intro v1 v2 v3 S h; cases h
  | succ n ih =>
    intro v1 v2 v3 S h
    unfold f_X10_cares_19 at h
    refine aw_iload_n (pc := 19) hX dX10_cares_19 rfl 3 rfl ?_
    refine aw_aload_n (pc := 20) hX dX10_cares_20 rfl 0 rfl ?_
    obtain ⟨r21, S21, hr21, h⟩ := ob2 h
    refine aw_cVI (pc := 21) (As := []) (rest := [.int v3]) hX (c_X10_knownMany hr21) ok_X10_knownMany kw_8_38 im_X10_knownMany se_X10_knownMany rfl km0 rfl (by decide) (Nat.le_of_ble_eq_true rfl) rfl dX10_cares_21 (Nat.le_refl 0) (Nat.le_refl 0) ?_
    refine aw_icmp_ge (pc := 24) hX (tgt := 40) dX10_cares_24 (by decide) (fun c24 => ?_) (fun c24 => ?_)
    · rw [if_pos c24] at h
      refine aw_aload_n (pc := 40) hX dX10_cares_40 rfl 0 rfl ?_
      obtain ⟨r41, S41, hr41, h⟩ := ob2 h
      refine aw_cVI (pc := 41) (As := []) (rest := []) hX (c_X10_knownMany hr41) ok_X10_knownMany kw_8_38 im_X10_knownMany se_X10_knownMany rfl km0 rfl (by decide) (Nat.le_of_ble_eq_true rfl) rfl dX10_cares_41 (Nat.le_refl 0) (Nat.le_refl 0) ?_
      refine aw_iconst (v := (1 : Int32)) (pc := 44) hX dX10_cares_44 (by decide) ?_
      refine aw_isub (pc := 45) hX dX10_cares_45 ?_
      refine aw_istore_n (ls' := [(3, .int (r41 - (1 : Int32))), (0, .ref 0), (1, .int v1), (2, .int v2)]) (pc := 46) hX dX10_cares_46 rfl (by decide) rfl ?_
      refine aw_sub (ls' := [(0, .ref 0), (1, .int v1), (2, .int v2), (3, .int (r41 - (1 : Int32)))]) [1, 2, 3, 0] rfl ?_
      exact c_X10_cares_47 hX hQ FU v1 v2 (r41 - (1 : Int32)) S41 h
    · rw [if_neg c24] at h
      refine aw_aload_n (pc := 27) hX dX10_cares_27 rfl 0 rfl ?_
      refine gf_X10_118 (pc := 28) hX km0 rfl dX10_cares_28 ?_
      refine aw_iload_n (pc := 31) hX dX10_cares_31 rfl 3 rfl ?_
      refine aw_iconst (v := (0 : Int32)) (pc := 32) hX dX10_cares_32 (by decide) ?_
      obtain ⟨S33, hS33, h⟩ := ob h
      refine aw_zast (pc := 33) hX km33 hS33 dX10_cares_33 ?_
      refine aw_iinc (v := (v3 + 1)) (ls' := [(3, .int (v3 + 1)), (0, .ref 0), (1, .int v1), (2, .int v2)]) (pc := 34) hX dX10_cares_34 (pos := 3) rfl (by first | rfl | decide) (by decide) rfl ?_
      refine aw_goto (tgt := 19) (pc := 37) hX dX10_cares_37 (by decide) ?_
      refine aw_sub (ls' := [(0, .ref 0), (1, .int v1), (2, .int v2), (3, .int (v3 + 1))]) [1, 2, 3, 0] rfl ?_
      exact ih v1 v2 (v3 + 1) S33 h

set_option maxHeartbeats 4000000 in
set_option maxRecDepth 100000 in
theorem c_X10_cares {v1 : Int32} {S : Mem} {r : Int32} {Sf : Mem} (h : f_X10_cares v1 S = some (r, Sf)) : MetI yX10_cares cX10_cares 5 (some .int) 8 [.ref 0, .int v1] SKM S r Sf := by
  refine MetI.intro (by decide +kernel) (Nat.le_of_ble_eq_true rfl) (fun X loc hX hQ => ?_)
  unfold f_X10_cares at h
  show AW X SKM loc 0 0 0 [(0, .ref 0), (1, .int v1)] [] S
  refine aw_aload_n (pc := 0) hX dX10_cares_0 rfl 0 rfl ?_
  refine aw_iconst (v := (0 : Int32)) (pc := 1) hX dX10_cares_1 (by decide) ?_
  refine pf_X10_124 (pc := 2) hX km0 rfl dX10_cares_2 ?_
  obtain ⟨S2, eS2, h⟩ := on h
  refine aw_S eS2 ?_
  refine aw_aload_n (pc := 5) hX dX10_cares_5 rfl 0 rfl ?_
  refine aw_iload_n (pc := 6) hX dX10_cares_6 rfl 1 rfl ?_
  obtain ⟨r7, S7, hr7, h⟩ := ob2 h
  refine aw_cVI (pc := 7) (As := [.int v1]) (rest := []) hX (c_X10_isNurse hr7) ok_X10_isNurse kw_7_23 im_X10_isNurse se_X10_isNurse rfl km0 rfl (by decide) (Nat.le_of_ble_eq_true rfl) rfl dX10_cares_7 (Nat.le_refl 0) (Nat.le_refl 0) ?_
  refine aw_if_ne (pc := 10) hX (tgt := 15) dX10_cares_10 (by decide) (fun c10 => ?_) (fun c10 => ?_)
  · rw [if_neg c10] at h
    refine aw_iconst (v := (0 : Int32)) (pc := 15) hX dX10_cares_15 (by decide) ?_
    refine aw_istore_n (ls' := [(2, .int (0 : Int32)), (0, .ref 0), (1, .int v1)]) (pc := 16) hX dX10_cares_16 rfl (by decide) rfl ?_
    refine aw_iconst (v := (0 : Int32)) (pc := 17) hX dX10_cares_17 (by decide) ?_
    refine aw_istore_n (ls' := [(3, .int (0 : Int32)), (2, .int (0 : Int32)), (0, .ref 0), (1, .int v1)]) (pc := 18) hX dX10_cares_18 rfl (by decide) rfl ?_
    refine aw_sub (ls' := [(0, .ref 0), (1, .int v1), (2, .int (0 : Int32)), (3, .int (0 : Int32))]) [2, 3, 1, 0] rfl ?_
    exact c_X10_cares_19 hX hQ FU v1 (0 : Int32) (0 : Int32) S7 h
  · rw [if_pos c10] at h
    refine aw_iconst (v := (-1 : Int32)) (pc := 13) hX dX10_cares_13 (by decide) ?_
    cases h
    exact aw_iret hX hQ dX10_cares_14

def f_X10_chance_65 (R41 : Int32 → Int32 → Int32 → Int32 → Int32 → Mem → Option (Int32 × Mem)) : Nat → Int32 → Int32 → Int32 → Int32 → Int32 → Mem → Option (Int32 × Mem)
  | 0, _, _, _, _, _, _ => none
  | n + 1, v2, v3, v5, v6, v7, S =>
  if v2 ≤ v7 then
  ((rd S 17 23 (1 : Int32)).bind fun x88 =>
  bnd (f_X10_breachesBoth (1 : Int32) S) fun r95 S95 =>
  bnd (f_X10_breachesBoth (0 : Int32) S95) fun r100 S100 =>
  if (r95 - r100) < v3 then
  (R41 v2 v3 x88 (v5 + (0 : Int32)) (v6 + 1) S100)
  else
  (R41 v2 v3 x88 (v5 + (1 : Int32)) (v6 + 1) S100))
  else
  ((f_X10_passes (1 : Int32) (1 : Int32) S).bind fun S74 =>
  f_X10_chance_65 R41 n v2 v3 v5 v6 (v7 + 1) S74)

def f_X10_chance_41 : Nat → Int32 → Int32 → Int32 → Int32 → Int32 → Mem → Option (Int32 × Mem)
  | 0, _, _, _, _, _, _ => none
  | n + 1, v2, v3, v4, v5, v6, S =>
  if (10 : Int32) ≤ v6 then
  (some (v5, S))
  else
  ((f_X10_copies (1 : Int32) (0 : Int32) S).bind fun S51 =>
  (wr S51 17 23 (1 : Int32) v4).bind fun S61 =>
  f_X10_chance_65 (f_X10_chance_41 n) FU v2 v3 v5 v6 (0 : Int32) S61)

def f_X10_chance (v1 : Int32) (v2 : Int32) (v3 : Int32) (S : Mem) : Option (Int32 × Mem) :=
  nxt (sI S 0 0 (0 : Int32)) fun S2 =>
  if v1 < 0 then
  (some ((-1 : Int32), S2))
  else
  (if v2 < (1 : Int32) then
  (some ((-1 : Int32), S2))
  else
  (if (60 : Int32) < v2 then
  (some ((-1 : Int32), S2))
  else
  (if v3 < 0 then
  (some ((-1 : Int32), S2))
  else
  (if v3 ≤ (99 : Int32) then
  (f_X10_chance_41 FU v2 v3 v1 (0 : Int32) (0 : Int32) S2)
  else
  (some ((-1 : Int32), S2))))))

set_option maxHeartbeats 4000000 in
set_option maxRecDepth 100000 in
theorem c_X10_chance_65 {X : XT} {loc : Nat → Nat} {r : Int32} {Sf : Mem} (hX : AC X loc RX10 cX10_chance (some .int) 8 7 0 0) (hQ : RetI X SKM loc 0 0 r Sf) {R41 : Int32 → Int32 → Int32 → Int32 → Int32 → Mem → Option (Int32 × Mem)} (IH41 : ∀ (v2 : Int32) (v3 : Int32) (v4 : Int32) (v5 : Int32) (v6 : Int32) (S : Mem), R41 v2 v3 v4 v5 v6 S = some (r, Sf) → AW X SKM loc 0 0 41 [(0, .ref 0), (2, .int v2), (3, .int v3), (4, .int v4), (5, .int v5), (6, .int v6)] [] S) : ∀ (n : Nat) (v2 : Int32) (v3 : Int32) (v5 : Int32) (v6 : Int32) (v7 : Int32) (S : Mem), f_X10_chance_65 R41 n v2 v3 v5 v6 v7 S = some (r, Sf) → AW X SKM loc 0 0 65 [(0, .ref 0), (2, .int v2), (3, .int v3), (5, .int v5), (6, .int v6), (7, .int v7)] [] S := by
  intro n
  induction n with
  | zero => intro v2 v3 v5 v6 v7 S h; cases h
  | succ n ih =>
    intro v2 v3 v5 v6 v7 S h
    unfold f_X10_chance_65 at h
    refine aw_iload (pc := 65) hX dX10_chance_65 5 rfl ?_
    refine aw_iload_n (pc := 67) hX dX10_chance_67 rfl 1 rfl ?_
    refine aw_icmp_ge (pc := 68) hX (tgt := 83) dX10_chance_68 (by decide) (fun c68 => ?_) (fun c68 => ?_)
    · rw [if_pos c68] at h
      refine aw_aload_n (pc := 83) hX dX10_chance_83 rfl 0 rfl ?_
      refine gf_X10_63 (pc := 84) hX km0 rfl dX10_chance_84 ?_
      refine aw_iconst (v := (1 : Int32)) (pc := 87) hX dX10_chance_87 (by decide) ?_
      obtain ⟨x88, hx88, h⟩ := ob h
      refine aw_iald (pc := 88) hX km17 hx88 dX10_chance_88 ?_
      refine aw_istore (ls' := [(4, .int x88), (0, .ref 0), (2, .int v2), (3, .int v3), (5, .int v5), (6, .int v6), (7, .int v7)]) (pc := 89) hX dX10_chance_89 (by decide) rfl ?_
      refine aw_iload (pc := 91) hX dX10_chance_91 4 rfl ?_
      refine aw_aload_n (pc := 93) hX dX10_chance_93 rfl 1 rfl ?_
      refine aw_iconst (v := (1 : Int32)) (pc := 94) hX dX10_chance_94 (by decide) ?_
      obtain ⟨r95, S95, hr95, h⟩ := ob2 h
      refine aw_cVI (pc := 95) (As := [.int (1 : Int32)]) (rest := [.int v5]) hX (c_X10_breachesBoth hr95) ok_X10_breachesBoth kw_7_173 im_X10_breachesBoth se_X10_breachesBoth rfl km0 rfl (by decide) (Nat.le_of_ble_eq_true rfl) rfl dX10_chance_95 (Nat.le_refl 0) (Nat.le_refl 0) ?_
      refine aw_aload_n (pc := 98) hX dX10_chance_98 rfl 1 rfl ?_
      refine aw_iconst (v := (0 : Int32)) (pc := 99) hX dX10_chance_99 (by decide) ?_
      obtain ⟨r100, S100, hr100, h⟩ := ob2 h
      refine aw_cVI (pc := 100) (As := [.int (0 : Int32)]) (rest := [.int r95, .int v5]) hX (c_X10_breachesBoth hr100) ok_X10_breachesBoth kw_7_173 im_X10_breachesBoth se_X10_breachesBoth rfl km0 rfl (by decide) (Nat.le_of_ble_eq_true rfl) rfl dX10_chance_100 (Nat.le_refl 0) (Nat.le_refl 0) ?_
      refine aw_isub (pc := 103) hX dX10_chance_103 ?_
      refine aw_iload_n (pc := 104) hX dX10_chance_104 rfl 3 rfl ?_
      refine aw_icmp_lt (pc := 105) hX (tgt := 112) dX10_chance_105 (by decide) (fun c105 => ?_) (fun c105 => ?_)
      · rw [if_pos c105] at h
        refine aw_iconst (v := (0 : Int32)) (pc := 112) hX dX10_chance_112 (by decide) ?_
        refine aw_iadd (pc := 113) hX dX10_chance_113 ?_
        refine aw_istore (ls' := [(5, .int (v5 + (0 : Int32))), (4, .int x88), (0, .ref 0), (2, .int v2), (3, .int v3), (6, .int v6), (7, .int v7)]) (pc := 114) hX dX10_chance_114 (by decide) rfl ?_
        refine aw_iinc (v := (v6 + 1)) (ls' := [(6, .int (v6 + 1)), (5, .int (v5 + (0 : Int32))), (4, .int x88), (0, .ref 0), (2, .int v2), (3, .int v3), (7, .int v7)]) (pc := 116) hX dX10_chance_116 (pos := 5) rfl (by first | rfl | decide) (by decide) rfl ?_
        refine aw_goto (tgt := 41) (pc := 119) hX dX10_chance_119 (by decide) ?_
        refine aw_sub (ls' := [(0, .ref 0), (2, .int v2), (3, .int v3), (4, .int x88), (5, .int (v5 + (0 : Int32))), (6, .int (v6 + 1))]) [3, 4, 5, 2, 1, 0] rfl ?_
        exact IH41 v2 v3 x88 (v5 + (0 : Int32)) (v6 + 1) S100 h
      · rw [if_neg c105] at h
        refine aw_iconst (v := (1 : Int32)) (pc := 108) hX dX10_chance_108 (by decide) ?_
        refine aw_goto (tgt := 113) (pc := 109) hX dX10_chance_109 (by decide) ?_
        refine aw_iadd (pc := 113) hX dX10_chance_113 ?_
        refine aw_istore (ls' := [(5, .int (v5 + (1 : Int32))), (4, .int x88), (0, .ref 0), (2, .int v2), (3, .int v3), (6, .int v6), (7, .int v7)]) (pc := 114) hX dX10_chance_114 (by decide) rfl ?_
        refine aw_iinc (v := (v6 + 1)) (ls' := [(6, .int (v6 + 1)), (5, .int (v5 + (1 : Int32))), (4, .int x88), (0, .ref 0), (2, .int v2), (3, .int v3), (7, .int v7)]) (pc := 116) hX dX10_chance_116 (pos := 5) rfl (by first | rfl | decide) (by decide) rfl ?_
        refine aw_goto (tgt := 41) (pc := 119) hX dX10_chance_119 (by decide) ?_
        refine aw_sub (ls' := [(0, .ref 0), (2, .int v2), (3, .int v3), (4, .int x88), (5, .int (v5 + (1 : Int32))), (6, .int (v6 + 1))]) [3, 4, 5, 2, 1, 0] rfl ?_
        exact IH41 v2 v3 x88 (v5 + (1 : Int32)) (v6 + 1) S100 h
    · rw [if_neg c68] at h
      refine aw_aload_n (pc := 71) hX dX10_chance_71 rfl 0 rfl ?_
      refine aw_iconst (v := (1 : Int32)) (pc := 72) hX dX10_chance_72 (by decide) ?_
      refine aw_iconst (v := (1 : Int32)) (pc := 73) hX dX10_chance_73 (by decide) ?_
      obtain ⟨S74, hr74, h⟩ := ob h
      refine aw_cVV (pc := 74) (As := [.int (1 : Int32), .int (1 : Int32)]) (rest := []) hX (c_X10_passes hr74) ok_X10_passes kw_7_130 im_X10_passes se_X10_passes rfl km0 rfl (by decide) (Nat.le_of_ble_eq_true rfl) rfl dX10_chance_74 (Nat.le_refl 0) (Nat.le_refl 0) ?_
      refine aw_iinc (v := (v7 + 1)) (ls' := [(7, .int (v7 + 1)), (0, .ref 0), (2, .int v2), (3, .int v3), (5, .int v5), (6, .int v6)]) (pc := 77) hX dX10_chance_77 (pos := 5) rfl (by first | rfl | decide) (by decide) rfl ?_
      refine aw_goto (tgt := 65) (pc := 80) hX dX10_chance_80 (by decide) ?_
      refine aw_sub (ls' := [(0, .ref 0), (2, .int v2), (3, .int v3), (5, .int v5), (6, .int v6), (7, .int (v7 + 1))]) [1, 2, 3, 4, 5, 0] rfl ?_
      exact ih v2 v3 v5 v6 (v7 + 1) S74 h

set_option maxHeartbeats 4000000 in
set_option maxRecDepth 100000 in
theorem c_X10_chance_41 {X : XT} {loc : Nat → Nat} {r : Int32} {Sf : Mem} (hX : AC X loc RX10 cX10_chance (some .int) 8 7 0 0) (hQ : RetI X SKM loc 0 0 r Sf) : ∀ (n : Nat) (v2 : Int32) (v3 : Int32) (v4 : Int32) (v5 : Int32) (v6 : Int32) (S : Mem), f_X10_chance_41 n v2 v3 v4 v5 v6 S = some (r, Sf) → AW X SKM loc 0 0 41 [(0, .ref 0), (2, .int v2), (3, .int v3), (4, .int v4), (5, .int v5), (6, .int v6)] [] S := by
  intro n
  induction n with
  | zero => intro v2 v3 v4 v5 v6 S h; cases h
  | succ n ih =>
    intro v2 v3 v4 v5 v6 S h
    unfold f_X10_chance_41 at h
    refine aw_iload (pc := 41) hX dX10_chance_41 5 rfl ?_
    refine aw_bipush (v := (10 : Int32)) (pc := 43) hX dX10_chance_43 (by decide) ?_
    refine aw_icmp_ge (pc := 45) hX (tgt := 122) dX10_chance_45 (by decide) (fun c45 => ?_) (fun c45 => ?_)
    · rw [if_pos c45] at h
      refine aw_iload (pc := 122) hX dX10_chance_122 4 rfl ?_
      cases h
      exact aw_iret hX hQ dX10_chance_124
    · rw [if_neg c45] at h
      refine aw_aload_n (pc := 48) hX dX10_chance_48 rfl 0 rfl ?_
      refine aw_iconst (v := (1 : Int32)) (pc := 49) hX dX10_chance_49 (by decide) ?_
      refine aw_iconst (v := (0 : Int32)) (pc := 50) hX dX10_chance_50 (by decide) ?_
      obtain ⟨S51, hr51, h⟩ := ob h
      refine aw_cVV (pc := 51) (As := [.int (1 : Int32), .int (0 : Int32)]) (rest := []) hX (c_X10_copies hr51) ok_X10_copies kw_7_110 im_X10_copies se_X10_copies rfl km0 rfl (by decide) (Nat.le_of_ble_eq_true rfl) rfl dX10_chance_51 (Nat.le_refl 0) (Nat.le_refl 0) ?_
      refine aw_aload_n (pc := 54) hX dX10_chance_54 rfl 0 rfl ?_
      refine gf_X10_63 (pc := 55) hX km0 rfl dX10_chance_55 ?_
      refine aw_iconst (v := (1 : Int32)) (pc := 58) hX dX10_chance_58 (by decide) ?_
      refine aw_iload (pc := 59) hX dX10_chance_59 3 rfl ?_
      obtain ⟨S61, hS61, h⟩ := ob h
      refine aw_iast (pc := 61) hX km17 hS61 dX10_chance_61 ?_
      refine aw_iconst (v := (0 : Int32)) (pc := 62) hX dX10_chance_62 (by decide) ?_
      refine aw_istore (ls' := [(7, .int (0 : Int32)), (0, .ref 0), (2, .int v2), (3, .int v3), (4, .int v4), (5, .int v5), (6, .int v6)]) (pc := 63) hX dX10_chance_63 (by decide) rfl ?_
      refine aw_sub (ls' := [(0, .ref 0), (2, .int v2), (3, .int v3), (5, .int v5), (6, .int v6), (7, .int (0 : Int32))]) [1, 2, 3, 5, 6, 0] rfl ?_
      exact c_X10_chance_65 hX hQ ih FU v2 v3 v5 v6 (0 : Int32) S61 h

set_option maxHeartbeats 4000000 in
set_option maxRecDepth 100000 in
theorem c_X10_chance {v1 : Int32} {v2 : Int32} {v3 : Int32} {S : Mem} {r : Int32} {Sf : Mem} (h : f_X10_chance v1 v2 v3 S = some (r, Sf)) : MetI yX10_chance cX10_chance 8 (some .int) 7 [.ref 0, .int v1, .int v2, .int v3] SKM S r Sf := by
  refine MetI.intro (by decide +kernel) (Nat.le_of_ble_eq_true rfl) (fun X loc hX hQ => ?_)
  unfold f_X10_chance at h
  show AW X SKM loc 0 0 0 [(0, .ref 0), (1, .int v1), (2, .int v2), (3, .int v3)] [] S
  refine aw_aload_n (pc := 0) hX dX10_chance_0 rfl 0 rfl ?_
  refine aw_iconst (v := (0 : Int32)) (pc := 1) hX dX10_chance_1 (by decide) ?_
  refine pf_X10_124 (pc := 2) hX km0 rfl dX10_chance_2 ?_
  obtain ⟨S2, eS2, h⟩ := on h
  refine aw_S eS2 ?_
  refine aw_iload_n (pc := 5) hX dX10_chance_5 rfl 1 rfl ?_
  refine aw_if_lt (pc := 6) hX (tgt := 30) dX10_chance_6 (by decide) (fun c6 => ?_) (fun c6 => ?_)
  · rw [if_pos c6] at h
    refine aw_iconst (v := (-1 : Int32)) (pc := 30) hX dX10_chance_30 (by decide) ?_
    cases h
    exact aw_iret hX hQ dX10_chance_31
  · rw [if_neg c6] at h
    refine aw_iload_n (pc := 9) hX dX10_chance_9 rfl 2 rfl ?_
    refine aw_iconst (v := (1 : Int32)) (pc := 10) hX dX10_chance_10 (by decide) ?_
    refine aw_icmp_lt (pc := 11) hX (tgt := 30) dX10_chance_11 (by decide) (fun c11 => ?_) (fun c11 => ?_)
    · rw [if_pos c11] at h
      refine aw_iconst (v := (-1 : Int32)) (pc := 30) hX dX10_chance_30 (by decide) ?_
      cases h
      exact aw_iret hX hQ dX10_chance_31
    · rw [if_neg c11] at h
      refine aw_iload_n (pc := 14) hX dX10_chance_14 rfl 2 rfl ?_
      refine aw_bipush (v := (60 : Int32)) (pc := 15) hX dX10_chance_15 (by decide) ?_
      refine aw_icmp_gt (pc := 17) hX (tgt := 30) dX10_chance_17 (by decide) (fun c17 => ?_) (fun c17 => ?_)
      · rw [if_pos c17] at h
        refine aw_iconst (v := (-1 : Int32)) (pc := 30) hX dX10_chance_30 (by decide) ?_
        cases h
        exact aw_iret hX hQ dX10_chance_31
      · rw [if_neg c17] at h
        refine aw_iload_n (pc := 20) hX dX10_chance_20 rfl 3 rfl ?_
        refine aw_if_lt (pc := 21) hX (tgt := 30) dX10_chance_21 (by decide) (fun c21 => ?_) (fun c21 => ?_)
        · rw [if_pos c21] at h
          refine aw_iconst (v := (-1 : Int32)) (pc := 30) hX dX10_chance_30 (by decide) ?_
          cases h
          exact aw_iret hX hQ dX10_chance_31
        · rw [if_neg c21] at h
          refine aw_iload_n (pc := 24) hX dX10_chance_24 rfl 3 rfl ?_
          refine aw_bipush (v := (99 : Int32)) (pc := 25) hX dX10_chance_25 (by decide) ?_
          refine aw_icmp_le (pc := 27) hX (tgt := 32) dX10_chance_27 (by decide) (fun c27 => ?_) (fun c27 => ?_)
          · rw [if_pos c27] at h
            refine aw_iload_n (pc := 32) hX dX10_chance_32 rfl 1 rfl ?_
            refine aw_istore (ls' := [(4, .int v1), (0, .ref 0), (1, .int v1), (2, .int v2), (3, .int v3)]) (pc := 33) hX dX10_chance_33 (by decide) rfl ?_
            refine aw_iconst (v := (0 : Int32)) (pc := 35) hX dX10_chance_35 (by decide) ?_
            refine aw_istore (ls' := [(5, .int (0 : Int32)), (4, .int v1), (0, .ref 0), (1, .int v1), (2, .int v2), (3, .int v3)]) (pc := 36) hX dX10_chance_36 (by decide) rfl ?_
            refine aw_iconst (v := (0 : Int32)) (pc := 38) hX dX10_chance_38 (by decide) ?_
            refine aw_istore (ls' := [(6, .int (0 : Int32)), (5, .int (0 : Int32)), (4, .int v1), (0, .ref 0), (1, .int v1), (2, .int v2), (3, .int v3)]) (pc := 39) hX dX10_chance_39 (by decide) rfl ?_
            refine aw_sub (ls' := [(0, .ref 0), (2, .int v2), (3, .int v3), (4, .int v1), (5, .int (0 : Int32)), (6, .int (0 : Int32))]) [3, 5, 6, 2, 1, 0] rfl ?_
            exact c_X10_chance_41 hX hQ FU v2 v3 v1 (0 : Int32) (0 : Int32) S2 h
          · rw [if_neg c27] at h
            refine aw_iconst (v := (-1 : Int32)) (pc := 30) hX dX10_chance_30 (by decide) ?_
            cases h
            exact aw_iret hX hQ dX10_chance_31

def f_X10_city (v1 : Int32) (v2 : Int32) (S : Mem) : Option (Int32 × Mem) :=
  nxt (sI S 0 0 (0 : Int32)) fun S2 =>
  bnd (f_X10_isCity v1 S2) fun r6 S6 =>
  if r6 = 0 then
  (some ((-1 : Int32), S6))
  else
  (if v2 = 0 then
  ((rd S6 19 46 v1).bind fun x53 =>
  some (x53, S6))
  else
  (if v2 = 1 then
  ((rd S6 20 46 v1).bind fun x60 =>
  some (x60, S6))
  else
  (if v2 = 2 then
  (bnd (f_X10_heldBy v1 S6) fun r64 S64 =>
  some (r64, S64))
  else
  (if v2 = 3 then
  (bnd (f_X10_heldBy ((1 : Int32) - v1) S6) fun r72 S72 =>
  some (r72, S72))
  else
  (if v2 = 4 then
  (bnd (f_X10_heldBy ((1 : Int32) - v1) S6) fun r85 S85 =>
  bnd (f_X10_sumOf 8 20 r85 S85) fun r88 S88 =>
  some (r88, S88))
  else
  (some ((-1 : Int32), S6)))))))

set_option maxHeartbeats 4000000 in
set_option maxRecDepth 100000 in
theorem c_X10_city {v1 : Int32} {v2 : Int32} {S : Mem} {r : Int32} {Sf : Mem} (h : f_X10_city v1 v2 S = some (r, Sf)) : MetI yX10_city cX10_city 3 (some .int) 3 [.ref 0, .int v1, .int v2] SKM S r Sf := by
  refine MetI.intro (by decide +kernel) (Nat.le_of_ble_eq_true rfl) (fun X loc hX hQ => ?_)
  unfold f_X10_city at h
  show AW X SKM loc 0 0 0 [(0, .ref 0), (1, .int v1), (2, .int v2)] [] S
  refine aw_aload_n (pc := 0) hX dX10_city_0 rfl 0 rfl ?_
  refine aw_iconst (v := (0 : Int32)) (pc := 1) hX dX10_city_1 (by decide) ?_
  refine pf_X10_124 (pc := 2) hX km0 rfl dX10_city_2 ?_
  obtain ⟨S2, eS2, h⟩ := on h
  refine aw_S eS2 ?_
  refine aw_iload_n (pc := 5) hX dX10_city_5 rfl 1 rfl ?_
  obtain ⟨r6, S6, hr6, h⟩ := ob2 h
  refine aw_cSI (pc := 6) (As := [.int v1]) (rest := []) hX (c_X10_isCity (sk := SKM) hr6) ok_X10_isCity kw_7_35 st_X10_isCity rfl (by decide) (Nat.le_of_ble_eq_true rfl) rfl dX10_city_6 (Nat.le_refl 0) (Nat.le_refl 0) ?_
  refine aw_if_ne (pc := 9) hX (tgt := 14) dX10_city_9 (by decide) (fun c9 => ?_) (fun c9 => ?_)
  · rw [if_neg c9] at h
    refine aw_iload_n (pc := 14) hX dX10_city_14 rfl 2 rfl ?_
    by_cases c15_0 : v2 = 0
    · rw [if_pos c15_0] at h
      refine aw_tin (pc := 15) hX (v := 0) (off := 33) (tgt := 48) dX10_city_15 c15_0 (by decide) (by decide) (by decide) (by decide) ?_
      refine aw_aload_n (pc := 48) hX dX10_city_48 rfl 0 rfl ?_
      refine gf_X10_69 (pc := 49) hX km0 rfl dX10_city_49 ?_
      refine aw_iload_n (pc := 52) hX dX10_city_52 rfl 1 rfl ?_
      obtain ⟨x53, hx53, h⟩ := ob h
      refine aw_iald (pc := 53) hX km19 hx53 dX10_city_53 ?_
      cases h
      exact aw_iret hX hQ dX10_city_54
    · rw [if_neg c15_0] at h
      by_cases c15_1 : v2 = 1
      · rw [if_pos c15_1] at h
        refine aw_tin (pc := 15) hX (v := 1) (off := 40) (tgt := 55) dX10_city_15 c15_1 (by decide) (by decide) (by decide) (by decide) ?_
        refine aw_aload_n (pc := 55) hX dX10_city_55 rfl 0 rfl ?_
        refine gf_X10_72 (pc := 56) hX km0 rfl dX10_city_56 ?_
        refine aw_iload_n (pc := 59) hX dX10_city_59 rfl 1 rfl ?_
        obtain ⟨x60, hx60, h⟩ := ob h
        refine aw_iald (pc := 60) hX km20 hx60 dX10_city_60 ?_
        cases h
        exact aw_iret hX hQ dX10_city_61
      · rw [if_neg c15_1] at h
        by_cases c15_2 : v2 = 2
        · rw [if_pos c15_2] at h
          refine aw_tin (pc := 15) hX (v := 2) (off := 47) (tgt := 62) dX10_city_15 c15_2 (by decide) (by decide) (by decide) (by decide) ?_
          refine aw_aload_n (pc := 62) hX dX10_city_62 rfl 0 rfl ?_
          refine aw_iload_n (pc := 63) hX dX10_city_63 rfl 1 rfl ?_
          obtain ⟨r64, S64, hr64, h⟩ := ob2 h
          refine aw_cVI (pc := 64) (As := [.int v1]) (rest := []) hX (c_X10_heldBy hr64) ok_X10_heldBy kw_7_38 im_X10_heldBy se_X10_heldBy rfl km0 rfl (by decide) (Nat.le_of_ble_eq_true rfl) rfl dX10_city_64 (Nat.le_refl 0) (Nat.le_refl 0) ?_
          cases h
          exact aw_iret hX hQ dX10_city_67
        · rw [if_neg c15_2] at h
          by_cases c15_3 : v2 = 3
          · rw [if_pos c15_3] at h
            refine aw_tin (pc := 15) hX (v := 3) (off := 53) (tgt := 68) dX10_city_15 c15_3 (by decide) (by decide) (by decide) (by decide) ?_
            refine aw_aload_n (pc := 68) hX dX10_city_68 rfl 0 rfl ?_
            refine aw_iconst (v := (1 : Int32)) (pc := 69) hX dX10_city_69 (by decide) ?_
            refine aw_iload_n (pc := 70) hX dX10_city_70 rfl 1 rfl ?_
            refine aw_isub (pc := 71) hX dX10_city_71 ?_
            obtain ⟨r72, S72, hr72, h⟩ := ob2 h
            refine aw_cVI (pc := 72) (As := [.int ((1 : Int32) - v1)]) (rest := []) hX (c_X10_heldBy hr72) ok_X10_heldBy kw_7_38 im_X10_heldBy se_X10_heldBy rfl km0 rfl (by decide) (Nat.le_of_ble_eq_true rfl) rfl dX10_city_72 (Nat.le_refl 0) (Nat.le_refl 0) ?_
            cases h
            exact aw_iret hX hQ dX10_city_75
          · rw [if_neg c15_3] at h
            by_cases c15_4 : v2 = 4
            · rw [if_pos c15_4] at h
              refine aw_tin (pc := 15) hX (v := 4) (off := 61) (tgt := 76) dX10_city_15 c15_4 (by decide) (by decide) (by decide) (by decide) ?_
              refine aw_aload_n (pc := 76) hX dX10_city_76 rfl 0 rfl ?_
              refine aw_aload_n (pc := 77) hX dX10_city_77 rfl 0 rfl ?_
              refine gf_X10_31 (pc := 78) hX km0 rfl dX10_city_78 ?_
              refine aw_aload_n (pc := 81) hX dX10_city_81 rfl 0 rfl ?_
              refine aw_iconst (v := (1 : Int32)) (pc := 82) hX dX10_city_82 (by decide) ?_
              refine aw_iload_n (pc := 83) hX dX10_city_83 rfl 1 rfl ?_
              refine aw_isub (pc := 84) hX dX10_city_84 ?_
              obtain ⟨r85, S85, hr85, h⟩ := ob2 h
              refine aw_cVI (pc := 85) (As := [.int ((1 : Int32) - v1)]) (rest := [.ref 8, .ref 0]) hX (c_X10_heldBy hr85) ok_X10_heldBy kw_7_38 im_X10_heldBy se_X10_heldBy rfl km0 rfl (by decide) (Nat.le_of_ble_eq_true rfl) rfl dX10_city_85 (Nat.le_refl 0) (Nat.le_refl 0) ?_
              obtain ⟨r88, S88, hr88, h⟩ := ob2 h
              refine aw_cVI (pc := 88) (As := [.ref 8, .int r85]) (rest := []) hX (c_X10_sumOf km8 hr88) ok_X10_sumOf kw_7_46 im_X10_sumOf se_X10_sumOf rfl km0 rfl (by decide) (Nat.le_of_ble_eq_true rfl) rfl dX10_city_88 (Nat.le_refl 0) (Nat.le_refl 0) ?_
              cases h
              exact aw_iret hX hQ dX10_city_91
            · rw [if_neg c15_4] at h
              refine aw_tout (pc := 15) hX (tgt := 92) dX10_city_15 (by have e0 := ne_i c15_0 (by decide : (0 : Int32).toInt = 0); have e1 := ne_i c15_1 (by decide : (1 : Int32).toInt = 1); have e2 := ne_i c15_2 (by decide : (2 : Int32).toInt = 2); have e3 := ne_i c15_3 (by decide : (3 : Int32).toInt = 3); have e4 := ne_i c15_4 (by decide : (4 : Int32).toInt = 4); omega) (by decide) ?_
              refine aw_iconst (v := (-1 : Int32)) (pc := 92) hX dX10_city_92 (by decide) ?_
              cases h
              exact aw_iret hX hQ dX10_city_93
  · rw [if_pos c9] at h
    refine aw_iconst (v := (-1 : Int32)) (pc := 12) hX dX10_city_12 (by decide) ?_
    cases h
    exact aw_iret hX hQ dX10_city_13

def f_X10_common_6 : Nat → Int64 → Int64 → Mem → Option (Int64 × Mem)
  | 0, _, _, _ => none
  | n + 1, v4, v6, S =>
  if v6 = (0 : Int64) then
  (some (v4, S))
  else
  ((rmL v4 v6).bind fun x17 =>
  f_X10_common_6 n v6 x17 S)

def f_X10_common (v0 : Int64) (v2 : Int64) (S : Mem) : Option (Int64 × Mem) :=
  f_X10_common_6 FU v0 v2 S

set_option maxHeartbeats 4000000 in
set_option maxRecDepth 100000 in
theorem c_X10_common_6 {X : XT} {loc : Nat → Nat} {sk : Skel} {r : Int64} {Sf : Mem} (hX : AC X loc RX10 cX10_common (some .long) 10 0 0 0) (hQ : RetL X sk loc 0 0 r Sf) : ∀ (n : Nat) (v4 : Int64) (v6 : Int64) (S : Mem), f_X10_common_6 n v4 v6 S = some (r, Sf) → AW X sk loc 0 0 6 [(4, .long v4), (6, .long v6)] [] S := by
  intro n
  induction n with
  | zero => intro v4 v6 S h; cases h
  | succ n ih =>
    intro v4 v6 S h
    unfold f_X10_common_6 at h
    refine aw_lload (pc := 6) hX dX10_common_6 1 rfl ?_
    refine aw_lconst (v := (0 : Int64)) (pc := 8) hX dX10_common_8 (by decide) ?_
    refine aw_lcmp (pc := 9) hX dX10_common_9 ?_
    refine aw_if_eq (pc := 10) hX (tgt := 31) dX10_common_10 (by decide) (fun c10 => ?_) (fun c10 => ?_)
    · rw [if_pos (lc_eq.mp c10)] at h
      refine aw_lload (pc := 31) hX dX10_common_31 0 rfl ?_
      cases h
      exact aw_lret hX hQ dX10_common_33
    · rw [if_neg (fun q => c10 (lc_eq.mpr q))] at h
      refine aw_lload (pc := 13) hX dX10_common_13 0 rfl ?_
      refine aw_lload (pc := 15) hX dX10_common_15 1 rfl ?_
      obtain ⟨x17, hx17, h⟩ := ob h
      refine aw_lrem (pc := 17) hX dX10_common_17 hx17 ?_
      refine aw_lstore (ls' := [(8, .long x17), (4, .long v4), (6, .long v6)]) (pc := 18) hX dX10_common_18 (by decide) rfl ?_
      refine aw_lload (pc := 20) hX dX10_common_20 2 rfl ?_
      refine aw_lstore (ls' := [(4, .long v6), (8, .long x17), (6, .long v6)]) (pc := 22) hX dX10_common_22 (by decide) rfl ?_
      refine aw_lload (pc := 24) hX dX10_common_24 1 rfl ?_
      refine aw_lstore (ls' := [(6, .long x17), (4, .long v6), (8, .long x17)]) (pc := 26) hX dX10_common_26 (by decide) rfl ?_
      refine aw_goto (tgt := 6) (pc := 28) hX dX10_common_28 (by decide) ?_
      refine aw_sub (ls' := [(4, .long v6), (6, .long x17)]) [1, 0] rfl ?_
      exact ih v6 x17 S h

set_option maxHeartbeats 4000000 in
set_option maxRecDepth 100000 in
theorem c_X10_common {sk : Skel} {v0 : Int64} {v2 : Int64} {S : Mem} {r : Int64} {Sf : Mem} (h : f_X10_common v0 v2 S = some (r, Sf)) : MetL yX10_common cX10_common 10 (some .long) 0 [.long v0, .long v2] sk S r Sf := by
  refine MetL.intro (by decide +kernel) (Nat.le_of_ble_eq_true rfl) (fun X loc hX hQ => ?_)
  unfold f_X10_common at h
  show AW X sk loc 0 0 0 [(0, .long v0), (2, .long v2)] [] S
  refine aw_lload_n (pc := 0) hX dX10_common_0 rfl 0 rfl ?_
  refine aw_lstore (ls' := [(4, .long v0), (0, .long v0), (2, .long v2)]) (pc := 1) hX dX10_common_1 (by decide) rfl ?_
  refine aw_lload_n (pc := 3) hX dX10_common_3 rfl 2 rfl ?_
  refine aw_lstore (ls' := [(6, .long v2), (4, .long v0), (0, .long v0), (2, .long v2)]) (pc := 4) hX dX10_common_4 (by decide) rfl ?_
  refine aw_sub (ls' := [(4, .long v0), (6, .long v2)]) [1, 0] rfl ?_
  exact c_X10_common_6 hX hQ FU v0 v2 S h

def f_X10_here (S : Mem) : Option (Int32 × Mem) :=
  if (S.1 0 17) ≤ (S.1 0 18) then
  (some ((-1 : Int32), S))
  else
  ((rd S 1 700 (S.1 0 18)).bind fun x19 =>
  some (x19, S))

set_option maxHeartbeats 4000000 in
set_option maxRecDepth 100000 in
theorem c_X10_here {S : Mem} {r : Int32} {Sf : Mem} (h : f_X10_here S = some (r, Sf)) : MetI yX10_here cX10_here 1 (some .int) 0 [.ref 0] SKM S r Sf := by
  refine MetI.intro (by decide +kernel) (Nat.le_of_ble_eq_true rfl) (fun X loc hX hQ => ?_)
  unfold f_X10_here at h
  show AW X SKM loc 0 0 0 [(0, .ref 0)] [] S
  refine aw_aload_n (pc := 0) hX dX10_here_0 rfl 0 rfl ?_
  refine gf_X10_130 (pc := 1) hX km0 rfl dX10_here_1 ?_
  refine aw_aload_n (pc := 4) hX dX10_here_4 rfl 0 rfl ?_
  refine gf_X10_133 (pc := 5) hX km0 rfl dX10_here_5 ?_
  refine aw_icmp_ge (pc := 8) hX (tgt := 23) dX10_here_8 (by decide) (fun c8 => ?_) (fun c8 => ?_)
  · rw [if_pos c8] at h
    refine aw_iconst (v := (-1 : Int32)) (pc := 23) hX dX10_here_23 (by decide) ?_
    cases h
    exact aw_iret hX hQ dX10_here_24
  · rw [if_neg c8] at h
    refine aw_aload_n (pc := 11) hX dX10_here_11 rfl 0 rfl ?_
    refine gf_X10_7 (pc := 12) hX km0 rfl dX10_here_12 ?_
    refine aw_aload_n (pc := 15) hX dX10_here_15 rfl 0 rfl ?_
    refine gf_X10_130 (pc := 16) hX km0 rfl dX10_here_16 ?_
    obtain ⟨x19, hx19, h⟩ := ob h
    refine aw_iald (pc := 19) hX km1 hx19 dX10_here_19 ?_
    refine aw_goto (tgt := 24) (pc := 20) hX dX10_here_20 (by decide) ?_
    cases h
    exact aw_iret hX hQ dX10_here_24

def f_X10_isDigit (v0 : Int32) (S : Mem) : Option (Int32 × Mem) :=
  if v0 < (48 : Int32) then
  (some ((0 : Int32), S))
  else
  (if (57 : Int32) < v0 then
  (some ((0 : Int32), S))
  else
  (some ((1 : Int32), S)))

set_option maxHeartbeats 4000000 in
set_option maxRecDepth 100000 in
theorem c_X10_isDigit {sk : Skel} {v0 : Int32} {S : Mem} {r : Int32} {Sf : Mem} (h : f_X10_isDigit v0 S = some (r, Sf)) : MetI yX10_isDigit cX10_isDigit 1 (some .boolean) 0 [.int v0] sk S r Sf := by
  refine MetI.intro (by decide +kernel) (Nat.le_of_ble_eq_true rfl) (fun X loc hX hQ => ?_)
  unfold f_X10_isDigit at h
  show AW X sk loc 0 0 0 [(0, .int v0)] [] S
  refine aw_iload_n (pc := 0) hX dX10_isDigit_0 rfl 0 rfl ?_
  refine aw_bipush (v := (48 : Int32)) (pc := 1) hX dX10_isDigit_1 (by decide) ?_
  refine aw_icmp_lt (pc := 3) hX (tgt := 16) dX10_isDigit_3 (by decide) (fun c3 => ?_) (fun c3 => ?_)
  · rw [if_pos c3] at h
    refine aw_iconst (v := (0 : Int32)) (pc := 16) hX dX10_isDigit_16 (by decide) ?_
    cases h
    exact aw_zret hX hQ (by decide) dX10_isDigit_17
  · rw [if_neg c3] at h
    refine aw_iload_n (pc := 6) hX dX10_isDigit_6 rfl 0 rfl ?_
    refine aw_bipush (v := (57 : Int32)) (pc := 7) hX dX10_isDigit_7 (by decide) ?_
    refine aw_icmp_gt (pc := 9) hX (tgt := 16) dX10_isDigit_9 (by decide) (fun c9 => ?_) (fun c9 => ?_)
    · rw [if_pos c9] at h
      refine aw_iconst (v := (0 : Int32)) (pc := 16) hX dX10_isDigit_16 (by decide) ?_
      cases h
      exact aw_zret hX hQ (by decide) dX10_isDigit_17
    · rw [if_neg c9] at h
      refine aw_iconst (v := (1 : Int32)) (pc := 12) hX dX10_isDigit_12 (by decide) ?_
      refine aw_goto (tgt := 17) (pc := 13) hX dX10_isDigit_13 (by decide) ?_
      cases h
      exact aw_zret hX hQ (by decide) dX10_isDigit_17

def f_X10_isSmall (v0 : Int32) (S : Mem) : Option (Int32 × Mem) :=
  if v0 < (97 : Int32) then
  (some ((0 : Int32), S))
  else
  (if (122 : Int32) < v0 then
  (some ((0 : Int32), S))
  else
  (some ((1 : Int32), S)))

set_option maxHeartbeats 4000000 in
set_option maxRecDepth 100000 in
theorem c_X10_isSmall {sk : Skel} {v0 : Int32} {S : Mem} {r : Int32} {Sf : Mem} (h : f_X10_isSmall v0 S = some (r, Sf)) : MetI yX10_isSmall cX10_isSmall 1 (some .boolean) 0 [.int v0] sk S r Sf := by
  refine MetI.intro (by decide +kernel) (Nat.le_of_ble_eq_true rfl) (fun X loc hX hQ => ?_)
  unfold f_X10_isSmall at h
  show AW X sk loc 0 0 0 [(0, .int v0)] [] S
  refine aw_iload_n (pc := 0) hX dX10_isSmall_0 rfl 0 rfl ?_
  refine aw_bipush (v := (97 : Int32)) (pc := 1) hX dX10_isSmall_1 (by decide) ?_
  refine aw_icmp_lt (pc := 3) hX (tgt := 16) dX10_isSmall_3 (by decide) (fun c3 => ?_) (fun c3 => ?_)
  · rw [if_pos c3] at h
    refine aw_iconst (v := (0 : Int32)) (pc := 16) hX dX10_isSmall_16 (by decide) ?_
    cases h
    exact aw_zret hX hQ (by decide) dX10_isSmall_17
  · rw [if_neg c3] at h
    refine aw_iload_n (pc := 6) hX dX10_isSmall_6 rfl 0 rfl ?_
    refine aw_bipush (v := (122 : Int32)) (pc := 7) hX dX10_isSmall_7 (by decide) ?_
    refine aw_icmp_gt (pc := 9) hX (tgt := 16) dX10_isSmall_9 (by decide) (fun c9 => ?_) (fun c9 => ?_)
    · rw [if_pos c9] at h
      refine aw_iconst (v := (0 : Int32)) (pc := 16) hX dX10_isSmall_16 (by decide) ?_
      cases h
      exact aw_zret hX hQ (by decide) dX10_isSmall_17
    · rw [if_neg c9] at h
      refine aw_iconst (v := (1 : Int32)) (pc := 12) hX dX10_isSmall_12 (by decide) ?_
      refine aw_goto (tgt := 17) (pc := 13) hX dX10_isSmall_13 (by decide) ?_
      cases h
      exact aw_zret hX hQ (by decide) dX10_isSmall_17

def f_X10_name_53 (R7 : Int32 → Mem → Option Mem) (v1 : Int32) (t1 : Int32) (t2 : Int32) (S : Mem) : Option Mem :=
  nxt (sI S 0 21 (t1 ||| t2)) fun S54 =>
  R7 (v1 + 1) S54

def f_X10_name_7 : Nat → Int32 → Mem → Option Mem
  | 0, _, _ => none
  | n + 1, v1, S =>
  if (6 : Int32) ≤ v1 then
  (some S)
  else
  (if (S.1 0 18) ≤ ((S.1 0 19) + v1) then
  (f_X10_name_53 (f_X10_name_7 n) v1 ((S.1 0 21) <<< ((5 : Int32) &&& 31)) (0 : Int32) S)
  else
  ((rd S 1 700 ((S.1 0 19) + v1)).bind fun x43 =>
  f_X10_name_53 (f_X10_name_7 n) v1 ((S.1 0 21) <<< ((5 : Int32) &&& 31)) ((x43 - (97 : Int32)) + (1 : Int32)) S))

def f_X10_name (S : Mem) : Option Mem :=
  nxt (sI S 0 21 (0 : Int32)) fun S2 =>
  f_X10_name_7 FU (0 : Int32) S2

set_option maxHeartbeats 4000000 in
set_option maxRecDepth 100000 in
theorem c_X10_name_53 {X : XT} {loc : Nat → Nat} {Sf : Mem} (hX : AC X loc RX10 cX10_name none 2 0 0 0) (hQ : RetV X SKM loc 0 0 Sf) {R7 : Int32 → Mem → Option Mem} (IH7 : ∀ (v1 : Int32) (S : Mem), R7 v1 S = some Sf → AW X SKM loc 0 0 7 [(0, .ref 0), (1, .int v1)] [] S) (v1 : Int32) (t1 : Int32) (t2 : Int32) (S : Mem) (h : f_X10_name_53 R7 v1 t1 t2 S = some Sf) : AW X SKM loc 0 0 53 [(0, .ref 0), (1, .int v1)] [.int t2, .int t1, .ref 0] S := by
  unfold f_X10_name_53 at h
  refine aw_ior (pc := 53) hX dX10_name_53 ?_
  refine pf_X10_153 (pc := 54) hX km0 rfl dX10_name_54 ?_
  obtain ⟨S54, eS54, h⟩ := on h
  refine aw_S eS54 ?_
  refine aw_iinc (v := (v1 + 1)) (ls' := [(1, .int (v1 + 1)), (0, .ref 0)]) (pc := 57) hX dX10_name_57 (pos := 1) rfl (by first | rfl | decide) (by decide) rfl ?_
  refine aw_goto (tgt := 7) (pc := 60) hX dX10_name_60 (by decide) ?_
  refine aw_sub (ls' := [(0, .ref 0), (1, .int (v1 + 1))]) [1, 0] rfl ?_
  exact IH7 (v1 + 1) S54 h

set_option maxHeartbeats 4000000 in
set_option maxRecDepth 100000 in
theorem c_X10_name_7 {X : XT} {loc : Nat → Nat} {Sf : Mem} (hX : AC X loc RX10 cX10_name none 2 0 0 0) (hQ : RetV X SKM loc 0 0 Sf) : ∀ (n : Nat) (v1 : Int32) (S : Mem), f_X10_name_7 n v1 S = some Sf → AW X SKM loc 0 0 7 [(0, .ref 0), (1, .int v1)] [] S := by
  intro n
  induction n with
  | zero => intro v1 S h; cases h
  | succ n ih =>
    intro v1 S h
    unfold f_X10_name_7 at h
    refine aw_iload_n (pc := 7) hX dX10_name_7 rfl 1 rfl ?_
    refine aw_bipush (v := (6 : Int32)) (pc := 8) hX dX10_name_8 (by decide) ?_
    refine aw_icmp_ge (pc := 10) hX (tgt := 63) dX10_name_10 (by decide) (fun c10 => ?_) (fun c10 => ?_)
    · rw [if_pos c10] at h
      cases h
      exact aw_vret hX hQ dX10_name_63
    · rw [if_neg c10] at h
      refine aw_aload_n (pc := 13) hX dX10_name_13 rfl 0 rfl ?_
      refine aw_aload_n (pc := 14) hX dX10_name_14 rfl 0 rfl ?_
      refine gf_X10_153 (pc := 15) hX km0 rfl dX10_name_15 ?_
      refine aw_iconst (v := (5 : Int32)) (pc := 18) hX dX10_name_18 (by decide) ?_
      refine aw_ishl (pc := 19) hX dX10_name_19 ?_
      refine aw_aload_n (pc := 20) hX dX10_name_20 rfl 0 rfl ?_
      refine gf_X10_140 (pc := 21) hX km0 rfl dX10_name_21 ?_
      refine aw_iload_n (pc := 24) hX dX10_name_24 rfl 1 rfl ?_
      refine aw_iadd (pc := 25) hX dX10_name_25 ?_
      refine aw_aload_n (pc := 26) hX dX10_name_26 rfl 0 rfl ?_
      refine gf_X10_130 (pc := 27) hX km0 rfl dX10_name_27 ?_
      refine aw_icmp_ge (pc := 30) hX (tgt := 52) dX10_name_30 (by decide) (fun c30 => ?_) (fun c30 => ?_)
      · rw [if_pos c30] at h
        refine aw_iconst (v := (0 : Int32)) (pc := 52) hX dX10_name_52 (by decide) ?_
        exact c_X10_name_53 hX hQ ih v1 ((S.1 0 21) <<< ((5 : Int32) &&& 31)) (0 : Int32) S h
      · rw [if_neg c30] at h
        refine aw_aload_n (pc := 33) hX dX10_name_33 rfl 0 rfl ?_
        refine gf_X10_7 (pc := 34) hX km0 rfl dX10_name_34 ?_
        refine aw_aload_n (pc := 37) hX dX10_name_37 rfl 0 rfl ?_
        refine gf_X10_140 (pc := 38) hX km0 rfl dX10_name_38 ?_
        refine aw_iload_n (pc := 41) hX dX10_name_41 rfl 1 rfl ?_
        refine aw_iadd (pc := 42) hX dX10_name_42 ?_
        obtain ⟨x43, hx43, h⟩ := ob h
        refine aw_iald (pc := 43) hX km1 hx43 dX10_name_43 ?_
        refine aw_bipush (v := (97 : Int32)) (pc := 44) hX dX10_name_44 (by decide) ?_
        refine aw_isub (pc := 46) hX dX10_name_46 ?_
        refine aw_iconst (v := (1 : Int32)) (pc := 47) hX dX10_name_47 (by decide) ?_
        refine aw_iadd (pc := 48) hX dX10_name_48 ?_
        refine aw_goto (tgt := 53) (pc := 49) hX dX10_name_49 (by decide) ?_
        exact c_X10_name_53 hX hQ ih v1 ((S.1 0 21) <<< ((5 : Int32) &&& 31)) ((x43 - (97 : Int32)) + (1 : Int32)) S h

set_option maxHeartbeats 4000000 in
set_option maxRecDepth 100000 in
theorem c_X10_name {S : Mem} {Sf : Mem} (h : f_X10_name S = some Sf) : MetV yX10_name cX10_name 2 none 0 [.ref 0] SKM S Sf := by
  refine MetV.intro (by decide +kernel) (Nat.le_of_ble_eq_true rfl) (fun X loc hX hQ => ?_)
  unfold f_X10_name at h
  show AW X SKM loc 0 0 0 [(0, .ref 0)] [] S
  refine aw_aload_n (pc := 0) hX dX10_name_0 rfl 0 rfl ?_
  refine aw_iconst (v := (0 : Int32)) (pc := 1) hX dX10_name_1 (by decide) ?_
  refine pf_X10_153 (pc := 2) hX km0 rfl dX10_name_2 ?_
  obtain ⟨S2, eS2, h⟩ := on h
  refine aw_S eS2 ?_
  refine aw_iconst (v := (0 : Int32)) (pc := 5) hX dX10_name_5 (by decide) ?_
  refine aw_istore_n (ls' := [(1, .int (0 : Int32)), (0, .ref 0)]) (pc := 6) hX dX10_name_6 rfl (by decide) rfl ?_
  refine aw_sub (ls' := [(0, .ref 0), (1, .int (0 : Int32))]) [1, 0] rfl ?_
  exact c_X10_name_7 hX hQ FU (0 : Int32) S2 h

def f_X10_sign_150 (S : Mem) : Option Mem :=
  if (S.1 0 21) < (256 : Int32) then
  (some S)
  else
  (nxt (sI S 0 18 ((S.1 0 18) + (1 : Int32))) fun S167 =>
  some S167)

def f_X10_sign_128 (v1 : Int32) (S : Mem) : Option Mem :=
  if v1 = (62 : Int32) then
  (bnd (f_X10_here S) fun r135 S135 =>
  if r135 = (61 : Int32) then
  (nxt (sI S135 0 21 (258 : Int32)) fun S147 =>
  f_X10_sign_150 S147)
  else
  (f_X10_sign_150 S135))
  else
  (f_X10_sign_150 S)

def f_X10_sign_106 (v1 : Int32) (S : Mem) : Option Mem :=
  if v1 = (60 : Int32) then
  (bnd (f_X10_here S) fun r113 S113 =>
  if r113 = (62 : Int32) then
  (nxt (sI S113 0 21 (257 : Int32)) fun S125 =>
  f_X10_sign_128 v1 S125)
  else
  (f_X10_sign_128 v1 S113))
  else
  (f_X10_sign_128 v1 S)

def f_X10_sign_76 (v1 : Int32) (t1 : Int32) (S : Mem) : Option Mem :=
  nxt (sI S 0 20 t1) fun S76 =>
  nxt (sI S76 0 21 v1) fun S81 =>
  if v1 = (60 : Int32) then
  (bnd (f_X10_here S81) fun r91 S91 =>
  if r91 = (61 : Int32) then
  (nxt (sI S91 0 21 (256 : Int32)) fun S103 =>
  f_X10_sign_106 v1 S103)
  else
  (f_X10_sign_106 v1 S91))
  else
  (f_X10_sign_106 v1 S81)

def f_X10_sign_71 (v1 : Int32) (S : Mem) : Option Mem :=
  f_X10_sign_76 v1 (3 : Int32) S

def f_X10_sign (v1 : Int32) (S : Mem) : Option Mem :=
  nxt (sI S 0 18 ((S.1 0 18) + (1 : Int32))) fun S7 =>
  if v1 = (59 : Int32) then
  (f_X10_sign_71 v1 S7)
  else
  (if v1 = (40 : Int32) then
  (f_X10_sign_71 v1 S7)
  else
  (if v1 = (41 : Int32) then
  (f_X10_sign_71 v1 S7)
  else
  (if v1 = (43 : Int32) then
  (f_X10_sign_71 v1 S7)
  else
  (if v1 = (45 : Int32) then
  (f_X10_sign_71 v1 S7)
  else
  (if v1 = (42 : Int32) then
  (f_X10_sign_71 v1 S7)
  else
  (if v1 = (47 : Int32) then
  (f_X10_sign_71 v1 S7)
  else
  (if v1 = (60 : Int32) then
  (f_X10_sign_71 v1 S7)
  else
  (if v1 = (61 : Int32) then
  (f_X10_sign_71 v1 S7)
  else
  (if v1 = (62 : Int32) then
  (f_X10_sign_71 v1 S7)
  else
  (f_X10_sign_76 v1 (5 : Int32) S7))))))))))

set_option maxHeartbeats 4000000 in
set_option maxRecDepth 100000 in
theorem c_X10_sign_150 {X : XT} {loc : Nat → Nat} {Sf : Mem} (hX : AC X loc RX10 cX10_sign none 2 1 0 0) (hQ : RetV X SKM loc 0 0 Sf) (S : Mem) (h : f_X10_sign_150 S = some Sf) : AW X SKM loc 0 0 150 [(0, .ref 0)] [] S := by
  unfold f_X10_sign_150 at h
  refine aw_aload_n (pc := 150) hX dX10_sign_150 rfl 0 rfl ?_
  refine gf_X10_153 (pc := 151) hX km0 rfl dX10_sign_151 ?_
  refine aw_sipush (v := (256 : Int32)) (pc := 154) hX dX10_sign_154 (by decide) ?_
  refine aw_icmp_lt (pc := 157) hX (tgt := 170) dX10_sign_157 (by decide) (fun c157 => ?_) (fun c157 => ?_)
  · rw [if_pos c157] at h
    cases h
    exact aw_vret hX hQ dX10_sign_170
  · rw [if_neg c157] at h
    refine aw_aload_n (pc := 160) hX dX10_sign_160 rfl 0 rfl ?_
    refine aw_dup (pc := 161) hX dX10_sign_161 rfl ?_
    refine gf_X10_130 (pc := 162) hX km0 rfl dX10_sign_162 ?_
    refine aw_iconst (v := (1 : Int32)) (pc := 165) hX dX10_sign_165 (by decide) ?_
    refine aw_iadd (pc := 166) hX dX10_sign_166 ?_
    refine pf_X10_130 (pc := 167) hX km0 rfl dX10_sign_167 ?_
    obtain ⟨S167, eS167, h⟩ := on h
    refine aw_S eS167 ?_
    cases h
    exact aw_vret hX hQ dX10_sign_170

set_option maxHeartbeats 4000000 in
set_option maxRecDepth 100000 in
theorem c_X10_sign_128 {X : XT} {loc : Nat → Nat} {Sf : Mem} (hX : AC X loc RX10 cX10_sign none 2 1 0 0) (hQ : RetV X SKM loc 0 0 Sf) (v1 : Int32) (S : Mem) (h : f_X10_sign_128 v1 S = some Sf) : AW X SKM loc 0 0 128 [(0, .ref 0), (1, .int v1)] [] S := by
  unfold f_X10_sign_128 at h
  refine aw_iload_n (pc := 128) hX dX10_sign_128 rfl 1 rfl ?_
  refine aw_bipush (v := (62 : Int32)) (pc := 129) hX dX10_sign_129 (by decide) ?_
  refine aw_icmp_ne (pc := 131) hX (tgt := 150) dX10_sign_131 (by decide) (fun c131 => ?_) (fun c131 => ?_)
  · rw [if_neg c131] at h
    refine aw_sub (ls' := [(0, .ref 0)]) [0] rfl ?_
    exact c_X10_sign_150 hX hQ S h
  · rw [if_pos c131] at h
    refine aw_aload_n (pc := 134) hX dX10_sign_134 rfl 0 rfl ?_
    obtain ⟨r135, S135, hr135, h⟩ := ob2 h
    refine aw_cVI (pc := 135) (As := []) (rest := []) hX (c_X10_here hr135) ok_X10_here kw_6_127 im_X10_here se_X10_here rfl km0 rfl (by decide) (Nat.le_of_ble_eq_true rfl) rfl dX10_sign_135 (Nat.le_refl 0) (Nat.le_refl 0) ?_
    refine aw_bipush (v := (61 : Int32)) (pc := 138) hX dX10_sign_138 (by decide) ?_
    refine aw_icmp_ne (pc := 140) hX (tgt := 150) dX10_sign_140 (by decide) (fun c140 => ?_) (fun c140 => ?_)
    · rw [if_neg c140] at h
      refine aw_sub (ls' := [(0, .ref 0)]) [0] rfl ?_
      exact c_X10_sign_150 hX hQ S135 h
    · rw [if_pos c140] at h
      refine aw_aload_n (pc := 143) hX dX10_sign_143 rfl 0 rfl ?_
      refine aw_sipush (v := (258 : Int32)) (pc := 144) hX dX10_sign_144 (by decide) ?_
      refine pf_X10_153 (pc := 147) hX km0 rfl dX10_sign_147 ?_
      obtain ⟨S147, eS147, h⟩ := on h
      refine aw_S eS147 ?_
      refine aw_sub (ls' := [(0, .ref 0)]) [0] rfl ?_
      exact c_X10_sign_150 hX hQ S147 h

set_option maxHeartbeats 4000000 in
set_option maxRecDepth 100000 in
theorem c_X10_sign_106 {X : XT} {loc : Nat → Nat} {Sf : Mem} (hX : AC X loc RX10 cX10_sign none 2 1 0 0) (hQ : RetV X SKM loc 0 0 Sf) (v1 : Int32) (S : Mem) (h : f_X10_sign_106 v1 S = some Sf) : AW X SKM loc 0 0 106 [(0, .ref 0), (1, .int v1)] [] S := by
  unfold f_X10_sign_106 at h
  refine aw_iload_n (pc := 106) hX dX10_sign_106 rfl 1 rfl ?_
  refine aw_bipush (v := (60 : Int32)) (pc := 107) hX dX10_sign_107 (by decide) ?_
  refine aw_icmp_ne (pc := 109) hX (tgt := 128) dX10_sign_109 (by decide) (fun c109 => ?_) (fun c109 => ?_)
  · rw [if_neg c109] at h
    exact c_X10_sign_128 hX hQ v1 S h
  · rw [if_pos c109] at h
    refine aw_aload_n (pc := 112) hX dX10_sign_112 rfl 0 rfl ?_
    obtain ⟨r113, S113, hr113, h⟩ := ob2 h
    refine aw_cVI (pc := 113) (As := []) (rest := []) hX (c_X10_here hr113) ok_X10_here kw_6_127 im_X10_here se_X10_here rfl km0 rfl (by decide) (Nat.le_of_ble_eq_true rfl) rfl dX10_sign_113 (Nat.le_refl 0) (Nat.le_refl 0) ?_
    refine aw_bipush (v := (62 : Int32)) (pc := 116) hX dX10_sign_116 (by decide) ?_
    refine aw_icmp_ne (pc := 118) hX (tgt := 128) dX10_sign_118 (by decide) (fun c118 => ?_) (fun c118 => ?_)
    · rw [if_neg c118] at h
      exact c_X10_sign_128 hX hQ v1 S113 h
    · rw [if_pos c118] at h
      refine aw_aload_n (pc := 121) hX dX10_sign_121 rfl 0 rfl ?_
      refine aw_sipush (v := (257 : Int32)) (pc := 122) hX dX10_sign_122 (by decide) ?_
      refine pf_X10_153 (pc := 125) hX km0 rfl dX10_sign_125 ?_
      obtain ⟨S125, eS125, h⟩ := on h
      refine aw_S eS125 ?_
      exact c_X10_sign_128 hX hQ v1 S125 h

set_option maxHeartbeats 4000000 in
set_option maxRecDepth 100000 in
theorem c_X10_sign_76 {X : XT} {loc : Nat → Nat} {Sf : Mem} (hX : AC X loc RX10 cX10_sign none 2 1 0 0) (hQ : RetV X SKM loc 0 0 Sf) (v1 : Int32) (t1 : Int32) (S : Mem) (h : f_X10_sign_76 v1 t1 S = some Sf) : AW X SKM loc 0 0 76 [(0, .ref 0), (1, .int v1)] [.int t1, .ref 0] S := by
  unfold f_X10_sign_76 at h
  refine pf_X10_143 (pc := 76) hX km0 rfl dX10_sign_76 ?_
  obtain ⟨S76, eS76, h⟩ := on h
  refine aw_S eS76 ?_
  refine aw_aload_n (pc := 79) hX dX10_sign_79 rfl 0 rfl ?_
  refine aw_iload_n (pc := 80) hX dX10_sign_80 rfl 1 rfl ?_
  refine pf_X10_153 (pc := 81) hX km0 rfl dX10_sign_81 ?_
  obtain ⟨S81, eS81, h⟩ := on h
  refine aw_S eS81 ?_
  refine aw_iload_n (pc := 84) hX dX10_sign_84 rfl 1 rfl ?_
  refine aw_bipush (v := (60 : Int32)) (pc := 85) hX dX10_sign_85 (by decide) ?_
  refine aw_icmp_ne (pc := 87) hX (tgt := 106) dX10_sign_87 (by decide) (fun c87 => ?_) (fun c87 => ?_)
  · rw [if_neg c87] at h
    exact c_X10_sign_106 hX hQ v1 S81 h
  · rw [if_pos c87] at h
    refine aw_aload_n (pc := 90) hX dX10_sign_90 rfl 0 rfl ?_
    obtain ⟨r91, S91, hr91, h⟩ := ob2 h
    refine aw_cVI (pc := 91) (As := []) (rest := []) hX (c_X10_here hr91) ok_X10_here kw_6_127 im_X10_here se_X10_here rfl km0 rfl (by decide) (Nat.le_of_ble_eq_true rfl) rfl dX10_sign_91 (Nat.le_refl 0) (Nat.le_refl 0) ?_
    refine aw_bipush (v := (61 : Int32)) (pc := 94) hX dX10_sign_94 (by decide) ?_
    refine aw_icmp_ne (pc := 96) hX (tgt := 106) dX10_sign_96 (by decide) (fun c96 => ?_) (fun c96 => ?_)
    · rw [if_neg c96] at h
      exact c_X10_sign_106 hX hQ v1 S91 h
    · rw [if_pos c96] at h
      refine aw_aload_n (pc := 99) hX dX10_sign_99 rfl 0 rfl ?_
      refine aw_sipush (v := (256 : Int32)) (pc := 100) hX dX10_sign_100 (by decide) ?_
      refine pf_X10_153 (pc := 103) hX km0 rfl dX10_sign_103 ?_
      obtain ⟨S103, eS103, h⟩ := on h
      refine aw_S eS103 ?_
      exact c_X10_sign_106 hX hQ v1 S103 h

set_option maxHeartbeats 4000000 in
set_option maxRecDepth 100000 in
theorem c_X10_sign_71 {X : XT} {loc : Nat → Nat} {Sf : Mem} (hX : AC X loc RX10 cX10_sign none 2 1 0 0) (hQ : RetV X SKM loc 0 0 Sf) (v1 : Int32) (S : Mem) (h : f_X10_sign_71 v1 S = some Sf) : AW X SKM loc 0 0 71 [(0, .ref 0), (1, .int v1)] [.ref 0] S := by
  unfold f_X10_sign_71 at h
  refine aw_iconst (v := (3 : Int32)) (pc := 71) hX dX10_sign_71 (by decide) ?_
  refine aw_goto (tgt := 76) (pc := 72) hX dX10_sign_72 (by decide) ?_
  exact c_X10_sign_76 hX hQ v1 (3 : Int32) S h

set_option maxHeartbeats 4000000 in
set_option maxRecDepth 100000 in
theorem c_X10_sign {v1 : Int32} {S : Mem} {Sf : Mem} (h : f_X10_sign v1 S = some Sf) : MetV yX10_sign cX10_sign 2 none 1 [.ref 0, .int v1] SKM S Sf := by
  refine MetV.intro (by decide +kernel) (Nat.le_of_ble_eq_true rfl) (fun X loc hX hQ => ?_)
  unfold f_X10_sign at h
  show AW X SKM loc 0 0 0 [(0, .ref 0), (1, .int v1)] [] S
  refine aw_aload_n (pc := 0) hX dX10_sign_0 rfl 0 rfl ?_
  refine aw_dup (pc := 1) hX dX10_sign_1 rfl ?_
  refine gf_X10_130 (pc := 2) hX km0 rfl dX10_sign_2 ?_
  refine aw_iconst (v := (1 : Int32)) (pc := 5) hX dX10_sign_5 (by decide) ?_
  refine aw_iadd (pc := 6) hX dX10_sign_6 ?_
  refine pf_X10_130 (pc := 7) hX km0 rfl dX10_sign_7 ?_
  obtain ⟨S7, eS7, h⟩ := on h
  refine aw_S eS7 ?_
  refine aw_aload_n (pc := 10) hX dX10_sign_10 rfl 0 rfl ?_
  refine aw_iload_n (pc := 11) hX dX10_sign_11 rfl 1 rfl ?_
  refine aw_bipush (v := (59 : Int32)) (pc := 12) hX dX10_sign_12 (by decide) ?_
  refine aw_icmp_eq (pc := 14) hX (tgt := 71) dX10_sign_14 (by decide) (fun c14 => ?_) (fun c14 => ?_)
  · rw [if_pos c14] at h
    exact c_X10_sign_71 hX hQ v1 S7 h
  · rw [if_neg c14] at h
    refine aw_iload_n (pc := 17) hX dX10_sign_17 rfl 1 rfl ?_
    refine aw_bipush (v := (40 : Int32)) (pc := 18) hX dX10_sign_18 (by decide) ?_
    refine aw_icmp_eq (pc := 20) hX (tgt := 71) dX10_sign_20 (by decide) (fun c20 => ?_) (fun c20 => ?_)
    · rw [if_pos c20] at h
      exact c_X10_sign_71 hX hQ v1 S7 h
    · rw [if_neg c20] at h
      refine aw_iload_n (pc := 23) hX dX10_sign_23 rfl 1 rfl ?_
      refine aw_bipush (v := (41 : Int32)) (pc := 24) hX dX10_sign_24 (by decide) ?_
      refine aw_icmp_eq (pc := 26) hX (tgt := 71) dX10_sign_26 (by decide) (fun c26 => ?_) (fun c26 => ?_)
      · rw [if_pos c26] at h
        exact c_X10_sign_71 hX hQ v1 S7 h
      · rw [if_neg c26] at h
        refine aw_iload_n (pc := 29) hX dX10_sign_29 rfl 1 rfl ?_
        refine aw_bipush (v := (43 : Int32)) (pc := 30) hX dX10_sign_30 (by decide) ?_
        refine aw_icmp_eq (pc := 32) hX (tgt := 71) dX10_sign_32 (by decide) (fun c32 => ?_) (fun c32 => ?_)
        · rw [if_pos c32] at h
          exact c_X10_sign_71 hX hQ v1 S7 h
        · rw [if_neg c32] at h
          refine aw_iload_n (pc := 35) hX dX10_sign_35 rfl 1 rfl ?_
          refine aw_bipush (v := (45 : Int32)) (pc := 36) hX dX10_sign_36 (by decide) ?_
          refine aw_icmp_eq (pc := 38) hX (tgt := 71) dX10_sign_38 (by decide) (fun c38 => ?_) (fun c38 => ?_)
          · rw [if_pos c38] at h
            exact c_X10_sign_71 hX hQ v1 S7 h
          · rw [if_neg c38] at h
            refine aw_iload_n (pc := 41) hX dX10_sign_41 rfl 1 rfl ?_
            refine aw_bipush (v := (42 : Int32)) (pc := 42) hX dX10_sign_42 (by decide) ?_
            refine aw_icmp_eq (pc := 44) hX (tgt := 71) dX10_sign_44 (by decide) (fun c44 => ?_) (fun c44 => ?_)
            · rw [if_pos c44] at h
              exact c_X10_sign_71 hX hQ v1 S7 h
            · rw [if_neg c44] at h
              refine aw_iload_n (pc := 47) hX dX10_sign_47 rfl 1 rfl ?_
              refine aw_bipush (v := (47 : Int32)) (pc := 48) hX dX10_sign_48 (by decide) ?_
              refine aw_icmp_eq (pc := 50) hX (tgt := 71) dX10_sign_50 (by decide) (fun c50 => ?_) (fun c50 => ?_)
              · rw [if_pos c50] at h
                exact c_X10_sign_71 hX hQ v1 S7 h
              · rw [if_neg c50] at h
                refine aw_iload_n (pc := 53) hX dX10_sign_53 rfl 1 rfl ?_
                refine aw_bipush (v := (60 : Int32)) (pc := 54) hX dX10_sign_54 (by decide) ?_
                refine aw_icmp_eq (pc := 56) hX (tgt := 71) dX10_sign_56 (by decide) (fun c56 => ?_) (fun c56 => ?_)
                · rw [if_pos c56] at h
                  exact c_X10_sign_71 hX hQ v1 S7 h
                · rw [if_neg c56] at h
                  refine aw_iload_n (pc := 59) hX dX10_sign_59 rfl 1 rfl ?_
                  refine aw_bipush (v := (61 : Int32)) (pc := 60) hX dX10_sign_60 (by decide) ?_
                  refine aw_icmp_eq (pc := 62) hX (tgt := 71) dX10_sign_62 (by decide) (fun c62 => ?_) (fun c62 => ?_)
                  · rw [if_pos c62] at h
                    exact c_X10_sign_71 hX hQ v1 S7 h
                  · rw [if_neg c62] at h
                    refine aw_iload_n (pc := 65) hX dX10_sign_65 rfl 1 rfl ?_
                    refine aw_bipush (v := (62 : Int32)) (pc := 66) hX dX10_sign_66 (by decide) ?_
                    refine aw_icmp_ne (pc := 68) hX (tgt := 75) dX10_sign_68 (by decide) (fun c68 => ?_) (fun c68 => ?_)
                    · rw [if_neg c68] at h
                      refine aw_iconst (v := (5 : Int32)) (pc := 75) hX dX10_sign_75 (by decide) ?_
                      exact c_X10_sign_76 hX hQ v1 (5 : Int32) S7 h
                    · rw [if_pos c68] at h
                      exact c_X10_sign_71 hX hQ v1 S7 h

def f_X10_word_97 (R4 : Int32 → Int32 → Mem → Option (Int32 × Mem)) : Nat → Int32 → Int32 → Mem → Option (Int32 × Mem)
  | 0, _, _, _ => none
  | n + 1, v1, v2, S =>
  (chr1 v2).bind fun x100 =>
  if x100 = (32 : Int32) then
  (R4 (v1 + 1) (v2 + 1) S)
  else
  (f_X10_word_97 R4 n v1 (v2 + 1) S)

def f_X10_word_69 (R4 : Int32 → Int32 → Mem → Option (Int32 × Mem)) (v1 : Int32) (v2 : Int32) (v3 : Int32) (S : Mem) : Option (Int32 × Mem) :=
  (chr1 (v2 + v3)).bind fun x74 =>
  if x74 = (32 : Int32) then
  (if ((S.1 0 19) + v3) = (S.1 0 18) then
  (some (v1, S))
  else
  (f_X10_word_97 R4 FU v1 v2 S))
  else
  (f_X10_word_97 R4 FU v1 v2 S)

def f_X10_word_15 (R4 : Int32 → Int32 → Mem → Option (Int32 × Mem)) : Nat → Int32 → Int32 → Int32 → Mem → Option (Int32 × Mem)
  | 0, _, _, _, _ => none
  | n + 1, v1, v2, v3, S =>
  (chr1 (v2 + v3)).bind fun x20 =>
  if x20 = (32 : Int32) then
  (f_X10_word_69 R4 v1 v2 v3 S)
  else
  (if (S.1 0 18) ≤ ((S.1 0 19) + v3) then
  (f_X10_word_69 R4 v1 v2 v3 S)
  else
  ((rd S 1 700 ((S.1 0 19) + v3)).bind fun x51 =>
  (chr1 (v2 + v3)).bind fun x57 =>
  if x51 = x57 then
  (f_X10_word_15 R4 n v1 v2 (v3 + 1) S)
  else
  (f_X10_word_69 R4 v1 v2 v3 S)))

def f_X10_word_4 : Nat → Int32 → Int32 → Mem → Option (Int32 × Mem)
  | 0, _, _, _ => none
  | n + 1, v1, v2, S =>
  if (111 : Int32) ≤ v2 then
  (some ((-1 : Int32), S))
  else
  (f_X10_word_15 (f_X10_word_4 n) FU v1 v2 (0 : Int32) S)

def f_X10_word (S : Mem) : Option (Int32 × Mem) :=
  f_X10_word_4 FU (0 : Int32) (0 : Int32) S

set_option maxHeartbeats 4000000 in
set_option maxRecDepth 100000 in
theorem c_X10_word_97 {X : XT} {loc : Nat → Nat} {r : Int32} {Sf : Mem} (hX : AC X loc RX10 cX10_word (some .int) 4 4 0 0) (hQ : RetI X SKM loc 0 0 r Sf) {R4 : Int32 → Int32 → Mem → Option (Int32 × Mem)} (IH4 : ∀ (v1 : Int32) (v2 : Int32) (S : Mem), R4 v1 v2 S = some (r, Sf) → AW X SKM loc 0 0 4 [(0, .ref 0), (1, .int v1), (2, .int v2)] [] S) : ∀ (n : Nat) (v1 : Int32) (v2 : Int32) (S : Mem), f_X10_word_97 R4 n v1 v2 S = some (r, Sf) → AW X SKM loc 0 0 97 [(0, .ref 0), (1, .int v1), (2, .int v2)] [] S := by
  intro n
  induction n with
  | zero => intro v1 v2 S h; cases h
  | succ n ih =>
    intro v1 v2 S h
    unfold f_X10_word_97 at h
    refine aw_str1 (pc := 97) hX dX10_word_97 ?_
    refine aw_iload_n (pc := 99) hX dX10_word_99 rfl 2 rfl ?_
    obtain ⟨x100, hx100, h⟩ := ob h
    refine aw_chr1 (pc := 100) hX hx100 (by decide) (Nat.le_of_ble_eq_true rfl) dX10_word_100 (Nat.le_refl 0) (Nat.le_refl 0) ?_
    refine aw_bipush (v := (32 : Int32)) (pc := 103) hX dX10_word_103 (by decide) ?_
    refine aw_icmp_eq (pc := 105) hX (tgt := 114) dX10_word_105 (by decide) (fun c105 => ?_) (fun c105 => ?_)
    · rw [if_pos c105] at h
      refine aw_iinc (v := (v2 + 1)) (ls' := [(2, .int (v2 + 1)), (0, .ref 0), (1, .int v1)]) (pc := 114) hX dX10_word_114 (pos := 2) rfl (by first | rfl | decide) (by decide) rfl ?_
      refine aw_iinc (v := (v1 + 1)) (ls' := [(1, .int (v1 + 1)), (2, .int (v2 + 1)), (0, .ref 0)]) (pc := 117) hX dX10_word_117 (pos := 2) rfl (by first | rfl | decide) (by decide) rfl ?_
      refine aw_goto (tgt := 4) (pc := 120) hX dX10_word_120 (by decide) ?_
      refine aw_sub (ls' := [(0, .ref 0), (1, .int (v1 + 1)), (2, .int (v2 + 1))]) [2, 0, 1] rfl ?_
      exact IH4 (v1 + 1) (v2 + 1) S h
    · rw [if_neg c105] at h
      refine aw_iinc (v := (v2 + 1)) (ls' := [(2, .int (v2 + 1)), (0, .ref 0), (1, .int v1)]) (pc := 108) hX dX10_word_108 (pos := 2) rfl (by first | rfl | decide) (by decide) rfl ?_
      refine aw_goto (tgt := 97) (pc := 111) hX dX10_word_111 (by decide) ?_
      refine aw_sub (ls' := [(0, .ref 0), (1, .int v1), (2, .int (v2 + 1))]) [1, 2, 0] rfl ?_
      exact ih v1 (v2 + 1) S h

set_option maxHeartbeats 4000000 in
set_option maxRecDepth 100000 in
theorem c_X10_word_69 {X : XT} {loc : Nat → Nat} {r : Int32} {Sf : Mem} (hX : AC X loc RX10 cX10_word (some .int) 4 4 0 0) (hQ : RetI X SKM loc 0 0 r Sf) {R4 : Int32 → Int32 → Mem → Option (Int32 × Mem)} (IH4 : ∀ (v1 : Int32) (v2 : Int32) (S : Mem), R4 v1 v2 S = some (r, Sf) → AW X SKM loc 0 0 4 [(0, .ref 0), (1, .int v1), (2, .int v2)] [] S) (v1 : Int32) (v2 : Int32) (v3 : Int32) (S : Mem) (h : f_X10_word_69 R4 v1 v2 v3 S = some (r, Sf)) : AW X SKM loc 0 0 69 [(0, .ref 0), (1, .int v1), (2, .int v2), (3, .int v3)] [] S := by
  unfold f_X10_word_69 at h
  refine aw_str1 (pc := 69) hX dX10_word_69 ?_
  refine aw_iload_n (pc := 71) hX dX10_word_71 rfl 2 rfl ?_
  refine aw_iload_n (pc := 72) hX dX10_word_72 rfl 3 rfl ?_
  refine aw_iadd (pc := 73) hX dX10_word_73 ?_
  obtain ⟨x74, hx74, h⟩ := ob h
  refine aw_chr1 (pc := 74) hX hx74 (by decide) (Nat.le_of_ble_eq_true rfl) dX10_word_74 (Nat.le_refl 0) (Nat.le_refl 0) ?_
  refine aw_bipush (v := (32 : Int32)) (pc := 77) hX dX10_word_77 (by decide) ?_
  refine aw_icmp_ne (pc := 79) hX (tgt := 97) dX10_word_79 (by decide) (fun c79 => ?_) (fun c79 => ?_)
  · rw [if_neg c79] at h
    refine aw_sub (ls' := [(0, .ref 0), (1, .int v1), (2, .int v2)]) [0, 1, 2] rfl ?_
    exact c_X10_word_97 hX hQ IH4 FU v1 v2 S h
  · rw [if_pos c79] at h
    refine aw_aload_n (pc := 82) hX dX10_word_82 rfl 0 rfl ?_
    refine gf_X10_140 (pc := 83) hX km0 rfl dX10_word_83 ?_
    refine aw_iload_n (pc := 86) hX dX10_word_86 rfl 3 rfl ?_
    refine aw_iadd (pc := 87) hX dX10_word_87 ?_
    refine aw_aload_n (pc := 88) hX dX10_word_88 rfl 0 rfl ?_
    refine gf_X10_130 (pc := 89) hX km0 rfl dX10_word_89 ?_
    refine aw_icmp_ne (pc := 92) hX (tgt := 97) dX10_word_92 (by decide) (fun c92 => ?_) (fun c92 => ?_)
    · rw [if_neg c92] at h
      refine aw_sub (ls' := [(0, .ref 0), (1, .int v1), (2, .int v2)]) [0, 1, 2] rfl ?_
      exact c_X10_word_97 hX hQ IH4 FU v1 v2 S h
    · rw [if_pos c92] at h
      refine aw_iload_n (pc := 95) hX dX10_word_95 rfl 1 rfl ?_
      cases h
      exact aw_iret hX hQ dX10_word_96

set_option maxHeartbeats 4000000 in
set_option maxRecDepth 100000 in
theorem c_X10_word_15 {X : XT} {loc : Nat → Nat} {r : Int32} {Sf : Mem} (hX : AC X loc RX10 cX10_word (some .int) 4 4 0 0) (hQ : RetI X SKM loc 0 0 r Sf) {R4 : Int32 → Int32 → Mem → Option (Int32 × Mem)} (IH4 : ∀ (v1 : Int32) (v2 : Int32) (S : Mem), R4 v1 v2 S = some (r, Sf) → AW X SKM loc 0 0 4 [(0, .ref 0), (1, .int v1), (2, .int v2)] [] S) : ∀ (n : Nat) (v1 : Int32) (v2 : Int32) (v3 : Int32) (S : Mem), f_X10_word_15 R4 n v1 v2 v3 S = some (r, Sf) → AW X SKM loc 0 0 15 [(0, .ref 0), (1, .int v1), (2, .int v2), (3, .int v3)] [] S := by
  intro n
  induction n with
  | zero => intro v1 v2 v3 S h; cases h
  | succ n ih =>
    intro v1 v2 v3 S h
    unfold f_X10_word_15 at h
    refine aw_str1 (pc := 15) hX dX10_word_15 ?_
    refine aw_iload_n (pc := 17) hX dX10_word_17 rfl 2 rfl ?_
    refine aw_iload_n (pc := 18) hX dX10_word_18 rfl 3 rfl ?_
    refine aw_iadd (pc := 19) hX dX10_word_19 ?_
    obtain ⟨x20, hx20, h⟩ := ob h
    refine aw_chr1 (pc := 20) hX hx20 (by decide) (Nat.le_of_ble_eq_true rfl) dX10_word_20 (Nat.le_refl 0) (Nat.le_refl 0) ?_
    refine aw_bipush (v := (32 : Int32)) (pc := 23) hX dX10_word_23 (by decide) ?_
    refine aw_icmp_eq (pc := 25) hX (tgt := 69) dX10_word_25 (by decide) (fun c25 => ?_) (fun c25 => ?_)
    · rw [if_pos c25] at h
      exact c_X10_word_69 hX hQ IH4 v1 v2 v3 S h
    · rw [if_neg c25] at h
      refine aw_aload_n (pc := 28) hX dX10_word_28 rfl 0 rfl ?_
      refine gf_X10_140 (pc := 29) hX km0 rfl dX10_word_29 ?_
      refine aw_iload_n (pc := 32) hX dX10_word_32 rfl 3 rfl ?_
      refine aw_iadd (pc := 33) hX dX10_word_33 ?_
      refine aw_aload_n (pc := 34) hX dX10_word_34 rfl 0 rfl ?_
      refine gf_X10_130 (pc := 35) hX km0 rfl dX10_word_35 ?_
      refine aw_icmp_ge (pc := 38) hX (tgt := 69) dX10_word_38 (by decide) (fun c38 => ?_) (fun c38 => ?_)
      · rw [if_pos c38] at h
        exact c_X10_word_69 hX hQ IH4 v1 v2 v3 S h
      · rw [if_neg c38] at h
        refine aw_aload_n (pc := 41) hX dX10_word_41 rfl 0 rfl ?_
        refine gf_X10_7 (pc := 42) hX km0 rfl dX10_word_42 ?_
        refine aw_aload_n (pc := 45) hX dX10_word_45 rfl 0 rfl ?_
        refine gf_X10_140 (pc := 46) hX km0 rfl dX10_word_46 ?_
        refine aw_iload_n (pc := 49) hX dX10_word_49 rfl 3 rfl ?_
        refine aw_iadd (pc := 50) hX dX10_word_50 ?_
        obtain ⟨x51, hx51, h⟩ := ob h
        refine aw_iald (pc := 51) hX km1 hx51 dX10_word_51 ?_
        refine aw_str1 (pc := 52) hX dX10_word_52 ?_
        refine aw_iload_n (pc := 54) hX dX10_word_54 rfl 2 rfl ?_
        refine aw_iload_n (pc := 55) hX dX10_word_55 rfl 3 rfl ?_
        refine aw_iadd (pc := 56) hX dX10_word_56 ?_
        obtain ⟨x57, hx57, h⟩ := ob h
        refine aw_chr1 (pc := 57) hX hx57 (by decide) (Nat.le_of_ble_eq_true rfl) dX10_word_57 (Nat.le_refl 0) (Nat.le_refl 0) ?_
        refine aw_icmp_ne (pc := 60) hX (tgt := 69) dX10_word_60 (by decide) (fun c60 => ?_) (fun c60 => ?_)
        · rw [if_neg c60] at h
          exact c_X10_word_69 hX hQ IH4 v1 v2 v3 S h
        · rw [if_pos c60] at h
          refine aw_iinc (v := (v3 + 1)) (ls' := [(3, .int (v3 + 1)), (0, .ref 0), (1, .int v1), (2, .int v2)]) (pc := 63) hX dX10_word_63 (pos := 3) rfl (by first | rfl | decide) (by decide) rfl ?_
          refine aw_goto (tgt := 15) (pc := 66) hX dX10_word_66 (by decide) ?_
          refine aw_sub (ls' := [(0, .ref 0), (1, .int v1), (2, .int v2), (3, .int (v3 + 1))]) [1, 2, 3, 0] rfl ?_
          exact ih v1 v2 (v3 + 1) S h

set_option maxHeartbeats 4000000 in
set_option maxRecDepth 100000 in
theorem c_X10_word_4 {X : XT} {loc : Nat → Nat} {r : Int32} {Sf : Mem} (hX : AC X loc RX10 cX10_word (some .int) 4 4 0 0) (hQ : RetI X SKM loc 0 0 r Sf) : ∀ (n : Nat) (v1 : Int32) (v2 : Int32) (S : Mem), f_X10_word_4 n v1 v2 S = some (r, Sf) → AW X SKM loc 0 0 4 [(0, .ref 0), (1, .int v1), (2, .int v2)] [] S := by
  intro n
  induction n with
  | zero => intro v1 v2 S h; cases h
  | succ n ih =>
    intro v1 v2 S h
    unfold f_X10_word_4 at h
    refine aw_iload_n (pc := 4) hX dX10_word_4 rfl 2 rfl ?_
    refine aw_str1 (pc := 5) hX dX10_word_5 ?_
    refine aw_slen1 (pc := 7) hX (by decide) (Nat.le_of_ble_eq_true rfl) dX10_word_7 (Nat.le_refl 0) (Nat.le_refl 0) ?_
    refine aw_icmp_ge (pc := 10) hX (tgt := 123) dX10_word_10 (by decide) (fun c10 => ?_) (fun c10 => ?_)
    · rw [if_pos c10] at h
      refine aw_iconst (v := (-1 : Int32)) (pc := 123) hX dX10_word_123 (by decide) ?_
      cases h
      exact aw_iret hX hQ dX10_word_124
    · rw [if_neg c10] at h
      refine aw_iconst (v := (0 : Int32)) (pc := 13) hX dX10_word_13 (by decide) ?_
      refine aw_istore_n (ls' := [(3, .int (0 : Int32)), (0, .ref 0), (1, .int v1), (2, .int v2)]) (pc := 14) hX dX10_word_14 rfl (by decide) rfl ?_
      refine aw_sub (ls' := [(0, .ref 0), (1, .int v1), (2, .int v2), (3, .int (0 : Int32))]) [1, 2, 3, 0] rfl ?_
      exact c_X10_word_15 hX hQ ih FU v1 v2 (0 : Int32) S h

set_option maxHeartbeats 4000000 in
set_option maxRecDepth 100000 in
theorem c_X10_word {S : Mem} {r : Int32} {Sf : Mem} (h : f_X10_word S = some (r, Sf)) : MetI yX10_word cX10_word 4 (some .int) 4 [.ref 0] SKM S r Sf := by
  refine MetI.intro (by decide +kernel) (Nat.le_of_ble_eq_true rfl) (fun X loc hX hQ => ?_)
  unfold f_X10_word at h
  show AW X SKM loc 0 0 0 [(0, .ref 0)] [] S
  refine aw_iconst (v := (0 : Int32)) (pc := 0) hX dX10_word_0 (by decide) ?_
  refine aw_istore_n (ls' := [(1, .int (0 : Int32)), (0, .ref 0)]) (pc := 1) hX dX10_word_1 rfl (by decide) rfl ?_
  refine aw_iconst (v := (0 : Int32)) (pc := 2) hX dX10_word_2 (by decide) ?_
  refine aw_istore_n (ls' := [(2, .int (0 : Int32)), (1, .int (0 : Int32)), (0, .ref 0)]) (pc := 3) hX dX10_word_3 rfl (by decide) rfl ?_
  refine aw_sub (ls' := [(0, .ref 0), (1, .int (0 : Int32)), (2, .int (0 : Int32))]) [2, 1, 0] rfl ?_
  exact c_X10_word_4 hX hQ FU (0 : Int32) (0 : Int32) S h

def f_X10_token_18 (R0 : Mem → Option Mem) (S : Mem) : Option Mem :=
  nxt (sI S 0 18 ((S.1 0 18) + (1 : Int32))) fun S25 =>
  R0 S25

def f_X10_token_204 (R162 : Mem → Option Mem) (t1 : Int32) (S : Mem) : Option Mem :=
  nxt (sI S 0 21 t1) fun S204 =>
  nxt (sI S204 0 18 ((S204.1 0 18) + (1 : Int32))) fun S214 =>
  R162 S214

def f_X10_token_162 : Nat → Mem → Option Mem
  | 0, _ => none
  | n + 1, S =>
  bnd (f_X10_here S) fun r163 S163 =>
  bnd (f_X10_isDigit r163 S163) fun r166 S166 =>
  if r166 = 0 then
  (some S166)
  else
  (if (S166.1 0 21) ≤ (99999 : Int32) then
  (bnd (f_X10_here S166) fun r197 S197 =>
  f_X10_token_204 (f_X10_token_162 n) ((((10 : Int32) * (S166.1 0 21)) + r197) - (48 : Int32)) S197)
  else
  (f_X10_token_204 (f_X10_token_162 n) (S166.1 0 21) S166))

def f_X10_token_127 (t1 : Int32) (S : Mem) : Option Mem :=
  nxt (sI S 0 20 t1) fun S127 =>
  if (S127.1 0 20) = (1 : Int32) then
  ((f_X10_name S127).bind fun S139 =>
  some S139)
  else
  (some S127)

def f_X10_token_64 : Nat → Mem → Option Mem
  | 0, _ => none
  | n + 1, S =>
  bnd (f_X10_here S) fun r65 S65 =>
  bnd (f_X10_isSmall r65 S65) fun r68 S68 =>
  if r68 = 0 then
  (bnd (f_X10_word S68) fun r89 S89 =>
  nxt (sI S89 0 21 r89) fun S92 =>
  if (S92.1 0 21) = (-1 : Int32) then
  (if ((S92.1 0 18) - (S92.1 0 19)) ≤ (6 : Int32) then
  (f_X10_token_127 (1 : Int32) S92)
  else
  (f_X10_token_127 (5 : Int32) S92))
  else
  (f_X10_token_127 (0 : Int32) S92))
  else
  (nxt (sI S68 0 18 ((S68.1 0 18) + (1 : Int32))) fun S81 =>
  f_X10_token_64 n S81)

def f_X10_token_0 : Nat → Mem → Option Mem
  | 0, _ => none
  | n + 1, S =>
  bnd (f_X10_here S) fun r1 S1 =>
  if r1 = (10 : Int32) then
  (f_X10_token_18 (f_X10_token_0 n) S1)
  else
  (bnd (f_X10_here S1) fun r10 S10 =>
  if r10 = (32 : Int32) then
  (f_X10_token_18 (f_X10_token_0 n) S10)
  else
  (nxt (sI S10 0 19 (S10.1 0 18)) fun S36 =>
  bnd (f_X10_here S36) fun r40 S40 =>
  if r40 = (-1 : Int32) then
  (nxt (sI S40 0 20 (4 : Int32)) fun S51 =>
  some S51)
  else
  (bnd (f_X10_isSmall r40 S40) fun r58 S58 =>
  if r58 = 0 then
  (bnd (f_X10_isDigit r40 S58) fun r146 S146 =>
  if r146 = 0 then
  ((f_X10_sign r40 S146).bind fun S222 =>
  some S222)
  else
  (nxt (sI S146 0 20 (2 : Int32)) fun S154 =>
  nxt (sI S154 0 21 (0 : Int32)) fun S159 =>
  f_X10_token_162 FU S159))
  else
  (f_X10_token_64 FU S58))))

def f_X10_token (S : Mem) : Option Mem :=
  f_X10_token_0 FU S

set_option maxHeartbeats 4000000 in
set_option maxRecDepth 100000 in
theorem c_X10_token_18 {X : XT} {loc : Nat → Nat} {Sf : Mem} (hX : AC X loc RX10 cX10_token none 2 5 0 0) (hQ : RetV X SKM loc 0 0 Sf) {R0 : Mem → Option Mem} (IH0 : ∀ (S : Mem), R0 S = some Sf → AW X SKM loc 0 0 0 [(0, .ref 0)] [] S) (S : Mem) (h : f_X10_token_18 R0 S = some Sf) : AW X SKM loc 0 0 18 [(0, .ref 0)] [] S := by
  unfold f_X10_token_18 at h
  refine aw_aload_n (pc := 18) hX dX10_token_18 rfl 0 rfl ?_
  refine aw_dup (pc := 19) hX dX10_token_19 rfl ?_
  refine gf_X10_130 (pc := 20) hX km0 rfl dX10_token_20 ?_
  refine aw_iconst (v := (1 : Int32)) (pc := 23) hX dX10_token_23 (by decide) ?_
  refine aw_iadd (pc := 24) hX dX10_token_24 ?_
  refine pf_X10_130 (pc := 25) hX km0 rfl dX10_token_25 ?_
  obtain ⟨S25, eS25, h⟩ := on h
  refine aw_S eS25 ?_
  refine aw_goto (tgt := 0) (pc := 28) hX dX10_token_28 (by decide) ?_
  exact IH0 S25 h

set_option maxHeartbeats 4000000 in
set_option maxRecDepth 100000 in
theorem c_X10_token_204 {X : XT} {loc : Nat → Nat} {Sf : Mem} (hX : AC X loc RX10 cX10_token none 2 5 0 0) (hQ : RetV X SKM loc 0 0 Sf) {R162 : Mem → Option Mem} (IH162 : ∀ (S : Mem), R162 S = some Sf → AW X SKM loc 0 0 162 [(0, .ref 0)] [] S) (t1 : Int32) (S : Mem) (h : f_X10_token_204 R162 t1 S = some Sf) : AW X SKM loc 0 0 204 [(0, .ref 0)] [.int t1, .ref 0] S := by
  unfold f_X10_token_204 at h
  refine pf_X10_153 (pc := 204) hX km0 rfl dX10_token_204 ?_
  obtain ⟨S204, eS204, h⟩ := on h
  refine aw_S eS204 ?_
  refine aw_aload_n (pc := 207) hX dX10_token_207 rfl 0 rfl ?_
  refine aw_dup (pc := 208) hX dX10_token_208 rfl ?_
  refine gf_X10_130 (pc := 209) hX km0 rfl dX10_token_209 ?_
  refine aw_iconst (v := (1 : Int32)) (pc := 212) hX dX10_token_212 (by decide) ?_
  refine aw_iadd (pc := 213) hX dX10_token_213 ?_
  refine pf_X10_130 (pc := 214) hX km0 rfl dX10_token_214 ?_
  obtain ⟨S214, eS214, h⟩ := on h
  refine aw_S eS214 ?_
  refine aw_goto (tgt := 162) (pc := 217) hX dX10_token_217 (by decide) ?_
  exact IH162 S214 h

set_option maxHeartbeats 4000000 in
set_option maxRecDepth 100000 in
theorem c_X10_token_162 {X : XT} {loc : Nat → Nat} {Sf : Mem} (hX : AC X loc RX10 cX10_token none 2 5 0 0) (hQ : RetV X SKM loc 0 0 Sf) : ∀ (n : Nat) (S : Mem), f_X10_token_162 n S = some Sf → AW X SKM loc 0 0 162 [(0, .ref 0)] [] S := by
  intro n
  induction n with
  | zero => intro S h; cases h
  | succ n ih =>
    intro S h
    unfold f_X10_token_162 at h
    refine aw_aload_n (pc := 162) hX dX10_token_162 rfl 0 rfl ?_
    obtain ⟨r163, S163, hr163, h⟩ := ob2 h
    refine aw_cVI (pc := 163) (As := []) (rest := []) hX (c_X10_here hr163) ok_X10_here kw_6_127 im_X10_here se_X10_here rfl km0 rfl (by decide) (Nat.le_of_ble_eq_true rfl) rfl dX10_token_163 (Nat.le_refl 0) (Nat.le_refl 0) ?_
    obtain ⟨r166, S166, hr166, h⟩ := ob2 h
    refine aw_cSI (pc := 166) (As := [.int r163]) (rest := []) hX (c_X10_isDigit (sk := SKM) hr166) ok_X10_isDigit kw_6_145 st_X10_isDigit rfl (by decide) (Nat.le_of_ble_eq_true rfl) rfl dX10_token_166 (Nat.le_refl 0) (Nat.le_refl 0) ?_
    refine aw_if_eq (pc := 169) hX (tgt := 225) dX10_token_169 (by decide) (fun c169 => ?_) (fun c169 => ?_)
    · rw [if_pos c169] at h
      cases h
      exact aw_vret hX hQ dX10_token_225
    · rw [if_neg c169] at h
      refine aw_aload_n (pc := 172) hX dX10_token_172 rfl 0 rfl ?_
      refine aw_aload_n (pc := 173) hX dX10_token_173 rfl 0 rfl ?_
      refine gf_X10_153 (pc := 174) hX km0 rfl dX10_token_174 ?_
      refine aw_ldc (v := (99999 : Int32)) (pc := 177) hX kw_6_148 dX10_token_177 ?_
      refine aw_icmp_le (pc := 179) hX (tgt := 189) dX10_token_179 (by decide) (fun c179 => ?_) (fun c179 => ?_)
      · rw [if_pos c179] at h
        refine aw_bipush (v := (10 : Int32)) (pc := 189) hX dX10_token_189 (by decide) ?_
        refine aw_aload_n (pc := 191) hX dX10_token_191 rfl 0 rfl ?_
        refine gf_X10_153 (pc := 192) hX km0 rfl dX10_token_192 ?_
        refine aw_imul (pc := 195) hX dX10_token_195 ?_
        refine aw_aload_n (pc := 196) hX dX10_token_196 rfl 0 rfl ?_
        obtain ⟨r197, S197, hr197, h⟩ := ob2 h
        refine aw_cVI (pc := 197) (As := []) (rest := [.int ((10 : Int32) * (S166.1 0 21)), .ref 0]) hX (c_X10_here hr197) ok_X10_here kw_6_127 im_X10_here se_X10_here rfl km0 rfl (by decide) (Nat.le_of_ble_eq_true rfl) rfl dX10_token_197 (Nat.le_refl 0) (Nat.le_refl 0) ?_
        refine aw_iadd (pc := 200) hX dX10_token_200 ?_
        refine aw_bipush (v := (48 : Int32)) (pc := 201) hX dX10_token_201 (by decide) ?_
        refine aw_isub (pc := 203) hX dX10_token_203 ?_
        exact c_X10_token_204 hX hQ ih ((((10 : Int32) * (S166.1 0 21)) + r197) - (48 : Int32)) S197 h
      · rw [if_neg c179] at h
        refine aw_aload_n (pc := 182) hX dX10_token_182 rfl 0 rfl ?_
        refine gf_X10_153 (pc := 183) hX km0 rfl dX10_token_183 ?_
        refine aw_goto (tgt := 204) (pc := 186) hX dX10_token_186 (by decide) ?_
        exact c_X10_token_204 hX hQ ih (S166.1 0 21) S166 h

set_option maxHeartbeats 4000000 in
set_option maxRecDepth 100000 in
theorem c_X10_token_127 {X : XT} {loc : Nat → Nat} {Sf : Mem} (hX : AC X loc RX10 cX10_token none 2 5 0 0) (hQ : RetV X SKM loc 0 0 Sf) (t1 : Int32) (S : Mem) (h : f_X10_token_127 t1 S = some Sf) : AW X SKM loc 0 0 127 [(0, .ref 0)] [.int t1, .ref 0] S := by
  unfold f_X10_token_127 at h
  refine pf_X10_143 (pc := 127) hX km0 rfl dX10_token_127 ?_
  obtain ⟨S127, eS127, h⟩ := on h
  refine aw_S eS127 ?_
  refine aw_aload_n (pc := 130) hX dX10_token_130 rfl 0 rfl ?_
  refine gf_X10_143 (pc := 131) hX km0 rfl dX10_token_131 ?_
  refine aw_iconst (v := (1 : Int32)) (pc := 134) hX dX10_token_134 (by decide) ?_
  refine aw_icmp_ne (pc := 135) hX (tgt := 225) dX10_token_135 (by decide) (fun c135 => ?_) (fun c135 => ?_)
  · rw [if_neg c135] at h
    cases h
    exact aw_vret hX hQ dX10_token_225
  · rw [if_pos c135] at h
    refine aw_aload_n (pc := 138) hX dX10_token_138 rfl 0 rfl ?_
    obtain ⟨S139, hr139, h⟩ := ob h
    refine aw_cVV (pc := 139) (As := []) (rest := []) hX (c_X10_name hr139) ok_X10_name kw_6_141 im_X10_name se_X10_name rfl km0 rfl (by decide) (Nat.le_of_ble_eq_true rfl) rfl dX10_token_139 (Nat.le_refl 0) (Nat.le_refl 0) ?_
    refine aw_goto (tgt := 225) (pc := 142) hX dX10_token_142 (by decide) ?_
    cases h
    exact aw_vret hX hQ dX10_token_225

set_option maxHeartbeats 4000000 in
set_option maxRecDepth 100000 in
theorem c_X10_token_64 {X : XT} {loc : Nat → Nat} {Sf : Mem} (hX : AC X loc RX10 cX10_token none 2 5 0 0) (hQ : RetV X SKM loc 0 0 Sf) : ∀ (n : Nat) (S : Mem), f_X10_token_64 n S = some Sf → AW X SKM loc 0 0 64 [(0, .ref 0)] [] S := by
  intro n
  induction n with
  | zero => intro S h; cases h
  | succ n ih =>
    intro S h
    unfold f_X10_token_64 at h
    refine aw_aload_n (pc := 64) hX dX10_token_64 rfl 0 rfl ?_
    obtain ⟨r65, S65, hr65, h⟩ := ob2 h
    refine aw_cVI (pc := 65) (As := []) (rest := []) hX (c_X10_here hr65) ok_X10_here kw_6_127 im_X10_here se_X10_here rfl km0 rfl (by decide) (Nat.le_of_ble_eq_true rfl) rfl dX10_token_65 (Nat.le_refl 0) (Nat.le_refl 0) ?_
    obtain ⟨r68, S68, hr68, h⟩ := ob2 h
    refine aw_cSI (pc := 68) (As := [.int r65]) (rest := []) hX (c_X10_isSmall (sk := SKM) hr68) ok_X10_isSmall kw_6_131 st_X10_isSmall rfl (by decide) (Nat.le_of_ble_eq_true rfl) rfl dX10_token_68 (Nat.le_refl 0) (Nat.le_refl 0) ?_
    refine aw_if_eq (pc := 71) hX (tgt := 87) dX10_token_71 (by decide) (fun c71 => ?_) (fun c71 => ?_)
    · rw [if_pos c71] at h
      refine aw_aload_n (pc := 87) hX dX10_token_87 rfl 0 rfl ?_
      refine aw_aload_n (pc := 88) hX dX10_token_88 rfl 0 rfl ?_
      obtain ⟨r89, S89, hr89, h⟩ := ob2 h
      refine aw_cVI (pc := 89) (As := []) (rest := [.ref 0]) hX (c_X10_word hr89) ok_X10_word kw_6_134 im_X10_word se_X10_word rfl km0 rfl (by decide) (Nat.le_of_ble_eq_true rfl) rfl dX10_token_89 (Nat.le_refl 0) (Nat.le_refl 0) ?_
      refine pf_X10_153 (pc := 92) hX km0 rfl dX10_token_92 ?_
      obtain ⟨S92, eS92, h⟩ := on h
      refine aw_S eS92 ?_
      refine aw_aload_n (pc := 95) hX dX10_token_95 rfl 0 rfl ?_
      refine aw_aload_n (pc := 96) hX dX10_token_96 rfl 0 rfl ?_
      refine gf_X10_153 (pc := 97) hX km0 rfl dX10_token_97 ?_
      refine aw_iconst (v := (-1 : Int32)) (pc := 100) hX dX10_token_100 (by decide) ?_
      refine aw_icmp_eq (pc := 101) hX (tgt := 108) dX10_token_101 (by decide) (fun c101 => ?_) (fun c101 => ?_)
      · rw [if_pos c101] at h
        refine aw_aload_n (pc := 108) hX dX10_token_108 rfl 0 rfl ?_
        refine gf_X10_130 (pc := 109) hX km0 rfl dX10_token_109 ?_
        refine aw_aload_n (pc := 112) hX dX10_token_112 rfl 0 rfl ?_
        refine gf_X10_140 (pc := 113) hX km0 rfl dX10_token_113 ?_
        refine aw_isub (pc := 116) hX dX10_token_116 ?_
        refine aw_bipush (v := (6 : Int32)) (pc := 117) hX dX10_token_117 (by decide) ?_
        refine aw_icmp_le (pc := 119) hX (tgt := 126) dX10_token_119 (by decide) (fun c119 => ?_) (fun c119 => ?_)
        · rw [if_pos c119] at h
          refine aw_iconst (v := (1 : Int32)) (pc := 126) hX dX10_token_126 (by decide) ?_
          exact c_X10_token_127 hX hQ (1 : Int32) S92 h
        · rw [if_neg c119] at h
          refine aw_iconst (v := (5 : Int32)) (pc := 122) hX dX10_token_122 (by decide) ?_
          refine aw_goto (tgt := 127) (pc := 123) hX dX10_token_123 (by decide) ?_
          exact c_X10_token_127 hX hQ (5 : Int32) S92 h
      · rw [if_neg c101] at h
        refine aw_iconst (v := (0 : Int32)) (pc := 104) hX dX10_token_104 (by decide) ?_
        refine aw_goto (tgt := 127) (pc := 105) hX dX10_token_105 (by decide) ?_
        exact c_X10_token_127 hX hQ (0 : Int32) S92 h
    · rw [if_neg c71] at h
      refine aw_aload_n (pc := 74) hX dX10_token_74 rfl 0 rfl ?_
      refine aw_dup (pc := 75) hX dX10_token_75 rfl ?_
      refine gf_X10_130 (pc := 76) hX km0 rfl dX10_token_76 ?_
      refine aw_iconst (v := (1 : Int32)) (pc := 79) hX dX10_token_79 (by decide) ?_
      refine aw_iadd (pc := 80) hX dX10_token_80 ?_
      refine pf_X10_130 (pc := 81) hX km0 rfl dX10_token_81 ?_
      obtain ⟨S81, eS81, h⟩ := on h
      refine aw_S eS81 ?_
      refine aw_goto (tgt := 64) (pc := 84) hX dX10_token_84 (by decide) ?_
      exact ih S81 h

set_option maxHeartbeats 4000000 in
set_option maxRecDepth 100000 in
theorem c_X10_token_0 {X : XT} {loc : Nat → Nat} {Sf : Mem} (hX : AC X loc RX10 cX10_token none 2 5 0 0) (hQ : RetV X SKM loc 0 0 Sf) : ∀ (n : Nat) (S : Mem), f_X10_token_0 n S = some Sf → AW X SKM loc 0 0 0 [(0, .ref 0)] [] S := by
  intro n
  induction n with
  | zero => intro S h; cases h
  | succ n ih =>
    intro S h
    unfold f_X10_token_0 at h
    refine aw_aload_n (pc := 0) hX dX10_token_0 rfl 0 rfl ?_
    obtain ⟨r1, S1, hr1, h⟩ := ob2 h
    refine aw_cVI (pc := 1) (As := []) (rest := []) hX (c_X10_here hr1) ok_X10_here kw_6_127 im_X10_here se_X10_here rfl km0 rfl (by decide) (Nat.le_of_ble_eq_true rfl) rfl dX10_token_1 (Nat.le_refl 0) (Nat.le_refl 0) ?_
    refine aw_bipush (v := (10 : Int32)) (pc := 4) hX dX10_token_4 (by decide) ?_
    refine aw_icmp_eq (pc := 6) hX (tgt := 18) dX10_token_6 (by decide) (fun c6 => ?_) (fun c6 => ?_)
    · rw [if_pos c6] at h
      exact c_X10_token_18 hX hQ ih S1 h
    · rw [if_neg c6] at h
      refine aw_aload_n (pc := 9) hX dX10_token_9 rfl 0 rfl ?_
      obtain ⟨r10, S10, hr10, h⟩ := ob2 h
      refine aw_cVI (pc := 10) (As := []) (rest := []) hX (c_X10_here hr10) ok_X10_here kw_6_127 im_X10_here se_X10_here rfl km0 rfl (by decide) (Nat.le_of_ble_eq_true rfl) rfl dX10_token_10 (Nat.le_refl 0) (Nat.le_refl 0) ?_
      refine aw_bipush (v := (32 : Int32)) (pc := 13) hX dX10_token_13 (by decide) ?_
      refine aw_icmp_ne (pc := 15) hX (tgt := 31) dX10_token_15 (by decide) (fun c15 => ?_) (fun c15 => ?_)
      · rw [if_neg c15] at h
        refine aw_aload_n (pc := 31) hX dX10_token_31 rfl 0 rfl ?_
        refine aw_aload_n (pc := 32) hX dX10_token_32 rfl 0 rfl ?_
        refine gf_X10_130 (pc := 33) hX km0 rfl dX10_token_33 ?_
        refine pf_X10_140 (pc := 36) hX km0 rfl dX10_token_36 ?_
        obtain ⟨S36, eS36, h⟩ := on h
        refine aw_S eS36 ?_
        refine aw_aload_n (pc := 39) hX dX10_token_39 rfl 0 rfl ?_
        obtain ⟨r40, S40, hr40, h⟩ := ob2 h
        refine aw_cVI (pc := 40) (As := []) (rest := []) hX (c_X10_here hr40) ok_X10_here kw_6_127 im_X10_here se_X10_here rfl km0 rfl (by decide) (Nat.le_of_ble_eq_true rfl) rfl dX10_token_40 (Nat.le_refl 0) (Nat.le_refl 0) ?_
        refine aw_istore_n (ls' := [(1, .int r40), (0, .ref 0)]) (pc := 43) hX dX10_token_43 rfl (by decide) rfl ?_
        refine aw_iload_n (pc := 44) hX dX10_token_44 rfl 0 rfl ?_
        refine aw_iconst (v := (-1 : Int32)) (pc := 45) hX dX10_token_45 (by decide) ?_
        refine aw_icmp_ne (pc := 46) hX (tgt := 57) dX10_token_46 (by decide) (fun c46 => ?_) (fun c46 => ?_)
        · rw [if_neg c46] at h
          refine aw_iload_n (pc := 57) hX dX10_token_57 rfl 0 rfl ?_
          obtain ⟨r58, S58, hr58, h⟩ := ob2 h
          refine aw_cSI (pc := 58) (As := [.int r40]) (rest := []) hX (c_X10_isSmall (sk := SKM) hr58) ok_X10_isSmall kw_6_131 st_X10_isSmall rfl (by decide) (Nat.le_of_ble_eq_true rfl) rfl dX10_token_58 (Nat.le_refl 0) (Nat.le_refl 0) ?_
          refine aw_if_eq (pc := 61) hX (tgt := 145) dX10_token_61 (by decide) (fun c61 => ?_) (fun c61 => ?_)
          · rw [if_pos c61] at h
            refine aw_iload_n (pc := 145) hX dX10_token_145 rfl 0 rfl ?_
            obtain ⟨r146, S146, hr146, h⟩ := ob2 h
            refine aw_cSI (pc := 146) (As := [.int r40]) (rest := []) hX (c_X10_isDigit (sk := SKM) hr146) ok_X10_isDigit kw_6_145 st_X10_isDigit rfl (by decide) (Nat.le_of_ble_eq_true rfl) rfl dX10_token_146 (Nat.le_refl 0) (Nat.le_refl 0) ?_
            refine aw_if_eq (pc := 149) hX (tgt := 220) dX10_token_149 (by decide) (fun c149 => ?_) (fun c149 => ?_)
            · rw [if_pos c149] at h
              refine aw_aload_n (pc := 220) hX dX10_token_220 rfl 1 rfl ?_
              refine aw_iload_n (pc := 221) hX dX10_token_221 rfl 0 rfl ?_
              obtain ⟨S222, hr222, h⟩ := ob h
              refine aw_cVV (pc := 222) (As := [.int r40]) (rest := []) hX (c_X10_sign hr222) ok_X10_sign kw_6_149 im_X10_sign se_X10_sign rfl km0 rfl (by decide) (Nat.le_of_ble_eq_true rfl) rfl dX10_token_222 (Nat.le_refl 0) (Nat.le_refl 0) ?_
              cases h
              exact aw_vret hX hQ dX10_token_225
            · rw [if_neg c149] at h
              refine aw_aload_n (pc := 152) hX dX10_token_152 rfl 1 rfl ?_
              refine aw_iconst (v := (2 : Int32)) (pc := 153) hX dX10_token_153 (by decide) ?_
              refine pf_X10_143 (pc := 154) hX km0 rfl dX10_token_154 ?_
              obtain ⟨S154, eS154, h⟩ := on h
              refine aw_S eS154 ?_
              refine aw_aload_n (pc := 157) hX dX10_token_157 rfl 1 rfl ?_
              refine aw_iconst (v := (0 : Int32)) (pc := 158) hX dX10_token_158 (by decide) ?_
              refine pf_X10_153 (pc := 159) hX km0 rfl dX10_token_159 ?_
              obtain ⟨S159, eS159, h⟩ := on h
              refine aw_S eS159 ?_
              refine aw_sub (ls' := [(0, .ref 0)]) [1] rfl ?_
              exact c_X10_token_162 hX hQ FU S159 h
          · rw [if_neg c61] at h
            refine aw_sub (ls' := [(0, .ref 0)]) [1] rfl ?_
            exact c_X10_token_64 hX hQ FU S58 h
        · rw [if_pos c46] at h
          refine aw_aload_n (pc := 49) hX dX10_token_49 rfl 1 rfl ?_
          refine aw_iconst (v := (4 : Int32)) (pc := 50) hX dX10_token_50 (by decide) ?_
          refine pf_X10_143 (pc := 51) hX km0 rfl dX10_token_51 ?_
          obtain ⟨S51, eS51, h⟩ := on h
          refine aw_S eS51 ?_
          refine aw_goto (tgt := 225) (pc := 54) hX dX10_token_54 (by decide) ?_
          cases h
          exact aw_vret hX hQ dX10_token_225
      · rw [if_pos c15] at h
        exact c_X10_token_18 hX hQ ih S10 h

set_option maxHeartbeats 4000000 in
set_option maxRecDepth 100000 in
theorem c_X10_token {S : Mem} {Sf : Mem} (h : f_X10_token S = some Sf) : MetV yX10_token cX10_token 2 none 5 [.ref 0] SKM S Sf := by
  refine MetV.intro (by decide +kernel) (Nat.le_of_ble_eq_true rfl) (fun X loc hX hQ => ?_)
  unfold f_X10_token at h
  show AW X SKM loc 0 0 0 [(0, .ref 0)] [] S
  exact c_X10_token_0 hX hQ FU S h

def f_X10_goOn (S : Mem) : Option Mem :=
  if (S.1 0 22) = 0 then
  ((f_X10_token S).bind fun S8 =>
  some S8)
  else
  (some S)

set_option maxHeartbeats 4000000 in
set_option maxRecDepth 100000 in
theorem c_X10_goOn {S : Mem} {Sf : Mem} (h : f_X10_goOn S = some Sf) : MetV yX10_goOn cX10_goOn 1 none 6 [.ref 0] SKM S Sf := by
  refine MetV.intro (by decide +kernel) (Nat.le_of_ble_eq_true rfl) (fun X loc hX hQ => ?_)
  unfold f_X10_goOn at h
  show AW X SKM loc 0 0 0 [(0, .ref 0)] [] S
  refine aw_aload_n (pc := 0) hX dX10_goOn_0 rfl 0 rfl ?_
  refine gf_X10_178 (pc := 1) hX km0 rfl dX10_goOn_1 ?_
  refine aw_if_ne (pc := 4) hX (tgt := 11) dX10_goOn_4 (by decide) (fun c4 => ?_) (fun c4 => ?_)
  · rw [if_neg c4] at h
    cases h
    exact aw_vret hX hQ dX10_goOn_11
  · rw [if_pos c4] at h
    refine aw_aload_n (pc := 7) hX dX10_goOn_7 rfl 0 rfl ?_
    obtain ⟨S8, hr8, h⟩ := ob h
    refine aw_cVV (pc := 8) (As := []) (rest := []) hX (c_X10_token hr8) ok_X10_token kw_6_123 im_X10_token se_X10_token rfl km0 rfl (by decide) (Nat.le_of_ble_eq_true rfl) rfl dX10_goOn_8 (Nat.le_refl 0) (Nat.le_refl 0) ?_
    cases h
    exact aw_vret hX hQ dX10_goOn_11

def f_X10_isWord (v1 : Int32) (S : Mem) : Option (Int32 × Mem) :=
  if (S.1 0 22) = 0 then
  (if (S.1 0 20) = 0 then
  (if (S.1 0 21) = v1 then
  (some ((1 : Int32), S))
  else
  (some ((0 : Int32), S)))
  else
  (some ((0 : Int32), S)))
  else
  (some ((0 : Int32), S))

set_option maxHeartbeats 4000000 in
set_option maxRecDepth 100000 in
theorem c_X10_isWord {v1 : Int32} {S : Mem} {r : Int32} {Sf : Mem} (h : f_X10_isWord v1 S = some (r, Sf)) : MetI yX10_isWord cX10_isWord 2 (some .boolean) 0 [.ref 0, .int v1] SKM S r Sf := by
  refine MetI.intro (by decide +kernel) (Nat.le_of_ble_eq_true rfl) (fun X loc hX hQ => ?_)
  unfold f_X10_isWord at h
  show AW X SKM loc 0 0 0 [(0, .ref 0), (1, .int v1)] [] S
  refine aw_aload_n (pc := 0) hX dX10_isWord_0 rfl 0 rfl ?_
  refine gf_X10_178 (pc := 1) hX km0 rfl dX10_isWord_1 ?_
  refine aw_if_ne (pc := 4) hX (tgt := 26) dX10_isWord_4 (by decide) (fun c4 => ?_) (fun c4 => ?_)
  · rw [if_neg c4] at h
    refine aw_iconst (v := (0 : Int32)) (pc := 26) hX dX10_isWord_26 (by decide) ?_
    cases h
    exact aw_zret hX hQ (by decide) dX10_isWord_27
  · rw [if_pos c4] at h
    refine aw_aload_n (pc := 7) hX dX10_isWord_7 rfl 0 rfl ?_
    refine gf_X10_143 (pc := 8) hX km0 rfl dX10_isWord_8 ?_
    refine aw_if_ne (pc := 11) hX (tgt := 26) dX10_isWord_11 (by decide) (fun c11 => ?_) (fun c11 => ?_)
    · rw [if_neg c11] at h
      refine aw_iconst (v := (0 : Int32)) (pc := 26) hX dX10_isWord_26 (by decide) ?_
      cases h
      exact aw_zret hX hQ (by decide) dX10_isWord_27
    · rw [if_pos c11] at h
      refine aw_aload_n (pc := 14) hX dX10_isWord_14 rfl 0 rfl ?_
      refine gf_X10_153 (pc := 15) hX km0 rfl dX10_isWord_15 ?_
      refine aw_iload_n (pc := 18) hX dX10_isWord_18 rfl 1 rfl ?_
      refine aw_icmp_ne (pc := 19) hX (tgt := 26) dX10_isWord_19 (by decide) (fun c19 => ?_) (fun c19 => ?_)
      · rw [if_neg c19] at h
        refine aw_iconst (v := (0 : Int32)) (pc := 26) hX dX10_isWord_26 (by decide) ?_
        cases h
        exact aw_zret hX hQ (by decide) dX10_isWord_27
      · rw [if_pos c19] at h
        refine aw_iconst (v := (1 : Int32)) (pc := 22) hX dX10_isWord_22 (by decide) ?_
        refine aw_goto (tgt := 27) (pc := 23) hX dX10_isWord_23 (by decide) ?_
        cases h
        exact aw_zret hX hQ (by decide) dX10_isWord_27

def f_X10_wrong (v1 : Int32) (S : Mem) : Option Mem :=
  if (S.1 0 22) = 0 then
  (nxt (sI S 0 22 v1) fun S10 =>
  nxt (sI S10 0 23 (S10.1 0 19)) fun S18 =>
  some S18)
  else
  (some S)

set_option maxHeartbeats 4000000 in
set_option maxRecDepth 100000 in
theorem c_X10_wrong {v1 : Int32} {S : Mem} {Sf : Mem} (h : f_X10_wrong v1 S = some Sf) : MetV yX10_wrong cX10_wrong 2 none 0 [.ref 0, .int v1] SKM S Sf := by
  refine MetV.intro (by decide +kernel) (Nat.le_of_ble_eq_true rfl) (fun X loc hX hQ => ?_)
  unfold f_X10_wrong at h
  show AW X SKM loc 0 0 0 [(0, .ref 0), (1, .int v1)] [] S
  refine aw_aload_n (pc := 0) hX dX10_wrong_0 rfl 0 rfl ?_
  refine gf_X10_178 (pc := 1) hX km0 rfl dX10_wrong_1 ?_
  refine aw_if_eq (pc := 4) hX (tgt := 8) dX10_wrong_4 (by decide) (fun c4 => ?_) (fun c4 => ?_)
  · rw [if_pos c4] at h
    refine aw_aload_n (pc := 8) hX dX10_wrong_8 rfl 0 rfl ?_
    refine aw_iload_n (pc := 9) hX dX10_wrong_9 rfl 1 rfl ?_
    refine pf_X10_178 (pc := 10) hX km0 rfl dX10_wrong_10 ?_
    obtain ⟨S10, eS10, h⟩ := on h
    refine aw_S eS10 ?_
    refine aw_aload_n (pc := 13) hX dX10_wrong_13 rfl 0 rfl ?_
    refine aw_aload_n (pc := 14) hX dX10_wrong_14 rfl 0 rfl ?_
    refine gf_X10_140 (pc := 15) hX km0 rfl dX10_wrong_15 ?_
    refine pf_X10_181 (pc := 18) hX km0 rfl dX10_wrong_18 ?_
    obtain ⟨S18, eS18, h⟩ := on h
    refine aw_S eS18 ?_
    cases h
    exact aw_vret hX hQ dX10_wrong_21
  · rw [if_neg c4] at h
    cases h
    exact aw_vret hX hQ dX10_wrong_7

def f_X10_knot (S : Mem) : Option Mem :=
  if (S.1 0 22) = 0 then
  (if (S.1 0 27) = (64 : Int32) then
  ((f_X10_wrong (2 : Int32) S).bind fun S19 =>
  some S19)
  else
  (nxt (sI S 0 27 ((S.1 0 27) + (1 : Int32))) fun S32 =>
  some S32))
  else
  (some S)

set_option maxHeartbeats 4000000 in
set_option maxRecDepth 100000 in
theorem c_X10_knot {S : Mem} {Sf : Mem} (h : f_X10_knot S = some Sf) : MetV yX10_knot cX10_knot 1 none 1 [.ref 0] SKM S Sf := by
  refine MetV.intro (by decide +kernel) (Nat.le_of_ble_eq_true rfl) (fun X loc hX hQ => ?_)
  unfold f_X10_knot at h
  show AW X SKM loc 0 0 0 [(0, .ref 0)] [] S
  refine aw_aload_n (pc := 0) hX dX10_knot_0 rfl 0 rfl ?_
  refine gf_X10_178 (pc := 1) hX km0 rfl dX10_knot_1 ?_
  refine aw_if_eq (pc := 4) hX (tgt := 8) dX10_knot_4 (by decide) (fun c4 => ?_) (fun c4 => ?_)
  · rw [if_pos c4] at h
    refine aw_aload_n (pc := 8) hX dX10_knot_8 rfl 0 rfl ?_
    refine gf_X10_237 (pc := 9) hX km0 rfl dX10_knot_9 ?_
    refine aw_bipush (v := (64 : Int32)) (pc := 12) hX dX10_knot_12 (by decide) ?_
    refine aw_icmp_ne (pc := 14) hX (tgt := 25) dX10_knot_14 (by decide) (fun c14 => ?_) (fun c14 => ?_)
    · rw [if_neg c14] at h
      refine aw_aload_n (pc := 25) hX dX10_knot_25 rfl 0 rfl ?_
      refine aw_dup (pc := 26) hX dX10_knot_26 rfl ?_
      refine gf_X10_237 (pc := 27) hX km0 rfl dX10_knot_27 ?_
      refine aw_iconst (v := (1 : Int32)) (pc := 30) hX dX10_knot_30 (by decide) ?_
      refine aw_iadd (pc := 31) hX dX10_knot_31 ?_
      refine pf_X10_237 (pc := 32) hX km0 rfl dX10_knot_32 ?_
      obtain ⟨S32, eS32, h⟩ := on h
      refine aw_S eS32 ?_
      cases h
      exact aw_vret hX hQ dX10_knot_35
    · rw [if_pos c14] at h
      refine aw_aload_n (pc := 17) hX dX10_knot_17 rfl 0 rfl ?_
      refine aw_iconst (v := (2 : Int32)) (pc := 18) hX dX10_knot_18 (by decide) ?_
      obtain ⟨S19, hr19, h⟩ := ob h
      refine aw_cVV (pc := 19) (As := [.int (2 : Int32)]) (rest := []) hX (c_X10_wrong hr19) ok_X10_wrong kw_6_157 im_X10_wrong se_X10_wrong rfl km0 rfl (by decide) (Nat.le_of_ble_eq_true rfl) rfl dX10_knot_19 (Nat.le_refl 0) (Nat.le_refl 0) ?_
      refine aw_goto (tgt := 35) (pc := 22) hX dX10_knot_22 (by decide) ?_
      cases h
      exact aw_vret hX hQ dX10_knot_35
  · rw [if_neg c4] at h
    cases h
    exact aw_vret hX hQ dX10_knot_7

def f_X10_fresher (v1 : Int32) (S : Mem) : Option (Int32 × Mem) :=
  (rd S 2 14 ((7 : Int32) + v1)).bind fun x8 =>
  some (x8, S)

set_option maxHeartbeats 4000000 in
set_option maxRecDepth 100000 in
theorem c_X10_fresher {v1 : Int32} {S : Mem} {r : Int32} {Sf : Mem} (h : f_X10_fresher v1 S = some (r, Sf)) : MetI yX10_fresher cX10_fresher 2 (some .int) 0 [.ref 0, .int v1] SKM S r Sf := by
  refine MetI.intro (by decide +kernel) (Nat.le_of_ble_eq_true rfl) (fun X loc hX hQ => ?_)
  unfold f_X10_fresher at h
  show AW X SKM loc 0 0 0 [(0, .ref 0), (1, .int v1)] [] S
  refine aw_aload_n (pc := 0) hX dX10_fresher_0 rfl 0 rfl ?_
  refine gf_X10_13 (pc := 1) hX km0 rfl dX10_fresher_1 ?_
  refine aw_bipush (v := (7 : Int32)) (pc := 4) hX dX10_fresher_4 (by decide) ?_
  refine aw_iload_n (pc := 6) hX dX10_fresher_6 rfl 1 rfl ?_
  refine aw_iadd (pc := 7) hX dX10_fresher_7 ?_
  obtain ⟨x8, hx8, h⟩ := ob h
  refine aw_iald (pc := 8) hX km2 hx8 dX10_fresher_8 ?_
  cases h
  exact aw_iret hX hQ dX10_fresher_9

def f_X10_reads (v1 : Int32) (v2 : Int32) (S : Mem) : Option Mem :=
  (wr S 2 14 ((7 : Int32) + v1) v2).bind fun S9 =>
  some S9

set_option maxHeartbeats 4000000 in
set_option maxRecDepth 100000 in
theorem c_X10_reads {v1 : Int32} {v2 : Int32} {S : Mem} {Sf : Mem} (h : f_X10_reads v1 v2 S = some Sf) : MetV yX10_reads cX10_reads 3 none 0 [.ref 0, .int v1, .int v2] SKM S Sf := by
  refine MetV.intro (by decide +kernel) (Nat.le_of_ble_eq_true rfl) (fun X loc hX hQ => ?_)
  unfold f_X10_reads at h
  show AW X SKM loc 0 0 0 [(0, .ref 0), (1, .int v1), (2, .int v2)] [] S
  refine aw_aload_n (pc := 0) hX dX10_reads_0 rfl 0 rfl ?_
  refine gf_X10_13 (pc := 1) hX km0 rfl dX10_reads_1 ?_
  refine aw_bipush (v := (7 : Int32)) (pc := 4) hX dX10_reads_4 (by decide) ?_
  refine aw_iload_n (pc := 6) hX dX10_reads_6 rfl 1 rfl ?_
  refine aw_iadd (pc := 7) hX dX10_reads_7 ?_
  refine aw_iload_n (pc := 8) hX dX10_reads_8 rfl 2 rfl ?_
  obtain ⟨S9, hS9, h⟩ := ob h
  refine aw_iast (pc := 9) hX km2 hS9 dX10_reads_9 ?_
  cases h
  exact aw_vret hX hQ dX10_reads_10

def f_X10_puts (v1 : Int32) (v2 : Int32) (S : Mem) : Option Mem :=
  if (S.1 0 22) = 0 then
  (bnd (f_X10_fresher (6 : Int32) S) fun r17 S17 =>
  (wr S17 12 128 ((64 : Int32) + r17) v1).bind fun S22 =>
  bnd (f_X10_fresher (6 : Int32) S22) fun r32 S32 =>
  (wr S32 13 128 ((64 : Int32) + r32) v2).bind fun S37 =>
  bnd (f_X10_fresher (6 : Int32) S37) fun r44 S44 =>
  (f_X10_reads (6 : Int32) (r44 + (1 : Int32)) S44).bind fun S49 =>
  some S49)
  else
  (some S)

set_option maxHeartbeats 4000000 in
set_option maxRecDepth 100000 in
theorem c_X10_puts {v1 : Int32} {v2 : Int32} {S : Mem} {Sf : Mem} (h : f_X10_puts v1 v2 S = some Sf) : MetV yX10_puts cX10_puts 3 none 1 [.ref 0, .int v1, .int v2] SKM S Sf := by
  refine MetV.intro (by decide +kernel) (Nat.le_of_ble_eq_true rfl) (fun X loc hX hQ => ?_)
  unfold f_X10_puts at h
  show AW X SKM loc 0 0 0 [(0, .ref 0), (1, .int v1), (2, .int v2)] [] S
  refine aw_aload_n (pc := 0) hX dX10_puts_0 rfl 0 rfl ?_
  refine gf_X10_178 (pc := 1) hX km0 rfl dX10_puts_1 ?_
  refine aw_if_eq (pc := 4) hX (tgt := 8) dX10_puts_4 (by decide) (fun c4 => ?_) (fun c4 => ?_)
  · rw [if_pos c4] at h
    refine aw_aload_n (pc := 8) hX dX10_puts_8 rfl 0 rfl ?_
    refine gf_X10_43 (pc := 9) hX km0 rfl dX10_puts_9 ?_
    refine aw_bipush (v := (64 : Int32)) (pc := 12) hX dX10_puts_12 (by decide) ?_
    refine aw_aload_n (pc := 14) hX dX10_puts_14 rfl 0 rfl ?_
    refine aw_bipush (v := (6 : Int32)) (pc := 15) hX dX10_puts_15 (by decide) ?_
    obtain ⟨r17, S17, hr17, h⟩ := ob2 h
    refine aw_cVI (pc := 17) (As := [.int (6 : Int32)]) (rest := [.int (64 : Int32), .ref 12]) hX (c_X10_fresher hr17) ok_X10_fresher kw_6_165 im_X10_fresher se_X10_fresher rfl km0 rfl (by decide) (Nat.le_of_ble_eq_true rfl) rfl dX10_puts_17 (Nat.le_refl 0) (Nat.le_refl 0) ?_
    refine aw_iadd (pc := 20) hX dX10_puts_20 ?_
    refine aw_iload_n (pc := 21) hX dX10_puts_21 rfl 1 rfl ?_
    obtain ⟨S22, hS22, h⟩ := ob h
    refine aw_iast (pc := 22) hX km12 hS22 dX10_puts_22 ?_
    refine aw_aload_n (pc := 23) hX dX10_puts_23 rfl 0 rfl ?_
    refine gf_X10_46 (pc := 24) hX km0 rfl dX10_puts_24 ?_
    refine aw_bipush (v := (64 : Int32)) (pc := 27) hX dX10_puts_27 (by decide) ?_
    refine aw_aload_n (pc := 29) hX dX10_puts_29 rfl 0 rfl ?_
    refine aw_bipush (v := (6 : Int32)) (pc := 30) hX dX10_puts_30 (by decide) ?_
    obtain ⟨r32, S32, hr32, h⟩ := ob2 h
    refine aw_cVI (pc := 32) (As := [.int (6 : Int32)]) (rest := [.int (64 : Int32), .ref 13]) hX (c_X10_fresher hr32) ok_X10_fresher kw_6_165 im_X10_fresher se_X10_fresher rfl km0 rfl (by decide) (Nat.le_of_ble_eq_true rfl) rfl dX10_puts_32 (Nat.le_refl 0) (Nat.le_refl 0) ?_
    refine aw_iadd (pc := 35) hX dX10_puts_35 ?_
    refine aw_iload_n (pc := 36) hX dX10_puts_36 rfl 2 rfl ?_
    obtain ⟨S37, hS37, h⟩ := ob h
    refine aw_iast (pc := 37) hX km13 hS37 dX10_puts_37 ?_
    refine aw_aload_n (pc := 38) hX dX10_puts_38 rfl 0 rfl ?_
    refine aw_bipush (v := (6 : Int32)) (pc := 39) hX dX10_puts_39 (by decide) ?_
    refine aw_aload_n (pc := 41) hX dX10_puts_41 rfl 0 rfl ?_
    refine aw_bipush (v := (6 : Int32)) (pc := 42) hX dX10_puts_42 (by decide) ?_
    obtain ⟨r44, S44, hr44, h⟩ := ob2 h
    refine aw_cVI (pc := 44) (As := [.int (6 : Int32)]) (rest := [.int (6 : Int32), .ref 0]) hX (c_X10_fresher hr44) ok_X10_fresher kw_6_165 im_X10_fresher se_X10_fresher rfl km0 rfl (by decide) (Nat.le_of_ble_eq_true rfl) rfl dX10_puts_44 (Nat.le_refl 0) (Nat.le_refl 0) ?_
    refine aw_iconst (v := (1 : Int32)) (pc := 47) hX dX10_puts_47 (by decide) ?_
    refine aw_iadd (pc := 48) hX dX10_puts_48 ?_
    obtain ⟨S49, hr49, h⟩ := ob h
    refine aw_cVV (pc := 49) (As := [.int (6 : Int32), .int (r44 + (1 : Int32))]) (rest := []) hX (c_X10_reads hr49) ok_X10_reads kw_6_119 im_X10_reads se_X10_reads rfl km0 rfl (by decide) (Nat.le_of_ble_eq_true rfl) rfl dX10_puts_49 (Nat.le_refl 0) (Nat.le_refl 0) ?_
    cases h
    exact aw_vret hX hQ dX10_puts_52
  · rw [if_neg c4] at h
    cases h
    exact aw_vret hX hQ dX10_puts_7

def f_X10_hurtAll_4 : Nat → Int32 → Int32 → Int32 → Mem → Option (Int32 × Mem)
  | 0, _, _, _, _ => none
  | n + 1, v1, v2, v3, S =>
  (rd S 2 14 (1 : Int32)).bind fun x10 =>
  if x10 ≤ v3 then
  (some (v2, S))
  else
  ((rd S 22 230 (((10 : Int32) * v1) + v3)).bind fun x25 =>
  f_X10_hurtAll_4 n v1 (v2 + x25) (v3 + 1) S)

def f_X10_hurtAll (v1 : Int32) (S : Mem) : Option (Int32 × Mem) :=
  f_X10_hurtAll_4 FU v1 (0 : Int32) (0 : Int32) S

set_option maxHeartbeats 4000000 in
set_option maxRecDepth 100000 in
theorem c_X10_hurtAll_4 {X : XT} {loc : Nat → Nat} {r : Int32} {Sf : Mem} (hX : AC X loc RX10 cX10_hurtAll (some .int) 4 0 0 0) (hQ : RetI X SKM loc 0 0 r Sf) : ∀ (n : Nat) (v1 : Int32) (v2 : Int32) (v3 : Int32) (S : Mem), f_X10_hurtAll_4 n v1 v2 v3 S = some (r, Sf) → AW X SKM loc 0 0 4 [(0, .ref 0), (1, .int v1), (2, .int v2), (3, .int v3)] [] S := by
  intro n
  induction n with
  | zero => intro v1 v2 v3 S h; cases h
  | succ n ih =>
    intro v1 v2 v3 S h
    unfold f_X10_hurtAll_4 at h
    refine aw_iload_n (pc := 4) hX dX10_hurtAll_4 rfl 3 rfl ?_
    refine aw_aload_n (pc := 5) hX dX10_hurtAll_5 rfl 0 rfl ?_
    refine gf_X10_13 (pc := 6) hX km0 rfl dX10_hurtAll_6 ?_
    refine aw_iconst (v := (1 : Int32)) (pc := 9) hX dX10_hurtAll_9 (by decide) ?_
    obtain ⟨x10, hx10, h⟩ := ob h
    refine aw_iald (pc := 10) hX km2 hx10 dX10_hurtAll_10 ?_
    refine aw_icmp_ge (pc := 11) hX (tgt := 34) dX10_hurtAll_11 (by decide) (fun c11 => ?_) (fun c11 => ?_)
    · rw [if_pos c11] at h
      refine aw_iload_n (pc := 34) hX dX10_hurtAll_34 rfl 2 rfl ?_
      cases h
      exact aw_iret hX hQ dX10_hurtAll_35
    · rw [if_neg c11] at h
      refine aw_iload_n (pc := 14) hX dX10_hurtAll_14 rfl 2 rfl ?_
      refine aw_aload_n (pc := 15) hX dX10_hurtAll_15 rfl 0 rfl ?_
      refine gf_X10_78 (pc := 16) hX km0 rfl dX10_hurtAll_16 ?_
      refine aw_bipush (v := (10 : Int32)) (pc := 19) hX dX10_hurtAll_19 (by decide) ?_
      refine aw_iload_n (pc := 21) hX dX10_hurtAll_21 rfl 1 rfl ?_
      refine aw_imul (pc := 22) hX dX10_hurtAll_22 ?_
      refine aw_iload_n (pc := 23) hX dX10_hurtAll_23 rfl 3 rfl ?_
      refine aw_iadd (pc := 24) hX dX10_hurtAll_24 ?_
      obtain ⟨x25, hx25, h⟩ := ob h
      refine aw_iald (pc := 25) hX km22 hx25 dX10_hurtAll_25 ?_
      refine aw_iadd (pc := 26) hX dX10_hurtAll_26 ?_
      refine aw_istore_n (ls' := [(2, .int (v2 + x25)), (0, .ref 0), (1, .int v1), (3, .int v3)]) (pc := 27) hX dX10_hurtAll_27 rfl (by decide) rfl ?_
      refine aw_iinc (v := (v3 + 1)) (ls' := [(3, .int (v3 + 1)), (2, .int (v2 + x25)), (0, .ref 0), (1, .int v1)]) (pc := 28) hX dX10_hurtAll_28 (pos := 3) rfl (by first | rfl | decide) (by decide) rfl ?_
      refine aw_goto (tgt := 4) (pc := 31) hX dX10_hurtAll_31 (by decide) ?_
      refine aw_sub (ls' := [(0, .ref 0), (1, .int v1), (2, .int (v2 + x25)), (3, .int (v3 + 1))]) [2, 3, 1, 0] rfl ?_
      exact ih v1 (v2 + x25) (v3 + 1) S h

set_option maxHeartbeats 4000000 in
set_option maxRecDepth 100000 in
theorem c_X10_hurtAll {v1 : Int32} {S : Mem} {r : Int32} {Sf : Mem} (h : f_X10_hurtAll v1 S = some (r, Sf)) : MetI yX10_hurtAll cX10_hurtAll 4 (some .int) 0 [.ref 0, .int v1] SKM S r Sf := by
  refine MetI.intro (by decide +kernel) (Nat.le_of_ble_eq_true rfl) (fun X loc hX hQ => ?_)
  unfold f_X10_hurtAll at h
  show AW X SKM loc 0 0 0 [(0, .ref 0), (1, .int v1)] [] S
  refine aw_iconst (v := (0 : Int32)) (pc := 0) hX dX10_hurtAll_0 (by decide) ?_
  refine aw_istore_n (ls' := [(2, .int (0 : Int32)), (0, .ref 0), (1, .int v1)]) (pc := 1) hX dX10_hurtAll_1 rfl (by decide) rfl ?_
  refine aw_iconst (v := (0 : Int32)) (pc := 2) hX dX10_hurtAll_2 (by decide) ?_
  refine aw_istore_n (ls' := [(3, .int (0 : Int32)), (2, .int (0 : Int32)), (0, .ref 0), (1, .int v1)]) (pc := 3) hX dX10_hurtAll_3 rfl (by decide) rfl ?_
  refine aw_sub (ls' := [(0, .ref 0), (1, .int v1), (2, .int (0 : Int32)), (3, .int (0 : Int32))]) [2, 3, 1, 0] rfl ?_
  exact c_X10_hurtAll_4 hX hQ FU v1 (0 : Int32) (0 : Int32) S h

def f_X10_count (v1 : Int32) (S : Mem) : Option (Int32 × Mem) :=
  nxt (sI S 0 0 (0 : Int32)) fun S2 =>
  if v1 = 0 then
  ((rd S2 2 14 (0 : Int32)).bind fun x73 =>
  some (x73, S2))
  else
  (if v1 = 1 then
  ((rd S2 2 14 (1 : Int32)).bind fun x80 =>
  some (x80, S2))
  else
  (if v1 = 2 then
  ((rd S2 2 14 (6 : Int32)).bind fun x88 =>
  some (x88, S2))
  else
  (if v1 = 3 then
  ((rd S2 16 23 (0 : Int32)).bind fun x95 =>
  some (x95, S2))
  else
  (if v1 = 4 then
  (bnd (f_X10_heldBy (0 : Int32) S2) fun r99 S99 =>
  bnd (f_X10_heldBy (1 : Int32) S99) fun r104 S104 =>
  bnd (f_X10_bitsOf (r99 ||| r104) S104) fun r108 S108 =>
  some (r108, S108))
  else
  (if v1 = 5 then
  (bnd (f_X10_hurtAll (0 : Int32) S2) fun r114 S114 =>
  some (r114, S114))
  else
  (if v1 = 6 then
  (bnd (f_X10_angerBoth (0 : Int32) S2) fun r120 S120 =>
  some (r120, S120))
  else
  (if v1 = 7 then
  (bnd (f_X10_breachesBoth (0 : Int32) S2) fun r126 S126 =>
  some (r126, S126))
  else
  (if v1 = 8 then
  ((rd S2 18 23 (0 : Int32)).bind fun x135 =>
  some (x135, S2))
  else
  (if v1 = 9 then
  (some ((S2.1 0 50), S2))
  else
  (if v1 = 10 then
  (bnd (f_X10_knownMany S2) fun r143 S143 =>
  some (r143, S143))
  else
  (if v1 = 11 then
  (some ((S2.1 0 42), S2))
  else
  (some ((-1 : Int32), S2)))))))))))))

set_option maxHeartbeats 4000000 in
set_option maxRecDepth 100000 in
theorem c_X10_count {v1 : Int32} {S : Mem} {r : Int32} {Sf : Mem} (h : f_X10_count v1 S = some (r, Sf)) : MetI yX10_count cX10_count 2 (some .int) 3 [.ref 0, .int v1] SKM S r Sf := by
  refine MetI.intro (by decide +kernel) (Nat.le_of_ble_eq_true rfl) (fun X loc hX hQ => ?_)
  unfold f_X10_count at h
  show AW X SKM loc 0 0 0 [(0, .ref 0), (1, .int v1)] [] S
  refine aw_aload_n (pc := 0) hX dX10_count_0 rfl 0 rfl ?_
  refine aw_iconst (v := (0 : Int32)) (pc := 1) hX dX10_count_1 (by decide) ?_
  refine pf_X10_124 (pc := 2) hX km0 rfl dX10_count_2 ?_
  obtain ⟨S2, eS2, h⟩ := on h
  refine aw_S eS2 ?_
  refine aw_iload_n (pc := 5) hX dX10_count_5 rfl 1 rfl ?_
  by_cases c6_0 : v1 = 0
  · rw [if_pos c6_0] at h
    refine aw_tin (pc := 6) hX (v := 0) (off := 62) (tgt := 68) dX10_count_6 c6_0 (by decide) (by decide) (by decide) (by decide) ?_
    refine aw_aload_n (pc := 68) hX dX10_count_68 rfl 0 rfl ?_
    refine gf_X10_13 (pc := 69) hX km0 rfl dX10_count_69 ?_
    refine aw_iconst (v := (0 : Int32)) (pc := 72) hX dX10_count_72 (by decide) ?_
    obtain ⟨x73, hx73, h⟩ := ob h
    refine aw_iald (pc := 73) hX km2 hx73 dX10_count_73 ?_
    cases h
    exact aw_iret hX hQ dX10_count_74
  · rw [if_neg c6_0] at h
    by_cases c6_1 : v1 = 1
    · rw [if_pos c6_1] at h
      refine aw_tin (pc := 6) hX (v := 1) (off := 69) (tgt := 75) dX10_count_6 c6_1 (by decide) (by decide) (by decide) (by decide) ?_
      refine aw_aload_n (pc := 75) hX dX10_count_75 rfl 0 rfl ?_
      refine gf_X10_13 (pc := 76) hX km0 rfl dX10_count_76 ?_
      refine aw_iconst (v := (1 : Int32)) (pc := 79) hX dX10_count_79 (by decide) ?_
      obtain ⟨x80, hx80, h⟩ := ob h
      refine aw_iald (pc := 80) hX km2 hx80 dX10_count_80 ?_
      cases h
      exact aw_iret hX hQ dX10_count_81
    · rw [if_neg c6_1] at h
      by_cases c6_2 : v1 = 2
      · rw [if_pos c6_2] at h
        refine aw_tin (pc := 6) hX (v := 2) (off := 76) (tgt := 82) dX10_count_6 c6_2 (by decide) (by decide) (by decide) (by decide) ?_
        refine aw_aload_n (pc := 82) hX dX10_count_82 rfl 0 rfl ?_
        refine gf_X10_13 (pc := 83) hX km0 rfl dX10_count_83 ?_
        refine aw_bipush (v := (6 : Int32)) (pc := 86) hX dX10_count_86 (by decide) ?_
        obtain ⟨x88, hx88, h⟩ := ob h
        refine aw_iald (pc := 88) hX km2 hx88 dX10_count_88 ?_
        cases h
        exact aw_iret hX hQ dX10_count_89
      · rw [if_neg c6_2] at h
        by_cases c6_3 : v1 = 3
        · rw [if_pos c6_3] at h
          refine aw_tin (pc := 6) hX (v := 3) (off := 84) (tgt := 90) dX10_count_6 c6_3 (by decide) (by decide) (by decide) (by decide) ?_
          refine aw_aload_n (pc := 90) hX dX10_count_90 rfl 0 rfl ?_
          refine gf_X10_60 (pc := 91) hX km0 rfl dX10_count_91 ?_
          refine aw_iconst (v := (0 : Int32)) (pc := 94) hX dX10_count_94 (by decide) ?_
          obtain ⟨x95, hx95, h⟩ := ob h
          refine aw_iald (pc := 95) hX km16 hx95 dX10_count_95 ?_
          cases h
          exact aw_iret hX hQ dX10_count_96
        · rw [if_neg c6_3] at h
          by_cases c6_4 : v1 = 4
          · rw [if_pos c6_4] at h
            refine aw_tin (pc := 6) hX (v := 4) (off := 91) (tgt := 97) dX10_count_6 c6_4 (by decide) (by decide) (by decide) (by decide) ?_
            refine aw_aload_n (pc := 97) hX dX10_count_97 rfl 0 rfl ?_
            refine aw_iconst (v := (0 : Int32)) (pc := 98) hX dX10_count_98 (by decide) ?_
            obtain ⟨r99, S99, hr99, h⟩ := ob2 h
            refine aw_cVI (pc := 99) (As := [.int (0 : Int32)]) (rest := []) hX (c_X10_heldBy hr99) ok_X10_heldBy kw_7_38 im_X10_heldBy se_X10_heldBy rfl km0 rfl (by decide) (Nat.le_of_ble_eq_true rfl) rfl dX10_count_99 (Nat.le_refl 0) (Nat.le_refl 0) ?_
            refine aw_aload_n (pc := 102) hX dX10_count_102 rfl 0 rfl ?_
            refine aw_iconst (v := (1 : Int32)) (pc := 103) hX dX10_count_103 (by decide) ?_
            obtain ⟨r104, S104, hr104, h⟩ := ob2 h
            refine aw_cVI (pc := 104) (As := [.int (1 : Int32)]) (rest := [.int r99]) hX (c_X10_heldBy hr104) ok_X10_heldBy kw_7_38 im_X10_heldBy se_X10_heldBy rfl km0 rfl (by decide) (Nat.le_of_ble_eq_true rfl) rfl dX10_count_104 (Nat.le_refl 0) (Nat.le_refl 0) ?_
            refine aw_ior (pc := 107) hX dX10_count_107 ?_
            obtain ⟨r108, S108, hr108, h⟩ := ob2 h
            refine aw_cSI (pc := 108) (As := [.int (r99 ||| r104)]) (rest := []) hX (c_X10_bitsOf (sk := SKM) hr108) ok_X10_bitsOf kw_7_197 st_X10_bitsOf rfl (by decide) (Nat.le_of_ble_eq_true rfl) rfl dX10_count_108 (Nat.le_refl 0) (Nat.le_refl 0) ?_
            cases h
            exact aw_iret hX hQ dX10_count_111
          · rw [if_neg c6_4] at h
            by_cases c6_5 : v1 = 5
            · rw [if_pos c6_5] at h
              refine aw_tin (pc := 6) hX (v := 5) (off := 106) (tgt := 112) dX10_count_6 c6_5 (by decide) (by decide) (by decide) (by decide) ?_
              refine aw_aload_n (pc := 112) hX dX10_count_112 rfl 0 rfl ?_
              refine aw_iconst (v := (0 : Int32)) (pc := 113) hX dX10_count_113 (by decide) ?_
              obtain ⟨r114, S114, hr114, h⟩ := ob2 h
              refine aw_cVI (pc := 114) (As := [.int (0 : Int32)]) (rest := []) hX (c_X10_hurtAll hr114) ok_X10_hurtAll kw_8_58 im_X10_hurtAll se_X10_hurtAll rfl km0 rfl (by decide) (Nat.le_of_ble_eq_true rfl) rfl dX10_count_114 (Nat.le_refl 0) (Nat.le_refl 0) ?_
              cases h
              exact aw_iret hX hQ dX10_count_117
            · rw [if_neg c6_5] at h
              by_cases c6_6 : v1 = 6
              · rw [if_pos c6_6] at h
                refine aw_tin (pc := 6) hX (v := 6) (off := 112) (tgt := 118) dX10_count_6 c6_6 (by decide) (by decide) (by decide) (by decide) ?_
                refine aw_aload_n (pc := 118) hX dX10_count_118 rfl 0 rfl ?_
                refine aw_iconst (v := (0 : Int32)) (pc := 119) hX dX10_count_119 (by decide) ?_
                obtain ⟨r120, S120, hr120, h⟩ := ob2 h
                refine aw_cVI (pc := 120) (As := [.int (0 : Int32)]) (rest := []) hX (c_X10_angerBoth hr120) ok_X10_angerBoth kw_7_185 im_X10_angerBoth se_X10_angerBoth rfl km0 rfl (by decide) (Nat.le_of_ble_eq_true rfl) rfl dX10_count_120 (Nat.le_refl 0) (Nat.le_refl 0) ?_
                cases h
                exact aw_iret hX hQ dX10_count_123
              · rw [if_neg c6_6] at h
                by_cases c6_7 : v1 = 7
                · rw [if_pos c6_7] at h
                  refine aw_tin (pc := 6) hX (v := 7) (off := 118) (tgt := 124) dX10_count_6 c6_7 (by decide) (by decide) (by decide) (by decide) ?_
                  refine aw_aload_n (pc := 124) hX dX10_count_124 rfl 0 rfl ?_
                  refine aw_iconst (v := (0 : Int32)) (pc := 125) hX dX10_count_125 (by decide) ?_
                  obtain ⟨r126, S126, hr126, h⟩ := ob2 h
                  refine aw_cVI (pc := 126) (As := [.int (0 : Int32)]) (rest := []) hX (c_X10_breachesBoth hr126) ok_X10_breachesBoth kw_7_173 im_X10_breachesBoth se_X10_breachesBoth rfl km0 rfl (by decide) (Nat.le_of_ble_eq_true rfl) rfl dX10_count_126 (Nat.le_refl 0) (Nat.le_refl 0) ?_
                  cases h
                  exact aw_iret hX hQ dX10_count_129
                · rw [if_neg c6_7] at h
                  by_cases c6_8 : v1 = 8
                  · rw [if_pos c6_8] at h
                    refine aw_tin (pc := 6) hX (v := 8) (off := 124) (tgt := 130) dX10_count_6 c6_8 (by decide) (by decide) (by decide) (by decide) ?_
                    refine aw_aload_n (pc := 130) hX dX10_count_130 rfl 0 rfl ?_
                    refine gf_X10_66 (pc := 131) hX km0 rfl dX10_count_131 ?_
                    refine aw_iconst (v := (0 : Int32)) (pc := 134) hX dX10_count_134 (by decide) ?_
                    obtain ⟨x135, hx135, h⟩ := ob h
                    refine aw_iald (pc := 135) hX km18 hx135 dX10_count_135 ?_
                    cases h
                    exact aw_iret hX hQ dX10_count_136
                  · rw [if_neg c6_8] at h
                    by_cases c6_9 : v1 = 9
                    · rw [if_pos c6_9] at h
                      refine aw_tin (pc := 6) hX (v := 9) (off := 131) (tgt := 137) dX10_count_6 c6_9 (by decide) (by decide) (by decide) (by decide) ?_
                      refine aw_aload_n (pc := 137) hX dX10_count_137 rfl 0 rfl ?_
                      refine gf_X10_277 (pc := 138) hX km0 rfl dX10_count_138 ?_
                      cases h
                      exact aw_iret hX hQ dX10_count_141
                    · rw [if_neg c6_9] at h
                      by_cases c6_10 : v1 = 10
                      · rw [if_pos c6_10] at h
                        refine aw_tin (pc := 6) hX (v := 10) (off := 136) (tgt := 142) dX10_count_6 c6_10 (by decide) (by decide) (by decide) (by decide) ?_
                        refine aw_aload_n (pc := 142) hX dX10_count_142 rfl 0 rfl ?_
                        obtain ⟨r143, S143, hr143, h⟩ := ob2 h
                        refine aw_cVI (pc := 143) (As := []) (rest := []) hX (c_X10_knownMany hr143) ok_X10_knownMany kw_8_38 im_X10_knownMany se_X10_knownMany rfl km0 rfl (by decide) (Nat.le_of_ble_eq_true rfl) rfl dX10_count_143 (Nat.le_refl 0) (Nat.le_refl 0) ?_
                        cases h
                        exact aw_iret hX hQ dX10_count_146
                      · rw [if_neg c6_10] at h
                        by_cases c6_11 : v1 = 11
                        · rw [if_pos c6_11] at h
                          refine aw_tin (pc := 6) hX (v := 11) (off := 141) (tgt := 147) dX10_count_6 c6_11 (by decide) (by decide) (by decide) (by decide) ?_
                          refine aw_aload_n (pc := 147) hX dX10_count_147 rfl 0 rfl ?_
                          refine gf_X10_284 (pc := 148) hX km0 rfl dX10_count_148 ?_
                          cases h
                          exact aw_iret hX hQ dX10_count_151
                        · rw [if_neg c6_11] at h
                          refine aw_tout (pc := 6) hX (tgt := 152) dX10_count_6 (by have e0 := ne_i c6_0 (by decide : (0 : Int32).toInt = 0); have e1 := ne_i c6_1 (by decide : (1 : Int32).toInt = 1); have e2 := ne_i c6_2 (by decide : (2 : Int32).toInt = 2); have e3 := ne_i c6_3 (by decide : (3 : Int32).toInt = 3); have e4 := ne_i c6_4 (by decide : (4 : Int32).toInt = 4); have e5 := ne_i c6_5 (by decide : (5 : Int32).toInt = 5); have e6 := ne_i c6_6 (by decide : (6 : Int32).toInt = 6); have e7 := ne_i c6_7 (by decide : (7 : Int32).toInt = 7); have e8 := ne_i c6_8 (by decide : (8 : Int32).toInt = 8); have e9 := ne_i c6_9 (by decide : (9 : Int32).toInt = 9); have e10 := ne_i c6_10 (by decide : (10 : Int32).toInt = 10); have e11 := ne_i c6_11 (by decide : (11 : Int32).toInt = 11); omega) (by decide) ?_
                          refine aw_iconst (v := (-1 : Int32)) (pc := 152) hX dX10_count_152 (by decide) ?_
                          cases h
                          exact aw_iret hX hQ dX10_count_153

def f_X10_doll_28 (v1 : Int32) (v2 : Int32) (t1 : Int32) (S : Mem) : Option (Int32 × Mem) :=
  nxt (sI S 0 0 t1) fun S28 =>
  if (S28.1 0 0) = 0 then
  (if v2 = 0 then
  ((rd S28 21 230 v1).bind fun x85 =>
  some (x85, S28))
  else
  (if v2 = 1 then
  (bnd (f_X10_ownerOf v1 S28) fun r89 S89 =>
  some (r89, S89))
  else
  (if v2 = 2 then
  ((rd S28 8 20 v1).bind fun x98 =>
  some (x98, S28))
  else
  (if v2 = 3 then
  ((rd S28 9 20 v1).bind fun x105 =>
  some (x105, S28))
  else
  (if v2 = 4 then
  ((rd S28 22 230 v1).bind fun x112 =>
  some (x112, S28))
  else
  (if v2 = 5 then
  ((rd S28 23 230 v1).bind fun x119 =>
  some (x119, S28))
  else
  ((rd S28 24 230 v1).bind fun x126 =>
  some (x126, S28))))))))
  else
  (some ((0 : Int32), S28))

def f_X10_doll_23 (v1 : Int32) (v2 : Int32) (S : Mem) : Option (Int32 × Mem) :=
  f_X10_doll_28 v1 v2 (2 : Int32) S

def f_X10_doll (v1 : Int32) (v2 : Int32) (S : Mem) : Option (Int32 × Mem) :=
  bnd (f_X10_isDoll v1 S) fun r3 S3 =>
  if r3 = 0 then
  (f_X10_doll_28 v1 v2 (1 : Int32) S3)
  else
  (if v2 < 0 then
  (f_X10_doll_23 v1 v2 S3)
  else
  (if v2 ≤ (6 : Int32) then
  (f_X10_doll_28 v1 v2 (0 : Int32) S3)
  else
  (f_X10_doll_23 v1 v2 S3)))

set_option maxHeartbeats 4000000 in
set_option maxRecDepth 100000 in
theorem c_X10_doll_28 {X : XT} {loc : Nat → Nat} {r : Int32} {Sf : Mem} (hX : AC X loc RX10 cX10_doll (some .int) 3 1 0 0) (hQ : RetI X SKM loc 0 0 r Sf) (v1 : Int32) (v2 : Int32) (t1 : Int32) (S : Mem) (h : f_X10_doll_28 v1 v2 t1 S = some (r, Sf)) : AW X SKM loc 0 0 28 [(0, .ref 0), (1, .int v1), (2, .int v2)] [.int t1, .ref 0] S := by
  unfold f_X10_doll_28 at h
  refine pf_X10_124 (pc := 28) hX km0 rfl dX10_doll_28 ?_
  obtain ⟨S28, eS28, h⟩ := on h
  refine aw_S eS28 ?_
  refine aw_aload_n (pc := 31) hX dX10_doll_31 rfl 0 rfl ?_
  refine gf_X10_124 (pc := 32) hX km0 rfl dX10_doll_32 ?_
  refine aw_if_eq (pc := 35) hX (tgt := 40) dX10_doll_35 (by decide) (fun c35 => ?_) (fun c35 => ?_)
  · rw [if_pos c35] at h
    refine aw_iload_n (pc := 40) hX dX10_doll_40 rfl 2 rfl ?_
    by_cases c41_0 : v2 = 0
    · rw [if_pos c41_0] at h
      refine aw_tin (pc := 41) hX (v := 0) (off := 39) (tgt := 80) dX10_doll_41 c41_0 (by decide) (by decide) (by decide) (by decide) ?_
      refine aw_aload_n (pc := 80) hX dX10_doll_80 rfl 0 rfl ?_
      refine gf_X10_75 (pc := 81) hX km0 rfl dX10_doll_81 ?_
      refine aw_iload_n (pc := 84) hX dX10_doll_84 rfl 1 rfl ?_
      obtain ⟨x85, hx85, h⟩ := ob h
      refine aw_iald (pc := 85) hX km21 hx85 dX10_doll_85 ?_
      cases h
      exact aw_iret hX hQ dX10_doll_86
    · rw [if_neg c41_0] at h
      by_cases c41_1 : v2 = 1
      · rw [if_pos c41_1] at h
        refine aw_tin (pc := 41) hX (v := 1) (off := 46) (tgt := 87) dX10_doll_41 c41_1 (by decide) (by decide) (by decide) (by decide) ?_
        refine aw_aload_n (pc := 87) hX dX10_doll_87 rfl 0 rfl ?_
        refine aw_iload_n (pc := 88) hX dX10_doll_88 rfl 1 rfl ?_
        obtain ⟨r89, S89, hr89, h⟩ := ob2 h
        refine aw_cVI (pc := 89) (As := [.int v1]) (rest := []) hX (c_X10_ownerOf hr89) ok_X10_ownerOf kw_7_15 im_X10_ownerOf se_X10_ownerOf rfl km0 rfl (by decide) (Nat.le_of_ble_eq_true rfl) rfl dX10_doll_89 (Nat.le_refl 0) (Nat.le_refl 0) ?_
        cases h
        exact aw_iret hX hQ dX10_doll_92
      · rw [if_neg c41_1] at h
        by_cases c41_2 : v2 = 2
        · rw [if_pos c41_2] at h
          refine aw_tin (pc := 41) hX (v := 2) (off := 52) (tgt := 93) dX10_doll_41 c41_2 (by decide) (by decide) (by decide) (by decide) ?_
          refine aw_aload_n (pc := 93) hX dX10_doll_93 rfl 0 rfl ?_
          refine gf_X10_31 (pc := 94) hX km0 rfl dX10_doll_94 ?_
          refine aw_iload_n (pc := 97) hX dX10_doll_97 rfl 1 rfl ?_
          obtain ⟨x98, hx98, h⟩ := ob h
          refine aw_iald (pc := 98) hX km8 hx98 dX10_doll_98 ?_
          cases h
          exact aw_iret hX hQ dX10_doll_99
        · rw [if_neg c41_2] at h
          by_cases c41_3 : v2 = 3
          · rw [if_pos c41_3] at h
            refine aw_tin (pc := 41) hX (v := 3) (off := 59) (tgt := 100) dX10_doll_41 c41_3 (by decide) (by decide) (by decide) (by decide) ?_
            refine aw_aload_n (pc := 100) hX dX10_doll_100 rfl 0 rfl ?_
            refine gf_X10_34 (pc := 101) hX km0 rfl dX10_doll_101 ?_
            refine aw_iload_n (pc := 104) hX dX10_doll_104 rfl 1 rfl ?_
            obtain ⟨x105, hx105, h⟩ := ob h
            refine aw_iald (pc := 105) hX km9 hx105 dX10_doll_105 ?_
            cases h
            exact aw_iret hX hQ dX10_doll_106
          · rw [if_neg c41_3] at h
            by_cases c41_4 : v2 = 4
            · rw [if_pos c41_4] at h
              refine aw_tin (pc := 41) hX (v := 4) (off := 66) (tgt := 107) dX10_doll_41 c41_4 (by decide) (by decide) (by decide) (by decide) ?_
              refine aw_aload_n (pc := 107) hX dX10_doll_107 rfl 0 rfl ?_
              refine gf_X10_78 (pc := 108) hX km0 rfl dX10_doll_108 ?_
              refine aw_iload_n (pc := 111) hX dX10_doll_111 rfl 1 rfl ?_
              obtain ⟨x112, hx112, h⟩ := ob h
              refine aw_iald (pc := 112) hX km22 hx112 dX10_doll_112 ?_
              cases h
              exact aw_iret hX hQ dX10_doll_113
            · rw [if_neg c41_4] at h
              by_cases c41_5 : v2 = 5
              · rw [if_pos c41_5] at h
                refine aw_tin (pc := 41) hX (v := 5) (off := 73) (tgt := 114) dX10_doll_41 c41_5 (by decide) (by decide) (by decide) (by decide) ?_
                refine aw_aload_n (pc := 114) hX dX10_doll_114 rfl 0 rfl ?_
                refine gf_X10_81 (pc := 115) hX km0 rfl dX10_doll_115 ?_
                refine aw_iload_n (pc := 118) hX dX10_doll_118 rfl 1 rfl ?_
                obtain ⟨x119, hx119, h⟩ := ob h
                refine aw_iald (pc := 119) hX km23 hx119 dX10_doll_119 ?_
                cases h
                exact aw_iret hX hQ dX10_doll_120
              · rw [if_neg c41_5] at h
                refine aw_tout (pc := 41) hX (tgt := 121) dX10_doll_41 (by have e0 := ne_i c41_0 (by decide : (0 : Int32).toInt = 0); have e1 := ne_i c41_1 (by decide : (1 : Int32).toInt = 1); have e2 := ne_i c41_2 (by decide : (2 : Int32).toInt = 2); have e3 := ne_i c41_3 (by decide : (3 : Int32).toInt = 3); have e4 := ne_i c41_4 (by decide : (4 : Int32).toInt = 4); have e5 := ne_i c41_5 (by decide : (5 : Int32).toInt = 5); omega) (by decide) ?_
                refine aw_aload_n (pc := 121) hX dX10_doll_121 rfl 0 rfl ?_
                refine gf_X10_84 (pc := 122) hX km0 rfl dX10_doll_122 ?_
                refine aw_iload_n (pc := 125) hX dX10_doll_125 rfl 1 rfl ?_
                obtain ⟨x126, hx126, h⟩ := ob h
                refine aw_iald (pc := 126) hX km24 hx126 dX10_doll_126 ?_
                cases h
                exact aw_iret hX hQ dX10_doll_127
  · rw [if_neg c35] at h
    refine aw_iconst (v := (0 : Int32)) (pc := 38) hX dX10_doll_38 (by decide) ?_
    cases h
    exact aw_iret hX hQ dX10_doll_39

set_option maxHeartbeats 4000000 in
set_option maxRecDepth 100000 in
theorem c_X10_doll_23 {X : XT} {loc : Nat → Nat} {r : Int32} {Sf : Mem} (hX : AC X loc RX10 cX10_doll (some .int) 3 1 0 0) (hQ : RetI X SKM loc 0 0 r Sf) (v1 : Int32) (v2 : Int32) (S : Mem) (h : f_X10_doll_23 v1 v2 S = some (r, Sf)) : AW X SKM loc 0 0 23 [(0, .ref 0), (1, .int v1), (2, .int v2)] [.ref 0] S := by
  unfold f_X10_doll_23 at h
  refine aw_iconst (v := (2 : Int32)) (pc := 23) hX dX10_doll_23 (by decide) ?_
  refine aw_goto (tgt := 28) (pc := 24) hX dX10_doll_24 (by decide) ?_
  exact c_X10_doll_28 hX hQ v1 v2 (2 : Int32) S h

set_option maxHeartbeats 4000000 in
set_option maxRecDepth 100000 in
theorem c_X10_doll {v1 : Int32} {v2 : Int32} {S : Mem} {r : Int32} {Sf : Mem} (h : f_X10_doll v1 v2 S = some (r, Sf)) : MetI yX10_doll cX10_doll 3 (some .int) 1 [.ref 0, .int v1, .int v2] SKM S r Sf := by
  refine MetI.intro (by decide +kernel) (Nat.le_of_ble_eq_true rfl) (fun X loc hX hQ => ?_)
  unfold f_X10_doll at h
  show AW X SKM loc 0 0 0 [(0, .ref 0), (1, .int v1), (2, .int v2)] [] S
  refine aw_aload_n (pc := 0) hX dX10_doll_0 rfl 0 rfl ?_
  refine aw_aload_n (pc := 1) hX dX10_doll_1 rfl 0 rfl ?_
  refine aw_iload_n (pc := 2) hX dX10_doll_2 rfl 1 rfl ?_
  obtain ⟨r3, S3, hr3, h⟩ := ob2 h
  refine aw_cVI (pc := 3) (As := [.int v1]) (rest := [.ref 0]) hX (c_X10_isDoll hr3) ok_X10_isDoll kw_7_11 im_X10_isDoll se_X10_isDoll rfl km0 rfl (by decide) (Nat.le_of_ble_eq_true rfl) rfl dX10_doll_3 (Nat.le_refl 0) (Nat.le_refl 0) ?_
  refine aw_if_ne (pc := 6) hX (tgt := 13) dX10_doll_6 (by decide) (fun c6 => ?_) (fun c6 => ?_)
  · rw [if_neg c6] at h
    refine aw_iload_n (pc := 13) hX dX10_doll_13 rfl 2 rfl ?_
    refine aw_if_lt (pc := 14) hX (tgt := 23) dX10_doll_14 (by decide) (fun c14 => ?_) (fun c14 => ?_)
    · rw [if_pos c14] at h
      exact c_X10_doll_23 hX hQ v1 v2 S3 h
    · rw [if_neg c14] at h
      refine aw_iload_n (pc := 17) hX dX10_doll_17 rfl 2 rfl ?_
      refine aw_bipush (v := (6 : Int32)) (pc := 18) hX dX10_doll_18 (by decide) ?_
      refine aw_icmp_le (pc := 20) hX (tgt := 27) dX10_doll_20 (by decide) (fun c20 => ?_) (fun c20 => ?_)
      · rw [if_pos c20] at h
        refine aw_iconst (v := (0 : Int32)) (pc := 27) hX dX10_doll_27 (by decide) ?_
        exact c_X10_doll_28 hX hQ v1 v2 (0 : Int32) S3 h
      · rw [if_neg c20] at h
        exact c_X10_doll_23 hX hQ v1 v2 S3 h
  · rw [if_pos c6] at h
    refine aw_iconst (v := (1 : Int32)) (pc := 9) hX dX10_doll_9 (by decide) ?_
    refine aw_goto (tgt := 28) (pc := 10) hX dX10_doll_10 (by decide) ?_
    exact c_X10_doll_28 hX hQ v1 v2 (1 : Int32) S3 h

def f_X10_found_3 (a0 : Nat) (n0 : Nat) : Nat → Int32 → Int32 → Int32 → Int32 → Mem → Option (Int32 × Mem)
  | 0, _, _, _, _, _ => none
  | n + 1, v1, v2, v3, v4, S =>
  if v2 ≤ v4 then
  (some ((-1 : Int32), S))
  else
  ((rd S a0 n0 (v1 + v4)).bind fun x14 =>
  if x14 = v3 then
  (some (v4, S))
  else
  (f_X10_found_3 a0 n0 n v1 v2 v3 (v4 + 1) S))

def f_X10_found (a0 : Nat) (n0 : Nat) (v1 : Int32) (v2 : Int32) (v3 : Int32) (S : Mem) : Option (Int32 × Mem) :=
  f_X10_found_3 a0 n0 FU v1 v2 v3 (0 : Int32) S

set_option maxHeartbeats 4000000 in
set_option maxRecDepth 100000 in
theorem c_X10_found_3 {X : XT} {loc : Nat → Nat} {sk : Skel} {a0 : Nat} {n0 : Nat} {r : Int32} {Sf : Mem} (hX : AC X loc RX10 cX10_found (some .int) 5 0 0 0) (hQ : RetI X sk loc 0 0 r Sf) (ha0 : sk[a0]? = some (0, n0, [])) : ∀ (n : Nat) (v1 : Int32) (v2 : Int32) (v3 : Int32) (v4 : Int32) (S : Mem), f_X10_found_3 a0 n0 n v1 v2 v3 v4 S = some (r, Sf) → AW X sk loc 0 0 3 [(0, .ref a0), (1, .int v1), (2, .int v2), (3, .int v3), (4, .int v4)] [] S := by
  intro n
  induction n with
  | zero => intro v1 v2 v3 v4 S h; cases h
  | succ n ih =>
    intro v1 v2 v3 v4 S h
    unfold f_X10_found_3 at h
    refine aw_iload (pc := 3) hX dX10_found_3 4 rfl ?_
    refine aw_iload_n (pc := 5) hX dX10_found_5 rfl 2 rfl ?_
    refine aw_icmp_ge (pc := 6) hX (tgt := 28) dX10_found_6 (by decide) (fun c6 => ?_) (fun c6 => ?_)
    · rw [if_pos c6] at h
      refine aw_iconst (v := (-1 : Int32)) (pc := 28) hX dX10_found_28 (by decide) ?_
      cases h
      exact aw_iret hX hQ dX10_found_29
    · rw [if_neg c6] at h
      refine aw_aload_n (pc := 9) hX dX10_found_9 rfl 0 rfl ?_
      refine aw_iload_n (pc := 10) hX dX10_found_10 rfl 1 rfl ?_
      refine aw_iload (pc := 11) hX dX10_found_11 4 rfl ?_
      refine aw_iadd (pc := 13) hX dX10_found_13 ?_
      obtain ⟨x14, hx14, h⟩ := ob h
      refine aw_iald (pc := 14) hX ha0 hx14 dX10_found_14 ?_
      refine aw_iload_n (pc := 15) hX dX10_found_15 rfl 3 rfl ?_
      refine aw_icmp_ne (pc := 16) hX (tgt := 22) dX10_found_16 (by decide) (fun c16 => ?_) (fun c16 => ?_)
      · rw [if_neg c16] at h
        refine aw_iinc (v := (v4 + 1)) (ls' := [(4, .int (v4 + 1)), (0, .ref a0), (1, .int v1), (2, .int v2), (3, .int v3)]) (pc := 22) hX dX10_found_22 (pos := 4) rfl (by first | rfl | decide) (by decide) rfl ?_
        refine aw_goto (tgt := 3) (pc := 25) hX dX10_found_25 (by decide) ?_
        refine aw_sub (ls' := [(0, .ref a0), (1, .int v1), (2, .int v2), (3, .int v3), (4, .int (v4 + 1))]) [1, 2, 3, 4, 0] rfl ?_
        exact ih v1 v2 v3 (v4 + 1) S h
      · rw [if_pos c16] at h
        refine aw_iload (pc := 19) hX dX10_found_19 4 rfl ?_
        cases h
        exact aw_iret hX hQ dX10_found_21

set_option maxHeartbeats 4000000 in
set_option maxRecDepth 100000 in
theorem c_X10_found {sk : Skel} {a0 : Nat} {n0 : Nat} {v1 : Int32} {v2 : Int32} {v3 : Int32} {S : Mem} {r : Int32} {Sf : Mem} (ha0 : sk[a0]? = some (0, n0, [])) (h : f_X10_found a0 n0 v1 v2 v3 S = some (r, Sf)) : MetI yX10_found cX10_found 5 (some .int) 0 [.ref a0, .int v1, .int v2, .int v3] sk S r Sf := by
  refine MetI.intro (by decide +kernel) (Nat.le_of_ble_eq_true rfl) (fun X loc hX hQ => ?_)
  unfold f_X10_found at h
  show AW X sk loc 0 0 0 [(0, .ref a0), (1, .int v1), (2, .int v2), (3, .int v3)] [] S
  refine aw_iconst (v := (0 : Int32)) (pc := 0) hX dX10_found_0 (by decide) ?_
  refine aw_istore (ls' := [(4, .int (0 : Int32)), (0, .ref a0), (1, .int v1), (2, .int v2), (3, .int v3)]) (pc := 1) hX dX10_found_1 (by decide) rfl ?_
  refine aw_sub (ls' := [(0, .ref a0), (1, .int v1), (2, .int v2), (3, .int v3), (4, .int (0 : Int32))]) [1, 2, 3, 4, 0] rfl ?_
  exact c_X10_found_3 hX hQ ha0 FU v1 v2 v3 (0 : Int32) S h

def f_X10_fresh_44 (a1 : Nat) (n1 : Nat) (S : Mem) : Option (Int32 × Mem) :=
  if (S.1 0 22) = 0 then
  ((f_X10_token S).bind fun S60 =>
  some ((S.1 0 21), S60))
  else
  (some ((0 : Int32), S))

def f_X10_fresh (a1 : Nat) (n1 : Nat) (v2 : Int32) (v3 : Int32) (S : Mem) : Option (Int32 × Mem) :=
  if (S.1 0 22) = 0 then
  (if (S.1 0 20) = (1 : Int32) then
  (bnd (f_X10_found a1 n1 v2 v3 (S.1 0 21) S) fun r32 S32 =>
  if r32 = (-1 : Int32) then
  (f_X10_fresh_44 a1 n1 S32)
  else
  ((f_X10_wrong (3 : Int32) S32).bind fun S41 =>
  f_X10_fresh_44 a1 n1 S41))
  else
  ((f_X10_wrong (1 : Int32) S).bind fun S19 =>
  f_X10_fresh_44 a1 n1 S19))
  else
  (some ((0 : Int32), S))

set_option maxHeartbeats 4000000 in
set_option maxRecDepth 100000 in
theorem c_X10_fresh_44 {X : XT} {loc : Nat → Nat} {a1 : Nat} {n1 : Nat} {r : Int32} {Sf : Mem} (hX : AC X loc RX10 cX10_fresh (some .int) 5 6 0 0) (hQ : RetI X SKM loc 0 0 r Sf) (ha1 : SKM[a1]? = some (0, n1, [])) (S : Mem) (h : f_X10_fresh_44 a1 n1 S = some (r, Sf)) : AW X SKM loc 0 0 44 [(0, .ref 0)] [] S := by
  unfold f_X10_fresh_44 at h
  refine aw_aload_n (pc := 44) hX dX10_fresh_44 rfl 0 rfl ?_
  refine gf_X10_178 (pc := 45) hX km0 rfl dX10_fresh_45 ?_
  refine aw_if_eq (pc := 48) hX (tgt := 53) dX10_fresh_48 (by decide) (fun c48 => ?_) (fun c48 => ?_)
  · rw [if_pos c48] at h
    refine aw_aload_n (pc := 53) hX dX10_fresh_53 rfl 0 rfl ?_
    refine gf_X10_153 (pc := 54) hX km0 rfl dX10_fresh_54 ?_
    refine aw_istore (ls' := [(4, .int (S.1 0 21)), (0, .ref 0)]) (pc := 57) hX dX10_fresh_57 (by decide) rfl ?_
    refine aw_aload_n (pc := 59) hX dX10_fresh_59 rfl 1 rfl ?_
    obtain ⟨S60, hr60, h⟩ := ob h
    refine aw_cVV (pc := 60) (As := []) (rest := []) hX (c_X10_token hr60) ok_X10_token kw_6_123 im_X10_token se_X10_token rfl km0 rfl (by decide) (Nat.le_of_ble_eq_true rfl) rfl dX10_fresh_60 (Nat.le_refl 0) (Nat.le_refl 0) ?_
    refine aw_iload (pc := 63) hX dX10_fresh_63 0 rfl ?_
    cases h
    exact aw_iret hX hQ dX10_fresh_65
  · rw [if_neg c48] at h
    refine aw_iconst (v := (0 : Int32)) (pc := 51) hX dX10_fresh_51 (by decide) ?_
    cases h
    exact aw_iret hX hQ dX10_fresh_52

set_option maxHeartbeats 4000000 in
set_option maxRecDepth 100000 in
theorem c_X10_fresh {a1 : Nat} {n1 : Nat} {v2 : Int32} {v3 : Int32} {S : Mem} {r : Int32} {Sf : Mem} (ha1 : SKM[a1]? = some (0, n1, [])) (h : f_X10_fresh a1 n1 v2 v3 S = some (r, Sf)) : MetI yX10_fresh cX10_fresh 5 (some .int) 6 [.ref 0, .ref a1, .int v2, .int v3] SKM S r Sf := by
  refine MetI.intro (by decide +kernel) (Nat.le_of_ble_eq_true rfl) (fun X loc hX hQ => ?_)
  unfold f_X10_fresh at h
  show AW X SKM loc 0 0 0 [(0, .ref 0), (1, .ref a1), (2, .int v2), (3, .int v3)] [] S
  refine aw_aload_n (pc := 0) hX dX10_fresh_0 rfl 0 rfl ?_
  refine gf_X10_178 (pc := 1) hX km0 rfl dX10_fresh_1 ?_
  refine aw_if_eq (pc := 4) hX (tgt := 9) dX10_fresh_4 (by decide) (fun c4 => ?_) (fun c4 => ?_)
  · rw [if_pos c4] at h
    refine aw_aload_n (pc := 9) hX dX10_fresh_9 rfl 0 rfl ?_
    refine gf_X10_143 (pc := 10) hX km0 rfl dX10_fresh_10 ?_
    refine aw_iconst (v := (1 : Int32)) (pc := 13) hX dX10_fresh_13 (by decide) ?_
    refine aw_icmp_eq (pc := 14) hX (tgt := 25) dX10_fresh_14 (by decide) (fun c14 => ?_) (fun c14 => ?_)
    · rw [if_pos c14] at h
      refine aw_aload_n (pc := 25) hX dX10_fresh_25 rfl 1 rfl ?_
      refine aw_iload_n (pc := 26) hX dX10_fresh_26 rfl 2 rfl ?_
      refine aw_iload_n (pc := 27) hX dX10_fresh_27 rfl 3 rfl ?_
      refine aw_aload_n (pc := 28) hX dX10_fresh_28 rfl 0 rfl ?_
      refine gf_X10_153 (pc := 29) hX km0 rfl dX10_fresh_29 ?_
      obtain ⟨r32, S32, hr32, h⟩ := ob2 h
      refine aw_cSI (pc := 32) (As := [.ref a1, .int v2, .int v3, .int (S.1 0 21)]) (rest := []) hX (c_X10_found (sk := SKM) ha1 hr32) ok_X10_found kw_6_177 st_X10_found rfl (by decide) (Nat.le_of_ble_eq_true rfl) rfl dX10_fresh_32 (Nat.le_refl 0) (Nat.le_refl 0) ?_
      refine aw_iconst (v := (-1 : Int32)) (pc := 35) hX dX10_fresh_35 (by decide) ?_
      refine aw_icmp_eq (pc := 36) hX (tgt := 44) dX10_fresh_36 (by decide) (fun c36 => ?_) (fun c36 => ?_)
      · rw [if_pos c36] at h
        refine aw_sub (ls' := [(0, .ref 0)]) [0] rfl ?_
        exact c_X10_fresh_44 hX hQ ha1 S32 h
      · rw [if_neg c36] at h
        refine aw_aload_n (pc := 39) hX dX10_fresh_39 rfl 0 rfl ?_
        refine aw_iconst (v := (3 : Int32)) (pc := 40) hX dX10_fresh_40 (by decide) ?_
        obtain ⟨S41, hr41, h⟩ := ob h
        refine aw_cVV (pc := 41) (As := [.int (3 : Int32)]) (rest := []) hX (c_X10_wrong hr41) ok_X10_wrong kw_6_157 im_X10_wrong se_X10_wrong rfl km0 rfl (by decide) (Nat.le_of_ble_eq_true rfl) rfl dX10_fresh_41 (Nat.le_refl 0) (Nat.le_refl 0) ?_
        refine aw_sub (ls' := [(0, .ref 0)]) [0] rfl ?_
        exact c_X10_fresh_44 hX hQ ha1 S41 h
    · rw [if_neg c14] at h
      refine aw_aload_n (pc := 17) hX dX10_fresh_17 rfl 0 rfl ?_
      refine aw_iconst (v := (1 : Int32)) (pc := 18) hX dX10_fresh_18 (by decide) ?_
      obtain ⟨S19, hr19, h⟩ := ob h
      refine aw_cVV (pc := 19) (As := [.int (1 : Int32)]) (rest := []) hX (c_X10_wrong hr19) ok_X10_wrong kw_6_157 im_X10_wrong se_X10_wrong rfl km0 rfl (by decide) (Nat.le_of_ble_eq_true rfl) rfl dX10_fresh_19 (Nat.le_refl 0) (Nat.le_refl 0) ?_
      refine aw_goto (tgt := 44) (pc := 22) hX dX10_fresh_22 (by decide) ?_
      refine aw_sub (ls' := [(0, .ref 0)]) [0] rfl ?_
      exact c_X10_fresh_44 hX hQ ha1 S19 h
  · rw [if_neg c4] at h
    refine aw_iconst (v := (0 : Int32)) (pc := 7) hX dX10_fresh_7 (by decide) ?_
    cases h
    exact aw_iret hX hQ dX10_fresh_8

def f_X10_numeral_46 (v1 : Int32) (S : Mem) : Option (Int32 × Mem) :=
  if (S.1 0 22) = 0 then
  ((f_X10_token S).bind fun S61 =>
  some ((S.1 0 21), S61))
  else
  (some (v1, S))

def f_X10_numeral_41 (v1 : Int32) (S : Mem) : Option (Int32 × Mem) :=
  (f_X10_wrong (2 : Int32) S).bind fun S43 =>
  f_X10_numeral_46 v1 S43

def f_X10_numeral (v1 : Int32) (v2 : Int32) (S : Mem) : Option (Int32 × Mem) :=
  if (S.1 0 22) = 0 then
  (if (S.1 0 20) = (2 : Int32) then
  (if (S.1 0 21) < v1 then
  (f_X10_numeral_41 v1 S)
  else
  (if (S.1 0 21) ≤ v2 then
  (f_X10_numeral_46 v1 S)
  else
  (f_X10_numeral_41 v1 S)))
  else
  ((f_X10_wrong (1 : Int32) S).bind fun S19 =>
  f_X10_numeral_46 v1 S19))
  else
  (some (v1, S))

set_option maxHeartbeats 4000000 in
set_option maxRecDepth 100000 in
theorem c_X10_numeral_46 {X : XT} {loc : Nat → Nat} {r : Int32} {Sf : Mem} (hX : AC X loc RX10 cX10_numeral (some .int) 4 6 0 0) (hQ : RetI X SKM loc 0 0 r Sf) (v1 : Int32) (S : Mem) (h : f_X10_numeral_46 v1 S = some (r, Sf)) : AW X SKM loc 0 0 46 [(0, .ref 0), (1, .int v1)] [] S := by
  unfold f_X10_numeral_46 at h
  refine aw_aload_n (pc := 46) hX dX10_numeral_46 rfl 0 rfl ?_
  refine gf_X10_178 (pc := 47) hX km0 rfl dX10_numeral_47 ?_
  refine aw_if_eq (pc := 50) hX (tgt := 55) dX10_numeral_50 (by decide) (fun c50 => ?_) (fun c50 => ?_)
  · rw [if_pos c50] at h
    refine aw_aload_n (pc := 55) hX dX10_numeral_55 rfl 0 rfl ?_
    refine gf_X10_153 (pc := 56) hX km0 rfl dX10_numeral_56 ?_
    refine aw_istore_n (ls' := [(3, .int (S.1 0 21)), (0, .ref 0), (1, .int v1)]) (pc := 59) hX dX10_numeral_59 rfl (by decide) rfl ?_
    refine aw_aload_n (pc := 60) hX dX10_numeral_60 rfl 1 rfl ?_
    obtain ⟨S61, hr61, h⟩ := ob h
    refine aw_cVV (pc := 61) (As := []) (rest := []) hX (c_X10_token hr61) ok_X10_token kw_6_123 im_X10_token se_X10_token rfl km0 rfl (by decide) (Nat.le_of_ble_eq_true rfl) rfl dX10_numeral_61 (Nat.le_refl 0) (Nat.le_refl 0) ?_
    refine aw_iload_n (pc := 64) hX dX10_numeral_64 rfl 0 rfl ?_
    cases h
    exact aw_iret hX hQ dX10_numeral_65
  · rw [if_neg c50] at h
    refine aw_iload_n (pc := 53) hX dX10_numeral_53 rfl 1 rfl ?_
    cases h
    exact aw_iret hX hQ dX10_numeral_54

set_option maxHeartbeats 4000000 in
set_option maxRecDepth 100000 in
theorem c_X10_numeral_41 {X : XT} {loc : Nat → Nat} {r : Int32} {Sf : Mem} (hX : AC X loc RX10 cX10_numeral (some .int) 4 6 0 0) (hQ : RetI X SKM loc 0 0 r Sf) (v1 : Int32) (S : Mem) (h : f_X10_numeral_41 v1 S = some (r, Sf)) : AW X SKM loc 0 0 41 [(0, .ref 0), (1, .int v1)] [] S := by
  unfold f_X10_numeral_41 at h
  refine aw_aload_n (pc := 41) hX dX10_numeral_41 rfl 0 rfl ?_
  refine aw_iconst (v := (2 : Int32)) (pc := 42) hX dX10_numeral_42 (by decide) ?_
  obtain ⟨S43, hr43, h⟩ := ob h
  refine aw_cVV (pc := 43) (As := [.int (2 : Int32)]) (rest := []) hX (c_X10_wrong hr43) ok_X10_wrong kw_6_157 im_X10_wrong se_X10_wrong rfl km0 rfl (by decide) (Nat.le_of_ble_eq_true rfl) rfl dX10_numeral_43 (Nat.le_refl 0) (Nat.le_refl 0) ?_
  exact c_X10_numeral_46 hX hQ v1 S43 h

set_option maxHeartbeats 4000000 in
set_option maxRecDepth 100000 in
theorem c_X10_numeral {v1 : Int32} {v2 : Int32} {S : Mem} {r : Int32} {Sf : Mem} (h : f_X10_numeral v1 v2 S = some (r, Sf)) : MetI yX10_numeral cX10_numeral 4 (some .int) 6 [.ref 0, .int v1, .int v2] SKM S r Sf := by
  refine MetI.intro (by decide +kernel) (Nat.le_of_ble_eq_true rfl) (fun X loc hX hQ => ?_)
  unfold f_X10_numeral at h
  show AW X SKM loc 0 0 0 [(0, .ref 0), (1, .int v1), (2, .int v2)] [] S
  refine aw_aload_n (pc := 0) hX dX10_numeral_0 rfl 0 rfl ?_
  refine gf_X10_178 (pc := 1) hX km0 rfl dX10_numeral_1 ?_
  refine aw_if_eq (pc := 4) hX (tgt := 9) dX10_numeral_4 (by decide) (fun c4 => ?_) (fun c4 => ?_)
  · rw [if_pos c4] at h
    refine aw_aload_n (pc := 9) hX dX10_numeral_9 rfl 0 rfl ?_
    refine gf_X10_143 (pc := 10) hX km0 rfl dX10_numeral_10 ?_
    refine aw_iconst (v := (2 : Int32)) (pc := 13) hX dX10_numeral_13 (by decide) ?_
    refine aw_icmp_eq (pc := 14) hX (tgt := 25) dX10_numeral_14 (by decide) (fun c14 => ?_) (fun c14 => ?_)
    · rw [if_pos c14] at h
      refine aw_aload_n (pc := 25) hX dX10_numeral_25 rfl 0 rfl ?_
      refine gf_X10_153 (pc := 26) hX km0 rfl dX10_numeral_26 ?_
      refine aw_iload_n (pc := 29) hX dX10_numeral_29 rfl 1 rfl ?_
      refine aw_icmp_lt (pc := 30) hX (tgt := 41) dX10_numeral_30 (by decide) (fun c30 => ?_) (fun c30 => ?_)
      · rw [if_pos c30] at h
        refine aw_sub (ls' := [(0, .ref 0), (1, .int v1)]) [0, 1] rfl ?_
        exact c_X10_numeral_41 hX hQ v1 S h
      · rw [if_neg c30] at h
        refine aw_aload_n (pc := 33) hX dX10_numeral_33 rfl 0 rfl ?_
        refine gf_X10_153 (pc := 34) hX km0 rfl dX10_numeral_34 ?_
        refine aw_iload_n (pc := 37) hX dX10_numeral_37 rfl 2 rfl ?_
        refine aw_icmp_le (pc := 38) hX (tgt := 46) dX10_numeral_38 (by decide) (fun c38 => ?_) (fun c38 => ?_)
        · rw [if_pos c38] at h
          refine aw_sub (ls' := [(0, .ref 0), (1, .int v1)]) [0, 1] rfl ?_
          exact c_X10_numeral_46 hX hQ v1 S h
        · rw [if_neg c38] at h
          refine aw_sub (ls' := [(0, .ref 0), (1, .int v1)]) [0, 1] rfl ?_
          exact c_X10_numeral_41 hX hQ v1 S h
    · rw [if_neg c14] at h
      refine aw_aload_n (pc := 17) hX dX10_numeral_17 rfl 0 rfl ?_
      refine aw_iconst (v := (1 : Int32)) (pc := 18) hX dX10_numeral_18 (by decide) ?_
      obtain ⟨S19, hr19, h⟩ := ob h
      refine aw_cVV (pc := 19) (As := [.int (1 : Int32)]) (rest := []) hX (c_X10_wrong hr19) ok_X10_wrong kw_6_157 im_X10_wrong se_X10_wrong rfl km0 rfl (by decide) (Nat.le_of_ble_eq_true rfl) rfl dX10_numeral_19 (Nat.le_refl 0) (Nat.le_refl 0) ?_
      refine aw_goto (tgt := 46) (pc := 22) hX dX10_numeral_22 (by decide) ?_
      refine aw_sub (ls' := [(0, .ref 0), (1, .int v1)]) [0, 1] rfl ?_
      exact c_X10_numeral_46 hX hQ v1 S19 h
  · rw [if_neg c4] at h
    refine aw_iload_n (pc := 7) hX dX10_numeral_7 rfl 1 rfl ?_
    cases h
    exact aw_iret hX hQ dX10_numeral_8

def f_X10_dollLine_88 (v1 : Int32) (v2 : Int32) (S : Mem) : Option Mem :=
  (f_X10_goOn S).bind fun S89 =>
  (wr S89 7 20 v1 v2).bind fun S98 =>
  bnd (f_X10_numeral (0 : Int32) (9 : Int32) S98) fun r108 S108 =>
  (wr S108 8 20 v1 r108).bind fun S111 =>
  bnd (f_X10_numeral (0 : Int32) (99 : Int32) S111) fun r121 S121 =>
  (wr S121 9 20 v1 r121).bind fun S124 =>
  bnd (f_X10_fresher (1 : Int32) S124) fun r129 S129 =>
  (f_X10_reads (1 : Int32) (r129 + (1 : Int32)) S129).bind fun S134 =>
  some S134

def f_X10_dollLine_70 (v1 : Int32) (t0 : Int32) (S : Mem) : Option Mem :=
  if (S.1 0 22) = 0 then
  (if t0 = (-1 : Int32) then
  ((f_X10_wrong (4 : Int32) S).bind fun S85 =>
  f_X10_dollLine_88 v1 t0 S85)
  else
  (f_X10_dollLine_88 v1 t0 S))
  else
  (f_X10_dollLine_88 v1 t0 S)

def f_X10_dollLine_41 (v1 : Int32) (S : Mem) : Option Mem :=
  if (S.1 0 22) = 0 then
  (bnd (f_X10_fresher (0 : Int32) S) fun r56 S56 =>
  bnd (f_X10_found 3 12 (6 : Int32) r56 (S56.1 0 21) S56) fun r63 S63 =>
  f_X10_dollLine_70 v1 r63 S63)
  else
  (f_X10_dollLine_70 v1 (0 : Int32) S)

def f_X10_dollLine (v1 : Int32) (S : Mem) : Option Mem :=
  bnd (f_X10_fresher (1 : Int32) S) fun r14 S14 =>
  bnd (f_X10_fresh 6 20 (10 : Int32) r14 S14) fun r17 S17 =>
  (wr S17 6 20 v1 r17).bind fun S20 =>
  if (S20.1 0 22) = 0 then
  (if (S20.1 0 20) = (1 : Int32) then
  (f_X10_dollLine_41 v1 S20)
  else
  ((f_X10_wrong (1 : Int32) S20).bind fun S38 =>
  f_X10_dollLine_41 v1 S38))
  else
  (f_X10_dollLine_41 v1 S20)

set_option maxHeartbeats 4000000 in
set_option maxRecDepth 100000 in
theorem c_X10_dollLine_88 {X : XT} {loc : Nat → Nat} {Sf : Mem} (hX : AC X loc RX10 cX10_dollLine none 3 7 0 0) (hQ : RetV X SKM loc 0 0 Sf) (v1 : Int32) (v2 : Int32) (S : Mem) (h : f_X10_dollLine_88 v1 v2 S = some Sf) : AW X SKM loc 0 0 88 [(0, .ref 0), (1, .int v1), (2, .int v2)] [] S := by
  unfold f_X10_dollLine_88 at h
  refine aw_aload_n (pc := 88) hX dX10_dollLine_88 rfl 0 rfl ?_
  obtain ⟨S89, hr89, h⟩ := ob h
  refine aw_cVV (pc := 89) (As := []) (rest := []) hX (c_X10_goOn hr89) ok_X10_goOn kw_6_180 im_X10_goOn se_X10_goOn rfl km0 rfl (by decide) (Nat.le_of_ble_eq_true rfl) rfl dX10_dollLine_89 (Nat.le_refl 0) (Nat.le_refl 0) ?_
  refine aw_aload_n (pc := 92) hX dX10_dollLine_92 rfl 0 rfl ?_
  refine gf_X10_28 (pc := 93) hX km0 rfl dX10_dollLine_93 ?_
  refine aw_iload_n (pc := 96) hX dX10_dollLine_96 rfl 1 rfl ?_
  refine aw_iload_n (pc := 97) hX dX10_dollLine_97 rfl 2 rfl ?_
  obtain ⟨S98, hS98, h⟩ := ob h
  refine aw_iast (pc := 98) hX km7 hS98 dX10_dollLine_98 ?_
  refine aw_aload_n (pc := 99) hX dX10_dollLine_99 rfl 0 rfl ?_
  refine gf_X10_31 (pc := 100) hX km0 rfl dX10_dollLine_100 ?_
  refine aw_iload_n (pc := 103) hX dX10_dollLine_103 rfl 1 rfl ?_
  refine aw_aload_n (pc := 104) hX dX10_dollLine_104 rfl 0 rfl ?_
  refine aw_iconst (v := (0 : Int32)) (pc := 105) hX dX10_dollLine_105 (by decide) ?_
  refine aw_bipush (v := (9 : Int32)) (pc := 106) hX dX10_dollLine_106 (by decide) ?_
  obtain ⟨r108, S108, hr108, h⟩ := ob2 h
  refine aw_cVI (pc := 108) (As := [.int (0 : Int32), .int (9 : Int32)]) (rest := [.int v1, .ref 8]) hX (c_X10_numeral hr108) ok_X10_numeral kw_6_184 im_X10_numeral se_X10_numeral rfl km0 rfl (by decide) (Nat.le_of_ble_eq_true rfl) rfl dX10_dollLine_108 (Nat.le_refl 0) (Nat.le_refl 0) ?_
  obtain ⟨S111, hS111, h⟩ := ob h
  refine aw_iast (pc := 111) hX km8 hS111 dX10_dollLine_111 ?_
  refine aw_aload_n (pc := 112) hX dX10_dollLine_112 rfl 0 rfl ?_
  refine gf_X10_34 (pc := 113) hX km0 rfl dX10_dollLine_113 ?_
  refine aw_iload_n (pc := 116) hX dX10_dollLine_116 rfl 1 rfl ?_
  refine aw_aload_n (pc := 117) hX dX10_dollLine_117 rfl 0 rfl ?_
  refine aw_iconst (v := (0 : Int32)) (pc := 118) hX dX10_dollLine_118 (by decide) ?_
  refine aw_bipush (v := (99 : Int32)) (pc := 119) hX dX10_dollLine_119 (by decide) ?_
  obtain ⟨r121, S121, hr121, h⟩ := ob2 h
  refine aw_cVI (pc := 121) (As := [.int (0 : Int32), .int (99 : Int32)]) (rest := [.int v1, .ref 9]) hX (c_X10_numeral hr121) ok_X10_numeral kw_6_184 im_X10_numeral se_X10_numeral rfl km0 rfl (by decide) (Nat.le_of_ble_eq_true rfl) rfl dX10_dollLine_121 (Nat.le_refl 0) (Nat.le_refl 0) ?_
  obtain ⟨S124, hS124, h⟩ := ob h
  refine aw_iast (pc := 124) hX km9 hS124 dX10_dollLine_124 ?_
  refine aw_aload_n (pc := 125) hX dX10_dollLine_125 rfl 0 rfl ?_
  refine aw_iconst (v := (1 : Int32)) (pc := 126) hX dX10_dollLine_126 (by decide) ?_
  refine aw_aload_n (pc := 127) hX dX10_dollLine_127 rfl 0 rfl ?_
  refine aw_iconst (v := (1 : Int32)) (pc := 128) hX dX10_dollLine_128 (by decide) ?_
  obtain ⟨r129, S129, hr129, h⟩ := ob2 h
  refine aw_cVI (pc := 129) (As := [.int (1 : Int32)]) (rest := [.int (1 : Int32), .ref 0]) hX (c_X10_fresher hr129) ok_X10_fresher kw_6_165 im_X10_fresher se_X10_fresher rfl km0 rfl (by decide) (Nat.le_of_ble_eq_true rfl) rfl dX10_dollLine_129 (Nat.le_refl 0) (Nat.le_refl 0) ?_
  refine aw_iconst (v := (1 : Int32)) (pc := 132) hX dX10_dollLine_132 (by decide) ?_
  refine aw_iadd (pc := 133) hX dX10_dollLine_133 ?_
  obtain ⟨S134, hr134, h⟩ := ob h
  refine aw_cVV (pc := 134) (As := [.int (1 : Int32), .int (r129 + (1 : Int32))]) (rest := []) hX (c_X10_reads hr134) ok_X10_reads kw_6_119 im_X10_reads se_X10_reads rfl km0 rfl (by decide) (Nat.le_of_ble_eq_true rfl) rfl dX10_dollLine_134 (Nat.le_refl 0) (Nat.le_refl 0) ?_
  cases h
  exact aw_vret hX hQ dX10_dollLine_137

set_option maxHeartbeats 4000000 in
set_option maxRecDepth 100000 in
theorem c_X10_dollLine_70 {X : XT} {loc : Nat → Nat} {Sf : Mem} (hX : AC X loc RX10 cX10_dollLine none 3 7 0 0) (hQ : RetV X SKM loc 0 0 Sf) (v1 : Int32) (t0 : Int32) (S : Mem) (h : f_X10_dollLine_70 v1 t0 S = some Sf) : AW X SKM loc 0 0 70 [(0, .ref 0), (1, .int v1)] [.int t0] S := by
  unfold f_X10_dollLine_70 at h
  refine aw_istore_n (ls' := [(2, .int t0), (0, .ref 0), (1, .int v1)]) (pc := 70) hX dX10_dollLine_70 rfl (by decide) rfl ?_
  refine aw_aload_n (pc := 71) hX dX10_dollLine_71 rfl 1 rfl ?_
  refine gf_X10_178 (pc := 72) hX km0 rfl dX10_dollLine_72 ?_
  refine aw_if_ne (pc := 75) hX (tgt := 88) dX10_dollLine_75 (by decide) (fun c75 => ?_) (fun c75 => ?_)
  · rw [if_neg c75] at h
    refine aw_sub (ls' := [(0, .ref 0), (1, .int v1), (2, .int t0)]) [1, 2, 0] rfl ?_
    exact c_X10_dollLine_88 hX hQ v1 t0 S h
  · rw [if_pos c75] at h
    refine aw_iload_n (pc := 78) hX dX10_dollLine_78 rfl 0 rfl ?_
    refine aw_iconst (v := (-1 : Int32)) (pc := 79) hX dX10_dollLine_79 (by decide) ?_
    refine aw_icmp_ne (pc := 80) hX (tgt := 88) dX10_dollLine_80 (by decide) (fun c80 => ?_) (fun c80 => ?_)
    · rw [if_neg c80] at h
      refine aw_sub (ls' := [(0, .ref 0), (1, .int v1), (2, .int t0)]) [1, 2, 0] rfl ?_
      exact c_X10_dollLine_88 hX hQ v1 t0 S h
    · rw [if_pos c80] at h
      refine aw_aload_n (pc := 83) hX dX10_dollLine_83 rfl 1 rfl ?_
      refine aw_iconst (v := (4 : Int32)) (pc := 84) hX dX10_dollLine_84 (by decide) ?_
      obtain ⟨S85, hr85, h⟩ := ob h
      refine aw_cVV (pc := 85) (As := [.int (4 : Int32)]) (rest := []) hX (c_X10_wrong hr85) ok_X10_wrong kw_6_157 im_X10_wrong se_X10_wrong rfl km0 rfl (by decide) (Nat.le_of_ble_eq_true rfl) rfl dX10_dollLine_85 (Nat.le_refl 0) (Nat.le_refl 0) ?_
      refine aw_sub (ls' := [(0, .ref 0), (1, .int v1), (2, .int t0)]) [1, 2, 0] rfl ?_
      exact c_X10_dollLine_88 hX hQ v1 t0 S85 h

set_option maxHeartbeats 4000000 in
set_option maxRecDepth 100000 in
theorem c_X10_dollLine_41 {X : XT} {loc : Nat → Nat} {Sf : Mem} (hX : AC X loc RX10 cX10_dollLine none 3 7 0 0) (hQ : RetV X SKM loc 0 0 Sf) (v1 : Int32) (S : Mem) (h : f_X10_dollLine_41 v1 S = some Sf) : AW X SKM loc 0 0 41 [(0, .ref 0), (1, .int v1)] [] S := by
  unfold f_X10_dollLine_41 at h
  refine aw_aload_n (pc := 41) hX dX10_dollLine_41 rfl 0 rfl ?_
  refine gf_X10_178 (pc := 42) hX km0 rfl dX10_dollLine_42 ?_
  refine aw_if_ne (pc := 45) hX (tgt := 69) dX10_dollLine_45 (by decide) (fun c45 => ?_) (fun c45 => ?_)
  · rw [if_neg c45] at h
    refine aw_iconst (v := (0 : Int32)) (pc := 69) hX dX10_dollLine_69 (by decide) ?_
    exact c_X10_dollLine_70 hX hQ v1 (0 : Int32) S h
  · rw [if_pos c45] at h
    refine aw_aload_n (pc := 48) hX dX10_dollLine_48 rfl 0 rfl ?_
    refine gf_X10_16 (pc := 49) hX km0 rfl dX10_dollLine_49 ?_
    refine aw_bipush (v := (6 : Int32)) (pc := 52) hX dX10_dollLine_52 (by decide) ?_
    refine aw_aload_n (pc := 54) hX dX10_dollLine_54 rfl 0 rfl ?_
    refine aw_iconst (v := (0 : Int32)) (pc := 55) hX dX10_dollLine_55 (by decide) ?_
    obtain ⟨r56, S56, hr56, h⟩ := ob2 h
    refine aw_cVI (pc := 56) (As := [.int (0 : Int32)]) (rest := [.int (6 : Int32), .ref 3]) hX (c_X10_fresher hr56) ok_X10_fresher kw_6_165 im_X10_fresher se_X10_fresher rfl km0 rfl (by decide) (Nat.le_of_ble_eq_true rfl) rfl dX10_dollLine_56 (Nat.le_refl 0) (Nat.le_refl 0) ?_
    refine aw_aload_n (pc := 59) hX dX10_dollLine_59 rfl 0 rfl ?_
    refine gf_X10_153 (pc := 60) hX km0 rfl dX10_dollLine_60 ?_
    obtain ⟨r63, S63, hr63, h⟩ := ob2 h
    refine aw_cSI (pc := 63) (As := [.ref 3, .int (6 : Int32), .int r56, .int (S56.1 0 21)]) (rest := []) hX (c_X10_found (sk := SKM) km3 hr63) ok_X10_found kw_6_177 st_X10_found rfl (by decide) (Nat.le_of_ble_eq_true rfl) rfl dX10_dollLine_63 (Nat.le_refl 0) (Nat.le_refl 0) ?_
    refine aw_goto (tgt := 70) (pc := 66) hX dX10_dollLine_66 (by decide) ?_
    exact c_X10_dollLine_70 hX hQ v1 r63 S63 h

set_option maxHeartbeats 4000000 in
set_option maxRecDepth 100000 in
theorem c_X10_dollLine {v1 : Int32} {S : Mem} {Sf : Mem} (h : f_X10_dollLine v1 S = some Sf) : MetV yX10_dollLine cX10_dollLine 3 none 7 [.ref 0, .int v1] SKM S Sf := by
  refine MetV.intro (by decide +kernel) (Nat.le_of_ble_eq_true rfl) (fun X loc hX hQ => ?_)
  unfold f_X10_dollLine at h
  show AW X SKM loc 0 0 0 [(0, .ref 0), (1, .int v1)] [] S
  refine aw_aload_n (pc := 0) hX dX10_dollLine_0 rfl 0 rfl ?_
  refine gf_X10_25 (pc := 1) hX km0 rfl dX10_dollLine_1 ?_
  refine aw_iload_n (pc := 4) hX dX10_dollLine_4 rfl 1 rfl ?_
  refine aw_aload_n (pc := 5) hX dX10_dollLine_5 rfl 0 rfl ?_
  refine aw_aload_n (pc := 6) hX dX10_dollLine_6 rfl 0 rfl ?_
  refine gf_X10_25 (pc := 7) hX km0 rfl dX10_dollLine_7 ?_
  refine aw_bipush (v := (10 : Int32)) (pc := 10) hX dX10_dollLine_10 (by decide) ?_
  refine aw_aload_n (pc := 12) hX dX10_dollLine_12 rfl 0 rfl ?_
  refine aw_iconst (v := (1 : Int32)) (pc := 13) hX dX10_dollLine_13 (by decide) ?_
  obtain ⟨r14, S14, hr14, h⟩ := ob2 h
  refine aw_cVI (pc := 14) (As := [.int (1 : Int32)]) (rest := [.int (10 : Int32), .ref 6, .ref 0, .int v1, .ref 6]) hX (c_X10_fresher hr14) ok_X10_fresher kw_6_165 im_X10_fresher se_X10_fresher rfl km0 rfl (by decide) (Nat.le_of_ble_eq_true rfl) rfl dX10_dollLine_14 (Nat.le_refl 0) (Nat.le_refl 0) ?_
  obtain ⟨r17, S17, hr17, h⟩ := ob2 h
  refine aw_cVI (pc := 17) (As := [.ref 6, .int (10 : Int32), .int r14]) (rest := [.int v1, .ref 6]) hX (c_X10_fresh km6 hr17) ok_X10_fresh kw_6_173 im_X10_fresh se_X10_fresh rfl km0 rfl (by decide) (Nat.le_of_ble_eq_true rfl) rfl dX10_dollLine_17 (Nat.le_refl 0) (Nat.le_refl 0) ?_
  obtain ⟨S20, hS20, h⟩ := ob h
  refine aw_iast (pc := 20) hX km6 hS20 dX10_dollLine_20 ?_
  refine aw_aload_n (pc := 21) hX dX10_dollLine_21 rfl 0 rfl ?_
  refine gf_X10_178 (pc := 22) hX km0 rfl dX10_dollLine_22 ?_
  refine aw_if_ne (pc := 25) hX (tgt := 41) dX10_dollLine_25 (by decide) (fun c25 => ?_) (fun c25 => ?_)
  · rw [if_neg c25] at h
    exact c_X10_dollLine_41 hX hQ v1 S20 h
  · rw [if_pos c25] at h
    refine aw_aload_n (pc := 28) hX dX10_dollLine_28 rfl 0 rfl ?_
    refine gf_X10_143 (pc := 29) hX km0 rfl dX10_dollLine_29 ?_
    refine aw_iconst (v := (1 : Int32)) (pc := 32) hX dX10_dollLine_32 (by decide) ?_
    refine aw_icmp_eq (pc := 33) hX (tgt := 41) dX10_dollLine_33 (by decide) (fun c33 => ?_) (fun c33 => ?_)
    · rw [if_pos c33] at h
      exact c_X10_dollLine_41 hX hQ v1 S20 h
    · rw [if_neg c33] at h
      refine aw_aload_n (pc := 36) hX dX10_dollLine_36 rfl 0 rfl ?_
      refine aw_iconst (v := (1 : Int32)) (pc := 37) hX dX10_dollLine_37 (by decide) ?_
      obtain ⟨S38, hr38, h⟩ := ob h
      refine aw_cVV (pc := 38) (As := [.int (1 : Int32)]) (rest := []) hX (c_X10_wrong hr38) ok_X10_wrong kw_6_157 im_X10_wrong se_X10_wrong rfl km0 rfl (by decide) (Nat.le_of_ble_eq_true rfl) rfl dX10_dollLine_38 (Nat.le_refl 0) (Nat.le_refl 0) ?_
      exact c_X10_dollLine_41 hX hQ v1 S38 h

def f_X10_enough_37 : Nat → Int32 → Int32 → Int32 → Int32 → Mem → Option (Int32 × Mem)
  | 0, _, _, _, _, _ => none
  | n + 1, v2, v3, v4, v5, S =>
  if v3 < v5 then
  (some (v4, S))
  else
  (if (v5 &&& (v3 ^^^ (-1 : Int32))) = 0 then
  (bnd (f_X10_sumOf 8 20 v5 S) fun r59 S59 =>
  if v2 ≤ r59 then
  (if v4 = (-2 : Int32) then
  (f_X10_enough_37 n v2 v3 v5 (v5 + 1) S59)
  else
  (bnd (f_X10_bitsOf v5 S59) fun r78 S78 =>
  bnd (f_X10_bitsOf v4 S78) fun r83 S83 =>
  if r83 ≤ r78 then
  (f_X10_enough_37 n v2 v3 v4 (v5 + 1) S83)
  else
  (f_X10_enough_37 n v2 v3 v5 (v5 + 1) S83)))
  else
  (f_X10_enough_37 n v2 v3 v4 (v5 + 1) S59))
  else
  (f_X10_enough_37 n v2 v3 v4 (v5 + 1) S))

def f_X10_enough (v1 : Int32) (v2 : Int32) (S : Mem) : Option (Int32 × Mem) :=
  nxt (sI S 0 0 (0 : Int32)) fun S2 =>
  bnd (f_X10_isCity v1 S2) fun r6 S6 =>
  if r6 = 0 then
  (some ((-1 : Int32), S6))
  else
  (if v2 < 0 then
  (some ((-1 : Int32), S6))
  else
  (if v2 ≤ (99 : Int32) then
  (bnd (f_X10_heldBy v1 S6) fun r26 S26 =>
  f_X10_enough_37 FU v2 r26 (-2 : Int32) (0 : Int32) S26)
  else
  (some ((-1 : Int32), S6))))

set_option maxHeartbeats 4000000 in
set_option maxRecDepth 100000 in
theorem c_X10_enough_37 {X : XT} {loc : Nat → Nat} {r : Int32} {Sf : Mem} (hX : AC X loc RX10 cX10_enough (some .int) 6 3 0 0) (hQ : RetI X SKM loc 0 0 r Sf) : ∀ (n : Nat) (v2 : Int32) (v3 : Int32) (v4 : Int32) (v5 : Int32) (S : Mem), f_X10_enough_37 n v2 v3 v4 v5 S = some (r, Sf) → AW X SKM loc 0 0 37 [(0, .ref 0), (2, .int v2), (3, .int v3), (4, .int v4), (5, .int v5)] [] S := by
  intro n
  induction n with
  | zero => intro v2 v3 v4 v5 S h; cases h
  | succ n ih =>
    intro v2 v3 v4 v5 S h
    unfold f_X10_enough_37 at h
    refine aw_iload (pc := 37) hX dX10_enough_37 4 rfl ?_
    refine aw_iload_n (pc := 39) hX dX10_enough_39 rfl 2 rfl ?_
    refine aw_icmp_gt (pc := 40) hX (tgt := 99) dX10_enough_40 (by decide) (fun c40 => ?_) (fun c40 => ?_)
    · rw [if_pos c40] at h
      refine aw_iload (pc := 99) hX dX10_enough_99 3 rfl ?_
      cases h
      exact aw_iret hX hQ dX10_enough_101
    · rw [if_neg c40] at h
      refine aw_iload (pc := 43) hX dX10_enough_43 4 rfl ?_
      refine aw_iload_n (pc := 45) hX dX10_enough_45 rfl 2 rfl ?_
      refine aw_iconst (v := (-1 : Int32)) (pc := 46) hX dX10_enough_46 (by decide) ?_
      refine aw_ixor (pc := 47) hX dX10_enough_47 ?_
      refine aw_iand (pc := 48) hX dX10_enough_48 ?_
      refine aw_if_ne (pc := 49) hX (tgt := 93) dX10_enough_49 (by decide) (fun c49 => ?_) (fun c49 => ?_)
      · rw [if_neg c49] at h
        refine aw_iinc (v := (v5 + 1)) (ls' := [(5, .int (v5 + 1)), (0, .ref 0), (2, .int v2), (3, .int v3), (4, .int v4)]) (pc := 93) hX dX10_enough_93 (pos := 4) rfl (by first | rfl | decide) (by decide) rfl ?_
        refine aw_goto (tgt := 37) (pc := 96) hX dX10_enough_96 (by decide) ?_
        refine aw_sub (ls' := [(0, .ref 0), (2, .int v2), (3, .int v3), (4, .int v4), (5, .int (v5 + 1))]) [1, 2, 3, 4, 0] rfl ?_
        exact ih v2 v3 v4 (v5 + 1) S h
      · rw [if_pos c49] at h
        refine aw_aload_n (pc := 52) hX dX10_enough_52 rfl 0 rfl ?_
        refine aw_aload_n (pc := 53) hX dX10_enough_53 rfl 0 rfl ?_
        refine gf_X10_31 (pc := 54) hX km0 rfl dX10_enough_54 ?_
        refine aw_iload (pc := 57) hX dX10_enough_57 4 rfl ?_
        obtain ⟨r59, S59, hr59, h⟩ := ob2 h
        refine aw_cVI (pc := 59) (As := [.ref 8, .int v5]) (rest := []) hX (c_X10_sumOf km8 hr59) ok_X10_sumOf kw_7_46 im_X10_sumOf se_X10_sumOf rfl km0 rfl (by decide) (Nat.le_of_ble_eq_true rfl) rfl dX10_enough_59 (Nat.le_refl 0) (Nat.le_refl 0) ?_
        refine aw_iload_n (pc := 62) hX dX10_enough_62 rfl 1 rfl ?_
        refine aw_icmp_ge (pc := 63) hX (tgt := 69) dX10_enough_63 (by decide) (fun c63 => ?_) (fun c63 => ?_)
        · rw [if_pos c63] at h
          refine aw_iload (pc := 69) hX dX10_enough_69 3 rfl ?_
          refine aw_bipush (v := (-2 : Int32)) (pc := 71) hX dX10_enough_71 (by decide) ?_
          refine aw_icmp_eq (pc := 73) hX (tgt := 89) dX10_enough_73 (by decide) (fun c73 => ?_) (fun c73 => ?_)
          · rw [if_pos c73] at h
            refine aw_iload (pc := 89) hX dX10_enough_89 4 rfl ?_
            refine aw_istore (ls' := [(4, .int v5), (0, .ref 0), (2, .int v2), (3, .int v3), (5, .int v5)]) (pc := 91) hX dX10_enough_91 (by decide) rfl ?_
            refine aw_iinc (v := (v5 + 1)) (ls' := [(5, .int (v5 + 1)), (4, .int v5), (0, .ref 0), (2, .int v2), (3, .int v3)]) (pc := 93) hX dX10_enough_93 (pos := 4) rfl (by first | rfl | decide) (by decide) rfl ?_
            refine aw_goto (tgt := 37) (pc := 96) hX dX10_enough_96 (by decide) ?_
            refine aw_sub (ls' := [(0, .ref 0), (2, .int v2), (3, .int v3), (4, .int v5), (5, .int (v5 + 1))]) [2, 3, 4, 1, 0] rfl ?_
            exact ih v2 v3 v5 (v5 + 1) S59 h
          · rw [if_neg c73] at h
            refine aw_iload (pc := 76) hX dX10_enough_76 4 rfl ?_
            obtain ⟨r78, S78, hr78, h⟩ := ob2 h
            refine aw_cSI (pc := 78) (As := [.int v5]) (rest := []) hX (c_X10_bitsOf (sk := SKM) hr78) ok_X10_bitsOf kw_7_197 st_X10_bitsOf rfl (by decide) (Nat.le_of_ble_eq_true rfl) rfl dX10_enough_78 (Nat.le_refl 0) (Nat.le_refl 0) ?_
            refine aw_iload (pc := 81) hX dX10_enough_81 3 rfl ?_
            obtain ⟨r83, S83, hr83, h⟩ := ob2 h
            refine aw_cSI (pc := 83) (As := [.int v4]) (rest := [.int r78]) hX (c_X10_bitsOf (sk := SKM) hr83) ok_X10_bitsOf kw_7_197 st_X10_bitsOf rfl (by decide) (Nat.le_of_ble_eq_true rfl) rfl dX10_enough_83 (Nat.le_refl 0) (Nat.le_refl 0) ?_
            refine aw_icmp_ge (pc := 86) hX (tgt := 93) dX10_enough_86 (by decide) (fun c86 => ?_) (fun c86 => ?_)
            · rw [if_pos c86] at h
              refine aw_iinc (v := (v5 + 1)) (ls' := [(5, .int (v5 + 1)), (0, .ref 0), (2, .int v2), (3, .int v3), (4, .int v4)]) (pc := 93) hX dX10_enough_93 (pos := 4) rfl (by first | rfl | decide) (by decide) rfl ?_
              refine aw_goto (tgt := 37) (pc := 96) hX dX10_enough_96 (by decide) ?_
              refine aw_sub (ls' := [(0, .ref 0), (2, .int v2), (3, .int v3), (4, .int v4), (5, .int (v5 + 1))]) [1, 2, 3, 4, 0] rfl ?_
              exact ih v2 v3 v4 (v5 + 1) S83 h
            · rw [if_neg c86] at h
              refine aw_iload (pc := 89) hX dX10_enough_89 4 rfl ?_
              refine aw_istore (ls' := [(4, .int v5), (0, .ref 0), (2, .int v2), (3, .int v3), (5, .int v5)]) (pc := 91) hX dX10_enough_91 (by decide) rfl ?_
              refine aw_iinc (v := (v5 + 1)) (ls' := [(5, .int (v5 + 1)), (4, .int v5), (0, .ref 0), (2, .int v2), (3, .int v3)]) (pc := 93) hX dX10_enough_93 (pos := 4) rfl (by first | rfl | decide) (by decide) rfl ?_
              refine aw_goto (tgt := 37) (pc := 96) hX dX10_enough_96 (by decide) ?_
              refine aw_sub (ls' := [(0, .ref 0), (2, .int v2), (3, .int v3), (4, .int v5), (5, .int (v5 + 1))]) [2, 3, 4, 1, 0] rfl ?_
              exact ih v2 v3 v5 (v5 + 1) S83 h
        · rw [if_neg c63] at h
          refine aw_goto (tgt := 93) (pc := 66) hX dX10_enough_66 (by decide) ?_
          refine aw_iinc (v := (v5 + 1)) (ls' := [(5, .int (v5 + 1)), (0, .ref 0), (2, .int v2), (3, .int v3), (4, .int v4)]) (pc := 93) hX dX10_enough_93 (pos := 4) rfl (by first | rfl | decide) (by decide) rfl ?_
          refine aw_goto (tgt := 37) (pc := 96) hX dX10_enough_96 (by decide) ?_
          refine aw_sub (ls' := [(0, .ref 0), (2, .int v2), (3, .int v3), (4, .int v4), (5, .int (v5 + 1))]) [1, 2, 3, 4, 0] rfl ?_
          exact ih v2 v3 v4 (v5 + 1) S59 h

set_option maxHeartbeats 4000000 in
set_option maxRecDepth 100000 in
theorem c_X10_enough {v1 : Int32} {v2 : Int32} {S : Mem} {r : Int32} {Sf : Mem} (h : f_X10_enough v1 v2 S = some (r, Sf)) : MetI yX10_enough cX10_enough 6 (some .int) 3 [.ref 0, .int v1, .int v2] SKM S r Sf := by
  refine MetI.intro (by decide +kernel) (Nat.le_of_ble_eq_true rfl) (fun X loc hX hQ => ?_)
  unfold f_X10_enough at h
  show AW X SKM loc 0 0 0 [(0, .ref 0), (1, .int v1), (2, .int v2)] [] S
  refine aw_aload_n (pc := 0) hX dX10_enough_0 rfl 0 rfl ?_
  refine aw_iconst (v := (0 : Int32)) (pc := 1) hX dX10_enough_1 (by decide) ?_
  refine pf_X10_124 (pc := 2) hX km0 rfl dX10_enough_2 ?_
  obtain ⟨S2, eS2, h⟩ := on h
  refine aw_S eS2 ?_
  refine aw_iload_n (pc := 5) hX dX10_enough_5 rfl 1 rfl ?_
  obtain ⟨r6, S6, hr6, h⟩ := ob2 h
  refine aw_cSI (pc := 6) (As := [.int v1]) (rest := []) hX (c_X10_isCity (sk := SKM) hr6) ok_X10_isCity kw_7_35 st_X10_isCity rfl (by decide) (Nat.le_of_ble_eq_true rfl) rfl dX10_enough_6 (Nat.le_refl 0) (Nat.le_refl 0) ?_
  refine aw_if_eq (pc := 9) hX (tgt := 22) dX10_enough_9 (by decide) (fun c9 => ?_) (fun c9 => ?_)
  · rw [if_pos c9] at h
    refine aw_iconst (v := (-1 : Int32)) (pc := 22) hX dX10_enough_22 (by decide) ?_
    cases h
    exact aw_iret hX hQ dX10_enough_23
  · rw [if_neg c9] at h
    refine aw_iload_n (pc := 12) hX dX10_enough_12 rfl 2 rfl ?_
    refine aw_if_lt (pc := 13) hX (tgt := 22) dX10_enough_13 (by decide) (fun c13 => ?_) (fun c13 => ?_)
    · rw [if_pos c13] at h
      refine aw_iconst (v := (-1 : Int32)) (pc := 22) hX dX10_enough_22 (by decide) ?_
      cases h
      exact aw_iret hX hQ dX10_enough_23
    · rw [if_neg c13] at h
      refine aw_iload_n (pc := 16) hX dX10_enough_16 rfl 2 rfl ?_
      refine aw_bipush (v := (99 : Int32)) (pc := 17) hX dX10_enough_17 (by decide) ?_
      refine aw_icmp_le (pc := 19) hX (tgt := 24) dX10_enough_19 (by decide) (fun c19 => ?_) (fun c19 => ?_)
      · rw [if_pos c19] at h
        refine aw_aload_n (pc := 24) hX dX10_enough_24 rfl 0 rfl ?_
        refine aw_iload_n (pc := 25) hX dX10_enough_25 rfl 1 rfl ?_
        obtain ⟨r26, S26, hr26, h⟩ := ob2 h
        refine aw_cVI (pc := 26) (As := [.int v1]) (rest := []) hX (c_X10_heldBy hr26) ok_X10_heldBy kw_7_38 im_X10_heldBy se_X10_heldBy rfl km0 rfl (by decide) (Nat.le_of_ble_eq_true rfl) rfl dX10_enough_26 (Nat.le_refl 0) (Nat.le_refl 0) ?_
        refine aw_istore_n (ls' := [(3, .int r26), (0, .ref 0), (1, .int v1), (2, .int v2)]) (pc := 29) hX dX10_enough_29 rfl (by decide) rfl ?_
        refine aw_bipush (v := (-2 : Int32)) (pc := 30) hX dX10_enough_30 (by decide) ?_
        refine aw_istore (ls' := [(4, .int (-2 : Int32)), (3, .int r26), (0, .ref 0), (1, .int v1), (2, .int v2)]) (pc := 32) hX dX10_enough_32 (by decide) rfl ?_
        refine aw_iconst (v := (0 : Int32)) (pc := 34) hX dX10_enough_34 (by decide) ?_
        refine aw_istore (ls' := [(5, .int (0 : Int32)), (4, .int (-2 : Int32)), (3, .int r26), (0, .ref 0), (1, .int v1), (2, .int v2)]) (pc := 35) hX dX10_enough_35 (by decide) rfl ?_
        refine aw_sub (ls' := [(0, .ref 0), (2, .int v2), (3, .int r26), (4, .int (-2 : Int32)), (5, .int (0 : Int32))]) [3, 5, 2, 1, 0] rfl ?_
        exact c_X10_enough_37 hX hQ FU v2 r26 (-2 : Int32) (0 : Int32) S26 h
      · rw [if_neg c19] at h
        refine aw_iconst (v := (-1 : Int32)) (pc := 22) hX dX10_enough_22 (by decide) ?_
        cases h
        exact aw_iret hX hQ dX10_enough_23

def f_X10_keepNow_45 (S : Mem) : Option Mem :=
  (f_X10_copies ((3 : Int32) + (S.1 0 42)) (0 : Int32) S).bind fun S53 =>
  nxt (sI S53 0 42 ((S53.1 0 42) + (1 : Int32))) fun S63 =>
  some S63

def f_X10_keepNow_11 : Nat → Int32 → Mem → Option Mem
  | 0, _, _ => none
  | n + 1, v1, S =>
  if (20 : Int32) ≤ v1 then
  (nxt (sI S 0 42 ((S.1 0 42) - (1 : Int32))) fun S42 =>
  f_X10_keepNow_45 S42)
  else
  ((f_X10_copies (((3 : Int32) + v1) - (1 : Int32)) ((3 : Int32) + v1) S).bind fun S26 =>
  f_X10_keepNow_11 n (v1 + 1) S26)

def f_X10_keepNow (S : Mem) : Option Mem :=
  if (S.1 0 42) = (20 : Int32) then
  (f_X10_keepNow_11 FU (1 : Int32) S)
  else
  (f_X10_keepNow_45 S)

set_option maxHeartbeats 4000000 in
set_option maxRecDepth 100000 in
theorem c_X10_keepNow_45 {X : XT} {loc : Nat → Nat} {Sf : Mem} (hX : AC X loc RX10 cX10_keepNow none 2 1 0 0) (hQ : RetV X SKM loc 0 0 Sf) (S : Mem) (h : f_X10_keepNow_45 S = some Sf) : AW X SKM loc 0 0 45 [(0, .ref 0)] [] S := by
  unfold f_X10_keepNow_45 at h
  refine aw_aload_n (pc := 45) hX dX10_keepNow_45 rfl 0 rfl ?_
  refine aw_iconst (v := (3 : Int32)) (pc := 46) hX dX10_keepNow_46 (by decide) ?_
  refine aw_aload_n (pc := 47) hX dX10_keepNow_47 rfl 0 rfl ?_
  refine gf_X10_284 (pc := 48) hX km0 rfl dX10_keepNow_48 ?_
  refine aw_iadd (pc := 51) hX dX10_keepNow_51 ?_
  refine aw_iconst (v := (0 : Int32)) (pc := 52) hX dX10_keepNow_52 (by decide) ?_
  obtain ⟨S53, hr53, h⟩ := ob h
  refine aw_cVV (pc := 53) (As := [.int ((3 : Int32) + (S.1 0 42)), .int (0 : Int32)]) (rest := []) hX (c_X10_copies hr53) ok_X10_copies kw_7_110 im_X10_copies se_X10_copies rfl km0 rfl (by decide) (Nat.le_of_ble_eq_true rfl) rfl dX10_keepNow_53 (Nat.le_refl 0) (Nat.le_refl 0) ?_
  refine aw_aload_n (pc := 56) hX dX10_keepNow_56 rfl 0 rfl ?_
  refine aw_dup (pc := 57) hX dX10_keepNow_57 rfl ?_
  refine gf_X10_284 (pc := 58) hX km0 rfl dX10_keepNow_58 ?_
  refine aw_iconst (v := (1 : Int32)) (pc := 61) hX dX10_keepNow_61 (by decide) ?_
  refine aw_iadd (pc := 62) hX dX10_keepNow_62 ?_
  refine pf_X10_284 (pc := 63) hX km0 rfl dX10_keepNow_63 ?_
  obtain ⟨S63, eS63, h⟩ := on h
  refine aw_S eS63 ?_
  cases h
  exact aw_vret hX hQ dX10_keepNow_66

set_option maxHeartbeats 4000000 in
set_option maxRecDepth 100000 in
theorem c_X10_keepNow_11 {X : XT} {loc : Nat → Nat} {Sf : Mem} (hX : AC X loc RX10 cX10_keepNow none 2 1 0 0) (hQ : RetV X SKM loc 0 0 Sf) : ∀ (n : Nat) (v1 : Int32) (S : Mem), f_X10_keepNow_11 n v1 S = some Sf → AW X SKM loc 0 0 11 [(0, .ref 0), (1, .int v1)] [] S := by
  intro n
  induction n with
  | zero => intro v1 S h; cases h
  | succ n ih =>
    intro v1 S h
    unfold f_X10_keepNow_11 at h
    refine aw_iload_n (pc := 11) hX dX10_keepNow_11 rfl 1 rfl ?_
    refine aw_bipush (v := (20 : Int32)) (pc := 12) hX dX10_keepNow_12 (by decide) ?_
    refine aw_icmp_ge (pc := 14) hX (tgt := 35) dX10_keepNow_14 (by decide) (fun c14 => ?_) (fun c14 => ?_)
    · rw [if_pos c14] at h
      refine aw_aload_n (pc := 35) hX dX10_keepNow_35 rfl 0 rfl ?_
      refine aw_dup (pc := 36) hX dX10_keepNow_36 rfl ?_
      refine gf_X10_284 (pc := 37) hX km0 rfl dX10_keepNow_37 ?_
      refine aw_iconst (v := (1 : Int32)) (pc := 40) hX dX10_keepNow_40 (by decide) ?_
      refine aw_isub (pc := 41) hX dX10_keepNow_41 ?_
      refine pf_X10_284 (pc := 42) hX km0 rfl dX10_keepNow_42 ?_
      obtain ⟨S42, eS42, h⟩ := on h
      refine aw_S eS42 ?_
      refine aw_sub (ls' := [(0, .ref 0)]) [0] rfl ?_
      exact c_X10_keepNow_45 hX hQ S42 h
    · rw [if_neg c14] at h
      refine aw_aload_n (pc := 17) hX dX10_keepNow_17 rfl 0 rfl ?_
      refine aw_iconst (v := (3 : Int32)) (pc := 18) hX dX10_keepNow_18 (by decide) ?_
      refine aw_iload_n (pc := 19) hX dX10_keepNow_19 rfl 1 rfl ?_
      refine aw_iadd (pc := 20) hX dX10_keepNow_20 ?_
      refine aw_iconst (v := (1 : Int32)) (pc := 21) hX dX10_keepNow_21 (by decide) ?_
      refine aw_isub (pc := 22) hX dX10_keepNow_22 ?_
      refine aw_iconst (v := (3 : Int32)) (pc := 23) hX dX10_keepNow_23 (by decide) ?_
      refine aw_iload_n (pc := 24) hX dX10_keepNow_24 rfl 1 rfl ?_
      refine aw_iadd (pc := 25) hX dX10_keepNow_25 ?_
      obtain ⟨S26, hr26, h⟩ := ob h
      refine aw_cVV (pc := 26) (As := [.int (((3 : Int32) + v1) - (1 : Int32)), .int ((3 : Int32) + v1)]) (rest := []) hX (c_X10_copies hr26) ok_X10_copies kw_7_110 im_X10_copies se_X10_copies rfl km0 rfl (by decide) (Nat.le_of_ble_eq_true rfl) rfl dX10_keepNow_26 (Nat.le_refl 0) (Nat.le_refl 0) ?_
      refine aw_iinc (v := (v1 + 1)) (ls' := [(1, .int (v1 + 1)), (0, .ref 0)]) (pc := 29) hX dX10_keepNow_29 (pos := 1) rfl (by first | rfl | decide) (by decide) rfl ?_
      refine aw_goto (tgt := 11) (pc := 32) hX dX10_keepNow_32 (by decide) ?_
      refine aw_sub (ls' := [(0, .ref 0), (1, .int (v1 + 1))]) [1, 0] rfl ?_
      exact ih (v1 + 1) S26 h

set_option maxHeartbeats 4000000 in
set_option maxRecDepth 100000 in
theorem c_X10_keepNow {S : Mem} {Sf : Mem} (h : f_X10_keepNow S = some Sf) : MetV yX10_keepNow cX10_keepNow 2 none 1 [.ref 0] SKM S Sf := by
  refine MetV.intro (by decide +kernel) (Nat.le_of_ble_eq_true rfl) (fun X loc hX hQ => ?_)
  unfold f_X10_keepNow at h
  show AW X SKM loc 0 0 0 [(0, .ref 0)] [] S
  refine aw_aload_n (pc := 0) hX dX10_keepNow_0 rfl 0 rfl ?_
  refine gf_X10_284 (pc := 1) hX km0 rfl dX10_keepNow_1 ?_
  refine aw_bipush (v := (20 : Int32)) (pc := 4) hX dX10_keepNow_4 (by decide) ?_
  refine aw_icmp_ne (pc := 6) hX (tgt := 45) dX10_keepNow_6 (by decide) (fun c6 => ?_) (fun c6 => ?_)
  · rw [if_neg c6] at h
    exact c_X10_keepNow_45 hX hQ S h
  · rw [if_pos c6] at h
    refine aw_iconst (v := (1 : Int32)) (pc := 9) hX dX10_keepNow_9 (by decide) ?_
    refine aw_istore_n (ls' := [(1, .int (1 : Int32)), (0, .ref 0)]) (pc := 10) hX dX10_keepNow_10 rfl (by decide) rfl ?_
    refine aw_sub (ls' := [(0, .ref 0), (1, .int (1 : Int32))]) [1, 0] rfl ?_
    exact c_X10_keepNow_11 hX hQ FU (1 : Int32) S h

def f_X10_exchange (v1 : Int32) (v2 : Int32) (S : Mem) : Option (Int32 × Mem) :=
  nxt (sI S 0 0 (0 : Int32)) fun S2 =>
  bnd (f_X10_isDoll v1 S2) fun r7 S7 =>
  if r7 = 0 then
  (some ((0 : Int32), S7))
  else
  (bnd (f_X10_isDoll v2 S7) fun r15 S15 =>
  if r15 = 0 then
  (some ((0 : Int32), S15))
  else
  (bnd (f_X10_isHeld (0 : Int32) v1 S15) fun r24 S24 =>
  if r24 = 0 then
  (some ((0 : Int32), S24))
  else
  (bnd (f_X10_isHeld (0 : Int32) v2 S24) fun r33 S33 =>
  if r33 = 0 then
  (some ((0 : Int32), S33))
  else
  (bnd (f_X10_ownerOf v1 S33) fun r41 S41 =>
  bnd (f_X10_ownerOf v2 S41) fun r46 S46 =>
  if r41 = r46 then
  (some ((0 : Int32), S46))
  else
  ((f_X10_keepNow S46).bind fun S55 =>
  (wr S55 24 230 v1 (0 : Int32)).bind fun S64 =>
  (wr S64 24 230 v2 (0 : Int32)).bind fun S71 =>
  some ((1 : Int32), S71))))))

set_option maxHeartbeats 4000000 in
set_option maxRecDepth 100000 in
theorem c_X10_exchange {v1 : Int32} {v2 : Int32} {S : Mem} {r : Int32} {Sf : Mem} (h : f_X10_exchange v1 v2 S = some (r, Sf)) : MetI yX10_exchange cX10_exchange 3 (some .boolean) 2 [.ref 0, .int v1, .int v2] SKM S r Sf := by
  refine MetI.intro (by decide +kernel) (Nat.le_of_ble_eq_true rfl) (fun X loc hX hQ => ?_)
  unfold f_X10_exchange at h
  show AW X SKM loc 0 0 0 [(0, .ref 0), (1, .int v1), (2, .int v2)] [] S
  refine aw_aload_n (pc := 0) hX dX10_exchange_0 rfl 0 rfl ?_
  refine aw_iconst (v := (0 : Int32)) (pc := 1) hX dX10_exchange_1 (by decide) ?_
  refine pf_X10_124 (pc := 2) hX km0 rfl dX10_exchange_2 ?_
  obtain ⟨S2, eS2, h⟩ := on h
  refine aw_S eS2 ?_
  refine aw_aload_n (pc := 5) hX dX10_exchange_5 rfl 0 rfl ?_
  refine aw_iload_n (pc := 6) hX dX10_exchange_6 rfl 1 rfl ?_
  obtain ⟨r7, S7, hr7, h⟩ := ob2 h
  refine aw_cVI (pc := 7) (As := [.int v1]) (rest := []) hX (c_X10_isDoll hr7) ok_X10_isDoll kw_7_11 im_X10_isDoll se_X10_isDoll rfl km0 rfl (by decide) (Nat.le_of_ble_eq_true rfl) rfl dX10_exchange_7 (Nat.le_refl 0) (Nat.le_refl 0) ?_
  refine aw_if_eq (pc := 10) hX (tgt := 52) dX10_exchange_10 (by decide) (fun c10 => ?_) (fun c10 => ?_)
  · rw [if_pos c10] at h
    refine aw_iconst (v := (0 : Int32)) (pc := 52) hX dX10_exchange_52 (by decide) ?_
    cases h
    exact aw_zret hX hQ (by decide) dX10_exchange_53
  · rw [if_neg c10] at h
    refine aw_aload_n (pc := 13) hX dX10_exchange_13 rfl 0 rfl ?_
    refine aw_iload_n (pc := 14) hX dX10_exchange_14 rfl 2 rfl ?_
    obtain ⟨r15, S15, hr15, h⟩ := ob2 h
    refine aw_cVI (pc := 15) (As := [.int v2]) (rest := []) hX (c_X10_isDoll hr15) ok_X10_isDoll kw_7_11 im_X10_isDoll se_X10_isDoll rfl km0 rfl (by decide) (Nat.le_of_ble_eq_true rfl) rfl dX10_exchange_15 (Nat.le_refl 0) (Nat.le_refl 0) ?_
    refine aw_if_eq (pc := 18) hX (tgt := 52) dX10_exchange_18 (by decide) (fun c18 => ?_) (fun c18 => ?_)
    · rw [if_pos c18] at h
      refine aw_iconst (v := (0 : Int32)) (pc := 52) hX dX10_exchange_52 (by decide) ?_
      cases h
      exact aw_zret hX hQ (by decide) dX10_exchange_53
    · rw [if_neg c18] at h
      refine aw_aload_n (pc := 21) hX dX10_exchange_21 rfl 0 rfl ?_
      refine aw_iconst (v := (0 : Int32)) (pc := 22) hX dX10_exchange_22 (by decide) ?_
      refine aw_iload_n (pc := 23) hX dX10_exchange_23 rfl 1 rfl ?_
      obtain ⟨r24, S24, hr24, h⟩ := ob2 h
      refine aw_cVI (pc := 24) (As := [.int (0 : Int32), .int v1]) (rest := []) hX (c_X10_isHeld hr24) ok_X10_isHeld kw_7_27 im_X10_isHeld se_X10_isHeld rfl km0 rfl (by decide) (Nat.le_of_ble_eq_true rfl) rfl dX10_exchange_24 (Nat.le_refl 0) (Nat.le_refl 0) ?_
      refine aw_if_eq (pc := 27) hX (tgt := 52) dX10_exchange_27 (by decide) (fun c27 => ?_) (fun c27 => ?_)
      · rw [if_pos c27] at h
        refine aw_iconst (v := (0 : Int32)) (pc := 52) hX dX10_exchange_52 (by decide) ?_
        cases h
        exact aw_zret hX hQ (by decide) dX10_exchange_53
      · rw [if_neg c27] at h
        refine aw_aload_n (pc := 30) hX dX10_exchange_30 rfl 0 rfl ?_
        refine aw_iconst (v := (0 : Int32)) (pc := 31) hX dX10_exchange_31 (by decide) ?_
        refine aw_iload_n (pc := 32) hX dX10_exchange_32 rfl 2 rfl ?_
        obtain ⟨r33, S33, hr33, h⟩ := ob2 h
        refine aw_cVI (pc := 33) (As := [.int (0 : Int32), .int v2]) (rest := []) hX (c_X10_isHeld hr33) ok_X10_isHeld kw_7_27 im_X10_isHeld se_X10_isHeld rfl km0 rfl (by decide) (Nat.le_of_ble_eq_true rfl) rfl dX10_exchange_33 (Nat.le_refl 0) (Nat.le_refl 0) ?_
        refine aw_if_eq (pc := 36) hX (tgt := 52) dX10_exchange_36 (by decide) (fun c36 => ?_) (fun c36 => ?_)
        · rw [if_pos c36] at h
          refine aw_iconst (v := (0 : Int32)) (pc := 52) hX dX10_exchange_52 (by decide) ?_
          cases h
          exact aw_zret hX hQ (by decide) dX10_exchange_53
        · rw [if_neg c36] at h
          refine aw_aload_n (pc := 39) hX dX10_exchange_39 rfl 0 rfl ?_
          refine aw_iload_n (pc := 40) hX dX10_exchange_40 rfl 1 rfl ?_
          obtain ⟨r41, S41, hr41, h⟩ := ob2 h
          refine aw_cVI (pc := 41) (As := [.int v1]) (rest := []) hX (c_X10_ownerOf hr41) ok_X10_ownerOf kw_7_15 im_X10_ownerOf se_X10_ownerOf rfl km0 rfl (by decide) (Nat.le_of_ble_eq_true rfl) rfl dX10_exchange_41 (Nat.le_refl 0) (Nat.le_refl 0) ?_
          refine aw_aload_n (pc := 44) hX dX10_exchange_44 rfl 0 rfl ?_
          refine aw_iload_n (pc := 45) hX dX10_exchange_45 rfl 2 rfl ?_
          obtain ⟨r46, S46, hr46, h⟩ := ob2 h
          refine aw_cVI (pc := 46) (As := [.int v2]) (rest := [.int r41]) hX (c_X10_ownerOf hr46) ok_X10_ownerOf kw_7_15 im_X10_ownerOf se_X10_ownerOf rfl km0 rfl (by decide) (Nat.le_of_ble_eq_true rfl) rfl dX10_exchange_46 (Nat.le_refl 0) (Nat.le_refl 0) ?_
          refine aw_icmp_ne (pc := 49) hX (tgt := 54) dX10_exchange_49 (by decide) (fun c49 => ?_) (fun c49 => ?_)
          · rw [if_neg c49] at h
            refine aw_aload_n (pc := 54) hX dX10_exchange_54 rfl 0 rfl ?_
            obtain ⟨S55, hr55, h⟩ := ob h
            refine aw_cVV (pc := 55) (As := []) (rest := []) hX (c_X10_keepNow hr55) ok_X10_keepNow kw_7_106 im_X10_keepNow se_X10_keepNow rfl km0 rfl (by decide) (Nat.le_of_ble_eq_true rfl) rfl dX10_exchange_55 (Nat.le_refl 0) (Nat.le_refl 0) ?_
            refine aw_aload_n (pc := 58) hX dX10_exchange_58 rfl 0 rfl ?_
            refine gf_X10_84 (pc := 59) hX km0 rfl dX10_exchange_59 ?_
            refine aw_iload_n (pc := 62) hX dX10_exchange_62 rfl 1 rfl ?_
            refine aw_iconst (v := (0 : Int32)) (pc := 63) hX dX10_exchange_63 (by decide) ?_
            obtain ⟨S64, hS64, h⟩ := ob h
            refine aw_iast (pc := 64) hX km24 hS64 dX10_exchange_64 ?_
            refine aw_aload_n (pc := 65) hX dX10_exchange_65 rfl 0 rfl ?_
            refine gf_X10_84 (pc := 66) hX km0 rfl dX10_exchange_66 ?_
            refine aw_iload_n (pc := 69) hX dX10_exchange_69 rfl 2 rfl ?_
            refine aw_iconst (v := (0 : Int32)) (pc := 70) hX dX10_exchange_70 (by decide) ?_
            obtain ⟨S71, hS71, h⟩ := ob h
            refine aw_iast (pc := 71) hX km24 hS71 dX10_exchange_71 ?_
            refine aw_iconst (v := (1 : Int32)) (pc := 72) hX dX10_exchange_72 (by decide) ?_
            cases h
            exact aw_zret hX hQ (by decide) dX10_exchange_73
          · rw [if_pos c49] at h
            refine aw_iconst (v := (0 : Int32)) (pc := 52) hX dX10_exchange_52 (by decide) ?_
            cases h
            exact aw_zret hX hQ (by decide) dX10_exchange_53

def f_X10_fault (v1 : Int32) (S : Mem) : Option (Int32 × Mem) :=
  nxt (sI S 0 0 (0 : Int32)) fun S2 =>
  if v1 = 0 then
  (some ((S2.1 0 24), S2))
  else
  (if v1 = (1 : Int32) then
  (some ((S2.1 0 25), S2))
  else
  (some ((-1 : Int32), S2)))

set_option maxHeartbeats 4000000 in
set_option maxRecDepth 100000 in
theorem c_X10_fault {v1 : Int32} {S : Mem} {r : Int32} {Sf : Mem} (h : f_X10_fault v1 S = some (r, Sf)) : MetI yX10_fault cX10_fault 2 (some .int) 0 [.ref 0, .int v1] SKM S r Sf := by
  refine MetI.intro (by decide +kernel) (Nat.le_of_ble_eq_true rfl) (fun X loc hX hQ => ?_)
  unfold f_X10_fault at h
  show AW X SKM loc 0 0 0 [(0, .ref 0), (1, .int v1)] [] S
  refine aw_aload_n (pc := 0) hX dX10_fault_0 rfl 0 rfl ?_
  refine aw_iconst (v := (0 : Int32)) (pc := 1) hX dX10_fault_1 (by decide) ?_
  refine pf_X10_124 (pc := 2) hX km0 rfl dX10_fault_2 ?_
  obtain ⟨S2, eS2, h⟩ := on h
  refine aw_S eS2 ?_
  refine aw_iload_n (pc := 5) hX dX10_fault_5 rfl 1 rfl ?_
  refine aw_if_ne (pc := 6) hX (tgt := 16) dX10_fault_6 (by decide) (fun c6 => ?_) (fun c6 => ?_)
  · rw [if_neg c6] at h
    refine aw_iload_n (pc := 16) hX dX10_fault_16 rfl 1 rfl ?_
    refine aw_iconst (v := (1 : Int32)) (pc := 17) hX dX10_fault_17 (by decide) ?_
    refine aw_icmp_ne (pc := 18) hX (tgt := 28) dX10_fault_18 (by decide) (fun c18 => ?_) (fun c18 => ?_)
    · rw [if_neg c18] at h
      refine aw_iconst (v := (-1 : Int32)) (pc := 28) hX dX10_fault_28 (by decide) ?_
      cases h
      exact aw_iret hX hQ dX10_fault_29
    · rw [if_pos c18] at h
      refine aw_aload_n (pc := 21) hX dX10_fault_21 rfl 0 rfl ?_
      refine gf_X10_49 (pc := 22) hX km0 rfl dX10_fault_22 ?_
      refine aw_goto (tgt := 29) (pc := 25) hX dX10_fault_25 (by decide) ?_
      cases h
      exact aw_iret hX hQ dX10_fault_29
  · rw [if_pos c6] at h
    refine aw_aload_n (pc := 9) hX dX10_fault_9 rfl 0 rfl ?_
    refine gf_X10_270 (pc := 10) hX km0 rfl dX10_fault_10 ?_
    refine aw_goto (tgt := 29) (pc := 13) hX dX10_fault_13 (by decide) ?_
    cases h
    exact aw_iret hX hQ dX10_fault_29

def f_X10_feed_73 (R20 : Int32 → Int32 → Int32 → Int32 → Int32 → Int32 → Mem → Option (Int32 × Mem)) (v1 : Int32) (v2 : Int32) (v3 : Int32) (v4 : Int32) (v5 : Int32) (v6 : Int32) (t0 : Int32) (S : Mem) : Option (Int32 × Mem) :=
  (rm v6 (4 : Int32)).bind fun x95 =>
  (wr S 1 700 ((S.1 0 2) + v6) ((t0 >>> (((24 : Int32) - ((8 : Int32) * x95)) &&& 31)) &&& (255 : Int32))).bind fun S103 =>
  R20 v1 v2 v3 v4 v5 (v6 + 1) S103

def f_X10_feed_20 : Nat → Int32 → Int32 → Int32 → Int32 → Int32 → Int32 → Mem → Option (Int32 × Mem)
  | 0, _, _, _, _, _, _, _ => none
  | n + 1, v1, v2, v3, v4, v5, v6, S =>
  if (20 : Int32) ≤ v6 then
  (nxt (sI S 0 2 ((S.1 0 2) + (20 : Int32))) fun S118 =>
  some ((S118.1 0 2), S118))
  else
  (if (4 : Int32) ≤ v6 then
  (if (8 : Int32) ≤ v6 then
  (if (12 : Int32) ≤ v6 then
  (if (16 : Int32) ≤ v6 then
  (f_X10_feed_73 (f_X10_feed_20 n) v1 v2 v3 v4 v5 v6 v5 S)
  else
  (f_X10_feed_73 (f_X10_feed_20 n) v1 v2 v3 v4 v5 v6 v4 S))
  else
  (f_X10_feed_73 (f_X10_feed_20 n) v1 v2 v3 v4 v5 v6 v3 S))
  else
  (f_X10_feed_73 (f_X10_feed_20 n) v1 v2 v3 v4 v5 v6 v2 S))
  else
  (f_X10_feed_73 (f_X10_feed_20 n) v1 v2 v3 v4 v5 v6 v1 S))

def f_X10_feed (v1 : Int32) (v2 : Int32) (v3 : Int32) (v4 : Int32) (v5 : Int32) (S : Mem) : Option (Int32 × Mem) :=
  nxt (sI S 0 0 (0 : Int32)) fun S2 =>
  if (S2.1 0 2) ≤ (680 : Int32) then
  (f_X10_feed_20 FU v1 v2 v3 v4 v5 (0 : Int32) S2)
  else
  (some ((-1 : Int32), S2))

set_option maxHeartbeats 4000000 in
set_option maxRecDepth 100000 in
theorem c_X10_feed_73 {X : XT} {loc : Nat → Nat} {r : Int32} {Sf : Mem} (hX : AC X loc RX10 cX10_feed (some .int) 8 0 0 0) (hQ : RetI X SKM loc 0 0 r Sf) {R20 : Int32 → Int32 → Int32 → Int32 → Int32 → Int32 → Mem → Option (Int32 × Mem)} (IH20 : ∀ (v1 : Int32) (v2 : Int32) (v3 : Int32) (v4 : Int32) (v5 : Int32) (v6 : Int32) (S : Mem), R20 v1 v2 v3 v4 v5 v6 S = some (r, Sf) → AW X SKM loc 0 0 20 [(0, .ref 0), (1, .int v1), (2, .int v2), (3, .int v3), (4, .int v4), (5, .int v5), (6, .int v6)] [] S) (v1 : Int32) (v2 : Int32) (v3 : Int32) (v4 : Int32) (v5 : Int32) (v6 : Int32) (t0 : Int32) (S : Mem) (h : f_X10_feed_73 R20 v1 v2 v3 v4 v5 v6 t0 S = some (r, Sf)) : AW X SKM loc 0 0 73 [(0, .ref 0), (1, .int v1), (2, .int v2), (3, .int v3), (4, .int v4), (5, .int v5), (6, .int v6)] [.int t0] S := by
  unfold f_X10_feed_73 at h
  refine aw_istore (ls' := [(7, .int t0), (0, .ref 0), (1, .int v1), (2, .int v2), (3, .int v3), (4, .int v4), (5, .int v5), (6, .int v6)]) (pc := 73) hX dX10_feed_73 (by decide) rfl ?_
  refine aw_aload_n (pc := 75) hX dX10_feed_75 rfl 1 rfl ?_
  refine gf_X10_7 (pc := 76) hX km0 rfl dX10_feed_76 ?_
  refine aw_aload_n (pc := 79) hX dX10_feed_79 rfl 1 rfl ?_
  refine gf_X10_127 (pc := 80) hX km0 rfl dX10_feed_80 ?_
  refine aw_iload (pc := 83) hX dX10_feed_83 7 rfl ?_
  refine aw_iadd (pc := 85) hX dX10_feed_85 ?_
  refine aw_iload (pc := 86) hX dX10_feed_86 0 rfl ?_
  refine aw_bipush (v := (24 : Int32)) (pc := 88) hX dX10_feed_88 (by decide) ?_
  refine aw_bipush (v := (8 : Int32)) (pc := 90) hX dX10_feed_90 (by decide) ?_
  refine aw_iload (pc := 92) hX dX10_feed_92 7 rfl ?_
  refine aw_iconst (v := (4 : Int32)) (pc := 94) hX dX10_feed_94 (by decide) ?_
  obtain ⟨x95, hx95, h⟩ := ob h
  refine aw_irem (pc := 95) hX dX10_feed_95 hx95 ?_
  refine aw_imul (pc := 96) hX dX10_feed_96 ?_
  refine aw_isub (pc := 97) hX dX10_feed_97 ?_
  refine aw_ishr (pc := 98) hX dX10_feed_98 ?_
  refine aw_sipush (v := (255 : Int32)) (pc := 99) hX dX10_feed_99 (by decide) ?_
  refine aw_iand (pc := 102) hX dX10_feed_102 ?_
  obtain ⟨S103, hS103, h⟩ := ob h
  refine aw_iast (pc := 103) hX km1 hS103 dX10_feed_103 ?_
  refine aw_iinc (v := (v6 + 1)) (ls' := [(6, .int (v6 + 1)), (7, .int t0), (0, .ref 0), (1, .int v1), (2, .int v2), (3, .int v3), (4, .int v4), (5, .int v5)]) (pc := 104) hX dX10_feed_104 (pos := 7) rfl (by first | rfl | decide) (by decide) rfl ?_
  refine aw_goto (tgt := 20) (pc := 107) hX dX10_feed_107 (by decide) ?_
  refine aw_sub (ls' := [(0, .ref 0), (1, .int v1), (2, .int v2), (3, .int v3), (4, .int v4), (5, .int v5), (6, .int (v6 + 1))]) [2, 3, 4, 5, 6, 7, 0] rfl ?_
  exact IH20 v1 v2 v3 v4 v5 (v6 + 1) S103 h

set_option maxHeartbeats 4000000 in
set_option maxRecDepth 100000 in
theorem c_X10_feed_20 {X : XT} {loc : Nat → Nat} {r : Int32} {Sf : Mem} (hX : AC X loc RX10 cX10_feed (some .int) 8 0 0 0) (hQ : RetI X SKM loc 0 0 r Sf) : ∀ (n : Nat) (v1 : Int32) (v2 : Int32) (v3 : Int32) (v4 : Int32) (v5 : Int32) (v6 : Int32) (S : Mem), f_X10_feed_20 n v1 v2 v3 v4 v5 v6 S = some (r, Sf) → AW X SKM loc 0 0 20 [(0, .ref 0), (1, .int v1), (2, .int v2), (3, .int v3), (4, .int v4), (5, .int v5), (6, .int v6)] [] S := by
  intro n
  induction n with
  | zero => intro v1 v2 v3 v4 v5 v6 S h; cases h
  | succ n ih =>
    intro v1 v2 v3 v4 v5 v6 S h
    unfold f_X10_feed_20 at h
    refine aw_iload (pc := 20) hX dX10_feed_20 6 rfl ?_
    refine aw_bipush (v := (20 : Int32)) (pc := 22) hX dX10_feed_22 (by decide) ?_
    refine aw_icmp_ge (pc := 24) hX (tgt := 110) dX10_feed_24 (by decide) (fun c24 => ?_) (fun c24 => ?_)
    · rw [if_pos c24] at h
      refine aw_aload_n (pc := 110) hX dX10_feed_110 rfl 0 rfl ?_
      refine aw_dup (pc := 111) hX dX10_feed_111 rfl ?_
      refine gf_X10_127 (pc := 112) hX km0 rfl dX10_feed_112 ?_
      refine aw_bipush (v := (20 : Int32)) (pc := 115) hX dX10_feed_115 (by decide) ?_
      refine aw_iadd (pc := 117) hX dX10_feed_117 ?_
      refine pf_X10_127 (pc := 118) hX km0 rfl dX10_feed_118 ?_
      obtain ⟨S118, eS118, h⟩ := on h
      refine aw_S eS118 ?_
      refine aw_aload_n (pc := 121) hX dX10_feed_121 rfl 0 rfl ?_
      refine gf_X10_127 (pc := 122) hX km0 rfl dX10_feed_122 ?_
      cases h
      exact aw_iret hX hQ dX10_feed_125
    · rw [if_neg c24] at h
      refine aw_iload (pc := 27) hX dX10_feed_27 6 rfl ?_
      refine aw_iconst (v := (4 : Int32)) (pc := 29) hX dX10_feed_29 (by decide) ?_
      refine aw_icmp_ge (pc := 30) hX (tgt := 37) dX10_feed_30 (by decide) (fun c30 => ?_) (fun c30 => ?_)
      · rw [if_pos c30] at h
        refine aw_iload (pc := 37) hX dX10_feed_37 6 rfl ?_
        refine aw_bipush (v := (8 : Int32)) (pc := 39) hX dX10_feed_39 (by decide) ?_
        refine aw_icmp_ge (pc := 41) hX (tgt := 48) dX10_feed_41 (by decide) (fun c41 => ?_) (fun c41 => ?_)
        · rw [if_pos c41] at h
          refine aw_iload (pc := 48) hX dX10_feed_48 6 rfl ?_
          refine aw_bipush (v := (12 : Int32)) (pc := 50) hX dX10_feed_50 (by decide) ?_
          refine aw_icmp_ge (pc := 52) hX (tgt := 59) dX10_feed_52 (by decide) (fun c52 => ?_) (fun c52 => ?_)
          · rw [if_pos c52] at h
            refine aw_iload (pc := 59) hX dX10_feed_59 6 rfl ?_
            refine aw_bipush (v := (16 : Int32)) (pc := 61) hX dX10_feed_61 (by decide) ?_
            refine aw_icmp_ge (pc := 63) hX (tgt := 71) dX10_feed_63 (by decide) (fun c63 => ?_) (fun c63 => ?_)
            · rw [if_pos c63] at h
              refine aw_iload (pc := 71) hX dX10_feed_71 5 rfl ?_
              exact c_X10_feed_73 hX hQ ih v1 v2 v3 v4 v5 v6 v5 S h
            · rw [if_neg c63] at h
              refine aw_iload (pc := 66) hX dX10_feed_66 4 rfl ?_
              refine aw_goto (tgt := 73) (pc := 68) hX dX10_feed_68 (by decide) ?_
              exact c_X10_feed_73 hX hQ ih v1 v2 v3 v4 v5 v6 v4 S h
          · rw [if_neg c52] at h
            refine aw_iload_n (pc := 55) hX dX10_feed_55 rfl 3 rfl ?_
            refine aw_goto (tgt := 73) (pc := 56) hX dX10_feed_56 (by decide) ?_
            exact c_X10_feed_73 hX hQ ih v1 v2 v3 v4 v5 v6 v3 S h
        · rw [if_neg c41] at h
          refine aw_iload_n (pc := 44) hX dX10_feed_44 rfl 2 rfl ?_
          refine aw_goto (tgt := 73) (pc := 45) hX dX10_feed_45 (by decide) ?_
          exact c_X10_feed_73 hX hQ ih v1 v2 v3 v4 v5 v6 v2 S h
      · rw [if_neg c30] at h
        refine aw_iload_n (pc := 33) hX dX10_feed_33 rfl 1 rfl ?_
        refine aw_goto (tgt := 73) (pc := 34) hX dX10_feed_34 (by decide) ?_
        exact c_X10_feed_73 hX hQ ih v1 v2 v3 v4 v5 v6 v1 S h

set_option maxHeartbeats 4000000 in
set_option maxRecDepth 100000 in
theorem c_X10_feed {v1 : Int32} {v2 : Int32} {v3 : Int32} {v4 : Int32} {v5 : Int32} {S : Mem} {r : Int32} {Sf : Mem} (h : f_X10_feed v1 v2 v3 v4 v5 S = some (r, Sf)) : MetI yX10_feed cX10_feed 8 (some .int) 0 [.ref 0, .int v1, .int v2, .int v3, .int v4, .int v5] SKM S r Sf := by
  refine MetI.intro (by decide +kernel) (Nat.le_of_ble_eq_true rfl) (fun X loc hX hQ => ?_)
  unfold f_X10_feed at h
  show AW X SKM loc 0 0 0 [(0, .ref 0), (1, .int v1), (2, .int v2), (3, .int v3), (4, .int v4), (5, .int v5)] [] S
  refine aw_aload_n (pc := 0) hX dX10_feed_0 rfl 0 rfl ?_
  refine aw_iconst (v := (0 : Int32)) (pc := 1) hX dX10_feed_1 (by decide) ?_
  refine pf_X10_124 (pc := 2) hX km0 rfl dX10_feed_2 ?_
  obtain ⟨S2, eS2, h⟩ := on h
  refine aw_S eS2 ?_
  refine aw_aload_n (pc := 5) hX dX10_feed_5 rfl 0 rfl ?_
  refine gf_X10_127 (pc := 6) hX km0 rfl dX10_feed_6 ?_
  refine aw_sipush (v := (680 : Int32)) (pc := 9) hX dX10_feed_9 (by decide) ?_
  refine aw_icmp_le (pc := 12) hX (tgt := 17) dX10_feed_12 (by decide) (fun c12 => ?_) (fun c12 => ?_)
  · rw [if_pos c12] at h
    refine aw_iconst (v := (0 : Int32)) (pc := 17) hX dX10_feed_17 (by decide) ?_
    refine aw_istore (ls' := [(6, .int (0 : Int32)), (0, .ref 0), (1, .int v1), (2, .int v2), (3, .int v3), (4, .int v4), (5, .int v5)]) (pc := 18) hX dX10_feed_18 (by decide) rfl ?_
    refine aw_sub (ls' := [(0, .ref 0), (1, .int v1), (2, .int v2), (3, .int v3), (4, .int v4), (5, .int v5), (6, .int (0 : Int32))]) [1, 2, 3, 4, 5, 6, 0] rfl ?_
    exact c_X10_feed_20 hX hQ FU v1 v2 v3 v4 v5 (0 : Int32) S2 h
  · rw [if_neg c12] at h
    refine aw_iconst (v := (-1 : Int32)) (pc := 15) hX dX10_feed_15 (by decide) ?_
    cases h
    exact aw_iret hX hQ dX10_feed_16

def f_X10_firstBreach_13 : Nat → Int32 → Mem → Option (Int32 × Mem)
  | 0, _, _ => none
  | n + 1, v1, S =>
  if (99 : Int32) < v1 then
  (some ((-2 : Int32), S))
  else
  ((f_X10_passes (1 : Int32) (0 : Int32) S).bind fun S22 =>
  bnd (f_X10_breachesBoth (1 : Int32) S22) fun r27 S27 =>
  bnd (f_X10_breachesBoth (0 : Int32) S27) fun r32 S32 =>
  if r27 ≤ r32 then
  (f_X10_firstBreach_13 n (v1 + 1) S32)
  else
  (some (v1, S32)))

def f_X10_firstBreach (S : Mem) : Option (Int32 × Mem) :=
  nxt (sI S 0 0 (0 : Int32)) fun S2 =>
  (f_X10_copies (1 : Int32) (0 : Int32) S2).bind fun S8 =>
  f_X10_firstBreach_13 FU (1 : Int32) S8

set_option maxHeartbeats 4000000 in
set_option maxRecDepth 100000 in
theorem c_X10_firstBreach_13 {X : XT} {loc : Nat → Nat} {r : Int32} {Sf : Mem} (hX : AC X loc RX10 cX10_firstBreach (some .int) 2 7 0 0) (hQ : RetI X SKM loc 0 0 r Sf) : ∀ (n : Nat) (v1 : Int32) (S : Mem), f_X10_firstBreach_13 n v1 S = some (r, Sf) → AW X SKM loc 0 0 13 [(0, .ref 0), (1, .int v1)] [] S := by
  intro n
  induction n with
  | zero => intro v1 S h; cases h
  | succ n ih =>
    intro v1 S h
    unfold f_X10_firstBreach_13 at h
    refine aw_iload_n (pc := 13) hX dX10_firstBreach_13 rfl 1 rfl ?_
    refine aw_bipush (v := (99 : Int32)) (pc := 14) hX dX10_firstBreach_14 (by decide) ?_
    refine aw_icmp_gt (pc := 16) hX (tgt := 46) dX10_firstBreach_16 (by decide) (fun c16 => ?_) (fun c16 => ?_)
    · rw [if_pos c16] at h
      refine aw_bipush (v := (-2 : Int32)) (pc := 46) hX dX10_firstBreach_46 (by decide) ?_
      cases h
      exact aw_iret hX hQ dX10_firstBreach_48
    · rw [if_neg c16] at h
      refine aw_aload_n (pc := 19) hX dX10_firstBreach_19 rfl 0 rfl ?_
      refine aw_iconst (v := (1 : Int32)) (pc := 20) hX dX10_firstBreach_20 (by decide) ?_
      refine aw_iconst (v := (0 : Int32)) (pc := 21) hX dX10_firstBreach_21 (by decide) ?_
      obtain ⟨S22, hr22, h⟩ := ob h
      refine aw_cVV (pc := 22) (As := [.int (1 : Int32), .int (0 : Int32)]) (rest := []) hX (c_X10_passes hr22) ok_X10_passes kw_7_130 im_X10_passes se_X10_passes rfl km0 rfl (by decide) (Nat.le_of_ble_eq_true rfl) rfl dX10_firstBreach_22 (Nat.le_refl 0) (Nat.le_refl 0) ?_
      refine aw_aload_n (pc := 25) hX dX10_firstBreach_25 rfl 0 rfl ?_
      refine aw_iconst (v := (1 : Int32)) (pc := 26) hX dX10_firstBreach_26 (by decide) ?_
      obtain ⟨r27, S27, hr27, h⟩ := ob2 h
      refine aw_cVI (pc := 27) (As := [.int (1 : Int32)]) (rest := []) hX (c_X10_breachesBoth hr27) ok_X10_breachesBoth kw_7_173 im_X10_breachesBoth se_X10_breachesBoth rfl km0 rfl (by decide) (Nat.le_of_ble_eq_true rfl) rfl dX10_firstBreach_27 (Nat.le_refl 0) (Nat.le_refl 0) ?_
      refine aw_aload_n (pc := 30) hX dX10_firstBreach_30 rfl 0 rfl ?_
      refine aw_iconst (v := (0 : Int32)) (pc := 31) hX dX10_firstBreach_31 (by decide) ?_
      obtain ⟨r32, S32, hr32, h⟩ := ob2 h
      refine aw_cVI (pc := 32) (As := [.int (0 : Int32)]) (rest := [.int r27]) hX (c_X10_breachesBoth hr32) ok_X10_breachesBoth kw_7_173 im_X10_breachesBoth se_X10_breachesBoth rfl km0 rfl (by decide) (Nat.le_of_ble_eq_true rfl) rfl dX10_firstBreach_32 (Nat.le_refl 0) (Nat.le_refl 0) ?_
      refine aw_icmp_le (pc := 35) hX (tgt := 40) dX10_firstBreach_35 (by decide) (fun c35 => ?_) (fun c35 => ?_)
      · rw [if_pos c35] at h
        refine aw_iinc (v := (v1 + 1)) (ls' := [(1, .int (v1 + 1)), (0, .ref 0)]) (pc := 40) hX dX10_firstBreach_40 (pos := 1) rfl (by first | rfl | decide) (by decide) rfl ?_
        refine aw_goto (tgt := 13) (pc := 43) hX dX10_firstBreach_43 (by decide) ?_
        refine aw_sub (ls' := [(0, .ref 0), (1, .int (v1 + 1))]) [1, 0] rfl ?_
        exact ih (v1 + 1) S32 h
      · rw [if_neg c35] at h
        refine aw_iload_n (pc := 38) hX dX10_firstBreach_38 rfl 1 rfl ?_
        cases h
        exact aw_iret hX hQ dX10_firstBreach_39

set_option maxHeartbeats 4000000 in
set_option maxRecDepth 100000 in
theorem c_X10_firstBreach {S : Mem} {r : Int32} {Sf : Mem} (h : f_X10_firstBreach S = some (r, Sf)) : MetI yX10_firstBreach cX10_firstBreach 2 (some .int) 7 [.ref 0] SKM S r Sf := by
  refine MetI.intro (by decide +kernel) (Nat.le_of_ble_eq_true rfl) (fun X loc hX hQ => ?_)
  unfold f_X10_firstBreach at h
  show AW X SKM loc 0 0 0 [(0, .ref 0)] [] S
  refine aw_aload_n (pc := 0) hX dX10_firstBreach_0 rfl 0 rfl ?_
  refine aw_iconst (v := (0 : Int32)) (pc := 1) hX dX10_firstBreach_1 (by decide) ?_
  refine pf_X10_124 (pc := 2) hX km0 rfl dX10_firstBreach_2 ?_
  obtain ⟨S2, eS2, h⟩ := on h
  refine aw_S eS2 ?_
  refine aw_aload_n (pc := 5) hX dX10_firstBreach_5 rfl 0 rfl ?_
  refine aw_iconst (v := (1 : Int32)) (pc := 6) hX dX10_firstBreach_6 (by decide) ?_
  refine aw_iconst (v := (0 : Int32)) (pc := 7) hX dX10_firstBreach_7 (by decide) ?_
  obtain ⟨S8, hr8, h⟩ := ob h
  refine aw_cVV (pc := 8) (As := [.int (1 : Int32), .int (0 : Int32)]) (rest := []) hX (c_X10_copies hr8) ok_X10_copies kw_7_110 im_X10_copies se_X10_copies rfl km0 rfl (by decide) (Nat.le_of_ble_eq_true rfl) rfl dX10_firstBreach_8 (Nat.le_refl 0) (Nat.le_refl 0) ?_
  refine aw_iconst (v := (1 : Int32)) (pc := 11) hX dX10_firstBreach_11 (by decide) ?_
  refine aw_istore_n (ls' := [(1, .int (1 : Int32)), (0, .ref 0)]) (pc := 12) hX dX10_firstBreach_12 rfl (by decide) rfl ?_
  refine aw_sub (ls' := [(0, .ref 0), (1, .int (1 : Int32))]) [1, 0] rfl ?_
  exact c_X10_firstBreach_13 hX hQ FU (1 : Int32) S8 h

def f_X10_give (v1 : Int32) (v2 : Int32) (S : Mem) : Option (Int32 × Mem) :=
  nxt (sI S 0 0 (0 : Int32)) fun S2 =>
  bnd (f_X10_isDoll v1 S2) fun r7 S7 =>
  if r7 = 0 then
  (some ((0 : Int32), S7))
  else
  (bnd (f_X10_isNurse v2 S7) fun r15 S15 =>
  if r15 = 0 then
  (some ((0 : Int32), S15))
  else
  (bnd (f_X10_isHeld (0 : Int32) v1 S15) fun r24 S24 =>
  if r24 = 0 then
  (some ((0 : Int32), S24))
  else
  ((rd S24 4 12 v2).bind fun x35 =>
  (rd S24 7 20 v1).bind fun x45 =>
  (rd S24 4 12 x45).bind fun x46 =>
  if x35 = x46 then
  ((rd S24 21 230 v1).bind fun x55 =>
  if x55 = v2 then
  (some ((0 : Int32), S24))
  else
  ((f_X10_keepNow S24).bind fun S63 =>
  (wr S63 21 230 v1 v2).bind fun S72 =>
  some ((1 : Int32), S72)))
  else
  (some ((0 : Int32), S24)))))

set_option maxHeartbeats 4000000 in
set_option maxRecDepth 100000 in
theorem c_X10_give {v1 : Int32} {v2 : Int32} {S : Mem} {r : Int32} {Sf : Mem} (h : f_X10_give v1 v2 S = some (r, Sf)) : MetI yX10_give cX10_give 3 (some .boolean) 2 [.ref 0, .int v1, .int v2] SKM S r Sf := by
  refine MetI.intro (by decide +kernel) (Nat.le_of_ble_eq_true rfl) (fun X loc hX hQ => ?_)
  unfold f_X10_give at h
  show AW X SKM loc 0 0 0 [(0, .ref 0), (1, .int v1), (2, .int v2)] [] S
  refine aw_aload_n (pc := 0) hX dX10_give_0 rfl 0 rfl ?_
  refine aw_iconst (v := (0 : Int32)) (pc := 1) hX dX10_give_1 (by decide) ?_
  refine pf_X10_124 (pc := 2) hX km0 rfl dX10_give_2 ?_
  obtain ⟨S2, eS2, h⟩ := on h
  refine aw_S eS2 ?_
  refine aw_aload_n (pc := 5) hX dX10_give_5 rfl 0 rfl ?_
  refine aw_iload_n (pc := 6) hX dX10_give_6 rfl 1 rfl ?_
  obtain ⟨r7, S7, hr7, h⟩ := ob2 h
  refine aw_cVI (pc := 7) (As := [.int v1]) (rest := []) hX (c_X10_isDoll hr7) ok_X10_isDoll kw_7_11 im_X10_isDoll se_X10_isDoll rfl km0 rfl (by decide) (Nat.le_of_ble_eq_true rfl) rfl dX10_give_7 (Nat.le_refl 0) (Nat.le_refl 0) ?_
  refine aw_if_eq (pc := 10) hX (tgt := 60) dX10_give_10 (by decide) (fun c10 => ?_) (fun c10 => ?_)
  · rw [if_pos c10] at h
    refine aw_iconst (v := (0 : Int32)) (pc := 60) hX dX10_give_60 (by decide) ?_
    cases h
    exact aw_zret hX hQ (by decide) dX10_give_61
  · rw [if_neg c10] at h
    refine aw_aload_n (pc := 13) hX dX10_give_13 rfl 0 rfl ?_
    refine aw_iload_n (pc := 14) hX dX10_give_14 rfl 2 rfl ?_
    obtain ⟨r15, S15, hr15, h⟩ := ob2 h
    refine aw_cVI (pc := 15) (As := [.int v2]) (rest := []) hX (c_X10_isNurse hr15) ok_X10_isNurse kw_7_23 im_X10_isNurse se_X10_isNurse rfl km0 rfl (by decide) (Nat.le_of_ble_eq_true rfl) rfl dX10_give_15 (Nat.le_refl 0) (Nat.le_refl 0) ?_
    refine aw_if_eq (pc := 18) hX (tgt := 60) dX10_give_18 (by decide) (fun c18 => ?_) (fun c18 => ?_)
    · rw [if_pos c18] at h
      refine aw_iconst (v := (0 : Int32)) (pc := 60) hX dX10_give_60 (by decide) ?_
      cases h
      exact aw_zret hX hQ (by decide) dX10_give_61
    · rw [if_neg c18] at h
      refine aw_aload_n (pc := 21) hX dX10_give_21 rfl 0 rfl ?_
      refine aw_iconst (v := (0 : Int32)) (pc := 22) hX dX10_give_22 (by decide) ?_
      refine aw_iload_n (pc := 23) hX dX10_give_23 rfl 1 rfl ?_
      obtain ⟨r24, S24, hr24, h⟩ := ob2 h
      refine aw_cVI (pc := 24) (As := [.int (0 : Int32), .int v1]) (rest := []) hX (c_X10_isHeld hr24) ok_X10_isHeld kw_7_27 im_X10_isHeld se_X10_isHeld rfl km0 rfl (by decide) (Nat.le_of_ble_eq_true rfl) rfl dX10_give_24 (Nat.le_refl 0) (Nat.le_refl 0) ?_
      refine aw_if_eq (pc := 27) hX (tgt := 60) dX10_give_27 (by decide) (fun c27 => ?_) (fun c27 => ?_)
      · rw [if_pos c27] at h
        refine aw_iconst (v := (0 : Int32)) (pc := 60) hX dX10_give_60 (by decide) ?_
        cases h
        exact aw_zret hX hQ (by decide) dX10_give_61
      · rw [if_neg c27] at h
        refine aw_aload_n (pc := 30) hX dX10_give_30 rfl 0 rfl ?_
        refine gf_X10_19 (pc := 31) hX km0 rfl dX10_give_31 ?_
        refine aw_iload_n (pc := 34) hX dX10_give_34 rfl 2 rfl ?_
        obtain ⟨x35, hx35, h⟩ := ob h
        refine aw_iald (pc := 35) hX km4 hx35 dX10_give_35 ?_
        refine aw_aload_n (pc := 36) hX dX10_give_36 rfl 0 rfl ?_
        refine gf_X10_19 (pc := 37) hX km0 rfl dX10_give_37 ?_
        refine aw_aload_n (pc := 40) hX dX10_give_40 rfl 0 rfl ?_
        refine gf_X10_28 (pc := 41) hX km0 rfl dX10_give_41 ?_
        refine aw_iload_n (pc := 44) hX dX10_give_44 rfl 1 rfl ?_
        obtain ⟨x45, hx45, h⟩ := ob h
        refine aw_iald (pc := 45) hX km7 hx45 dX10_give_45 ?_
        obtain ⟨x46, hx46, h⟩ := ob h
        refine aw_iald (pc := 46) hX km4 hx46 dX10_give_46 ?_
        refine aw_icmp_ne (pc := 47) hX (tgt := 60) dX10_give_47 (by decide) (fun c47 => ?_) (fun c47 => ?_)
        · rw [if_neg c47] at h
          refine aw_iconst (v := (0 : Int32)) (pc := 60) hX dX10_give_60 (by decide) ?_
          cases h
          exact aw_zret hX hQ (by decide) dX10_give_61
        · rw [if_pos c47] at h
          refine aw_aload_n (pc := 50) hX dX10_give_50 rfl 0 rfl ?_
          refine gf_X10_75 (pc := 51) hX km0 rfl dX10_give_51 ?_
          refine aw_iload_n (pc := 54) hX dX10_give_54 rfl 1 rfl ?_
          obtain ⟨x55, hx55, h⟩ := ob h
          refine aw_iald (pc := 55) hX km21 hx55 dX10_give_55 ?_
          refine aw_iload_n (pc := 56) hX dX10_give_56 rfl 2 rfl ?_
          refine aw_icmp_ne (pc := 57) hX (tgt := 62) dX10_give_57 (by decide) (fun c57 => ?_) (fun c57 => ?_)
          · rw [if_neg c57] at h
            refine aw_aload_n (pc := 62) hX dX10_give_62 rfl 0 rfl ?_
            obtain ⟨S63, hr63, h⟩ := ob h
            refine aw_cVV (pc := 63) (As := []) (rest := []) hX (c_X10_keepNow hr63) ok_X10_keepNow kw_7_106 im_X10_keepNow se_X10_keepNow rfl km0 rfl (by decide) (Nat.le_of_ble_eq_true rfl) rfl dX10_give_63 (Nat.le_refl 0) (Nat.le_refl 0) ?_
            refine aw_aload_n (pc := 66) hX dX10_give_66 rfl 0 rfl ?_
            refine gf_X10_75 (pc := 67) hX km0 rfl dX10_give_67 ?_
            refine aw_iload_n (pc := 70) hX dX10_give_70 rfl 1 rfl ?_
            refine aw_iload_n (pc := 71) hX dX10_give_71 rfl 2 rfl ?_
            obtain ⟨S72, hS72, h⟩ := ob h
            refine aw_iast (pc := 72) hX km21 hS72 dX10_give_72 ?_
            refine aw_iconst (v := (1 : Int32)) (pc := 73) hX dX10_give_73 (by decide) ?_
            cases h
            exact aw_zret hX hQ (by decide) dX10_give_74
          · rw [if_pos c57] at h
            refine aw_iconst (v := (0 : Int32)) (pc := 60) hX dX10_give_60 (by decide) ?_
            cases h
            exact aw_zret hX hQ (by decide) dX10_give_61

def f_X10_go_42 : Nat → Int32 → Int32 → Mem → Option (Int32 × Mem)
  | 0, _, _, _ => none
  | n + 1, v1, v2, S =>
  if v1 ≤ v2 then
  ((rd S 16 23 (0 : Int32)).bind fun x64 =>
  some (x64, S))
  else
  ((f_X10_passes (0 : Int32) (1 : Int32) S).bind fun S50 =>
  f_X10_go_42 n v1 (v2 + 1) S50)

def f_X10_go (v1 : Int32) (S : Mem) : Option (Int32 × Mem) :=
  nxt (sI S 0 0 (0 : Int32)) fun S2 =>
  if v1 < 0 then
  (some ((-1 : Int32), S2))
  else
  (if (99 : Int32) < v1 then
  (some ((-1 : Int32), S2))
  else
  ((rd S2 16 23 (0 : Int32)).bind fun x20 =>
  if (x20 + v1) ≤ (9900 : Int32) then
  (if v1 ≤ 0 then
  (f_X10_go_42 FU v1 (0 : Int32) S2)
  else
  (nxt (sI S2 0 42 (0 : Int32)) fun S37 =>
  f_X10_go_42 FU v1 (0 : Int32) S37))
  else
  (some ((-1 : Int32), S2))))

set_option maxHeartbeats 4000000 in
set_option maxRecDepth 100000 in
theorem c_X10_go_42 {X : XT} {loc : Nat → Nat} {r : Int32} {Sf : Mem} (hX : AC X loc RX10 cX10_go (some .int) 3 7 0 0) (hQ : RetI X SKM loc 0 0 r Sf) : ∀ (n : Nat) (v1 : Int32) (v2 : Int32) (S : Mem), f_X10_go_42 n v1 v2 S = some (r, Sf) → AW X SKM loc 0 0 42 [(0, .ref 0), (1, .int v1), (2, .int v2)] [] S := by
  intro n
  induction n with
  | zero => intro v1 v2 S h; cases h
  | succ n ih =>
    intro v1 v2 S h
    unfold f_X10_go_42 at h
    refine aw_iload_n (pc := 42) hX dX10_go_42 rfl 2 rfl ?_
    refine aw_iload_n (pc := 43) hX dX10_go_43 rfl 1 rfl ?_
    refine aw_icmp_ge (pc := 44) hX (tgt := 59) dX10_go_44 (by decide) (fun c44 => ?_) (fun c44 => ?_)
    · rw [if_pos c44] at h
      refine aw_aload_n (pc := 59) hX dX10_go_59 rfl 0 rfl ?_
      refine gf_X10_60 (pc := 60) hX km0 rfl dX10_go_60 ?_
      refine aw_iconst (v := (0 : Int32)) (pc := 63) hX dX10_go_63 (by decide) ?_
      obtain ⟨x64, hx64, h⟩ := ob h
      refine aw_iald (pc := 64) hX km16 hx64 dX10_go_64 ?_
      cases h
      exact aw_iret hX hQ dX10_go_65
    · rw [if_neg c44] at h
      refine aw_aload_n (pc := 47) hX dX10_go_47 rfl 0 rfl ?_
      refine aw_iconst (v := (0 : Int32)) (pc := 48) hX dX10_go_48 (by decide) ?_
      refine aw_iconst (v := (1 : Int32)) (pc := 49) hX dX10_go_49 (by decide) ?_
      obtain ⟨S50, hr50, h⟩ := ob h
      refine aw_cVV (pc := 50) (As := [.int (0 : Int32), .int (1 : Int32)]) (rest := []) hX (c_X10_passes hr50) ok_X10_passes kw_7_130 im_X10_passes se_X10_passes rfl km0 rfl (by decide) (Nat.le_of_ble_eq_true rfl) rfl dX10_go_50 (Nat.le_refl 0) (Nat.le_refl 0) ?_
      refine aw_iinc (v := (v2 + 1)) (ls' := [(2, .int (v2 + 1)), (0, .ref 0), (1, .int v1)]) (pc := 53) hX dX10_go_53 (pos := 2) rfl (by first | rfl | decide) (by decide) rfl ?_
      refine aw_goto (tgt := 42) (pc := 56) hX dX10_go_56 (by decide) ?_
      refine aw_sub (ls' := [(0, .ref 0), (1, .int v1), (2, .int (v2 + 1))]) [1, 2, 0] rfl ?_
      exact ih v1 (v2 + 1) S50 h

set_option maxHeartbeats 4000000 in
set_option maxRecDepth 100000 in
theorem c_X10_go {v1 : Int32} {S : Mem} {r : Int32} {Sf : Mem} (h : f_X10_go v1 S = some (r, Sf)) : MetI yX10_go cX10_go 3 (some .int) 7 [.ref 0, .int v1] SKM S r Sf := by
  refine MetI.intro (by decide +kernel) (Nat.le_of_ble_eq_true rfl) (fun X loc hX hQ => ?_)
  unfold f_X10_go at h
  show AW X SKM loc 0 0 0 [(0, .ref 0), (1, .int v1)] [] S
  refine aw_aload_n (pc := 0) hX dX10_go_0 rfl 0 rfl ?_
  refine aw_iconst (v := (0 : Int32)) (pc := 1) hX dX10_go_1 (by decide) ?_
  refine pf_X10_124 (pc := 2) hX km0 rfl dX10_go_2 ?_
  obtain ⟨S2, eS2, h⟩ := on h
  refine aw_S eS2 ?_
  refine aw_iload_n (pc := 5) hX dX10_go_5 rfl 1 rfl ?_
  refine aw_if_lt (pc := 6) hX (tgt := 29) dX10_go_6 (by decide) (fun c6 => ?_) (fun c6 => ?_)
  · rw [if_pos c6] at h
    refine aw_iconst (v := (-1 : Int32)) (pc := 29) hX dX10_go_29 (by decide) ?_
    cases h
    exact aw_iret hX hQ dX10_go_30
  · rw [if_neg c6] at h
    refine aw_iload_n (pc := 9) hX dX10_go_9 rfl 1 rfl ?_
    refine aw_bipush (v := (99 : Int32)) (pc := 10) hX dX10_go_10 (by decide) ?_
    refine aw_icmp_gt (pc := 12) hX (tgt := 29) dX10_go_12 (by decide) (fun c12 => ?_) (fun c12 => ?_)
    · rw [if_pos c12] at h
      refine aw_iconst (v := (-1 : Int32)) (pc := 29) hX dX10_go_29 (by decide) ?_
      cases h
      exact aw_iret hX hQ dX10_go_30
    · rw [if_neg c12] at h
      refine aw_aload_n (pc := 15) hX dX10_go_15 rfl 0 rfl ?_
      refine gf_X10_60 (pc := 16) hX km0 rfl dX10_go_16 ?_
      refine aw_iconst (v := (0 : Int32)) (pc := 19) hX dX10_go_19 (by decide) ?_
      obtain ⟨x20, hx20, h⟩ := ob h
      refine aw_iald (pc := 20) hX km16 hx20 dX10_go_20 ?_
      refine aw_iload_n (pc := 21) hX dX10_go_21 rfl 1 rfl ?_
      refine aw_iadd (pc := 22) hX dX10_go_22 ?_
      refine aw_sipush (v := (9900 : Int32)) (pc := 23) hX dX10_go_23 (by decide) ?_
      refine aw_icmp_le (pc := 26) hX (tgt := 31) dX10_go_26 (by decide) (fun c26 => ?_) (fun c26 => ?_)
      · rw [if_pos c26] at h
        refine aw_iload_n (pc := 31) hX dX10_go_31 rfl 1 rfl ?_
        refine aw_if_le (pc := 32) hX (tgt := 40) dX10_go_32 (by decide) (fun c32 => ?_) (fun c32 => ?_)
        · rw [if_pos c32] at h
          refine aw_iconst (v := (0 : Int32)) (pc := 40) hX dX10_go_40 (by decide) ?_
          refine aw_istore_n (ls' := [(2, .int (0 : Int32)), (0, .ref 0), (1, .int v1)]) (pc := 41) hX dX10_go_41 rfl (by decide) rfl ?_
          refine aw_sub (ls' := [(0, .ref 0), (1, .int v1), (2, .int (0 : Int32))]) [1, 2, 0] rfl ?_
          exact c_X10_go_42 hX hQ FU v1 (0 : Int32) S2 h
        · rw [if_neg c32] at h
          refine aw_aload_n (pc := 35) hX dX10_go_35 rfl 0 rfl ?_
          refine aw_iconst (v := (0 : Int32)) (pc := 36) hX dX10_go_36 (by decide) ?_
          refine pf_X10_284 (pc := 37) hX km0 rfl dX10_go_37 ?_
          obtain ⟨S37, eS37, h⟩ := on h
          refine aw_S eS37 ?_
          refine aw_iconst (v := (0 : Int32)) (pc := 40) hX dX10_go_40 (by decide) ?_
          refine aw_istore_n (ls' := [(2, .int (0 : Int32)), (0, .ref 0), (1, .int v1)]) (pc := 41) hX dX10_go_41 rfl (by decide) rfl ?_
          refine aw_sub (ls' := [(0, .ref 0), (1, .int v1), (2, .int (0 : Int32))]) [1, 2, 0] rfl ?_
          exact c_X10_go_42 hX hQ FU v1 (0 : Int32) S37 h
      · rw [if_neg c26] at h
        refine aw_iconst (v := (-1 : Int32)) (pc := 29) hX dX10_go_29 (by decide) ?_
        cases h
        exact aw_iret hX hQ dX10_go_30

def f_X10_half_7 (a0 : Nat) (n0 : Nat) : Nat → Int32 → Int32 → Mem → Option Mem
  | 0, _, _, _ => none
  | n + 1, v1, v2, S =>
  if v1 ≤ v2 then
  (some S)
  else
  ((rd S a0 n0 (v1 + v2)).bind fun x18 =>
  (wr S a0 n0 v2 x18).bind fun S19 =>
  f_X10_half_7 a0 n0 n v1 (v2 + 1) S19)

def f_X10_half (a0 : Nat) (n0 : Nat) (S : Mem) : Option Mem :=
  (dv (nI n0) (2 : Int32)).bind fun x3 =>
  f_X10_half_7 a0 n0 FU x3 (0 : Int32) S

set_option maxHeartbeats 4000000 in
set_option maxRecDepth 100000 in
theorem c_X10_half_7 {X : XT} {loc : Nat → Nat} {sk : Skel} {a0 : Nat} {n0 : Nat} {Sf : Mem} (hX : AC X loc RX10 cX10_half none 3 0 0 0) (hQ : RetV X sk loc 0 0 Sf) (ha0 : sk[a0]? = some (0, n0, [])) : ∀ (n : Nat) (v1 : Int32) (v2 : Int32) (S : Mem), f_X10_half_7 a0 n0 n v1 v2 S = some Sf → AW X sk loc 0 0 7 [(0, .ref a0), (1, .int v1), (2, .int v2)] [] S := by
  intro n
  induction n with
  | zero => intro v1 v2 S h; cases h
  | succ n ih =>
    intro v1 v2 S h
    unfold f_X10_half_7 at h
    refine aw_iload_n (pc := 7) hX dX10_half_7 rfl 2 rfl ?_
    refine aw_iload_n (pc := 8) hX dX10_half_8 rfl 1 rfl ?_
    refine aw_icmp_ge (pc := 9) hX (tgt := 26) dX10_half_9 (by decide) (fun c9 => ?_) (fun c9 => ?_)
    · rw [if_pos c9] at h
      cases h
      exact aw_vret hX hQ dX10_half_26
    · rw [if_neg c9] at h
      refine aw_aload_n (pc := 12) hX dX10_half_12 rfl 0 rfl ?_
      refine aw_iload_n (pc := 13) hX dX10_half_13 rfl 2 rfl ?_
      refine aw_aload_n (pc := 14) hX dX10_half_14 rfl 0 rfl ?_
      refine aw_iload_n (pc := 15) hX dX10_half_15 rfl 1 rfl ?_
      refine aw_iload_n (pc := 16) hX dX10_half_16 rfl 2 rfl ?_
      refine aw_iadd (pc := 17) hX dX10_half_17 ?_
      obtain ⟨x18, hx18, h⟩ := ob h
      refine aw_iald (pc := 18) hX ha0 hx18 dX10_half_18 ?_
      obtain ⟨S19, hS19, h⟩ := ob h
      refine aw_iast (pc := 19) hX ha0 hS19 dX10_half_19 ?_
      refine aw_iinc (v := (v2 + 1)) (ls' := [(2, .int (v2 + 1)), (0, .ref a0), (1, .int v1)]) (pc := 20) hX dX10_half_20 (pos := 2) rfl (by first | rfl | decide) (by decide) rfl ?_
      refine aw_goto (tgt := 7) (pc := 23) hX dX10_half_23 (by decide) ?_
      refine aw_sub (ls' := [(0, .ref a0), (1, .int v1), (2, .int (v2 + 1))]) [1, 2, 0] rfl ?_
      exact ih v1 (v2 + 1) S19 h

set_option maxHeartbeats 4000000 in
set_option maxRecDepth 100000 in
theorem c_X10_half {sk : Skel} {a0 : Nat} {n0 : Nat} {S : Mem} {Sf : Mem} (ha0 : sk[a0]? = some (0, n0, [])) (h : f_X10_half a0 n0 S = some Sf) : MetV yX10_half cX10_half 3 none 0 [.ref a0] sk S Sf := by
  refine MetV.intro (by decide +kernel) (Nat.le_of_ble_eq_true rfl) (fun X loc hX hQ => ?_)
  unfold f_X10_half at h
  show AW X sk loc 0 0 0 [(0, .ref a0)] [] S
  refine aw_aload_n (pc := 0) hX dX10_half_0 rfl 0 rfl ?_
  refine aw_alen (pc := 1) hX ha0 (by decide) dX10_half_1 ?_
  refine aw_iconst (v := (2 : Int32)) (pc := 2) hX dX10_half_2 (by decide) ?_
  obtain ⟨x3, hx3, h⟩ := ob h
  refine aw_idiv (pc := 3) hX dX10_half_3 hx3 ?_
  refine aw_istore_n (ls' := [(1, .int x3), (0, .ref a0)]) (pc := 4) hX dX10_half_4 rfl (by decide) rfl ?_
  refine aw_iconst (v := (0 : Int32)) (pc := 5) hX dX10_half_5 (by decide) ?_
  refine aw_istore_n (ls' := [(2, .int (0 : Int32)), (1, .int x3), (0, .ref a0)]) (pc := 6) hX dX10_half_6 rfl (by decide) rfl ?_
  refine aw_sub (ls' := [(0, .ref a0), (1, .int x3), (2, .int (0 : Int32))]) [2, 1, 0] rfl ?_
  exact c_X10_half_7 hX hQ ha0 FU x3 (0 : Int32) S h

def f_X10_hasOf (v1 : Int32) (v2 : Int32) (v3 : Int32) (S : Mem) : Option (Int32 × Mem) :=
  bnd (f_X10_heldBy v1 S) fun r8 S8 =>
  bnd (f_X10_sumOf 9 20 r8 S8) fun r11 S11 =>
  bnd (f_X10_heldBy ((1 : Int32) - v1) S11) fun r27 S27 =>
  bnd (f_X10_sumOf 8 20 r27 S27) fun r30 S30 =>
  some (((v2 * r11) - (((5 : Int32) * v3) * r30)), S30)

set_option maxHeartbeats 4000000 in
set_option maxRecDepth 100000 in
theorem c_X10_hasOf {v1 : Int32} {v2 : Int32} {v3 : Int32} {S : Mem} {r : Int32} {Sf : Mem} (h : f_X10_hasOf v1 v2 v3 S = some (r, Sf)) : MetI yX10_hasOf cX10_hasOf 4 (some .int) 3 [.ref 0, .int v1, .int v2, .int v3] SKM S r Sf := by
  refine MetI.intro (by decide +kernel) (Nat.le_of_ble_eq_true rfl) (fun X loc hX hQ => ?_)
  unfold f_X10_hasOf at h
  show AW X SKM loc 0 0 0 [(0, .ref 0), (1, .int v1), (2, .int v2), (3, .int v3)] [] S
  refine aw_iload_n (pc := 0) hX dX10_hasOf_0 rfl 2 rfl ?_
  refine aw_aload_n (pc := 1) hX dX10_hasOf_1 rfl 0 rfl ?_
  refine aw_aload_n (pc := 2) hX dX10_hasOf_2 rfl 0 rfl ?_
  refine gf_X10_34 (pc := 3) hX km0 rfl dX10_hasOf_3 ?_
  refine aw_aload_n (pc := 6) hX dX10_hasOf_6 rfl 0 rfl ?_
  refine aw_iload_n (pc := 7) hX dX10_hasOf_7 rfl 1 rfl ?_
  obtain ⟨r8, S8, hr8, h⟩ := ob2 h
  refine aw_cVI (pc := 8) (As := [.int v1]) (rest := [.ref 9, .ref 0, .int v2]) hX (c_X10_heldBy hr8) ok_X10_heldBy kw_7_38 im_X10_heldBy se_X10_heldBy rfl km0 rfl (by decide) (Nat.le_of_ble_eq_true rfl) rfl dX10_hasOf_8 (Nat.le_refl 0) (Nat.le_refl 0) ?_
  obtain ⟨r11, S11, hr11, h⟩ := ob2 h
  refine aw_cVI (pc := 11) (As := [.ref 9, .int r8]) (rest := [.int v2]) hX (c_X10_sumOf km9 hr11) ok_X10_sumOf kw_7_46 im_X10_sumOf se_X10_sumOf rfl km0 rfl (by decide) (Nat.le_of_ble_eq_true rfl) rfl dX10_hasOf_11 (Nat.le_refl 0) (Nat.le_refl 0) ?_
  refine aw_imul (pc := 14) hX dX10_hasOf_14 ?_
  refine aw_iconst (v := (5 : Int32)) (pc := 15) hX dX10_hasOf_15 (by decide) ?_
  refine aw_iload_n (pc := 16) hX dX10_hasOf_16 rfl 3 rfl ?_
  refine aw_imul (pc := 17) hX dX10_hasOf_17 ?_
  refine aw_aload_n (pc := 18) hX dX10_hasOf_18 rfl 0 rfl ?_
  refine aw_aload_n (pc := 19) hX dX10_hasOf_19 rfl 0 rfl ?_
  refine gf_X10_31 (pc := 20) hX km0 rfl dX10_hasOf_20 ?_
  refine aw_aload_n (pc := 23) hX dX10_hasOf_23 rfl 0 rfl ?_
  refine aw_iconst (v := (1 : Int32)) (pc := 24) hX dX10_hasOf_24 (by decide) ?_
  refine aw_iload_n (pc := 25) hX dX10_hasOf_25 rfl 1 rfl ?_
  refine aw_isub (pc := 26) hX dX10_hasOf_26 ?_
  obtain ⟨r27, S27, hr27, h⟩ := ob2 h
  refine aw_cVI (pc := 27) (As := [.int ((1 : Int32) - v1)]) (rest := [.ref 8, .ref 0, .int ((5 : Int32) * v3), .int (v2 * r11)]) hX (c_X10_heldBy hr27) ok_X10_heldBy kw_7_38 im_X10_heldBy se_X10_heldBy rfl km0 rfl (by decide) (Nat.le_of_ble_eq_true rfl) rfl dX10_hasOf_27 (Nat.le_refl 0) (Nat.le_refl 0) ?_
  obtain ⟨r30, S30, hr30, h⟩ := ob2 h
  refine aw_cVI (pc := 30) (As := [.ref 8, .int r27]) (rest := [.int ((5 : Int32) * v3), .int (v2 * r11)]) hX (c_X10_sumOf km8 hr30) ok_X10_sumOf kw_7_46 im_X10_sumOf se_X10_sumOf rfl km0 rfl (by decide) (Nat.le_of_ble_eq_true rfl) rfl dX10_hasOf_30 (Nat.le_refl 0) (Nat.le_refl 0) ?_
  refine aw_imul (pc := 33) hX dX10_hasOf_33 ?_
  refine aw_isub (pc := 34) hX dX10_hasOf_34 ?_
  cases h
  exact aw_iret hX hQ dX10_hasOf_35

def f_X10_isFull_14 (v1 : Int32) (S : Mem) : Option (Int32 × Mem) :=
  if v1 = (1 : Int32) then
  (bnd (f_X10_fresher (1 : Int32) S) fun r21 S21 =>
  if r21 = (10 : Int32) then
  (some ((1 : Int32), S21))
  else
  (some ((0 : Int32), S21)))
  else
  (some ((0 : Int32), S))

def f_X10_isFull (v1 : Int32) (S : Mem) : Option (Int32 × Mem) :=
  if v1 = 0 then
  (bnd (f_X10_fresher (0 : Int32) S) fun r6 S6 =>
  if r6 = (6 : Int32) then
  (some ((1 : Int32), S6))
  else
  (f_X10_isFull_14 v1 S6))
  else
  (f_X10_isFull_14 v1 S)

set_option maxHeartbeats 4000000 in
set_option maxRecDepth 100000 in
theorem c_X10_isFull_14 {X : XT} {loc : Nat → Nat} {r : Int32} {Sf : Mem} (hX : AC X loc RX10 cX10_isFull (some .boolean) 2 1 0 0) (hQ : RetI X SKM loc 0 0 r Sf) (v1 : Int32) (S : Mem) (h : f_X10_isFull_14 v1 S = some (r, Sf)) : AW X SKM loc 0 0 14 [(0, .ref 0), (1, .int v1)] [] S := by
  unfold f_X10_isFull_14 at h
  refine aw_iload_n (pc := 14) hX dX10_isFull_14 rfl 1 rfl ?_
  refine aw_iconst (v := (1 : Int32)) (pc := 15) hX dX10_isFull_15 (by decide) ?_
  refine aw_icmp_ne (pc := 16) hX (tgt := 33) dX10_isFull_16 (by decide) (fun c16 => ?_) (fun c16 => ?_)
  · rw [if_neg c16] at h
    refine aw_iconst (v := (0 : Int32)) (pc := 33) hX dX10_isFull_33 (by decide) ?_
    cases h
    exact aw_zret hX hQ (by decide) dX10_isFull_34
  · rw [if_pos c16] at h
    refine aw_aload_n (pc := 19) hX dX10_isFull_19 rfl 0 rfl ?_
    refine aw_iconst (v := (1 : Int32)) (pc := 20) hX dX10_isFull_20 (by decide) ?_
    obtain ⟨r21, S21, hr21, h⟩ := ob2 h
    refine aw_cVI (pc := 21) (As := [.int (1 : Int32)]) (rest := []) hX (c_X10_fresher hr21) ok_X10_fresher kw_6_165 im_X10_fresher se_X10_fresher rfl km0 rfl (by decide) (Nat.le_of_ble_eq_true rfl) rfl dX10_isFull_21 (Nat.le_refl 0) (Nat.le_refl 0) ?_
    refine aw_bipush (v := (10 : Int32)) (pc := 24) hX dX10_isFull_24 (by decide) ?_
    refine aw_icmp_ne (pc := 26) hX (tgt := 33) dX10_isFull_26 (by decide) (fun c26 => ?_) (fun c26 => ?_)
    · rw [if_neg c26] at h
      refine aw_iconst (v := (0 : Int32)) (pc := 33) hX dX10_isFull_33 (by decide) ?_
      cases h
      exact aw_zret hX hQ (by decide) dX10_isFull_34
    · rw [if_pos c26] at h
      refine aw_iconst (v := (1 : Int32)) (pc := 29) hX dX10_isFull_29 (by decide) ?_
      refine aw_goto (tgt := 34) (pc := 30) hX dX10_isFull_30 (by decide) ?_
      cases h
      exact aw_zret hX hQ (by decide) dX10_isFull_34

set_option maxHeartbeats 4000000 in
set_option maxRecDepth 100000 in
theorem c_X10_isFull {v1 : Int32} {S : Mem} {r : Int32} {Sf : Mem} (h : f_X10_isFull v1 S = some (r, Sf)) : MetI yX10_isFull cX10_isFull 2 (some .boolean) 1 [.ref 0, .int v1] SKM S r Sf := by
  refine MetI.intro (by decide +kernel) (Nat.le_of_ble_eq_true rfl) (fun X loc hX hQ => ?_)
  unfold f_X10_isFull at h
  show AW X SKM loc 0 0 0 [(0, .ref 0), (1, .int v1)] [] S
  refine aw_iload_n (pc := 0) hX dX10_isFull_0 rfl 1 rfl ?_
  refine aw_if_ne (pc := 1) hX (tgt := 14) dX10_isFull_1 (by decide) (fun c1 => ?_) (fun c1 => ?_)
  · rw [if_neg c1] at h
    exact c_X10_isFull_14 hX hQ v1 S h
  · rw [if_pos c1] at h
    refine aw_aload_n (pc := 4) hX dX10_isFull_4 rfl 0 rfl ?_
    refine aw_iconst (v := (0 : Int32)) (pc := 5) hX dX10_isFull_5 (by decide) ?_
    obtain ⟨r6, S6, hr6, h⟩ := ob2 h
    refine aw_cVI (pc := 6) (As := [.int (0 : Int32)]) (rest := []) hX (c_X10_fresher hr6) ok_X10_fresher kw_6_165 im_X10_fresher se_X10_fresher rfl km0 rfl (by decide) (Nat.le_of_ble_eq_true rfl) rfl dX10_isFull_6 (Nat.le_refl 0) (Nat.le_refl 0) ?_
    refine aw_bipush (v := (6 : Int32)) (pc := 9) hX dX10_isFull_9 (by decide) ?_
    refine aw_icmp_eq (pc := 11) hX (tgt := 29) dX10_isFull_11 (by decide) (fun c11 => ?_) (fun c11 => ?_)
    · rw [if_pos c11] at h
      refine aw_iconst (v := (1 : Int32)) (pc := 29) hX dX10_isFull_29 (by decide) ?_
      refine aw_goto (tgt := 34) (pc := 30) hX dX10_isFull_30 (by decide) ?_
      cases h
      exact aw_zret hX hQ (by decide) dX10_isFull_34
    · rw [if_neg c11] at h
      exact c_X10_isFull_14 hX hQ v1 S6 h

def f_X10_isRest (v1 : Int32) (v2 : Int32) (S : Mem) : Option (Int32 × Mem) :=
  bnd (f_X10_hasOf (0 : Int32) ((1 : Int32) - v1) v2 S) fun r6 S6 =>
  bnd (f_X10_hasOf (0 : Int32) v1 v2 S6) fun r13 S13 =>
  if r13 < r6 then
  (some ((0 : Int32), S13))
  else
  (bnd (f_X10_hasOf (1 : Int32) ((1 : Int32) - v2) v1 S13) fun r25 S25 =>
  bnd (f_X10_hasOf (1 : Int32) v2 v1 S25) fun r32 S32 =>
  if r32 < r25 then
  (some ((0 : Int32), S32))
  else
  (some ((1 : Int32), S32)))

set_option maxHeartbeats 4000000 in
set_option maxRecDepth 100000 in
theorem c_X10_isRest {v1 : Int32} {v2 : Int32} {S : Mem} {r : Int32} {Sf : Mem} (h : f_X10_isRest v1 v2 S = some (r, Sf)) : MetI yX10_isRest cX10_isRest 3 (some .boolean) 4 [.ref 0, .int v1, .int v2] SKM S r Sf := by
  refine MetI.intro (by decide +kernel) (Nat.le_of_ble_eq_true rfl) (fun X loc hX hQ => ?_)
  unfold f_X10_isRest at h
  show AW X SKM loc 0 0 0 [(0, .ref 0), (1, .int v1), (2, .int v2)] [] S
  refine aw_aload_n (pc := 0) hX dX10_isRest_0 rfl 0 rfl ?_
  refine aw_iconst (v := (0 : Int32)) (pc := 1) hX dX10_isRest_1 (by decide) ?_
  refine aw_iconst (v := (1 : Int32)) (pc := 2) hX dX10_isRest_2 (by decide) ?_
  refine aw_iload_n (pc := 3) hX dX10_isRest_3 rfl 1 rfl ?_
  refine aw_isub (pc := 4) hX dX10_isRest_4 ?_
  refine aw_iload_n (pc := 5) hX dX10_isRest_5 rfl 2 rfl ?_
  obtain ⟨r6, S6, hr6, h⟩ := ob2 h
  refine aw_cVI (pc := 6) (As := [.int (0 : Int32), .int ((1 : Int32) - v1), .int v2]) (rest := []) hX (c_X10_hasOf hr6) ok_X10_hasOf kw_7_233 im_X10_hasOf se_X10_hasOf rfl km0 rfl (by decide) (Nat.le_of_ble_eq_true rfl) rfl dX10_isRest_6 (Nat.le_refl 0) (Nat.le_refl 0) ?_
  refine aw_aload_n (pc := 9) hX dX10_isRest_9 rfl 0 rfl ?_
  refine aw_iconst (v := (0 : Int32)) (pc := 10) hX dX10_isRest_10 (by decide) ?_
  refine aw_iload_n (pc := 11) hX dX10_isRest_11 rfl 1 rfl ?_
  refine aw_iload_n (pc := 12) hX dX10_isRest_12 rfl 2 rfl ?_
  obtain ⟨r13, S13, hr13, h⟩ := ob2 h
  refine aw_cVI (pc := 13) (As := [.int (0 : Int32), .int v1, .int v2]) (rest := [.int r6]) hX (c_X10_hasOf hr13) ok_X10_hasOf kw_7_233 im_X10_hasOf se_X10_hasOf rfl km0 rfl (by decide) (Nat.le_of_ble_eq_true rfl) rfl dX10_isRest_13 (Nat.le_refl 0) (Nat.le_refl 0) ?_
  refine aw_icmp_gt (pc := 16) hX (tgt := 42) dX10_isRest_16 (by decide) (fun c16 => ?_) (fun c16 => ?_)
  · rw [if_pos c16] at h
    refine aw_iconst (v := (0 : Int32)) (pc := 42) hX dX10_isRest_42 (by decide) ?_
    cases h
    exact aw_zret hX hQ (by decide) dX10_isRest_43
  · rw [if_neg c16] at h
    refine aw_aload_n (pc := 19) hX dX10_isRest_19 rfl 0 rfl ?_
    refine aw_iconst (v := (1 : Int32)) (pc := 20) hX dX10_isRest_20 (by decide) ?_
    refine aw_iconst (v := (1 : Int32)) (pc := 21) hX dX10_isRest_21 (by decide) ?_
    refine aw_iload_n (pc := 22) hX dX10_isRest_22 rfl 2 rfl ?_
    refine aw_isub (pc := 23) hX dX10_isRest_23 ?_
    refine aw_iload_n (pc := 24) hX dX10_isRest_24 rfl 1 rfl ?_
    obtain ⟨r25, S25, hr25, h⟩ := ob2 h
    refine aw_cVI (pc := 25) (As := [.int (1 : Int32), .int ((1 : Int32) - v2), .int v1]) (rest := []) hX (c_X10_hasOf hr25) ok_X10_hasOf kw_7_233 im_X10_hasOf se_X10_hasOf rfl km0 rfl (by decide) (Nat.le_of_ble_eq_true rfl) rfl dX10_isRest_25 (Nat.le_refl 0) (Nat.le_refl 0) ?_
    refine aw_aload_n (pc := 28) hX dX10_isRest_28 rfl 0 rfl ?_
    refine aw_iconst (v := (1 : Int32)) (pc := 29) hX dX10_isRest_29 (by decide) ?_
    refine aw_iload_n (pc := 30) hX dX10_isRest_30 rfl 2 rfl ?_
    refine aw_iload_n (pc := 31) hX dX10_isRest_31 rfl 1 rfl ?_
    obtain ⟨r32, S32, hr32, h⟩ := ob2 h
    refine aw_cVI (pc := 32) (As := [.int (1 : Int32), .int v2, .int v1]) (rest := [.int r25]) hX (c_X10_hasOf hr32) ok_X10_hasOf kw_7_233 im_X10_hasOf se_X10_hasOf rfl km0 rfl (by decide) (Nat.le_of_ble_eq_true rfl) rfl dX10_isRest_32 (Nat.le_refl 0) (Nat.le_refl 0) ?_
    refine aw_icmp_gt (pc := 35) hX (tgt := 42) dX10_isRest_35 (by decide) (fun c35 => ?_) (fun c35 => ?_)
    · rw [if_pos c35] at h
      refine aw_iconst (v := (0 : Int32)) (pc := 42) hX dX10_isRest_42 (by decide) ?_
      cases h
      exact aw_zret hX hQ (by decide) dX10_isRest_43
    · rw [if_neg c35] at h
      refine aw_iconst (v := (1 : Int32)) (pc := 38) hX dX10_isRest_38 (by decide) ?_
      refine aw_goto (tgt := 43) (pc := 39) hX dX10_isRest_39 (by decide) ?_
      cases h
      exact aw_zret hX hQ (by decide) dX10_isRest_43

def f_X10_isSign (v1 : Int32) (S : Mem) : Option (Int32 × Mem) :=
  if (S.1 0 22) = 0 then
  (if (S.1 0 20) = (3 : Int32) then
  (if (S.1 0 21) = v1 then
  (some ((1 : Int32), S))
  else
  (some ((0 : Int32), S)))
  else
  (some ((0 : Int32), S)))
  else
  (some ((0 : Int32), S))

set_option maxHeartbeats 4000000 in
set_option maxRecDepth 100000 in
theorem c_X10_isSign {v1 : Int32} {S : Mem} {r : Int32} {Sf : Mem} (h : f_X10_isSign v1 S = some (r, Sf)) : MetI yX10_isSign cX10_isSign 2 (some .boolean) 0 [.ref 0, .int v1] SKM S r Sf := by
  refine MetI.intro (by decide +kernel) (Nat.le_of_ble_eq_true rfl) (fun X loc hX hQ => ?_)
  unfold f_X10_isSign at h
  show AW X SKM loc 0 0 0 [(0, .ref 0), (1, .int v1)] [] S
  refine aw_aload_n (pc := 0) hX dX10_isSign_0 rfl 0 rfl ?_
  refine gf_X10_178 (pc := 1) hX km0 rfl dX10_isSign_1 ?_
  refine aw_if_ne (pc := 4) hX (tgt := 27) dX10_isSign_4 (by decide) (fun c4 => ?_) (fun c4 => ?_)
  · rw [if_neg c4] at h
    refine aw_iconst (v := (0 : Int32)) (pc := 27) hX dX10_isSign_27 (by decide) ?_
    cases h
    exact aw_zret hX hQ (by decide) dX10_isSign_28
  · rw [if_pos c4] at h
    refine aw_aload_n (pc := 7) hX dX10_isSign_7 rfl 0 rfl ?_
    refine gf_X10_143 (pc := 8) hX km0 rfl dX10_isSign_8 ?_
    refine aw_iconst (v := (3 : Int32)) (pc := 11) hX dX10_isSign_11 (by decide) ?_
    refine aw_icmp_ne (pc := 12) hX (tgt := 27) dX10_isSign_12 (by decide) (fun c12 => ?_) (fun c12 => ?_)
    · rw [if_neg c12] at h
      refine aw_iconst (v := (0 : Int32)) (pc := 27) hX dX10_isSign_27 (by decide) ?_
      cases h
      exact aw_zret hX hQ (by decide) dX10_isSign_28
    · rw [if_pos c12] at h
      refine aw_aload_n (pc := 15) hX dX10_isSign_15 rfl 0 rfl ?_
      refine gf_X10_153 (pc := 16) hX km0 rfl dX10_isSign_16 ?_
      refine aw_iload_n (pc := 19) hX dX10_isSign_19 rfl 1 rfl ?_
      refine aw_icmp_ne (pc := 20) hX (tgt := 27) dX10_isSign_20 (by decide) (fun c20 => ?_) (fun c20 => ?_)
      · rw [if_neg c20] at h
        refine aw_iconst (v := (0 : Int32)) (pc := 27) hX dX10_isSign_27 (by decide) ?_
        cases h
        exact aw_zret hX hQ (by decide) dX10_isSign_28
      · rw [if_pos c20] at h
        refine aw_iconst (v := (1 : Int32)) (pc := 23) hX dX10_isSign_23 (by decide) ?_
        refine aw_goto (tgt := 28) (pc := 24) hX dX10_isSign_24 (by decide) ?_
        cases h
        exact aw_zret hX hQ (by decide) dX10_isSign_28

def f_X10_keep (S : Mem) : Option (Int32 × Mem) :=
  nxt (sI S 0 0 (0 : Int32)) fun S2 =>
  (f_X10_copies (2 : Int32) (0 : Int32) S2).bind fun S8 =>
  nxt (sI S8 0 41 (1 : Int32)) fun S13 =>
  (rd S13 16 23 (0 : Int32)).bind fun x21 =>
  some (x21, S13)

set_option maxHeartbeats 4000000 in
set_option maxRecDepth 100000 in
theorem c_X10_keep {S : Mem} {r : Int32} {Sf : Mem} (h : f_X10_keep S = some (r, Sf)) : MetI yX10_keep cX10_keep 1 (some .int) 1 [.ref 0] SKM S r Sf := by
  refine MetI.intro (by decide +kernel) (Nat.le_of_ble_eq_true rfl) (fun X loc hX hQ => ?_)
  unfold f_X10_keep at h
  show AW X SKM loc 0 0 0 [(0, .ref 0)] [] S
  refine aw_aload_n (pc := 0) hX dX10_keep_0 rfl 0 rfl ?_
  refine aw_iconst (v := (0 : Int32)) (pc := 1) hX dX10_keep_1 (by decide) ?_
  refine pf_X10_124 (pc := 2) hX km0 rfl dX10_keep_2 ?_
  obtain ⟨S2, eS2, h⟩ := on h
  refine aw_S eS2 ?_
  refine aw_aload_n (pc := 5) hX dX10_keep_5 rfl 0 rfl ?_
  refine aw_iconst (v := (2 : Int32)) (pc := 6) hX dX10_keep_6 (by decide) ?_
  refine aw_iconst (v := (0 : Int32)) (pc := 7) hX dX10_keep_7 (by decide) ?_
  obtain ⟨S8, hr8, h⟩ := ob h
  refine aw_cVV (pc := 8) (As := [.int (2 : Int32), .int (0 : Int32)]) (rest := []) hX (c_X10_copies hr8) ok_X10_copies kw_7_110 im_X10_copies se_X10_copies rfl km0 rfl (by decide) (Nat.le_of_ble_eq_true rfl) rfl dX10_keep_8 (Nat.le_refl 0) (Nat.le_refl 0) ?_
  refine aw_aload_n (pc := 11) hX dX10_keep_11 rfl 0 rfl ?_
  refine aw_iconst (v := (1 : Int32)) (pc := 12) hX dX10_keep_12 (by decide) ?_
  refine pf_X10_280 (pc := 13) hX km0 rfl (by decide) dX10_keep_13 ?_
  obtain ⟨S13, eS13, h⟩ := on h
  refine aw_S eS13 ?_
  refine aw_aload_n (pc := 16) hX dX10_keep_16 rfl 0 rfl ?_
  refine gf_X10_60 (pc := 17) hX km0 rfl dX10_keep_17 ?_
  refine aw_iconst (v := (0 : Int32)) (pc := 20) hX dX10_keep_20 (by decide) ?_
  obtain ⟨x21, hx21, h⟩ := ob h
  refine aw_iald (pc := 21) hX km16 hx21 dX10_keep_21 ?_
  cases h
  exact aw_iret hX hQ dX10_keep_22

def f_X10_known (v1 : Int32) (S : Mem) : Option (Int32 × Mem) :=
  nxt (sI S 0 0 (0 : Int32)) fun S2 =>
  if v1 < (-1 : Int32) then
  (some ((0 : Int32), S2))
  else
  (if v1 ≤ (S2.1 0 50) then
  (nxt (sI S2 0 51 v1) fun S22 =>
  some ((1 : Int32), S22))
  else
  (some ((0 : Int32), S2)))

set_option maxHeartbeats 4000000 in
set_option maxRecDepth 100000 in
theorem c_X10_known {v1 : Int32} {S : Mem} {r : Int32} {Sf : Mem} (h : f_X10_known v1 S = some (r, Sf)) : MetI yX10_known cX10_known 2 (some .boolean) 0 [.ref 0, .int v1] SKM S r Sf := by
  refine MetI.intro (by decide +kernel) (Nat.le_of_ble_eq_true rfl) (fun X loc hX hQ => ?_)
  unfold f_X10_known at h
  show AW X SKM loc 0 0 0 [(0, .ref 0), (1, .int v1)] [] S
  refine aw_aload_n (pc := 0) hX dX10_known_0 rfl 0 rfl ?_
  refine aw_iconst (v := (0 : Int32)) (pc := 1) hX dX10_known_1 (by decide) ?_
  refine pf_X10_124 (pc := 2) hX km0 rfl dX10_known_2 ?_
  obtain ⟨S2, eS2, h⟩ := on h
  refine aw_S eS2 ?_
  refine aw_iload_n (pc := 5) hX dX10_known_5 rfl 1 rfl ?_
  refine aw_iconst (v := (-1 : Int32)) (pc := 6) hX dX10_known_6 (by decide) ?_
  refine aw_icmp_lt (pc := 7) hX (tgt := 18) dX10_known_7 (by decide) (fun c7 => ?_) (fun c7 => ?_)
  · rw [if_pos c7] at h
    refine aw_iconst (v := (0 : Int32)) (pc := 18) hX dX10_known_18 (by decide) ?_
    cases h
    exact aw_zret hX hQ (by decide) dX10_known_19
  · rw [if_neg c7] at h
    refine aw_iload_n (pc := 10) hX dX10_known_10 rfl 1 rfl ?_
    refine aw_aload_n (pc := 11) hX dX10_known_11 rfl 0 rfl ?_
    refine gf_X10_277 (pc := 12) hX km0 rfl dX10_known_12 ?_
    refine aw_icmp_le (pc := 15) hX (tgt := 20) dX10_known_15 (by decide) (fun c15 => ?_) (fun c15 => ?_)
    · rw [if_pos c15] at h
      refine aw_aload_n (pc := 20) hX dX10_known_20 rfl 0 rfl ?_
      refine aw_iload_n (pc := 21) hX dX10_known_21 rfl 1 rfl ?_
      refine pf_X10_99 (pc := 22) hX km0 rfl dX10_known_22 ?_
      obtain ⟨S22, eS22, h⟩ := on h
      refine aw_S eS22 ?_
      refine aw_iconst (v := (1 : Int32)) (pc := 25) hX dX10_known_25 (by decide) ?_
      cases h
      exact aw_zret hX hQ (by decide) dX10_known_26
    · rw [if_neg c15] at h
      refine aw_iconst (v := (0 : Int32)) (pc := 18) hX dX10_known_18 (by decide) ?_
      cases h
      exact aw_zret hX hQ (by decide) dX10_known_19

