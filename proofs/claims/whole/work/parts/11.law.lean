def f_X1_add (a : Nat) (v1 : Int32) (S : Mem) : Option (Int32 × Mem) :=
  if (64 : Int32) ≤ (S.1 a 1) then
  (some ((1 : Int32), S))
  else
  ((wr S (a + 1) 64 (S.1 a 1) v1).bind fun S18 =>
  nxt (sI S18 a 1 ((S18.1 a 1) + (1 : Int32))) fun S26 =>
  some ((1 : Int32), S26))

set_option maxHeartbeats 4000000 in
set_option maxRecDepth 100000 in
theorem c_X1_add {sk : Skel} {a : Nat} {v1 : Int32} {S : Mem} {r : Int32} {Sf : Mem} (ha : IsLaw sk a) (h : f_X1_add a v1 S = some (r, Sf)) : MetI yX1_add cX1_add 2 (some .boolean) 0 [.ref a, .int v1] sk S r Sf := by
  refine MetI.intro (by decide +kernel) (Nat.le_of_ble_eq_true rfl) (fun X loc hX hQ => ?_)
  unfold f_X1_add at h
  show AW X sk loc 0 0 0 [(0, .ref a), (1, .int v1)] [] S
  refine aw_aload_n (pc := 0) hX dX1_add_0 rfl 0 rfl ?_
  refine gf_X1_15 (pc := 1) hX ha.1 rfl dX1_add_1 ?_
  refine aw_bipush (v := (64 : Int32)) (pc := 4) hX dX1_add_4 (by decide) ?_
  refine aw_icmp_ge (pc := 6) hX (tgt := 29) dX1_add_6 (by decide) (fun c6 => ?_) (fun c6 => ?_)
  · rw [if_pos c6] at h
    refine aw_iconst (v := (1 : Int32)) (pc := 29) hX dX1_add_29 (by decide) ?_
    cases h
    exact aw_zret hX hQ (by decide) dX1_add_30
  · rw [if_neg c6] at h
    refine aw_aload_n (pc := 9) hX dX1_add_9 rfl 0 rfl ?_
    refine gf_X1_19 (pc := 10) hX ha.1 rfl dX1_add_10 ?_
    refine aw_aload_n (pc := 13) hX dX1_add_13 rfl 0 rfl ?_
    refine gf_X1_15 (pc := 14) hX ha.1 rfl dX1_add_14 ?_
    refine aw_iload_n (pc := 17) hX dX1_add_17 rfl 1 rfl ?_
    obtain ⟨S18, hS18, h⟩ := ob h
    refine aw_iast (pc := 18) hX ha.2.1 hS18 dX1_add_18 ?_
    refine aw_aload_n (pc := 19) hX dX1_add_19 rfl 0 rfl ?_
    refine aw_dup (pc := 20) hX dX1_add_20 rfl ?_
    refine gf_X1_15 (pc := 21) hX ha.1 rfl dX1_add_21 ?_
    refine aw_iconst (v := (1 : Int32)) (pc := 24) hX dX1_add_24 (by decide) ?_
    refine aw_iadd (pc := 25) hX dX1_add_25 ?_
    refine pf_X1_15 (pc := 26) hX ha.1 rfl dX1_add_26 ?_
    obtain ⟨S26, eS26, h⟩ := on h
    refine aw_S eS26 ?_
    refine aw_iconst (v := (1 : Int32)) (pc := 29) hX dX1_add_29 (by decide) ?_
    cases h
    exact aw_zret hX hQ (by decide) dX1_add_30

def f_X1_clear (a : Nat) (S : Mem) : Option Mem :=
  nxt (sI S a 0 (0 : Int32)) fun S2 =>
  nxt (sI S2 a 1 (0 : Int32)) fun S7 =>
  some S7

set_option maxHeartbeats 4000000 in
set_option maxRecDepth 100000 in
theorem c_X1_clear {sk : Skel} {a : Nat} {S : Mem} {Sf : Mem} (ha : IsLaw sk a) (h : f_X1_clear a S = some Sf) : MetV yX1_clear cX1_clear 1 none 0 [.ref a] sk S Sf := by
  refine MetV.intro (by decide +kernel) (Nat.le_of_ble_eq_true rfl) (fun X loc hX hQ => ?_)
  unfold f_X1_clear at h
  show AW X sk loc 0 0 0 [(0, .ref a)] [] S
  refine aw_aload_n (pc := 0) hX dX1_clear_0 rfl 0 rfl ?_
  refine aw_iconst (v := (0 : Int32)) (pc := 1) hX dX1_clear_1 (by decide) ?_
  refine pf_X1_9 (pc := 2) hX ha.1 rfl (by decide) dX1_clear_2 ?_
  obtain ⟨S2, eS2, h⟩ := on h
  refine aw_S eS2 ?_
  refine aw_aload_n (pc := 5) hX dX1_clear_5 rfl 0 rfl ?_
  refine aw_iconst (v := (0 : Int32)) (pc := 6) hX dX1_clear_6 (by decide) ?_
  refine pf_X1_15 (pc := 7) hX ha.1 rfl dX1_clear_7 ?_
  obtain ⟨S7, eS7, h⟩ := on h
  refine aw_S eS7 ?_
  cases h
  exact aw_vret hX hQ dX1_clear_10

def f_X1_joined_225 (v1 : Int64) (v3 : Int64) (t0 : Int64) (t1 : Int64) (S : Mem) : Option (Int64 × Mem) :=
  (dvL t0 t1).bind fun x225 =>
  if x225 < v3 then
  (some ((-9223372036854775808 : Int64), S))
  else
  (if (-x225) ≤ v3 then
  (some ((v1 * v3), S))
  else
  (some ((-9223372036854775808 : Int64), S)))

def f_X1_joined (v0 : Int32) (v1 : Int64) (v3 : Int64) (S : Mem) : Option (Int64 × Mem) :=
  if v0 = 7 then
  (if v3 ≤ v1 then
  (some ((0 : Int64), S))
  else
  (some ((1 : Int64), S)))
  else
  (if v0 = 8 then
  (if v3 < v1 then
  (some ((0 : Int64), S))
  else
  (some ((1 : Int64), S)))
  else
  (if v0 = 9 then
  (if v1 = v3 then
  (some ((1 : Int64), S))
  else
  (some ((0 : Int64), S)))
  else
  (if v0 = 10 then
  (if v1 = v3 then
  (some ((0 : Int64), S))
  else
  (some ((1 : Int64), S)))
  else
  (if v0 = 11 then
  (if v1 < v3 then
  (some ((0 : Int64), S))
  else
  (some ((1 : Int64), S)))
  else
  (if v0 = 12 then
  (if v1 ≤ v3 then
  (some ((0 : Int64), S))
  else
  (some ((1 : Int64), S)))
  else
  (if v0 = 13 then
  (some ((v1 + v3), S))
  else
  (if v0 = 14 then
  (some ((v1 - v3), S))
  else
  (if v0 = 15 then
  (if v1 = (0 : Int64) then
  (some ((0 : Int64), S))
  else
  (if v3 = (0 : Int64) then
  (some ((0 : Int64), S))
  else
  (if (0 : Int64) ≤ v1 then
  (f_X1_joined_225 v1 v3 (1000000000000 : Int64) v1 S)
  else
  (f_X1_joined_225 v1 v3 (1000000000000 : Int64) (-v1) S))))
  else
  (if v0 = 16 then
  (if v3 = (0 : Int64) then
  (some ((-9223372036854775808 : Int64), S))
  else
  ((dvL v1 v3).bind fun x194 =>
  some (x194, S)))
  else
  (if v0 = 17 then
  (if v1 = (0 : Int64) then
  (if v3 = (0 : Int64) then
  (some ((0 : Int64), S))
  else
  (some ((1 : Int64), S)))
  else
  (some ((1 : Int64), S)))
  else
  (if v0 = 18 then
  (if v1 = (0 : Int64) then
  (some ((0 : Int64), S))
  else
  (if v3 = (0 : Int64) then
  (some ((0 : Int64), S))
  else
  (some ((1 : Int64), S))))
  else
  (if v1 = (0 : Int64) then
  (some ((0 : Int64), S))
  else
  (if v3 = (0 : Int64) then
  (some ((0 : Int64), S))
  else
  (if (0 : Int64) ≤ v1 then
  (f_X1_joined_225 v1 v3 (1000000000000 : Int64) v1 S)
  else
  (f_X1_joined_225 v1 v3 (1000000000000 : Int64) (-v1) S)))))))))))))))

set_option maxHeartbeats 4000000 in
set_option maxRecDepth 100000 in
theorem c_X1_joined_225 {X : XT} {loc : Nat → Nat} {sk : Skel} {r : Int64} {Sf : Mem} (hX : AC X loc RX1 cX1_joined (some .long) 7 0 0 0) (hQ : RetL X sk loc 0 0 r Sf) (v1 : Int64) (v3 : Int64) (t0 : Int64) (t1 : Int64) (S : Mem) (h : f_X1_joined_225 v1 v3 t0 t1 S = some (r, Sf)) : AW X sk loc 0 0 225 [(1, .long v1), (3, .long v3)] [.long t1, .long t0] S := by
  unfold f_X1_joined_225 at h
  obtain ⟨x225, hx225, h⟩ := ob h
  refine aw_ldiv (pc := 225) hX dX1_joined_225 hx225 ?_
  refine aw_lstore (ls' := [(5, .long x225), (1, .long v1), (3, .long v3)]) (pc := 226) hX dX1_joined_226 (by decide) rfl ?_
  refine aw_lload_n (pc := 228) hX dX1_joined_228 rfl 2 rfl ?_
  refine aw_lload (pc := 229) hX dX1_joined_229 0 rfl ?_
  refine aw_lcmp (pc := 231) hX dX1_joined_231 ?_
  refine aw_if_gt (pc := 232) hX (tgt := 243) dX1_joined_232 (by decide) (fun c232 => ?_) (fun c232 => ?_)
  · rw [if_pos (lc_gt.mp c232)] at h
    refine aw_ldc2 (v := (-9223372036854775808 : Int64)) (pc := 243) hX kw_3_228 dX1_joined_243 ?_
    refine aw_goto (tgt := 252) (pc := 246) hX dX1_joined_246 (by decide) ?_
    cases h
    exact aw_lret hX hQ dX1_joined_252
  · rw [if_neg (fun q => c232 (lc_gt.mpr q))] at h
    refine aw_lload_n (pc := 235) hX dX1_joined_235 rfl 2 rfl ?_
    refine aw_lload (pc := 236) hX dX1_joined_236 0 rfl ?_
    refine aw_lneg (pc := 238) hX dX1_joined_238 ?_
    refine aw_lcmp (pc := 239) hX dX1_joined_239 ?_
    refine aw_if_ge (pc := 240) hX (tgt := 249) dX1_joined_240 (by decide) (fun c240 => ?_) (fun c240 => ?_)
    · rw [if_pos (lc_ge.mp c240)] at h
      refine aw_lload_n (pc := 249) hX dX1_joined_249 rfl 1 rfl ?_
      refine aw_lload_n (pc := 250) hX dX1_joined_250 rfl 2 rfl ?_
      refine aw_lmul (pc := 251) hX dX1_joined_251 ?_
      cases h
      exact aw_lret hX hQ dX1_joined_252
    · rw [if_neg (fun q => c240 (lc_ge.mpr q))] at h
      refine aw_ldc2 (v := (-9223372036854775808 : Int64)) (pc := 243) hX kw_3_228 dX1_joined_243 ?_
      refine aw_goto (tgt := 252) (pc := 246) hX dX1_joined_246 (by decide) ?_
      cases h
      exact aw_lret hX hQ dX1_joined_252

set_option maxHeartbeats 4000000 in
set_option maxRecDepth 100000 in
theorem c_X1_joined {sk : Skel} {v0 : Int32} {v1 : Int64} {v3 : Int64} {S : Mem} {r : Int64} {Sf : Mem} (h : f_X1_joined v0 v1 v3 S = some (r, Sf)) : MetL yX1_joined cX1_joined 7 (some .long) 0 [.int v0, .long v1, .long v3] sk S r Sf := by
  refine MetL.intro (by decide +kernel) (Nat.le_of_ble_eq_true rfl) (fun X loc hX hQ => ?_)
  unfold f_X1_joined at h
  show AW X sk loc 0 0 0 [(0, .int v0), (1, .long v1), (3, .long v3)] [] S
  refine aw_iload_n (pc := 0) hX dX1_joined_0 rfl 0 rfl ?_
  by_cases c1_0 : v0 = 7
  · rw [if_pos c1_0] at h
    refine aw_tin (pc := 1) hX (v := 7) (off := 99) (tgt := 100) dX1_joined_1 c1_0 (by decide) (by decide) (by decide) (by decide) ?_
    refine aw_lload_n (pc := 100) hX dX1_joined_100 rfl 1 rfl ?_
    refine aw_lload_n (pc := 101) hX dX1_joined_101 rfl 2 rfl ?_
    refine aw_lcmp (pc := 102) hX dX1_joined_102 ?_
    refine aw_if_ge (pc := 103) hX (tgt := 110) dX1_joined_103 (by decide) (fun c103 => ?_) (fun c103 => ?_)
    · rw [if_pos (lc_ge.mp c103)] at h
      refine aw_lconst (v := (0 : Int64)) (pc := 110) hX dX1_joined_110 (by decide) ?_
      cases h
      exact aw_lret hX hQ dX1_joined_111
    · rw [if_neg (fun q => c103 (lc_ge.mpr q))] at h
      refine aw_lconst (v := (1 : Int64)) (pc := 106) hX dX1_joined_106 (by decide) ?_
      refine aw_goto (tgt := 111) (pc := 107) hX dX1_joined_107 (by decide) ?_
      cases h
      exact aw_lret hX hQ dX1_joined_111
  · rw [if_neg c1_0] at h
    by_cases c1_1 : v0 = 8
    · rw [if_pos c1_1] at h
      refine aw_tin (pc := 1) hX (v := 8) (off := 111) (tgt := 112) dX1_joined_1 c1_1 (by decide) (by decide) (by decide) (by decide) ?_
      refine aw_lload_n (pc := 112) hX dX1_joined_112 rfl 1 rfl ?_
      refine aw_lload_n (pc := 113) hX dX1_joined_113 rfl 2 rfl ?_
      refine aw_lcmp (pc := 114) hX dX1_joined_114 ?_
      refine aw_if_gt (pc := 115) hX (tgt := 122) dX1_joined_115 (by decide) (fun c115 => ?_) (fun c115 => ?_)
      · rw [if_pos (lc_gt.mp c115)] at h
        refine aw_lconst (v := (0 : Int64)) (pc := 122) hX dX1_joined_122 (by decide) ?_
        cases h
        exact aw_lret hX hQ dX1_joined_123
      · rw [if_neg (fun q => c115 (lc_gt.mpr q))] at h
        refine aw_lconst (v := (1 : Int64)) (pc := 118) hX dX1_joined_118 (by decide) ?_
        refine aw_goto (tgt := 123) (pc := 119) hX dX1_joined_119 (by decide) ?_
        cases h
        exact aw_lret hX hQ dX1_joined_123
    · rw [if_neg c1_1] at h
      by_cases c1_2 : v0 = 9
      · rw [if_pos c1_2] at h
        refine aw_tin (pc := 1) hX (v := 9) (off := 123) (tgt := 124) dX1_joined_1 c1_2 (by decide) (by decide) (by decide) (by decide) ?_
        refine aw_lload_n (pc := 124) hX dX1_joined_124 rfl 1 rfl ?_
        refine aw_lload_n (pc := 125) hX dX1_joined_125 rfl 2 rfl ?_
        refine aw_lcmp (pc := 126) hX dX1_joined_126 ?_
        refine aw_if_ne (pc := 127) hX (tgt := 134) dX1_joined_127 (by decide) (fun c127 => ?_) (fun c127 => ?_)
        · rw [if_neg (fun q => c127 (lc_eq.mpr q))] at h
          refine aw_lconst (v := (0 : Int64)) (pc := 134) hX dX1_joined_134 (by decide) ?_
          cases h
          exact aw_lret hX hQ dX1_joined_135
        · rw [if_pos (lc_eq.mp c127)] at h
          refine aw_lconst (v := (1 : Int64)) (pc := 130) hX dX1_joined_130 (by decide) ?_
          refine aw_goto (tgt := 135) (pc := 131) hX dX1_joined_131 (by decide) ?_
          cases h
          exact aw_lret hX hQ dX1_joined_135
      · rw [if_neg c1_2] at h
        by_cases c1_3 : v0 = 10
        · rw [if_pos c1_3] at h
          refine aw_tin (pc := 1) hX (v := 10) (off := 135) (tgt := 136) dX1_joined_1 c1_3 (by decide) (by decide) (by decide) (by decide) ?_
          refine aw_lload_n (pc := 136) hX dX1_joined_136 rfl 1 rfl ?_
          refine aw_lload_n (pc := 137) hX dX1_joined_137 rfl 2 rfl ?_
          refine aw_lcmp (pc := 138) hX dX1_joined_138 ?_
          refine aw_if_eq (pc := 139) hX (tgt := 146) dX1_joined_139 (by decide) (fun c139 => ?_) (fun c139 => ?_)
          · rw [if_pos (lc_eq.mp c139)] at h
            refine aw_lconst (v := (0 : Int64)) (pc := 146) hX dX1_joined_146 (by decide) ?_
            cases h
            exact aw_lret hX hQ dX1_joined_147
          · rw [if_neg (fun q => c139 (lc_eq.mpr q))] at h
            refine aw_lconst (v := (1 : Int64)) (pc := 142) hX dX1_joined_142 (by decide) ?_
            refine aw_goto (tgt := 147) (pc := 143) hX dX1_joined_143 (by decide) ?_
            cases h
            exact aw_lret hX hQ dX1_joined_147
        · rw [if_neg c1_3] at h
          by_cases c1_4 : v0 = 11
          · rw [if_pos c1_4] at h
            refine aw_tin (pc := 1) hX (v := 11) (off := 147) (tgt := 148) dX1_joined_1 c1_4 (by decide) (by decide) (by decide) (by decide) ?_
            refine aw_lload_n (pc := 148) hX dX1_joined_148 rfl 1 rfl ?_
            refine aw_lload_n (pc := 149) hX dX1_joined_149 rfl 2 rfl ?_
            refine aw_lcmp (pc := 150) hX dX1_joined_150 ?_
            refine aw_if_lt (pc := 151) hX (tgt := 158) dX1_joined_151 (by decide) (fun c151 => ?_) (fun c151 => ?_)
            · rw [if_pos (lc_lt.mp c151)] at h
              refine aw_lconst (v := (0 : Int64)) (pc := 158) hX dX1_joined_158 (by decide) ?_
              cases h
              exact aw_lret hX hQ dX1_joined_159
            · rw [if_neg (fun q => c151 (lc_lt.mpr q))] at h
              refine aw_lconst (v := (1 : Int64)) (pc := 154) hX dX1_joined_154 (by decide) ?_
              refine aw_goto (tgt := 159) (pc := 155) hX dX1_joined_155 (by decide) ?_
              cases h
              exact aw_lret hX hQ dX1_joined_159
          · rw [if_neg c1_4] at h
            by_cases c1_5 : v0 = 12
            · rw [if_pos c1_5] at h
              refine aw_tin (pc := 1) hX (v := 12) (off := 159) (tgt := 160) dX1_joined_1 c1_5 (by decide) (by decide) (by decide) (by decide) ?_
              refine aw_lload_n (pc := 160) hX dX1_joined_160 rfl 1 rfl ?_
              refine aw_lload_n (pc := 161) hX dX1_joined_161 rfl 2 rfl ?_
              refine aw_lcmp (pc := 162) hX dX1_joined_162 ?_
              refine aw_if_le (pc := 163) hX (tgt := 170) dX1_joined_163 (by decide) (fun c163 => ?_) (fun c163 => ?_)
              · rw [if_pos (lc_le.mp c163)] at h
                refine aw_lconst (v := (0 : Int64)) (pc := 170) hX dX1_joined_170 (by decide) ?_
                cases h
                exact aw_lret hX hQ dX1_joined_171
              · rw [if_neg (fun q => c163 (lc_le.mpr q))] at h
                refine aw_lconst (v := (1 : Int64)) (pc := 166) hX dX1_joined_166 (by decide) ?_
                refine aw_goto (tgt := 171) (pc := 167) hX dX1_joined_167 (by decide) ?_
                cases h
                exact aw_lret hX hQ dX1_joined_171
            · rw [if_neg c1_5] at h
              by_cases c1_6 : v0 = 13
              · rw [if_pos c1_6] at h
                refine aw_tin (pc := 1) hX (v := 13) (off := 171) (tgt := 172) dX1_joined_1 c1_6 (by decide) (by decide) (by decide) (by decide) ?_
                refine aw_lload_n (pc := 172) hX dX1_joined_172 rfl 1 rfl ?_
                refine aw_lload_n (pc := 173) hX dX1_joined_173 rfl 2 rfl ?_
                refine aw_ladd (pc := 174) hX dX1_joined_174 ?_
                cases h
                exact aw_lret hX hQ dX1_joined_175
              · rw [if_neg c1_6] at h
                by_cases c1_7 : v0 = 14
                · rw [if_pos c1_7] at h
                  refine aw_tin (pc := 1) hX (v := 14) (off := 175) (tgt := 176) dX1_joined_1 c1_7 (by decide) (by decide) (by decide) (by decide) ?_
                  refine aw_lload_n (pc := 176) hX dX1_joined_176 rfl 1 rfl ?_
                  refine aw_lload_n (pc := 177) hX dX1_joined_177 rfl 2 rfl ?_
                  refine aw_lsub (pc := 178) hX dX1_joined_178 ?_
                  cases h
                  exact aw_lret hX hQ dX1_joined_179
                · rw [if_neg c1_7] at h
                  by_cases c1_8 : v0 = 15
                  · rw [if_pos c1_8] at h
                    refine aw_tin (pc := 1) hX (v := 15) (off := 195) (tgt := 196) dX1_joined_1 c1_8 (by decide) (by decide) (by decide) (by decide) ?_
                    refine aw_lload_n (pc := 196) hX dX1_joined_196 rfl 1 rfl ?_
                    refine aw_lconst (v := (0 : Int64)) (pc := 197) hX dX1_joined_197 (by decide) ?_
                    refine aw_lcmp (pc := 198) hX dX1_joined_198 ?_
                    refine aw_if_eq (pc := 199) hX (tgt := 208) dX1_joined_199 (by decide) (fun c199 => ?_) (fun c199 => ?_)
                    · rw [if_pos (lc_eq.mp c199)] at h
                      refine aw_lconst (v := (0 : Int64)) (pc := 208) hX dX1_joined_208 (by decide) ?_
                      cases h
                      exact aw_lret hX hQ dX1_joined_209
                    · rw [if_neg (fun q => c199 (lc_eq.mpr q))] at h
                      refine aw_lload_n (pc := 202) hX dX1_joined_202 rfl 2 rfl ?_
                      refine aw_lconst (v := (0 : Int64)) (pc := 203) hX dX1_joined_203 (by decide) ?_
                      refine aw_lcmp (pc := 204) hX dX1_joined_204 ?_
                      refine aw_if_ne (pc := 205) hX (tgt := 210) dX1_joined_205 (by decide) (fun c205 => ?_) (fun c205 => ?_)
                      · rw [if_neg (fun q => c205 (lc_eq.mpr q))] at h
                        refine aw_ldc2 (v := (1000000000000 : Int64)) (pc := 210) hX kw_3_232 dX1_joined_210 ?_
                        refine aw_lload_n (pc := 213) hX dX1_joined_213 rfl 1 rfl ?_
                        refine aw_lconst (v := (0 : Int64)) (pc := 214) hX dX1_joined_214 (by decide) ?_
                        refine aw_lcmp (pc := 215) hX dX1_joined_215 ?_
                        refine aw_if_ge (pc := 216) hX (tgt := 224) dX1_joined_216 (by decide) (fun c216 => ?_) (fun c216 => ?_)
                        · rw [if_pos (lc_ge.mp c216)] at h
                          refine aw_lload_n (pc := 224) hX dX1_joined_224 rfl 1 rfl ?_
                          refine aw_sub (ls' := [(1, .long v1), (3, .long v3)]) [1, 2] rfl ?_
                          exact c_X1_joined_225 hX hQ v1 v3 (1000000000000 : Int64) v1 S h
                        · rw [if_neg (fun q => c216 (lc_ge.mpr q))] at h
                          refine aw_lload_n (pc := 219) hX dX1_joined_219 rfl 1 rfl ?_
                          refine aw_lneg (pc := 220) hX dX1_joined_220 ?_
                          refine aw_goto (tgt := 225) (pc := 221) hX dX1_joined_221 (by decide) ?_
                          refine aw_sub (ls' := [(1, .long v1), (3, .long v3)]) [1, 2] rfl ?_
                          exact c_X1_joined_225 hX hQ v1 v3 (1000000000000 : Int64) (-v1) S h
                      · rw [if_pos (lc_eq.mp c205)] at h
                        refine aw_lconst (v := (0 : Int64)) (pc := 208) hX dX1_joined_208 (by decide) ?_
                        cases h
                        exact aw_lret hX hQ dX1_joined_209
                  · rw [if_neg c1_8] at h
                    by_cases c1_9 : v0 = 16
                    · rw [if_pos c1_9] at h
                      refine aw_tin (pc := 1) hX (v := 16) (off := 179) (tgt := 180) dX1_joined_1 c1_9 (by decide) (by decide) (by decide) (by decide) ?_
                      refine aw_lload_n (pc := 180) hX dX1_joined_180 rfl 2 rfl ?_
                      refine aw_lconst (v := (0 : Int64)) (pc := 181) hX dX1_joined_181 (by decide) ?_
                      refine aw_lcmp (pc := 182) hX dX1_joined_182 ?_
                      refine aw_if_ne (pc := 183) hX (tgt := 192) dX1_joined_183 (by decide) (fun c183 => ?_) (fun c183 => ?_)
                      · rw [if_neg (fun q => c183 (lc_eq.mpr q))] at h
                        refine aw_lload_n (pc := 192) hX dX1_joined_192 rfl 1 rfl ?_
                        refine aw_lload_n (pc := 193) hX dX1_joined_193 rfl 2 rfl ?_
                        obtain ⟨x194, hx194, h⟩ := ob h
                        refine aw_ldiv (pc := 194) hX dX1_joined_194 hx194 ?_
                        cases h
                        exact aw_lret hX hQ dX1_joined_195
                      · rw [if_pos (lc_eq.mp c183)] at h
                        refine aw_ldc2 (v := (-9223372036854775808 : Int64)) (pc := 186) hX kw_3_228 dX1_joined_186 ?_
                        refine aw_goto (tgt := 195) (pc := 189) hX dX1_joined_189 (by decide) ?_
                        cases h
                        exact aw_lret hX hQ dX1_joined_195
                    · rw [if_neg c1_9] at h
                      by_cases c1_10 : v0 = 17
                      · rw [if_pos c1_10] at h
                        refine aw_tin (pc := 1) hX (v := 17) (off := 63) (tgt := 64) dX1_joined_1 c1_10 (by decide) (by decide) (by decide) (by decide) ?_
                        refine aw_lload_n (pc := 64) hX dX1_joined_64 rfl 1 rfl ?_
                        refine aw_lconst (v := (0 : Int64)) (pc := 65) hX dX1_joined_65 (by decide) ?_
                        refine aw_lcmp (pc := 66) hX dX1_joined_66 ?_
                        refine aw_if_ne (pc := 67) hX (tgt := 76) dX1_joined_67 (by decide) (fun c67 => ?_) (fun c67 => ?_)
                        · rw [if_neg (fun q => c67 (lc_eq.mpr q))] at h
                          refine aw_lconst (v := (1 : Int64)) (pc := 76) hX dX1_joined_76 (by decide) ?_
                          refine aw_goto (tgt := 81) (pc := 77) hX dX1_joined_77 (by decide) ?_
                          cases h
                          exact aw_lret hX hQ dX1_joined_81
                        · rw [if_pos (lc_eq.mp c67)] at h
                          refine aw_lload_n (pc := 70) hX dX1_joined_70 rfl 2 rfl ?_
                          refine aw_lconst (v := (0 : Int64)) (pc := 71) hX dX1_joined_71 (by decide) ?_
                          refine aw_lcmp (pc := 72) hX dX1_joined_72 ?_
                          refine aw_if_eq (pc := 73) hX (tgt := 80) dX1_joined_73 (by decide) (fun c73 => ?_) (fun c73 => ?_)
                          · rw [if_pos (lc_eq.mp c73)] at h
                            refine aw_lconst (v := (0 : Int64)) (pc := 80) hX dX1_joined_80 (by decide) ?_
                            cases h
                            exact aw_lret hX hQ dX1_joined_81
                          · rw [if_neg (fun q => c73 (lc_eq.mpr q))] at h
                            refine aw_lconst (v := (1 : Int64)) (pc := 76) hX dX1_joined_76 (by decide) ?_
                            refine aw_goto (tgt := 81) (pc := 77) hX dX1_joined_77 (by decide) ?_
                            cases h
                            exact aw_lret hX hQ dX1_joined_81
                      · rw [if_neg c1_10] at h
                        by_cases c1_11 : v0 = 18
                        · rw [if_pos c1_11] at h
                          refine aw_tin (pc := 1) hX (v := 18) (off := 81) (tgt := 82) dX1_joined_1 c1_11 (by decide) (by decide) (by decide) (by decide) ?_
                          refine aw_lload_n (pc := 82) hX dX1_joined_82 rfl 1 rfl ?_
                          refine aw_lconst (v := (0 : Int64)) (pc := 83) hX dX1_joined_83 (by decide) ?_
                          refine aw_lcmp (pc := 84) hX dX1_joined_84 ?_
                          refine aw_if_eq (pc := 85) hX (tgt := 98) dX1_joined_85 (by decide) (fun c85 => ?_) (fun c85 => ?_)
                          · rw [if_pos (lc_eq.mp c85)] at h
                            refine aw_lconst (v := (0 : Int64)) (pc := 98) hX dX1_joined_98 (by decide) ?_
                            cases h
                            exact aw_lret hX hQ dX1_joined_99
                          · rw [if_neg (fun q => c85 (lc_eq.mpr q))] at h
                            refine aw_lload_n (pc := 88) hX dX1_joined_88 rfl 2 rfl ?_
                            refine aw_lconst (v := (0 : Int64)) (pc := 89) hX dX1_joined_89 (by decide) ?_
                            refine aw_lcmp (pc := 90) hX dX1_joined_90 ?_
                            refine aw_if_eq (pc := 91) hX (tgt := 98) dX1_joined_91 (by decide) (fun c91 => ?_) (fun c91 => ?_)
                            · rw [if_pos (lc_eq.mp c91)] at h
                              refine aw_lconst (v := (0 : Int64)) (pc := 98) hX dX1_joined_98 (by decide) ?_
                              cases h
                              exact aw_lret hX hQ dX1_joined_99
                            · rw [if_neg (fun q => c91 (lc_eq.mpr q))] at h
                              refine aw_lconst (v := (1 : Int64)) (pc := 94) hX dX1_joined_94 (by decide) ?_
                              refine aw_goto (tgt := 99) (pc := 95) hX dX1_joined_95 (by decide) ?_
                              cases h
                              exact aw_lret hX hQ dX1_joined_99
                        · rw [if_neg c1_11] at h
                          refine aw_tout (pc := 1) hX (tgt := 196) dX1_joined_1 (by have e0 := ne_i c1_0 (by decide : (7 : Int32).toInt = 7); have e1 := ne_i c1_1 (by decide : (8 : Int32).toInt = 8); have e2 := ne_i c1_2 (by decide : (9 : Int32).toInt = 9); have e3 := ne_i c1_3 (by decide : (10 : Int32).toInt = 10); have e4 := ne_i c1_4 (by decide : (11 : Int32).toInt = 11); have e5 := ne_i c1_5 (by decide : (12 : Int32).toInt = 12); have e6 := ne_i c1_6 (by decide : (13 : Int32).toInt = 13); have e7 := ne_i c1_7 (by decide : (14 : Int32).toInt = 14); have e8 := ne_i c1_8 (by decide : (15 : Int32).toInt = 15); have e9 := ne_i c1_9 (by decide : (16 : Int32).toInt = 16); have e10 := ne_i c1_10 (by decide : (17 : Int32).toInt = 17); have e11 := ne_i c1_11 (by decide : (18 : Int32).toInt = 18); omega) (by decide) ?_
                          refine aw_lload_n (pc := 196) hX dX1_joined_196 rfl 1 rfl ?_
                          refine aw_lconst (v := (0 : Int64)) (pc := 197) hX dX1_joined_197 (by decide) ?_
                          refine aw_lcmp (pc := 198) hX dX1_joined_198 ?_
                          refine aw_if_eq (pc := 199) hX (tgt := 208) dX1_joined_199 (by decide) (fun c199 => ?_) (fun c199 => ?_)
                          · rw [if_pos (lc_eq.mp c199)] at h
                            refine aw_lconst (v := (0 : Int64)) (pc := 208) hX dX1_joined_208 (by decide) ?_
                            cases h
                            exact aw_lret hX hQ dX1_joined_209
                          · rw [if_neg (fun q => c199 (lc_eq.mpr q))] at h
                            refine aw_lload_n (pc := 202) hX dX1_joined_202 rfl 2 rfl ?_
                            refine aw_lconst (v := (0 : Int64)) (pc := 203) hX dX1_joined_203 (by decide) ?_
                            refine aw_lcmp (pc := 204) hX dX1_joined_204 ?_
                            refine aw_if_ne (pc := 205) hX (tgt := 210) dX1_joined_205 (by decide) (fun c205 => ?_) (fun c205 => ?_)
                            · rw [if_neg (fun q => c205 (lc_eq.mpr q))] at h
                              refine aw_ldc2 (v := (1000000000000 : Int64)) (pc := 210) hX kw_3_232 dX1_joined_210 ?_
                              refine aw_lload_n (pc := 213) hX dX1_joined_213 rfl 1 rfl ?_
                              refine aw_lconst (v := (0 : Int64)) (pc := 214) hX dX1_joined_214 (by decide) ?_
                              refine aw_lcmp (pc := 215) hX dX1_joined_215 ?_
                              refine aw_if_ge (pc := 216) hX (tgt := 224) dX1_joined_216 (by decide) (fun c216 => ?_) (fun c216 => ?_)
                              · rw [if_pos (lc_ge.mp c216)] at h
                                refine aw_lload_n (pc := 224) hX dX1_joined_224 rfl 1 rfl ?_
                                refine aw_sub (ls' := [(1, .long v1), (3, .long v3)]) [1, 2] rfl ?_
                                exact c_X1_joined_225 hX hQ v1 v3 (1000000000000 : Int64) v1 S h
                              · rw [if_neg (fun q => c216 (lc_ge.mpr q))] at h
                                refine aw_lload_n (pc := 219) hX dX1_joined_219 rfl 1 rfl ?_
                                refine aw_lneg (pc := 220) hX dX1_joined_220 ?_
                                refine aw_goto (tgt := 225) (pc := 221) hX dX1_joined_221 (by decide) ?_
                                refine aw_sub (ls' := [(1, .long v1), (3, .long v3)]) [1, 2] rfl ?_
                                exact c_X1_joined_225 hX hQ v1 v3 (1000000000000 : Int64) (-v1) S h
                            · rw [if_pos (lc_eq.mp c205)] at h
                              refine aw_lconst (v := (0 : Int64)) (pc := 208) hX dX1_joined_208 (by decide) ?_
                              cases h
                              exact aw_lret hX hQ dX1_joined_209

def f_X1_take_18 (a : Nat) (a1 : Nat) : Nat → Int32 → Mem → Option Mem
  | 0, _, _ => none
  | n + 1, v2, S =>
  if (S.1 a 1) ≤ v2 then
  (some S)
  else
  ((rd S (a1 + 1) 64 v2).bind fun x36 =>
  (wr S (a + 1) 64 v2 x36).bind fun S37 =>
  f_X1_take_18 a a1 n (v2 + 1) S37)

def f_X1_take (a : Nat) (a1 : Nat) (S : Mem) : Option Mem :=
  if okz (S.1 a1 0) = true then
  (nxt (sI S a 0 (S.1 a1 0)) fun S5 =>
  nxt (sI S5 a 1 (S5.1 a1 1)) fun S13 =>
  f_X1_take_18 a a1 FU (0 : Int32) S13)
  else none

set_option maxHeartbeats 4000000 in
set_option maxRecDepth 100000 in
theorem c_X1_take_18 {X : XT} {loc : Nat → Nat} {sk : Skel} {a : Nat} {a1 : Nat} {Sf : Mem} (hX : AC X loc RX1 cX1_take none 3 0 0 0) (hQ : RetV X sk loc 0 0 Sf) (ha : IsLaw sk a) (ha1 : IsLaw sk a1) : ∀ (n : Nat) (v2 : Int32) (S : Mem), f_X1_take_18 a a1 n v2 S = some Sf → AW X sk loc 0 0 18 [(0, .ref a), (1, .ref a1), (2, .int v2)] [] S := by
  intro n
  induction n with
  | zero => intro v2 S h; cases h
  | succ n ih =>
    intro v2 S h
    unfold f_X1_take_18 at h
    refine aw_iload_n (pc := 18) hX dX1_take_18 rfl 2 rfl ?_
    refine aw_aload_n (pc := 19) hX dX1_take_19 rfl 0 rfl ?_
    refine gf_X1_15 (pc := 20) hX ha.1 rfl dX1_take_20 ?_
    refine aw_icmp_ge (pc := 23) hX (tgt := 44) dX1_take_23 (by decide) (fun c23 => ?_) (fun c23 => ?_)
    · rw [if_pos c23] at h
      cases h
      exact aw_vret hX hQ dX1_take_44
    · rw [if_neg c23] at h
      refine aw_aload_n (pc := 26) hX dX1_take_26 rfl 0 rfl ?_
      refine gf_X1_19 (pc := 27) hX ha.1 rfl dX1_take_27 ?_
      refine aw_iload_n (pc := 30) hX dX1_take_30 rfl 2 rfl ?_
      refine aw_aload_n (pc := 31) hX dX1_take_31 rfl 1 rfl ?_
      refine gf_X1_19 (pc := 32) hX ha1.1 rfl dX1_take_32 ?_
      refine aw_iload_n (pc := 35) hX dX1_take_35 rfl 2 rfl ?_
      obtain ⟨x36, hx36, h⟩ := ob h
      refine aw_iald (pc := 36) hX ha1.2.1 hx36 dX1_take_36 ?_
      obtain ⟨S37, hS37, h⟩ := ob h
      refine aw_iast (pc := 37) hX ha.2.1 hS37 dX1_take_37 ?_
      refine aw_iinc (v := (v2 + 1)) (ls' := [(2, .int (v2 + 1)), (0, .ref a), (1, .ref a1)]) (pc := 38) hX dX1_take_38 (pos := 2) rfl (by first | rfl | decide) (by decide) rfl ?_
      refine aw_goto (tgt := 18) (pc := 41) hX dX1_take_41 (by decide) ?_
      refine aw_sub (ls' := [(0, .ref a), (1, .ref a1), (2, .int (v2 + 1))]) [1, 2, 0] rfl ?_
      exact ih (v2 + 1) S37 h

set_option maxHeartbeats 4000000 in
set_option maxRecDepth 100000 in
theorem c_X1_take {sk : Skel} {a : Nat} {a1 : Nat} {S : Mem} {Sf : Mem} (ha : IsLaw sk a) (ha1 : IsLaw sk a1) (h : f_X1_take a a1 S = some Sf) : MetV yX1_take cX1_take 3 none 0 [.ref a, .ref a1] sk S Sf := by
  refine MetV.intro (by decide +kernel) (Nat.le_of_ble_eq_true rfl) (fun X loc hX hQ => ?_)
  unfold f_X1_take at h
  show AW X sk loc 0 0 0 [(0, .ref a), (1, .ref a1)] [] S
  refine aw_aload_n (pc := 0) hX dX1_take_0 rfl 0 rfl ?_
  refine aw_aload_n (pc := 1) hX dX1_take_1 rfl 1 rfl ?_
  refine gf_X1_9 (pc := 2) hX ha1.1 rfl dX1_take_2 ?_
  by_cases hz5 : okz (S.1 a1 0) = true
  · rw [if_pos hz5] at h
    refine pf_X1_9 (pc := 5) hX ha.1 rfl hz5 dX1_take_5 ?_
    obtain ⟨S5, eS5, h⟩ := on h
    refine aw_S eS5 ?_
    refine aw_aload_n (pc := 8) hX dX1_take_8 rfl 0 rfl ?_
    refine aw_aload_n (pc := 9) hX dX1_take_9 rfl 1 rfl ?_
    refine gf_X1_15 (pc := 10) hX ha1.1 rfl dX1_take_10 ?_
    refine pf_X1_15 (pc := 13) hX ha.1 rfl dX1_take_13 ?_
    obtain ⟨S13, eS13, h⟩ := on h
    refine aw_S eS13 ?_
    refine aw_iconst (v := (0 : Int32)) (pc := 16) hX dX1_take_16 (by decide) ?_
    refine aw_istore_n (ls' := [(2, .int (0 : Int32)), (0, .ref a), (1, .ref a1)]) (pc := 17) hX dX1_take_17 rfl (by decide) rfl ?_
    refine aw_sub (ls' := [(0, .ref a), (1, .ref a1), (2, .int (0 : Int32))]) [1, 2, 0] rfl ?_
    exact c_X1_take_18 hX hQ ha ha1 FU (0 : Int32) S13 h
  · rw [if_neg hz5] at h
    cases h

def f_X1_valueFor_120 (a : Nat) (a1 : Nat) (n1 : Nat) (R4 : Int32 → Int32 → Mem → Option (Int64 × Mem)) (v2 : Int32) (v3 : Int32) (t1 : Int32) (t2 : Int64) (S : Mem) : Option (Int64 × Mem) :=
  (wrL S (a + 2) 64 t1 t2).bind fun S120 =>
  R4 v2 (v3 + 1) S120

def f_X1_valueFor_79 (a : Nat) (a1 : Nat) (n1 : Nat) (R4 : Int32 → Int32 → Mem → Option (Int64 × Mem)) (v2 : Int32) (v3 : Int32) (v4 : Int32) (S : Mem) : Option (Int64 × Mem) :=
  if v4 = (19 : Int32) then
  (if (1 : Int32) ≤ v2 then
  ((rdL S (a + 2) 64 (v2 - (1 : Int32))).bind fun x109 =>
  if x109 = (0 : Int64) then
  (f_X1_valueFor_120 a a1 n1 R4 v2 v3 (v2 - (1 : Int32)) (1 : Int64) S)
  else
  (f_X1_valueFor_120 a a1 n1 R4 v2 v3 (v2 - (1 : Int32)) (0 : Int64) S))
  else
  (some ((-9223372036854775808 : Int64), S)))
  else
  (if (2 : Int32) ≤ v2 then
  ((rdL S (a + 2) 64 ((v2 + (-1)) - (1 : Int32))).bind fun x145 =>
  (rdL S (a + 2) 64 (v2 + (-1))).bind fun x151 =>
  bnd (f_X1_joined v4 x145 x151 S) fun r152 S152 =>
  if (1000000000000 : Int64) < r152 then
  (some ((-9223372036854775808 : Int64), S152))
  else
  (if (-1000000000000 : Int64) ≤ r152 then
  ((wrL S152 (a + 2) 64 ((v2 + (-1)) - (1 : Int32)) r152).bind fun S188 =>
  R4 (v2 + (-1)) (v3 + 1) S188)
  else
  (some ((-9223372036854775808 : Int64), S152))))
  else
  (some ((-9223372036854775808 : Int64), S)))

def f_X1_valueFor_4 (a : Nat) (a1 : Nat) (n1 : Nat) : Nat → Int32 → Int32 → Mem → Option (Int64 × Mem)
  | 0, _, _, _ => none
  | n + 1, v2, v3, S =>
  if (S.1 a 1) ≤ v3 then
  (if v2 = (1 : Int32) then
  ((rdL S (a + 2) 64 (0 : Int32)).bind fun x205 =>
  some (x205, S))
  else
  (some ((-9223372036854775808 : Int64), S)))
  else
  ((rd S (a + 1) 64 v3).bind fun x17 =>
  if x17 < (100 : Int32) then
  (if x17 < (20 : Int32) then
  (f_X1_valueFor_79 a a1 n1 (f_X1_valueFor_4 a a1 n1 n) v2 v3 x17 S)
  else
  (if (26 : Int32) < x17 then
  (f_X1_valueFor_79 a a1 n1 (f_X1_valueFor_4 a a1 n1 n) v2 v3 x17 S)
  else
  ((rd S a1 n1 (x17 - (20 : Int32))).bind fun x70 =>
  (wrL S (a + 2) 64 v2 ((x70).toInt64)).bind fun S72 =>
  f_X1_valueFor_4 a a1 n1 n (v2 + 1) (v3 + 1) S72)))
  else
  ((wrL S (a + 2) 64 v2 (((x17 - (100 : Int32))).toInt64)).bind fun S38 =>
  f_X1_valueFor_4 a a1 n1 n (v2 + 1) (v3 + 1) S38))

def f_X1_valueFor (a : Nat) (a1 : Nat) (n1 : Nat) (S : Mem) : Option (Int64 × Mem) :=
  f_X1_valueFor_4 a a1 n1 FU (0 : Int32) (0 : Int32) S

set_option maxHeartbeats 4000000 in
set_option maxRecDepth 100000 in
theorem c_X1_valueFor_120 {X : XT} {loc : Nat → Nat} {sk : Skel} {a : Nat} {a1 : Nat} {n1 : Nat} {r : Int64} {Sf : Mem} (hX : AC X loc RX1 cX1_valueFor (some .long) 7 1 0 0) (hQ : RetL X sk loc 0 0 r Sf) (ha : IsLaw sk a) (ha1 : sk[a1]? = some (0, n1, [])) {R4 : Int32 → Int32 → Mem → Option (Int64 × Mem)} (IH4 : ∀ (v2 : Int32) (v3 : Int32) (S : Mem), R4 v2 v3 S = some (r, Sf) → AW X sk loc 0 0 4 [(0, .ref a), (1, .ref a1), (2, .int v2), (3, .int v3)] [] S) (v2 : Int32) (v3 : Int32) (t1 : Int32) (t2 : Int64) (S : Mem) (h : f_X1_valueFor_120 a a1 n1 R4 v2 v3 t1 t2 S = some (r, Sf)) : AW X sk loc 0 0 120 [(0, .ref a), (1, .ref a1), (2, .int v2), (3, .int v3)] [.long t2, .int t1, .ref (a + 2)] S := by
  unfold f_X1_valueFor_120 at h
  obtain ⟨S120, hS120, h⟩ := ob h
  refine aw_last (pc := 120) hX ha.2.2 hS120 dX1_valueFor_120 ?_
  refine aw_goto (tgt := 189) (pc := 121) hX dX1_valueFor_121 (by decide) ?_
  refine aw_iinc (v := (v3 + 1)) (ls' := [(3, .int (v3 + 1)), (0, .ref a), (1, .ref a1), (2, .int v2)]) (pc := 189) hX dX1_valueFor_189 (pos := 3) rfl (by first | rfl | decide) (by decide) rfl ?_
  refine aw_goto (tgt := 4) (pc := 192) hX dX1_valueFor_192 (by decide) ?_
  refine aw_sub (ls' := [(0, .ref a), (1, .ref a1), (2, .int v2), (3, .int (v3 + 1))]) [1, 2, 3, 0] rfl ?_
  exact IH4 v2 (v3 + 1) S120 h

set_option maxHeartbeats 4000000 in
set_option maxRecDepth 100000 in
theorem c_X1_valueFor_79 {X : XT} {loc : Nat → Nat} {sk : Skel} {a : Nat} {a1 : Nat} {n1 : Nat} {r : Int64} {Sf : Mem} (hX : AC X loc RX1 cX1_valueFor (some .long) 7 1 0 0) (hQ : RetL X sk loc 0 0 r Sf) (ha : IsLaw sk a) (ha1 : sk[a1]? = some (0, n1, [])) {R4 : Int32 → Int32 → Mem → Option (Int64 × Mem)} (IH4 : ∀ (v2 : Int32) (v3 : Int32) (S : Mem), R4 v2 v3 S = some (r, Sf) → AW X sk loc 0 0 4 [(0, .ref a), (1, .ref a1), (2, .int v2), (3, .int v3)] [] S) (v2 : Int32) (v3 : Int32) (v4 : Int32) (S : Mem) (h : f_X1_valueFor_79 a a1 n1 R4 v2 v3 v4 S = some (r, Sf)) : AW X sk loc 0 0 79 [(0, .ref a), (1, .ref a1), (2, .int v2), (3, .int v3), (4, .int v4)] [] S := by
  unfold f_X1_valueFor_79 at h
  refine aw_iload (pc := 79) hX dX1_valueFor_79 4 rfl ?_
  refine aw_bipush (v := (19 : Int32)) (pc := 81) hX dX1_valueFor_81 (by decide) ?_
  refine aw_icmp_ne (pc := 83) hX (tgt := 124) dX1_valueFor_83 (by decide) (fun c83 => ?_) (fun c83 => ?_)
  · rw [if_neg c83] at h
    refine aw_iload_n (pc := 124) hX dX1_valueFor_124 rfl 2 rfl ?_
    refine aw_iconst (v := (2 : Int32)) (pc := 125) hX dX1_valueFor_125 (by decide) ?_
    refine aw_icmp_ge (pc := 126) hX (tgt := 133) dX1_valueFor_126 (by decide) (fun c126 => ?_) (fun c126 => ?_)
    · rw [if_pos c126] at h
      refine aw_iinc (v := (v2 + (-1))) (ls' := [(2, .int (v2 + (-1))), (0, .ref a), (1, .ref a1), (3, .int v3), (4, .int v4)]) (pc := 133) hX dX1_valueFor_133 (pos := 2) rfl (by first | rfl | decide) (by decide) rfl ?_
      refine aw_iload (pc := 136) hX dX1_valueFor_136 4 rfl ?_
      refine aw_aload_n (pc := 138) hX dX1_valueFor_138 rfl 1 rfl ?_
      refine gf_X1_23 (pc := 139) hX ha.1 rfl dX1_valueFor_139 ?_
      refine aw_iload_n (pc := 142) hX dX1_valueFor_142 rfl 0 rfl ?_
      refine aw_iconst (v := (1 : Int32)) (pc := 143) hX dX1_valueFor_143 (by decide) ?_
      refine aw_isub (pc := 144) hX dX1_valueFor_144 ?_
      obtain ⟨x145, hx145, h⟩ := ob h
      refine aw_lald (pc := 145) hX ha.2.2 hx145 dX1_valueFor_145 ?_
      refine aw_aload_n (pc := 146) hX dX1_valueFor_146 rfl 1 rfl ?_
      refine gf_X1_23 (pc := 147) hX ha.1 rfl dX1_valueFor_147 ?_
      refine aw_iload_n (pc := 150) hX dX1_valueFor_150 rfl 0 rfl ?_
      obtain ⟨x151, hx151, h⟩ := ob h
      refine aw_lald (pc := 151) hX ha.2.2 hx151 dX1_valueFor_151 ?_
      obtain ⟨r152, S152, hr152, h⟩ := ob2 h
      refine aw_cSL (pc := 152) (As := [.int v4, .long x145, .long x151]) (rest := []) hX (c_X1_joined (sk := sk) hr152) ok_X1_joined kw_3_229 st_X1_joined rfl (by decide) (Nat.le_of_ble_eq_true rfl) rfl dX1_valueFor_152 (Nat.le_refl 0) (Nat.le_refl 0) ?_
      refine aw_lstore (ls' := [(5, .long r152), (2, .int (v2 + (-1))), (0, .ref a), (1, .ref a1), (3, .int v3), (4, .int v4)]) (pc := 155) hX dX1_valueFor_155 (by decide) rfl ?_
      refine aw_lload (pc := 157) hX dX1_valueFor_157 0 rfl ?_
      refine aw_ldc2 (v := (1000000000000 : Int64)) (pc := 159) hX kw_3_232 dX1_valueFor_159 ?_
      refine aw_lcmp (pc := 162) hX dX1_valueFor_162 ?_
      refine aw_if_gt (pc := 163) hX (tgt := 175) dX1_valueFor_163 (by decide) (fun c163 => ?_) (fun c163 => ?_)
      · rw [if_pos (lc_gt.mp c163)] at h
        refine aw_ldc2 (v := (-9223372036854775808 : Int64)) (pc := 175) hX kw_3_228 dX1_valueFor_175 ?_
        cases h
        exact aw_lret hX hQ dX1_valueFor_178
      · rw [if_neg (fun q => c163 (lc_gt.mpr q))] at h
        refine aw_lload (pc := 166) hX dX1_valueFor_166 0 rfl ?_
        refine aw_ldc2 (v := (-1000000000000 : Int64)) (pc := 168) hX kw_3_233 dX1_valueFor_168 ?_
        refine aw_lcmp (pc := 171) hX dX1_valueFor_171 ?_
        refine aw_if_ge (pc := 172) hX (tgt := 179) dX1_valueFor_172 (by decide) (fun c172 => ?_) (fun c172 => ?_)
        · rw [if_pos (lc_ge.mp c172)] at h
          refine aw_aload_n (pc := 179) hX dX1_valueFor_179 rfl 2 rfl ?_
          refine gf_X1_23 (pc := 180) hX ha.1 rfl dX1_valueFor_180 ?_
          refine aw_iload_n (pc := 183) hX dX1_valueFor_183 rfl 1 rfl ?_
          refine aw_iconst (v := (1 : Int32)) (pc := 184) hX dX1_valueFor_184 (by decide) ?_
          refine aw_isub (pc := 185) hX dX1_valueFor_185 ?_
          refine aw_lload (pc := 186) hX dX1_valueFor_186 0 rfl ?_
          obtain ⟨S188, hS188, h⟩ := ob h
          refine aw_last (pc := 188) hX ha.2.2 hS188 dX1_valueFor_188 ?_
          refine aw_iinc (v := (v3 + 1)) (ls' := [(3, .int (v3 + 1)), (5, .long r152), (2, .int (v2 + (-1))), (0, .ref a), (1, .ref a1), (4, .int v4)]) (pc := 189) hX dX1_valueFor_189 (pos := 4) rfl (by first | rfl | decide) (by decide) rfl ?_
          refine aw_goto (tgt := 4) (pc := 192) hX dX1_valueFor_192 (by decide) ?_
          refine aw_sub (ls' := [(0, .ref a), (1, .ref a1), (2, .int (v2 + (-1))), (3, .int (v3 + 1))]) [3, 4, 2, 0] rfl ?_
          exact IH4 (v2 + (-1)) (v3 + 1) S188 h
        · rw [if_neg (fun q => c172 (lc_ge.mpr q))] at h
          refine aw_ldc2 (v := (-9223372036854775808 : Int64)) (pc := 175) hX kw_3_228 dX1_valueFor_175 ?_
          cases h
          exact aw_lret hX hQ dX1_valueFor_178
    · rw [if_neg c126] at h
      refine aw_ldc2 (v := (-9223372036854775808 : Int64)) (pc := 129) hX kw_3_228 dX1_valueFor_129 ?_
      cases h
      exact aw_lret hX hQ dX1_valueFor_132
  · rw [if_pos c83] at h
    refine aw_iload_n (pc := 86) hX dX1_valueFor_86 rfl 2 rfl ?_
    refine aw_iconst (v := (1 : Int32)) (pc := 87) hX dX1_valueFor_87 (by decide) ?_
    refine aw_icmp_ge (pc := 88) hX (tgt := 95) dX1_valueFor_88 (by decide) (fun c88 => ?_) (fun c88 => ?_)
    · rw [if_pos c88] at h
      refine aw_aload_n (pc := 95) hX dX1_valueFor_95 rfl 0 rfl ?_
      refine gf_X1_23 (pc := 96) hX ha.1 rfl dX1_valueFor_96 ?_
      refine aw_iload_n (pc := 99) hX dX1_valueFor_99 rfl 2 rfl ?_
      refine aw_iconst (v := (1 : Int32)) (pc := 100) hX dX1_valueFor_100 (by decide) ?_
      refine aw_isub (pc := 101) hX dX1_valueFor_101 ?_
      refine aw_aload_n (pc := 102) hX dX1_valueFor_102 rfl 0 rfl ?_
      refine gf_X1_23 (pc := 103) hX ha.1 rfl dX1_valueFor_103 ?_
      refine aw_iload_n (pc := 106) hX dX1_valueFor_106 rfl 2 rfl ?_
      refine aw_iconst (v := (1 : Int32)) (pc := 107) hX dX1_valueFor_107 (by decide) ?_
      refine aw_isub (pc := 108) hX dX1_valueFor_108 ?_
      obtain ⟨x109, hx109, h⟩ := ob h
      refine aw_lald (pc := 109) hX ha.2.2 hx109 dX1_valueFor_109 ?_
      refine aw_lconst (v := (0 : Int64)) (pc := 110) hX dX1_valueFor_110 (by decide) ?_
      refine aw_lcmp (pc := 111) hX dX1_valueFor_111 ?_
      refine aw_if_ne (pc := 112) hX (tgt := 119) dX1_valueFor_112 (by decide) (fun c112 => ?_) (fun c112 => ?_)
      · rw [if_neg (fun q => c112 (lc_eq.mpr q))] at h
        refine aw_lconst (v := (0 : Int64)) (pc := 119) hX dX1_valueFor_119 (by decide) ?_
        refine aw_sub (ls' := [(0, .ref a), (1, .ref a1), (2, .int v2), (3, .int v3)]) [0, 1, 2, 3] rfl ?_
        exact c_X1_valueFor_120 hX hQ ha ha1 IH4 v2 v3 (v2 - (1 : Int32)) (0 : Int64) S h
      · rw [if_pos (lc_eq.mp c112)] at h
        refine aw_lconst (v := (1 : Int64)) (pc := 115) hX dX1_valueFor_115 (by decide) ?_
        refine aw_goto (tgt := 120) (pc := 116) hX dX1_valueFor_116 (by decide) ?_
        refine aw_sub (ls' := [(0, .ref a), (1, .ref a1), (2, .int v2), (3, .int v3)]) [0, 1, 2, 3] rfl ?_
        exact c_X1_valueFor_120 hX hQ ha ha1 IH4 v2 v3 (v2 - (1 : Int32)) (1 : Int64) S h
    · rw [if_neg c88] at h
      refine aw_ldc2 (v := (-9223372036854775808 : Int64)) (pc := 91) hX kw_3_228 dX1_valueFor_91 ?_
      cases h
      exact aw_lret hX hQ dX1_valueFor_94

set_option maxHeartbeats 4000000 in
set_option maxRecDepth 100000 in
theorem c_X1_valueFor_4 {X : XT} {loc : Nat → Nat} {sk : Skel} {a : Nat} {a1 : Nat} {n1 : Nat} {r : Int64} {Sf : Mem} (hX : AC X loc RX1 cX1_valueFor (some .long) 7 1 0 0) (hQ : RetL X sk loc 0 0 r Sf) (ha : IsLaw sk a) (ha1 : sk[a1]? = some (0, n1, [])) : ∀ (n : Nat) (v2 : Int32) (v3 : Int32) (S : Mem), f_X1_valueFor_4 a a1 n1 n v2 v3 S = some (r, Sf) → AW X sk loc 0 0 4 [(0, .ref a), (1, .ref a1), (2, .int v2), (3, .int v3)] [] S := by
  intro n
  induction n with
  | zero => intro v2 v3 S h; cases h
  | succ n ih =>
    intro v2 v3 S h
    unfold f_X1_valueFor_4 at h
    refine aw_iload_n (pc := 4) hX dX1_valueFor_4 rfl 3 rfl ?_
    refine aw_aload_n (pc := 5) hX dX1_valueFor_5 rfl 0 rfl ?_
    refine gf_X1_15 (pc := 6) hX ha.1 rfl dX1_valueFor_6 ?_
    refine aw_icmp_ge (pc := 9) hX (tgt := 195) dX1_valueFor_9 (by decide) (fun c9 => ?_) (fun c9 => ?_)
    · rw [if_pos c9] at h
      refine aw_iload_n (pc := 195) hX dX1_valueFor_195 rfl 2 rfl ?_
      refine aw_iconst (v := (1 : Int32)) (pc := 196) hX dX1_valueFor_196 (by decide) ?_
      refine aw_icmp_ne (pc := 197) hX (tgt := 209) dX1_valueFor_197 (by decide) (fun c197 => ?_) (fun c197 => ?_)
      · rw [if_neg c197] at h
        refine aw_ldc2 (v := (-9223372036854775808 : Int64)) (pc := 209) hX kw_3_228 dX1_valueFor_209 ?_
        cases h
        exact aw_lret hX hQ dX1_valueFor_212
      · rw [if_pos c197] at h
        refine aw_aload_n (pc := 200) hX dX1_valueFor_200 rfl 0 rfl ?_
        refine gf_X1_23 (pc := 201) hX ha.1 rfl dX1_valueFor_201 ?_
        refine aw_iconst (v := (0 : Int32)) (pc := 204) hX dX1_valueFor_204 (by decide) ?_
        obtain ⟨x205, hx205, h⟩ := ob h
        refine aw_lald (pc := 205) hX ha.2.2 hx205 dX1_valueFor_205 ?_
        refine aw_goto (tgt := 212) (pc := 206) hX dX1_valueFor_206 (by decide) ?_
        cases h
        exact aw_lret hX hQ dX1_valueFor_212
    · rw [if_neg c9] at h
      refine aw_aload_n (pc := 12) hX dX1_valueFor_12 rfl 0 rfl ?_
      refine gf_X1_19 (pc := 13) hX ha.1 rfl dX1_valueFor_13 ?_
      refine aw_iload_n (pc := 16) hX dX1_valueFor_16 rfl 3 rfl ?_
      obtain ⟨x17, hx17, h⟩ := ob h
      refine aw_iald (pc := 17) hX ha.2.1 hx17 dX1_valueFor_17 ?_
      refine aw_istore (ls' := [(4, .int x17), (0, .ref a), (1, .ref a1), (2, .int v2), (3, .int v3)]) (pc := 18) hX dX1_valueFor_18 (by decide) rfl ?_
      refine aw_iload (pc := 20) hX dX1_valueFor_20 0 rfl ?_
      refine aw_bipush (v := (100 : Int32)) (pc := 22) hX dX1_valueFor_22 (by decide) ?_
      refine aw_icmp_lt (pc := 24) hX (tgt := 45) dX1_valueFor_24 (by decide) (fun c24 => ?_) (fun c24 => ?_)
      · rw [if_pos c24] at h
        refine aw_iload (pc := 45) hX dX1_valueFor_45 0 rfl ?_
        refine aw_bipush (v := (20 : Int32)) (pc := 47) hX dX1_valueFor_47 (by decide) ?_
        refine aw_icmp_lt (pc := 49) hX (tgt := 79) dX1_valueFor_49 (by decide) (fun c49 => ?_) (fun c49 => ?_)
        · rw [if_pos c49] at h
          refine aw_sub (ls' := [(0, .ref a), (1, .ref a1), (2, .int v2), (3, .int v3), (4, .int x17)]) [1, 2, 3, 4, 0] rfl ?_
          exact c_X1_valueFor_79 hX hQ ha ha1 ih v2 v3 x17 S h
        · rw [if_neg c49] at h
          refine aw_iload (pc := 52) hX dX1_valueFor_52 0 rfl ?_
          refine aw_bipush (v := (26 : Int32)) (pc := 54) hX dX1_valueFor_54 (by decide) ?_
          refine aw_icmp_gt (pc := 56) hX (tgt := 79) dX1_valueFor_56 (by decide) (fun c56 => ?_) (fun c56 => ?_)
          · rw [if_pos c56] at h
            refine aw_sub (ls' := [(0, .ref a), (1, .ref a1), (2, .int v2), (3, .int v3), (4, .int x17)]) [1, 2, 3, 4, 0] rfl ?_
            exact c_X1_valueFor_79 hX hQ ha ha1 ih v2 v3 x17 S h
          · rw [if_neg c56] at h
            refine aw_aload_n (pc := 59) hX dX1_valueFor_59 rfl 1 rfl ?_
            refine gf_X1_23 (pc := 60) hX ha.1 rfl dX1_valueFor_60 ?_
            refine aw_iload_n (pc := 63) hX dX1_valueFor_63 rfl 3 rfl ?_
            refine aw_aload_n (pc := 64) hX dX1_valueFor_64 rfl 2 rfl ?_
            refine aw_iload (pc := 65) hX dX1_valueFor_65 0 rfl ?_
            refine aw_bipush (v := (20 : Int32)) (pc := 67) hX dX1_valueFor_67 (by decide) ?_
            refine aw_isub (pc := 69) hX dX1_valueFor_69 ?_
            obtain ⟨x70, hx70, h⟩ := ob h
            refine aw_iald (pc := 70) hX ha1 hx70 dX1_valueFor_70 ?_
            refine aw_i2l (pc := 71) hX dX1_valueFor_71 ?_
            obtain ⟨S72, hS72, h⟩ := ob h
            refine aw_last (pc := 72) hX ha.2.2 hS72 dX1_valueFor_72 ?_
            refine aw_iinc (v := (v2 + 1)) (ls' := [(2, .int (v2 + 1)), (4, .int x17), (0, .ref a), (1, .ref a1), (3, .int v3)]) (pc := 73) hX dX1_valueFor_73 (pos := 3) rfl (by first | rfl | decide) (by decide) rfl ?_
            refine aw_goto (tgt := 189) (pc := 76) hX dX1_valueFor_76 (by decide) ?_
            refine aw_iinc (v := (v3 + 1)) (ls' := [(3, .int (v3 + 1)), (2, .int (v2 + 1)), (4, .int x17), (0, .ref a), (1, .ref a1)]) (pc := 189) hX dX1_valueFor_189 (pos := 4) rfl (by first | rfl | decide) (by decide) rfl ?_
            refine aw_goto (tgt := 4) (pc := 192) hX dX1_valueFor_192 (by decide) ?_
            refine aw_sub (ls' := [(0, .ref a), (1, .ref a1), (2, .int (v2 + 1)), (3, .int (v3 + 1))]) [3, 4, 1, 0] rfl ?_
            exact ih (v2 + 1) (v3 + 1) S72 h
      · rw [if_neg c24] at h
        refine aw_aload_n (pc := 27) hX dX1_valueFor_27 rfl 1 rfl ?_
        refine gf_X1_23 (pc := 28) hX ha.1 rfl dX1_valueFor_28 ?_
        refine aw_iload_n (pc := 31) hX dX1_valueFor_31 rfl 3 rfl ?_
        refine aw_iload (pc := 32) hX dX1_valueFor_32 0 rfl ?_
        refine aw_bipush (v := (100 : Int32)) (pc := 34) hX dX1_valueFor_34 (by decide) ?_
        refine aw_isub (pc := 36) hX dX1_valueFor_36 ?_
        refine aw_i2l (pc := 37) hX dX1_valueFor_37 ?_
        obtain ⟨S38, hS38, h⟩ := ob h
        refine aw_last (pc := 38) hX ha.2.2 hS38 dX1_valueFor_38 ?_
        refine aw_iinc (v := (v2 + 1)) (ls' := [(2, .int (v2 + 1)), (4, .int x17), (0, .ref a), (1, .ref a1), (3, .int v3)]) (pc := 39) hX dX1_valueFor_39 (pos := 3) rfl (by first | rfl | decide) (by decide) rfl ?_
        refine aw_goto (tgt := 189) (pc := 42) hX dX1_valueFor_42 (by decide) ?_
        refine aw_iinc (v := (v3 + 1)) (ls' := [(3, .int (v3 + 1)), (2, .int (v2 + 1)), (4, .int x17), (0, .ref a), (1, .ref a1)]) (pc := 189) hX dX1_valueFor_189 (pos := 4) rfl (by first | rfl | decide) (by decide) rfl ?_
        refine aw_goto (tgt := 4) (pc := 192) hX dX1_valueFor_192 (by decide) ?_
        refine aw_sub (ls' := [(0, .ref a), (1, .ref a1), (2, .int (v2 + 1)), (3, .int (v3 + 1))]) [3, 4, 1, 0] rfl ?_
        exact ih (v2 + 1) (v3 + 1) S38 h

set_option maxHeartbeats 4000000 in
set_option maxRecDepth 100000 in
theorem c_X1_valueFor {sk : Skel} {a : Nat} {a1 : Nat} {n1 : Nat} {S : Mem} {r : Int64} {Sf : Mem} (ha : IsLaw sk a) (ha1 : sk[a1]? = some (0, n1, [])) (h : f_X1_valueFor a a1 n1 S = some (r, Sf)) : MetL yX1_valueFor cX1_valueFor 7 (some .long) 1 [.ref a, .ref a1] sk S r Sf := by
  refine MetL.intro (by decide +kernel) (Nat.le_of_ble_eq_true rfl) (fun X loc hX hQ => ?_)
  unfold f_X1_valueFor at h
  show AW X sk loc 0 0 0 [(0, .ref a), (1, .ref a1)] [] S
  refine aw_iconst (v := (0 : Int32)) (pc := 0) hX dX1_valueFor_0 (by decide) ?_
  refine aw_istore_n (ls' := [(2, .int (0 : Int32)), (0, .ref a), (1, .ref a1)]) (pc := 1) hX dX1_valueFor_1 rfl (by decide) rfl ?_
  refine aw_iconst (v := (0 : Int32)) (pc := 2) hX dX1_valueFor_2 (by decide) ?_
  refine aw_istore_n (ls' := [(3, .int (0 : Int32)), (2, .int (0 : Int32)), (0, .ref a), (1, .ref a1)]) (pc := 3) hX dX1_valueFor_3 rfl (by decide) rfl ?_
  refine aw_sub (ls' := [(0, .ref a), (1, .ref a1), (2, .int (0 : Int32)), (3, .int (0 : Int32))]) [2, 3, 1, 0] rfl ?_
  exact c_X1_valueFor_4 hX hQ ha ha1 FU (0 : Int32) (0 : Int32) S h

def f_X9_copy_2 (a0 : Nat) (n0 : Nat) (a1 : Nat) (n1 : Nat) : Nat → Int32 → Mem → Option Mem
  | 0, _, _ => none
  | n + 1, v2, S =>
  if (nI n0) ≤ v2 then
  (some S)
  else
  (if (nI n1) ≤ v2 then
  (some S)
  else
  ((rd S a0 n0 v2).bind fun x18 =>
  (wr S a1 n1 v2 x18).bind fun S19 =>
  f_X9_copy_2 a0 n0 a1 n1 n (v2 + 1) S19))

def f_X9_copy (a0 : Nat) (n0 : Nat) (a1 : Nat) (n1 : Nat) (S : Mem) : Option Mem :=
  f_X9_copy_2 a0 n0 a1 n1 FU (0 : Int32) S

set_option maxHeartbeats 4000000 in
set_option maxRecDepth 100000 in
theorem c_X9_copy_2 {X : XT} {loc : Nat → Nat} {sk : Skel} {a0 : Nat} {n0 : Nat} {a1 : Nat} {n1 : Nat} {Sf : Mem} (hX : AC X loc RX9 cX9_copy none 3 0 0 0) (hQ : RetV X sk loc 0 0 Sf) (ha0 : sk[a0]? = some (0, n0, [])) (ha1 : sk[a1]? = some (0, n1, [])) : ∀ (n : Nat) (v2 : Int32) (S : Mem), f_X9_copy_2 a0 n0 a1 n1 n v2 S = some Sf → AW X sk loc 0 0 2 [(0, .ref a0), (1, .ref a1), (2, .int v2)] [] S := by
  intro n
  induction n with
  | zero => intro v2 S h; cases h
  | succ n ih =>
    intro v2 S h
    unfold f_X9_copy_2 at h
    refine aw_iload_n (pc := 2) hX dX9_copy_2 rfl 2 rfl ?_
    refine aw_aload_n (pc := 3) hX dX9_copy_3 rfl 0 rfl ?_
    refine aw_alen (pc := 4) hX ha0 (by decide) dX9_copy_4 ?_
    refine aw_icmp_ge (pc := 5) hX (tgt := 26) dX9_copy_5 (by decide) (fun c5 => ?_) (fun c5 => ?_)
    · rw [if_pos c5] at h
      cases h
      exact aw_vret hX hQ dX9_copy_26
    · rw [if_neg c5] at h
      refine aw_iload_n (pc := 8) hX dX9_copy_8 rfl 2 rfl ?_
      refine aw_aload_n (pc := 9) hX dX9_copy_9 rfl 1 rfl ?_
      refine aw_alen (pc := 10) hX ha1 (by decide) dX9_copy_10 ?_
      refine aw_icmp_ge (pc := 11) hX (tgt := 26) dX9_copy_11 (by decide) (fun c11 => ?_) (fun c11 => ?_)
      · rw [if_pos c11] at h
        cases h
        exact aw_vret hX hQ dX9_copy_26
      · rw [if_neg c11] at h
        refine aw_aload_n (pc := 14) hX dX9_copy_14 rfl 1 rfl ?_
        refine aw_iload_n (pc := 15) hX dX9_copy_15 rfl 2 rfl ?_
        refine aw_aload_n (pc := 16) hX dX9_copy_16 rfl 0 rfl ?_
        refine aw_iload_n (pc := 17) hX dX9_copy_17 rfl 2 rfl ?_
        obtain ⟨x18, hx18, h⟩ := ob h
        refine aw_iald (pc := 18) hX ha0 hx18 dX9_copy_18 ?_
        obtain ⟨S19, hS19, h⟩ := ob h
        refine aw_iast (pc := 19) hX ha1 hS19 dX9_copy_19 ?_
        refine aw_iinc (v := (v2 + 1)) (ls' := [(2, .int (v2 + 1)), (0, .ref a0), (1, .ref a1)]) (pc := 20) hX dX9_copy_20 (pos := 2) rfl (by first | rfl | decide) (by decide) rfl ?_
        refine aw_goto (tgt := 2) (pc := 23) hX dX9_copy_23 (by decide) ?_
        refine aw_sub (ls' := [(0, .ref a0), (1, .ref a1), (2, .int (v2 + 1))]) [1, 2, 0] rfl ?_
        exact ih (v2 + 1) S19 h

set_option maxHeartbeats 4000000 in
set_option maxRecDepth 100000 in
theorem c_X9_copy {sk : Skel} {a0 : Nat} {n0 : Nat} {a1 : Nat} {n1 : Nat} {S : Mem} {Sf : Mem} (ha0 : sk[a0]? = some (0, n0, [])) (ha1 : sk[a1]? = some (0, n1, [])) (h : f_X9_copy a0 n0 a1 n1 S = some Sf) : MetV yX9_copy cX9_copy 3 none 0 [.ref a0, .ref a1] sk S Sf := by
  refine MetV.intro (by decide +kernel) (Nat.le_of_ble_eq_true rfl) (fun X loc hX hQ => ?_)
  unfold f_X9_copy at h
  show AW X sk loc 0 0 0 [(0, .ref a0), (1, .ref a1)] [] S
  refine aw_iconst (v := (0 : Int32)) (pc := 0) hX dX9_copy_0 (by decide) ?_
  refine aw_istore_n (ls' := [(2, .int (0 : Int32)), (0, .ref a0), (1, .ref a1)]) (pc := 1) hX dX9_copy_1 rfl (by decide) rfl ?_
  refine aw_sub (ls' := [(0, .ref a0), (1, .ref a1), (2, .int (0 : Int32))]) [1, 2, 0] rfl ?_
  exact c_X9_copy_2 hX hQ ha0 ha1 FU (0 : Int32) S h

def f_X9_placeOf_2 (a1 : Nat) (n1 : Nat) : Nat → Int32 → Int32 → Int32 → Mem → Option (Int32 × Mem)
  | 0, _, _, _, _ => none
  | n + 1, v0, v2, v3, S =>
  if v2 ≤ v3 then
  (some ((-1 : Int32), S))
  else
  ((rd S a1 n1 v3).bind fun x9 =>
  if x9 = v0 then
  (some (v3, S))
  else
  (f_X9_placeOf_2 a1 n1 n v0 v2 (v3 + 1) S))

def f_X9_placeOf (a1 : Nat) (n1 : Nat) (v0 : Int32) (v2 : Int32) (S : Mem) : Option (Int32 × Mem) :=
  f_X9_placeOf_2 a1 n1 FU v0 v2 (0 : Int32) S

set_option maxHeartbeats 4000000 in
set_option maxRecDepth 100000 in
theorem c_X9_placeOf_2 {X : XT} {loc : Nat → Nat} {sk : Skel} {a1 : Nat} {n1 : Nat} {r : Int32} {Sf : Mem} (hX : AC X loc RX9 cX9_placeOf (some .int) 4 0 0 0) (hQ : RetI X sk loc 0 0 r Sf) (ha1 : sk[a1]? = some (0, n1, [])) : ∀ (n : Nat) (v0 : Int32) (v2 : Int32) (v3 : Int32) (S : Mem), f_X9_placeOf_2 a1 n1 n v0 v2 v3 S = some (r, Sf) → AW X sk loc 0 0 2 [(0, .int v0), (1, .ref a1), (2, .int v2), (3, .int v3)] [] S := by
  intro n
  induction n with
  | zero => intro v0 v2 v3 S h; cases h
  | succ n ih =>
    intro v0 v2 v3 S h
    unfold f_X9_placeOf_2 at h
    refine aw_iload_n (pc := 2) hX dX9_placeOf_2 rfl 3 rfl ?_
    refine aw_iload_n (pc := 3) hX dX9_placeOf_3 rfl 2 rfl ?_
    refine aw_icmp_ge (pc := 4) hX (tgt := 22) dX9_placeOf_4 (by decide) (fun c4 => ?_) (fun c4 => ?_)
    · rw [if_pos c4] at h
      refine aw_iconst (v := (-1 : Int32)) (pc := 22) hX dX9_placeOf_22 (by decide) ?_
      cases h
      exact aw_iret hX hQ dX9_placeOf_23
    · rw [if_neg c4] at h
      refine aw_aload_n (pc := 7) hX dX9_placeOf_7 rfl 1 rfl ?_
      refine aw_iload_n (pc := 8) hX dX9_placeOf_8 rfl 3 rfl ?_
      obtain ⟨x9, hx9, h⟩ := ob h
      refine aw_iald (pc := 9) hX ha1 hx9 dX9_placeOf_9 ?_
      refine aw_iload_n (pc := 10) hX dX9_placeOf_10 rfl 0 rfl ?_
      refine aw_icmp_ne (pc := 11) hX (tgt := 16) dX9_placeOf_11 (by decide) (fun c11 => ?_) (fun c11 => ?_)
      · rw [if_neg c11] at h
        refine aw_iinc (v := (v3 + 1)) (ls' := [(3, .int (v3 + 1)), (0, .int v0), (1, .ref a1), (2, .int v2)]) (pc := 16) hX dX9_placeOf_16 (pos := 3) rfl (by first | rfl | decide) (by decide) rfl ?_
        refine aw_goto (tgt := 2) (pc := 19) hX dX9_placeOf_19 (by decide) ?_
        refine aw_sub (ls' := [(0, .int v0), (1, .ref a1), (2, .int v2), (3, .int (v3 + 1))]) [1, 2, 3, 0] rfl ?_
        exact ih v0 v2 (v3 + 1) S h
      · rw [if_pos c11] at h
        refine aw_iload_n (pc := 14) hX dX9_placeOf_14 rfl 3 rfl ?_
        cases h
        exact aw_iret hX hQ dX9_placeOf_15

set_option maxHeartbeats 4000000 in
set_option maxRecDepth 100000 in
theorem c_X9_placeOf {sk : Skel} {a1 : Nat} {n1 : Nat} {v0 : Int32} {v2 : Int32} {S : Mem} {r : Int32} {Sf : Mem} (ha1 : sk[a1]? = some (0, n1, [])) (h : f_X9_placeOf a1 n1 v0 v2 S = some (r, Sf)) : MetI yX9_placeOf cX9_placeOf 4 (some .int) 0 [.int v0, .ref a1, .int v2] sk S r Sf := by
  refine MetI.intro (by decide +kernel) (Nat.le_of_ble_eq_true rfl) (fun X loc hX hQ => ?_)
  unfold f_X9_placeOf at h
  show AW X sk loc 0 0 0 [(0, .int v0), (1, .ref a1), (2, .int v2)] [] S
  refine aw_iconst (v := (0 : Int32)) (pc := 0) hX dX9_placeOf_0 (by decide) ?_
  refine aw_istore_n (ls' := [(3, .int (0 : Int32)), (0, .int v0), (1, .ref a1), (2, .int v2)]) (pc := 1) hX dX9_placeOf_1 rfl (by decide) rfl ?_
  refine aw_sub (ls' := [(0, .int v0), (1, .ref a1), (2, .int v2), (3, .int (0 : Int32))]) [1, 2, 3, 0] rfl ?_
  exact c_X9_placeOf_2 hX hQ ha1 FU v0 v2 (0 : Int32) S h

