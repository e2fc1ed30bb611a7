def f_X9_goneAhead (v1 : Int32) (S : Mem) : Option Mem :=
  (f_X8_take 69 53 S).bind fun S8 =>
  (f_X8_run 69 v1 (0 : Int32) S8).bind fun S17 =>
  some S17

set_option maxHeartbeats 4000000 in
set_option maxRecDepth 100000 in
theorem c_X9_goneAhead {v1 : Int32} {S : Mem} {Sf : Mem} (h : f_X9_goneAhead v1 S = some Sf) : MetR yX9_goneAhead cX9_goneAhead 2 (some (.object "DollTruce$World")) 6 [.ref 0, .int v1] SKC S 69 Sf := by
  refine MetR.intro (by decide +kernel) (Nat.le_of_ble_eq_true rfl) (fun X loc hX hQ => ?_)
  unfold f_X9_goneAhead at h
  show AW X SKC loc 0 0 0 [(0, .ref 0), (1, .int v1)] [] S
  refine aw_aload_n (pc := 0) hX dX9_goneAhead_0 rfl 0 rfl ?_
  refine gf_X9_44 (pc := 1) hX kc0 rfl dX9_goneAhead_1 ?_
  refine aw_aload_n (pc := 4) hX dX9_goneAhead_4 rfl 0 rfl ?_
  refine gf_X9_37 (pc := 5) hX kc0 rfl dX9_goneAhead_5 ?_
  obtain ⟨S8, hr8, h⟩ := ob h
  refine aw_cVV (pc := 8) (As := [.ref 53]) (rest := []) hX (c_X8_take (sk := SKC) isW69 isT31 isW53 hr8) ok_X8_take kw_4_98 im_X8_take se_X8_take rfl isW69.1 rfl (by decide) (Nat.le_of_ble_eq_true rfl) rfl dX9_goneAhead_8 (Nat.le_refl 0) (Nat.le_refl 0) ?_
  refine aw_aload_n (pc := 11) hX dX9_goneAhead_11 rfl 0 rfl ?_
  refine gf_X9_44 (pc := 12) hX kc0 rfl dX9_goneAhead_12 ?_
  refine aw_iload_n (pc := 15) hX dX9_goneAhead_15 rfl 1 rfl ?_
  refine aw_iconst (v := (0 : Int32)) (pc := 16) hX dX9_goneAhead_16 (by decide) ?_
  obtain ⟨S17, hr17, h⟩ := ob h
  refine aw_cVV (pc := 17) (As := [.int v1, .int (0 : Int32)]) (rest := []) hX (c_X8_run (sk := SKC) isW69 isT31 hr17) ok_X8_run kw_4_49 im_X8_run se_X8_run rfl isW69.1 rfl (by decide) (Nat.le_of_ble_eq_true rfl) rfl dX9_goneAhead_17 (Nat.le_refl 0) (Nat.le_refl 0) ?_
  refine aw_aload_n (pc := 20) hX dX9_goneAhead_20 rfl 0 rfl ?_
  refine gf_X9_44 (pc := 21) hX kc0 rfl dX9_goneAhead_21 ?_
  cases h
  exact aw_rret hX hQ dX9_goneAhead_24

def f_X9_isCity (v0 : Int32) (S : Mem) : Option (Int32 × Mem) :=
  if v0 = 0 then
  (some ((1 : Int32), S))
  else
  (if v0 = (1 : Int32) then
  (some ((1 : Int32), S))
  else
  (some ((0 : Int32), S)))

set_option maxHeartbeats 4000000 in
set_option maxRecDepth 100000 in
theorem c_X9_isCity {sk : Skel} {v0 : Int32} {S : Mem} {r : Int32} {Sf : Mem} (h : f_X9_isCity v0 S = some (r, Sf)) : MetI yX9_isCity cX9_isCity 1 (some .boolean) 0 [.int v0] sk S r Sf := by
  refine MetI.intro (by decide +kernel) (Nat.le_of_ble_eq_true rfl) (fun X loc hX hQ => ?_)
  unfold f_X9_isCity at h
  show AW X sk loc 0 0 0 [(0, .int v0)] [] S
  refine aw_iload_n (pc := 0) hX dX9_isCity_0 rfl 0 rfl ?_
  refine aw_if_eq (pc := 1) hX (tgt := 9) dX9_isCity_1 (by decide) (fun c1 => ?_) (fun c1 => ?_)
  · rw [if_pos c1] at h
    refine aw_iconst (v := (1 : Int32)) (pc := 9) hX dX9_isCity_9 (by decide) ?_
    refine aw_goto (tgt := 14) (pc := 10) hX dX9_isCity_10 (by decide) ?_
    cases h
    exact aw_zret hX hQ (by decide) dX9_isCity_14
  · rw [if_neg c1] at h
    refine aw_iload_n (pc := 4) hX dX9_isCity_4 rfl 0 rfl ?_
    refine aw_iconst (v := (1 : Int32)) (pc := 5) hX dX9_isCity_5 (by decide) ?_
    refine aw_icmp_ne (pc := 6) hX (tgt := 13) dX9_isCity_6 (by decide) (fun c6 => ?_) (fun c6 => ?_)
    · rw [if_neg c6] at h
      refine aw_iconst (v := (0 : Int32)) (pc := 13) hX dX9_isCity_13 (by decide) ?_
      cases h
      exact aw_zret hX hQ (by decide) dX9_isCity_14
    · rw [if_pos c6] at h
      refine aw_iconst (v := (1 : Int32)) (pc := 9) hX dX9_isCity_9 (by decide) ?_
      refine aw_goto (tgt := 14) (pc := 10) hX dX9_isCity_10 (by decide) ?_
      cases h
      exact aw_zret hX hQ (by decide) dX9_isCity_14

def f_X9_isDoll (v1 : Int32) (S : Mem) : Option (Int32 × Mem) :=
  if v1 < 0 then
  (some ((0 : Int32), S))
  else
  (if (S.1 31 1) ≤ v1 then
  (some ((0 : Int32), S))
  else
  (some ((1 : Int32), S)))

set_option maxHeartbeats 4000000 in
set_option maxRecDepth 100000 in
theorem c_X9_isDoll {v1 : Int32} {S : Mem} {r : Int32} {Sf : Mem} (h : f_X9_isDoll v1 S = some (r, Sf)) : MetI yX9_isDoll cX9_isDoll 2 (some .boolean) 0 [.ref 0, .int v1] SKC S r Sf := by
  refine MetI.intro (by decide +kernel) (Nat.le_of_ble_eq_true rfl) (fun X loc hX hQ => ?_)
  unfold f_X9_isDoll at h
  show AW X SKC loc 0 0 0 [(0, .ref 0), (1, .int v1)] [] S
  refine aw_iload_n (pc := 0) hX dX9_isDoll_0 rfl 1 rfl ?_
  refine aw_if_lt (pc := 1) hX (tgt := 19) dX9_isDoll_1 (by decide) (fun c1 => ?_) (fun c1 => ?_)
  · rw [if_pos c1] at h
    refine aw_iconst (v := (0 : Int32)) (pc := 19) hX dX9_isDoll_19 (by decide) ?_
    cases h
    exact aw_zret hX hQ (by decide) dX9_isDoll_20
  · rw [if_neg c1] at h
    refine aw_iload_n (pc := 4) hX dX9_isDoll_4 rfl 1 rfl ?_
    refine aw_aload_n (pc := 5) hX dX9_isDoll_5 rfl 0 rfl ?_
    refine gf_X9_28 (pc := 6) hX kc0 rfl dX9_isDoll_6 ?_
    refine gf_X9_132 (pc := 9) hX isT31.1 rfl dX9_isDoll_9 ?_
    refine aw_icmp_ge (pc := 12) hX (tgt := 19) dX9_isDoll_12 (by decide) (fun c12 => ?_) (fun c12 => ?_)
    · rw [if_pos c12] at h
      refine aw_iconst (v := (0 : Int32)) (pc := 19) hX dX9_isDoll_19 (by decide) ?_
      cases h
      exact aw_zret hX hQ (by decide) dX9_isDoll_20
    · rw [if_neg c12] at h
      refine aw_iconst (v := (1 : Int32)) (pc := 15) hX dX9_isDoll_15 (by decide) ?_
      refine aw_goto (tgt := 20) (pc := 16) hX dX9_isDoll_16 (by decide) ?_
      cases h
      exact aw_zret hX hQ (by decide) dX9_isDoll_20

def f_X9_ahead_58 (v1 : Int32) (v2 : Int32) (S : Mem) : Option (Int32 × Mem) :=
  if v2 = (2 : Int32) then
  ((f_X9_goneAhead v1 S).bind fun S65 =>
  bnd (f_X8_breachesOfBoth 69 S65) fun r68 S68 =>
  bnd (f_X8_breachesOfBoth 53 S68) fun r75 S75 =>
  some ((r68 - r75), S75))
  else
  (some ((-1 : Int32), S))

def f_X9_ahead_35 (v1 : Int32) (v2 : Int32) (v3 : Int32) (S : Mem) : Option (Int32 × Mem) :=
  if v2 = (1 : Int32) then
  (bnd (f_X9_isCity v3 S) fun r41 S41 =>
  if r41 = 0 then
  (f_X9_ahead_58 v1 v2 S41)
  else
  ((f_X9_goneAhead v1 S41).bind fun S49 =>
  (rd S49 74 2 v3).bind fun x56 =>
  some (x56, S49)))
  else
  (f_X9_ahead_58 v1 v2 S)

def f_X9_ahead (v1 : Int32) (v2 : Int32) (v3 : Int32) (S : Mem) : Option (Int32 × Mem) :=
  if v1 < 0 then
  (some ((-1 : Int32), S))
  else
  (if v1 ≤ (60 : Int32) then
  (if v2 = 0 then
  (bnd (f_X9_isDoll v3 S) fun r18 S18 =>
  if r18 = 0 then
  (f_X9_ahead_35 v1 v2 v3 S18)
  else
  ((f_X9_goneAhead v1 S18).bind fun S26 =>
  (rd S26 71 10 v3).bind fun x33 =>
  some (x33, S26)))
  else
  (f_X9_ahead_35 v1 v2 v3 S))
  else
  (some ((-1 : Int32), S)))

set_option maxHeartbeats 4000000 in
set_option maxRecDepth 100000 in
theorem c_X9_ahead_58 {X : XT} {loc : Nat → Nat} {r : Int32} {Sf : Mem} (hX : AC X loc RX9 cX9_ahead (some .int) 4 7 0 0) (hQ : RetI X SKC loc 0 0 r Sf) (v1 : Int32) (v2 : Int32) (S : Mem) (h : f_X9_ahead_58 v1 v2 S = some (r, Sf)) : AW X SKC loc 0 0 58 [(0, .ref 0), (1, .int v1), (2, .int v2)] [] S := by
  unfold f_X9_ahead_58 at h
  refine aw_iload_n (pc := 58) hX dX9_ahead_58 rfl 2 rfl ?_
  refine aw_iconst (v := (2 : Int32)) (pc := 59) hX dX9_ahead_59 (by decide) ?_
  refine aw_icmp_ne (pc := 60) hX (tgt := 82) dX9_ahead_60 (by decide) (fun c60 => ?_) (fun c60 => ?_)
  · rw [if_neg c60] at h
    refine aw_iconst (v := (-1 : Int32)) (pc := 82) hX dX9_ahead_82 (by decide) ?_
    cases h
    exact aw_iret hX hQ dX9_ahead_83
  · rw [if_pos c60] at h
    refine aw_aload_n (pc := 63) hX dX9_ahead_63 rfl 0 rfl ?_
    refine aw_iload_n (pc := 64) hX dX9_ahead_64 rfl 1 rfl ?_
    obtain ⟨S65, hr65, h⟩ := ob h
    refine aw_cVR (pc := 65) (As := [.int v1]) (rest := []) hX (c_X9_goneAhead hr65) ok_X9_goneAhead kw_4_94 im_X9_goneAhead se_X9_goneAhead rfl kc0 rfl (by decide) (Nat.le_of_ble_eq_true rfl) rfl dX9_ahead_65 (Nat.le_refl 0) (Nat.le_refl 0) ?_
    obtain ⟨r68, S68, hr68, h⟩ := ob2 h
    refine aw_cVI (pc := 68) (As := []) (rest := []) hX (c_X8_breachesOfBoth (sk := SKC) isW69 isT31 hr68) ok_X8_breachesOfBoth kw_4_102 im_X8_breachesOfBoth se_X8_breachesOfBoth rfl isW69.1 rfl (by decide) (Nat.le_of_ble_eq_true rfl) rfl dX9_ahead_68 (Nat.le_refl 0) (Nat.le_refl 0) ?_
    refine aw_aload_n (pc := 71) hX dX9_ahead_71 rfl 0 rfl ?_
    refine gf_X9_37 (pc := 72) hX kc0 rfl dX9_ahead_72 ?_
    obtain ⟨r75, S75, hr75, h⟩ := ob2 h
    refine aw_cVI (pc := 75) (As := []) (rest := [.int r68]) hX (c_X8_breachesOfBoth (sk := SKC) isW53 isT31 hr75) ok_X8_breachesOfBoth kw_4_102 im_X8_breachesOfBoth se_X8_breachesOfBoth rfl isW53.1 rfl (by decide) (Nat.le_of_ble_eq_true rfl) rfl dX9_ahead_75 (Nat.le_refl 0) (Nat.le_refl 0) ?_
    refine aw_isub (pc := 78) hX dX9_ahead_78 ?_
    refine aw_goto (tgt := 83) (pc := 79) hX dX9_ahead_79 (by decide) ?_
    cases h
    exact aw_iret hX hQ dX9_ahead_83

set_option maxHeartbeats 4000000 in
set_option maxRecDepth 100000 in
theorem c_X9_ahead_35 {X : XT} {loc : Nat → Nat} {r : Int32} {Sf : Mem} (hX : AC X loc RX9 cX9_ahead (some .int) 4 7 0 0) (hQ : RetI X SKC loc 0 0 r Sf) (v1 : Int32) (v2 : Int32) (v3 : Int32) (S : Mem) (h : f_X9_ahead_35 v1 v2 v3 S = some (r, Sf)) : AW X SKC loc 0 0 35 [(0, .ref 0), (1, .int v1), (2, .int v2), (3, .int v3)] [] S := by
  unfold f_X9_ahead_35 at h
  refine aw_iload_n (pc := 35) hX dX9_ahead_35 rfl 2 rfl ?_
  refine aw_iconst (v := (1 : Int32)) (pc := 36) hX dX9_ahead_36 (by decide) ?_
  refine aw_icmp_ne (pc := 37) hX (tgt := 58) dX9_ahead_37 (by decide) (fun c37 => ?_) (fun c37 => ?_)
  · rw [if_neg c37] at h
    refine aw_sub (ls' := [(0, .ref 0), (1, .int v1), (2, .int v2)]) [0, 1, 2] rfl ?_
    exact c_X9_ahead_58 hX hQ v1 v2 S h
  · rw [if_pos c37] at h
    refine aw_iload_n (pc := 40) hX dX9_ahead_40 rfl 3 rfl ?_
    obtain ⟨r41, S41, hr41, h⟩ := ob2 h
    refine aw_cSI (pc := 41) (As := [.int v3]) (rest := []) hX (c_X9_isCity (sk := SKC) hr41) ok_X9_isCity kw_3_183 st_X9_isCity rfl (by decide) (Nat.le_of_ble_eq_true rfl) rfl dX9_ahead_41 (Nat.le_refl 0) (Nat.le_refl 0) ?_
    refine aw_if_eq (pc := 44) hX (tgt := 58) dX9_ahead_44 (by decide) (fun c44 => ?_) (fun c44 => ?_)
    · rw [if_pos c44] at h
      refine aw_sub (ls' := [(0, .ref 0), (1, .int v1), (2, .int v2)]) [0, 1, 2] rfl ?_
      exact c_X9_ahead_58 hX hQ v1 v2 S41 h
    · rw [if_neg c44] at h
      refine aw_aload_n (pc := 47) hX dX9_ahead_47 rfl 0 rfl ?_
      refine aw_iload_n (pc := 48) hX dX9_ahead_48 rfl 1 rfl ?_
      obtain ⟨S49, hr49, h⟩ := ob h
      refine aw_cVR (pc := 49) (As := [.int v1]) (rest := []) hX (c_X9_goneAhead hr49) ok_X9_goneAhead kw_4_94 im_X9_goneAhead se_X9_goneAhead rfl kc0 rfl (by decide) (Nat.le_of_ble_eq_true rfl) rfl dX9_ahead_49 (Nat.le_refl 0) (Nat.le_refl 0) ?_
      refine gf_X9_188 (pc := 52) hX isW69.1 rfl dX9_ahead_52 ?_
      refine aw_iload_n (pc := 55) hX dX9_ahead_55 rfl 3 rfl ?_
      obtain ⟨x56, hx56, h⟩ := ob h
      refine aw_iald (pc := 56) hX kc74 hx56 dX9_ahead_56 ?_
      cases h
      exact aw_iret hX hQ dX9_ahead_57

set_option maxHeartbeats 4000000 in
set_option maxRecDepth 100000 in
theorem c_X9_ahead {v1 : Int32} {v2 : Int32} {v3 : Int32} {S : Mem} {r : Int32} {Sf : Mem} (h : f_X9_ahead v1 v2 v3 S = some (r, Sf)) : MetI yX9_ahead cX9_ahead 4 (some .int) 7 [.ref 0, .int v1, .int v2, .int v3] SKC S r Sf := by
  refine MetI.intro (by decide +kernel) (Nat.le_of_ble_eq_true rfl) (fun X loc hX hQ => ?_)
  unfold f_X9_ahead at h
  show AW X SKC loc 0 0 0 [(0, .ref 0), (1, .int v1), (2, .int v2), (3, .int v3)] [] S
  refine aw_iload_n (pc := 0) hX dX9_ahead_0 rfl 1 rfl ?_
  refine aw_if_lt (pc := 1) hX (tgt := 10) dX9_ahead_1 (by decide) (fun c1 => ?_) (fun c1 => ?_)
  · rw [if_pos c1] at h
    refine aw_iconst (v := (-1 : Int32)) (pc := 10) hX dX9_ahead_10 (by decide) ?_
    cases h
    exact aw_iret hX hQ dX9_ahead_11
  · rw [if_neg c1] at h
    refine aw_iload_n (pc := 4) hX dX9_ahead_4 rfl 1 rfl ?_
    refine aw_bipush (v := (60 : Int32)) (pc := 5) hX dX9_ahead_5 (by decide) ?_
    refine aw_icmp_le (pc := 7) hX (tgt := 12) dX9_ahead_7 (by decide) (fun c7 => ?_) (fun c7 => ?_)
    · rw [if_pos c7] at h
      refine aw_iload_n (pc := 12) hX dX9_ahead_12 rfl 2 rfl ?_
      refine aw_if_ne (pc := 13) hX (tgt := 35) dX9_ahead_13 (by decide) (fun c13 => ?_) (fun c13 => ?_)
      · rw [if_neg c13] at h
        exact c_X9_ahead_35 hX hQ v1 v2 v3 S h
      · rw [if_pos c13] at h
        refine aw_aload_n (pc := 16) hX dX9_ahead_16 rfl 0 rfl ?_
        refine aw_iload_n (pc := 17) hX dX9_ahead_17 rfl 3 rfl ?_
        obtain ⟨r18, S18, hr18, h⟩ := ob2 h
        refine aw_cVI (pc := 18) (As := [.int v3]) (rest := []) hX (c_X9_isDoll hr18) ok_X9_isDoll kw_3_206 im_X9_isDoll se_X9_isDoll rfl kc0 rfl (by decide) (Nat.le_of_ble_eq_true rfl) rfl dX9_ahead_18 (Nat.le_refl 0) (Nat.le_refl 0) ?_
        refine aw_if_eq (pc := 21) hX (tgt := 35) dX9_ahead_21 (by decide) (fun c21 => ?_) (fun c21 => ?_)
        · rw [if_pos c21] at h
          exact c_X9_ahead_35 hX hQ v1 v2 v3 S18 h
        · rw [if_neg c21] at h
          refine aw_aload_n (pc := 24) hX dX9_ahead_24 rfl 0 rfl ?_
          refine aw_iload_n (pc := 25) hX dX9_ahead_25 rfl 1 rfl ?_
          obtain ⟨S26, hr26, h⟩ := ob h
          refine aw_cVR (pc := 26) (As := [.int v1]) (rest := []) hX (c_X9_goneAhead hr26) ok_X9_goneAhead kw_4_94 im_X9_goneAhead se_X9_goneAhead rfl kc0 rfl (by decide) (Nat.le_of_ble_eq_true rfl) rfl dX9_ahead_26 (Nat.le_refl 0) (Nat.le_refl 0) ?_
          refine gf_X9_158 (pc := 29) hX isW69.1 rfl dX9_ahead_29 ?_
          refine aw_iload_n (pc := 32) hX dX9_ahead_32 rfl 3 rfl ?_
          obtain ⟨x33, hx33, h⟩ := ob h
          refine aw_iald (pc := 33) hX kc71 hx33 dX9_ahead_33 ?_
          cases h
          exact aw_iret hX hQ dX9_ahead_34
    · rw [if_neg c7] at h
      refine aw_iconst (v := (-1 : Int32)) (pc := 10) hX dX9_ahead_10 (by decide) ?_
      cases h
      exact aw_iret hX hQ dX9_ahead_11

def f_X9_answersOn (v1 : Int32) (S : Mem) : Option (Int32 × Mem) :=
  bnd (f_X9_isCity v1 S) fun r1 S1 =>
  if r1 = 0 then
  (some ((-1 : Int32), S1))
  else
  (bnd (f_X8_mostLoved 53 v1 S1) fun r12 S12 =>
  some (r12, S12))

set_option maxHeartbeats 4000000 in
set_option maxRecDepth 100000 in
theorem c_X9_answersOn {v1 : Int32} {S : Mem} {r : Int32} {Sf : Mem} (h : f_X9_answersOn v1 S = some (r, Sf)) : MetI yX9_answersOn cX9_answersOn 2 (some .int) 2 [.ref 0, .int v1] SKC S r Sf := by
  refine MetI.intro (by decide +kernel) (Nat.le_of_ble_eq_true rfl) (fun X loc hX hQ => ?_)
  unfold f_X9_answersOn at h
  show AW X SKC loc 0 0 0 [(0, .ref 0), (1, .int v1)] [] S
  refine aw_iload_n (pc := 0) hX dX9_answersOn_0 rfl 1 rfl ?_
  obtain ⟨r1, S1, hr1, h⟩ := ob2 h
  refine aw_cSI (pc := 1) (As := [.int v1]) (rest := []) hX (c_X9_isCity (sk := SKC) hr1) ok_X9_isCity kw_3_183 st_X9_isCity rfl (by decide) (Nat.le_of_ble_eq_true rfl) rfl dX9_answersOn_1 (Nat.le_refl 0) (Nat.le_refl 0) ?_
  refine aw_if_eq (pc := 4) hX (tgt := 18) dX9_answersOn_4 (by decide) (fun c4 => ?_) (fun c4 => ?_)
  · rw [if_pos c4] at h
    refine aw_iconst (v := (-1 : Int32)) (pc := 18) hX dX9_answersOn_18 (by decide) ?_
    cases h
    exact aw_iret hX hQ dX9_answersOn_19
  · rw [if_neg c4] at h
    refine aw_aload_n (pc := 7) hX dX9_answersOn_7 rfl 0 rfl ?_
    refine gf_X9_37 (pc := 8) hX kc0 rfl dX9_answersOn_8 ?_
    refine aw_iload_n (pc := 11) hX dX9_answersOn_11 rfl 1 rfl ?_
    obtain ⟨r12, S12, hr12, h⟩ := ob2 h
    refine aw_cVI (pc := 12) (As := [.int v1]) (rest := []) hX (c_X8_mostLoved (sk := SKC) isW53 isT31 hr12) ok_X8_mostLoved kw_4_215 im_X8_mostLoved se_X8_mostLoved rfl isW53.1 rfl (by decide) (Nat.le_of_ble_eq_true rfl) rfl dX9_answersOn_12 (Nat.le_refl 0) (Nat.le_refl 0) ?_
    refine aw_goto (tgt := 19) (pc := 15) hX dX9_answersOn_15 (by decide) ?_
    cases h
    exact aw_iret hX hQ dX9_answersOn_19

def f_X9_settle (S : Mem) : Option Mem :=
  nxt (sI S 84 0 (0 : Int32)) fun S5 =>
  (f_X3_forget S5).bind fun S12 =>
  some S12

set_option maxHeartbeats 4000000 in
set_option maxRecDepth 100000 in
theorem c_X9_settle {S : Mem} {Sf : Mem} (h : f_X9_settle S = some Sf) : MetV yX9_settle cX9_settle 1 none 1 [.ref 0] SKC S Sf := by
  refine MetV.intro (by decide +kernel) (Nat.le_of_ble_eq_true rfl) (fun X loc hX hQ => ?_)
  unfold f_X9_settle at h
  show AW X SKC loc 0 0 0 [(0, .ref 0)] [] S
  refine aw_aload_n (pc := 0) hX dX9_settle_0 rfl 0 rfl ?_
  refine gf_X9_57 (pc := 1) hX kc0 rfl dX9_settle_1 ?_
  refine aw_iconst (v := (0 : Int32)) (pc := 4) hX dX9_settle_4 (by decide) ?_
  refine pf_X9_325 (pc := 5) hX kc84 rfl dX9_settle_5 ?_
  obtain ⟨S5, eS5, h⟩ := on h
  refine aw_S eS5 ?_
  refine aw_aload_n (pc := 8) hX dX9_settle_8 rfl 0 rfl ?_
  refine gf_X9_64 (pc := 9) hX kc0 rfl dX9_settle_9 ?_
  obtain ⟨S12, hr12, h⟩ := ob h
  refine aw_cVV (pc := 12) (As := []) (rest := []) hX (c_X3_forget hr12) ok_X3_forget kw_3_149 im_X3_forget se_X3_forget rfl kc88 rfl (by decide) (Nat.le_of_ble_eq_true rfl) rfl dX9_settle_12 (Nat.le_refl 0) (Nat.le_refl 0) ?_
  cases h
  exact aw_vret hX hQ dX9_settle_15

def f_X9_back (S : Mem) : Option (Int32 × Mem) :=
  if (S.1 0 9) = 0 then
  (some ((-1 : Int32), S))
  else
  ((f_X8_take 53 61 S).bind fun S17 =>
  (f_X9_settle S17).bind fun S21 =>
  some ((S21.1 53 0), S21))

set_option maxHeartbeats 4000000 in
set_option maxRecDepth 100000 in
theorem c_X9_back {S : Mem} {r : Int32} {Sf : Mem} (h : f_X9_back S = some (r, Sf)) : MetI yX9_back cX9_back 1 (some .int) 2 [.ref 0] SKC S r Sf := by
  refine MetI.intro (by decide +kernel) (Nat.le_of_ble_eq_true rfl) (fun X loc hX hQ => ?_)
  unfold f_X9_back at h
  show AW X SKC loc 0 0 0 [(0, .ref 0)] [] S
  refine aw_aload_n (pc := 0) hX dX9_back_0 rfl 0 rfl ?_
  refine gf_X9_68 (pc := 1) hX kc0 rfl dX9_back_1 ?_
  refine aw_if_ne (pc := 4) hX (tgt := 9) dX9_back_4 (by decide) (fun c4 => ?_) (fun c4 => ?_)
  · rw [if_neg c4] at h
    refine aw_aload_n (pc := 9) hX dX9_back_9 rfl 0 rfl ?_
    refine gf_X9_37 (pc := 10) hX kc0 rfl dX9_back_10 ?_
    refine aw_aload_n (pc := 13) hX dX9_back_13 rfl 0 rfl ?_
    refine gf_X9_41 (pc := 14) hX kc0 rfl dX9_back_14 ?_
    obtain ⟨S17, hr17, h⟩ := ob h
    refine aw_cVV (pc := 17) (As := [.ref 61]) (rest := []) hX (c_X8_take (sk := SKC) isW53 isT31 isW61 hr17) ok_X8_take kw_4_98 im_X8_take se_X8_take rfl isW53.1 rfl (by decide) (Nat.le_of_ble_eq_true rfl) rfl dX9_back_17 (Nat.le_refl 0) (Nat.le_refl 0) ?_
    refine aw_aload_n (pc := 20) hX dX9_back_20 rfl 0 rfl ?_
    obtain ⟨S21, hr21, h⟩ := ob h
    refine aw_cVV (pc := 21) (As := []) (rest := []) hX (c_X9_settle hr21) ok_X9_settle kw_3_145 im_X9_settle se_X9_settle rfl kc0 rfl (by decide) (Nat.le_of_ble_eq_true rfl) rfl dX9_back_21 (Nat.le_refl 0) (Nat.le_refl 0) ?_
    refine aw_aload_n (pc := 24) hX dX9_back_24 rfl 0 rfl ?_
    refine gf_X9_37 (pc := 25) hX kc0 rfl dX9_back_25 ?_
    refine gf_X9_242 (pc := 28) hX isW53.1 rfl dX9_back_28 ?_
    cases h
    exact aw_iret hX hQ dX9_back_31
  · rw [if_pos c4] at h
    refine aw_iconst (v := (-1 : Int32)) (pc := 7) hX dX9_back_7 (by decide) ?_
    cases h
    exact aw_iret hX hQ dX9_back_8

def f_X9_canBeExchanged (v1 : Int32) (v2 : Int32) (v3 : Int32) (S : Mem) : Option (Int32 × Mem) :=
  (rd S 40 2 (0 : Int32)).bind fun x9 =>
  (rd S 40 2 (1 : Int32)).bind fun x22 =>
  if (v1 &&& (S.1 53 1)) = v1 then
  (bnd (f_J6_bitCount_0f7a4 (v1 &&& x9) S) fun r41 S41 =>
  if r41 = v2 then
  (bnd (f_J6_bitCount_0f7a4 (v1 &&& x22) S41) fun r50 S50 =>
  if r50 = v2 then
  (bnd (f_X7_sumOf 31 39 10 (v1 &&& x9) S50) fun r72 S72 =>
  bnd (f_X7_sumOf 31 39 10 (v1 &&& x22) S72) fun r88 S88 =>
  bnd (f_J9_abs_0f7a4 (r72 - r88) S88) fun r92 S92 =>
  if v3 < r92 then
  (some ((0 : Int32), S92))
  else
  (some ((1 : Int32), S92)))
  else
  (some ((0 : Int32), S50)))
  else
  (some ((0 : Int32), S41)))
  else
  (some ((0 : Int32), S))

set_option maxHeartbeats 4000000 in
set_option maxRecDepth 100000 in
theorem c_X9_canBeExchanged {v1 : Int32} {v2 : Int32} {v3 : Int32} {S : Mem} {r : Int32} {Sf : Mem} (h : f_X9_canBeExchanged v1 v2 v3 S = some (r, Sf)) : MetI yX9_canBeExchanged cX9_canBeExchanged 6 (some .boolean) 1 [.ref 0, .int v1, .int v2, .int v3] SKC S r Sf := by
  refine MetI.intro (by decide +kernel) (Nat.le_of_ble_eq_true rfl) (fun X loc hX hQ => ?_)
  unfold f_X9_canBeExchanged at h
  show AW X SKC loc 0 0 0 [(0, .ref 0), (1, .int v1), (2, .int v2), (3, .int v3)] [] S
  refine aw_iload_n (pc := 0) hX dX9_canBeExchanged_0 rfl 1 rfl ?_
  refine aw_aload_n (pc := 1) hX dX9_canBeExchanged_1 rfl 0 rfl ?_
  refine gf_X9_28 (pc := 2) hX kc0 rfl dX9_canBeExchanged_2 ?_
  refine gf_X9_341 (pc := 5) hX isT31.1 rfl dX9_canBeExchanged_5 ?_
  refine aw_iconst (v := (0 : Int32)) (pc := 8) hX dX9_canBeExchanged_8 (by decide) ?_
  obtain ⟨x9, hx9, h⟩ := ob h
  refine aw_iald (pc := 9) hX kc40 hx9 dX9_canBeExchanged_9 ?_
  refine aw_iand (pc := 10) hX dX9_canBeExchanged_10 ?_
  refine aw_istore (ls' := [(4, .int (v1 &&& x9)), (0, .ref 0), (1, .int v1), (2, .int v2), (3, .int v3)]) (pc := 11) hX dX9_canBeExchanged_11 (by decide) rfl ?_
  refine aw_iload_n (pc := 13) hX dX9_canBeExchanged_13 rfl 2 rfl ?_
  refine aw_aload_n (pc := 14) hX dX9_canBeExchanged_14 rfl 1 rfl ?_
  refine gf_X9_28 (pc := 15) hX kc0 rfl dX9_canBeExchanged_15 ?_
  refine gf_X9_341 (pc := 18) hX isT31.1 rfl dX9_canBeExchanged_18 ?_
  refine aw_iconst (v := (1 : Int32)) (pc := 21) hX dX9_canBeExchanged_21 (by decide) ?_
  obtain ⟨x22, hx22, h⟩ := ob h
  refine aw_iald (pc := 22) hX kc40 hx22 dX9_canBeExchanged_22 ?_
  refine aw_iand (pc := 23) hX dX9_canBeExchanged_23 ?_
  refine aw_istore (ls' := [(5, .int (v1 &&& x22)), (4, .int (v1 &&& x9)), (0, .ref 0), (1, .int v1), (2, .int v2), (3, .int v3)]) (pc := 24) hX dX9_canBeExchanged_24 (by decide) rfl ?_
  refine aw_iload_n (pc := 26) hX dX9_canBeExchanged_26 rfl 3 rfl ?_
  refine aw_aload_n (pc := 27) hX dX9_canBeExchanged_27 rfl 2 rfl ?_
  refine gf_X9_37 (pc := 28) hX kc0 rfl dX9_canBeExchanged_28 ?_
  refine gf_X9_332 (pc := 31) hX isW53.1 rfl dX9_canBeExchanged_31 ?_
  refine aw_iand (pc := 34) hX dX9_canBeExchanged_34 ?_
  refine aw_iload_n (pc := 35) hX dX9_canBeExchanged_35 rfl 3 rfl ?_
  refine aw_icmp_ne (pc := 36) hX (tgt := 57) dX9_canBeExchanged_36 (by decide) (fun c36 => ?_) (fun c36 => ?_)
  · rw [if_neg c36] at h
    refine aw_iconst (v := (0 : Int32)) (pc := 57) hX dX9_canBeExchanged_57 (by decide) ?_
    cases h
    exact aw_zret hX hQ (by decide) dX9_canBeExchanged_58
  · rw [if_pos c36] at h
    refine aw_iload (pc := 39) hX dX9_canBeExchanged_39 1 rfl ?_
    obtain ⟨r41, S41, hr41, h⟩ := ob2 h
    refine aw_cSI (pc := 41) (As := [.int (v1 &&& x9)]) (rest := []) hX (c_J6_bitCount_0f7a4 (sk := SKC) hr41) ok_J6_bitCount_0f7a4 kw_4_126 st_J6_bitCount_0f7a4 rfl (by decide) (Nat.le_of_ble_eq_true rfl) rfl dX9_canBeExchanged_41 (Nat.le_refl 0) (Nat.le_refl 0) ?_
    refine aw_iload_n (pc := 44) hX dX9_canBeExchanged_44 rfl 4 rfl ?_
    refine aw_icmp_ne (pc := 45) hX (tgt := 57) dX9_canBeExchanged_45 (by decide) (fun c45 => ?_) (fun c45 => ?_)
    · rw [if_neg c45] at h
      refine aw_iconst (v := (0 : Int32)) (pc := 57) hX dX9_canBeExchanged_57 (by decide) ?_
      cases h
      exact aw_zret hX hQ (by decide) dX9_canBeExchanged_58
    · rw [if_pos c45] at h
      refine aw_iload (pc := 48) hX dX9_canBeExchanged_48 0 rfl ?_
      obtain ⟨r50, S50, hr50, h⟩ := ob2 h
      refine aw_cSI (pc := 50) (As := [.int (v1 &&& x22)]) (rest := []) hX (c_J6_bitCount_0f7a4 (sk := SKC) hr50) ok_J6_bitCount_0f7a4 kw_4_126 st_J6_bitCount_0f7a4 rfl (by decide) (Nat.le_of_ble_eq_true rfl) rfl dX9_canBeExchanged_50 (Nat.le_refl 0) (Nat.le_refl 0) ?_
      refine aw_iload_n (pc := 53) hX dX9_canBeExchanged_53 rfl 4 rfl ?_
      refine aw_icmp_eq (pc := 54) hX (tgt := 59) dX9_canBeExchanged_54 (by decide) (fun c54 => ?_) (fun c54 => ?_)
      · rw [if_pos c54] at h
        refine aw_aload_n (pc := 59) hX dX9_canBeExchanged_59 rfl 2 rfl ?_
        refine gf_X9_28 (pc := 60) hX kc0 rfl dX9_canBeExchanged_60 ?_
        refine aw_aload_n (pc := 63) hX dX9_canBeExchanged_63 rfl 2 rfl ?_
        refine gf_X9_28 (pc := 64) hX kc0 rfl dX9_canBeExchanged_64 ?_
        refine gf_X9_155 (pc := 67) hX isT31.1 rfl dX9_canBeExchanged_67 ?_
        refine aw_iload (pc := 70) hX dX9_canBeExchanged_70 1 rfl ?_
        obtain ⟨r72, S72, hr72, h⟩ := ob2 h
        refine aw_cVI (pc := 72) (As := [.ref 39, .int (v1 &&& x9)]) (rest := []) hX (c_X7_sumOf (sk := SKC) isT31 kc39 hr72) ok_X7_sumOf kw_3_194 im_X7_sumOf se_X7_sumOf rfl isT31.1 rfl (by decide) (Nat.le_of_ble_eq_true rfl) rfl dX9_canBeExchanged_72 (Nat.le_refl 0) (Nat.le_refl 0) ?_
        refine aw_aload_n (pc := 75) hX dX9_canBeExchanged_75 rfl 2 rfl ?_
        refine gf_X9_28 (pc := 76) hX kc0 rfl dX9_canBeExchanged_76 ?_
        refine aw_aload_n (pc := 79) hX dX9_canBeExchanged_79 rfl 2 rfl ?_
        refine gf_X9_28 (pc := 80) hX kc0 rfl dX9_canBeExchanged_80 ?_
        refine gf_X9_155 (pc := 83) hX isT31.1 rfl dX9_canBeExchanged_83 ?_
        refine aw_iload (pc := 86) hX dX9_canBeExchanged_86 0 rfl ?_
        obtain ⟨r88, S88, hr88, h⟩ := ob2 h
        refine aw_cVI (pc := 88) (As := [.ref 39, .int (v1 &&& x22)]) (rest := [.int r72]) hX (c_X7_sumOf (sk := SKC) isT31 kc39 hr88) ok_X7_sumOf kw_3_194 im_X7_sumOf se_X7_sumOf rfl isT31.1 rfl (by decide) (Nat.le_of_ble_eq_true rfl) rfl dX9_canBeExchanged_88 (Nat.le_refl 0) (Nat.le_refl 0) ?_
        refine aw_isub (pc := 91) hX dX9_canBeExchanged_91 ?_
        obtain ⟨r92, S92, hr92, h⟩ := ob2 h
        refine aw_cSI (pc := 92) (As := [.int (r72 - r88)]) (rest := []) hX (c_J9_abs_0f7a4 (sk := SKC) hr92) ok_J9_abs_0f7a4 kw_4_132 st_J9_abs_0f7a4 rfl (by decide) (Nat.le_of_ble_eq_true rfl) rfl dX9_canBeExchanged_92 (Nat.le_refl 0) (Nat.le_refl 0) ?_
        refine aw_iload_n (pc := 95) hX dX9_canBeExchanged_95 rfl 5 rfl ?_
        refine aw_icmp_gt (pc := 96) hX (tgt := 103) dX9_canBeExchanged_96 (by decide) (fun c96 => ?_) (fun c96 => ?_)
        · rw [if_pos c96] at h
          refine aw_iconst (v := (0 : Int32)) (pc := 103) hX dX9_canBeExchanged_103 (by decide) ?_
          cases h
          exact aw_zret hX hQ (by decide) dX9_canBeExchanged_104
        · rw [if_neg c96] at h
          refine aw_iconst (v := (1 : Int32)) (pc := 99) hX dX9_canBeExchanged_99 (by decide) ?_
          refine aw_goto (tgt := 104) (pc := 100) hX dX9_canBeExchanged_100 (by decide) ?_
          cases h
          exact aw_zret hX hQ (by decide) dX9_canBeExchanged_104
      · rw [if_neg c54] at h
        refine aw_iconst (v := (0 : Int32)) (pc := 57) hX dX9_canBeExchanged_57 (by decide) ?_
        cases h
        exact aw_zret hX hQ (by decide) dX9_canBeExchanged_58

def f_X9_best_42 : Nat → Int32 → Int32 → Int32 → Int32 → Int32 → Int32 → Mem → Option (Int32 × Mem)
  | 0, _, _, _, _, _, _, _ => none
  | n + 1, v1, v2, v3, v4, v5, v6, S =>
  if ((1 : Int32) <<< ((S.1 31 1) &&& 31)) ≤ v6 then
  (if v3 = 0 then
  (some (v4, S))
  else
  (some (v5, S)))
  else
  (bnd (f_X9_canBeExchanged v6 v1 v2 S) fun r61 S61 =>
  if r61 = 0 then
  (f_X9_best_42 n v1 v2 v3 v4 v5 (v6 + 1) S61)
  else
  (bnd (f_X7_sumOf 31 38 10 v6 S61) fun r80 S80 =>
  if r80 ≤ v5 then
  (f_X9_best_42 n v1 v2 v3 v4 v5 (v6 + 1) S80)
  else
  (f_X9_best_42 n v1 v2 v3 v6 r80 (v6 + 1) S80)))

def f_X9_best (v1 : Int32) (v2 : Int32) (v3 : Int32) (S : Mem) : Option (Int32 × Mem) :=
  if v1 < 0 then
  (some ((-1 : Int32), S))
  else
  (if (5 : Int32) < v1 then
  (some ((-1 : Int32), S))
  else
  (if v2 < 0 then
  (some ((-1 : Int32), S))
  else
  (if (999 : Int32) < v2 then
  (some ((-1 : Int32), S))
  else
  (if v3 < 0 then
  (some ((-1 : Int32), S))
  else
  (if v3 ≤ (1 : Int32) then
  (f_X9_best_42 FU v1 v2 v3 (-2 : Int32) (-2 : Int32) (0 : Int32) S)
  else
  (some ((-1 : Int32), S)))))))

set_option maxHeartbeats 4000000 in
set_option maxRecDepth 100000 in
theorem c_X9_best_42 {X : XT} {loc : Nat → Nat} {r : Int32} {Sf : Mem} (hX : AC X loc RX9 cX9_best (some .int) 8 2 0 0) (hQ : RetI X SKC loc 0 0 r Sf) : ∀ (n : Nat) (v1 : Int32) (v2 : Int32) (v3 : Int32) (v4 : Int32) (v5 : Int32) (v6 : Int32) (S : Mem), f_X9_best_42 n v1 v2 v3 v4 v5 v6 S = some (r, Sf) → AW X SKC loc 0 0 42 [(0, .ref 0), (1, .int v1), (2, .int v2), (3, .int v3), (4, .int v4), (5, .int v5), (6, .int v6)] [] S := by
  intro n
  induction n with
  | zero => intro v1 v2 v3 v4 v5 v6 S h; cases h
  | succ n ih =>
    intro v1 v2 v3 v4 v5 v6 S h
    unfold f_X9_best_42 at h
    refine aw_iload (pc := 42) hX dX9_best_42 6 rfl ?_
    refine aw_iconst (v := (1 : Int32)) (pc := 44) hX dX9_best_44 (by decide) ?_
    refine aw_aload_n (pc := 45) hX dX9_best_45 rfl 0 rfl ?_
    refine gf_X9_28 (pc := 46) hX kc0 rfl dX9_best_46 ?_
    refine gf_X9_132 (pc := 49) hX isT31.1 rfl dX9_best_49 ?_
    refine aw_ishl (pc := 52) hX dX9_best_52 ?_
    refine aw_icmp_ge (pc := 53) hX (tgt := 106) dX9_best_53 (by decide) (fun c53 => ?_) (fun c53 => ?_)
    · rw [if_pos c53] at h
      refine aw_iload_n (pc := 106) hX dX9_best_106 rfl 3 rfl ?_
      refine aw_if_ne (pc := 107) hX (tgt := 115) dX9_best_107 (by decide) (fun c107 => ?_) (fun c107 => ?_)
      · rw [if_neg c107] at h
        refine aw_iload (pc := 115) hX dX9_best_115 5 rfl ?_
        cases h
        exact aw_iret hX hQ dX9_best_117
      · rw [if_pos c107] at h
        refine aw_iload (pc := 110) hX dX9_best_110 4 rfl ?_
        refine aw_goto (tgt := 117) (pc := 112) hX dX9_best_112 (by decide) ?_
        cases h
        exact aw_iret hX hQ dX9_best_117
    · rw [if_neg c53] at h
      refine aw_aload_n (pc := 56) hX dX9_best_56 rfl 0 rfl ?_
      refine aw_iload (pc := 57) hX dX9_best_57 6 rfl ?_
      refine aw_iload_n (pc := 59) hX dX9_best_59 rfl 1 rfl ?_
      refine aw_iload_n (pc := 60) hX dX9_best_60 rfl 2 rfl ?_
      obtain ⟨r61, S61, hr61, h⟩ := ob2 h
      refine aw_cVI (pc := 61) (As := [.int v6, .int v1, .int v2]) (rest := []) hX (c_X9_canBeExchanged hr61) ok_X9_canBeExchanged kw_4_122 im_X9_canBeExchanged se_X9_canBeExchanged rfl kc0 rfl (by decide) (Nat.le_of_ble_eq_true rfl) rfl dX9_best_61 (Nat.le_refl 0) (Nat.le_refl 0) ?_
      refine aw_if_eq (pc := 64) hX (tgt := 100) dX9_best_64 (by decide) (fun c64 => ?_) (fun c64 => ?_)
      · rw [if_pos c64] at h
        refine aw_iinc (v := (v6 + 1)) (ls' := [(6, .int (v6 + 1)), (0, .ref 0), (1, .int v1), (2, .int v2), (3, .int v3), (4, .int v4), (5, .int v5)]) (pc := 100) hX dX9_best_100 (pos := 6) rfl (by first | rfl | decide) (by decide) rfl ?_
        refine aw_goto (tgt := 42) (pc := 103) hX dX9_best_103 (by decide) ?_
        refine aw_sub (ls' := [(0, .ref 0), (1, .int v1), (2, .int v2), (3, .int v3), (4, .int v4), (5, .int v5), (6, .int (v6 + 1))]) [1, 2, 3, 4, 5, 6, 0] rfl ?_
        exact ih v1 v2 v3 v4 v5 (v6 + 1) S61 h
      · rw [if_neg c64] at h
        refine aw_aload_n (pc := 67) hX dX9_best_67 rfl 0 rfl ?_
        refine gf_X9_28 (pc := 68) hX kc0 rfl dX9_best_68 ?_
        refine aw_aload_n (pc := 71) hX dX9_best_71 rfl 0 rfl ?_
        refine gf_X9_28 (pc := 72) hX kc0 rfl dX9_best_72 ?_
        refine gf_X9_152 (pc := 75) hX isT31.1 rfl dX9_best_75 ?_
        refine aw_iload (pc := 78) hX dX9_best_78 6 rfl ?_
        obtain ⟨r80, S80, hr80, h⟩ := ob2 h
        refine aw_cVI (pc := 80) (As := [.ref 38, .int v6]) (rest := []) hX (c_X7_sumOf (sk := SKC) isT31 kc38 hr80) ok_X7_sumOf kw_3_194 im_X7_sumOf se_X7_sumOf rfl isT31.1 rfl (by decide) (Nat.le_of_ble_eq_true rfl) rfl dX9_best_80 (Nat.le_refl 0) (Nat.le_refl 0) ?_
        refine aw_istore (ls' := [(7, .int r80), (0, .ref 0), (1, .int v1), (2, .int v2), (3, .int v3), (4, .int v4), (5, .int v5), (6, .int v6)]) (pc := 83) hX dX9_best_83 (by decide) rfl ?_
        refine aw_iload (pc := 85) hX dX9_best_85 0 rfl ?_
        refine aw_iload (pc := 87) hX dX9_best_87 6 rfl ?_
        refine aw_icmp_le (pc := 89) hX (tgt := 100) dX9_best_89 (by decide) (fun c89 => ?_) (fun c89 => ?_)
        · rw [if_pos c89] at h
          refine aw_iinc (v := (v6 + 1)) (ls' := [(6, .int (v6 + 1)), (7, .int r80), (0, .ref 0), (1, .int v1), (2, .int v2), (3, .int v3), (4, .int v4), (5, .int v5)]) (pc := 100) hX dX9_best_100 (pos := 7) rfl (by first | rfl | decide) (by decide) rfl ?_
          refine aw_goto (tgt := 42) (pc := 103) hX dX9_best_103 (by decide) ?_
          refine aw_sub (ls' := [(0, .ref 0), (1, .int v1), (2, .int v2), (3, .int v3), (4, .int v4), (5, .int v5), (6, .int (v6 + 1))]) [2, 3, 4, 5, 6, 7, 0] rfl ?_
          exact ih v1 v2 v3 v4 v5 (v6 + 1) S80 h
        · rw [if_neg c89] at h
          refine aw_iload (pc := 92) hX dX9_best_92 0 rfl ?_
          refine aw_istore (ls' := [(5, .int r80), (7, .int r80), (0, .ref 0), (1, .int v1), (2, .int v2), (3, .int v3), (4, .int v4), (6, .int v6)]) (pc := 94) hX dX9_best_94 (by decide) rfl ?_
          refine aw_iload (pc := 96) hX dX9_best_96 7 rfl ?_
          refine aw_istore (ls' := [(4, .int v6), (5, .int r80), (7, .int r80), (0, .ref 0), (1, .int v1), (2, .int v2), (3, .int v3), (6, .int v6)]) (pc := 98) hX dX9_best_98 (by decide) rfl ?_
          refine aw_iinc (v := (v6 + 1)) (ls' := [(6, .int (v6 + 1)), (4, .int v6), (5, .int r80), (7, .int r80), (0, .ref 0), (1, .int v1), (2, .int v2), (3, .int v3)]) (pc := 100) hX dX9_best_100 (pos := 7) rfl (by first | rfl | decide) (by decide) rfl ?_
          refine aw_goto (tgt := 42) (pc := 103) hX dX9_best_103 (by decide) ?_
          refine aw_sub (ls' := [(0, .ref 0), (1, .int v1), (2, .int v2), (3, .int v3), (4, .int v6), (5, .int r80), (6, .int (v6 + 1))]) [4, 5, 6, 7, 1, 2, 0] rfl ?_
          exact ih v1 v2 v3 v6 r80 (v6 + 1) S80 h

set_option maxHeartbeats 4000000 in
set_option maxRecDepth 100000 in
theorem c_X9_best {v1 : Int32} {v2 : Int32} {v3 : Int32} {S : Mem} {r : Int32} {Sf : Mem} (h : f_X9_best v1 v2 v3 S = some (r, Sf)) : MetI yX9_best cX9_best 8 (some .int) 2 [.ref 0, .int v1, .int v2, .int v3] SKC S r Sf := by
  refine MetI.intro (by decide +kernel) (Nat.le_of_ble_eq_true rfl) (fun X loc hX hQ => ?_)
  unfold f_X9_best at h
  show AW X SKC loc 0 0 0 [(0, .ref 0), (1, .int v1), (2, .int v2), (3, .int v3)] [] S
  refine aw_iload_n (pc := 0) hX dX9_best_0 rfl 1 rfl ?_
  refine aw_if_lt (pc := 1) hX (tgt := 29) dX9_best_1 (by decide) (fun c1 => ?_) (fun c1 => ?_)
  · rw [if_pos c1] at h
    refine aw_iconst (v := (-1 : Int32)) (pc := 29) hX dX9_best_29 (by decide) ?_
    cases h
    exact aw_iret hX hQ dX9_best_30
  · rw [if_neg c1] at h
    refine aw_iload_n (pc := 4) hX dX9_best_4 rfl 1 rfl ?_
    refine aw_iconst (v := (5 : Int32)) (pc := 5) hX dX9_best_5 (by decide) ?_
    refine aw_icmp_gt (pc := 6) hX (tgt := 29) dX9_best_6 (by decide) (fun c6 => ?_) (fun c6 => ?_)
    · rw [if_pos c6] at h
      refine aw_iconst (v := (-1 : Int32)) (pc := 29) hX dX9_best_29 (by decide) ?_
      cases h
      exact aw_iret hX hQ dX9_best_30
    · rw [if_neg c6] at h
      refine aw_iload_n (pc := 9) hX dX9_best_9 rfl 2 rfl ?_
      refine aw_if_lt (pc := 10) hX (tgt := 29) dX9_best_10 (by decide) (fun c10 => ?_) (fun c10 => ?_)
      · rw [if_pos c10] at h
        refine aw_iconst (v := (-1 : Int32)) (pc := 29) hX dX9_best_29 (by decide) ?_
        cases h
        exact aw_iret hX hQ dX9_best_30
      · rw [if_neg c10] at h
        refine aw_iload_n (pc := 13) hX dX9_best_13 rfl 2 rfl ?_
        refine aw_sipush (v := (999 : Int32)) (pc := 14) hX dX9_best_14 (by decide) ?_
        refine aw_icmp_gt (pc := 17) hX (tgt := 29) dX9_best_17 (by decide) (fun c17 => ?_) (fun c17 => ?_)
        · rw [if_pos c17] at h
          refine aw_iconst (v := (-1 : Int32)) (pc := 29) hX dX9_best_29 (by decide) ?_
          cases h
          exact aw_iret hX hQ dX9_best_30
        · rw [if_neg c17] at h
          refine aw_iload_n (pc := 20) hX dX9_best_20 rfl 3 rfl ?_
          refine aw_if_lt (pc := 21) hX (tgt := 29) dX9_best_21 (by decide) (fun c21 => ?_) (fun c21 => ?_)
          · rw [if_pos c21] at h
            refine aw_iconst (v := (-1 : Int32)) (pc := 29) hX dX9_best_29 (by decide) ?_
            cases h
            exact aw_iret hX hQ dX9_best_30
          · rw [if_neg c21] at h
            refine aw_iload_n (pc := 24) hX dX9_best_24 rfl 3 rfl ?_
            refine aw_iconst (v := (1 : Int32)) (pc := 25) hX dX9_best_25 (by decide) ?_
            refine aw_icmp_le (pc := 26) hX (tgt := 31) dX9_best_26 (by decide) (fun c26 => ?_) (fun c26 => ?_)
            · rw [if_pos c26] at h
              refine aw_bipush (v := (-2 : Int32)) (pc := 31) hX dX9_best_31 (by decide) ?_
              refine aw_istore (ls' := [(4, .int (-2 : Int32)), (0, .ref 0), (1, .int v1), (2, .int v2), (3, .int v3)]) (pc := 33) hX dX9_best_33 (by decide) rfl ?_
              refine aw_bipush (v := (-2 : Int32)) (pc := 35) hX dX9_best_35 (by decide) ?_
              refine aw_istore (ls' := [(5, .int (-2 : Int32)), (4, .int (-2 : Int32)), (0, .ref 0), (1, .int v1), (2, .int v2), (3, .int v3)]) (pc := 37) hX dX9_best_37 (by decide) rfl ?_
              refine aw_iconst (v := (0 : Int32)) (pc := 39) hX dX9_best_39 (by decide) ?_
              refine aw_istore (ls' := [(6, .int (0 : Int32)), (5, .int (-2 : Int32)), (4, .int (-2 : Int32)), (0, .ref 0), (1, .int v1), (2, .int v2), (3, .int v3)]) (pc := 40) hX dX9_best_40 (by decide) rfl ?_
              refine aw_sub (ls' := [(0, .ref 0), (1, .int v1), (2, .int v2), (3, .int v3), (4, .int (-2 : Int32)), (5, .int (-2 : Int32)), (6, .int (0 : Int32))]) [3, 4, 5, 6, 2, 1, 0] rfl ?_
              exact c_X9_best_42 hX hQ FU v1 v2 v3 (-2 : Int32) (-2 : Int32) (0 : Int32) S h
            · rw [if_neg c26] at h
              refine aw_iconst (v := (-1 : Int32)) (pc := 29) hX dX9_best_29 (by decide) ?_
              cases h
              exact aw_iret hX hQ dX9_best_30

def f_X9_isNurse (v1 : Int32) (S : Mem) : Option (Int32 × Mem) :=
  if v1 < 0 then
  (some ((0 : Int32), S))
  else
  (if (S.1 31 0) ≤ v1 then
  (some ((0 : Int32), S))
  else
  (some ((1 : Int32), S)))

set_option maxHeartbeats 4000000 in
set_option maxRecDepth 100000 in
theorem c_X9_isNurse {v1 : Int32} {S : Mem} {r : Int32} {Sf : Mem} (h : f_X9_isNurse v1 S = some (r, Sf)) : MetI yX9_isNurse cX9_isNurse 2 (some .boolean) 0 [.ref 0, .int v1] SKC S r Sf := by
  refine MetI.intro (by decide +kernel) (Nat.le_of_ble_eq_true rfl) (fun X loc hX hQ => ?_)
  unfold f_X9_isNurse at h
  show AW X SKC loc 0 0 0 [(0, .ref 0), (1, .int v1)] [] S
  refine aw_iload_n (pc := 0) hX dX9_isNurse_0 rfl 1 rfl ?_
  refine aw_if_lt (pc := 1) hX (tgt := 19) dX9_isNurse_1 (by decide) (fun c1 => ?_) (fun c1 => ?_)
  · rw [if_pos c1] at h
    refine aw_iconst (v := (0 : Int32)) (pc := 19) hX dX9_isNurse_19 (by decide) ?_
    cases h
    exact aw_zret hX hQ (by decide) dX9_isNurse_20
  · rw [if_neg c1] at h
    refine aw_iload_n (pc := 4) hX dX9_isNurse_4 rfl 1 rfl ?_
    refine aw_aload_n (pc := 5) hX dX9_isNurse_5 rfl 0 rfl ?_
    refine gf_X9_28 (pc := 6) hX kc0 rfl dX9_isNurse_6 ?_
    refine gf_X9_122 (pc := 9) hX isT31.1 rfl dX9_isNurse_9 ?_
    refine aw_icmp_ge (pc := 12) hX (tgt := 19) dX9_isNurse_12 (by decide) (fun c12 => ?_) (fun c12 => ?_)
    · rw [if_pos c12] at h
      refine aw_iconst (v := (0 : Int32)) (pc := 19) hX dX9_isNurse_19 (by decide) ?_
      cases h
      exact aw_zret hX hQ (by decide) dX9_isNurse_20
    · rw [if_neg c12] at h
      refine aw_iconst (v := (1 : Int32)) (pc := 15) hX dX9_isNurse_15 (by decide) ?_
      refine aw_goto (tgt := 20) (pc := 16) hX dX9_isNurse_16 (by decide) ?_
      cases h
      exact aw_zret hX hQ (by decide) dX9_isNurse_20

def f_X9_cares_21 : Nat → Int32 → Int32 → Int32 → Mem → Option (Int32 × Mem)
  | 0, _, _, _, _ => none
  | n + 1, v1, v2, v3, S =>
  if (9 : Int32) < v3 then
  (some (v2, S))
  else
  ((f_X8_begin 69 S).bind fun S31 =>
  (wr S31 73 6 v1 v3).bind fun S43 =>
  bnd (f_X2_areSoIn 69 S43) fun r52 S52 =>
  if r52 = 0 then
  (f_X9_cares_21 n v1 v2 (v3 + 1) S52)
  else
  (f_X9_cares_21 n v1 (v2 ||| ((1 : Int32) <<< (v3 &&& 31))) (v3 + 1) S52))

def f_X9_cares (v1 : Int32) (S : Mem) : Option (Int32 × Mem) :=
  bnd (f_X9_isNurse v1 S) fun r2 S2 =>
  if r2 = 0 then
  (some ((-1 : Int32), S2))
  else
  ((f_X2_strike S2).bind fun S14 =>
  f_X9_cares_21 FU v1 (0 : Int32) (0 : Int32) S14)

set_option maxHeartbeats 4000000 in
set_option maxRecDepth 100000 in
theorem c_X9_cares_21 {X : XT} {loc : Nat → Nat} {r : Int32} {Sf : Mem} (hX : AC X loc RX9 cX9_cares (some .int) 4 7 0 0) (hQ : RetI X SKC loc 0 0 r Sf) : ∀ (n : Nat) (v1 : Int32) (v2 : Int32) (v3 : Int32) (S : Mem), f_X9_cares_21 n v1 v2 v3 S = some (r, Sf) → AW X SKC loc 0 0 21 [(0, .ref 0), (1, .int v1), (2, .int v2), (3, .int v3)] [] S := by
  intro n
  induction n with
  | zero => intro v1 v2 v3 S h; cases h
  | succ n ih =>
    intro v1 v2 v3 S h
    unfold f_X9_cares_21 at h
    refine aw_iload_n (pc := 21) hX dX9_cares_21 rfl 3 rfl ?_
    refine aw_bipush (v := (9 : Int32)) (pc := 22) hX dX9_cares_22 (by decide) ?_
    refine aw_icmp_gt (pc := 24) hX (tgt := 70) dX9_cares_24 (by decide) (fun c24 => ?_) (fun c24 => ?_)
    · rw [if_pos c24] at h
      refine aw_iload_n (pc := 70) hX dX9_cares_70 rfl 2 rfl ?_
      cases h
      exact aw_iret hX hQ dX9_cares_71
    · rw [if_neg c24] at h
      refine aw_aload_n (pc := 27) hX dX9_cares_27 rfl 0 rfl ?_
      refine gf_X9_44 (pc := 28) hX kc0 rfl dX9_cares_28 ?_
      obtain ⟨S31, hr31, h⟩ := ob h
      refine aw_cVV (pc := 31) (As := []) (rest := []) hX (c_X8_begin (sk := SKC) isW69 isT31 hr31) ok_X8_begin kw_2_140 im_X8_begin se_X8_begin rfl isW69.1 rfl (by decide) (Nat.le_of_ble_eq_true rfl) rfl dX9_cares_31 (Nat.le_refl 0) (Nat.le_refl 0) ?_
      refine aw_aload_n (pc := 34) hX dX9_cares_34 rfl 0 rfl ?_
      refine gf_X9_44 (pc := 35) hX kc0 rfl dX9_cares_35 ?_
      refine gf_X9_308 (pc := 38) hX isW69.1 rfl dX9_cares_38 ?_
      refine aw_iload_n (pc := 41) hX dX9_cares_41 rfl 1 rfl ?_
      refine aw_iload_n (pc := 42) hX dX9_cares_42 rfl 3 rfl ?_
      obtain ⟨S43, hS43, h⟩ := ob h
      refine aw_iast (pc := 43) hX kc73 hS43 dX9_cares_43 ?_
      refine aw_aload_n (pc := 44) hX dX9_cares_44 rfl 0 rfl ?_
      refine gf_X9_50 (pc := 45) hX kc0 rfl dX9_cares_45 ?_
      refine aw_aload_n (pc := 48) hX dX9_cares_48 rfl 0 rfl ?_
      refine gf_X9_44 (pc := 49) hX kc0 rfl dX9_cares_49 ?_
      obtain ⟨r52, S52, hr52, h⟩ := ob2 h
      refine aw_cVI (pc := 52) (As := [.ref 69]) (rest := []) hX (c_X2_areSoIn isW69 hr52) ok_X2_areSoIn kw_5_8 im_X2_areSoIn se_X2_areSoIn rfl kc77 rfl (by decide) (Nat.le_of_ble_eq_true rfl) rfl dX9_cares_52 (Nat.le_refl 0) (Nat.le_refl 0) ?_
      refine aw_if_eq (pc := 55) hX (tgt := 64) dX9_cares_55 (by decide) (fun c55 => ?_) (fun c55 => ?_)
      · rw [if_pos c55] at h
        refine aw_iinc (v := (v3 + 1)) (ls' := [(3, .int (v3 + 1)), (0, .ref 0), (1, .int v1), (2, .int v2)]) (pc := 64) hX dX9_cares_64 (pos := 3) rfl (by first | rfl | decide) (by decide) rfl ?_
        refine aw_goto (tgt := 21) (pc := 67) hX dX9_cares_67 (by decide) ?_
        refine aw_sub (ls' := [(0, .ref 0), (1, .int v1), (2, .int v2), (3, .int (v3 + 1))]) [1, 2, 3, 0] rfl ?_
        exact ih v1 v2 (v3 + 1) S52 h
      · rw [if_neg c55] at h
        refine aw_iload_n (pc := 58) hX dX9_cares_58 rfl 2 rfl ?_
        refine aw_iconst (v := (1 : Int32)) (pc := 59) hX dX9_cares_59 (by decide) ?_
        refine aw_iload_n (pc := 60) hX dX9_cares_60 rfl 3 rfl ?_
        refine aw_ishl (pc := 61) hX dX9_cares_61 ?_
        refine aw_ior (pc := 62) hX dX9_cares_62 ?_
        refine aw_istore_n (ls' := [(2, .int (v2 ||| ((1 : Int32) <<< (v3 &&& 31)))), (0, .ref 0), (1, .int v1), (3, .int v3)]) (pc := 63) hX dX9_cares_63 rfl (by decide) rfl ?_
        refine aw_iinc (v := (v3 + 1)) (ls' := [(3, .int (v3 + 1)), (2, .int (v2 ||| ((1 : Int32) <<< (v3 &&& 31)))), (0, .ref 0), (1, .int v1)]) (pc := 64) hX dX9_cares_64 (pos := 3) rfl (by first | rfl | decide) (by decide) rfl ?_
        refine aw_goto (tgt := 21) (pc := 67) hX dX9_cares_67 (by decide) ?_
        refine aw_sub (ls' := [(0, .ref 0), (1, .int v1), (2, .int (v2 ||| ((1 : Int32) <<< (v3 &&& 31)))), (3, .int (v3 + 1))]) [2, 3, 1, 0] rfl ?_
        exact ih v1 (v2 ||| ((1 : Int32) <<< (v3 &&& 31))) (v3 + 1) S52 h

set_option maxHeartbeats 4000000 in
set_option maxRecDepth 100000 in
theorem c_X9_cares {v1 : Int32} {S : Mem} {r : Int32} {Sf : Mem} (h : f_X9_cares v1 S = some (r, Sf)) : MetI yX9_cares cX9_cares 4 (some .int) 7 [.ref 0, .int v1] SKC S r Sf := by
  refine MetI.intro (by decide +kernel) (Nat.le_of_ble_eq_true rfl) (fun X loc hX hQ => ?_)
  unfold f_X9_cares at h
  show AW X SKC loc 0 0 0 [(0, .ref 0), (1, .int v1)] [] S
  refine aw_aload_n (pc := 0) hX dX9_cares_0 rfl 0 rfl ?_
  refine aw_iload_n (pc := 1) hX dX9_cares_1 rfl 1 rfl ?_
  obtain ⟨r2, S2, hr2, h⟩ := ob2 h
  refine aw_cVI (pc := 2) (As := [.int v1]) (rest := []) hX (c_X9_isNurse hr2) ok_X9_isNurse kw_3_167 im_X9_isNurse se_X9_isNurse rfl kc0 rfl (by decide) (Nat.le_of_ble_eq_true rfl) rfl dX9_cares_2 (Nat.le_refl 0) (Nat.le_refl 0) ?_
  refine aw_if_ne (pc := 5) hX (tgt := 10) dX9_cares_5 (by decide) (fun c5 => ?_) (fun c5 => ?_)
  · rw [if_neg c5] at h
    refine aw_aload_n (pc := 10) hX dX9_cares_10 rfl 0 rfl ?_
    refine gf_X9_50 (pc := 11) hX kc0 rfl dX9_cares_11 ?_
    obtain ⟨S14, hr14, h⟩ := ob h
    refine aw_cVV (pc := 14) (As := []) (rest := []) hX (c_X2_strike hr14) ok_X2_strike kw_5_0 im_X2_strike se_X2_strike rfl kc77 rfl (by decide) (Nat.le_of_ble_eq_true rfl) rfl dX9_cares_14 (Nat.le_refl 0) (Nat.le_refl 0) ?_
    refine aw_iconst (v := (0 : Int32)) (pc := 17) hX dX9_cares_17 (by decide) ?_
    refine aw_istore_n (ls' := [(2, .int (0 : Int32)), (0, .ref 0), (1, .int v1)]) (pc := 18) hX dX9_cares_18 rfl (by decide) rfl ?_
    refine aw_iconst (v := (0 : Int32)) (pc := 19) hX dX9_cares_19 (by decide) ?_
    refine aw_istore_n (ls' := [(3, .int (0 : Int32)), (2, .int (0 : Int32)), (0, .ref 0), (1, .int v1)]) (pc := 20) hX dX9_cares_20 rfl (by decide) rfl ?_
    refine aw_sub (ls' := [(0, .ref 0), (1, .int v1), (2, .int (0 : Int32)), (3, .int (0 : Int32))]) [2, 3, 1, 0] rfl ?_
    exact c_X9_cares_21 hX hQ FU v1 (0 : Int32) (0 : Int32) S14 h
  · rw [if_pos c5] at h
    refine aw_iconst (v := (-1 : Int32)) (pc := 8) hX dX9_cares_8 (by decide) ?_
    cases h
    exact aw_iret hX hQ dX9_cares_9

def f_X9_chance_37 : Nat → Int32 → Int32 → Int32 → Int64 → Int32 → Mem → Option (Int32 × Mem)
  | 0, _, _, _, _, _, _ => none
  | n + 1, v2, v3, v4, v5, v7, S =>
  if (10 : Int32) ≤ v7 then
  (some (v4, S))
  else
  ((f_X8_take 69 53 S).bind fun S52 =>
  nxt (sL S52 69 3 v5) fun S61 =>
  (f_X8_run 69 v2 (1 : Int32) S61).bind fun S70 =>
  bnd (f_X8_breachesOfBoth 69 S70) fun r86 S86 =>
  bnd (f_X8_breachesOfBoth 53 S86) fun r93 S93 =>
  if (r86 - r93) < v3 then
  (f_X9_chance_37 n v2 v3 v4 (S70.2 69 3) (v7 + 1) S93)
  else
  (f_X9_chance_37 n v2 v3 (v4 + 1) (S70.2 69 3) (v7 + 1) S93))

def f_X9_chance (v1 : Int32) (v2 : Int32) (v3 : Int32) (S : Mem) : Option (Int32 × Mem) :=
  if v1 < 0 then
  (some ((-1 : Int32), S))
  else
  (if v2 < (1 : Int32) then
  (some ((-1 : Int32), S))
  else
  (if (60 : Int32) < v2 then
  (some ((-1 : Int32), S))
  else
  (if v3 < 0 then
  (some ((-1 : Int32), S))
  else
  (if v3 ≤ (99 : Int32) then
  (f_X9_chance_37 FU v2 v3 (0 : Int32) ((v1).toInt64) (0 : Int32) S)
  else
  (some ((-1 : Int32), S))))))

set_option maxHeartbeats 4000000 in
set_option maxRecDepth 100000 in
theorem c_X9_chance_37 {X : XT} {loc : Nat → Nat} {r : Int32} {Sf : Mem} (hX : AC X loc RX9 cX9_chance (some .int) 8 6 0 0) (hQ : RetI X SKC loc 0 0 r Sf) : ∀ (n : Nat) (v2 : Int32) (v3 : Int32) (v4 : Int32) (v5 : Int64) (v7 : Int32) (S : Mem), f_X9_chance_37 n v2 v3 v4 v5 v7 S = some (r, Sf) → AW X SKC loc 0 0 37 [(0, .ref 0), (2, .int v2), (3, .int v3), (4, .int v4), (5, .long v5), (7, .int v7)] [] S := by
  intro n
  induction n with
  | zero => intro v2 v3 v4 v5 v7 S h; cases h
  | succ n ih =>
    intro v2 v3 v4 v5 v7 S h
    unfold f_X9_chance_37 at h
    refine aw_iload (pc := 37) hX dX9_chance_37 5 rfl ?_
    refine aw_bipush (v := (10 : Int32)) (pc := 39) hX dX9_chance_39 (by decide) ?_
    refine aw_icmp_ge (pc := 41) hX (tgt := 110) dX9_chance_41 (by decide) (fun c41 => ?_) (fun c41 => ?_)
    · rw [if_pos c41] at h
      refine aw_iload (pc := 110) hX dX9_chance_110 3 rfl ?_
      cases h
      exact aw_iret hX hQ dX9_chance_112
    · rw [if_neg c41] at h
      refine aw_aload_n (pc := 44) hX dX9_chance_44 rfl 0 rfl ?_
      refine gf_X9_44 (pc := 45) hX kc0 rfl dX9_chance_45 ?_
      refine aw_aload_n (pc := 48) hX dX9_chance_48 rfl 0 rfl ?_
      refine gf_X9_37 (pc := 49) hX kc0 rfl dX9_chance_49 ?_
      obtain ⟨S52, hr52, h⟩ := ob h
      refine aw_cVV (pc := 52) (As := [.ref 53]) (rest := []) hX (c_X8_take (sk := SKC) isW69 isT31 isW53 hr52) ok_X8_take kw_4_98 im_X8_take se_X8_take rfl isW69.1 rfl (by decide) (Nat.le_of_ble_eq_true rfl) rfl dX9_chance_52 (Nat.le_refl 0) (Nat.le_refl 0) ?_
      refine aw_aload_n (pc := 55) hX dX9_chance_55 rfl 0 rfl ?_
      refine gf_X9_44 (pc := 56) hX kc0 rfl dX9_chance_56 ?_
      refine aw_lload (pc := 59) hX dX9_chance_59 4 rfl ?_
      refine pf_X9_315 (pc := 61) hX isW69.1 rfl dX9_chance_61 ?_
      obtain ⟨S61, eS61, h⟩ := on h
      refine aw_S eS61 ?_
      refine aw_aload_n (pc := 64) hX dX9_chance_64 rfl 0 rfl ?_
      refine gf_X9_44 (pc := 65) hX kc0 rfl dX9_chance_65 ?_
      refine aw_iload_n (pc := 68) hX dX9_chance_68 rfl 1 rfl ?_
      refine aw_iconst (v := (1 : Int32)) (pc := 69) hX dX9_chance_69 (by decide) ?_
      obtain ⟨S70, hr70, h⟩ := ob h
      refine aw_cVV (pc := 70) (As := [.int v2, .int (1 : Int32)]) (rest := []) hX (c_X8_run (sk := SKC) isW69 isT31 hr70) ok_X8_run kw_4_49 im_X8_run se_X8_run rfl isW69.1 rfl (by decide) (Nat.le_of_ble_eq_true rfl) rfl dX9_chance_70 (Nat.le_refl 0) (Nat.le_refl 0) ?_
      refine aw_aload_n (pc := 73) hX dX9_chance_73 rfl 0 rfl ?_
      refine gf_X9_44 (pc := 74) hX kc0 rfl dX9_chance_74 ?_
      refine gf_X9_315 (pc := 77) hX isW69.1 rfl dX9_chance_77 ?_
      refine aw_lstore (ls' := [(5, .long (S70.2 69 3)), (0, .ref 0), (2, .int v2), (3, .int v3), (4, .int v4), (7, .int v7)]) (pc := 80) hX dX9_chance_80 (by decide) rfl ?_
      refine aw_aload_n (pc := 82) hX dX9_chance_82 rfl 1 rfl ?_
      refine gf_X9_44 (pc := 83) hX kc0 rfl dX9_chance_83 ?_
      obtain ⟨r86, S86, hr86, h⟩ := ob2 h
      refine aw_cVI (pc := 86) (As := []) (rest := []) hX (c_X8_breachesOfBoth (sk := SKC) isW69 isT31 hr86) ok_X8_breachesOfBoth kw_4_102 im_X8_breachesOfBoth se_X8_breachesOfBoth rfl isW69.1 rfl (by decide) (Nat.le_of_ble_eq_true rfl) rfl dX9_chance_86 (Nat.le_refl 0) (Nat.le_refl 0) ?_
      refine aw_aload_n (pc := 89) hX dX9_chance_89 rfl 1 rfl ?_
      refine gf_X9_37 (pc := 90) hX kc0 rfl dX9_chance_90 ?_
      obtain ⟨r93, S93, hr93, h⟩ := ob2 h
      refine aw_cVI (pc := 93) (As := []) (rest := [.int r86]) hX (c_X8_breachesOfBoth (sk := SKC) isW53 isT31 hr93) ok_X8_breachesOfBoth kw_4_102 im_X8_breachesOfBoth se_X8_breachesOfBoth rfl isW53.1 rfl (by decide) (Nat.le_of_ble_eq_true rfl) rfl dX9_chance_93 (Nat.le_refl 0) (Nat.le_refl 0) ?_
      refine aw_isub (pc := 96) hX dX9_chance_96 ?_
      refine aw_iload_n (pc := 97) hX dX9_chance_97 rfl 3 rfl ?_
      refine aw_icmp_lt (pc := 98) hX (tgt := 104) dX9_chance_98 (by decide) (fun c98 => ?_) (fun c98 => ?_)
      · rw [if_pos c98] at h
        refine aw_iinc (v := (v7 + 1)) (ls' := [(7, .int (v7 + 1)), (5, .long (S70.2 69 3)), (0, .ref 0), (2, .int v2), (3, .int v3), (4, .int v4)]) (pc := 104) hX dX9_chance_104 (pos := 5) rfl (by first | rfl | decide) (by decide) rfl ?_
        refine aw_goto (tgt := 37) (pc := 107) hX dX9_chance_107 (by decide) ?_
        refine aw_sub (ls' := [(0, .ref 0), (2, .int v2), (3, .int v3), (4, .int v4), (5, .long (S70.2 69 3)), (7, .int (v7 + 1))]) [2, 3, 4, 5, 1, 0] rfl ?_
        exact ih v2 v3 v4 (S70.2 69 3) (v7 + 1) S93 h
      · rw [if_neg c98] at h
        refine aw_iinc (v := (v4 + 1)) (ls' := [(4, .int (v4 + 1)), (5, .long (S70.2 69 3)), (0, .ref 0), (2, .int v2), (3, .int v3), (7, .int v7)]) (pc := 101) hX dX9_chance_101 (pos := 4) rfl (by first | rfl | decide) (by decide) rfl ?_
        refine aw_iinc (v := (v7 + 1)) (ls' := [(7, .int (v7 + 1)), (4, .int (v4 + 1)), (5, .long (S70.2 69 3)), (0, .ref 0), (2, .int v2), (3, .int v3)]) (pc := 104) hX dX9_chance_104 (pos := 5) rfl (by first | rfl | decide) (by decide) rfl ?_
        refine aw_goto (tgt := 37) (pc := 107) hX dX9_chance_107 (by decide) ?_
        refine aw_sub (ls' := [(0, .ref 0), (2, .int v2), (3, .int v3), (4, .int (v4 + 1)), (5, .long (S70.2 69 3)), (7, .int (v7 + 1))]) [3, 4, 5, 1, 2, 0] rfl ?_
        exact ih v2 v3 (v4 + 1) (S70.2 69 3) (v7 + 1) S93 h

set_option maxHeartbeats 4000000 in
set_option maxRecDepth 100000 in
theorem c_X9_chance {v1 : Int32} {v2 : Int32} {v3 : Int32} {S : Mem} {r : Int32} {Sf : Mem} (h : f_X9_chance v1 v2 v3 S = some (r, Sf)) : MetI yX9_chance cX9_chance 8 (some .int) 6 [.ref 0, .int v1, .int v2, .int v3] SKC S r Sf := by
  refine MetI.intro (by decide +kernel) (Nat.le_of_ble_eq_true rfl) (fun X loc hX hQ => ?_)
  unfold f_X9_chance at h
  show AW X SKC loc 0 0 0 [(0, .ref 0), (1, .int v1), (2, .int v2), (3, .int v3)] [] S
  refine aw_iload_n (pc := 0) hX dX9_chance_0 rfl 1 rfl ?_
  refine aw_if_lt (pc := 1) hX (tgt := 25) dX9_chance_1 (by decide) (fun c1 => ?_) (fun c1 => ?_)
  · rw [if_pos c1] at h
    refine aw_iconst (v := (-1 : Int32)) (pc := 25) hX dX9_chance_25 (by decide) ?_
    cases h
    exact aw_iret hX hQ dX9_chance_26
  · rw [if_neg c1] at h
    refine aw_iload_n (pc := 4) hX dX9_chance_4 rfl 2 rfl ?_
    refine aw_iconst (v := (1 : Int32)) (pc := 5) hX dX9_chance_5 (by decide) ?_
    refine aw_icmp_lt (pc := 6) hX (tgt := 25) dX9_chance_6 (by decide) (fun c6 => ?_) (fun c6 => ?_)
    · rw [if_pos c6] at h
      refine aw_iconst (v := (-1 : Int32)) (pc := 25) hX dX9_chance_25 (by decide) ?_
      cases h
      exact aw_iret hX hQ dX9_chance_26
    · rw [if_neg c6] at h
      refine aw_iload_n (pc := 9) hX dX9_chance_9 rfl 2 rfl ?_
      refine aw_bipush (v := (60 : Int32)) (pc := 10) hX dX9_chance_10 (by decide) ?_
      refine aw_icmp_gt (pc := 12) hX (tgt := 25) dX9_chance_12 (by decide) (fun c12 => ?_) (fun c12 => ?_)
      · rw [if_pos c12] at h
        refine aw_iconst (v := (-1 : Int32)) (pc := 25) hX dX9_chance_25 (by decide) ?_
        cases h
        exact aw_iret hX hQ dX9_chance_26
      · rw [if_neg c12] at h
        refine aw_iload_n (pc := 15) hX dX9_chance_15 rfl 3 rfl ?_
        refine aw_if_lt (pc := 16) hX (tgt := 25) dX9_chance_16 (by decide) (fun c16 => ?_) (fun c16 => ?_)
        · rw [if_pos c16] at h
          refine aw_iconst (v := (-1 : Int32)) (pc := 25) hX dX9_chance_25 (by decide) ?_
          cases h
          exact aw_iret hX hQ dX9_chance_26
        · rw [if_neg c16] at h
          refine aw_iload_n (pc := 19) hX dX9_chance_19 rfl 3 rfl ?_
          refine aw_bipush (v := (99 : Int32)) (pc := 20) hX dX9_chance_20 (by decide) ?_
          refine aw_icmp_le (pc := 22) hX (tgt := 27) dX9_chance_22 (by decide) (fun c22 => ?_) (fun c22 => ?_)
          · rw [if_pos c22] at h
            refine aw_iconst (v := (0 : Int32)) (pc := 27) hX dX9_chance_27 (by decide) ?_
            refine aw_istore (ls' := [(4, .int (0 : Int32)), (0, .ref 0), (1, .int v1), (2, .int v2), (3, .int v3)]) (pc := 28) hX dX9_chance_28 (by decide) rfl ?_
            refine aw_iload_n (pc := 30) hX dX9_chance_30 rfl 2 rfl ?_
            refine aw_i2l (pc := 31) hX dX9_chance_31 ?_
            refine aw_lstore (ls' := [(5, .long ((v1).toInt64)), (4, .int (0 : Int32)), (0, .ref 0), (1, .int v1), (2, .int v2), (3, .int v3)]) (pc := 32) hX dX9_chance_32 (by decide) rfl ?_
            refine aw_iconst (v := (0 : Int32)) (pc := 34) hX dX9_chance_34 (by decide) ?_
            refine aw_istore (ls' := [(7, .int (0 : Int32)), (5, .long ((v1).toInt64)), (4, .int (0 : Int32)), (0, .ref 0), (1, .int v1), (2, .int v2), (3, .int v3)]) (pc := 35) hX dX9_chance_35 (by decide) rfl ?_
            refine aw_sub (ls' := [(0, .ref 0), (2, .int v2), (3, .int v3), (4, .int (0 : Int32)), (5, .long ((v1).toInt64)), (7, .int (0 : Int32))]) [3, 5, 6, 2, 1, 0] rfl ?_
            exact c_X9_chance_37 hX hQ FU v2 v3 (0 : Int32) ((v1).toInt64) (0 : Int32) S h
          · rw [if_neg c22] at h
            refine aw_iconst (v := (-1 : Int32)) (pc := 25) hX dX9_chance_25 (by decide) ?_
            cases h
            exact aw_iret hX hQ dX9_chance_26

def f_X9_city (v1 : Int32) (v2 : Int32) (S : Mem) : Option (Int32 × Mem) :=
  bnd (f_X9_isCity v1 S) fun r1 S1 =>
  if r1 = 0 then
  (some ((-1 : Int32), S1))
  else
  (if v2 = 0 then
  ((rd S1 58 2 v1).bind fun x52 =>
  some (x52, S1))
  else
  (if v2 = 1 then
  ((rd S1 59 2 v1).bind fun x62 =>
  some (x62, S1))
  else
  (if v2 = 2 then
  (bnd (f_X8_holds 53 v1 S1) fun r69 S69 =>
  some (r69, S69))
  else
  (if v2 = 3 then
  (bnd (f_X8_ownHeld 53 v1 S1) fun r78 S78 =>
  some (r78, S78))
  else
  (if v2 = 4 then
  (bnd (f_X8_ownHeld 53 v1 S1) fun r98 S98 =>
  bnd (f_X7_sumOf 31 38 10 r98 S98) fun r101 S101 =>
  some (r101, S101))
  else
  (some ((-1 : Int32), S1)))))))

set_option maxHeartbeats 4000000 in
set_option maxRecDepth 100000 in
theorem c_X9_city {v1 : Int32} {v2 : Int32} {S : Mem} {r : Int32} {Sf : Mem} (h : f_X9_city v1 v2 S = some (r, Sf)) : MetI yX9_city cX9_city 3 (some .int) 1 [.ref 0, .int v1, .int v2] SKC S r Sf := by
  refine MetI.intro (by decide +kernel) (Nat.le_of_ble_eq_true rfl) (fun X loc hX hQ => ?_)
  unfold f_X9_city at h
  show AW X SKC loc 0 0 0 [(0, .ref 0), (1, .int v1), (2, .int v2)] [] S
  refine aw_iload_n (pc := 0) hX dX9_city_0 rfl 1 rfl ?_
  obtain ⟨r1, S1, hr1, h⟩ := ob2 h
  refine aw_cSI (pc := 1) (As := [.int v1]) (rest := []) hX (c_X9_isCity (sk := SKC) hr1) ok_X9_isCity kw_3_183 st_X9_isCity rfl (by decide) (Nat.le_of_ble_eq_true rfl) rfl dX9_city_1 (Nat.le_refl 0) (Nat.le_refl 0) ?_
  refine aw_if_ne (pc := 4) hX (tgt := 9) dX9_city_4 (by decide) (fun c4 => ?_) (fun c4 => ?_)
  · rw [if_neg c4] at h
    refine aw_iload_n (pc := 9) hX dX9_city_9 rfl 2 rfl ?_
    by_cases c10_0 : v2 = 0
    · rw [if_pos c10_0] at h
      refine aw_tin (pc := 10) hX (v := 0) (off := 34) (tgt := 44) dX9_city_10 c10_0 (by decide) (by decide) (by decide) (by decide) ?_
      refine aw_aload_n (pc := 44) hX dX9_city_44 rfl 0 rfl ?_
      refine gf_X9_37 (pc := 45) hX kc0 rfl dX9_city_45 ?_
      refine gf_X9_188 (pc := 48) hX isW53.1 rfl dX9_city_48 ?_
      refine aw_iload_n (pc := 51) hX dX9_city_51 rfl 1 rfl ?_
      obtain ⟨x52, hx52, h⟩ := ob h
      refine aw_iald (pc := 52) hX kc58 hx52 dX9_city_52 ?_
      cases h
      exact aw_iret hX hQ dX9_city_53
    · rw [if_neg c10_0] at h
      by_cases c10_1 : v2 = 1
      · rw [if_pos c10_1] at h
        refine aw_tin (pc := 10) hX (v := 1) (off := 44) (tgt := 54) dX9_city_10 c10_1 (by decide) (by decide) (by decide) (by decide) ?_
        refine aw_aload_n (pc := 54) hX dX9_city_54 rfl 0 rfl ?_
        refine gf_X9_37 (pc := 55) hX kc0 rfl dX9_city_55 ?_
        refine gf_X9_191 (pc := 58) hX isW53.1 rfl dX9_city_58 ?_
        refine aw_iload_n (pc := 61) hX dX9_city_61 rfl 1 rfl ?_
        obtain ⟨x62, hx62, h⟩ := ob h
        refine aw_iald (pc := 62) hX kc59 hx62 dX9_city_62 ?_
        cases h
        exact aw_iret hX hQ dX9_city_63
      · rw [if_neg c10_1] at h
        by_cases c10_2 : v2 = 2
        · rw [if_pos c10_2] at h
          refine aw_tin (pc := 10) hX (v := 2) (off := 54) (tgt := 64) dX9_city_10 c10_2 (by decide) (by decide) (by decide) (by decide) ?_
          refine aw_aload_n (pc := 64) hX dX9_city_64 rfl 0 rfl ?_
          refine gf_X9_37 (pc := 65) hX kc0 rfl dX9_city_65 ?_
          refine aw_iload_n (pc := 68) hX dX9_city_68 rfl 1 rfl ?_
          obtain ⟨r69, S69, hr69, h⟩ := ob2 h
          refine aw_cVI (pc := 69) (As := [.int v1]) (rest := []) hX (c_X8_holds (sk := SKC) isW53 isT31 hr69) ok_X8_holds kw_3_186 im_X8_holds se_X8_holds rfl isW53.1 rfl (by decide) (Nat.le_of_ble_eq_true rfl) rfl dX9_city_69 (Nat.le_refl 0) (Nat.le_refl 0) ?_
          cases h
          exact aw_iret hX hQ dX9_city_72
        · rw [if_neg c10_2] at h
          by_cases c10_3 : v2 = 3
          · rw [if_pos c10_3] at h
            refine aw_tin (pc := 10) hX (v := 3) (off := 63) (tgt := 73) dX9_city_10 c10_3 (by decide) (by decide) (by decide) (by decide) ?_
            refine aw_aload_n (pc := 73) hX dX9_city_73 rfl 0 rfl ?_
            refine gf_X9_37 (pc := 74) hX kc0 rfl dX9_city_74 ?_
            refine aw_iload_n (pc := 77) hX dX9_city_77 rfl 1 rfl ?_
            obtain ⟨r78, S78, hr78, h⟩ := ob2 h
            refine aw_cVI (pc := 78) (As := [.int v1]) (rest := []) hX (c_X8_ownHeld (sk := SKC) isW53 isT31 hr78) ok_X8_ownHeld kw_3_190 im_X8_ownHeld se_X8_ownHeld rfl isW53.1 rfl (by decide) (Nat.le_of_ble_eq_true rfl) rfl dX9_city_78 (Nat.le_refl 0) (Nat.le_refl 0) ?_
            cases h
            exact aw_iret hX hQ dX9_city_81
          · rw [if_neg c10_3] at h
            by_cases c10_4 : v2 = 4
            · rw [if_pos c10_4] at h
              refine aw_tin (pc := 10) hX (v := 4) (off := 72) (tgt := 82) dX9_city_10 c10_4 (by decide) (by decide) (by decide) (by decide) ?_
              refine aw_aload_n (pc := 82) hX dX9_city_82 rfl 0 rfl ?_
              refine gf_X9_28 (pc := 83) hX kc0 rfl dX9_city_83 ?_
              refine aw_aload_n (pc := 86) hX dX9_city_86 rfl 0 rfl ?_
              refine gf_X9_28 (pc := 87) hX kc0 rfl dX9_city_87 ?_
              refine gf_X9_152 (pc := 90) hX isT31.1 rfl dX9_city_90 ?_
              refine aw_aload_n (pc := 93) hX dX9_city_93 rfl 0 rfl ?_
              refine gf_X9_37 (pc := 94) hX kc0 rfl dX9_city_94 ?_
              refine aw_iload_n (pc := 97) hX dX9_city_97 rfl 1 rfl ?_
              obtain ⟨r98, S98, hr98, h⟩ := ob2 h
              refine aw_cVI (pc := 98) (As := [.int v1]) (rest := [.ref 38, .ref 31]) hX (c_X8_ownHeld (sk := SKC) isW53 isT31 hr98) ok_X8_ownHeld kw_3_190 im_X8_ownHeld se_X8_ownHeld rfl isW53.1 rfl (by decide) (Nat.le_of_ble_eq_true rfl) rfl dX9_city_98 (Nat.le_refl 0) (Nat.le_refl 0) ?_
              obtain ⟨r101, S101, hr101, h⟩ := ob2 h
              refine aw_cVI (pc := 101) (As := [.ref 38, .int r98]) (rest := []) hX (c_X7_sumOf (sk := SKC) isT31 kc38 hr101) ok_X7_sumOf kw_3_194 im_X7_sumOf se_X7_sumOf rfl isT31.1 rfl (by decide) (Nat.le_of_ble_eq_true rfl) rfl dX9_city_101 (Nat.le_refl 0) (Nat.le_refl 0) ?_
              cases h
              exact aw_iret hX hQ dX9_city_104
            · rw [if_neg c10_4] at h
              refine aw_tout (pc := 10) hX (tgt := 105) dX9_city_10 (by have e0 := ne_i c10_0 (by decide : (0 : Int32).toInt = 0); have e1 := ne_i c10_1 (by decide : (1 : Int32).toInt = 1); have e2 := ne_i c10_2 (by decide : (2 : Int32).toInt = 2); have e3 := ne_i c10_3 (by decide : (3 : Int32).toInt = 3); have e4 := ne_i c10_4 (by decide : (4 : Int32).toInt = 4); omega) (by decide) ?_
              refine aw_iconst (v := (-1 : Int32)) (pc := 105) hX dX9_city_105 (by decide) ?_
              cases h
              exact aw_iret hX hQ dX9_city_106
  · rw [if_pos c4] at h
    refine aw_iconst (v := (-1 : Int32)) (pc := 7) hX dX9_city_7 (by decide) ?_
    cases h
    exact aw_iret hX hQ dX9_city_8

def f_X9_count (v1 : Int32) (S : Mem) : Option (Int32 × Mem) :=
  if v1 = 0 then
  (some ((S.1 31 0), S))
  else
  (if v1 = 1 then
  (some ((S.1 31 1), S))
  else
  (if v1 = 2 then
  (some ((S.1 31 2), S))
  else
  (if v1 = 3 then
  (some ((S.1 53 0), S))
  else
  (if v1 = 4 then
  (bnd (f_J6_bitCount_0f7a4 (S.1 53 1) S) fun r103 S103 =>
  some (r103, S103))
  else
  (if v1 = 5 then
  (bnd (f_X8_hurtOfAll 53 S) fun r111 S111 =>
  some (r111, S111))
  else
  (if v1 = 6 then
  (bnd (f_X8_angerOfBoth 53 S) fun r119 S119 =>
  some (r119, S119))
  else
  (if v1 = 7 then
  (bnd (f_X8_breachesOfBoth 53 S) fun r127 S127 =>
  some (r127, S127))
  else
  (if v1 = 8 then
  (some ((S.1 53 2), S))
  else
  (if v1 = 9 then
  (some ((S.1 77 0), S))
  else
  (if v1 = 10 then
  (bnd (f_X2_knownSize S) fun r151 S151 =>
  some (r151, S151))
  else
  (if v1 = 11 then
  (some ((S.1 84 0), S))
  else
  (some ((-1 : Int32), S)))))))))))))

set_option maxHeartbeats 4000000 in
set_option maxRecDepth 100000 in
theorem c_X9_count {v1 : Int32} {S : Mem} {r : Int32} {Sf : Mem} (h : f_X9_count v1 S = some (r, Sf)) : MetI yX9_count cX9_count 2 (some .int) 1 [.ref 0, .int v1] SKC S r Sf := by
  refine MetI.intro (by decide +kernel) (Nat.le_of_ble_eq_true rfl) (fun X loc hX hQ => ?_)
  unfold f_X9_count at h
  show AW X SKC loc 0 0 0 [(0, .ref 0), (1, .int v1)] [] S
  refine aw_iload_n (pc := 0) hX dX9_count_0 rfl 1 rfl ?_
  by_cases c1_0 : v1 = 0
  · rw [if_pos c1_0] at h
    refine aw_tin (pc := 1) hX (v := 0) (off := 63) (tgt := 64) dX9_count_1 c1_0 (by decide) (by decide) (by decide) (by decide) ?_
    refine aw_aload_n (pc := 64) hX dX9_count_64 rfl 0 rfl ?_
    refine gf_X9_28 (pc := 65) hX kc0 rfl dX9_count_65 ?_
    refine gf_X9_122 (pc := 68) hX isT31.1 rfl dX9_count_68 ?_
    cases h
    exact aw_iret hX hQ dX9_count_71
  · rw [if_neg c1_0] at h
    by_cases c1_1 : v1 = 1
    · rw [if_pos c1_1] at h
      refine aw_tin (pc := 1) hX (v := 1) (off := 71) (tgt := 72) dX9_count_1 c1_1 (by decide) (by decide) (by decide) (by decide) ?_
      refine aw_aload_n (pc := 72) hX dX9_count_72 rfl 0 rfl ?_
      refine gf_X9_28 (pc := 73) hX kc0 rfl dX9_count_73 ?_
      refine gf_X9_132 (pc := 76) hX isT31.1 rfl dX9_count_76 ?_
      cases h
      exact aw_iret hX hQ dX9_count_79
    · rw [if_neg c1_1] at h
      by_cases c1_2 : v1 = 2
      · rw [if_pos c1_2] at h
        refine aw_tin (pc := 1) hX (v := 2) (off := 79) (tgt := 80) dX9_count_1 c1_2 (by decide) (by decide) (by decide) (by decide) ?_
        refine aw_aload_n (pc := 80) hX dX9_count_80 rfl 0 rfl ?_
        refine gf_X9_28 (pc := 81) hX kc0 rfl dX9_count_81 ?_
        refine gf_X9_329 (pc := 84) hX isT31.1 rfl dX9_count_84 ?_
        cases h
        exact aw_iret hX hQ dX9_count_87
      · rw [if_neg c1_2] at h
        by_cases c1_3 : v1 = 3
        · rw [if_pos c1_3] at h
          refine aw_tin (pc := 1) hX (v := 3) (off := 87) (tgt := 88) dX9_count_1 c1_3 (by decide) (by decide) (by decide) (by decide) ?_
          refine aw_aload_n (pc := 88) hX dX9_count_88 rfl 0 rfl ?_
          refine gf_X9_37 (pc := 89) hX kc0 rfl dX9_count_89 ?_
          refine gf_X9_242 (pc := 92) hX isW53.1 rfl dX9_count_92 ?_
          cases h
          exact aw_iret hX hQ dX9_count_95
        · rw [if_neg c1_3] at h
          by_cases c1_4 : v1 = 4
          · rw [if_pos c1_4] at h
            refine aw_tin (pc := 1) hX (v := 4) (off := 95) (tgt := 96) dX9_count_1 c1_4 (by decide) (by decide) (by decide) (by decide) ?_
            refine aw_aload_n (pc := 96) hX dX9_count_96 rfl 0 rfl ?_
            refine gf_X9_37 (pc := 97) hX kc0 rfl dX9_count_97 ?_
            refine gf_X9_332 (pc := 100) hX isW53.1 rfl dX9_count_100 ?_
            obtain ⟨r103, S103, hr103, h⟩ := ob2 h
            refine aw_cSI (pc := 103) (As := [.int (S.1 53 1)]) (rest := []) hX (c_J6_bitCount_0f7a4 (sk := SKC) hr103) ok_J6_bitCount_0f7a4 kw_4_126 st_J6_bitCount_0f7a4 rfl (by decide) (Nat.le_of_ble_eq_true rfl) rfl dX9_count_103 (Nat.le_refl 0) (Nat.le_refl 0) ?_
            cases h
            exact aw_iret hX hQ dX9_count_106
          · rw [if_neg c1_4] at h
            by_cases c1_5 : v1 = 5
            · rw [if_pos c1_5] at h
              refine aw_tin (pc := 1) hX (v := 5) (off := 106) (tgt := 107) dX9_count_1 c1_5 (by decide) (by decide) (by decide) (by decide) ?_
              refine aw_aload_n (pc := 107) hX dX9_count_107 rfl 0 rfl ?_
              refine gf_X9_37 (pc := 108) hX kc0 rfl dX9_count_108 ?_
              obtain ⟨r111, S111, hr111, h⟩ := ob2 h
              refine aw_cVI (pc := 111) (As := []) (rest := []) hX (c_X8_hurtOfAll (sk := SKC) isW53 isT31 hr111) ok_X8_hurtOfAll kw_5_38 im_X8_hurtOfAll se_X8_hurtOfAll rfl isW53.1 rfl (by decide) (Nat.le_of_ble_eq_true rfl) rfl dX9_count_111 (Nat.le_refl 0) (Nat.le_refl 0) ?_
              cases h
              exact aw_iret hX hQ dX9_count_114
            · rw [if_neg c1_5] at h
              by_cases c1_6 : v1 = 6
              · rw [if_pos c1_6] at h
                refine aw_tin (pc := 1) hX (v := 6) (off := 114) (tgt := 115) dX9_count_1 c1_6 (by decide) (by decide) (by decide) (by decide) ?_
                refine aw_aload_n (pc := 115) hX dX9_count_115 rfl 0 rfl ?_
                refine gf_X9_37 (pc := 116) hX kc0 rfl dX9_count_116 ?_
                obtain ⟨r119, S119, hr119, h⟩ := ob2 h
                refine aw_cVI (pc := 119) (As := []) (rest := []) hX (c_X8_angerOfBoth (sk := SKC) isW53 isT31 hr119) ok_X8_angerOfBoth kw_4_114 im_X8_angerOfBoth se_X8_angerOfBoth rfl isW53.1 rfl (by decide) (Nat.le_of_ble_eq_true rfl) rfl dX9_count_119 (Nat.le_refl 0) (Nat.le_refl 0) ?_
                cases h
                exact aw_iret hX hQ dX9_count_122
              · rw [if_neg c1_6] at h
                by_cases c1_7 : v1 = 7
                · rw [if_pos c1_7] at h
                  refine aw_tin (pc := 1) hX (v := 7) (off := 122) (tgt := 123) dX9_count_1 c1_7 (by decide) (by decide) (by decide) (by decide) ?_
                  refine aw_aload_n (pc := 123) hX dX9_count_123 rfl 0 rfl ?_
                  refine gf_X9_37 (pc := 124) hX kc0 rfl dX9_count_124 ?_
                  obtain ⟨r127, S127, hr127, h⟩ := ob2 h
                  refine aw_cVI (pc := 127) (As := []) (rest := []) hX (c_X8_breachesOfBoth (sk := SKC) isW53 isT31 hr127) ok_X8_breachesOfBoth kw_4_102 im_X8_breachesOfBoth se_X8_breachesOfBoth rfl isW53.1 rfl (by decide) (Nat.le_of_ble_eq_true rfl) rfl dX9_count_127 (Nat.le_refl 0) (Nat.le_refl 0) ?_
                  cases h
                  exact aw_iret hX hQ dX9_count_130
                · rw [if_neg c1_7] at h
                  by_cases c1_8 : v1 = 8
                  · rw [if_pos c1_8] at h
                    refine aw_tin (pc := 1) hX (v := 8) (off := 130) (tgt := 131) dX9_count_1 c1_8 (by decide) (by decide) (by decide) (by decide) ?_
                    refine aw_aload_n (pc := 131) hX dX9_count_131 rfl 0 rfl ?_
                    refine gf_X9_37 (pc := 132) hX kc0 rfl dX9_count_132 ?_
                    refine gf_X9_335 (pc := 135) hX isW53.1 rfl dX9_count_135 ?_
                    cases h
                    exact aw_iret hX hQ dX9_count_138
                  · rw [if_neg c1_8] at h
                    by_cases c1_9 : v1 = 9
                    · rw [if_pos c1_9] at h
                      refine aw_tin (pc := 1) hX (v := 9) (off := 138) (tgt := 139) dX9_count_1 c1_9 (by decide) (by decide) (by decide) (by decide) ?_
                      refine aw_aload_n (pc := 139) hX dX9_count_139 rfl 0 rfl ?_
                      refine gf_X9_50 (pc := 140) hX kc0 rfl dX9_count_140 ?_
                      refine gf_X9_298 (pc := 143) hX kc77 rfl dX9_count_143 ?_
                      cases h
                      exact aw_iret hX hQ dX9_count_146
                    · rw [if_neg c1_9] at h
                      by_cases c1_10 : v1 = 10
                      · rw [if_pos c1_10] at h
                        refine aw_tin (pc := 1) hX (v := 10) (off := 146) (tgt := 147) dX9_count_1 c1_10 (by decide) (by decide) (by decide) (by decide) ?_
                        refine aw_aload_n (pc := 147) hX dX9_count_147 rfl 0 rfl ?_
                        refine gf_X9_50 (pc := 148) hX kc0 rfl dX9_count_148 ?_
                        obtain ⟨r151, S151, hr151, h⟩ := ob2 h
                        refine aw_cVI (pc := 151) (As := []) (rest := []) hX (c_X2_knownSize hr151) ok_X2_knownSize kw_5_66 im_X2_knownSize se_X2_knownSize rfl kc77 rfl (by decide) (Nat.le_of_ble_eq_true rfl) rfl dX9_count_151 (Nat.le_refl 0) (Nat.le_refl 0) ?_
                        cases h
                        exact aw_iret hX hQ dX9_count_154
                      · rw [if_neg c1_10] at h
                        by_cases c1_11 : v1 = 11
                        · rw [if_pos c1_11] at h
                          refine aw_tin (pc := 1) hX (v := 11) (off := 154) (tgt := 155) dX9_count_1 c1_11 (by decide) (by decide) (by decide) (by decide) ?_
                          refine aw_aload_n (pc := 155) hX dX9_count_155 rfl 0 rfl ?_
                          refine gf_X9_57 (pc := 156) hX kc0 rfl dX9_count_156 ?_
                          refine gf_X9_325 (pc := 159) hX kc84 rfl dX9_count_159 ?_
                          cases h
                          exact aw_iret hX hQ dX9_count_162
                        · rw [if_neg c1_11] at h
                          refine aw_tout (pc := 1) hX (tgt := 163) dX9_count_1 (by have e0 := ne_i c1_0 (by decide : (0 : Int32).toInt = 0); have e1 := ne_i c1_1 (by decide : (1 : Int32).toInt = 1); have e2 := ne_i c1_2 (by decide : (2 : Int32).toInt = 2); have e3 := ne_i c1_3 (by decide : (3 : Int32).toInt = 3); have e4 := ne_i c1_4 (by decide : (4 : Int32).toInt = 4); have e5 := ne_i c1_5 (by decide : (5 : Int32).toInt = 5); have e6 := ne_i c1_6 (by decide : (6 : Int32).toInt = 6); have e7 := ne_i c1_7 (by decide : (7 : Int32).toInt = 7); have e8 := ne_i c1_8 (by decide : (8 : Int32).toInt = 8); have e9 := ne_i c1_9 (by decide : (9 : Int32).toInt = 9); have e10 := ne_i c1_10 (by decide : (10 : Int32).toInt = 10); have e11 := ne_i c1_11 (by decide : (11 : Int32).toInt = 11); omega) (by decide) ?_
                          refine aw_iconst (v := (-1 : Int32)) (pc := 163) hX dX9_count_163 (by decide) ?_
                          cases h
                          exact aw_iret hX hQ dX9_count_164

def f_X9_enough_39 : Nat → Int32 → Int32 → Int32 → Int32 → Int32 → Mem → Option (Int32 × Mem)
  | 0, _, _, _, _, _, _ => none
  | n + 1, v2, v3, v4, v5, v6, S =>
  if ((1 : Int32) <<< ((S.1 31 1) &&& 31)) ≤ v6 then
  (some (v4, S))
  else
  (if (v6 &&& v3) = v6 then
  (bnd (f_J6_bitCount_0f7a4 v6 S) fun r64 S64 =>
  if v5 ≤ r64 then
  (f_X9_enough_39 n v2 v3 v4 v5 (v6 + 1) S64)
  else
  (bnd (f_X7_sumOf 31 38 10 v6 S64) fun r85 S85 =>
  if r85 < v2 then
  (f_X9_enough_39 n v2 v3 v4 v5 (v6 + 1) S85)
  else
  (bnd (f_J6_bitCount_0f7a4 v6 S85) fun r98 S98 =>
  f_X9_enough_39 n v2 v3 v6 r98 (v6 + 1) S98)))
  else
  (f_X9_enough_39 n v2 v3 v4 v5 (v6 + 1) S))

def f_X9_enough (v1 : Int32) (v2 : Int32) (S : Mem) : Option (Int32 × Mem) :=
  bnd (f_X9_isCity v1 S) fun r1 S1 =>
  if r1 = 0 then
  (some ((-1 : Int32), S1))
  else
  (if v2 < 0 then
  (some ((-1 : Int32), S1))
  else
  (if v2 ≤ (99 : Int32) then
  (bnd (f_X8_holds 53 v1 S1) fun r24 S24 =>
  f_X9_enough_39 FU v2 r24 (-2 : Int32) (11 : Int32) (0 : Int32) S24)
  else
  (some ((-1 : Int32), S1))))

set_option maxHeartbeats 4000000 in
set_option maxRecDepth 100000 in
theorem c_X9_enough_39 {X : XT} {loc : Nat → Nat} {r : Int32} {Sf : Mem} (hX : AC X loc RX9 cX9_enough (some .int) 7 1 0 0) (hQ : RetI X SKC loc 0 0 r Sf) : ∀ (n : Nat) (v2 : Int32) (v3 : Int32) (v4 : Int32) (v5 : Int32) (v6 : Int32) (S : Mem), f_X9_enough_39 n v2 v3 v4 v5 v6 S = some (r, Sf) → AW X SKC loc 0 0 39 [(0, .ref 0), (2, .int v2), (3, .int v3), (4, .int v4), (5, .int v5), (6, .int v6)] [] S := by
  intro n
  induction n with
  | zero => intro v2 v3 v4 v5 v6 S h; cases h
  | succ n ih =>
    intro v2 v3 v4 v5 v6 S h
    unfold f_X9_enough_39 at h
    refine aw_iload (pc := 39) hX dX9_enough_39 5 rfl ?_
    refine aw_iconst (v := (1 : Int32)) (pc := 41) hX dX9_enough_41 (by decide) ?_
    refine aw_aload_n (pc := 42) hX dX9_enough_42 rfl 0 rfl ?_
    refine gf_X9_28 (pc := 43) hX kc0 rfl dX9_enough_43 ?_
    refine gf_X9_132 (pc := 46) hX isT31.1 rfl dX9_enough_46 ?_
    refine aw_ishl (pc := 49) hX dX9_enough_49 ?_
    refine aw_icmp_ge (pc := 50) hX (tgt := 109) dX9_enough_50 (by decide) (fun c50 => ?_) (fun c50 => ?_)
    · rw [if_pos c50] at h
      refine aw_iload (pc := 109) hX dX9_enough_109 3 rfl ?_
      cases h
      exact aw_iret hX hQ dX9_enough_111
    · rw [if_neg c50] at h
      refine aw_iload (pc := 53) hX dX9_enough_53 5 rfl ?_
      refine aw_iload_n (pc := 55) hX dX9_enough_55 rfl 2 rfl ?_
      refine aw_iand (pc := 56) hX dX9_enough_56 ?_
      refine aw_iload (pc := 57) hX dX9_enough_57 5 rfl ?_
      refine aw_icmp_ne (pc := 59) hX (tgt := 103) dX9_enough_59 (by decide) (fun c59 => ?_) (fun c59 => ?_)
      · rw [if_neg c59] at h
        refine aw_iinc (v := (v6 + 1)) (ls' := [(6, .int (v6 + 1)), (0, .ref 0), (2, .int v2), (3, .int v3), (4, .int v4), (5, .int v5)]) (pc := 103) hX dX9_enough_103 (pos := 5) rfl (by first | rfl | decide) (by decide) rfl ?_
        refine aw_goto (tgt := 39) (pc := 106) hX dX9_enough_106 (by decide) ?_
        refine aw_sub (ls' := [(0, .ref 0), (2, .int v2), (3, .int v3), (4, .int v4), (5, .int v5), (6, .int (v6 + 1))]) [1, 2, 3, 4, 5, 0] rfl ?_
        exact ih v2 v3 v4 v5 (v6 + 1) S h
      · rw [if_pos c59] at h
        refine aw_iload (pc := 62) hX dX9_enough_62 5 rfl ?_
        obtain ⟨r64, S64, hr64, h⟩ := ob2 h
        refine aw_cSI (pc := 64) (As := [.int v6]) (rest := []) hX (c_J6_bitCount_0f7a4 (sk := SKC) hr64) ok_J6_bitCount_0f7a4 kw_4_126 st_J6_bitCount_0f7a4 rfl (by decide) (Nat.le_of_ble_eq_true rfl) rfl dX9_enough_64 (Nat.le_refl 0) (Nat.le_refl 0) ?_
        refine aw_iload (pc := 67) hX dX9_enough_67 4 rfl ?_
        refine aw_icmp_ge (pc := 69) hX (tgt := 103) dX9_enough_69 (by decide) (fun c69 => ?_) (fun c69 => ?_)
        · rw [if_pos c69] at h
          refine aw_iinc (v := (v6 + 1)) (ls' := [(6, .int (v6 + 1)), (0, .ref 0), (2, .int v2), (3, .int v3), (4, .int v4), (5, .int v5)]) (pc := 103) hX dX9_enough_103 (pos := 5) rfl (by first | rfl | decide) (by decide) rfl ?_
          refine aw_goto (tgt := 39) (pc := 106) hX dX9_enough_106 (by decide) ?_
          refine aw_sub (ls' := [(0, .ref 0), (2, .int v2), (3, .int v3), (4, .int v4), (5, .int v5), (6, .int (v6 + 1))]) [1, 2, 3, 4, 5, 0] rfl ?_
          exact ih v2 v3 v4 v5 (v6 + 1) S64 h
        · rw [if_neg c69] at h
          refine aw_aload_n (pc := 72) hX dX9_enough_72 rfl 0 rfl ?_
          refine gf_X9_28 (pc := 73) hX kc0 rfl dX9_enough_73 ?_
          refine aw_aload_n (pc := 76) hX dX9_enough_76 rfl 0 rfl ?_
          refine gf_X9_28 (pc := 77) hX kc0 rfl dX9_enough_77 ?_
          refine gf_X9_152 (pc := 80) hX isT31.1 rfl dX9_enough_80 ?_
          refine aw_iload (pc := 83) hX dX9_enough_83 5 rfl ?_
          obtain ⟨r85, S85, hr85, h⟩ := ob2 h
          refine aw_cVI (pc := 85) (As := [.ref 38, .int v6]) (rest := []) hX (c_X7_sumOf (sk := SKC) isT31 kc38 hr85) ok_X7_sumOf kw_3_194 im_X7_sumOf se_X7_sumOf rfl isT31.1 rfl (by decide) (Nat.le_of_ble_eq_true rfl) rfl dX9_enough_85 (Nat.le_refl 0) (Nat.le_refl 0) ?_
          refine aw_iload_n (pc := 88) hX dX9_enough_88 rfl 1 rfl ?_
          refine aw_icmp_lt (pc := 89) hX (tgt := 103) dX9_enough_89 (by decide) (fun c89 => ?_) (fun c89 => ?_)
          · rw [if_pos c89] at h
            refine aw_iinc (v := (v6 + 1)) (ls' := [(6, .int (v6 + 1)), (0, .ref 0), (2, .int v2), (3, .int v3), (4, .int v4), (5, .int v5)]) (pc := 103) hX dX9_enough_103 (pos := 5) rfl (by first | rfl | decide) (by decide) rfl ?_
            refine aw_goto (tgt := 39) (pc := 106) hX dX9_enough_106 (by decide) ?_
            refine aw_sub (ls' := [(0, .ref 0), (2, .int v2), (3, .int v3), (4, .int v4), (5, .int v5), (6, .int (v6 + 1))]) [1, 2, 3, 4, 5, 0] rfl ?_
            exact ih v2 v3 v4 v5 (v6 + 1) S85 h
          · rw [if_neg c89] at h
            refine aw_iload (pc := 92) hX dX9_enough_92 5 rfl ?_
            refine aw_istore (ls' := [(4, .int v6), (0, .ref 0), (2, .int v2), (3, .int v3), (5, .int v5), (6, .int v6)]) (pc := 94) hX dX9_enough_94 (by decide) rfl ?_
            refine aw_iload (pc := 96) hX dX9_enough_96 5 rfl ?_
            obtain ⟨r98, S98, hr98, h⟩ := ob2 h
            refine aw_cSI (pc := 98) (As := [.int v6]) (rest := []) hX (c_J6_bitCount_0f7a4 (sk := SKC) hr98) ok_J6_bitCount_0f7a4 kw_4_126 st_J6_bitCount_0f7a4 rfl (by decide) (Nat.le_of_ble_eq_true rfl) rfl dX9_enough_98 (Nat.le_refl 0) (Nat.le_refl 0) ?_
            refine aw_istore (ls' := [(5, .int r98), (4, .int v6), (0, .ref 0), (2, .int v2), (3, .int v3), (6, .int v6)]) (pc := 101) hX dX9_enough_101 (by decide) rfl ?_
            refine aw_iinc (v := (v6 + 1)) (ls' := [(6, .int (v6 + 1)), (5, .int r98), (4, .int v6), (0, .ref 0), (2, .int v2), (3, .int v3)]) (pc := 103) hX dX9_enough_103 (pos := 5) rfl (by first | rfl | decide) (by decide) rfl ?_
            refine aw_goto (tgt := 39) (pc := 106) hX dX9_enough_106 (by decide) ?_
            refine aw_sub (ls' := [(0, .ref 0), (2, .int v2), (3, .int v3), (4, .int v6), (5, .int r98), (6, .int (v6 + 1))]) [3, 4, 5, 2, 1, 0] rfl ?_
            exact ih v2 v3 v6 r98 (v6 + 1) S98 h

set_option maxHeartbeats 4000000 in
set_option maxRecDepth 100000 in
theorem c_X9_enough {v1 : Int32} {v2 : Int32} {S : Mem} {r : Int32} {Sf : Mem} (h : f_X9_enough v1 v2 S = some (r, Sf)) : MetI yX9_enough cX9_enough 7 (some .int) 1 [.ref 0, .int v1, .int v2] SKC S r Sf := by
  refine MetI.intro (by decide +kernel) (Nat.le_of_ble_eq_true rfl) (fun X loc hX hQ => ?_)
  unfold f_X9_enough at h
  show AW X SKC loc 0 0 0 [(0, .ref 0), (1, .int v1), (2, .int v2)] [] S
  refine aw_iload_n (pc := 0) hX dX9_enough_0 rfl 1 rfl ?_
  obtain ⟨r1, S1, hr1, h⟩ := ob2 h
  refine aw_cSI (pc := 1) (As := [.int v1]) (rest := []) hX (c_X9_isCity (sk := SKC) hr1) ok_X9_isCity kw_3_183 st_X9_isCity rfl (by decide) (Nat.le_of_ble_eq_true rfl) rfl dX9_enough_1 (Nat.le_refl 0) (Nat.le_refl 0) ?_
  refine aw_if_eq (pc := 4) hX (tgt := 17) dX9_enough_4 (by decide) (fun c4 => ?_) (fun c4 => ?_)
  · rw [if_pos c4] at h
    refine aw_iconst (v := (-1 : Int32)) (pc := 17) hX dX9_enough_17 (by decide) ?_
    cases h
    exact aw_iret hX hQ dX9_enough_18
  · rw [if_neg c4] at h
    refine aw_iload_n (pc := 7) hX dX9_enough_7 rfl 2 rfl ?_
    refine aw_if_lt (pc := 8) hX (tgt := 17) dX9_enough_8 (by decide) (fun c8 => ?_) (fun c8 => ?_)
    · rw [if_pos c8] at h
      refine aw_iconst (v := (-1 : Int32)) (pc := 17) hX dX9_enough_17 (by decide) ?_
      cases h
      exact aw_iret hX hQ dX9_enough_18
    · rw [if_neg c8] at h
      refine aw_iload_n (pc := 11) hX dX9_enough_11 rfl 2 rfl ?_
      refine aw_bipush (v := (99 : Int32)) (pc := 12) hX dX9_enough_12 (by decide) ?_
      refine aw_icmp_le (pc := 14) hX (tgt := 19) dX9_enough_14 (by decide) (fun c14 => ?_) (fun c14 => ?_)
      · rw [if_pos c14] at h
        refine aw_aload_n (pc := 19) hX dX9_enough_19 rfl 0 rfl ?_
        refine gf_X9_37 (pc := 20) hX kc0 rfl dX9_enough_20 ?_
        refine aw_iload_n (pc := 23) hX dX9_enough_23 rfl 1 rfl ?_
        obtain ⟨r24, S24, hr24, h⟩ := ob2 h
        refine aw_cVI (pc := 24) (As := [.int v1]) (rest := []) hX (c_X8_holds (sk := SKC) isW53 isT31 hr24) ok_X8_holds kw_3_186 im_X8_holds se_X8_holds rfl isW53.1 rfl (by decide) (Nat.le_of_ble_eq_true rfl) rfl dX9_enough_24 (Nat.le_refl 0) (Nat.le_refl 0) ?_
        refine aw_istore_n (ls' := [(3, .int r24), (0, .ref 0), (1, .int v1), (2, .int v2)]) (pc := 27) hX dX9_enough_27 rfl (by decide) rfl ?_
        refine aw_bipush (v := (-2 : Int32)) (pc := 28) hX dX9_enough_28 (by decide) ?_
        refine aw_istore (ls' := [(4, .int (-2 : Int32)), (3, .int r24), (0, .ref 0), (1, .int v1), (2, .int v2)]) (pc := 30) hX dX9_enough_30 (by decide) rfl ?_
        refine aw_bipush (v := (11 : Int32)) (pc := 32) hX dX9_enough_32 (by decide) ?_
        refine aw_istore (ls' := [(5, .int (11 : Int32)), (4, .int (-2 : Int32)), (3, .int r24), (0, .ref 0), (1, .int v1), (2, .int v2)]) (pc := 34) hX dX9_enough_34 (by decide) rfl ?_
        refine aw_iconst (v := (0 : Int32)) (pc := 36) hX dX9_enough_36 (by decide) ?_
        refine aw_istore (ls' := [(6, .int (0 : Int32)), (5, .int (11 : Int32)), (4, .int (-2 : Int32)), (3, .int r24), (0, .ref 0), (1, .int v1), (2, .int v2)]) (pc := 37) hX dX9_enough_37 (by decide) rfl ?_
        refine aw_sub (ls' := [(0, .ref 0), (2, .int v2), (3, .int r24), (4, .int (-2 : Int32)), (5, .int (11 : Int32)), (6, .int (0 : Int32))]) [4, 6, 3, 2, 1, 0] rfl ?_
        exact c_X9_enough_39 hX hQ FU v2 r24 (-2 : Int32) (11 : Int32) (0 : Int32) S24 h
      · rw [if_neg c14] at h
        refine aw_iconst (v := (-1 : Int32)) (pc := 17) hX dX9_enough_17 (by decide) ?_
        cases h
        exact aw_iret hX hQ dX9_enough_18

def f_X9_isHeldDoll (v1 : Int32) (S : Mem) : Option (Int32 × Mem) :=
  bnd (f_X9_isDoll v1 S) fun r2 S2 =>
  if r2 = 0 then
  (some ((0 : Int32), S2))
  else
  (bnd (f_X8_isHeld 53 v1 S2) fun r13 S13 =>
  if r13 = 0 then
  (some ((0 : Int32), S13))
  else
  (some ((1 : Int32), S13)))

set_option maxHeartbeats 4000000 in
set_option maxRecDepth 100000 in
theorem c_X9_isHeldDoll {v1 : Int32} {S : Mem} {r : Int32} {Sf : Mem} (h : f_X9_isHeldDoll v1 S = some (r, Sf)) : MetI yX9_isHeldDoll cX9_isHeldDoll 2 (some .boolean) 1 [.ref 0, .int v1] SKC S r Sf := by
  refine MetI.intro (by decide +kernel) (Nat.le_of_ble_eq_true rfl) (fun X loc hX hQ => ?_)
  unfold f_X9_isHeldDoll at h
  show AW X SKC loc 0 0 0 [(0, .ref 0), (1, .int v1)] [] S
  refine aw_aload_n (pc := 0) hX dX9_isHeldDoll_0 rfl 0 rfl ?_
  refine aw_iload_n (pc := 1) hX dX9_isHeldDoll_1 rfl 1 rfl ?_
  obtain ⟨r2, S2, hr2, h⟩ := ob2 h
  refine aw_cVI (pc := 2) (As := [.int v1]) (rest := []) hX (c_X9_isDoll hr2) ok_X9_isDoll kw_3_206 im_X9_isDoll se_X9_isDoll rfl kc0 rfl (by decide) (Nat.le_of_ble_eq_true rfl) rfl dX9_isHeldDoll_2 (Nat.le_refl 0) (Nat.le_refl 0) ?_
  refine aw_if_eq (pc := 5) hX (tgt := 23) dX9_isHeldDoll_5 (by decide) (fun c5 => ?_) (fun c5 => ?_)
  · rw [if_pos c5] at h
    refine aw_iconst (v := (0 : Int32)) (pc := 23) hX dX9_isHeldDoll_23 (by decide) ?_
    cases h
    exact aw_zret hX hQ (by decide) dX9_isHeldDoll_24
  · rw [if_neg c5] at h
    refine aw_aload_n (pc := 8) hX dX9_isHeldDoll_8 rfl 0 rfl ?_
    refine gf_X9_37 (pc := 9) hX kc0 rfl dX9_isHeldDoll_9 ?_
    refine aw_iload_n (pc := 12) hX dX9_isHeldDoll_12 rfl 1 rfl ?_
    obtain ⟨r13, S13, hr13, h⟩ := ob2 h
    refine aw_cVI (pc := 13) (As := [.int v1]) (rest := []) hX (c_X8_isHeld (sk := SKC) isW53 isT31 hr13) ok_X8_isHeld kw_3_210 im_X8_isHeld se_X8_isHeld rfl isW53.1 rfl (by decide) (Nat.le_of_ble_eq_true rfl) rfl dX9_isHeldDoll_13 (Nat.le_refl 0) (Nat.le_refl 0) ?_
    refine aw_if_eq (pc := 16) hX (tgt := 23) dX9_isHeldDoll_16 (by decide) (fun c16 => ?_) (fun c16 => ?_)
    · rw [if_pos c16] at h
      refine aw_iconst (v := (0 : Int32)) (pc := 23) hX dX9_isHeldDoll_23 (by decide) ?_
      cases h
      exact aw_zret hX hQ (by decide) dX9_isHeldDoll_24
    · rw [if_neg c16] at h
      refine aw_iconst (v := (1 : Int32)) (pc := 19) hX dX9_isHeldDoll_19 (by decide) ?_
      refine aw_goto (tgt := 24) (pc := 20) hX dX9_isHeldDoll_20 (by decide) ?_
      cases h
      exact aw_zret hX hQ (by decide) dX9_isHeldDoll_24

def f_X9_exchange (v1 : Int32) (v2 : Int32) (S : Mem) : Option (Int32 × Mem) :=
  bnd (f_X9_isHeldDoll v1 S) fun r2 S2 =>
  if r2 = 0 then
  (some ((0 : Int32), S2))
  else
  (bnd (f_X9_isHeldDoll v2 S2) fun r10 S10 =>
  if r10 = 0 then
  (some ((0 : Int32), S10))
  else
  ((rd S10 37 10 v1).bind fun x24 =>
  (rd S10 37 10 v2).bind fun x33 =>
  if x24 = x33 then
  (some ((0 : Int32), S10))
  else
  ((f_X0_add (1 : Int32) v1 v2 S10).bind fun S46 =>
  (f_X8_sendHome 53 v1 S46).bind fun S54 =>
  (f_X8_sendHome 53 v2 S54).bind fun S62 =>
  (f_X3_forget S62).bind fun S69 =>
  some ((1 : Int32), S69))))

set_option maxHeartbeats 4000000 in
set_option maxRecDepth 100000 in
theorem c_X9_exchange {v1 : Int32} {v2 : Int32} {S : Mem} {r : Int32} {Sf : Mem} (h : f_X9_exchange v1 v2 S = some (r, Sf)) : MetI yX9_exchange cX9_exchange 3 (some .boolean) 2 [.ref 0, .int v1, .int v2] SKC S r Sf := by
  refine MetI.intro (by decide +kernel) (Nat.le_of_ble_eq_true rfl) (fun X loc hX hQ => ?_)
  unfold f_X9_exchange at h
  show AW X SKC loc 0 0 0 [(0, .ref 0), (1, .int v1), (2, .int v2)] [] S
  refine aw_aload_n (pc := 0) hX dX9_exchange_0 rfl 0 rfl ?_
  refine aw_iload_n (pc := 1) hX dX9_exchange_1 rfl 1 rfl ?_
  obtain ⟨r2, S2, hr2, h⟩ := ob2 h
  refine aw_cVI (pc := 2) (As := [.int v1]) (rest := []) hX (c_X9_isHeldDoll hr2) ok_X9_isHeldDoll kw_3_202 im_X9_isHeldDoll se_X9_isHeldDoll rfl kc0 rfl (by decide) (Nat.le_of_ble_eq_true rfl) rfl dX9_exchange_2 (Nat.le_refl 0) (Nat.le_refl 0) ?_
  refine aw_if_eq (pc := 5) hX (tgt := 37) dX9_exchange_5 (by decide) (fun c5 => ?_) (fun c5 => ?_)
  · rw [if_pos c5] at h
    refine aw_iconst (v := (0 : Int32)) (pc := 37) hX dX9_exchange_37 (by decide) ?_
    cases h
    exact aw_zret hX hQ (by decide) dX9_exchange_38
  · rw [if_neg c5] at h
    refine aw_aload_n (pc := 8) hX dX9_exchange_8 rfl 0 rfl ?_
    refine aw_iload_n (pc := 9) hX dX9_exchange_9 rfl 2 rfl ?_
    obtain ⟨r10, S10, hr10, h⟩ := ob2 h
    refine aw_cVI (pc := 10) (As := [.int v2]) (rest := []) hX (c_X9_isHeldDoll hr10) ok_X9_isHeldDoll kw_3_202 im_X9_isHeldDoll se_X9_isHeldDoll rfl kc0 rfl (by decide) (Nat.le_of_ble_eq_true rfl) rfl dX9_exchange_10 (Nat.le_refl 0) (Nat.le_refl 0) ?_
    refine aw_if_eq (pc := 13) hX (tgt := 37) dX9_exchange_13 (by decide) (fun c13 => ?_) (fun c13 => ?_)
    · rw [if_pos c13] at h
      refine aw_iconst (v := (0 : Int32)) (pc := 37) hX dX9_exchange_37 (by decide) ?_
      cases h
      exact aw_zret hX hQ (by decide) dX9_exchange_38
    · rw [if_neg c13] at h
      refine aw_aload_n (pc := 16) hX dX9_exchange_16 rfl 0 rfl ?_
      refine gf_X9_28 (pc := 17) hX kc0 rfl dX9_exchange_17 ?_
      refine gf_X9_149 (pc := 20) hX isT31.1 rfl dX9_exchange_20 ?_
      refine aw_iload_n (pc := 23) hX dX9_exchange_23 rfl 1 rfl ?_
      obtain ⟨x24, hx24, h⟩ := ob h
      refine aw_iald (pc := 24) hX kc37 hx24 dX9_exchange_24 ?_
      refine aw_aload_n (pc := 25) hX dX9_exchange_25 rfl 0 rfl ?_
      refine gf_X9_28 (pc := 26) hX kc0 rfl dX9_exchange_26 ?_
      refine gf_X9_149 (pc := 29) hX isT31.1 rfl dX9_exchange_29 ?_
      refine aw_iload_n (pc := 32) hX dX9_exchange_32 rfl 2 rfl ?_
      obtain ⟨x33, hx33, h⟩ := ob h
      refine aw_iald (pc := 33) hX kc37 hx33 dX9_exchange_33 ?_
      refine aw_icmp_ne (pc := 34) hX (tgt := 39) dX9_exchange_34 (by decide) (fun c34 => ?_) (fun c34 => ?_)
      · rw [if_neg c34] at h
        refine aw_aload_n (pc := 39) hX dX9_exchange_39 rfl 0 rfl ?_
        refine gf_X9_57 (pc := 40) hX kc0 rfl dX9_exchange_40 ?_
        refine aw_iconst (v := (1 : Int32)) (pc := 43) hX dX9_exchange_43 (by decide) ?_
        refine aw_iload_n (pc := 44) hX dX9_exchange_44 rfl 1 rfl ?_
        refine aw_iload_n (pc := 45) hX dX9_exchange_45 rfl 2 rfl ?_
        obtain ⟨S46, hr46, h⟩ := ob h
        refine aw_cVV (pc := 46) (As := [.int (1 : Int32), .int v1, .int v2]) (rest := []) hX (c_X0_add hr46) ok_X0_add kw_4_20 im_X0_add se_X0_add rfl kc84 rfl (by decide) (Nat.le_of_ble_eq_true rfl) rfl dX9_exchange_46 (Nat.le_refl 0) (Nat.le_refl 0) ?_
        refine aw_aload_n (pc := 49) hX dX9_exchange_49 rfl 0 rfl ?_
        refine gf_X9_37 (pc := 50) hX kc0 rfl dX9_exchange_50 ?_
        refine aw_iload_n (pc := 53) hX dX9_exchange_53 rfl 1 rfl ?_
        obtain ⟨S54, hr54, h⟩ := ob h
        refine aw_cVV (pc := 54) (As := [.int v1]) (rest := []) hX (c_X8_sendHome (sk := SKC) isW53 isT31 hr54) ok_X8_sendHome kw_4_32 im_X8_sendHome se_X8_sendHome rfl isW53.1 rfl (by decide) (Nat.le_of_ble_eq_true rfl) rfl dX9_exchange_54 (Nat.le_refl 0) (Nat.le_refl 0) ?_
        refine aw_aload_n (pc := 57) hX dX9_exchange_57 rfl 0 rfl ?_
        refine gf_X9_37 (pc := 58) hX kc0 rfl dX9_exchange_58 ?_
        refine aw_iload_n (pc := 61) hX dX9_exchange_61 rfl 2 rfl ?_
        obtain ⟨S62, hr62, h⟩ := ob h
        refine aw_cVV (pc := 62) (As := [.int v2]) (rest := []) hX (c_X8_sendHome (sk := SKC) isW53 isT31 hr62) ok_X8_sendHome kw_4_32 im_X8_sendHome se_X8_sendHome rfl isW53.1 rfl (by decide) (Nat.le_of_ble_eq_true rfl) rfl dX9_exchange_62 (Nat.le_refl 0) (Nat.le_refl 0) ?_
        refine aw_aload_n (pc := 65) hX dX9_exchange_65 rfl 0 rfl ?_
        refine gf_X9_64 (pc := 66) hX kc0 rfl dX9_exchange_66 ?_
        obtain ⟨S69, hr69, h⟩ := ob h
        refine aw_cVV (pc := 69) (As := []) (rest := []) hX (c_X3_forget hr69) ok_X3_forget kw_3_149 im_X3_forget se_X3_forget rfl kc88 rfl (by decide) (Nat.le_of_ble_eq_true rfl) rfl dX9_exchange_69 (Nat.le_refl 0) (Nat.le_refl 0) ?_
        refine aw_iconst (v := (1 : Int32)) (pc := 72) hX dX9_exchange_72 (by decide) ?_
        cases h
        exact aw_zret hX hQ (by decide) dX9_exchange_73
      · rw [if_pos c34] at h
        refine aw_iconst (v := (0 : Int32)) (pc := 37) hX dX9_exchange_37 (by decide) ?_
        cases h
        exact aw_zret hX hQ (by decide) dX9_exchange_38

def f_X9_fault (v1 : Int32) (S : Mem) : Option (Int32 × Mem) :=
  if v1 = 0 then
  (some ((S.1 3 2), S))
  else
  (if v1 = 1 then
  (some ((S.1 3 3), S))
  else
  (some ((-1 : Int32), S)))

set_option maxHeartbeats 4000000 in
set_option maxRecDepth 100000 in
theorem c_X9_fault {v1 : Int32} {S : Mem} {r : Int32} {Sf : Mem} (h : f_X9_fault v1 S = some (r, Sf)) : MetI yX9_fault cX9_fault 2 (some .int) 0 [.ref 0, .int v1] SKC S r Sf := by
  refine MetI.intro (by decide +kernel) (Nat.le_of_ble_eq_true rfl) (fun X loc hX hQ => ?_)
  unfold f_X9_fault at h
  show AW X SKC loc 0 0 0 [(0, .ref 0), (1, .int v1)] [] S
  refine aw_iload_n (pc := 0) hX dX9_fault_0 rfl 1 rfl ?_
  by_cases c1_0 : v1 = 0
  · rw [if_pos c1_0] at h
    refine aw_look (pc := 1) hX (off := 27) (tgt := 28) dX9_fault_1 (by decide) (by rw [c1_0]; decide) (by decide) ?_
    refine aw_aload_n (pc := 28) hX dX9_fault_28 rfl 0 rfl ?_
    refine gf_X9_21 (pc := 29) hX kc0 rfl dX9_fault_29 ?_
    refine gf_X9_113 (pc := 32) hX kc3 rfl dX9_fault_32 ?_
    cases h
    exact aw_iret hX hQ dX9_fault_35
  · rw [if_neg c1_0] at h
    by_cases c1_1 : v1 = 1
    · rw [if_pos c1_1] at h
      refine aw_look (pc := 1) hX (off := 35) (tgt := 36) dX9_fault_1 (by decide) (by rw [c1_1]; decide) (by decide) ?_
      refine aw_aload_n (pc := 36) hX dX9_fault_36 rfl 0 rfl ?_
      refine gf_X9_21 (pc := 37) hX kc0 rfl dX9_fault_37 ?_
      refine gf_X9_116 (pc := 40) hX kc3 rfl dX9_fault_40 ?_
      cases h
      exact aw_iret hX hQ dX9_fault_43
    · rw [if_neg c1_1] at h
      refine aw_look (pc := 1) hX (off := 43) (tgt := 44) dX9_fault_1 (by decide) (by have e0 := ne_i c1_0 (by decide : (0 : Int32).toInt = 0); have e1 := ne_i c1_1 (by decide : (1 : Int32).toInt = 1); exact lk_out (by simp; omega)) (by decide) ?_
      refine aw_iconst (v := (-1 : Int32)) (pc := 44) hX dX9_fault_44 (by decide) ?_
      cases h
      exact aw_iret hX hQ dX9_fault_45

def f_X9_feed (v1 : Int32) (v2 : Int32) (v3 : Int32) (v4 : Int32) (v5 : Int32) (S : Mem) : Option (Int32 × Mem) :=
  if ((S.1 1 1) + (20 : Int32)) ≤ (700 : Int32) then
  ((f_X5_put v1 S).bind fun S23 =>
  (f_X5_put v2 S23).bind fun S31 =>
  (f_X5_put v3 S31).bind fun S39 =>
  (f_X5_put v4 S39).bind fun S48 =>
  (f_X5_put v5 S48).bind fun S57 =>
  some ((S57.1 1 1), S57))
  else
  (some ((-1 : Int32), S))

set_option maxHeartbeats 4000000 in
set_option maxRecDepth 100000 in
theorem c_X9_feed {v1 : Int32} {v2 : Int32} {v3 : Int32} {v4 : Int32} {v5 : Int32} {S : Mem} {r : Int32} {Sf : Mem} (h : f_X9_feed v1 v2 v3 v4 v5 S = some (r, Sf)) : MetI yX9_feed cX9_feed 6 (some .int) 1 [.ref 0, .int v1, .int v2, .int v3, .int v4, .int v5] SKC S r Sf := by
  refine MetI.intro (by decide +kernel) (Nat.le_of_ble_eq_true rfl) (fun X loc hX hQ => ?_)
  unfold f_X9_feed at h
  show AW X SKC loc 0 0 0 [(0, .ref 0), (1, .int v1), (2, .int v2), (3, .int v3), (4, .int v4), (5, .int v5)] [] S
  refine aw_aload_n (pc := 0) hX dX9_feed_0 rfl 0 rfl ?_
  refine gf_X9_14 (pc := 1) hX kc0 rfl dX9_feed_1 ?_
  refine gf_X9_75 (pc := 4) hX kc1 rfl dX9_feed_4 ?_
  refine aw_bipush (v := (20 : Int32)) (pc := 7) hX dX9_feed_7 (by decide) ?_
  refine aw_iadd (pc := 9) hX dX9_feed_9 ?_
  refine aw_sipush (v := (700 : Int32)) (pc := 10) hX dX9_feed_10 (by decide) ?_
  refine aw_icmp_le (pc := 13) hX (tgt := 18) dX9_feed_13 (by decide) (fun c13 => ?_) (fun c13 => ?_)
  · rw [if_pos c13] at h
    refine aw_aload_n (pc := 18) hX dX9_feed_18 rfl 0 rfl ?_
    refine gf_X9_14 (pc := 19) hX kc0 rfl dX9_feed_19 ?_
    refine aw_iload_n (pc := 22) hX dX9_feed_22 rfl 1 rfl ?_
    obtain ⟨S23, hr23, h⟩ := ob h
    refine aw_cVV (pc := 23) (As := [.int v1]) (rest := []) hX (c_X5_put hr23) ok_X5_put kw_2_182 im_X5_put se_X5_put rfl kc1 rfl (by decide) (Nat.le_of_ble_eq_true rfl) rfl dX9_feed_23 (Nat.le_refl 0) (Nat.le_refl 0) ?_
    refine aw_aload_n (pc := 26) hX dX9_feed_26 rfl 0 rfl ?_
    refine gf_X9_14 (pc := 27) hX kc0 rfl dX9_feed_27 ?_
    refine aw_iload_n (pc := 30) hX dX9_feed_30 rfl 2 rfl ?_
    obtain ⟨S31, hr31, h⟩ := ob h
    refine aw_cVV (pc := 31) (As := [.int v2]) (rest := []) hX (c_X5_put hr31) ok_X5_put kw_2_182 im_X5_put se_X5_put rfl kc1 rfl (by decide) (Nat.le_of_ble_eq_true rfl) rfl dX9_feed_31 (Nat.le_refl 0) (Nat.le_refl 0) ?_
    refine aw_aload_n (pc := 34) hX dX9_feed_34 rfl 0 rfl ?_
    refine gf_X9_14 (pc := 35) hX kc0 rfl dX9_feed_35 ?_
    refine aw_iload_n (pc := 38) hX dX9_feed_38 rfl 3 rfl ?_
    obtain ⟨S39, hr39, h⟩ := ob h
    refine aw_cVV (pc := 39) (As := [.int v3]) (rest := []) hX (c_X5_put hr39) ok_X5_put kw_2_182 im_X5_put se_X5_put rfl kc1 rfl (by decide) (Nat.le_of_ble_eq_true rfl) rfl dX9_feed_39 (Nat.le_refl 0) (Nat.le_refl 0) ?_
    refine aw_aload_n (pc := 42) hX dX9_feed_42 rfl 0 rfl ?_
    refine gf_X9_14 (pc := 43) hX kc0 rfl dX9_feed_43 ?_
    refine aw_iload (pc := 46) hX dX9_feed_46 4 rfl ?_
    obtain ⟨S48, hr48, h⟩ := ob h
    refine aw_cVV (pc := 48) (As := [.int v4]) (rest := []) hX (c_X5_put hr48) ok_X5_put kw_2_182 im_X5_put se_X5_put rfl kc1 rfl (by decide) (Nat.le_of_ble_eq_true rfl) rfl dX9_feed_48 (Nat.le_refl 0) (Nat.le_refl 0) ?_
    refine aw_aload_n (pc := 51) hX dX9_feed_51 rfl 0 rfl ?_
    refine gf_X9_14 (pc := 52) hX kc0 rfl dX9_feed_52 ?_
    refine aw_iload (pc := 55) hX dX9_feed_55 5 rfl ?_
    obtain ⟨S57, hr57, h⟩ := ob h
    refine aw_cVV (pc := 57) (As := [.int v5]) (rest := []) hX (c_X5_put hr57) ok_X5_put kw_2_182 im_X5_put se_X5_put rfl kc1 rfl (by decide) (Nat.le_of_ble_eq_true rfl) rfl dX9_feed_57 (Nat.le_refl 0) (Nat.le_refl 0) ?_
    refine aw_aload_n (pc := 60) hX dX9_feed_60 rfl 0 rfl ?_
    refine gf_X9_14 (pc := 61) hX kc0 rfl dX9_feed_61 ?_
    refine gf_X9_75 (pc := 64) hX kc1 rfl dX9_feed_64 ?_
    cases h
    exact aw_iret hX hQ dX9_feed_67
  · rw [if_neg c13] at h
    refine aw_iconst (v := (-1 : Int32)) (pc := 16) hX dX9_feed_16 (by decide) ?_
    cases h
    exact aw_iret hX hQ dX9_feed_17

def f_X9_firstBreach_13 : Nat → Int32 → Mem → Option (Int32 × Mem)
  | 0, _, _ => none
  | n + 1, v1, S =>
  if (99 : Int32) < v1 then
  (some ((-2 : Int32), S))
  else
  ((f_X8_run 69 (1 : Int32) (0 : Int32) S).bind fun S25 =>
  bnd (f_X8_breachesOfBoth 69 S25) fun r32 S32 =>
  bnd (f_X8_breachesOfBoth 53 S32) fun r39 S39 =>
  if r32 ≤ r39 then
  (f_X9_firstBreach_13 n (v1 + 1) S39)
  else
  (some (v1, S39)))

def f_X9_firstBreach (S : Mem) : Option (Int32 × Mem) :=
  (f_X8_take 69 53 S).bind fun S8 =>
  f_X9_firstBreach_13 FU (1 : Int32) S8

set_option maxHeartbeats 4000000 in
set_option maxRecDepth 100000 in
theorem c_X9_firstBreach_13 {X : XT} {loc : Nat → Nat} {r : Int32} {Sf : Mem} (hX : AC X loc RX9 cX9_firstBreach (some .int) 2 6 0 0) (hQ : RetI X SKC loc 0 0 r Sf) : ∀ (n : Nat) (v1 : Int32) (S : Mem), f_X9_firstBreach_13 n v1 S = some (r, Sf) → AW X SKC loc 0 0 13 [(0, .ref 0), (1, .int v1)] [] S := by
  intro n
  induction n with
  | zero => intro v1 S h; cases h
  | succ n ih =>
    intro v1 S h
    unfold f_X9_firstBreach_13 at h
    refine aw_iload_n (pc := 13) hX dX9_firstBreach_13 rfl 1 rfl ?_
    refine aw_bipush (v := (99 : Int32)) (pc := 14) hX dX9_firstBreach_14 (by decide) ?_
    refine aw_icmp_gt (pc := 16) hX (tgt := 53) dX9_firstBreach_16 (by decide) (fun c16 => ?_) (fun c16 => ?_)
    · rw [if_pos c16] at h
      refine aw_bipush (v := (-2 : Int32)) (pc := 53) hX dX9_firstBreach_53 (by decide) ?_
      cases h
      exact aw_iret hX hQ dX9_firstBreach_55
    · rw [if_neg c16] at h
      refine aw_aload_n (pc := 19) hX dX9_firstBreach_19 rfl 0 rfl ?_
      refine gf_X9_44 (pc := 20) hX kc0 rfl dX9_firstBreach_20 ?_
      refine aw_iconst (v := (1 : Int32)) (pc := 23) hX dX9_firstBreach_23 (by decide) ?_
      refine aw_iconst (v := (0 : Int32)) (pc := 24) hX dX9_firstBreach_24 (by decide) ?_
      obtain ⟨S25, hr25, h⟩ := ob h
      refine aw_cVV (pc := 25) (As := [.int (1 : Int32), .int (0 : Int32)]) (rest := []) hX (c_X8_run (sk := SKC) isW69 isT31 hr25) ok_X8_run kw_4_49 im_X8_run se_X8_run rfl isW69.1 rfl (by decide) (Nat.le_of_ble_eq_true rfl) rfl dX9_firstBreach_25 (Nat.le_refl 0) (Nat.le_refl 0) ?_
      refine aw_aload_n (pc := 28) hX dX9_firstBreach_28 rfl 0 rfl ?_
      refine gf_X9_44 (pc := 29) hX kc0 rfl dX9_firstBreach_29 ?_
      obtain ⟨r32, S32, hr32, h⟩ := ob2 h
      refine aw_cVI (pc := 32) (As := []) (rest := []) hX (c_X8_breachesOfBoth (sk := SKC) isW69 isT31 hr32) ok_X8_breachesOfBoth kw_4_102 im_X8_breachesOfBoth se_X8_breachesOfBoth rfl isW69.1 rfl (by decide) (Nat.le_of_ble_eq_true rfl) rfl dX9_firstBreach_32 (Nat.le_refl 0) (Nat.le_refl 0) ?_
      refine aw_aload_n (pc := 35) hX dX9_firstBreach_35 rfl 0 rfl ?_
      refine gf_X9_37 (pc := 36) hX kc0 rfl dX9_firstBreach_36 ?_
      obtain ⟨r39, S39, hr39, h⟩ := ob2 h
      refine aw_cVI (pc := 39) (As := []) (rest := [.int r32]) hX (c_X8_breachesOfBoth (sk := SKC) isW53 isT31 hr39) ok_X8_breachesOfBoth kw_4_102 im_X8_breachesOfBoth se_X8_breachesOfBoth rfl isW53.1 rfl (by decide) (Nat.le_of_ble_eq_true rfl) rfl dX9_firstBreach_39 (Nat.le_refl 0) (Nat.le_refl 0) ?_
      refine aw_icmp_le (pc := 42) hX (tgt := 47) dX9_firstBreach_42 (by decide) (fun c42 => ?_) (fun c42 => ?_)
      · rw [if_pos c42] at h
        refine aw_iinc (v := (v1 + 1)) (ls' := [(1, .int (v1 + 1)), (0, .ref 0)]) (pc := 47) hX dX9_firstBreach_47 (pos := 1) rfl (by first | rfl | decide) (by decide) rfl ?_
        refine aw_goto (tgt := 13) (pc := 50) hX dX9_firstBreach_50 (by decide) ?_
        refine aw_sub (ls' := [(0, .ref 0), (1, .int (v1 + 1))]) [1, 0] rfl ?_
        exact ih (v1 + 1) S39 h
      · rw [if_neg c42] at h
        refine aw_iload_n (pc := 45) hX dX9_firstBreach_45 rfl 1 rfl ?_
        cases h
        exact aw_iret hX hQ dX9_firstBreach_46

set_option maxHeartbeats 4000000 in
set_option maxRecDepth 100000 in
theorem c_X9_firstBreach {S : Mem} {r : Int32} {Sf : Mem} (h : f_X9_firstBreach S = some (r, Sf)) : MetI yX9_firstBreach cX9_firstBreach 2 (some .int) 6 [.ref 0] SKC S r Sf := by
  refine MetI.intro (by decide +kernel) (Nat.le_of_ble_eq_true rfl) (fun X loc hX hQ => ?_)
  unfold f_X9_firstBreach at h
  show AW X SKC loc 0 0 0 [(0, .ref 0)] [] S
  refine aw_aload_n (pc := 0) hX dX9_firstBreach_0 rfl 0 rfl ?_
  refine gf_X9_44 (pc := 1) hX kc0 rfl dX9_firstBreach_1 ?_
  refine aw_aload_n (pc := 4) hX dX9_firstBreach_4 rfl 0 rfl ?_
  refine gf_X9_37 (pc := 5) hX kc0 rfl dX9_firstBreach_5 ?_
  obtain ⟨S8, hr8, h⟩ := ob h
  refine aw_cVV (pc := 8) (As := [.ref 53]) (rest := []) hX (c_X8_take (sk := SKC) isW69 isT31 isW53 hr8) ok_X8_take kw_4_98 im_X8_take se_X8_take rfl isW69.1 rfl (by decide) (Nat.le_of_ble_eq_true rfl) rfl dX9_firstBreach_8 (Nat.le_refl 0) (Nat.le_refl 0) ?_
  refine aw_iconst (v := (1 : Int32)) (pc := 11) hX dX9_firstBreach_11 (by decide) ?_
  refine aw_istore_n (ls' := [(1, .int (1 : Int32)), (0, .ref 0)]) (pc := 12) hX dX9_firstBreach_12 rfl (by decide) rfl ?_
  refine aw_sub (ls' := [(0, .ref 0), (1, .int (1 : Int32))]) [1, 0] rfl ?_
  exact c_X9_firstBreach_13 hX hQ FU (1 : Int32) S8 h

def f_X9_gain_31 (v1 : Int32) (v3 : Int32) (t0 : Int32) (S : Mem) : Option (Int32 × Mem) :=
  if v3 = (1 : Int32) then
  (bnd (f_X8_ownHeld 53 v1 S) fun r57 S57 =>
  bnd (f_X7_sumOf 31 38 10 r57 S57) fun r60 S60 =>
  some ((t0 - ((5 : Int32) * r60)), S60))
  else
  (some (t0, S))

def f_X9_gain (v1 : Int32) (v2 : Int32) (v3 : Int32) (S : Mem) : Option (Int32 × Mem) :=
  if v2 = (1 : Int32) then
  (bnd (f_X8_holds 53 v1 S) fun r21 S21 =>
  bnd (f_X7_sumOf 31 39 10 r21 S21) fun r24 S24 =>
  f_X9_gain_31 v1 v3 r24 S24)
  else
  (f_X9_gain_31 v1 v3 (0 : Int32) S)

set_option maxHeartbeats 4000000 in
set_option maxRecDepth 100000 in
theorem c_X9_gain_31 {X : XT} {loc : Nat → Nat} {r : Int32} {Sf : Mem} (hX : AC X loc RX9 cX9_gain (some .int) 5 1 0 0) (hQ : RetI X SKC loc 0 0 r Sf) (v1 : Int32) (v3 : Int32) (t0 : Int32) (S : Mem) (h : f_X9_gain_31 v1 v3 t0 S = some (r, Sf)) : AW X SKC loc 0 0 31 [(0, .ref 0), (1, .int v1), (3, .int v3)] [.int t0] S := by
  unfold f_X9_gain_31 at h
  refine aw_istore (ls' := [(4, .int t0), (0, .ref 0), (1, .int v1), (3, .int v3)]) (pc := 31) hX dX9_gain_31 (by decide) rfl ?_
  refine aw_iload_n (pc := 33) hX dX9_gain_33 rfl 3 rfl ?_
  refine aw_iconst (v := (1 : Int32)) (pc := 34) hX dX9_gain_34 (by decide) ?_
  refine aw_icmp_ne (pc := 35) hX (tgt := 68) dX9_gain_35 (by decide) (fun c35 => ?_) (fun c35 => ?_)
  · rw [if_neg c35] at h
    refine aw_iload (pc := 68) hX dX9_gain_68 0 rfl ?_
    cases h
    exact aw_iret hX hQ dX9_gain_70
  · rw [if_pos c35] at h
    refine aw_iload (pc := 38) hX dX9_gain_38 0 rfl ?_
    refine aw_iconst (v := (5 : Int32)) (pc := 40) hX dX9_gain_40 (by decide) ?_
    refine aw_aload_n (pc := 41) hX dX9_gain_41 rfl 1 rfl ?_
    refine gf_X9_28 (pc := 42) hX kc0 rfl dX9_gain_42 ?_
    refine aw_aload_n (pc := 45) hX dX9_gain_45 rfl 1 rfl ?_
    refine gf_X9_28 (pc := 46) hX kc0 rfl dX9_gain_46 ?_
    refine gf_X9_152 (pc := 49) hX isT31.1 rfl dX9_gain_49 ?_
    refine aw_aload_n (pc := 52) hX dX9_gain_52 rfl 1 rfl ?_
    refine gf_X9_37 (pc := 53) hX kc0 rfl dX9_gain_53 ?_
    refine aw_iload_n (pc := 56) hX dX9_gain_56 rfl 2 rfl ?_
    obtain ⟨r57, S57, hr57, h⟩ := ob2 h
    refine aw_cVI (pc := 57) (As := [.int v1]) (rest := [.ref 38, .ref 31, .int (5 : Int32), .int t0]) hX (c_X8_ownHeld (sk := SKC) isW53 isT31 hr57) ok_X8_ownHeld kw_3_190 im_X8_ownHeld se_X8_ownHeld rfl isW53.1 rfl (by decide) (Nat.le_of_ble_eq_true rfl) rfl dX9_gain_57 (Nat.le_refl 0) (Nat.le_refl 0) ?_
    obtain ⟨r60, S60, hr60, h⟩ := ob2 h
    refine aw_cVI (pc := 60) (As := [.ref 38, .int r57]) (rest := [.int (5 : Int32), .int t0]) hX (c_X7_sumOf (sk := SKC) isT31 kc38 hr60) ok_X7_sumOf kw_3_194 im_X7_sumOf se_X7_sumOf rfl isT31.1 rfl (by decide) (Nat.le_of_ble_eq_true rfl) rfl dX9_gain_60 (Nat.le_refl 0) (Nat.le_refl 0) ?_
    refine aw_imul (pc := 63) hX dX9_gain_63 ?_
    refine aw_isub (pc := 64) hX dX9_gain_64 ?_
    refine aw_goto (tgt := 70) (pc := 65) hX dX9_gain_65 (by decide) ?_
    cases h
    exact aw_iret hX hQ dX9_gain_70

set_option maxHeartbeats 4000000 in
set_option maxRecDepth 100000 in
theorem c_X9_gain {v1 : Int32} {v2 : Int32} {v3 : Int32} {S : Mem} {r : Int32} {Sf : Mem} (h : f_X9_gain v1 v2 v3 S = some (r, Sf)) : MetI yX9_gain cX9_gain 5 (some .int) 1 [.ref 0, .int v1, .int v2, .int v3] SKC S r Sf := by
  refine MetI.intro (by decide +kernel) (Nat.le_of_ble_eq_true rfl) (fun X loc hX hQ => ?_)
  unfold f_X9_gain at h
  show AW X SKC loc 0 0 0 [(0, .ref 0), (1, .int v1), (2, .int v2), (3, .int v3)] [] S
  refine aw_iload_n (pc := 0) hX dX9_gain_0 rfl 2 rfl ?_
  refine aw_iconst (v := (1 : Int32)) (pc := 1) hX dX9_gain_1 (by decide) ?_
  refine aw_icmp_ne (pc := 2) hX (tgt := 30) dX9_gain_2 (by decide) (fun c2 => ?_) (fun c2 => ?_)
  · rw [if_neg c2] at h
    refine aw_iconst (v := (0 : Int32)) (pc := 30) hX dX9_gain_30 (by decide) ?_
    refine aw_sub (ls' := [(0, .ref 0), (1, .int v1), (3, .int v3)]) [0, 1, 3] rfl ?_
    exact c_X9_gain_31 hX hQ v1 v3 (0 : Int32) S h
  · rw [if_pos c2] at h
    refine aw_aload_n (pc := 5) hX dX9_gain_5 rfl 0 rfl ?_
    refine gf_X9_28 (pc := 6) hX kc0 rfl dX9_gain_6 ?_
    refine aw_aload_n (pc := 9) hX dX9_gain_9 rfl 0 rfl ?_
    refine gf_X9_28 (pc := 10) hX kc0 rfl dX9_gain_10 ?_
    refine gf_X9_155 (pc := 13) hX isT31.1 rfl dX9_gain_13 ?_
    refine aw_aload_n (pc := 16) hX dX9_gain_16 rfl 0 rfl ?_
    refine gf_X9_37 (pc := 17) hX kc0 rfl dX9_gain_17 ?_
    refine aw_iload_n (pc := 20) hX dX9_gain_20 rfl 1 rfl ?_
    obtain ⟨r21, S21, hr21, h⟩ := ob2 h
    refine aw_cVI (pc := 21) (As := [.int v1]) (rest := [.ref 39, .ref 31]) hX (c_X8_holds (sk := SKC) isW53 isT31 hr21) ok_X8_holds kw_3_186 im_X8_holds se_X8_holds rfl isW53.1 rfl (by decide) (Nat.le_of_ble_eq_true rfl) rfl dX9_gain_21 (Nat.le_refl 0) (Nat.le_refl 0) ?_
    obtain ⟨r24, S24, hr24, h⟩ := ob2 h
    refine aw_cVI (pc := 24) (As := [.ref 39, .int r21]) (rest := []) hX (c_X7_sumOf (sk := SKC) isT31 kc39 hr24) ok_X7_sumOf kw_3_194 im_X7_sumOf se_X7_sumOf rfl isT31.1 rfl (by decide) (Nat.le_of_ble_eq_true rfl) rfl dX9_gain_24 (Nat.le_refl 0) (Nat.le_refl 0) ?_
    refine aw_goto (tgt := 31) (pc := 27) hX dX9_gain_27 (by decide) ?_
    refine aw_sub (ls' := [(0, .ref 0), (1, .int v1), (3, .int v3)]) [0, 1, 3] rfl ?_
    exact c_X9_gain_31 hX hQ v1 v3 r24 S24 h

def f_X9_give (v1 : Int32) (v2 : Int32) (S : Mem) : Option (Int32 × Mem) :=
  bnd (f_X9_isHeldDoll v1 S) fun r2 S2 =>
  if r2 = 0 then
  (some ((0 : Int32), S2))
  else
  (bnd (f_X9_isNurse v2 S2) fun r10 S10 =>
  if r10 = 0 then
  (some ((0 : Int32), S10))
  else
  ((rd S10 54 10 v1).bind fun x24 =>
  if x24 = v2 then
  (some ((0 : Int32), S10))
  else
  ((rd S10 33 6 v2).bind fun x37 =>
  (rd S10 37 10 v1).bind fun x46 =>
  if x37 = x46 then
  (some ((0 : Int32), S10))
  else
  ((rd S10 54 10 v1).bind fun x66 =>
  (f_X0_add (2 : Int32) v1 x66 S10).bind fun S67 =>
  (wr S67 54 10 v1 v2).bind fun S79 =>
  (f_X3_forget S79).bind fun S84 =>
  some ((1 : Int32), S84)))))

set_option maxHeartbeats 4000000 in
set_option maxRecDepth 100000 in
theorem c_X9_give {v1 : Int32} {v2 : Int32} {S : Mem} {r : Int32} {Sf : Mem} (h : f_X9_give v1 v2 S = some (r, Sf)) : MetI yX9_give cX9_give 3 (some .boolean) 2 [.ref 0, .int v1, .int v2] SKC S r Sf := by
  refine MetI.intro (by decide +kernel) (Nat.le_of_ble_eq_true rfl) (fun X loc hX hQ => ?_)
  unfold f_X9_give at h
  show AW X SKC loc 0 0 0 [(0, .ref 0), (1, .int v1), (2, .int v2)] [] S
  refine aw_aload_n (pc := 0) hX dX9_give_0 rfl 0 rfl ?_
  refine aw_iload_n (pc := 1) hX dX9_give_1 rfl 1 rfl ?_
  obtain ⟨r2, S2, hr2, h⟩ := ob2 h
  refine aw_cVI (pc := 2) (As := [.int v1]) (rest := []) hX (c_X9_isHeldDoll hr2) ok_X9_isHeldDoll kw_3_202 im_X9_isHeldDoll se_X9_isHeldDoll rfl kc0 rfl (by decide) (Nat.le_of_ble_eq_true rfl) rfl dX9_give_2 (Nat.le_refl 0) (Nat.le_refl 0) ?_
  refine aw_if_eq (pc := 5) hX (tgt := 50) dX9_give_5 (by decide) (fun c5 => ?_) (fun c5 => ?_)
  · rw [if_pos c5] at h
    refine aw_iconst (v := (0 : Int32)) (pc := 50) hX dX9_give_50 (by decide) ?_
    cases h
    exact aw_zret hX hQ (by decide) dX9_give_51
  · rw [if_neg c5] at h
    refine aw_aload_n (pc := 8) hX dX9_give_8 rfl 0 rfl ?_
    refine aw_iload_n (pc := 9) hX dX9_give_9 rfl 2 rfl ?_
    obtain ⟨r10, S10, hr10, h⟩ := ob2 h
    refine aw_cVI (pc := 10) (As := [.int v2]) (rest := []) hX (c_X9_isNurse hr10) ok_X9_isNurse kw_3_167 im_X9_isNurse se_X9_isNurse rfl kc0 rfl (by decide) (Nat.le_of_ble_eq_true rfl) rfl dX9_give_10 (Nat.le_refl 0) (Nat.le_refl 0) ?_
    refine aw_if_eq (pc := 13) hX (tgt := 50) dX9_give_13 (by decide) (fun c13 => ?_) (fun c13 => ?_)
    · rw [if_pos c13] at h
      refine aw_iconst (v := (0 : Int32)) (pc := 50) hX dX9_give_50 (by decide) ?_
      cases h
      exact aw_zret hX hQ (by decide) dX9_give_51
    · rw [if_neg c13] at h
      refine aw_aload_n (pc := 16) hX dX9_give_16 rfl 0 rfl ?_
      refine gf_X9_37 (pc := 17) hX kc0 rfl dX9_give_17 ?_
      refine gf_X9_146 (pc := 20) hX isW53.1 rfl dX9_give_20 ?_
      refine aw_iload_n (pc := 23) hX dX9_give_23 rfl 1 rfl ?_
      obtain ⟨x24, hx24, h⟩ := ob h
      refine aw_iald (pc := 24) hX kc54 hx24 dX9_give_24 ?_
      refine aw_iload_n (pc := 25) hX dX9_give_25 rfl 2 rfl ?_
      refine aw_icmp_eq (pc := 26) hX (tgt := 50) dX9_give_26 (by decide) (fun c26 => ?_) (fun c26 => ?_)
      · rw [if_pos c26] at h
        refine aw_iconst (v := (0 : Int32)) (pc := 50) hX dX9_give_50 (by decide) ?_
        cases h
        exact aw_zret hX hQ (by decide) dX9_give_51
      · rw [if_neg c26] at h
        refine aw_aload_n (pc := 29) hX dX9_give_29 rfl 0 rfl ?_
        refine gf_X9_28 (pc := 30) hX kc0 rfl dX9_give_30 ?_
        refine gf_X9_175 (pc := 33) hX isT31.1 rfl dX9_give_33 ?_
        refine aw_iload_n (pc := 36) hX dX9_give_36 rfl 2 rfl ?_
        obtain ⟨x37, hx37, h⟩ := ob h
        refine aw_iald (pc := 37) hX kc33 hx37 dX9_give_37 ?_
        refine aw_aload_n (pc := 38) hX dX9_give_38 rfl 0 rfl ?_
        refine gf_X9_28 (pc := 39) hX kc0 rfl dX9_give_39 ?_
        refine gf_X9_149 (pc := 42) hX isT31.1 rfl dX9_give_42 ?_
        refine aw_iload_n (pc := 45) hX dX9_give_45 rfl 1 rfl ?_
        obtain ⟨x46, hx46, h⟩ := ob h
        refine aw_iald (pc := 46) hX kc37 hx46 dX9_give_46 ?_
        refine aw_icmp_ne (pc := 47) hX (tgt := 52) dX9_give_47 (by decide) (fun c47 => ?_) (fun c47 => ?_)
        · rw [if_neg c47] at h
          refine aw_aload_n (pc := 52) hX dX9_give_52 rfl 0 rfl ?_
          refine gf_X9_57 (pc := 53) hX kc0 rfl dX9_give_53 ?_
          refine aw_iconst (v := (2 : Int32)) (pc := 56) hX dX9_give_56 (by decide) ?_
          refine aw_iload_n (pc := 57) hX dX9_give_57 rfl 1 rfl ?_
          refine aw_aload_n (pc := 58) hX dX9_give_58 rfl 0 rfl ?_
          refine gf_X9_37 (pc := 59) hX kc0 rfl dX9_give_59 ?_
          refine gf_X9_146 (pc := 62) hX isW53.1 rfl dX9_give_62 ?_
          refine aw_iload_n (pc := 65) hX dX9_give_65 rfl 1 rfl ?_
          obtain ⟨x66, hx66, h⟩ := ob h
          refine aw_iald (pc := 66) hX kc54 hx66 dX9_give_66 ?_
          obtain ⟨S67, hr67, h⟩ := ob h
          refine aw_cVV (pc := 67) (As := [.int (2 : Int32), .int v1, .int x66]) (rest := []) hX (c_X0_add hr67) ok_X0_add kw_4_20 im_X0_add se_X0_add rfl kc84 rfl (by decide) (Nat.le_of_ble_eq_true rfl) rfl dX9_give_67 (Nat.le_refl 0) (Nat.le_refl 0) ?_
          refine aw_aload_n (pc := 70) hX dX9_give_70 rfl 0 rfl ?_
          refine gf_X9_37 (pc := 71) hX kc0 rfl dX9_give_71 ?_
          refine gf_X9_146 (pc := 74) hX isW53.1 rfl dX9_give_74 ?_
          refine aw_iload_n (pc := 77) hX dX9_give_77 rfl 1 rfl ?_
          refine aw_iload_n (pc := 78) hX dX9_give_78 rfl 2 rfl ?_
          obtain ⟨S79, hS79, h⟩ := ob h
          refine aw_iast (pc := 79) hX kc54 hS79 dX9_give_79 ?_
          refine aw_aload_n (pc := 80) hX dX9_give_80 rfl 0 rfl ?_
          refine gf_X9_64 (pc := 81) hX kc0 rfl dX9_give_81 ?_
          obtain ⟨S84, hr84, h⟩ := ob h
          refine aw_cVV (pc := 84) (As := []) (rest := []) hX (c_X3_forget hr84) ok_X3_forget kw_3_149 im_X3_forget se_X3_forget rfl kc88 rfl (by decide) (Nat.le_of_ble_eq_true rfl) rfl dX9_give_84 (Nat.le_refl 0) (Nat.le_refl 0) ?_
          refine aw_iconst (v := (1 : Int32)) (pc := 87) hX dX9_give_87 (by decide) ?_
          cases h
          exact aw_zret hX hQ (by decide) dX9_give_88
        · rw [if_pos c47] at h
          refine aw_iconst (v := (0 : Int32)) (pc := 50) hX dX9_give_50 (by decide) ?_
          cases h
          exact aw_zret hX hQ (by decide) dX9_give_51

def f_X9_go (v1 : Int32) (S : Mem) : Option (Int32 × Mem) :=
  if v1 < 0 then
  (some ((-1 : Int32), S))
  else
  (if (99 : Int32) < v1 then
  (some ((-1 : Int32), S))
  else
  (if ((S.1 53 0) + v1) ≤ (9900 : Int32) then
  (if v1 ≤ 0 then
  (some ((S.1 53 0), S))
  else
  ((f_X8_run 53 v1 (1 : Int32) S).bind fun S37 =>
  (f_X9_settle S37).bind fun S41 =>
  some ((S41.1 53 0), S41)))
  else
  (some ((-1 : Int32), S))))

set_option maxHeartbeats 4000000 in
set_option maxRecDepth 100000 in
theorem c_X9_go {v1 : Int32} {S : Mem} {r : Int32} {Sf : Mem} (h : f_X9_go v1 S = some (r, Sf)) : MetI yX9_go cX9_go 2 (some .int) 6 [.ref 0, .int v1] SKC S r Sf := by
  refine MetI.intro (by decide +kernel) (Nat.le_of_ble_eq_true rfl) (fun X loc hX hQ => ?_)
  unfold f_X9_go at h
  show AW X SKC loc 0 0 0 [(0, .ref 0), (1, .int v1)] [] S
  refine aw_iload_n (pc := 0) hX dX9_go_0 rfl 1 rfl ?_
  refine aw_if_lt (pc := 1) hX (tgt := 25) dX9_go_1 (by decide) (fun c1 => ?_) (fun c1 => ?_)
  · rw [if_pos c1] at h
    refine aw_iconst (v := (-1 : Int32)) (pc := 25) hX dX9_go_25 (by decide) ?_
    cases h
    exact aw_iret hX hQ dX9_go_26
  · rw [if_neg c1] at h
    refine aw_iload_n (pc := 4) hX dX9_go_4 rfl 1 rfl ?_
    refine aw_bipush (v := (99 : Int32)) (pc := 5) hX dX9_go_5 (by decide) ?_
    refine aw_icmp_gt (pc := 7) hX (tgt := 25) dX9_go_7 (by decide) (fun c7 => ?_) (fun c7 => ?_)
    · rw [if_pos c7] at h
      refine aw_iconst (v := (-1 : Int32)) (pc := 25) hX dX9_go_25 (by decide) ?_
      cases h
      exact aw_iret hX hQ dX9_go_26
    · rw [if_neg c7] at h
      refine aw_aload_n (pc := 10) hX dX9_go_10 rfl 0 rfl ?_
      refine gf_X9_37 (pc := 11) hX kc0 rfl dX9_go_11 ?_
      refine gf_X9_242 (pc := 14) hX isW53.1 rfl dX9_go_14 ?_
      refine aw_iload_n (pc := 17) hX dX9_go_17 rfl 1 rfl ?_
      refine aw_iadd (pc := 18) hX dX9_go_18 ?_
      refine aw_sipush (v := (9900 : Int32)) (pc := 19) hX dX9_go_19 (by decide) ?_
      refine aw_icmp_le (pc := 22) hX (tgt := 27) dX9_go_22 (by decide) (fun c22 => ?_) (fun c22 => ?_)
      · rw [if_pos c22] at h
        refine aw_iload_n (pc := 27) hX dX9_go_27 rfl 1 rfl ?_
        refine aw_if_le (pc := 28) hX (tgt := 44) dX9_go_28 (by decide) (fun c28 => ?_) (fun c28 => ?_)
        · rw [if_pos c28] at h
          refine aw_aload_n (pc := 44) hX dX9_go_44 rfl 0 rfl ?_
          refine gf_X9_37 (pc := 45) hX kc0 rfl dX9_go_45 ?_
          refine gf_X9_242 (pc := 48) hX isW53.1 rfl dX9_go_48 ?_
          cases h
          exact aw_iret hX hQ dX9_go_51
        · rw [if_neg c28] at h
          refine aw_aload_n (pc := 31) hX dX9_go_31 rfl 0 rfl ?_
          refine gf_X9_37 (pc := 32) hX kc0 rfl dX9_go_32 ?_
          refine aw_iload_n (pc := 35) hX dX9_go_35 rfl 1 rfl ?_
          refine aw_iconst (v := (1 : Int32)) (pc := 36) hX dX9_go_36 (by decide) ?_
          obtain ⟨S37, hr37, h⟩ := ob h
          refine aw_cVV (pc := 37) (As := [.int v1, .int (1 : Int32)]) (rest := []) hX (c_X8_run (sk := SKC) isW53 isT31 hr37) ok_X8_run kw_4_49 im_X8_run se_X8_run rfl isW53.1 rfl (by decide) (Nat.le_of_ble_eq_true rfl) rfl dX9_go_37 (Nat.le_refl 0) (Nat.le_refl 0) ?_
          refine aw_aload_n (pc := 40) hX dX9_go_40 rfl 0 rfl ?_
          obtain ⟨S41, hr41, h⟩ := ob h
          refine aw_cVV (pc := 41) (As := []) (rest := []) hX (c_X9_settle hr41) ok_X9_settle kw_3_145 im_X9_settle se_X9_settle rfl kc0 rfl (by decide) (Nat.le_of_ble_eq_true rfl) rfl dX9_go_41 (Nat.le_refl 0) (Nat.le_refl 0) ?_
          refine aw_aload_n (pc := 44) hX dX9_go_44 rfl 0 rfl ?_
          refine gf_X9_37 (pc := 45) hX kc0 rfl dX9_go_45 ?_
          refine gf_X9_242 (pc := 48) hX isW53.1 rfl dX9_go_48 ?_
          cases h
          exact aw_iret hX hQ dX9_go_51
      · rw [if_neg c22] at h
        refine aw_iconst (v := (-1 : Int32)) (pc := 25) hX dX9_go_25 (by decide) ?_
        cases h
        exact aw_iret hX hQ dX9_go_26

def f_X9_isRest (v1 : Int32) (v2 : Int32) (S : Mem) : Option (Int32 × Mem) :=
  bnd (f_X9_gain (0 : Int32) v1 v2 S) fun r4 S4 =>
  bnd (f_X9_gain (0 : Int32) ((1 : Int32) - v1) v2 S4) fun r13 S13 =>
  if r4 < r13 then
  (some ((0 : Int32), S13))
  else
  (bnd (f_X9_gain (1 : Int32) v2 v1 S13) fun r23 S23 =>
  bnd (f_X9_gain (1 : Int32) ((1 : Int32) - v2) v1 S23) fun r32 S32 =>
  if r23 < r32 then
  (some ((0 : Int32), S32))
  else
  (some ((1 : Int32), S32)))

set_option maxHeartbeats 4000000 in
set_option maxRecDepth 100000 in
theorem c_X9_isRest {v1 : Int32} {v2 : Int32} {S : Mem} {r : Int32} {Sf : Mem} (h : f_X9_isRest v1 v2 S = some (r, Sf)) : MetI yX9_isRest cX9_isRest 3 (some .boolean) 2 [.ref 0, .int v1, .int v2] SKC S r Sf := by
  refine MetI.intro (by decide +kernel) (Nat.le_of_ble_eq_true rfl) (fun X loc hX hQ => ?_)
  unfold f_X9_isRest at h
  show AW X SKC loc 0 0 0 [(0, .ref 0), (1, .int v1), (2, .int v2)] [] S
  refine aw_aload_n (pc := 0) hX dX9_isRest_0 rfl 0 rfl ?_
  refine aw_iconst (v := (0 : Int32)) (pc := 1) hX dX9_isRest_1 (by decide) ?_
  refine aw_iload_n (pc := 2) hX dX9_isRest_2 rfl 1 rfl ?_
  refine aw_iload_n (pc := 3) hX dX9_isRest_3 rfl 2 rfl ?_
  obtain ⟨r4, S4, hr4, h⟩ := ob2 h
  refine aw_cVI (pc := 4) (As := [.int (0 : Int32), .int v1, .int v2]) (rest := []) hX (c_X9_gain hr4) ok_X9_gain kw_4_175 im_X9_gain se_X9_gain rfl kc0 rfl (by decide) (Nat.le_of_ble_eq_true rfl) rfl dX9_isRest_4 (Nat.le_refl 0) (Nat.le_refl 0) ?_
  refine aw_aload_n (pc := 7) hX dX9_isRest_7 rfl 0 rfl ?_
  refine aw_iconst (v := (0 : Int32)) (pc := 8) hX dX9_isRest_8 (by decide) ?_
  refine aw_iconst (v := (1 : Int32)) (pc := 9) hX dX9_isRest_9 (by decide) ?_
  refine aw_iload_n (pc := 10) hX dX9_isRest_10 rfl 1 rfl ?_
  refine aw_isub (pc := 11) hX dX9_isRest_11 ?_
  refine aw_iload_n (pc := 12) hX dX9_isRest_12 rfl 2 rfl ?_
  obtain ⟨r13, S13, hr13, h⟩ := ob2 h
  refine aw_cVI (pc := 13) (As := [.int (0 : Int32), .int ((1 : Int32) - v1), .int v2]) (rest := [.int r4]) hX (c_X9_gain hr13) ok_X9_gain kw_4_175 im_X9_gain se_X9_gain rfl kc0 rfl (by decide) (Nat.le_of_ble_eq_true rfl) rfl dX9_isRest_13 (Nat.le_refl 0) (Nat.le_refl 0) ?_
  refine aw_icmp_lt (pc := 16) hX (tgt := 42) dX9_isRest_16 (by decide) (fun c16 => ?_) (fun c16 => ?_)
  · rw [if_pos c16] at h
    refine aw_iconst (v := (0 : Int32)) (pc := 42) hX dX9_isRest_42 (by decide) ?_
    cases h
    exact aw_zret hX hQ (by decide) dX9_isRest_43
  · rw [if_neg c16] at h
    refine aw_aload_n (pc := 19) hX dX9_isRest_19 rfl 0 rfl ?_
    refine aw_iconst (v := (1 : Int32)) (pc := 20) hX dX9_isRest_20 (by decide) ?_
    refine aw_iload_n (pc := 21) hX dX9_isRest_21 rfl 2 rfl ?_
    refine aw_iload_n (pc := 22) hX dX9_isRest_22 rfl 1 rfl ?_
    obtain ⟨r23, S23, hr23, h⟩ := ob2 h
    refine aw_cVI (pc := 23) (As := [.int (1 : Int32), .int v2, .int v1]) (rest := []) hX (c_X9_gain hr23) ok_X9_gain kw_4_175 im_X9_gain se_X9_gain rfl kc0 rfl (by decide) (Nat.le_of_ble_eq_true rfl) rfl dX9_isRest_23 (Nat.le_refl 0) (Nat.le_refl 0) ?_
    refine aw_aload_n (pc := 26) hX dX9_isRest_26 rfl 0 rfl ?_
    refine aw_iconst (v := (1 : Int32)) (pc := 27) hX dX9_isRest_27 (by decide) ?_
    refine aw_iconst (v := (1 : Int32)) (pc := 28) hX dX9_isRest_28 (by decide) ?_
    refine aw_iload_n (pc := 29) hX dX9_isRest_29 rfl 2 rfl ?_
    refine aw_isub (pc := 30) hX dX9_isRest_30 ?_
    refine aw_iload_n (pc := 31) hX dX9_isRest_31 rfl 1 rfl ?_
    obtain ⟨r32, S32, hr32, h⟩ := ob2 h
    refine aw_cVI (pc := 32) (As := [.int (1 : Int32), .int ((1 : Int32) - v2), .int v1]) (rest := [.int r23]) hX (c_X9_gain hr32) ok_X9_gain kw_4_175 im_X9_gain se_X9_gain rfl kc0 rfl (by decide) (Nat.le_of_ble_eq_true rfl) rfl dX9_isRest_32 (Nat.le_refl 0) (Nat.le_refl 0) ?_
    refine aw_icmp_lt (pc := 35) hX (tgt := 42) dX9_isRest_35 (by decide) (fun c35 => ?_) (fun c35 => ?_)
    · rw [if_pos c35] at h
      refine aw_iconst (v := (0 : Int32)) (pc := 42) hX dX9_isRest_42 (by decide) ?_
      cases h
      exact aw_zret hX hQ (by decide) dX9_isRest_43
    · rw [if_neg c35] at h
      refine aw_iconst (v := (1 : Int32)) (pc := 38) hX dX9_isRest_38 (by decide) ?_
      refine aw_goto (tgt := 43) (pc := 39) hX dX9_isRest_39 (by decide) ?_
      cases h
      exact aw_zret hX hQ (by decide) dX9_isRest_43

def f_X9_keep (S : Mem) : Option (Int32 × Mem) :=
  (f_X8_take 61 53 S).bind fun S8 =>
  nxt (sI S8 0 9 (1 : Int32)) fun S13 =>
  some ((S13.1 53 0), S13)

set_option maxHeartbeats 4000000 in
set_option maxRecDepth 100000 in
theorem c_X9_keep {S : Mem} {r : Int32} {Sf : Mem} (h : f_X9_keep S = some (r, Sf)) : MetI yX9_keep cX9_keep 1 (some .int) 2 [.ref 0] SKC S r Sf := by
  refine MetI.intro (by decide +kernel) (Nat.le_of_ble_eq_true rfl) (fun X loc hX hQ => ?_)
  unfold f_X9_keep at h
  show AW X SKC loc 0 0 0 [(0, .ref 0)] [] S
  refine aw_aload_n (pc := 0) hX dX9_keep_0 rfl 0 rfl ?_
  refine gf_X9_41 (pc := 1) hX kc0 rfl dX9_keep_1 ?_
  refine aw_aload_n (pc := 4) hX dX9_keep_4 rfl 0 rfl ?_
  refine gf_X9_37 (pc := 5) hX kc0 rfl dX9_keep_5 ?_
  obtain ⟨S8, hr8, h⟩ := ob h
  refine aw_cVV (pc := 8) (As := [.ref 53]) (rest := []) hX (c_X8_take (sk := SKC) isW61 isT31 isW53 hr8) ok_X8_take kw_4_98 im_X8_take se_X8_take rfl isW61.1 rfl (by decide) (Nat.le_of_ble_eq_true rfl) rfl dX9_keep_8 (Nat.le_refl 0) (Nat.le_refl 0) ?_
  refine aw_aload_n (pc := 11) hX dX9_keep_11 rfl 0 rfl ?_
  refine aw_iconst (v := (1 : Int32)) (pc := 12) hX dX9_keep_12 (by decide) ?_
  refine pf_X9_68 (pc := 13) hX kc0 rfl (by decide) dX9_keep_13 ?_
  obtain ⟨S13, eS13, h⟩ := on h
  refine aw_S eS13 ?_
  refine aw_aload_n (pc := 16) hX dX9_keep_16 rfl 0 rfl ?_
  refine gf_X9_37 (pc := 17) hX kc0 rfl dX9_keep_17 ?_
  refine gf_X9_242 (pc := 20) hX isW53.1 rfl dX9_keep_20 ?_
  cases h
  exact aw_iret hX hQ dX9_keep_23

def f_X9_known (v1 : Int32) (S : Mem) : Option (Int32 × Mem) :=
  if v1 < (-1 : Int32) then
  (some ((0 : Int32), S))
  else
  (if v1 ≤ (S.1 77 0) then
  (nxt (sI S 77 1 v1) fun S23 =>
  some ((1 : Int32), S23))
  else
  (some ((0 : Int32), S)))

set_option maxHeartbeats 4000000 in
set_option maxRecDepth 100000 in
theorem c_X9_known {v1 : Int32} {S : Mem} {r : Int32} {Sf : Mem} (h : f_X9_known v1 S = some (r, Sf)) : MetI yX9_known cX9_known 2 (some .boolean) 0 [.ref 0, .int v1] SKC S r Sf := by
  refine MetI.intro (by decide +kernel) (Nat.le_of_ble_eq_true rfl) (fun X loc hX hQ => ?_)
  unfold f_X9_known at h
  show AW X SKC loc 0 0 0 [(0, .ref 0), (1, .int v1)] [] S
  refine aw_iload_n (pc := 0) hX dX9_known_0 rfl 1 rfl ?_
  refine aw_iconst (v := (-1 : Int32)) (pc := 1) hX dX9_known_1 (by decide) ?_
  refine aw_icmp_lt (pc := 2) hX (tgt := 16) dX9_known_2 (by decide) (fun c2 => ?_) (fun c2 => ?_)
  · rw [if_pos c2] at h
    refine aw_iconst (v := (0 : Int32)) (pc := 16) hX dX9_known_16 (by decide) ?_
    cases h
    exact aw_zret hX hQ (by decide) dX9_known_17
  · rw [if_neg c2] at h
    refine aw_iload_n (pc := 5) hX dX9_known_5 rfl 1 rfl ?_
    refine aw_aload_n (pc := 6) hX dX9_known_6 rfl 0 rfl ?_
    refine gf_X9_50 (pc := 7) hX kc0 rfl dX9_known_7 ?_
    refine gf_X9_298 (pc := 10) hX kc77 rfl dX9_known_10 ?_
    refine aw_icmp_le (pc := 13) hX (tgt := 18) dX9_known_13 (by decide) (fun c13 => ?_) (fun c13 => ?_)
    · rw [if_pos c13] at h
      refine aw_aload_n (pc := 18) hX dX9_known_18 rfl 0 rfl ?_
      refine gf_X9_50 (pc := 19) hX kc0 rfl dX9_known_19 ?_
      refine aw_iload_n (pc := 22) hX dX9_known_22 rfl 1 rfl ?_
      refine pf_X9_302 (pc := 23) hX kc77 rfl dX9_known_23 ?_
      obtain ⟨S23, eS23, h⟩ := on h
      refine aw_S eS23 ?_
      refine aw_iconst (v := (1 : Int32)) (pc := 26) hX dX9_known_26 (by decide) ?_
      cases h
      exact aw_zret hX hQ (by decide) dX9_known_27
    · rw [if_neg c13] at h
      refine aw_iconst (v := (0 : Int32)) (pc := 16) hX dX9_known_16 (by decide) ?_
      cases h
      exact aw_zret hX hQ (by decide) dX9_known_17

def f_X9_law_40 (v1 : Int32) (v2 : Int32) (S : Mem) : Option (Int64 × Mem) :=
  bnd (f_X9_isDoll v2 S) fun r42 S42 =>
  if r42 = 0 then
  (some ((-9223372036854775808 : Int64), S42))
  else
  (bnd (f_X8_careFor 53 v2 S42) fun r59 S59 =>
  bnd (f_X8_dollLaw 53 v1 v2 r59 S59) fun r62 S62 =>
  some (r62, S62))

def f_X9_law (v1 : Int32) (v2 : Int32) (S : Mem) : Option (Int64 × Mem) :=
  if v1 = (2 : Int32) then
  (bnd (f_X9_isCity v2 S) fun r6 S6 =>
  if r6 = 0 then
  (some ((-9223372036854775808 : Int64), S6))
  else
  (bnd (f_X8_calmLaw 53 v2 S6) fun r17 S17 =>
  some (r17, S17)))
  else
  (if v1 = 0 then
  (f_X9_law_40 v1 v2 S)
  else
  (if v1 = (1 : Int32) then
  (f_X9_law_40 v1 v2 S)
  else
  (some ((-9223372036854775808 : Int64), S))))

set_option maxHeartbeats 4000000 in
set_option maxRecDepth 100000 in
theorem c_X9_law_40 {X : XT} {loc : Nat → Nat} {r : Int64} {Sf : Mem} (hX : AC X loc RX9 cX9_law (some .long) 3 3 0 0) (hQ : RetL X SKC loc 0 0 r Sf) (v1 : Int32) (v2 : Int32) (S : Mem) (h : f_X9_law_40 v1 v2 S = some (r, Sf)) : AW X SKC loc 0 0 40 [(0, .ref 0), (1, .int v1), (2, .int v2)] [] S := by
  unfold f_X9_law_40 at h
  refine aw_aload_n (pc := 40) hX dX9_law_40 rfl 0 rfl ?_
  refine aw_iload_n (pc := 41) hX dX9_law_41 rfl 2 rfl ?_
  obtain ⟨r42, S42, hr42, h⟩ := ob2 h
  refine aw_cVI (pc := 42) (As := [.int v2]) (rest := []) hX (c_X9_isDoll hr42) ok_X9_isDoll kw_3_206 im_X9_isDoll se_X9_isDoll rfl kc0 rfl (by decide) (Nat.le_of_ble_eq_true rfl) rfl dX9_law_42 (Nat.le_refl 0) (Nat.le_refl 0) ?_
  refine aw_if_eq (pc := 45) hX (tgt := 68) dX9_law_45 (by decide) (fun c45 => ?_) (fun c45 => ?_)
  · rw [if_pos c45] at h
    refine aw_ldc2 (v := (-9223372036854775808 : Int64)) (pc := 68) hX kw_4_14 dX9_law_68 ?_
    cases h
    exact aw_lret hX hQ dX9_law_71
  · rw [if_neg c45] at h
    refine aw_aload_n (pc := 48) hX dX9_law_48 rfl 0 rfl ?_
    refine gf_X9_37 (pc := 49) hX kc0 rfl dX9_law_49 ?_
    refine aw_iload_n (pc := 52) hX dX9_law_52 rfl 1 rfl ?_
    refine aw_iload_n (pc := 53) hX dX9_law_53 rfl 2 rfl ?_
    refine aw_aload_n (pc := 54) hX dX9_law_54 rfl 0 rfl ?_
    refine gf_X9_37 (pc := 55) hX kc0 rfl dX9_law_55 ?_
    refine aw_iload_n (pc := 58) hX dX9_law_58 rfl 2 rfl ?_
    obtain ⟨r59, S59, hr59, h⟩ := ob2 h
    refine aw_cVI (pc := 59) (As := [.int v2]) (rest := [.int v2, .int v1, .ref 53]) hX (c_X8_careFor (sk := SKC) isW53 isT31 hr59) ok_X8_careFor kw_3_211 im_X8_careFor se_X8_careFor rfl isW53.1 rfl (by decide) (Nat.le_of_ble_eq_true rfl) rfl dX9_law_59 (Nat.le_refl 0) (Nat.le_refl 0) ?_
    obtain ⟨r62, S62, hr62, h⟩ := ob2 h
    refine aw_cVL (pc := 62) (As := [.int v1, .int v2, .int r59]) (rest := []) hX (c_X8_dollLaw (sk := SKC) isW53 isT31 hr62) ok_X8_dollLaw kw_4_15 im_X8_dollLaw se_X8_dollLaw rfl isW53.1 rfl (by decide) (Nat.le_of_ble_eq_true rfl) rfl dX9_law_62 (Nat.le_refl 0) (Nat.le_refl 0) ?_
    refine aw_goto (tgt := 71) (pc := 65) hX dX9_law_65 (by decide) ?_
    cases h
    exact aw_lret hX hQ dX9_law_71

set_option maxHeartbeats 4000000 in
set_option maxRecDepth 100000 in
theorem c_X9_law {v1 : Int32} {v2 : Int32} {S : Mem} {r : Int64} {Sf : Mem} (h : f_X9_law v1 v2 S = some (r, Sf)) : MetL yX9_law cX9_law 3 (some .long) 3 [.ref 0, .int v1, .int v2] SKC S r Sf := by
  refine MetL.intro (by decide +kernel) (Nat.le_of_ble_eq_true rfl) (fun X loc hX hQ => ?_)
  unfold f_X9_law at h
  show AW X SKC loc 0 0 0 [(0, .ref 0), (1, .int v1), (2, .int v2)] [] S
  refine aw_iload_n (pc := 0) hX dX9_law_0 rfl 1 rfl ?_
  refine aw_iconst (v := (2 : Int32)) (pc := 1) hX dX9_law_1 (by decide) ?_
  refine aw_icmp_ne (pc := 2) hX (tgt := 27) dX9_law_2 (by decide) (fun c2 => ?_) (fun c2 => ?_)
  · rw [if_neg c2] at h
    refine aw_iload_n (pc := 27) hX dX9_law_27 rfl 1 rfl ?_
    refine aw_if_eq (pc := 28) hX (tgt := 40) dX9_law_28 (by decide) (fun c28 => ?_) (fun c28 => ?_)
    · rw [if_pos c28] at h
      exact c_X9_law_40 hX hQ v1 v2 S h
    · rw [if_neg c28] at h
      refine aw_iload_n (pc := 31) hX dX9_law_31 rfl 1 rfl ?_
      refine aw_iconst (v := (1 : Int32)) (pc := 32) hX dX9_law_32 (by decide) ?_
      refine aw_icmp_eq (pc := 33) hX (tgt := 40) dX9_law_33 (by decide) (fun c33 => ?_) (fun c33 => ?_)
      · rw [if_pos c33] at h
        exact c_X9_law_40 hX hQ v1 v2 S h
      · rw [if_neg c33] at h
        refine aw_ldc2 (v := (-9223372036854775808 : Int64)) (pc := 36) hX kw_4_14 dX9_law_36 ?_
        cases h
        exact aw_lret hX hQ dX9_law_39
  · rw [if_pos c2] at h
    refine aw_iload_n (pc := 5) hX dX9_law_5 rfl 2 rfl ?_
    obtain ⟨r6, S6, hr6, h⟩ := ob2 h
    refine aw_cSI (pc := 6) (As := [.int v2]) (rest := []) hX (c_X9_isCity (sk := SKC) hr6) ok_X9_isCity kw_3_183 st_X9_isCity rfl (by decide) (Nat.le_of_ble_eq_true rfl) rfl dX9_law_6 (Nat.le_refl 0) (Nat.le_refl 0) ?_
    refine aw_if_eq (pc := 9) hX (tgt := 23) dX9_law_9 (by decide) (fun c9 => ?_) (fun c9 => ?_)
    · rw [if_pos c9] at h
      refine aw_ldc2 (v := (-9223372036854775808 : Int64)) (pc := 23) hX kw_4_14 dX9_law_23 ?_
      cases h
      exact aw_lret hX hQ dX9_law_26
    · rw [if_neg c9] at h
      refine aw_aload_n (pc := 12) hX dX9_law_12 rfl 0 rfl ?_
      refine gf_X9_37 (pc := 13) hX kc0 rfl dX9_law_13 ?_
      refine aw_iload_n (pc := 16) hX dX9_law_16 rfl 2 rfl ?_
      obtain ⟨r17, S17, hr17, h⟩ := ob2 h
      refine aw_cVL (pc := 17) (As := [.int v2]) (rest := []) hX (c_X8_calmLaw (sk := SKC) isW53 isT31 hr17) ok_X8_calmLaw kw_4_10 im_X8_calmLaw se_X8_calmLaw rfl isW53.1 rfl (by decide) (Nat.le_of_ble_eq_true rfl) rfl dX9_law_17 (Nat.le_refl 0) (Nat.le_refl 0) ?_
      refine aw_goto (tgt := 26) (pc := 20) hX dX9_law_20 (by decide) ?_
      cases h
      exact aw_lret hX hQ dX9_law_26

def f_X9_lists (v1 : Int32) (v2 : Int32) (v3 : Int32) (S : Mem) : Option (Int32 × Mem) :=
  bnd (f_X9_isCity v1 S) fun r1 S1 =>
  if r1 = 0 then
  (some ((-1 : Int32), S1))
  else
  (if v2 < (1 : Int32) then
  (some ((-1 : Int32), S1))
  else
  (if (9 : Int32) < v2 then
  (some ((-1 : Int32), S1))
  else
  (if v3 < (1 : Int32) then
  (some ((-1 : Int32), S1))
  else
  (if v3 ≤ (9 : Int32) then
  (bnd (f_X8_ownHeld 53 v1 S1) fun r41 S41 =>
  bnd (f_J6_bitCount_0f7a4 r41 S41) fun r44 S44 =>
  (dv ((r44 + (v2 * v3)) - (1 : Int32)) (v2 * v3)).bind fun x54 =>
  some (x54, S44))
  else
  (some ((-1 : Int32), S1))))))

set_option maxHeartbeats 4000000 in
set_option maxRecDepth 100000 in
theorem c_X9_lists {v1 : Int32} {v2 : Int32} {v3 : Int32} {S : Mem} {r : Int32} {Sf : Mem} (h : f_X9_lists v1 v2 v3 S = some (r, Sf)) : MetI yX9_lists cX9_lists 5 (some .int) 1 [.ref 0, .int v1, .int v2, .int v3] SKC S r Sf := by
  refine MetI.intro (by decide +kernel) (Nat.le_of_ble_eq_true rfl) (fun X loc hX hQ => ?_)
  unfold f_X9_lists at h
  show AW X SKC loc 0 0 0 [(0, .ref 0), (1, .int v1), (2, .int v2), (3, .int v3)] [] S
  refine aw_iload_n (pc := 0) hX dX9_lists_0 rfl 1 rfl ?_
  obtain ⟨r1, S1, hr1, h⟩ := ob2 h
  refine aw_cSI (pc := 1) (As := [.int v1]) (rest := []) hX (c_X9_isCity (sk := SKC) hr1) ok_X9_isCity kw_3_183 st_X9_isCity rfl (by decide) (Nat.le_of_ble_eq_true rfl) rfl dX9_lists_1 (Nat.le_refl 0) (Nat.le_refl 0) ?_
  refine aw_if_eq (pc := 4) hX (tgt := 29) dX9_lists_4 (by decide) (fun c4 => ?_) (fun c4 => ?_)
  · rw [if_pos c4] at h
    refine aw_iconst (v := (-1 : Int32)) (pc := 29) hX dX9_lists_29 (by decide) ?_
    cases h
    exact aw_iret hX hQ dX9_lists_30
  · rw [if_neg c4] at h
    refine aw_iload_n (pc := 7) hX dX9_lists_7 rfl 2 rfl ?_
    refine aw_iconst (v := (1 : Int32)) (pc := 8) hX dX9_lists_8 (by decide) ?_
    refine aw_icmp_lt (pc := 9) hX (tgt := 29) dX9_lists_9 (by decide) (fun c9 => ?_) (fun c9 => ?_)
    · rw [if_pos c9] at h
      refine aw_iconst (v := (-1 : Int32)) (pc := 29) hX dX9_lists_29 (by decide) ?_
      cases h
      exact aw_iret hX hQ dX9_lists_30
    · rw [if_neg c9] at h
      refine aw_iload_n (pc := 12) hX dX9_lists_12 rfl 2 rfl ?_
      refine aw_bipush (v := (9 : Int32)) (pc := 13) hX dX9_lists_13 (by decide) ?_
      refine aw_icmp_gt (pc := 15) hX (tgt := 29) dX9_lists_15 (by decide) (fun c15 => ?_) (fun c15 => ?_)
      · rw [if_pos c15] at h
        refine aw_iconst (v := (-1 : Int32)) (pc := 29) hX dX9_lists_29 (by decide) ?_
        cases h
        exact aw_iret hX hQ dX9_lists_30
      · rw [if_neg c15] at h
        refine aw_iload_n (pc := 18) hX dX9_lists_18 rfl 3 rfl ?_
        refine aw_iconst (v := (1 : Int32)) (pc := 19) hX dX9_lists_19 (by decide) ?_
        refine aw_icmp_lt (pc := 20) hX (tgt := 29) dX9_lists_20 (by decide) (fun c20 => ?_) (fun c20 => ?_)
        · rw [if_pos c20] at h
          refine aw_iconst (v := (-1 : Int32)) (pc := 29) hX dX9_lists_29 (by decide) ?_
          cases h
          exact aw_iret hX hQ dX9_lists_30
        · rw [if_neg c20] at h
          refine aw_iload_n (pc := 23) hX dX9_lists_23 rfl 3 rfl ?_
          refine aw_bipush (v := (9 : Int32)) (pc := 24) hX dX9_lists_24 (by decide) ?_
          refine aw_icmp_le (pc := 26) hX (tgt := 31) dX9_lists_26 (by decide) (fun c26 => ?_) (fun c26 => ?_)
          · rw [if_pos c26] at h
            refine aw_iload_n (pc := 31) hX dX9_lists_31 rfl 2 rfl ?_
            refine aw_iload_n (pc := 32) hX dX9_lists_32 rfl 3 rfl ?_
            refine aw_imul (pc := 33) hX dX9_lists_33 ?_
            refine aw_istore (ls' := [(4, .int (v2 * v3)), (0, .ref 0), (1, .int v1), (2, .int v2), (3, .int v3)]) (pc := 34) hX dX9_lists_34 (by decide) rfl ?_
            refine aw_aload_n (pc := 36) hX dX9_lists_36 rfl 1 rfl ?_
            refine gf_X9_37 (pc := 37) hX kc0 rfl dX9_lists_37 ?_
            refine aw_iload_n (pc := 40) hX dX9_lists_40 rfl 2 rfl ?_
            obtain ⟨r41, S41, hr41, h⟩ := ob2 h
            refine aw_cVI (pc := 41) (As := [.int v1]) (rest := []) hX (c_X8_ownHeld (sk := SKC) isW53 isT31 hr41) ok_X8_ownHeld kw_3_190 im_X8_ownHeld se_X8_ownHeld rfl isW53.1 rfl (by decide) (Nat.le_of_ble_eq_true rfl) rfl dX9_lists_41 (Nat.le_refl 0) (Nat.le_refl 0) ?_
            obtain ⟨r44, S44, hr44, h⟩ := ob2 h
            refine aw_cSI (pc := 44) (As := [.int r41]) (rest := []) hX (c_J6_bitCount_0f7a4 (sk := SKC) hr44) ok_J6_bitCount_0f7a4 kw_4_126 st_J6_bitCount_0f7a4 rfl (by decide) (Nat.le_of_ble_eq_true rfl) rfl dX9_lists_44 (Nat.le_refl 0) (Nat.le_refl 0) ?_
            refine aw_iload (pc := 47) hX dX9_lists_47 0 rfl ?_
            refine aw_iadd (pc := 49) hX dX9_lists_49 ?_
            refine aw_iconst (v := (1 : Int32)) (pc := 50) hX dX9_lists_50 (by decide) ?_
            refine aw_isub (pc := 51) hX dX9_lists_51 ?_
            refine aw_iload (pc := 52) hX dX9_lists_52 0 rfl ?_
            obtain ⟨x54, hx54, h⟩ := ob h
            refine aw_idiv (pc := 54) hX dX9_lists_54 hx54 ?_
            cases h
            exact aw_iret hX hQ dX9_lists_55
          · rw [if_neg c26] at h
            refine aw_iconst (v := (-1 : Int32)) (pc := 29) hX dX9_lists_29 (by decide) ?_
            cases h
            exact aw_iret hX hQ dX9_lists_30

def f_X9_mend (v1 : Int32) (S : Mem) : Option (Int32 × Mem) :=
  bnd (f_X9_isDoll v1 S) fun r2 S2 =>
  if r2 = 0 then
  (some ((-1 : Int32), S2))
  else
  ((rd S2 55 10 v1).bind fun x18 =>
  if 0 < x18 then
  ((f_X0_add (0 : Int32) v1 x18 S2).bind fun S34 =>
  (wr S34 55 10 v1 (x18 - (1 : Int32))).bind fun S48 =>
  (f_X3_forget S48).bind fun S53 =>
  some ((x18 - (1 : Int32)), S53))
  else
  (some ((-2 : Int32), S2)))

set_option maxHeartbeats 4000000 in
set_option maxRecDepth 100000 in
theorem c_X9_mend {v1 : Int32} {S : Mem} {r : Int32} {Sf : Mem} (h : f_X9_mend v1 S = some (r, Sf)) : MetI yX9_mend cX9_mend 3 (some .int) 2 [.ref 0, .int v1] SKC S r Sf := by
  refine MetI.intro (by decide +kernel) (Nat.le_of_ble_eq_true rfl) (fun X loc hX hQ => ?_)
  unfold f_X9_mend at h
  show AW X SKC loc 0 0 0 [(0, .ref 0), (1, .int v1)] [] S
  refine aw_aload_n (pc := 0) hX dX9_mend_0 rfl 0 rfl ?_
  refine aw_iload_n (pc := 1) hX dX9_mend_1 rfl 1 rfl ?_
  obtain ⟨r2, S2, hr2, h⟩ := ob2 h
  refine aw_cVI (pc := 2) (As := [.int v1]) (rest := []) hX (c_X9_isDoll hr2) ok_X9_isDoll kw_3_206 im_X9_isDoll se_X9_isDoll rfl kc0 rfl (by decide) (Nat.le_of_ble_eq_true rfl) rfl dX9_mend_2 (Nat.le_refl 0) (Nat.le_refl 0) ?_
  refine aw_if_ne (pc := 5) hX (tgt := 10) dX9_mend_5 (by decide) (fun c5 => ?_) (fun c5 => ?_)
  · rw [if_neg c5] at h
    refine aw_aload_n (pc := 10) hX dX9_mend_10 rfl 0 rfl ?_
    refine gf_X9_37 (pc := 11) hX kc0 rfl dX9_mend_11 ?_
    refine gf_X9_158 (pc := 14) hX isW53.1 rfl dX9_mend_14 ?_
    refine aw_iload_n (pc := 17) hX dX9_mend_17 rfl 1 rfl ?_
    obtain ⟨x18, hx18, h⟩ := ob h
    refine aw_iald (pc := 18) hX kc55 hx18 dX9_mend_18 ?_
    refine aw_istore_n (ls' := [(2, .int x18), (0, .ref 0), (1, .int v1)]) (pc := 19) hX dX9_mend_19 rfl (by decide) rfl ?_
    refine aw_iload_n (pc := 20) hX dX9_mend_20 rfl 0 rfl ?_
    refine aw_if_gt (pc := 21) hX (tgt := 27) dX9_mend_21 (by decide) (fun c21 => ?_) (fun c21 => ?_)
    · rw [if_pos c21] at h
      refine aw_aload_n (pc := 27) hX dX9_mend_27 rfl 1 rfl ?_
      refine gf_X9_57 (pc := 28) hX kc0 rfl dX9_mend_28 ?_
      refine aw_iconst (v := (0 : Int32)) (pc := 31) hX dX9_mend_31 (by decide) ?_
      refine aw_iload_n (pc := 32) hX dX9_mend_32 rfl 2 rfl ?_
      refine aw_iload_n (pc := 33) hX dX9_mend_33 rfl 0 rfl ?_
      obtain ⟨S34, hr34, h⟩ := ob h
      refine aw_cVV (pc := 34) (As := [.int (0 : Int32), .int v1, .int x18]) (rest := []) hX (c_X0_add hr34) ok_X0_add kw_4_20 im_X0_add se_X0_add rfl kc84 rfl (by decide) (Nat.le_of_ble_eq_true rfl) rfl dX9_mend_34 (Nat.le_refl 0) (Nat.le_refl 0) ?_
      refine aw_aload_n (pc := 37) hX dX9_mend_37 rfl 1 rfl ?_
      refine gf_X9_37 (pc := 38) hX kc0 rfl dX9_mend_38 ?_
      refine gf_X9_158 (pc := 41) hX isW53.1 rfl dX9_mend_41 ?_
      refine aw_iload_n (pc := 44) hX dX9_mend_44 rfl 2 rfl ?_
      refine aw_iload_n (pc := 45) hX dX9_mend_45 rfl 0 rfl ?_
      refine aw_iconst (v := (1 : Int32)) (pc := 46) hX dX9_mend_46 (by decide) ?_
      refine aw_isub (pc := 47) hX dX9_mend_47 ?_
      obtain ⟨S48, hS48, h⟩ := ob h
      refine aw_iast (pc := 48) hX kc55 hS48 dX9_mend_48 ?_
      refine aw_aload_n (pc := 49) hX dX9_mend_49 rfl 1 rfl ?_
      refine gf_X9_64 (pc := 50) hX kc0 rfl dX9_mend_50 ?_
      obtain ⟨S53, hr53, h⟩ := ob h
      refine aw_cVV (pc := 53) (As := []) (rest := []) hX (c_X3_forget hr53) ok_X3_forget kw_3_149 im_X3_forget se_X3_forget rfl kc88 rfl (by decide) (Nat.le_of_ble_eq_true rfl) rfl dX9_mend_53 (Nat.le_refl 0) (Nat.le_refl 0) ?_
      refine aw_iload_n (pc := 56) hX dX9_mend_56 rfl 0 rfl ?_
      refine aw_iconst (v := (1 : Int32)) (pc := 57) hX dX9_mend_57 (by decide) ?_
      refine aw_isub (pc := 58) hX dX9_mend_58 ?_
      cases h
      exact aw_iret hX hQ dX9_mend_59
    · rw [if_neg c21] at h
      refine aw_bipush (v := (-2 : Int32)) (pc := 24) hX dX9_mend_24 (by decide) ?_
      cases h
      exact aw_iret hX hQ dX9_mend_26
  · rw [if_pos c5] at h
    refine aw_iconst (v := (-1 : Int32)) (pc := 8) hX dX9_mend_8 (by decide) ?_
    cases h
    exact aw_iret hX hQ dX9_mend_9

def f_X9_moths (v1 : Int32) (S : Mem) : Option (Int32 × Mem) :=
  bnd (f_X9_isHeldDoll v1 S) fun r2 S2 =>
  if r2 = 0 then
  (some ((-1 : Int32), S2))
  else
  (bnd (f_X8_careFor 53 v1 S2) fun r18 S18 =>
  bnd (f_X8_oddsFor 53 v1 r18 S18) fun r21 S21 =>
  some (r21, S21))

set_option maxHeartbeats 4000000 in
set_option maxRecDepth 100000 in
theorem c_X9_moths {v1 : Int32} {S : Mem} {r : Int32} {Sf : Mem} (h : f_X9_moths v1 S = some (r, Sf)) : MetI yX9_moths cX9_moths 2 (some .int) 4 [.ref 0, .int v1] SKC S r Sf := by
  refine MetI.intro (by decide +kernel) (Nat.le_of_ble_eq_true rfl) (fun X loc hX hQ => ?_)
  unfold f_X9_moths at h
  show AW X SKC loc 0 0 0 [(0, .ref 0), (1, .int v1)] [] S
  refine aw_aload_n (pc := 0) hX dX9_moths_0 rfl 0 rfl ?_
  refine aw_iload_n (pc := 1) hX dX9_moths_1 rfl 1 rfl ?_
  obtain ⟨r2, S2, hr2, h⟩ := ob2 h
  refine aw_cVI (pc := 2) (As := [.int v1]) (rest := []) hX (c_X9_isHeldDoll hr2) ok_X9_isHeldDoll kw_3_202 im_X9_isHeldDoll se_X9_isHeldDoll rfl kc0 rfl (by decide) (Nat.le_of_ble_eq_true rfl) rfl dX9_moths_2 (Nat.le_refl 0) (Nat.le_refl 0) ?_
  refine aw_if_eq (pc := 5) hX (tgt := 27) dX9_moths_5 (by decide) (fun c5 => ?_) (fun c5 => ?_)
  · rw [if_pos c5] at h
    refine aw_iconst (v := (-1 : Int32)) (pc := 27) hX dX9_moths_27 (by decide) ?_
    cases h
    exact aw_iret hX hQ dX9_moths_28
  · rw [if_neg c5] at h
    refine aw_aload_n (pc := 8) hX dX9_moths_8 rfl 0 rfl ?_
    refine gf_X9_37 (pc := 9) hX kc0 rfl dX9_moths_9 ?_
    refine aw_iload_n (pc := 12) hX dX9_moths_12 rfl 1 rfl ?_
    refine aw_aload_n (pc := 13) hX dX9_moths_13 rfl 0 rfl ?_
    refine gf_X9_37 (pc := 14) hX kc0 rfl dX9_moths_14 ?_
    refine aw_iload_n (pc := 17) hX dX9_moths_17 rfl 1 rfl ?_
    obtain ⟨r18, S18, hr18, h⟩ := ob2 h
    refine aw_cVI (pc := 18) (As := [.int v1]) (rest := [.int v1, .ref 53]) hX (c_X8_careFor (sk := SKC) isW53 isT31 hr18) ok_X8_careFor kw_3_211 im_X8_careFor se_X8_careFor rfl isW53.1 rfl (by decide) (Nat.le_of_ble_eq_true rfl) rfl dX9_moths_18 (Nat.le_refl 0) (Nat.le_refl 0) ?_
    obtain ⟨r21, S21, hr21, h⟩ := ob2 h
    refine aw_cVI (pc := 21) (As := [.int v1, .int r18]) (rest := []) hX (c_X8_oddsFor (sk := SKC) isW53 isT31 hr21) ok_X8_oddsFor kw_3_215 im_X8_oddsFor se_X8_oddsFor rfl isW53.1 rfl (by decide) (Nat.le_of_ble_eq_true rfl) rfl dX9_moths_21 (Nat.le_refl 0) (Nat.le_refl 0) ?_
    refine aw_goto (tgt := 28) (pc := 24) hX dX9_moths_24 (by decide) ?_
    cases h
    exact aw_iret hX hQ dX9_moths_28

def f_X9_named (v1 : Int32) (v2 : Int32) (S : Mem) : Option (Int32 × Mem) :=
  if v1 = 0 then
  (bnd (f_X9_placeOf 32 6 v2 (S.1 31 0) S) fun r43 S43 =>
  some (r43, S43))
  else
  (if v1 = 1 then
  (bnd (f_X9_placeOf 35 10 v2 (S.1 31 1) S) fun r62 S62 =>
  some (r62, S62))
  else
  (some ((-1 : Int32), S)))

set_option maxHeartbeats 4000000 in
set_option maxRecDepth 100000 in
theorem c_X9_named {v1 : Int32} {v2 : Int32} {S : Mem} {r : Int32} {Sf : Mem} (h : f_X9_named v1 v2 S = some (r, Sf)) : MetI yX9_named cX9_named 3 (some .int) 1 [.ref 0, .int v1, .int v2] SKC S r Sf := by
  refine MetI.intro (by decide +kernel) (Nat.le_of_ble_eq_true rfl) (fun X loc hX hQ => ?_)
  unfold f_X9_named at h
  show AW X SKC loc 0 0 0 [(0, .ref 0), (1, .int v1), (2, .int v2)] [] S
  refine aw_iload_n (pc := 0) hX dX9_named_0 rfl 1 rfl ?_
  by_cases c1_0 : v1 = 0
  · rw [if_pos c1_0] at h
    refine aw_look (pc := 1) hX (off := 27) (tgt := 28) dX9_named_1 (by decide) (by rw [c1_0]; decide) (by decide) ?_
    refine aw_iload_n (pc := 28) hX dX9_named_28 rfl 2 rfl ?_
    refine aw_aload_n (pc := 29) hX dX9_named_29 rfl 0 rfl ?_
    refine gf_X9_28 (pc := 30) hX kc0 rfl dX9_named_30 ?_
    refine gf_X9_119 (pc := 33) hX isT31.1 rfl dX9_named_33 ?_
    refine aw_aload_n (pc := 36) hX dX9_named_36 rfl 0 rfl ?_
    refine gf_X9_28 (pc := 37) hX kc0 rfl dX9_named_37 ?_
    refine gf_X9_122 (pc := 40) hX isT31.1 rfl dX9_named_40 ?_
    obtain ⟨r43, S43, hr43, h⟩ := ob2 h
    refine aw_cSI (pc := 43) (As := [.int v2, .ref 32, .int (S.1 31 0)]) (rest := []) hX (c_X9_placeOf (sk := SKC) kc32 hr43) ok_X9_placeOf kw_3_162 st_X9_placeOf rfl (by decide) (Nat.le_of_ble_eq_true rfl) rfl dX9_named_43 (Nat.le_refl 0) (Nat.le_refl 0) ?_
    cases h
    exact aw_iret hX hQ dX9_named_46
  · rw [if_neg c1_0] at h
    by_cases c1_1 : v1 = 1
    · rw [if_pos c1_1] at h
      refine aw_look (pc := 1) hX (off := 46) (tgt := 47) dX9_named_1 (by decide) (by rw [c1_1]; decide) (by decide) ?_
      refine aw_iload_n (pc := 47) hX dX9_named_47 rfl 2 rfl ?_
      refine aw_aload_n (pc := 48) hX dX9_named_48 rfl 0 rfl ?_
      refine gf_X9_28 (pc := 49) hX kc0 rfl dX9_named_49 ?_
      refine gf_X9_129 (pc := 52) hX isT31.1 rfl dX9_named_52 ?_
      refine aw_aload_n (pc := 55) hX dX9_named_55 rfl 0 rfl ?_
      refine gf_X9_28 (pc := 56) hX kc0 rfl dX9_named_56 ?_
      refine gf_X9_132 (pc := 59) hX isT31.1 rfl dX9_named_59 ?_
      obtain ⟨r62, S62, hr62, h⟩ := ob2 h
      refine aw_cSI (pc := 62) (As := [.int v2, .ref 35, .int (S.1 31 1)]) (rest := []) hX (c_X9_placeOf (sk := SKC) kc35 hr62) ok_X9_placeOf kw_3_162 st_X9_placeOf rfl (by decide) (Nat.le_of_ble_eq_true rfl) rfl dX9_named_62 (Nat.le_refl 0) (Nat.le_refl 0) ?_
      cases h
      exact aw_iret hX hQ dX9_named_65
    · rw [if_neg c1_1] at h
      refine aw_look (pc := 1) hX (off := 65) (tgt := 66) dX9_named_1 (by decide) (by have e0 := ne_i c1_0 (by decide : (0 : Int32).toInt = 0); have e1 := ne_i c1_1 (by decide : (1 : Int32).toInt = 1); exact lk_out (by simp; omega)) (by decide) ?_
      refine aw_iconst (v := (-1 : Int32)) (pc := 66) hX dX9_named_66 (by decide) ?_
      cases h
      exact aw_iret hX hQ dX9_named_67

def f_X9_note (v1 : Int32) (v2 : Int32) (v3 : Int32) (v4 : Int32) (S : Mem) : Option (Int32 × Mem) :=
  if v1 < (1 : Int32) then
  (some ((-1 : Int32), S))
  else
  (if (40 : Int32) < v1 then
  (some ((-1 : Int32), S))
  else
  (bnd (f_X9_isDoll v2 S) fun r13 S13 =>
  if r13 = 0 then
  (some ((-1 : Int32), S13))
  else
  (if v3 < 0 then
  (some ((-1 : Int32), S13))
  else
  (if v3 ≤ (9 : Int32) then
  (bnd (f_X2_addSeen v1 v2 v3 v4 S13) fun r40 S40 =>
  some (r40, S40))
  else
  (some ((-1 : Int32), S13))))))

set_option maxHeartbeats 4000000 in
set_option maxRecDepth 100000 in
theorem c_X9_note {v1 : Int32} {v2 : Int32} {v3 : Int32} {v4 : Int32} {S : Mem} {r : Int32} {Sf : Mem} (h : f_X9_note v1 v2 v3 v4 S = some (r, Sf)) : MetI yX9_note cX9_note 5 (some .int) 1 [.ref 0, .int v1, .int v2, .int v3, .int v4] SKC S r Sf := by
  refine MetI.intro (by decide +kernel) (Nat.le_of_ble_eq_true rfl) (fun X loc hX hQ => ?_)
  unfold f_X9_note at h
  show AW X SKC loc 0 0 0 [(0, .ref 0), (1, .int v1), (2, .int v2), (3, .int v3), (4, .int v4)] [] S
  refine aw_iload_n (pc := 0) hX dX9_note_0 rfl 1 rfl ?_
  refine aw_iconst (v := (1 : Int32)) (pc := 1) hX dX9_note_1 (by decide) ?_
  refine aw_icmp_lt (pc := 2) hX (tgt := 29) dX9_note_2 (by decide) (fun c2 => ?_) (fun c2 => ?_)
  · rw [if_pos c2] at h
    refine aw_iconst (v := (-1 : Int32)) (pc := 29) hX dX9_note_29 (by decide) ?_
    cases h
    exact aw_iret hX hQ dX9_note_30
  · rw [if_neg c2] at h
    refine aw_iload_n (pc := 5) hX dX9_note_5 rfl 1 rfl ?_
    refine aw_bipush (v := (40 : Int32)) (pc := 6) hX dX9_note_6 (by decide) ?_
    refine aw_icmp_gt (pc := 8) hX (tgt := 29) dX9_note_8 (by decide) (fun c8 => ?_) (fun c8 => ?_)
    · rw [if_pos c8] at h
      refine aw_iconst (v := (-1 : Int32)) (pc := 29) hX dX9_note_29 (by decide) ?_
      cases h
      exact aw_iret hX hQ dX9_note_30
    · rw [if_neg c8] at h
      refine aw_aload_n (pc := 11) hX dX9_note_11 rfl 0 rfl ?_
      refine aw_iload_n (pc := 12) hX dX9_note_12 rfl 2 rfl ?_
      obtain ⟨r13, S13, hr13, h⟩ := ob2 h
      refine aw_cVI (pc := 13) (As := [.int v2]) (rest := []) hX (c_X9_isDoll hr13) ok_X9_isDoll kw_3_206 im_X9_isDoll se_X9_isDoll rfl kc0 rfl (by decide) (Nat.le_of_ble_eq_true rfl) rfl dX9_note_13 (Nat.le_refl 0) (Nat.le_refl 0) ?_
      refine aw_if_eq (pc := 16) hX (tgt := 29) dX9_note_16 (by decide) (fun c16 => ?_) (fun c16 => ?_)
      · rw [if_pos c16] at h
        refine aw_iconst (v := (-1 : Int32)) (pc := 29) hX dX9_note_29 (by decide) ?_
        cases h
        exact aw_iret hX hQ dX9_note_30
      · rw [if_neg c16] at h
        refine aw_iload_n (pc := 19) hX dX9_note_19 rfl 3 rfl ?_
        refine aw_if_lt (pc := 20) hX (tgt := 29) dX9_note_20 (by decide) (fun c20 => ?_) (fun c20 => ?_)
        · rw [if_pos c20] at h
          refine aw_iconst (v := (-1 : Int32)) (pc := 29) hX dX9_note_29 (by decide) ?_
          cases h
          exact aw_iret hX hQ dX9_note_30
        · rw [if_neg c20] at h
          refine aw_iload_n (pc := 23) hX dX9_note_23 rfl 3 rfl ?_
          refine aw_bipush (v := (9 : Int32)) (pc := 24) hX dX9_note_24 (by decide) ?_
          refine aw_icmp_le (pc := 26) hX (tgt := 31) dX9_note_26 (by decide) (fun c26 => ?_) (fun c26 => ?_)
          · rw [if_pos c26] at h
            refine aw_aload_n (pc := 31) hX dX9_note_31 rfl 0 rfl ?_
            refine gf_X9_50 (pc := 32) hX kc0 rfl dX9_note_32 ?_
            refine aw_iload_n (pc := 35) hX dX9_note_35 rfl 1 rfl ?_
            refine aw_iload_n (pc := 36) hX dX9_note_36 rfl 2 rfl ?_
            refine aw_iload_n (pc := 37) hX dX9_note_37 rfl 3 rfl ?_
            refine aw_iload (pc := 38) hX dX9_note_38 4 rfl ?_
            obtain ⟨r40, S40, hr40, h⟩ := ob2 h
            refine aw_cVI (pc := 40) (As := [.int v1, .int v2, .int v3, .int v4]) (rest := []) hX (c_X2_addSeen hr40) ok_X2_addSeen kw_4_220 im_X2_addSeen se_X2_addSeen rfl kc77 rfl (by decide) (Nat.le_of_ble_eq_true rfl) rfl dX9_note_40 (Nat.le_refl 0) (Nat.le_refl 0) ?_
            cases h
            exact aw_iret hX hQ dX9_note_43
          · rw [if_neg c26] at h
            refine aw_iconst (v := (-1 : Int32)) (pc := 29) hX dX9_note_29 (by decide) ?_
            cases h
            exact aw_iret hX hQ dX9_note_30

def f_X9_nurse (v1 : Int32) (v2 : Int32) (S : Mem) : Option (Int32 × Mem) :=
  bnd (f_X9_isNurse v1 S) fun r2 S2 =>
  if r2 = 0 then
  (some ((-1 : Int32), S2))
  else
  (if v2 = 0 then
  ((rd S2 33 6 v1).bind fun x44 =>
  some (x44, S2))
  else
  (if v2 = 1 then
  ((rd S2 34 6 v1).bind fun x54 =>
  some (x54, S2))
  else
  (if v2 = 2 then
  (bnd (f_X8_heldBy 53 v1 S2) fun r61 S61 =>
  some (r61, S61))
  else
  (some ((-1 : Int32), S2)))))

set_option maxHeartbeats 4000000 in
set_option maxRecDepth 100000 in
theorem c_X9_nurse {v1 : Int32} {v2 : Int32} {S : Mem} {r : Int32} {Sf : Mem} (h : f_X9_nurse v1 v2 S = some (r, Sf)) : MetI yX9_nurse cX9_nurse 3 (some .int) 2 [.ref 0, .int v1, .int v2] SKC S r Sf := by
  refine MetI.intro (by decide +kernel) (Nat.le_of_ble_eq_true rfl) (fun X loc hX hQ => ?_)
  unfold f_X9_nurse at h
  show AW X SKC loc 0 0 0 [(0, .ref 0), (1, .int v1), (2, .int v2)] [] S
  refine aw_aload_n (pc := 0) hX dX9_nurse_0 rfl 0 rfl ?_
  refine aw_iload_n (pc := 1) hX dX9_nurse_1 rfl 1 rfl ?_
  obtain ⟨r2, S2, hr2, h⟩ := ob2 h
  refine aw_cVI (pc := 2) (As := [.int v1]) (rest := []) hX (c_X9_isNurse hr2) ok_X9_isNurse kw_3_167 im_X9_isNurse se_X9_isNurse rfl kc0 rfl (by decide) (Nat.le_of_ble_eq_true rfl) rfl dX9_nurse_2 (Nat.le_refl 0) (Nat.le_refl 0) ?_
  refine aw_if_ne (pc := 5) hX (tgt := 10) dX9_nurse_5 (by decide) (fun c5 => ?_) (fun c5 => ?_)
  · rw [if_neg c5] at h
    refine aw_iload_n (pc := 10) hX dX9_nurse_10 rfl 2 rfl ?_
    by_cases c11_0 : v2 = 0
    · rw [if_pos c11_0] at h
      refine aw_tin (pc := 11) hX (v := 0) (off := 25) (tgt := 36) dX9_nurse_11 c11_0 (by decide) (by decide) (by decide) (by decide) ?_
      refine aw_aload_n (pc := 36) hX dX9_nurse_36 rfl 0 rfl ?_
      refine gf_X9_28 (pc := 37) hX kc0 rfl dX9_nurse_37 ?_
      refine gf_X9_175 (pc := 40) hX isT31.1 rfl dX9_nurse_40 ?_
      refine aw_iload_n (pc := 43) hX dX9_nurse_43 rfl 1 rfl ?_
      obtain ⟨x44, hx44, h⟩ := ob h
      refine aw_iald (pc := 44) hX kc33 hx44 dX9_nurse_44 ?_
      cases h
      exact aw_iret hX hQ dX9_nurse_45
    · rw [if_neg c11_0] at h
      by_cases c11_1 : v2 = 1
      · rw [if_pos c11_1] at h
        refine aw_tin (pc := 11) hX (v := 1) (off := 35) (tgt := 46) dX9_nurse_11 c11_1 (by decide) (by decide) (by decide) (by decide) ?_
        refine aw_aload_n (pc := 46) hX dX9_nurse_46 rfl 0 rfl ?_
        refine gf_X9_28 (pc := 47) hX kc0 rfl dX9_nurse_47 ?_
        refine gf_X9_178 (pc := 50) hX isT31.1 rfl dX9_nurse_50 ?_
        refine aw_iload_n (pc := 53) hX dX9_nurse_53 rfl 1 rfl ?_
        obtain ⟨x54, hx54, h⟩ := ob h
        refine aw_iald (pc := 54) hX kc34 hx54 dX9_nurse_54 ?_
        cases h
        exact aw_iret hX hQ dX9_nurse_55
      · rw [if_neg c11_1] at h
        by_cases c11_2 : v2 = 2
        · rw [if_pos c11_2] at h
          refine aw_tin (pc := 11) hX (v := 2) (off := 45) (tgt := 56) dX9_nurse_11 c11_2 (by decide) (by decide) (by decide) (by decide) ?_
          refine aw_aload_n (pc := 56) hX dX9_nurse_56 rfl 0 rfl ?_
          refine gf_X9_37 (pc := 57) hX kc0 rfl dX9_nurse_57 ?_
          refine aw_iload_n (pc := 60) hX dX9_nurse_60 rfl 1 rfl ?_
          obtain ⟨r61, S61, hr61, h⟩ := ob2 h
          refine aw_cVI (pc := 61) (As := [.int v1]) (rest := []) hX (c_X8_heldBy (sk := SKC) isW53 isT31 hr61) ok_X8_heldBy kw_3_171 im_X8_heldBy se_X8_heldBy rfl isW53.1 rfl (by decide) (Nat.le_of_ble_eq_true rfl) rfl dX9_nurse_61 (Nat.le_refl 0) (Nat.le_refl 0) ?_
          cases h
          exact aw_iret hX hQ dX9_nurse_64
        · rw [if_neg c11_2] at h
          refine aw_tout (pc := 11) hX (tgt := 65) dX9_nurse_11 (by have e0 := ne_i c11_0 (by decide : (0 : Int32).toInt = 0); have e1 := ne_i c11_1 (by decide : (1 : Int32).toInt = 1); have e2 := ne_i c11_2 (by decide : (2 : Int32).toInt = 2); omega) (by decide) ?_
          refine aw_iconst (v := (-1 : Int32)) (pc := 65) hX dX9_nurse_65 (by decide) ?_
          cases h
          exact aw_iret hX hQ dX9_nurse_66
  · rw [if_pos c5] at h
    refine aw_iconst (v := (-1 : Int32)) (pc := 8) hX dX9_nurse_8 (by decide) ?_
    cases h
    exact aw_iret hX hQ dX9_nurse_9

def f_X9_nursing (v1 : Int32) (v2 : Int32) (v3 : Int32) (S : Mem) : Option (Int32 × Mem) :=
  bnd (f_X9_isCity v1 S) fun r1 S1 =>
  if r1 = 0 then
  (some ((-1 : Int32), S1))
  else
  (if v2 < (1 : Int32) then
  (some ((-1 : Int32), S1))
  else
  (if (20 : Int32) < v2 then
  (some ((-1 : Int32), S1))
  else
  (if v3 < 0 then
  (some ((-1 : Int32), S1))
  else
  (if v3 ≤ (4 : Int32) then
  ((f_X3_search 53 69 v1 v2 S1).bind fun S43 =>
  if v3 = (4 : Int32) then
  (some ((S43.1 88 1), S43))
  else
  (if (S43.1 88 0) ≤ v3 then
  (some ((-2 : Int32), S43))
  else
  ((rd S43 89 4 v3).bind fun x78 =>
  some (x78, S43))))
  else
  (some ((-1 : Int32), S1))))))

set_option maxHeartbeats 4000000 in
set_option maxRecDepth 100000 in
theorem c_X9_nursing {v1 : Int32} {v2 : Int32} {v3 : Int32} {S : Mem} {r : Int32} {Sf : Mem} (h : f_X9_nursing v1 v2 v3 S = some (r, Sf)) : MetI yX9_nursing cX9_nursing 4 (some .int) 7 [.ref 0, .int v1, .int v2, .int v3] SKC S r Sf := by
  refine MetI.intro (by decide +kernel) (Nat.le_of_ble_eq_true rfl) (fun X loc hX hQ => ?_)
  unfold f_X9_nursing at h
  show AW X SKC loc 0 0 0 [(0, .ref 0), (1, .int v1), (2, .int v2), (3, .int v3)] [] S
  refine aw_iload_n (pc := 0) hX dX9_nursing_0 rfl 1 rfl ?_
  obtain ⟨r1, S1, hr1, h⟩ := ob2 h
  refine aw_cSI (pc := 1) (As := [.int v1]) (rest := []) hX (c_X9_isCity (sk := SKC) hr1) ok_X9_isCity kw_3_183 st_X9_isCity rfl (by decide) (Nat.le_of_ble_eq_true rfl) rfl dX9_nursing_1 (Nat.le_refl 0) (Nat.le_refl 0) ?_
  refine aw_if_eq (pc := 4) hX (tgt := 27) dX9_nursing_4 (by decide) (fun c4 => ?_) (fun c4 => ?_)
  · rw [if_pos c4] at h
    refine aw_iconst (v := (-1 : Int32)) (pc := 27) hX dX9_nursing_27 (by decide) ?_
    cases h
    exact aw_iret hX hQ dX9_nursing_28
  · rw [if_neg c4] at h
    refine aw_iload_n (pc := 7) hX dX9_nursing_7 rfl 2 rfl ?_
    refine aw_iconst (v := (1 : Int32)) (pc := 8) hX dX9_nursing_8 (by decide) ?_
    refine aw_icmp_lt (pc := 9) hX (tgt := 27) dX9_nursing_9 (by decide) (fun c9 => ?_) (fun c9 => ?_)
    · rw [if_pos c9] at h
      refine aw_iconst (v := (-1 : Int32)) (pc := 27) hX dX9_nursing_27 (by decide) ?_
      cases h
      exact aw_iret hX hQ dX9_nursing_28
    · rw [if_neg c9] at h
      refine aw_iload_n (pc := 12) hX dX9_nursing_12 rfl 2 rfl ?_
      refine aw_bipush (v := (20 : Int32)) (pc := 13) hX dX9_nursing_13 (by decide) ?_
      refine aw_icmp_gt (pc := 15) hX (tgt := 27) dX9_nursing_15 (by decide) (fun c15 => ?_) (fun c15 => ?_)
      · rw [if_pos c15] at h
        refine aw_iconst (v := (-1 : Int32)) (pc := 27) hX dX9_nursing_27 (by decide) ?_
        cases h
        exact aw_iret hX hQ dX9_nursing_28
      · rw [if_neg c15] at h
        refine aw_iload_n (pc := 18) hX dX9_nursing_18 rfl 3 rfl ?_
        refine aw_if_lt (pc := 19) hX (tgt := 27) dX9_nursing_19 (by decide) (fun c19 => ?_) (fun c19 => ?_)
        · rw [if_pos c19] at h
          refine aw_iconst (v := (-1 : Int32)) (pc := 27) hX dX9_nursing_27 (by decide) ?_
          cases h
          exact aw_iret hX hQ dX9_nursing_28
        · rw [if_neg c19] at h
          refine aw_iload_n (pc := 22) hX dX9_nursing_22 rfl 3 rfl ?_
          refine aw_iconst (v := (4 : Int32)) (pc := 23) hX dX9_nursing_23 (by decide) ?_
          refine aw_icmp_le (pc := 24) hX (tgt := 29) dX9_nursing_24 (by decide) (fun c24 => ?_) (fun c24 => ?_)
          · rw [if_pos c24] at h
            refine aw_aload_n (pc := 29) hX dX9_nursing_29 rfl 0 rfl ?_
            refine gf_X9_64 (pc := 30) hX kc0 rfl dX9_nursing_30 ?_
            refine aw_aload_n (pc := 33) hX dX9_nursing_33 rfl 0 rfl ?_
            refine gf_X9_37 (pc := 34) hX kc0 rfl dX9_nursing_34 ?_
            refine aw_aload_n (pc := 37) hX dX9_nursing_37 rfl 0 rfl ?_
            refine gf_X9_44 (pc := 38) hX kc0 rfl dX9_nursing_38 ?_
            refine aw_iload_n (pc := 41) hX dX9_nursing_41 rfl 1 rfl ?_
            refine aw_iload_n (pc := 42) hX dX9_nursing_42 rfl 2 rfl ?_
            obtain ⟨S43, hr43, h⟩ := ob h
            refine aw_cVV (pc := 43) (As := [.ref 53, .ref 69, .int v1, .int v2]) (rest := []) hX (c_X3_search isW53 isW69 hr43) ok_X3_search kw_4_143 im_X3_search se_X3_search rfl kc88 rfl (by decide) (Nat.le_of_ble_eq_true rfl) rfl dX9_nursing_43 (Nat.le_refl 0) (Nat.le_refl 0) ?_
            refine aw_iload_n (pc := 46) hX dX9_nursing_46 rfl 3 rfl ?_
            refine aw_iconst (v := (4 : Int32)) (pc := 47) hX dX9_nursing_47 (by decide) ?_
            refine aw_icmp_ne (pc := 48) hX (tgt := 59) dX9_nursing_48 (by decide) (fun c48 => ?_) (fun c48 => ?_)
            · rw [if_neg c48] at h
              refine aw_iload_n (pc := 59) hX dX9_nursing_59 rfl 3 rfl ?_
              refine aw_aload_n (pc := 60) hX dX9_nursing_60 rfl 0 rfl ?_
              refine gf_X9_64 (pc := 61) hX kc0 rfl dX9_nursing_61 ?_
              refine gf_X9_278 (pc := 64) hX kc88 rfl dX9_nursing_64 ?_
              refine aw_icmp_ge (pc := 67) hX (tgt := 82) dX9_nursing_67 (by decide) (fun c67 => ?_) (fun c67 => ?_)
              · rw [if_pos c67] at h
                refine aw_bipush (v := (-2 : Int32)) (pc := 82) hX dX9_nursing_82 (by decide) ?_
                cases h
                exact aw_iret hX hQ dX9_nursing_84
              · rw [if_neg c67] at h
                refine aw_aload_n (pc := 70) hX dX9_nursing_70 rfl 0 rfl ?_
                refine gf_X9_64 (pc := 71) hX kc0 rfl dX9_nursing_71 ?_
                refine gf_X9_279 (pc := 74) hX kc88 rfl dX9_nursing_74 ?_
                refine aw_iload_n (pc := 77) hX dX9_nursing_77 rfl 3 rfl ?_
                obtain ⟨x78, hx78, h⟩ := ob h
                refine aw_iald (pc := 78) hX kc89 hx78 dX9_nursing_78 ?_
                refine aw_goto (tgt := 84) (pc := 79) hX dX9_nursing_79 (by decide) ?_
                cases h
                exact aw_iret hX hQ dX9_nursing_84
            · rw [if_pos c48] at h
              refine aw_aload_n (pc := 51) hX dX9_nursing_51 rfl 0 rfl ?_
              refine gf_X9_64 (pc := 52) hX kc0 rfl dX9_nursing_52 ?_
              refine gf_X9_275 (pc := 55) hX kc88 rfl dX9_nursing_55 ?_
              cases h
              exact aw_iret hX hQ dX9_nursing_58
          · rw [if_neg c24] at h
            refine aw_iconst (v := (-1 : Int32)) (pc := 27) hX dX9_nursing_27 (by decide) ?_
            cases h
            exact aw_iret hX hQ dX9_nursing_28

def f_X9_out (v1 : Int32) (S : Mem) : Option (Int32 × Mem) :=
  if v1 < 0 then
  (some ((-1 : Int32), S))
  else
  (if v1 < (S.1 77 0) then
  (bnd (f_X2_addStrike v1 S) fun r24 S24 =>
  some (r24, S24))
  else
  (some ((-1 : Int32), S)))

set_option maxHeartbeats 4000000 in
set_option maxRecDepth 100000 in
theorem c_X9_out {v1 : Int32} {S : Mem} {r : Int32} {Sf : Mem} (h : f_X9_out v1 S = some (r, Sf)) : MetI yX9_out cX9_out 2 (some .int) 1 [.ref 0, .int v1] SKC S r Sf := by
  refine MetI.intro (by decide +kernel) (Nat.le_of_ble_eq_true rfl) (fun X loc hX hQ => ?_)
  unfold f_X9_out at h
  show AW X SKC loc 0 0 0 [(0, .ref 0), (1, .int v1)] [] S
  refine aw_iload_n (pc := 0) hX dX9_out_0 rfl 1 rfl ?_
  refine aw_if_lt (pc := 1) hX (tgt := 15) dX9_out_1 (by decide) (fun c1 => ?_) (fun c1 => ?_)
  · rw [if_pos c1] at h
    refine aw_iconst (v := (-1 : Int32)) (pc := 15) hX dX9_out_15 (by decide) ?_
    refine aw_goto (tgt := 27) (pc := 16) hX dX9_out_16 (by decide) ?_
    cases h
    exact aw_iret hX hQ dX9_out_27
  · rw [if_neg c1] at h
    refine aw_iload_n (pc := 4) hX dX9_out_4 rfl 1 rfl ?_
    refine aw_aload_n (pc := 5) hX dX9_out_5 rfl 0 rfl ?_
    refine gf_X9_50 (pc := 6) hX kc0 rfl dX9_out_6 ?_
    refine gf_X9_298 (pc := 9) hX kc77 rfl dX9_out_9 ?_
    refine aw_icmp_lt (pc := 12) hX (tgt := 19) dX9_out_12 (by decide) (fun c12 => ?_) (fun c12 => ?_)
    · rw [if_pos c12] at h
      refine aw_aload_n (pc := 19) hX dX9_out_19 rfl 0 rfl ?_
      refine gf_X9_50 (pc := 20) hX kc0 rfl dX9_out_20 ?_
      refine aw_iload_n (pc := 23) hX dX9_out_23 rfl 1 rfl ?_
      obtain ⟨r24, S24, hr24, h⟩ := ob2 h
      refine aw_cVI (pc := 24) (As := [.int v1]) (rest := []) hX (c_X2_addStrike hr24) ok_X2_addStrike kw_4_228 im_X2_addStrike se_X2_addStrike rfl kc77 rfl (by decide) (Nat.le_of_ble_eq_true rfl) rfl dX9_out_24 (Nat.le_refl 0) (Nat.le_refl 0) ?_
      cases h
      exact aw_iret hX hQ dX9_out_27
    · rw [if_neg c12] at h
      refine aw_iconst (v := (-1 : Int32)) (pc := 15) hX dX9_out_15 (by decide) ?_
      refine aw_goto (tgt := 27) (pc := 16) hX dX9_out_16 (by decide) ?_
      cases h
      exact aw_iret hX hQ dX9_out_27

def f_X9_quiet_13 : Nat → Int32 → Mem → Option (Int32 × Mem)
  | 0, _, _ => none
  | n + 1, v1, S =>
  if (99 : Int32) < v1 then
  (some ((-2 : Int32), S))
  else
  (bnd (f_X8_angerOfBoth 69 S) fun r23 S23 =>
  if r23 = 0 then
  (some (v1, S23))
  else
  ((f_X8_run 69 (1 : Int32) (0 : Int32) S23).bind fun S37 =>
  f_X9_quiet_13 n (v1 + 1) S37))

def f_X9_quiet (S : Mem) : Option (Int32 × Mem) :=
  (f_X8_take 69 53 S).bind fun S8 =>
  f_X9_quiet_13 FU (0 : Int32) S8

set_option maxHeartbeats 4000000 in
set_option maxRecDepth 100000 in
theorem c_X9_quiet_13 {X : XT} {loc : Nat → Nat} {r : Int32} {Sf : Mem} (hX : AC X loc RX9 cX9_quiet (some .int) 2 6 0 0) (hQ : RetI X SKC loc 0 0 r Sf) : ∀ (n : Nat) (v1 : Int32) (S : Mem), f_X9_quiet_13 n v1 S = some (r, Sf) → AW X SKC loc 0 0 13 [(0, .ref 0), (1, .int v1)] [] S := by
  intro n
  induction n with
  | zero => intro v1 S h; cases h
  | succ n ih =>
    intro v1 S h
    unfold f_X9_quiet_13 at h
    refine aw_iload_n (pc := 13) hX dX9_quiet_13 rfl 1 rfl ?_
    refine aw_bipush (v := (99 : Int32)) (pc := 14) hX dX9_quiet_14 (by decide) ?_
    refine aw_icmp_gt (pc := 16) hX (tgt := 46) dX9_quiet_16 (by decide) (fun c16 => ?_) (fun c16 => ?_)
    · rw [if_pos c16] at h
      refine aw_bipush (v := (-2 : Int32)) (pc := 46) hX dX9_quiet_46 (by decide) ?_
      cases h
      exact aw_iret hX hQ dX9_quiet_48
    · rw [if_neg c16] at h
      refine aw_aload_n (pc := 19) hX dX9_quiet_19 rfl 0 rfl ?_
      refine gf_X9_44 (pc := 20) hX kc0 rfl dX9_quiet_20 ?_
      obtain ⟨r23, S23, hr23, h⟩ := ob2 h
      refine aw_cVI (pc := 23) (As := []) (rest := []) hX (c_X8_angerOfBoth (sk := SKC) isW69 isT31 hr23) ok_X8_angerOfBoth kw_4_114 im_X8_angerOfBoth se_X8_angerOfBoth rfl isW69.1 rfl (by decide) (Nat.le_of_ble_eq_true rfl) rfl dX9_quiet_23 (Nat.le_refl 0) (Nat.le_refl 0) ?_
      refine aw_if_ne (pc := 26) hX (tgt := 31) dX9_quiet_26 (by decide) (fun c26 => ?_) (fun c26 => ?_)
      · rw [if_neg c26] at h
        refine aw_aload_n (pc := 31) hX dX9_quiet_31 rfl 0 rfl ?_
        refine gf_X9_44 (pc := 32) hX kc0 rfl dX9_quiet_32 ?_
        refine aw_iconst (v := (1 : Int32)) (pc := 35) hX dX9_quiet_35 (by decide) ?_
        refine aw_iconst (v := (0 : Int32)) (pc := 36) hX dX9_quiet_36 (by decide) ?_
        obtain ⟨S37, hr37, h⟩ := ob h
        refine aw_cVV (pc := 37) (As := [.int (1 : Int32), .int (0 : Int32)]) (rest := []) hX (c_X8_run (sk := SKC) isW69 isT31 hr37) ok_X8_run kw_4_49 im_X8_run se_X8_run rfl isW69.1 rfl (by decide) (Nat.le_of_ble_eq_true rfl) rfl dX9_quiet_37 (Nat.le_refl 0) (Nat.le_refl 0) ?_
        refine aw_iinc (v := (v1 + 1)) (ls' := [(1, .int (v1 + 1)), (0, .ref 0)]) (pc := 40) hX dX9_quiet_40 (pos := 1) rfl (by first | rfl | decide) (by decide) rfl ?_
        refine aw_goto (tgt := 13) (pc := 43) hX dX9_quiet_43 (by decide) ?_
        refine aw_sub (ls' := [(0, .ref 0), (1, .int (v1 + 1))]) [1, 0] rfl ?_
        exact ih (v1 + 1) S37 h
      · rw [if_pos c26] at h
        refine aw_iload_n (pc := 29) hX dX9_quiet_29 rfl 1 rfl ?_
        cases h
        exact aw_iret hX hQ dX9_quiet_30

set_option maxHeartbeats 4000000 in
set_option maxRecDepth 100000 in
theorem c_X9_quiet {S : Mem} {r : Int32} {Sf : Mem} (h : f_X9_quiet S = some (r, Sf)) : MetI yX9_quiet cX9_quiet 2 (some .int) 6 [.ref 0] SKC S r Sf := by
  refine MetI.intro (by decide +kernel) (Nat.le_of_ble_eq_true rfl) (fun X loc hX hQ => ?_)
  unfold f_X9_quiet at h
  show AW X SKC loc 0 0 0 [(0, .ref 0)] [] S
  refine aw_aload_n (pc := 0) hX dX9_quiet_0 rfl 0 rfl ?_
  refine gf_X9_44 (pc := 1) hX kc0 rfl dX9_quiet_1 ?_
  refine aw_aload_n (pc := 4) hX dX9_quiet_4 rfl 0 rfl ?_
  refine gf_X9_37 (pc := 5) hX kc0 rfl dX9_quiet_5 ?_
  obtain ⟨S8, hr8, h⟩ := ob h
  refine aw_cVV (pc := 8) (As := [.ref 53]) (rest := []) hX (c_X8_take (sk := SKC) isW69 isT31 isW53 hr8) ok_X8_take kw_4_98 im_X8_take se_X8_take rfl isW69.1 rfl (by decide) (Nat.le_of_ble_eq_true rfl) rfl dX9_quiet_8 (Nat.le_refl 0) (Nat.le_refl 0) ?_
  refine aw_iconst (v := (0 : Int32)) (pc := 11) hX dX9_quiet_11 (by decide) ?_
  refine aw_istore_n (ls' := [(1, .int (0 : Int32)), (0, .ref 0)]) (pc := 12) hX dX9_quiet_12 rfl (by decide) rfl ?_
  refine aw_sub (ls' := [(0, .ref 0), (1, .int (0 : Int32))]) [1, 0] rfl ?_
  exact c_X9_quiet_13 hX hQ FU (0 : Int32) S8 h

def f_X9_rest_10 : Nat → Int32 → Int32 → Mem → Option (Int32 × Mem)
  | 0, _, _, _ => none
  | n + 1, v2, v3, S =>
  if (4 : Int32) ≤ v3 then
  (some ((-2 : Int32), S))
  else
  (bnd (f_X9_isRest (v3 >>> ((1 : Int32) &&& 31)) (v3 &&& (1 : Int32)) S) fun r22 S22 =>
  if r22 = 0 then
  (f_X9_rest_10 n v2 (v3 + 1) S22)
  else
  (if v2 = 0 then
  (some ((((10 : Int32) * (v3 >>> ((1 : Int32) &&& 31))) + (v3 &&& (1 : Int32))), S22))
  else
  (f_X9_rest_10 n (v2 + (-1)) (v3 + 1) S22)))

def f_X9_rest (v1 : Int32) (S : Mem) : Option (Int32 × Mem) :=
  if 0 ≤ v1 then
  (f_X9_rest_10 FU v1 (0 : Int32) S)
  else
  (some ((-1 : Int32), S))

set_option maxHeartbeats 4000000 in
set_option maxRecDepth 100000 in
theorem c_X9_rest_10 {X : XT} {loc : Nat → Nat} {r : Int32} {Sf : Mem} (hX : AC X loc RX9 cX9_rest (some .int) 4 3 0 0) (hQ : RetI X SKC loc 0 0 r Sf) : ∀ (n : Nat) (v2 : Int32) (v3 : Int32) (S : Mem), f_X9_rest_10 n v2 v3 S = some (r, Sf) → AW X SKC loc 0 0 10 [(0, .ref 0), (2, .int v2), (3, .int v3)] [] S := by
  intro n
  induction n with
  | zero => intro v2 v3 S h; cases h
  | succ n ih =>
    intro v2 v3 S h
    unfold f_X9_rest_10 at h
    refine aw_iload_n (pc := 10) hX dX9_rest_10 rfl 2 rfl ?_
    refine aw_iconst (v := (4 : Int32)) (pc := 11) hX dX9_rest_11 (by decide) ?_
    refine aw_icmp_ge (pc := 12) hX (tgt := 52) dX9_rest_12 (by decide) (fun c12 => ?_) (fun c12 => ?_)
    · rw [if_pos c12] at h
      refine aw_bipush (v := (-2 : Int32)) (pc := 52) hX dX9_rest_52 (by decide) ?_
      cases h
      exact aw_iret hX hQ dX9_rest_54
    · rw [if_neg c12] at h
      refine aw_aload_n (pc := 15) hX dX9_rest_15 rfl 0 rfl ?_
      refine aw_iload_n (pc := 16) hX dX9_rest_16 rfl 2 rfl ?_
      refine aw_iconst (v := (1 : Int32)) (pc := 17) hX dX9_rest_17 (by decide) ?_
      refine aw_ishr (pc := 18) hX dX9_rest_18 ?_
      refine aw_iload_n (pc := 19) hX dX9_rest_19 rfl 2 rfl ?_
      refine aw_iconst (v := (1 : Int32)) (pc := 20) hX dX9_rest_20 (by decide) ?_
      refine aw_iand (pc := 21) hX dX9_rest_21 ?_
      obtain ⟨r22, S22, hr22, h⟩ := ob2 h
      refine aw_cVI (pc := 22) (As := [.int (v3 >>> ((1 : Int32) &&& 31)), .int (v3 &&& (1 : Int32))]) (rest := []) hX (c_X9_isRest hr22) ok_X9_isRest kw_4_171 im_X9_isRest se_X9_isRest rfl kc0 rfl (by decide) (Nat.le_of_ble_eq_true rfl) rfl dX9_rest_22 (Nat.le_refl 0) (Nat.le_refl 0) ?_
      refine aw_if_eq (pc := 25) hX (tgt := 46) dX9_rest_25 (by decide) (fun c25 => ?_) (fun c25 => ?_)
      · rw [if_pos c25] at h
        refine aw_iinc (v := (v3 + 1)) (ls' := [(3, .int (v3 + 1)), (0, .ref 0), (2, .int v2)]) (pc := 46) hX dX9_rest_46 (pos := 2) rfl (by first | rfl | decide) (by decide) rfl ?_
        refine aw_goto (tgt := 10) (pc := 49) hX dX9_rest_49 (by decide) ?_
        refine aw_sub (ls' := [(0, .ref 0), (2, .int v2), (3, .int (v3 + 1))]) [1, 2, 0] rfl ?_
        exact ih v2 (v3 + 1) S22 h
      · rw [if_neg c25] at h
        refine aw_iload_n (pc := 28) hX dX9_rest_28 rfl 1 rfl ?_
        refine aw_if_ne (pc := 29) hX (tgt := 43) dX9_rest_29 (by decide) (fun c29 => ?_) (fun c29 => ?_)
        · rw [if_neg c29] at h
          refine aw_iinc (v := (v2 + (-1))) (ls' := [(2, .int (v2 + (-1))), (0, .ref 0), (3, .int v3)]) (pc := 43) hX dX9_rest_43 (pos := 1) rfl (by first | rfl | decide) (by decide) rfl ?_
          refine aw_iinc (v := (v3 + 1)) (ls' := [(3, .int (v3 + 1)), (2, .int (v2 + (-1))), (0, .ref 0)]) (pc := 46) hX dX9_rest_46 (pos := 2) rfl (by first | rfl | decide) (by decide) rfl ?_
          refine aw_goto (tgt := 10) (pc := 49) hX dX9_rest_49 (by decide) ?_
          refine aw_sub (ls' := [(0, .ref 0), (2, .int (v2 + (-1))), (3, .int (v3 + 1))]) [2, 1, 0] rfl ?_
          exact ih (v2 + (-1)) (v3 + 1) S22 h
        · rw [if_pos c29] at h
          refine aw_bipush (v := (10 : Int32)) (pc := 32) hX dX9_rest_32 (by decide) ?_
          refine aw_iload_n (pc := 34) hX dX9_rest_34 rfl 2 rfl ?_
          refine aw_iconst (v := (1 : Int32)) (pc := 35) hX dX9_rest_35 (by decide) ?_
          refine aw_ishr (pc := 36) hX dX9_rest_36 ?_
          refine aw_imul (pc := 37) hX dX9_rest_37 ?_
          refine aw_iload_n (pc := 38) hX dX9_rest_38 rfl 2 rfl ?_
          refine aw_iconst (v := (1 : Int32)) (pc := 39) hX dX9_rest_39 (by decide) ?_
          refine aw_iand (pc := 40) hX dX9_rest_40 ?_
          refine aw_iadd (pc := 41) hX dX9_rest_41 ?_
          cases h
          exact aw_iret hX hQ dX9_rest_42

set_option maxHeartbeats 4000000 in
set_option maxRecDepth 100000 in
theorem c_X9_rest {v1 : Int32} {S : Mem} {r : Int32} {Sf : Mem} (h : f_X9_rest v1 S = some (r, Sf)) : MetI yX9_rest cX9_rest 4 (some .int) 3 [.ref 0, .int v1] SKC S r Sf := by
  refine MetI.intro (by decide +kernel) (Nat.le_of_ble_eq_true rfl) (fun X loc hX hQ => ?_)
  unfold f_X9_rest at h
  show AW X SKC loc 0 0 0 [(0, .ref 0), (1, .int v1)] [] S
  refine aw_iload_n (pc := 0) hX dX9_rest_0 rfl 1 rfl ?_
  refine aw_if_ge (pc := 1) hX (tgt := 6) dX9_rest_1 (by decide) (fun c1 => ?_) (fun c1 => ?_)
  · rw [if_pos c1] at h
    refine aw_iload_n (pc := 6) hX dX9_rest_6 rfl 1 rfl ?_
    refine aw_istore_n (ls' := [(2, .int v1), (0, .ref 0), (1, .int v1)]) (pc := 7) hX dX9_rest_7 rfl (by decide) rfl ?_
    refine aw_iconst (v := (0 : Int32)) (pc := 8) hX dX9_rest_8 (by decide) ?_
    refine aw_istore_n (ls' := [(3, .int (0 : Int32)), (2, .int v1), (0, .ref 0), (1, .int v1)]) (pc := 9) hX dX9_rest_9 rfl (by decide) rfl ?_
    refine aw_sub (ls' := [(0, .ref 0), (2, .int v1), (3, .int (0 : Int32))]) [2, 1, 0] rfl ?_
    exact c_X9_rest_10 hX hQ FU v1 (0 : Int32) S h
  · rw [if_neg c1] at h
    refine aw_iconst (v := (-1 : Int32)) (pc := 4) hX dX9_rest_4 (by decide) ?_
    cases h
    exact aw_iret hX hQ dX9_rest_5

def f_X9_rests_4 : Nat → Int32 → Int32 → Mem → Option (Int32 × Mem)
  | 0, _, _, _ => none
  | n + 1, v1, v2, S =>
  if (4 : Int32) ≤ v2 then
  (some (v1, S))
  else
  (bnd (f_X9_isRest (v2 >>> ((1 : Int32) &&& 31)) (v2 &&& (1 : Int32)) S) fun r16 S16 =>
  if r16 = 0 then
  (f_X9_rests_4 n v1 (v2 + 1) S16)
  else
  (f_X9_rests_4 n (v1 + 1) (v2 + 1) S16))

def f_X9_rests (S : Mem) : Option (Int32 × Mem) :=
  f_X9_rests_4 FU (0 : Int32) (0 : Int32) S

set_option maxHeartbeats 4000000 in
set_option maxRecDepth 100000 in
theorem c_X9_rests_4 {X : XT} {loc : Nat → Nat} {r : Int32} {Sf : Mem} (hX : AC X loc RX9 cX9_rests (some .int) 3 3 0 0) (hQ : RetI X SKC loc 0 0 r Sf) : ∀ (n : Nat) (v1 : Int32) (v2 : Int32) (S : Mem), f_X9_rests_4 n v1 v2 S = some (r, Sf) → AW X SKC loc 0 0 4 [(0, .ref 0), (1, .int v1), (2, .int v2)] [] S := by
  intro n
  induction n with
  | zero => intro v1 v2 S h; cases h
  | succ n ih =>
    intro v1 v2 S h
    unfold f_X9_rests_4 at h
    refine aw_iload_n (pc := 4) hX dX9_rests_4 rfl 2 rfl ?_
    refine aw_iconst (v := (4 : Int32)) (pc := 5) hX dX9_rests_5 (by decide) ?_
    refine aw_icmp_ge (pc := 6) hX (tgt := 31) dX9_rests_6 (by decide) (fun c6 => ?_) (fun c6 => ?_)
    · rw [if_pos c6] at h
      refine aw_iload_n (pc := 31) hX dX9_rests_31 rfl 1 rfl ?_
      cases h
      exact aw_iret hX hQ dX9_rests_32
    · rw [if_neg c6] at h
      refine aw_aload_n (pc := 9) hX dX9_rests_9 rfl 0 rfl ?_
      refine aw_iload_n (pc := 10) hX dX9_rests_10 rfl 2 rfl ?_
      refine aw_iconst (v := (1 : Int32)) (pc := 11) hX dX9_rests_11 (by decide) ?_
      refine aw_ishr (pc := 12) hX dX9_rests_12 ?_
      refine aw_iload_n (pc := 13) hX dX9_rests_13 rfl 2 rfl ?_
      refine aw_iconst (v := (1 : Int32)) (pc := 14) hX dX9_rests_14 (by decide) ?_
      refine aw_iand (pc := 15) hX dX9_rests_15 ?_
      obtain ⟨r16, S16, hr16, h⟩ := ob2 h
      refine aw_cVI (pc := 16) (As := [.int (v2 >>> ((1 : Int32) &&& 31)), .int (v2 &&& (1 : Int32))]) (rest := []) hX (c_X9_isRest hr16) ok_X9_isRest kw_4_171 im_X9_isRest se_X9_isRest rfl kc0 rfl (by decide) (Nat.le_of_ble_eq_true rfl) rfl dX9_rests_16 (Nat.le_refl 0) (Nat.le_refl 0) ?_
      refine aw_if_eq (pc := 19) hX (tgt := 25) dX9_rests_19 (by decide) (fun c19 => ?_) (fun c19 => ?_)
      · rw [if_pos c19] at h
        refine aw_iinc (v := (v2 + 1)) (ls' := [(2, .int (v2 + 1)), (0, .ref 0), (1, .int v1)]) (pc := 25) hX dX9_rests_25 (pos := 2) rfl (by first | rfl | decide) (by decide) rfl ?_
        refine aw_goto (tgt := 4) (pc := 28) hX dX9_rests_28 (by decide) ?_
        refine aw_sub (ls' := [(0, .ref 0), (1, .int v1), (2, .int (v2 + 1))]) [1, 2, 0] rfl ?_
        exact ih v1 (v2 + 1) S16 h
      · rw [if_neg c19] at h
        refine aw_iinc (v := (v1 + 1)) (ls' := [(1, .int (v1 + 1)), (0, .ref 0), (2, .int v2)]) (pc := 22) hX dX9_rests_22 (pos := 1) rfl (by first | rfl | decide) (by decide) rfl ?_
        refine aw_iinc (v := (v2 + 1)) (ls' := [(2, .int (v2 + 1)), (1, .int (v1 + 1)), (0, .ref 0)]) (pc := 25) hX dX9_rests_25 (pos := 2) rfl (by first | rfl | decide) (by decide) rfl ?_
        refine aw_goto (tgt := 4) (pc := 28) hX dX9_rests_28 (by decide) ?_
        refine aw_sub (ls' := [(0, .ref 0), (1, .int (v1 + 1)), (2, .int (v2 + 1))]) [2, 1, 0] rfl ?_
        exact ih (v1 + 1) (v2 + 1) S16 h

set_option maxHeartbeats 4000000 in
set_option maxRecDepth 100000 in
theorem c_X9_rests {S : Mem} {r : Int32} {Sf : Mem} (h : f_X9_rests S = some (r, Sf)) : MetI yX9_rests cX9_rests 3 (some .int) 3 [.ref 0] SKC S r Sf := by
  refine MetI.intro (by decide +kernel) (Nat.le_of_ble_eq_true rfl) (fun X loc hX hQ => ?_)
  unfold f_X9_rests at h
  show AW X SKC loc 0 0 0 [(0, .ref 0)] [] S
  refine aw_iconst (v := (0 : Int32)) (pc := 0) hX dX9_rests_0 (by decide) ?_
  refine aw_istore_n (ls' := [(1, .int (0 : Int32)), (0, .ref 0)]) (pc := 1) hX dX9_rests_1 rfl (by decide) rfl ?_
  refine aw_iconst (v := (0 : Int32)) (pc := 2) hX dX9_rests_2 (by decide) ?_
  refine aw_istore_n (ls' := [(2, .int (0 : Int32)), (1, .int (0 : Int32)), (0, .ref 0)]) (pc := 3) hX dX9_rests_3 rfl (by decide) rfl ?_
  refine aw_sub (ls' := [(0, .ref 0), (1, .int (0 : Int32)), (2, .int (0 : Int32))]) [2, 1, 0] rfl ?_
  exact c_X9_rests_4 hX hQ FU (0 : Int32) (0 : Int32) S h

def f_X9_safest_18 : Nat → Int32 → Int32 → Int32 → Int32 → Mem → Option (Int32 × Mem)
  | 0, _, _, _, _, _ => none
  | n + 1, v1, v2, v3, v4, S =>
  if (S.1 31 0) ≤ v4 then
  (some (v2, S))
  else
  ((rd S 33 6 v4).bind fun x39 =>
  (rd S 37 10 v1).bind fun x48 =>
  if x39 = x48 then
  (f_X9_safest_18 n v1 v2 v3 (v4 + 1) S)
  else
  ((rd S 34 6 v4).bind fun x66 =>
  bnd (f_X8_oddsFor 53 v1 x66 S) fun r67 S67 =>
  if v3 ≤ r67 then
  (f_X9_safest_18 n v1 v2 v3 (v4 + 1) S67)
  else
  (f_X9_safest_18 n v1 v4 r67 (v4 + 1) S67)))

def f_X9_safest (v1 : Int32) (S : Mem) : Option (Int32 × Mem) :=
  bnd (f_X9_isHeldDoll v1 S) fun r2 S2 =>
  if r2 = 0 then
  (some ((-1 : Int32), S2))
  else
  (f_X9_safest_18 FU v1 (-1 : Int32) (101 : Int32) (0 : Int32) S2)

set_option maxHeartbeats 4000000 in
set_option maxRecDepth 100000 in
theorem c_X9_safest_18 {X : XT} {loc : Nat → Nat} {r : Int32} {Sf : Mem} (hX : AC X loc RX9 cX9_safest (some .int) 6 4 0 0) (hQ : RetI X SKC loc 0 0 r Sf) : ∀ (n : Nat) (v1 : Int32) (v2 : Int32) (v3 : Int32) (v4 : Int32) (S : Mem), f_X9_safest_18 n v1 v2 v3 v4 S = some (r, Sf) → AW X SKC loc 0 0 18 [(0, .ref 0), (1, .int v1), (2, .int v2), (3, .int v3), (4, .int v4)] [] S := by
  intro n
  induction n with
  | zero => intro v1 v2 v3 v4 S h; cases h
  | succ n ih =>
    intro v1 v2 v3 v4 S h
    unfold f_X9_safest_18 at h
    refine aw_iload (pc := 18) hX dX9_safest_18 4 rfl ?_
    refine aw_aload_n (pc := 20) hX dX9_safest_20 rfl 0 rfl ?_
    refine gf_X9_28 (pc := 21) hX kc0 rfl dX9_safest_21 ?_
    refine gf_X9_122 (pc := 24) hX isT31.1 rfl dX9_safest_24 ?_
    refine aw_icmp_ge (pc := 27) hX (tgt := 90) dX9_safest_27 (by decide) (fun c27 => ?_) (fun c27 => ?_)
    · rw [if_pos c27] at h
      refine aw_iload_n (pc := 90) hX dX9_safest_90 rfl 2 rfl ?_
      cases h
      exact aw_iret hX hQ dX9_safest_91
    · rw [if_neg c27] at h
      refine aw_aload_n (pc := 30) hX dX9_safest_30 rfl 0 rfl ?_
      refine gf_X9_28 (pc := 31) hX kc0 rfl dX9_safest_31 ?_
      refine gf_X9_175 (pc := 34) hX isT31.1 rfl dX9_safest_34 ?_
      refine aw_iload (pc := 37) hX dX9_safest_37 4 rfl ?_
      obtain ⟨x39, hx39, h⟩ := ob h
      refine aw_iald (pc := 39) hX kc33 hx39 dX9_safest_39 ?_
      refine aw_aload_n (pc := 40) hX dX9_safest_40 rfl 0 rfl ?_
      refine gf_X9_28 (pc := 41) hX kc0 rfl dX9_safest_41 ?_
      refine gf_X9_149 (pc := 44) hX isT31.1 rfl dX9_safest_44 ?_
      refine aw_iload_n (pc := 47) hX dX9_safest_47 rfl 1 rfl ?_
      obtain ⟨x48, hx48, h⟩ := ob h
      refine aw_iald (pc := 48) hX kc37 hx48 dX9_safest_48 ?_
      refine aw_icmp_eq (pc := 49) hX (tgt := 84) dX9_safest_49 (by decide) (fun c49 => ?_) (fun c49 => ?_)
      · rw [if_pos c49] at h
        refine aw_iinc (v := (v4 + 1)) (ls' := [(4, .int (v4 + 1)), (0, .ref 0), (1, .int v1), (2, .int v2), (3, .int v3)]) (pc := 84) hX dX9_safest_84 (pos := 4) rfl (by first | rfl | decide) (by decide) rfl ?_
        refine aw_goto (tgt := 18) (pc := 87) hX dX9_safest_87 (by decide) ?_
        refine aw_sub (ls' := [(0, .ref 0), (1, .int v1), (2, .int v2), (3, .int v3), (4, .int (v4 + 1))]) [1, 2, 3, 4, 0] rfl ?_
        exact ih v1 v2 v3 (v4 + 1) S h
      · rw [if_neg c49] at h
        refine aw_aload_n (pc := 52) hX dX9_safest_52 rfl 0 rfl ?_
        refine gf_X9_37 (pc := 53) hX kc0 rfl dX9_safest_53 ?_
        refine aw_iload_n (pc := 56) hX dX9_safest_56 rfl 1 rfl ?_
        refine aw_aload_n (pc := 57) hX dX9_safest_57 rfl 0 rfl ?_
        refine gf_X9_28 (pc := 58) hX kc0 rfl dX9_safest_58 ?_
        refine gf_X9_178 (pc := 61) hX isT31.1 rfl dX9_safest_61 ?_
        refine aw_iload (pc := 64) hX dX9_safest_64 4 rfl ?_
        obtain ⟨x66, hx66, h⟩ := ob h
        refine aw_iald (pc := 66) hX kc34 hx66 dX9_safest_66 ?_
        obtain ⟨r67, S67, hr67, h⟩ := ob2 h
        refine aw_cVI (pc := 67) (As := [.int v1, .int x66]) (rest := []) hX (c_X8_oddsFor (sk := SKC) isW53 isT31 hr67) ok_X8_oddsFor kw_3_215 im_X8_oddsFor se_X8_oddsFor rfl isW53.1 rfl (by decide) (Nat.le_of_ble_eq_true rfl) rfl dX9_safest_67 (Nat.le_refl 0) (Nat.le_refl 0) ?_
        refine aw_istore (ls' := [(5, .int r67), (0, .ref 0), (1, .int v1), (2, .int v2), (3, .int v3), (4, .int v4)]) (pc := 70) hX dX9_safest_70 (by decide) rfl ?_
        refine aw_iload (pc := 72) hX dX9_safest_72 0 rfl ?_
        refine aw_iload_n (pc := 74) hX dX9_safest_74 rfl 4 rfl ?_
        refine aw_icmp_ge (pc := 75) hX (tgt := 84) dX9_safest_75 (by decide) (fun c75 => ?_) (fun c75 => ?_)
        · rw [if_pos c75] at h
          refine aw_iinc (v := (v4 + 1)) (ls' := [(4, .int (v4 + 1)), (5, .int r67), (0, .ref 0), (1, .int v1), (2, .int v2), (3, .int v3)]) (pc := 84) hX dX9_safest_84 (pos := 5) rfl (by first | rfl | decide) (by decide) rfl ?_
          refine aw_goto (tgt := 18) (pc := 87) hX dX9_safest_87 (by decide) ?_
          refine aw_sub (ls' := [(0, .ref 0), (1, .int v1), (2, .int v2), (3, .int v3), (4, .int (v4 + 1))]) [2, 3, 4, 5, 0] rfl ?_
          exact ih v1 v2 v3 (v4 + 1) S67 h
        · rw [if_neg c75] at h
          refine aw_iload (pc := 78) hX dX9_safest_78 0 rfl ?_
          refine aw_istore_n (ls' := [(3, .int r67), (5, .int r67), (0, .ref 0), (1, .int v1), (2, .int v2), (4, .int v4)]) (pc := 80) hX dX9_safest_80 rfl (by decide) rfl ?_
          refine aw_iload (pc := 81) hX dX9_safest_81 5 rfl ?_
          refine aw_istore_n (ls' := [(2, .int v4), (3, .int r67), (5, .int r67), (0, .ref 0), (1, .int v1), (4, .int v4)]) (pc := 83) hX dX9_safest_83 rfl (by decide) rfl ?_
          refine aw_iinc (v := (v4 + 1)) (ls' := [(4, .int (v4 + 1)), (2, .int v4), (3, .int r67), (5, .int r67), (0, .ref 0), (1, .int v1)]) (pc := 84) hX dX9_safest_84 (pos := 5) rfl (by first | rfl | decide) (by decide) rfl ?_
          refine aw_goto (tgt := 18) (pc := 87) hX dX9_safest_87 (by decide) ?_
          refine aw_sub (ls' := [(0, .ref 0), (1, .int v1), (2, .int v4), (3, .int r67), (4, .int (v4 + 1))]) [4, 5, 1, 2, 0] rfl ?_
          exact ih v1 v4 r67 (v4 + 1) S67 h

set_option maxHeartbeats 4000000 in
set_option maxRecDepth 100000 in
theorem c_X9_safest {v1 : Int32} {S : Mem} {r : Int32} {Sf : Mem} (h : f_X9_safest v1 S = some (r, Sf)) : MetI yX9_safest cX9_safest 6 (some .int) 4 [.ref 0, .int v1] SKC S r Sf := by
  refine MetI.intro (by decide +kernel) (Nat.le_of_ble_eq_true rfl) (fun X loc hX hQ => ?_)
  unfold f_X9_safest at h
  show AW X SKC loc 0 0 0 [(0, .ref 0), (1, .int v1)] [] S
  refine aw_aload_n (pc := 0) hX dX9_safest_0 rfl 0 rfl ?_
  refine aw_iload_n (pc := 1) hX dX9_safest_1 rfl 1 rfl ?_
  obtain ⟨r2, S2, hr2, h⟩ := ob2 h
  refine aw_cVI (pc := 2) (As := [.int v1]) (rest := []) hX (c_X9_isHeldDoll hr2) ok_X9_isHeldDoll kw_3_202 im_X9_isHeldDoll se_X9_isHeldDoll rfl kc0 rfl (by decide) (Nat.le_of_ble_eq_true rfl) rfl dX9_safest_2 (Nat.le_refl 0) (Nat.le_refl 0) ?_
  refine aw_if_ne (pc := 5) hX (tgt := 10) dX9_safest_5 (by decide) (fun c5 => ?_) (fun c5 => ?_)
  · rw [if_neg c5] at h
    refine aw_iconst (v := (-1 : Int32)) (pc := 10) hX dX9_safest_10 (by decide) ?_
    refine aw_istore_n (ls' := [(2, .int (-1 : Int32)), (0, .ref 0), (1, .int v1)]) (pc := 11) hX dX9_safest_11 rfl (by decide) rfl ?_
    refine aw_bipush (v := (101 : Int32)) (pc := 12) hX dX9_safest_12 (by decide) ?_
    refine aw_istore_n (ls' := [(3, .int (101 : Int32)), (2, .int (-1 : Int32)), (0, .ref 0), (1, .int v1)]) (pc := 14) hX dX9_safest_14 rfl (by decide) rfl ?_
    refine aw_iconst (v := (0 : Int32)) (pc := 15) hX dX9_safest_15 (by decide) ?_
    refine aw_istore (ls' := [(4, .int (0 : Int32)), (3, .int (101 : Int32)), (2, .int (-1 : Int32)), (0, .ref 0), (1, .int v1)]) (pc := 16) hX dX9_safest_16 (by decide) rfl ?_
    refine aw_sub (ls' := [(0, .ref 0), (1, .int v1), (2, .int (-1 : Int32)), (3, .int (101 : Int32)), (4, .int (0 : Int32))]) [3, 4, 2, 1, 0] rfl ?_
    exact c_X9_safest_18 hX hQ FU v1 (-1 : Int32) (101 : Int32) (0 : Int32) S2 h
  · rw [if_pos c5] at h
    refine aw_iconst (v := (-1 : Int32)) (pc := 8) hX dX9_safest_8 (by decide) ?_
    cases h
    exact aw_iret hX hQ dX9_safest_9

def f_X9_sharedDivisor_3 : Nat → Int32 → Int32 → Mem → Option (Int32 × Mem)
  | 0, _, _, _ => none
  | n + 1, v0, v1, S =>
  if v1 ≤ (1 : Int32) then
  (some ((1 : Int32), S))
  else
  ((rm (100 : Int32) v1).bind fun x11 =>
  if x11 = 0 then
  ((rm v0 v1).bind fun x17 =>
  if x17 = 0 then
  (some (v1, S))
  else
  (f_X9_sharedDivisor_3 n v0 (v1 + (-1)) S))
  else
  (f_X9_sharedDivisor_3 n v0 (v1 + (-1)) S))

def f_X9_sharedDivisor (v0 : Int32) (S : Mem) : Option (Int32 × Mem) :=
  f_X9_sharedDivisor_3 FU v0 (100 : Int32) S

set_option maxHeartbeats 4000000 in
set_option maxRecDepth 100000 in
theorem c_X9_sharedDivisor_3 {X : XT} {loc : Nat → Nat} {sk : Skel} {r : Int32} {Sf : Mem} (hX : AC X loc RX9 cX9_sharedDivisor (some .int) 2 0 0 0) (hQ : RetI X sk loc 0 0 r Sf) : ∀ (n : Nat) (v0 : Int32) (v1 : Int32) (S : Mem), f_X9_sharedDivisor_3 n v0 v1 S = some (r, Sf) → AW X sk loc 0 0 3 [(0, .int v0), (1, .int v1)] [] S := by
  intro n
  induction n with
  | zero => intro v0 v1 S h; cases h
  | succ n ih =>
    intro v0 v1 S h
    unfold f_X9_sharedDivisor_3 at h
    refine aw_iload_n (pc := 3) hX dX9_sharedDivisor_3 rfl 1 rfl ?_
    refine aw_iconst (v := (1 : Int32)) (pc := 4) hX dX9_sharedDivisor_4 (by decide) ?_
    refine aw_icmp_le (pc := 5) hX (tgt := 29) dX9_sharedDivisor_5 (by decide) (fun c5 => ?_) (fun c5 => ?_)
    · rw [if_pos c5] at h
      refine aw_iconst (v := (1 : Int32)) (pc := 29) hX dX9_sharedDivisor_29 (by decide) ?_
      cases h
      exact aw_iret hX hQ dX9_sharedDivisor_30
    · rw [if_neg c5] at h
      refine aw_bipush (v := (100 : Int32)) (pc := 8) hX dX9_sharedDivisor_8 (by decide) ?_
      refine aw_iload_n (pc := 10) hX dX9_sharedDivisor_10 rfl 1 rfl ?_
      obtain ⟨x11, hx11, h⟩ := ob h
      refine aw_irem (pc := 11) hX dX9_sharedDivisor_11 hx11 ?_
      refine aw_if_ne (pc := 12) hX (tgt := 23) dX9_sharedDivisor_12 (by decide) (fun c12 => ?_) (fun c12 => ?_)
      · rw [if_neg c12] at h
        refine aw_iinc (v := (v1 + (-1))) (ls' := [(1, .int (v1 + (-1))), (0, .int v0)]) (pc := 23) hX dX9_sharedDivisor_23 (pos := 1) rfl (by first | rfl | decide) (by decide) rfl ?_
        refine aw_goto (tgt := 3) (pc := 26) hX dX9_sharedDivisor_26 (by decide) ?_
        refine aw_sub (ls' := [(0, .int v0), (1, .int (v1 + (-1)))]) [1, 0] rfl ?_
        exact ih v0 (v1 + (-1)) S h
      · rw [if_pos c12] at h
        refine aw_iload_n (pc := 15) hX dX9_sharedDivisor_15 rfl 0 rfl ?_
        refine aw_iload_n (pc := 16) hX dX9_sharedDivisor_16 rfl 1 rfl ?_
        obtain ⟨x17, hx17, h⟩ := ob h
        refine aw_irem (pc := 17) hX dX9_sharedDivisor_17 hx17 ?_
        refine aw_if_ne (pc := 18) hX (tgt := 23) dX9_sharedDivisor_18 (by decide) (fun c18 => ?_) (fun c18 => ?_)
        · rw [if_neg c18] at h
          refine aw_iinc (v := (v1 + (-1))) (ls' := [(1, .int (v1 + (-1))), (0, .int v0)]) (pc := 23) hX dX9_sharedDivisor_23 (pos := 1) rfl (by first | rfl | decide) (by decide) rfl ?_
          refine aw_goto (tgt := 3) (pc := 26) hX dX9_sharedDivisor_26 (by decide) ?_
          refine aw_sub (ls' := [(0, .int v0), (1, .int (v1 + (-1)))]) [1, 0] rfl ?_
          exact ih v0 (v1 + (-1)) S h
        · rw [if_pos c18] at h
          refine aw_iload_n (pc := 21) hX dX9_sharedDivisor_21 rfl 1 rfl ?_
          cases h
          exact aw_iret hX hQ dX9_sharedDivisor_22

set_option maxHeartbeats 4000000 in
set_option maxRecDepth 100000 in
theorem c_X9_sharedDivisor {sk : Skel} {v0 : Int32} {S : Mem} {r : Int32} {Sf : Mem} (h : f_X9_sharedDivisor v0 S = some (r, Sf)) : MetI yX9_sharedDivisor cX9_sharedDivisor 2 (some .int) 0 [.int v0] sk S r Sf := by
  refine MetI.intro (by decide +kernel) (Nat.le_of_ble_eq_true rfl) (fun X loc hX hQ => ?_)
  unfold f_X9_sharedDivisor at h
  show AW X sk loc 0 0 0 [(0, .int v0)] [] S
  refine aw_bipush (v := (100 : Int32)) (pc := 0) hX dX9_sharedDivisor_0 (by decide) ?_
  refine aw_istore_n (ls' := [(1, .int (100 : Int32)), (0, .int v0)]) (pc := 2) hX dX9_sharedDivisor_2 rfl (by decide) rfl ?_
  refine aw_sub (ls' := [(0, .int v0), (1, .int (100 : Int32))]) [1, 0] rfl ?_
  exact c_X9_sharedDivisor_3 hX hQ FU v0 (100 : Int32) S h

def f_X9_stays_4 : Nat → Int32 → Int32 → Mem → Option (Int32 × Mem)
  | 0, _, _, _ => none
  | n + 1, v1, v2, S =>
  if (S.1 31 1) ≤ v2 then
  (some (v1, S))
  else
  (bnd (f_X8_isHeld 53 v2 S) fun r20 S20 =>
  if r20 = 0 then
  (f_X9_stays_4 n v1 (v2 + 1) S20)
  else
  ((rd S20 56 10 v2).bind fun x34 =>
  (rd S20 38 10 v2).bind fun x43 =>
  if x34 ≤ x43 then
  (f_X9_stays_4 n v1 (v2 + 1) S20)
  else
  (f_X9_stays_4 n (v1 ||| ((1 : Int32) <<< (v2 &&& 31))) (v2 + 1) S20)))

def f_X9_stays (S : Mem) : Option (Int32 × Mem) :=
  f_X9_stays_4 FU (0 : Int32) (0 : Int32) S

set_option maxHeartbeats 4000000 in
set_option maxRecDepth 100000 in
theorem c_X9_stays_4 {X : XT} {loc : Nat → Nat} {r : Int32} {Sf : Mem} (hX : AC X loc RX9 cX9_stays (some .int) 3 1 0 0) (hQ : RetI X SKC loc 0 0 r Sf) : ∀ (n : Nat) (v1 : Int32) (v2 : Int32) (S : Mem), f_X9_stays_4 n v1 v2 S = some (r, Sf) → AW X SKC loc 0 0 4 [(0, .ref 0), (1, .int v1), (2, .int v2)] [] S := by
  intro n
  induction n with
  | zero => intro v1 v2 S h; cases h
  | succ n ih =>
    intro v1 v2 S h
    unfold f_X9_stays_4 at h
    refine aw_iload_n (pc := 4) hX dX9_stays_4 rfl 2 rfl ?_
    refine aw_aload_n (pc := 5) hX dX9_stays_5 rfl 0 rfl ?_
    refine gf_X9_28 (pc := 6) hX kc0 rfl dX9_stays_6 ?_
    refine gf_X9_132 (pc := 9) hX isT31.1 rfl dX9_stays_9 ?_
    refine aw_icmp_ge (pc := 12) hX (tgt := 59) dX9_stays_12 (by decide) (fun c12 => ?_) (fun c12 => ?_)
    · rw [if_pos c12] at h
      refine aw_iload_n (pc := 59) hX dX9_stays_59 rfl 1 rfl ?_
      cases h
      exact aw_iret hX hQ dX9_stays_60
    · rw [if_neg c12] at h
      refine aw_aload_n (pc := 15) hX dX9_stays_15 rfl 0 rfl ?_
      refine gf_X9_37 (pc := 16) hX kc0 rfl dX9_stays_16 ?_
      refine aw_iload_n (pc := 19) hX dX9_stays_19 rfl 2 rfl ?_
      obtain ⟨r20, S20, hr20, h⟩ := ob2 h
      refine aw_cVI (pc := 20) (As := [.int v2]) (rest := []) hX (c_X8_isHeld (sk := SKC) isW53 isT31 hr20) ok_X8_isHeld kw_3_210 im_X8_isHeld se_X8_isHeld rfl isW53.1 rfl (by decide) (Nat.le_of_ble_eq_true rfl) rfl dX9_stays_20 (Nat.le_refl 0) (Nat.le_refl 0) ?_
      refine aw_if_eq (pc := 23) hX (tgt := 53) dX9_stays_23 (by decide) (fun c23 => ?_) (fun c23 => ?_)
      · rw [if_pos c23] at h
        refine aw_iinc (v := (v2 + 1)) (ls' := [(2, .int (v2 + 1)), (0, .ref 0), (1, .int v1)]) (pc := 53) hX dX9_stays_53 (pos := 2) rfl (by first | rfl | decide) (by decide) rfl ?_
        refine aw_goto (tgt := 4) (pc := 56) hX dX9_stays_56 (by decide) ?_
        refine aw_sub (ls' := [(0, .ref 0), (1, .int v1), (2, .int (v2 + 1))]) [1, 2, 0] rfl ?_
        exact ih v1 (v2 + 1) S20 h
      · rw [if_neg c23] at h
        refine aw_aload_n (pc := 26) hX dX9_stays_26 rfl 0 rfl ?_
        refine gf_X9_37 (pc := 27) hX kc0 rfl dX9_stays_27 ?_
        refine gf_X9_161 (pc := 30) hX isW53.1 rfl dX9_stays_30 ?_
        refine aw_iload_n (pc := 33) hX dX9_stays_33 rfl 2 rfl ?_
        obtain ⟨x34, hx34, h⟩ := ob h
        refine aw_iald (pc := 34) hX kc56 hx34 dX9_stays_34 ?_
        refine aw_aload_n (pc := 35) hX dX9_stays_35 rfl 0 rfl ?_
        refine gf_X9_28 (pc := 36) hX kc0 rfl dX9_stays_36 ?_
        refine gf_X9_152 (pc := 39) hX isT31.1 rfl dX9_stays_39 ?_
        refine aw_iload_n (pc := 42) hX dX9_stays_42 rfl 2 rfl ?_
        obtain ⟨x43, hx43, h⟩ := ob h
        refine aw_iald (pc := 43) hX kc38 hx43 dX9_stays_43 ?_
        refine aw_icmp_le (pc := 44) hX (tgt := 53) dX9_stays_44 (by decide) (fun c44 => ?_) (fun c44 => ?_)
        · rw [if_pos c44] at h
          refine aw_iinc (v := (v2 + 1)) (ls' := [(2, .int (v2 + 1)), (0, .ref 0), (1, .int v1)]) (pc := 53) hX dX9_stays_53 (pos := 2) rfl (by first | rfl | decide) (by decide) rfl ?_
          refine aw_goto (tgt := 4) (pc := 56) hX dX9_stays_56 (by decide) ?_
          refine aw_sub (ls' := [(0, .ref 0), (1, .int v1), (2, .int (v2 + 1))]) [1, 2, 0] rfl ?_
          exact ih v1 (v2 + 1) S20 h
        · rw [if_neg c44] at h
          refine aw_iload_n (pc := 47) hX dX9_stays_47 rfl 1 rfl ?_
          refine aw_iconst (v := (1 : Int32)) (pc := 48) hX dX9_stays_48 (by decide) ?_
          refine aw_iload_n (pc := 49) hX dX9_stays_49 rfl 2 rfl ?_
          refine aw_ishl (pc := 50) hX dX9_stays_50 ?_
          refine aw_ior (pc := 51) hX dX9_stays_51 ?_
          refine aw_istore_n (ls' := [(1, .int (v1 ||| ((1 : Int32) <<< (v2 &&& 31)))), (0, .ref 0), (2, .int v2)]) (pc := 52) hX dX9_stays_52 rfl (by decide) rfl ?_
          refine aw_iinc (v := (v2 + 1)) (ls' := [(2, .int (v2 + 1)), (1, .int (v1 ||| ((1 : Int32) <<< (v2 &&& 31)))), (0, .ref 0)]) (pc := 53) hX dX9_stays_53 (pos := 2) rfl (by first | rfl | decide) (by decide) rfl ?_
          refine aw_goto (tgt := 4) (pc := 56) hX dX9_stays_56 (by decide) ?_
          refine aw_sub (ls' := [(0, .ref 0), (1, .int (v1 ||| ((1 : Int32) <<< (v2 &&& 31)))), (2, .int (v2 + 1))]) [2, 1, 0] rfl ?_
          exact ih (v1 ||| ((1 : Int32) <<< (v2 &&& 31))) (v2 + 1) S20 h

set_option maxHeartbeats 4000000 in
set_option maxRecDepth 100000 in
theorem c_X9_stays {S : Mem} {r : Int32} {Sf : Mem} (h : f_X9_stays S = some (r, Sf)) : MetI yX9_stays cX9_stays 3 (some .int) 1 [.ref 0] SKC S r Sf := by
  refine MetI.intro (by decide +kernel) (Nat.le_of_ble_eq_true rfl) (fun X loc hX hQ => ?_)
  unfold f_X9_stays at h
  show AW X SKC loc 0 0 0 [(0, .ref 0)] [] S
  refine aw_iconst (v := (0 : Int32)) (pc := 0) hX dX9_stays_0 (by decide) ?_
  refine aw_istore_n (ls' := [(1, .int (0 : Int32)), (0, .ref 0)]) (pc := 1) hX dX9_stays_1 rfl (by decide) rfl ?_
  refine aw_iconst (v := (0 : Int32)) (pc := 2) hX dX9_stays_2 (by decide) ?_
  refine aw_istore_n (ls' := [(2, .int (0 : Int32)), (1, .int (0 : Int32)), (0, .ref 0)]) (pc := 3) hX dX9_stays_3 rfl (by decide) rfl ?_
  refine aw_sub (ls' := [(0, .ref 0), (1, .int (0 : Int32)), (2, .int (0 : Int32))]) [2, 1, 0] rfl ?_
  exact c_X9_stays_4 hX hQ FU (0 : Int32) (0 : Int32) S h

def f_X9_tea (v1 : Int32) (S : Mem) : Option (Int32 × Mem) :=
  bnd (f_X9_isCity v1 S) fun r1 S1 =>
  if r1 = 0 then
  (some ((-1 : Int32), S1))
  else
  ((rd S1 58 2 ((1 : Int32) - v1)).bind fun x21 =>
  if 0 < x21 then
  ((f_X0_add (3 : Int32) ((1 : Int32) - v1) x21 S1).bind fun S37 =>
  (rd S37 41 4 (2 : Int32)).bind fun x58 =>
  bnd (f_J9_max_7cf53 (0 : Int32) (x21 - x58) S37) fun r60 S60 =>
  (wr S60 58 2 ((1 : Int32) - v1) r60).bind fun S63 =>
  (f_X3_forget S63).bind fun S68 =>
  (rd S68 58 2 ((1 : Int32) - v1)).bind fun x79 =>
  some (x79, S68))
  else
  (some ((-2 : Int32), S1)))

set_option maxHeartbeats 4000000 in
set_option maxRecDepth 100000 in
theorem c_X9_tea {v1 : Int32} {S : Mem} {r : Int32} {Sf : Mem} (h : f_X9_tea v1 S = some (r, Sf)) : MetI yX9_tea cX9_tea 4 (some .int) 2 [.ref 0, .int v1] SKC S r Sf := by
  refine MetI.intro (by decide +kernel) (Nat.le_of_ble_eq_true rfl) (fun X loc hX hQ => ?_)
  unfold f_X9_tea at h
  show AW X SKC loc 0 0 0 [(0, .ref 0), (1, .int v1)] [] S
  refine aw_iload_n (pc := 0) hX dX9_tea_0 rfl 1 rfl ?_
  obtain ⟨r1, S1, hr1, h⟩ := ob2 h
  refine aw_cSI (pc := 1) (As := [.int v1]) (rest := []) hX (c_X9_isCity (sk := SKC) hr1) ok_X9_isCity kw_3_183 st_X9_isCity rfl (by decide) (Nat.le_of_ble_eq_true rfl) rfl dX9_tea_1 (Nat.le_refl 0) (Nat.le_refl 0) ?_
  refine aw_if_ne (pc := 4) hX (tgt := 9) dX9_tea_4 (by decide) (fun c4 => ?_) (fun c4 => ?_)
  · rw [if_neg c4] at h
    refine aw_iconst (v := (1 : Int32)) (pc := 9) hX dX9_tea_9 (by decide) ?_
    refine aw_iload_n (pc := 10) hX dX9_tea_10 rfl 1 rfl ?_
    refine aw_isub (pc := 11) hX dX9_tea_11 ?_
    refine aw_istore_n (ls' := [(2, .int ((1 : Int32) - v1)), (0, .ref 0), (1, .int v1)]) (pc := 12) hX dX9_tea_12 rfl (by decide) rfl ?_
    refine aw_aload_n (pc := 13) hX dX9_tea_13 rfl 1 rfl ?_
    refine gf_X9_37 (pc := 14) hX kc0 rfl dX9_tea_14 ?_
    refine gf_X9_188 (pc := 17) hX isW53.1 rfl dX9_tea_17 ?_
    refine aw_iload_n (pc := 20) hX dX9_tea_20 rfl 0 rfl ?_
    obtain ⟨x21, hx21, h⟩ := ob h
    refine aw_iald (pc := 21) hX kc58 hx21 dX9_tea_21 ?_
    refine aw_istore_n (ls' := [(3, .int x21), (2, .int ((1 : Int32) - v1)), (0, .ref 0), (1, .int v1)]) (pc := 22) hX dX9_tea_22 rfl (by decide) rfl ?_
    refine aw_iload_n (pc := 23) hX dX9_tea_23 rfl 0 rfl ?_
    refine aw_if_gt (pc := 24) hX (tgt := 30) dX9_tea_24 (by decide) (fun c24 => ?_) (fun c24 => ?_)
    · rw [if_pos c24] at h
      refine aw_aload_n (pc := 30) hX dX9_tea_30 rfl 2 rfl ?_
      refine gf_X9_57 (pc := 31) hX kc0 rfl dX9_tea_31 ?_
      refine aw_iconst (v := (3 : Int32)) (pc := 34) hX dX9_tea_34 (by decide) ?_
      refine aw_iload_n (pc := 35) hX dX9_tea_35 rfl 1 rfl ?_
      refine aw_iload_n (pc := 36) hX dX9_tea_36 rfl 0 rfl ?_
      obtain ⟨S37, hr37, h⟩ := ob h
      refine aw_cVV (pc := 37) (As := [.int (3 : Int32), .int ((1 : Int32) - v1), .int x21]) (rest := []) hX (c_X0_add hr37) ok_X0_add kw_4_20 im_X0_add se_X0_add rfl kc84 rfl (by decide) (Nat.le_of_ble_eq_true rfl) rfl dX9_tea_37 (Nat.le_refl 0) (Nat.le_refl 0) ?_
      refine aw_aload_n (pc := 40) hX dX9_tea_40 rfl 2 rfl ?_
      refine gf_X9_37 (pc := 41) hX kc0 rfl dX9_tea_41 ?_
      refine gf_X9_188 (pc := 44) hX isW53.1 rfl dX9_tea_44 ?_
      refine aw_iload_n (pc := 47) hX dX9_tea_47 rfl 1 rfl ?_
      refine aw_iconst (v := (0 : Int32)) (pc := 48) hX dX9_tea_48 (by decide) ?_
      refine aw_iload_n (pc := 49) hX dX9_tea_49 rfl 0 rfl ?_
      refine aw_aload_n (pc := 50) hX dX9_tea_50 rfl 2 rfl ?_
      refine gf_X9_28 (pc := 51) hX kc0 rfl dX9_tea_51 ?_
      refine gf_X9_234 (pc := 54) hX isT31.1 rfl dX9_tea_54 ?_
      refine aw_iconst (v := (2 : Int32)) (pc := 57) hX dX9_tea_57 (by decide) ?_
      obtain ⟨x58, hx58, h⟩ := ob h
      refine aw_iald (pc := 58) hX kc41 hx58 dX9_tea_58 ?_
      refine aw_isub (pc := 59) hX dX9_tea_59 ?_
      obtain ⟨r60, S60, hr60, h⟩ := ob2 h
      refine aw_cSI (pc := 60) (As := [.int (0 : Int32), .int (x21 - x58)]) (rest := [.int ((1 : Int32) - v1), .ref 58]) hX (c_J9_max_7cf53 (sk := SKC) hr60) ok_J9_max_7cf53 kw_4_44 st_J9_max_7cf53 rfl (by decide) (Nat.le_of_ble_eq_true rfl) rfl dX9_tea_60 (Nat.le_refl 0) (Nat.le_refl 0) ?_
      obtain ⟨S63, hS63, h⟩ := ob h
      refine aw_iast (pc := 63) hX kc58 hS63 dX9_tea_63 ?_
      refine aw_aload_n (pc := 64) hX dX9_tea_64 rfl 2 rfl ?_
      refine gf_X9_64 (pc := 65) hX kc0 rfl dX9_tea_65 ?_
      obtain ⟨S68, hr68, h⟩ := ob h
      refine aw_cVV (pc := 68) (As := []) (rest := []) hX (c_X3_forget hr68) ok_X3_forget kw_3_149 im_X3_forget se_X3_forget rfl kc88 rfl (by decide) (Nat.le_of_ble_eq_true rfl) rfl dX9_tea_68 (Nat.le_refl 0) (Nat.le_refl 0) ?_
      refine aw_aload_n (pc := 71) hX dX9_tea_71 rfl 2 rfl ?_
      refine gf_X9_37 (pc := 72) hX kc0 rfl dX9_tea_72 ?_
      refine gf_X9_188 (pc := 75) hX isW53.1 rfl dX9_tea_75 ?_
      refine aw_iload_n (pc := 78) hX dX9_tea_78 rfl 1 rfl ?_
      obtain ⟨x79, hx79, h⟩ := ob h
      refine aw_iald (pc := 79) hX kc58 hx79 dX9_tea_79 ?_
      cases h
      exact aw_iret hX hQ dX9_tea_80
    · rw [if_neg c24] at h
      refine aw_bipush (v := (-2 : Int32)) (pc := 27) hX dX9_tea_27 (by decide) ?_
      cases h
      exact aw_iret hX hQ dX9_tea_29
  · rw [if_pos c4] at h
    refine aw_iconst (v := (-1 : Int32)) (pc := 7) hX dX9_tea_7 (by decide) ?_
    cases h
    exact aw_iret hX hQ dX9_tea_8

def f_X9_text (v1 : Int32) (S : Mem) : Option (Int32 × Mem) :=
  if v1 < 0 then
  (some ((-2 : Int32), S))
  else
  (if v1 ≤ (S.1 1 1) then
  ((f_X6_cut 2 700 v1 S).bind fun S33 =>
  nxt (sI S33 1 1 (0 : Int32)) fun S41 =>
  bnd (f_X4_readLines S41) fun r48 S48 =>
  if r48 = (-1 : Int32) then
  (some ((-1 : Int32), S48))
  else
  ((f_X7_take 31 8 S48).bind fun S70 =>
  (f_X8_begin 53 S70).bind fun S77 =>
  (f_X2_clear S77).bind fun S84 =>
  nxt (sI S84 0 9 (0 : Int32)) fun S89 =>
  (f_X9_settle S89).bind fun S93 =>
  some (r48, S93)))
  else
  (some ((-2 : Int32), S)))

set_option maxHeartbeats 4000000 in
set_option maxRecDepth 100000 in
theorem c_X9_text {v1 : Int32} {S : Mem} {r : Int32} {Sf : Mem} (h : f_X9_text v1 S = some (r, Sf)) : MetI yX9_text cX9_text 3 (some .int) 8 [.ref 0, .int v1] SKC S r Sf := by
  refine MetI.intro (by decide +kernel) (Nat.le_of_ble_eq_true rfl) (fun X loc hX hQ => ?_)
  unfold f_X9_text at h
  show AW X SKC loc 0 0 0 [(0, .ref 0), (1, .int v1)] [] S
  refine aw_iload_n (pc := 0) hX dX9_text_0 rfl 1 rfl ?_
  refine aw_if_lt (pc := 1) hX (tgt := 15) dX9_text_1 (by decide) (fun c1 => ?_) (fun c1 => ?_)
  · rw [if_pos c1] at h
    refine aw_bipush (v := (-2 : Int32)) (pc := 15) hX dX9_text_15 (by decide) ?_
    cases h
    exact aw_iret hX hQ dX9_text_17
  · rw [if_neg c1] at h
    refine aw_iload_n (pc := 4) hX dX9_text_4 rfl 1 rfl ?_
    refine aw_aload_n (pc := 5) hX dX9_text_5 rfl 0 rfl ?_
    refine gf_X9_14 (pc := 6) hX kc0 rfl dX9_text_6 ?_
    refine gf_X9_75 (pc := 9) hX kc1 rfl dX9_text_9 ?_
    refine aw_icmp_le (pc := 12) hX (tgt := 18) dX9_text_12 (by decide) (fun c12 => ?_) (fun c12 => ?_)
    · rw [if_pos c12] at h
      refine aw_aload_n (pc := 18) hX dX9_text_18 rfl 0 rfl ?_
      refine gf_X9_21 (pc := 19) hX kc0 rfl dX9_text_19 ?_
      refine gf_X9_83 (pc := 22) hX kc3 rfl dX9_text_22 ?_
      refine aw_aload_n (pc := 25) hX dX9_text_25 rfl 0 rfl ?_
      refine gf_X9_14 (pc := 26) hX kc0 rfl dX9_text_26 ?_
      refine gf_X9_87 (pc := 29) hX kc1 rfl dX9_text_29 ?_
      refine aw_iload_n (pc := 32) hX dX9_text_32 rfl 1 rfl ?_
      obtain ⟨S33, hr33, h⟩ := ob h
      refine aw_cVV (pc := 33) (As := [.ref 2, .int v1]) (rest := []) hX (c_X6_cut kc2 hr33) ok_X6_cut kw_2_190 im_X6_cut se_X6_cut rfl kc4 rfl (by decide) (Nat.le_of_ble_eq_true rfl) rfl dX9_text_33 (Nat.le_refl 0) (Nat.le_refl 0) ?_
      refine aw_aload_n (pc := 36) hX dX9_text_36 rfl 0 rfl ?_
      refine gf_X9_14 (pc := 37) hX kc0 rfl dX9_text_37 ?_
      refine aw_iconst (v := (0 : Int32)) (pc := 40) hX dX9_text_40 (by decide) ?_
      refine pf_X9_75 (pc := 41) hX kc1 rfl dX9_text_41 ?_
      obtain ⟨S41, eS41, h⟩ := on h
      refine aw_S eS41 ?_
      refine aw_aload_n (pc := 44) hX dX9_text_44 rfl 0 rfl ?_
      refine gf_X9_21 (pc := 45) hX kc0 rfl dX9_text_45 ?_
      obtain ⟨r48, S48, hr48, h⟩ := ob2 h
      refine aw_cVI (pc := 48) (As := []) (rest := []) hX (c_X4_readLines hr48) ok_X4_readLines kw_3_41 im_X4_readLines se_X4_readLines rfl kc3 rfl (by decide) (Nat.le_of_ble_eq_true rfl) rfl dX9_text_48 (Nat.le_refl 0) (Nat.le_refl 0) ?_
      refine aw_istore_n (ls' := [(2, .int r48), (0, .ref 0), (1, .int v1)]) (pc := 51) hX dX9_text_51 rfl (by decide) rfl ?_
      refine aw_iload_n (pc := 52) hX dX9_text_52 rfl 0 rfl ?_
      refine aw_iconst (v := (-1 : Int32)) (pc := 53) hX dX9_text_53 (by decide) ?_
      refine aw_icmp_ne (pc := 54) hX (tgt := 59) dX9_text_54 (by decide) (fun c54 => ?_) (fun c54 => ?_)
      · rw [if_neg c54] at h
        refine aw_aload_n (pc := 59) hX dX9_text_59 rfl 1 rfl ?_
        refine gf_X9_28 (pc := 60) hX kc0 rfl dX9_text_60 ?_
        refine aw_aload_n (pc := 63) hX dX9_text_63 rfl 1 rfl ?_
        refine gf_X9_21 (pc := 64) hX kc0 rfl dX9_text_64 ?_
        refine gf_X9_101 (pc := 67) hX kc3 rfl dX9_text_67 ?_
        obtain ⟨S70, hr70, h⟩ := ob h
        refine aw_cVV (pc := 70) (As := [.ref 8]) (rest := []) hX (c_X7_take (sk := SKC) isT31 isT8 hr70) ok_X7_take kw_3_132 im_X7_take se_X7_take rfl isT31.1 rfl (by decide) (Nat.le_of_ble_eq_true rfl) rfl dX9_text_70 (Nat.le_refl 0) (Nat.le_refl 0) ?_
        refine aw_aload_n (pc := 73) hX dX9_text_73 rfl 1 rfl ?_
        refine gf_X9_37 (pc := 74) hX kc0 rfl dX9_text_74 ?_
        obtain ⟨S77, hr77, h⟩ := ob h
        refine aw_cVV (pc := 77) (As := []) (rest := []) hX (c_X8_begin (sk := SKC) isW53 isT31 hr77) ok_X8_begin kw_2_140 im_X8_begin se_X8_begin rfl isW53.1 rfl (by decide) (Nat.le_of_ble_eq_true rfl) rfl dX9_text_77 (Nat.le_refl 0) (Nat.le_refl 0) ?_
        refine aw_aload_n (pc := 80) hX dX9_text_80 rfl 1 rfl ?_
        refine gf_X9_50 (pc := 81) hX kc0 rfl dX9_text_81 ?_
        obtain ⟨S84, hr84, h⟩ := ob h
        refine aw_cVV (pc := 84) (As := []) (rest := []) hX (c_X2_clear hr84) ok_X2_clear kw_3_141 im_X2_clear se_X2_clear rfl kc77 rfl (by decide) (Nat.le_of_ble_eq_true rfl) rfl dX9_text_84 (Nat.le_refl 0) (Nat.le_refl 0) ?_
        refine aw_aload_n (pc := 87) hX dX9_text_87 rfl 1 rfl ?_
        refine aw_iconst (v := (0 : Int32)) (pc := 88) hX dX9_text_88 (by decide) ?_
        refine pf_X9_68 (pc := 89) hX kc0 rfl (by decide) dX9_text_89 ?_
        obtain ⟨S89, eS89, h⟩ := on h
        refine aw_S eS89 ?_
        refine aw_aload_n (pc := 92) hX dX9_text_92 rfl 1 rfl ?_
        obtain ⟨S93, hr93, h⟩ := ob h
        refine aw_cVV (pc := 93) (As := []) (rest := []) hX (c_X9_settle hr93) ok_X9_settle kw_3_145 im_X9_settle se_X9_settle rfl kc0 rfl (by decide) (Nat.le_of_ble_eq_true rfl) rfl dX9_text_93 (Nat.le_refl 0) (Nat.le_refl 0) ?_
        refine aw_iload_n (pc := 96) hX dX9_text_96 rfl 0 rfl ?_
        cases h
        exact aw_iret hX hQ dX9_text_97
      · rw [if_pos c54] at h
        refine aw_iconst (v := (-1 : Int32)) (pc := 57) hX dX9_text_57 (by decide) ?_
        cases h
        exact aw_iret hX hQ dX9_text_58
    · rw [if_neg c12] at h
      refine aw_bipush (v := (-2 : Int32)) (pc := 15) hX dX9_text_15 (by decide) ?_
      cases h
      exact aw_iret hX hQ dX9_text_17

def f_X9_tried_131 (v3 : Int32) (v4 : Int32) (S : Mem) : Option (Int32 × Mem) :=
  (f_X8_run 69 v3 v4 S).bind fun S138 =>
  bnd (f_X8_hurtOfAll 69 S138) fun r145 S145 =>
  some (r145, S145)

def f_X9_tried_32 (v1 : Int32) (v2 : Int32) (v3 : Int32) (S : Mem) : Option (Int32 × Mem) :=
  (f_X8_take 69 53 S).bind fun S40 =>
  if v1 = 0 then
  (f_X9_tried_131 v3 (0 : Int32) S40)
  else
  (if v1 = 1 then
  (f_X9_tried_131 v3 (2 : Int32) S40)
  else
  (if v1 = 2 then
  ((f_X8_sendHome 69 v2 S40).bind fun S98 =>
  f_X9_tried_131 v3 (0 : Int32) S98)
  else
  (if v1 = 3 then
  (f_X9_tried_131 v3 (4 : Int32) S40)
  else
  (if v1 = 4 then
  ((f_X8_careForAll 69 (9 : Int32) S40).bind fun S116 =>
  f_X9_tried_131 v3 (0 : Int32) S116)
  else
  (if v1 = 5 then
  (f_X9_tried_131 v3 (8 : Int32) S40)
  else
  (some ((-1 : Int32), S40)))))))

def f_X9_tried (v1 : Int32) (v2 : Int32) (v3 : Int32) (S : Mem) : Option (Int32 × Mem) :=
  if v3 < 0 then
  (some ((-1 : Int32), S))
  else
  (if (60 : Int32) < v3 then
  (some ((-1 : Int32), S))
  else
  (if v1 = (2 : Int32) then
  (bnd (f_X9_isDoll v2 S) fun r17 S17 =>
  if r17 = 0 then
  (some ((-1 : Int32), S17))
  else
  (f_X9_tried_32 v1 v2 v3 S17))
  else
  (if v2 = 0 then
  (f_X9_tried_32 v1 v2 v3 S)
  else
  (some ((-1 : Int32), S)))))

set_option maxHeartbeats 4000000 in
set_option maxRecDepth 100000 in
theorem c_X9_tried_131 {X : XT} {loc : Nat → Nat} {r : Int32} {Sf : Mem} (hX : AC X loc RX9 cX9_tried (some .int) 5 6 0 0) (hQ : RetI X SKC loc 0 0 r Sf) (v3 : Int32) (v4 : Int32) (S : Mem) (h : f_X9_tried_131 v3 v4 S = some (r, Sf)) : AW X SKC loc 0 0 131 [(0, .ref 0), (3, .int v3), (4, .int v4)] [] S := by
  unfold f_X9_tried_131 at h
  refine aw_aload_n (pc := 131) hX dX9_tried_131 rfl 0 rfl ?_
  refine gf_X9_44 (pc := 132) hX kc0 rfl dX9_tried_132 ?_
  refine aw_iload_n (pc := 135) hX dX9_tried_135 rfl 1 rfl ?_
  refine aw_iload (pc := 136) hX dX9_tried_136 2 rfl ?_
  obtain ⟨S138, hr138, h⟩ := ob h
  refine aw_cVV (pc := 138) (As := [.int v3, .int v4]) (rest := []) hX (c_X8_run (sk := SKC) isW69 isT31 hr138) ok_X8_run kw_4_49 im_X8_run se_X8_run rfl isW69.1 rfl (by decide) (Nat.le_of_ble_eq_true rfl) rfl dX9_tried_138 (Nat.le_refl 0) (Nat.le_refl 0) ?_
  refine aw_aload_n (pc := 141) hX dX9_tried_141 rfl 0 rfl ?_
  refine gf_X9_44 (pc := 142) hX kc0 rfl dX9_tried_142 ?_
  obtain ⟨r145, S145, hr145, h⟩ := ob2 h
  refine aw_cVI (pc := 145) (As := []) (rest := []) hX (c_X8_hurtOfAll (sk := SKC) isW69 isT31 hr145) ok_X8_hurtOfAll kw_5_38 im_X8_hurtOfAll se_X8_hurtOfAll rfl isW69.1 rfl (by decide) (Nat.le_of_ble_eq_true rfl) rfl dX9_tried_145 (Nat.le_refl 0) (Nat.le_refl 0) ?_
  cases h
  exact aw_iret hX hQ dX9_tried_148

set_option maxHeartbeats 4000000 in
set_option maxRecDepth 100000 in
theorem c_X9_tried_32 {X : XT} {loc : Nat → Nat} {r : Int32} {Sf : Mem} (hX : AC X loc RX9 cX9_tried (some .int) 5 6 0 0) (hQ : RetI X SKC loc 0 0 r Sf) (v1 : Int32) (v2 : Int32) (v3 : Int32) (S : Mem) (h : f_X9_tried_32 v1 v2 v3 S = some (r, Sf)) : AW X SKC loc 0 0 32 [(0, .ref 0), (1, .int v1), (2, .int v2), (3, .int v3)] [] S := by
  unfold f_X9_tried_32 at h
  refine aw_aload_n (pc := 32) hX dX9_tried_32 rfl 0 rfl ?_
  refine gf_X9_44 (pc := 33) hX kc0 rfl dX9_tried_33 ?_
  refine aw_aload_n (pc := 36) hX dX9_tried_36 rfl 0 rfl ?_
  refine gf_X9_37 (pc := 37) hX kc0 rfl dX9_tried_37 ?_
  obtain ⟨S40, hr40, h⟩ := ob h
  refine aw_cVV (pc := 40) (As := [.ref 53]) (rest := []) hX (c_X8_take (sk := SKC) isW69 isT31 isW53 hr40) ok_X8_take kw_4_98 im_X8_take se_X8_take rfl isW69.1 rfl (by decide) (Nat.le_of_ble_eq_true rfl) rfl dX9_tried_40 (Nat.le_refl 0) (Nat.le_refl 0) ?_
  refine aw_iconst (v := (0 : Int32)) (pc := 43) hX dX9_tried_43 (by decide) ?_
  refine aw_istore (ls' := [(4, .int (0 : Int32)), (0, .ref 0), (1, .int v1), (2, .int v2), (3, .int v3)]) (pc := 44) hX dX9_tried_44 (by decide) rfl ?_
  refine aw_iload_n (pc := 46) hX dX9_tried_46 rfl 2 rfl ?_
  by_cases c47_0 : v1 = 0
  · rw [if_pos c47_0] at h
    refine aw_tin (pc := 47) hX (v := 0) (off := 37) (tgt := 84) dX9_tried_47 c47_0 (by decide) (by decide) (by decide) (by decide) ?_
    refine aw_goto (tgt := 131) (pc := 84) hX dX9_tried_84 (by decide) ?_
    refine aw_sub (ls' := [(0, .ref 0), (3, .int v3), (4, .int (0 : Int32))]) [1, 4, 0] rfl ?_
    exact c_X9_tried_131 hX hQ v3 (0 : Int32) S40 h
  · rw [if_neg c47_0] at h
    by_cases c47_1 : v1 = 1
    · rw [if_pos c47_1] at h
      refine aw_tin (pc := 47) hX (v := 1) (off := 40) (tgt := 87) dX9_tried_47 c47_1 (by decide) (by decide) (by decide) (by decide) ?_
      refine aw_iconst (v := (2 : Int32)) (pc := 87) hX dX9_tried_87 (by decide) ?_
      refine aw_istore (ls' := [(4, .int (2 : Int32)), (0, .ref 0), (1, .int v1), (2, .int v2), (3, .int v3)]) (pc := 88) hX dX9_tried_88 (by decide) rfl ?_
      refine aw_goto (tgt := 131) (pc := 90) hX dX9_tried_90 (by decide) ?_
      refine aw_sub (ls' := [(0, .ref 0), (3, .int v3), (4, .int (2 : Int32))]) [1, 4, 0] rfl ?_
      exact c_X9_tried_131 hX hQ v3 (2 : Int32) S40 h
    · rw [if_neg c47_1] at h
      by_cases c47_2 : v1 = 2
      · rw [if_pos c47_2] at h
        refine aw_tin (pc := 47) hX (v := 2) (off := 46) (tgt := 93) dX9_tried_47 c47_2 (by decide) (by decide) (by decide) (by decide) ?_
        refine aw_aload_n (pc := 93) hX dX9_tried_93 rfl 1 rfl ?_
        refine gf_X9_44 (pc := 94) hX kc0 rfl dX9_tried_94 ?_
        refine aw_iload_n (pc := 97) hX dX9_tried_97 rfl 3 rfl ?_
        obtain ⟨S98, hr98, h⟩ := ob h
        refine aw_cVV (pc := 98) (As := [.int v2]) (rest := []) hX (c_X8_sendHome (sk := SKC) isW69 isT31 hr98) ok_X8_sendHome kw_4_32 im_X8_sendHome se_X8_sendHome rfl isW69.1 rfl (by decide) (Nat.le_of_ble_eq_true rfl) rfl dX9_tried_98 (Nat.le_refl 0) (Nat.le_refl 0) ?_
        refine aw_goto (tgt := 131) (pc := 101) hX dX9_tried_101 (by decide) ?_
        refine aw_sub (ls' := [(0, .ref 0), (3, .int v3), (4, .int (0 : Int32))]) [1, 4, 0] rfl ?_
        exact c_X9_tried_131 hX hQ v3 (0 : Int32) S98 h
      · rw [if_neg c47_2] at h
        by_cases c47_3 : v1 = 3
        · rw [if_pos c47_3] at h
          refine aw_tin (pc := 47) hX (v := 3) (off := 57) (tgt := 104) dX9_tried_47 c47_3 (by decide) (by decide) (by decide) (by decide) ?_
          refine aw_iconst (v := (4 : Int32)) (pc := 104) hX dX9_tried_104 (by decide) ?_
          refine aw_istore (ls' := [(4, .int (4 : Int32)), (0, .ref 0), (1, .int v1), (2, .int v2), (3, .int v3)]) (pc := 105) hX dX9_tried_105 (by decide) rfl ?_
          refine aw_goto (tgt := 131) (pc := 107) hX dX9_tried_107 (by decide) ?_
          refine aw_sub (ls' := [(0, .ref 0), (3, .int v3), (4, .int (4 : Int32))]) [1, 4, 0] rfl ?_
          exact c_X9_tried_131 hX hQ v3 (4 : Int32) S40 h
        · rw [if_neg c47_3] at h
          by_cases c47_4 : v1 = 4
          · rw [if_pos c47_4] at h
            refine aw_tin (pc := 47) hX (v := 4) (off := 63) (tgt := 110) dX9_tried_47 c47_4 (by decide) (by decide) (by decide) (by decide) ?_
            refine aw_aload_n (pc := 110) hX dX9_tried_110 rfl 1 rfl ?_
            refine gf_X9_44 (pc := 111) hX kc0 rfl dX9_tried_111 ?_
            refine aw_bipush (v := (9 : Int32)) (pc := 114) hX dX9_tried_114 (by decide) ?_
            obtain ⟨S116, hr116, h⟩ := ob h
            refine aw_cVV (pc := 116) (As := [.int (9 : Int32)]) (rest := []) hX (c_X8_careForAll (sk := SKC) isW69 isT31 hr116) ok_X8_careForAll kw_5_34 im_X8_careForAll se_X8_careForAll rfl isW69.1 rfl (by decide) (Nat.le_of_ble_eq_true rfl) rfl dX9_tried_116 (Nat.le_refl 0) (Nat.le_refl 0) ?_
            refine aw_goto (tgt := 131) (pc := 119) hX dX9_tried_119 (by decide) ?_
            refine aw_sub (ls' := [(0, .ref 0), (3, .int v3), (4, .int (0 : Int32))]) [1, 4, 0] rfl ?_
            exact c_X9_tried_131 hX hQ v3 (0 : Int32) S116 h
          · rw [if_neg c47_4] at h
            by_cases c47_5 : v1 = 5
            · rw [if_pos c47_5] at h
              refine aw_tin (pc := 47) hX (v := 5) (off := 75) (tgt := 122) dX9_tried_47 c47_5 (by decide) (by decide) (by decide) (by decide) ?_
              refine aw_bipush (v := (8 : Int32)) (pc := 122) hX dX9_tried_122 (by decide) ?_
              refine aw_istore (ls' := [(4, .int (8 : Int32)), (0, .ref 0), (1, .int v1), (2, .int v2), (3, .int v3)]) (pc := 124) hX dX9_tried_124 (by decide) rfl ?_
              refine aw_goto (tgt := 131) (pc := 126) hX dX9_tried_126 (by decide) ?_
              refine aw_sub (ls' := [(0, .ref 0), (3, .int v3), (4, .int (8 : Int32))]) [1, 4, 0] rfl ?_
              exact c_X9_tried_131 hX hQ v3 (8 : Int32) S40 h
            · rw [if_neg c47_5] at h
              refine aw_tout (pc := 47) hX (tgt := 129) dX9_tried_47 (by have e0 := ne_i c47_0 (by decide : (0 : Int32).toInt = 0); have e1 := ne_i c47_1 (by decide : (1 : Int32).toInt = 1); have e2 := ne_i c47_2 (by decide : (2 : Int32).toInt = 2); have e3 := ne_i c47_3 (by decide : (3 : Int32).toInt = 3); have e4 := ne_i c47_4 (by decide : (4 : Int32).toInt = 4); have e5 := ne_i c47_5 (by decide : (5 : Int32).toInt = 5); omega) (by decide) ?_
              refine aw_iconst (v := (-1 : Int32)) (pc := 129) hX dX9_tried_129 (by decide) ?_
              cases h
              exact aw_iret hX hQ dX9_tried_130

set_option maxHeartbeats 4000000 in
set_option maxRecDepth 100000 in
theorem c_X9_tried {v1 : Int32} {v2 : Int32} {v3 : Int32} {S : Mem} {r : Int32} {Sf : Mem} (h : f_X9_tried v1 v2 v3 S = some (r, Sf)) : MetI yX9_tried cX9_tried 5 (some .int) 6 [.ref 0, .int v1, .int v2, .int v3] SKC S r Sf := by
  refine MetI.intro (by decide +kernel) (Nat.le_of_ble_eq_true rfl) (fun X loc hX hQ => ?_)
  unfold f_X9_tried at h
  show AW X SKC loc 0 0 0 [(0, .ref 0), (1, .int v1), (2, .int v2), (3, .int v3)] [] S
  refine aw_iload_n (pc := 0) hX dX9_tried_0 rfl 3 rfl ?_
  refine aw_if_lt (pc := 1) hX (tgt := 30) dX9_tried_1 (by decide) (fun c1 => ?_) (fun c1 => ?_)
  · rw [if_pos c1] at h
    refine aw_iconst (v := (-1 : Int32)) (pc := 30) hX dX9_tried_30 (by decide) ?_
    cases h
    exact aw_iret hX hQ dX9_tried_31
  · rw [if_neg c1] at h
    refine aw_iload_n (pc := 4) hX dX9_tried_4 rfl 3 rfl ?_
    refine aw_bipush (v := (60 : Int32)) (pc := 5) hX dX9_tried_5 (by decide) ?_
    refine aw_icmp_gt (pc := 7) hX (tgt := 30) dX9_tried_7 (by decide) (fun c7 => ?_) (fun c7 => ?_)
    · rw [if_pos c7] at h
      refine aw_iconst (v := (-1 : Int32)) (pc := 30) hX dX9_tried_30 (by decide) ?_
      cases h
      exact aw_iret hX hQ dX9_tried_31
    · rw [if_neg c7] at h
      refine aw_iload_n (pc := 10) hX dX9_tried_10 rfl 1 rfl ?_
      refine aw_iconst (v := (2 : Int32)) (pc := 11) hX dX9_tried_11 (by decide) ?_
      refine aw_icmp_ne (pc := 12) hX (tgt := 26) dX9_tried_12 (by decide) (fun c12 => ?_) (fun c12 => ?_)
      · rw [if_neg c12] at h
        refine aw_iload_n (pc := 26) hX dX9_tried_26 rfl 2 rfl ?_
        refine aw_if_eq (pc := 27) hX (tgt := 32) dX9_tried_27 (by decide) (fun c27 => ?_) (fun c27 => ?_)
        · rw [if_pos c27] at h
          exact c_X9_tried_32 hX hQ v1 v2 v3 S h
        · rw [if_neg c27] at h
          refine aw_iconst (v := (-1 : Int32)) (pc := 30) hX dX9_tried_30 (by decide) ?_
          cases h
          exact aw_iret hX hQ dX9_tried_31
      · rw [if_pos c12] at h
        refine aw_aload_n (pc := 15) hX dX9_tried_15 rfl 0 rfl ?_
        refine aw_iload_n (pc := 16) hX dX9_tried_16 rfl 2 rfl ?_
        obtain ⟨r17, S17, hr17, h⟩ := ob2 h
        refine aw_cVI (pc := 17) (As := [.int v2]) (rest := []) hX (c_X9_isDoll hr17) ok_X9_isDoll kw_3_206 im_X9_isDoll se_X9_isDoll rfl kc0 rfl (by decide) (Nat.le_of_ble_eq_true rfl) rfl dX9_tried_17 (Nat.le_refl 0) (Nat.le_refl 0) ?_
        refine aw_if_ne (pc := 20) hX (tgt := 32) dX9_tried_20 (by decide) (fun c20 => ?_) (fun c20 => ?_)
        · rw [if_neg c20] at h
          exact c_X9_tried_32 hX hQ v1 v2 v3 S17 h
        · rw [if_pos c20] at h
          refine aw_goto (tgt := 30) (pc := 23) hX dX9_tried_23 (by decide) ?_
          refine aw_iconst (v := (-1 : Int32)) (pc := 30) hX dX9_tried_30 (by decide) ?_
          cases h
          exact aw_iret hX hQ dX9_tried_31

def f_X9_undo (S : Mem) : Option (Int32 × Mem) :=
  if (S.1 84 0) = 0 then
  (some ((-1 : Int32), S))
  else
  ((f_X0_undoIn 53 S).bind fun S20 =>
  (f_X3_forget S20).bind fun S27 =>
  some ((S27.1 84 0), S27))

set_option maxHeartbeats 4000000 in
set_option maxRecDepth 100000 in
theorem c_X9_undo {S : Mem} {r : Int32} {Sf : Mem} (h : f_X9_undo S = some (r, Sf)) : MetI yX9_undo cX9_undo 1 (some .int) 2 [.ref 0] SKC S r Sf := by
  refine MetI.intro (by decide +kernel) (Nat.le_of_ble_eq_true rfl) (fun X loc hX hQ => ?_)
  unfold f_X9_undo at h
  show AW X SKC loc 0 0 0 [(0, .ref 0)] [] S
  refine aw_aload_n (pc := 0) hX dX9_undo_0 rfl 0 rfl ?_
  refine gf_X9_57 (pc := 1) hX kc0 rfl dX9_undo_1 ?_
  refine gf_X9_325 (pc := 4) hX kc84 rfl dX9_undo_4 ?_
  refine aw_if_ne (pc := 7) hX (tgt := 12) dX9_undo_7 (by decide) (fun c7 => ?_) (fun c7 => ?_)
  · rw [if_neg c7] at h
    refine aw_aload_n (pc := 12) hX dX9_undo_12 rfl 0 rfl ?_
    refine gf_X9_57 (pc := 13) hX kc0 rfl dX9_undo_13 ?_
    refine aw_aload_n (pc := 16) hX dX9_undo_16 rfl 0 rfl ?_
    refine gf_X9_37 (pc := 17) hX kc0 rfl dX9_undo_17 ?_
    obtain ⟨S20, hr20, h⟩ := ob h
    refine aw_cVV (pc := 20) (As := [.ref 53]) (rest := []) hX (c_X0_undoIn isW53 hr20) ok_X0_undoIn kw_5_46 im_X0_undoIn se_X0_undoIn rfl kc84 rfl (by decide) (Nat.le_of_ble_eq_true rfl) rfl dX9_undo_20 (Nat.le_refl 0) (Nat.le_refl 0) ?_
    refine aw_aload_n (pc := 23) hX dX9_undo_23 rfl 0 rfl ?_
    refine gf_X9_64 (pc := 24) hX kc0 rfl dX9_undo_24 ?_
    obtain ⟨S27, hr27, h⟩ := ob h
    refine aw_cVV (pc := 27) (As := []) (rest := []) hX (c_X3_forget hr27) ok_X3_forget kw_3_149 im_X3_forget se_X3_forget rfl kc88 rfl (by decide) (Nat.le_of_ble_eq_true rfl) rfl dX9_undo_27 (Nat.le_refl 0) (Nat.le_refl 0) ?_
    refine aw_aload_n (pc := 30) hX dX9_undo_30 rfl 0 rfl ?_
    refine gf_X9_57 (pc := 31) hX kc0 rfl dX9_undo_31 ?_
    refine gf_X9_325 (pc := 34) hX kc84 rfl dX9_undo_34 ?_
    cases h
    exact aw_iret hX hQ dX9_undo_37
  · rw [if_pos c7] at h
    refine aw_iconst (v := (-1 : Int32)) (pc := 10) hX dX9_undo_10 (by decide) ?_
    cases h
    exact aw_iret hX hQ dX9_undo_11

def f_X9_until_33 : Nat → Int32 → Int32 → Int32 → Mem → Option (Int32 × Mem)
  | 0, _, _, _, _ => none
  | n + 1, v1, v2, v3, S =>
  if (99 : Int32) < v3 then
  (some ((-2 : Int32), S))
  else
  ((rd S 71 10 v1).bind fun x47 =>
  if x47 < v2 then
  ((f_X8_run 69 (1 : Int32) (0 : Int32) S).bind fun S60 =>
  f_X9_until_33 n v1 v2 (v3 + 1) S60)
  else
  (some (v3, S)))

def f_X9_until (v1 : Int32) (v2 : Int32) (S : Mem) : Option (Int32 × Mem) :=
  bnd (f_X9_isDoll v1 S) fun r2 S2 =>
  if r2 = 0 then
  (some ((-1 : Int32), S2))
  else
  (if v2 < 0 then
  (some ((-1 : Int32), S2))
  else
  (if v2 ≤ (9 : Int32) then
  ((f_X8_take 69 53 S2).bind fun S28 =>
  f_X9_until_33 FU v1 v2 (0 : Int32) S28)
  else
  (some ((-1 : Int32), S2))))

set_option maxHeartbeats 4000000 in
set_option maxRecDepth 100000 in
theorem c_X9_until_33 {X : XT} {loc : Nat → Nat} {r : Int32} {Sf : Mem} (hX : AC X loc RX9 cX9_until (some .int) 4 6 0 0) (hQ : RetI X SKC loc 0 0 r Sf) : ∀ (n : Nat) (v1 : Int32) (v2 : Int32) (v3 : Int32) (S : Mem), f_X9_until_33 n v1 v2 v3 S = some (r, Sf) → AW X SKC loc 0 0 33 [(0, .ref 0), (1, .int v1), (2, .int v2), (3, .int v3)] [] S := by
  intro n
  induction n with
  | zero => intro v1 v2 v3 S h; cases h
  | succ n ih =>
    intro v1 v2 v3 S h
    unfold f_X9_until_33 at h
    refine aw_iload_n (pc := 33) hX dX9_until_33 rfl 3 rfl ?_
    refine aw_bipush (v := (99 : Int32)) (pc := 34) hX dX9_until_34 (by decide) ?_
    refine aw_icmp_gt (pc := 36) hX (tgt := 69) dX9_until_36 (by decide) (fun c36 => ?_) (fun c36 => ?_)
    · rw [if_pos c36] at h
      refine aw_bipush (v := (-2 : Int32)) (pc := 69) hX dX9_until_69 (by decide) ?_
      cases h
      exact aw_iret hX hQ dX9_until_71
    · rw [if_neg c36] at h
      refine aw_aload_n (pc := 39) hX dX9_until_39 rfl 0 rfl ?_
      refine gf_X9_44 (pc := 40) hX kc0 rfl dX9_until_40 ?_
      refine gf_X9_158 (pc := 43) hX isW69.1 rfl dX9_until_43 ?_
      refine aw_iload_n (pc := 46) hX dX9_until_46 rfl 1 rfl ?_
      obtain ⟨x47, hx47, h⟩ := ob h
      refine aw_iald (pc := 47) hX kc71 hx47 dX9_until_47 ?_
      refine aw_iload_n (pc := 48) hX dX9_until_48 rfl 2 rfl ?_
      refine aw_icmp_lt (pc := 49) hX (tgt := 54) dX9_until_49 (by decide) (fun c49 => ?_) (fun c49 => ?_)
      · rw [if_pos c49] at h
        refine aw_aload_n (pc := 54) hX dX9_until_54 rfl 0 rfl ?_
        refine gf_X9_44 (pc := 55) hX kc0 rfl dX9_until_55 ?_
        refine aw_iconst (v := (1 : Int32)) (pc := 58) hX dX9_until_58 (by decide) ?_
        refine aw_iconst (v := (0 : Int32)) (pc := 59) hX dX9_until_59 (by decide) ?_
        obtain ⟨S60, hr60, h⟩ := ob h
        refine aw_cVV (pc := 60) (As := [.int (1 : Int32), .int (0 : Int32)]) (rest := []) hX (c_X8_run (sk := SKC) isW69 isT31 hr60) ok_X8_run kw_4_49 im_X8_run se_X8_run rfl isW69.1 rfl (by decide) (Nat.le_of_ble_eq_true rfl) rfl dX9_until_60 (Nat.le_refl 0) (Nat.le_refl 0) ?_
        refine aw_iinc (v := (v3 + 1)) (ls' := [(3, .int (v3 + 1)), (0, .ref 0), (1, .int v1), (2, .int v2)]) (pc := 63) hX dX9_until_63 (pos := 3) rfl (by first | rfl | decide) (by decide) rfl ?_
        refine aw_goto (tgt := 33) (pc := 66) hX dX9_until_66 (by decide) ?_
        refine aw_sub (ls' := [(0, .ref 0), (1, .int v1), (2, .int v2), (3, .int (v3 + 1))]) [1, 2, 3, 0] rfl ?_
        exact ih v1 v2 (v3 + 1) S60 h
      · rw [if_neg c49] at h
        refine aw_iload_n (pc := 52) hX dX9_until_52 rfl 3 rfl ?_
        cases h
        exact aw_iret hX hQ dX9_until_53

set_option maxHeartbeats 4000000 in
set_option maxRecDepth 100000 in
theorem c_X9_until {v1 : Int32} {v2 : Int32} {S : Mem} {r : Int32} {Sf : Mem} (h : f_X9_until v1 v2 S = some (r, Sf)) : MetI yX9_until cX9_until 4 (some .int) 6 [.ref 0, .int v1, .int v2] SKC S r Sf := by
  refine MetI.intro (by decide +kernel) (Nat.le_of_ble_eq_true rfl) (fun X loc hX hQ => ?_)
  unfold f_X9_until at h
  show AW X SKC loc 0 0 0 [(0, .ref 0), (1, .int v1), (2, .int v2)] [] S
  refine aw_aload_n (pc := 0) hX dX9_until_0 rfl 0 rfl ?_
  refine aw_iload_n (pc := 1) hX dX9_until_1 rfl 1 rfl ?_
  obtain ⟨r2, S2, hr2, h⟩ := ob2 h
  refine aw_cVI (pc := 2) (As := [.int v1]) (rest := []) hX (c_X9_isDoll hr2) ok_X9_isDoll kw_3_206 im_X9_isDoll se_X9_isDoll rfl kc0 rfl (by decide) (Nat.le_of_ble_eq_true rfl) rfl dX9_until_2 (Nat.le_refl 0) (Nat.le_refl 0) ?_
  refine aw_if_eq (pc := 5) hX (tgt := 18) dX9_until_5 (by decide) (fun c5 => ?_) (fun c5 => ?_)
  · rw [if_pos c5] at h
    refine aw_iconst (v := (-1 : Int32)) (pc := 18) hX dX9_until_18 (by decide) ?_
    cases h
    exact aw_iret hX hQ dX9_until_19
  · rw [if_neg c5] at h
    refine aw_iload_n (pc := 8) hX dX9_until_8 rfl 2 rfl ?_
    refine aw_if_lt (pc := 9) hX (tgt := 18) dX9_until_9 (by decide) (fun c9 => ?_) (fun c9 => ?_)
    · rw [if_pos c9] at h
      refine aw_iconst (v := (-1 : Int32)) (pc := 18) hX dX9_until_18 (by decide) ?_
      cases h
      exact aw_iret hX hQ dX9_until_19
    · rw [if_neg c9] at h
      refine aw_iload_n (pc := 12) hX dX9_until_12 rfl 2 rfl ?_
      refine aw_bipush (v := (9 : Int32)) (pc := 13) hX dX9_until_13 (by decide) ?_
      refine aw_icmp_le (pc := 15) hX (tgt := 20) dX9_until_15 (by decide) (fun c15 => ?_) (fun c15 => ?_)
      · rw [if_pos c15] at h
        refine aw_aload_n (pc := 20) hX dX9_until_20 rfl 0 rfl ?_
        refine gf_X9_44 (pc := 21) hX kc0 rfl dX9_until_21 ?_
        refine aw_aload_n (pc := 24) hX dX9_until_24 rfl 0 rfl ?_
        refine gf_X9_37 (pc := 25) hX kc0 rfl dX9_until_25 ?_
        obtain ⟨S28, hr28, h⟩ := ob h
        refine aw_cVV (pc := 28) (As := [.ref 53]) (rest := []) hX (c_X8_take (sk := SKC) isW69 isT31 isW53 hr28) ok_X8_take kw_4_98 im_X8_take se_X8_take rfl isW69.1 rfl (by decide) (Nat.le_of_ble_eq_true rfl) rfl dX9_until_28 (Nat.le_refl 0) (Nat.le_refl 0) ?_
        refine aw_iconst (v := (0 : Int32)) (pc := 31) hX dX9_until_31 (by decide) ?_
        refine aw_istore_n (ls' := [(3, .int (0 : Int32)), (0, .ref 0), (1, .int v1), (2, .int v2)]) (pc := 32) hX dX9_until_32 rfl (by decide) rfl ?_
        refine aw_sub (ls' := [(0, .ref 0), (1, .int v1), (2, .int v2), (3, .int (0 : Int32))]) [1, 2, 3, 0] rfl ?_
        exact c_X9_until_33 hX hQ FU v1 v2 (0 : Int32) S28 h
      · rw [if_neg c15] at h
        refine aw_iconst (v := (-1 : Int32)) (pc := 18) hX dX9_until_18 (by decide) ?_
        cases h
        exact aw_iret hX hQ dX9_until_19

def f_X9_whole_81 : Nat → Int32 → Int32 → Int64 → Int32 → Mem → Option (Int64 × Mem)
  | 0, _, _, _, _, _ => none
  | n + 1, v2, v6, v7, v9, S =>
  if v2 ≤ v9 then
  (some (v7, S))
  else
  (f_X9_whole_81 n v2 v6 (v7 * ((v6).toInt64)) (v9 + 1) S)

def f_X9_whole_70 (v2 : Int32) (v5 : Int32) (t0 : Int32) (S : Mem) : Option (Int64 × Mem) :=
  (dv t0 v5).bind fun x72 =>
  f_X9_whole_81 FU v2 x72 (1 : Int64) (0 : Int32) S

def f_X9_whole (v1 : Int32) (v2 : Int32) (v3 : Int32) (S : Mem) : Option (Int64 × Mem) :=
  bnd (f_X9_isHeldDoll v1 S) fun r2 S2 =>
  if r2 = 0 then
  (some ((-1 : Int64), S2))
  else
  (if v2 < 0 then
  (some ((-1 : Int64), S2))
  else
  (if (6 : Int32) < v2 then
  (some ((-1 : Int64), S2))
  else
  (if v3 < 0 then
  (some ((-1 : Int64), S2))
  else
  (if v3 ≤ (1 : Int32) then
  (bnd (f_X8_careFor 53 v1 S2) fun r43 S43 =>
  bnd (f_X8_oddsFor 53 v1 r43 S43) fun r46 S46 =>
  bnd (f_X9_sharedDivisor ((100 : Int32) - r46) S46) fun r54 S54 =>
  if v3 = 0 then
  (f_X9_whole_70 v2 r54 ((100 : Int32) - r46) S54)
  else
  (f_X9_whole_70 v2 r54 (100 : Int32) S54))
  else
  (some ((-1 : Int64), S2))))))

set_option maxHeartbeats 4000000 in
set_option maxRecDepth 100000 in
theorem c_X9_whole_81 {X : XT} {loc : Nat → Nat} {r : Int64} {Sf : Mem} (hX : AC X loc RX9 cX9_whole (some .long) 10 4 0 0) (hQ : RetL X SKC loc 0 0 r Sf) : ∀ (n : Nat) (v2 : Int32) (v6 : Int32) (v7 : Int64) (v9 : Int32) (S : Mem), f_X9_whole_81 n v2 v6 v7 v9 S = some (r, Sf) → AW X SKC loc 0 0 81 [(2, .int v2), (6, .int v6), (7, .long v7), (9, .int v9)] [] S := by
  intro n
  induction n with
  | zero => intro v2 v6 v7 v9 S h; cases h
  | succ n ih =>
    intro v2 v6 v7 v9 S h
    unfold f_X9_whole_81 at h
    refine aw_iload (pc := 81) hX dX9_whole_81 3 rfl ?_
    refine aw_iload_n (pc := 83) hX dX9_whole_83 rfl 0 rfl ?_
    refine aw_icmp_ge (pc := 84) hX (tgt := 101) dX9_whole_84 (by decide) (fun c84 => ?_) (fun c84 => ?_)
    · rw [if_pos c84] at h
      refine aw_lload (pc := 101) hX dX9_whole_101 2 rfl ?_
      cases h
      exact aw_lret hX hQ dX9_whole_103
    · rw [if_neg c84] at h
      refine aw_lload (pc := 87) hX dX9_whole_87 2 rfl ?_
      refine aw_iload (pc := 89) hX dX9_whole_89 1 rfl ?_
      refine aw_i2l (pc := 91) hX dX9_whole_91 ?_
      refine aw_lmul (pc := 92) hX dX9_whole_92 ?_
      refine aw_lstore (ls' := [(7, .long (v7 * ((v6).toInt64))), (2, .int v2), (6, .int v6), (9, .int v9)]) (pc := 93) hX dX9_whole_93 (by decide) rfl ?_
      refine aw_iinc (v := (v9 + 1)) (ls' := [(9, .int (v9 + 1)), (7, .long (v7 * ((v6).toInt64))), (2, .int v2), (6, .int v6)]) (pc := 95) hX dX9_whole_95 (pos := 3) rfl (by first | rfl | decide) (by decide) rfl ?_
      refine aw_goto (tgt := 81) (pc := 98) hX dX9_whole_98 (by decide) ?_
      refine aw_sub (ls' := [(2, .int v2), (6, .int v6), (7, .long (v7 * ((v6).toInt64))), (9, .int (v9 + 1))]) [2, 3, 1, 0] rfl ?_
      exact ih v2 v6 (v7 * ((v6).toInt64)) (v9 + 1) S h

set_option maxHeartbeats 4000000 in
set_option maxRecDepth 100000 in
theorem c_X9_whole_70 {X : XT} {loc : Nat → Nat} {r : Int64} {Sf : Mem} (hX : AC X loc RX9 cX9_whole (some .long) 10 4 0 0) (hQ : RetL X SKC loc 0 0 r Sf) (v2 : Int32) (v5 : Int32) (t0 : Int32) (S : Mem) (h : f_X9_whole_70 v2 v5 t0 S = some (r, Sf)) : AW X SKC loc 0 0 70 [(2, .int v2), (5, .int v5)] [.int t0] S := by
  unfold f_X9_whole_70 at h
  refine aw_iload (pc := 70) hX dX9_whole_70 1 rfl ?_
  obtain ⟨x72, hx72, h⟩ := ob h
  refine aw_idiv (pc := 72) hX dX9_whole_72 hx72 ?_
  refine aw_istore (ls' := [(6, .int x72), (2, .int v2), (5, .int v5)]) (pc := 73) hX dX9_whole_73 (by decide) rfl ?_
  refine aw_lconst (v := (1 : Int64)) (pc := 75) hX dX9_whole_75 (by decide) ?_
  refine aw_lstore (ls' := [(7, .long (1 : Int64)), (6, .int x72), (2, .int v2), (5, .int v5)]) (pc := 76) hX dX9_whole_76 (by decide) rfl ?_
  refine aw_iconst (v := (0 : Int32)) (pc := 78) hX dX9_whole_78 (by decide) ?_
  refine aw_istore (ls' := [(9, .int (0 : Int32)), (7, .long (1 : Int64)), (6, .int x72), (2, .int v2), (5, .int v5)]) (pc := 79) hX dX9_whole_79 (by decide) rfl ?_
  refine aw_sub (ls' := [(2, .int v2), (6, .int x72), (7, .long (1 : Int64)), (9, .int (0 : Int32))]) [3, 2, 1, 0] rfl ?_
  exact c_X9_whole_81 hX hQ FU v2 x72 (1 : Int64) (0 : Int32) S h

set_option maxHeartbeats 4000000 in
set_option maxRecDepth 100000 in
theorem c_X9_whole {v1 : Int32} {v2 : Int32} {v3 : Int32} {S : Mem} {r : Int64} {Sf : Mem} (h : f_X9_whole v1 v2 v3 S = some (r, Sf)) : MetL yX9_whole cX9_whole 10 (some .long) 4 [.ref 0, .int v1, .int v2, .int v3] SKC S r Sf := by
  refine MetL.intro (by decide +kernel) (Nat.le_of_ble_eq_true rfl) (fun X loc hX hQ => ?_)
  unfold f_X9_whole at h
  show AW X SKC loc 0 0 0 [(0, .ref 0), (1, .int v1), (2, .int v2), (3, .int v3)] [] S
  refine aw_aload_n (pc := 0) hX dX9_whole_0 rfl 0 rfl ?_
  refine aw_iload_n (pc := 1) hX dX9_whole_1 rfl 1 rfl ?_
  obtain ⟨r2, S2, hr2, h⟩ := ob2 h
  refine aw_cVI (pc := 2) (As := [.int v1]) (rest := []) hX (c_X9_isHeldDoll hr2) ok_X9_isHeldDoll kw_3_202 im_X9_isHeldDoll se_X9_isHeldDoll rfl kc0 rfl (by decide) (Nat.le_of_ble_eq_true rfl) rfl dX9_whole_2 (Nat.le_refl 0) (Nat.le_refl 0) ?_
  refine aw_if_eq (pc := 5) hX (tgt := 27) dX9_whole_5 (by decide) (fun c5 => ?_) (fun c5 => ?_)
  · rw [if_pos c5] at h
    refine aw_ldc2 (v := (-1 : Int64)) (pc := 27) hX kw_4_187 dX9_whole_27 ?_
    cases h
    exact aw_lret hX hQ dX9_whole_30
  · rw [if_neg c5] at h
    refine aw_iload_n (pc := 8) hX dX9_whole_8 rfl 2 rfl ?_
    refine aw_if_lt (pc := 9) hX (tgt := 27) dX9_whole_9 (by decide) (fun c9 => ?_) (fun c9 => ?_)
    · rw [if_pos c9] at h
      refine aw_ldc2 (v := (-1 : Int64)) (pc := 27) hX kw_4_187 dX9_whole_27 ?_
      cases h
      exact aw_lret hX hQ dX9_whole_30
    · rw [if_neg c9] at h
      refine aw_iload_n (pc := 12) hX dX9_whole_12 rfl 2 rfl ?_
      refine aw_bipush (v := (6 : Int32)) (pc := 13) hX dX9_whole_13 (by decide) ?_
      refine aw_icmp_gt (pc := 15) hX (tgt := 27) dX9_whole_15 (by decide) (fun c15 => ?_) (fun c15 => ?_)
      · rw [if_pos c15] at h
        refine aw_ldc2 (v := (-1 : Int64)) (pc := 27) hX kw_4_187 dX9_whole_27 ?_
        cases h
        exact aw_lret hX hQ dX9_whole_30
      · rw [if_neg c15] at h
        refine aw_iload_n (pc := 18) hX dX9_whole_18 rfl 3 rfl ?_
        refine aw_if_lt (pc := 19) hX (tgt := 27) dX9_whole_19 (by decide) (fun c19 => ?_) (fun c19 => ?_)
        · rw [if_pos c19] at h
          refine aw_ldc2 (v := (-1 : Int64)) (pc := 27) hX kw_4_187 dX9_whole_27 ?_
          cases h
          exact aw_lret hX hQ dX9_whole_30
        · rw [if_neg c19] at h
          refine aw_iload_n (pc := 22) hX dX9_whole_22 rfl 3 rfl ?_
          refine aw_iconst (v := (1 : Int32)) (pc := 23) hX dX9_whole_23 (by decide) ?_
          refine aw_icmp_le (pc := 24) hX (tgt := 31) dX9_whole_24 (by decide) (fun c24 => ?_) (fun c24 => ?_)
          · rw [if_pos c24] at h
            refine aw_bipush (v := (100 : Int32)) (pc := 31) hX dX9_whole_31 (by decide) ?_
            refine aw_aload_n (pc := 33) hX dX9_whole_33 rfl 0 rfl ?_
            refine gf_X9_37 (pc := 34) hX kc0 rfl dX9_whole_34 ?_
            refine aw_iload_n (pc := 37) hX dX9_whole_37 rfl 1 rfl ?_
            refine aw_aload_n (pc := 38) hX dX9_whole_38 rfl 0 rfl ?_
            refine gf_X9_37 (pc := 39) hX kc0 rfl dX9_whole_39 ?_
            refine aw_iload_n (pc := 42) hX dX9_whole_42 rfl 1 rfl ?_
            obtain ⟨r43, S43, hr43, h⟩ := ob2 h
            refine aw_cVI (pc := 43) (As := [.int v1]) (rest := [.int v1, .ref 53, .int (100 : Int32)]) hX (c_X8_careFor (sk := SKC) isW53 isT31 hr43) ok_X8_careFor kw_3_211 im_X8_careFor se_X8_careFor rfl isW53.1 rfl (by decide) (Nat.le_of_ble_eq_true rfl) rfl dX9_whole_43 (Nat.le_refl 0) (Nat.le_refl 0) ?_
            obtain ⟨r46, S46, hr46, h⟩ := ob2 h
            refine aw_cVI (pc := 46) (As := [.int v1, .int r43]) (rest := [.int (100 : Int32)]) hX (c_X8_oddsFor (sk := SKC) isW53 isT31 hr46) ok_X8_oddsFor kw_3_215 im_X8_oddsFor se_X8_oddsFor rfl isW53.1 rfl (by decide) (Nat.le_of_ble_eq_true rfl) rfl dX9_whole_46 (Nat.le_refl 0) (Nat.le_refl 0) ?_
            refine aw_isub (pc := 49) hX dX9_whole_49 ?_
            refine aw_istore (ls' := [(4, .int ((100 : Int32) - r46)), (0, .ref 0), (1, .int v1), (2, .int v2), (3, .int v3)]) (pc := 50) hX dX9_whole_50 (by decide) rfl ?_
            refine aw_iload (pc := 52) hX dX9_whole_52 0 rfl ?_
            obtain ⟨r54, S54, hr54, h⟩ := ob2 h
            refine aw_cSI (pc := 54) (As := [.int ((100 : Int32) - r46)]) (rest := []) hX (c_X9_sharedDivisor (sk := SKC) hr54) ok_X9_sharedDivisor kw_4_188 st_X9_sharedDivisor rfl (by decide) (Nat.le_of_ble_eq_true rfl) rfl dX9_whole_54 (Nat.le_refl 0) (Nat.le_refl 0) ?_
            refine aw_istore (ls' := [(5, .int r54), (4, .int ((100 : Int32) - r46)), (0, .ref 0), (1, .int v1), (2, .int v2), (3, .int v3)]) (pc := 57) hX dX9_whole_57 (by decide) rfl ?_
            refine aw_iload_n (pc := 59) hX dX9_whole_59 rfl 5 rfl ?_
            refine aw_if_ne (pc := 60) hX (tgt := 68) dX9_whole_60 (by decide) (fun c60 => ?_) (fun c60 => ?_)
            · rw [if_neg c60] at h
              refine aw_bipush (v := (100 : Int32)) (pc := 68) hX dX9_whole_68 (by decide) ?_
              refine aw_sub (ls' := [(2, .int v2), (5, .int r54)]) [4, 0] rfl ?_
              exact c_X9_whole_70 hX hQ v2 r54 (100 : Int32) S54 h
            · rw [if_pos c60] at h
              refine aw_iload (pc := 63) hX dX9_whole_63 1 rfl ?_
              refine aw_goto (tgt := 70) (pc := 65) hX dX9_whole_65 (by decide) ?_
              refine aw_sub (ls' := [(2, .int v2), (5, .int r54)]) [4, 0] rfl ?_
              exact c_X9_whole_70 hX hQ v2 r54 ((100 : Int32) - r46) S54 h
          · rw [if_neg c24] at h
            refine aw_ldc2 (v := (-1 : Int64)) (pc := 27) hX kw_4_187 dX9_whole_27 ?_
            cases h
            exact aw_lret hX hQ dX9_whole_30

def f_X9_worst_7 : Nat → Int32 → Int32 → Int32 → Mem → Option (Int32 × Mem)
  | 0, _, _, _, _ => none
  | n + 1, v1, v2, v3, S =>
  if (S.1 31 1) ≤ v3 then
  (some (v1, S))
  else
  (bnd (f_X8_isHeld 53 v3 S) fun r23 S23 =>
  if r23 = 0 then
  (f_X9_worst_7 n v1 v2 (v3 + 1) S23)
  else
  ((rd S23 55 10 v3).bind fun x37 =>
  if x37 ≤ v2 then
  (f_X9_worst_7 n v1 v2 (v3 + 1) S23)
  else
  ((rd S23 55 10 v3).bind fun x52 =>
  f_X9_worst_7 n v3 x52 (v3 + 1) S23)))

def f_X9_worst (S : Mem) : Option (Int32 × Mem) :=
  f_X9_worst_7 FU (-2 : Int32) (0 : Int32) (0 : Int32) S

set_option maxHeartbeats 4000000 in
set_option maxRecDepth 100000 in
theorem c_X9_worst_7 {X : XT} {loc : Nat → Nat} {r : Int32} {Sf : Mem} (hX : AC X loc RX9 cX9_worst (some .int) 4 1 0 0) (hQ : RetI X SKC loc 0 0 r Sf) : ∀ (n : Nat) (v1 : Int32) (v2 : Int32) (v3 : Int32) (S : Mem), f_X9_worst_7 n v1 v2 v3 S = some (r, Sf) → AW X SKC loc 0 0 7 [(0, .ref 0), (1, .int v1), (2, .int v2), (3, .int v3)] [] S := by
  intro n
  induction n with
  | zero => intro v1 v2 v3 S h; cases h
  | succ n ih =>
    intro v1 v2 v3 S h
    unfold f_X9_worst_7 at h
    refine aw_iload_n (pc := 7) hX dX9_worst_7 rfl 3 rfl ?_
    refine aw_aload_n (pc := 8) hX dX9_worst_8 rfl 0 rfl ?_
    refine gf_X9_28 (pc := 9) hX kc0 rfl dX9_worst_9 ?_
    refine gf_X9_132 (pc := 12) hX isT31.1 rfl dX9_worst_12 ?_
    refine aw_icmp_ge (pc := 15) hX (tgt := 60) dX9_worst_15 (by decide) (fun c15 => ?_) (fun c15 => ?_)
    · rw [if_pos c15] at h
      refine aw_iload_n (pc := 60) hX dX9_worst_60 rfl 1 rfl ?_
      cases h
      exact aw_iret hX hQ dX9_worst_61
    · rw [if_neg c15] at h
      refine aw_aload_n (pc := 18) hX dX9_worst_18 rfl 0 rfl ?_
      refine gf_X9_37 (pc := 19) hX kc0 rfl dX9_worst_19 ?_
      refine aw_iload_n (pc := 22) hX dX9_worst_22 rfl 3 rfl ?_
      obtain ⟨r23, S23, hr23, h⟩ := ob2 h
      refine aw_cVI (pc := 23) (As := [.int v3]) (rest := []) hX (c_X8_isHeld (sk := SKC) isW53 isT31 hr23) ok_X8_isHeld kw_3_210 im_X8_isHeld se_X8_isHeld rfl isW53.1 rfl (by decide) (Nat.le_of_ble_eq_true rfl) rfl dX9_worst_23 (Nat.le_refl 0) (Nat.le_refl 0) ?_
      refine aw_if_eq (pc := 26) hX (tgt := 54) dX9_worst_26 (by decide) (fun c26 => ?_) (fun c26 => ?_)
      · rw [if_pos c26] at h
        refine aw_iinc (v := (v3 + 1)) (ls' := [(3, .int (v3 + 1)), (0, .ref 0), (1, .int v1), (2, .int v2)]) (pc := 54) hX dX9_worst_54 (pos := 3) rfl (by first | rfl | decide) (by decide) rfl ?_
        refine aw_goto (tgt := 7) (pc := 57) hX dX9_worst_57 (by decide) ?_
        refine aw_sub (ls' := [(0, .ref 0), (1, .int v1), (2, .int v2), (3, .int (v3 + 1))]) [1, 2, 3, 0] rfl ?_
        exact ih v1 v2 (v3 + 1) S23 h
      · rw [if_neg c26] at h
        refine aw_aload_n (pc := 29) hX dX9_worst_29 rfl 0 rfl ?_
        refine gf_X9_37 (pc := 30) hX kc0 rfl dX9_worst_30 ?_
        refine gf_X9_158 (pc := 33) hX isW53.1 rfl dX9_worst_33 ?_
        refine aw_iload_n (pc := 36) hX dX9_worst_36 rfl 3 rfl ?_
        obtain ⟨x37, hx37, h⟩ := ob h
        refine aw_iald (pc := 37) hX kc55 hx37 dX9_worst_37 ?_
        refine aw_iload_n (pc := 38) hX dX9_worst_38 rfl 2 rfl ?_
        refine aw_icmp_le (pc := 39) hX (tgt := 54) dX9_worst_39 (by decide) (fun c39 => ?_) (fun c39 => ?_)
        · rw [if_pos c39] at h
          refine aw_iinc (v := (v3 + 1)) (ls' := [(3, .int (v3 + 1)), (0, .ref 0), (1, .int v1), (2, .int v2)]) (pc := 54) hX dX9_worst_54 (pos := 3) rfl (by first | rfl | decide) (by decide) rfl ?_
          refine aw_goto (tgt := 7) (pc := 57) hX dX9_worst_57 (by decide) ?_
          refine aw_sub (ls' := [(0, .ref 0), (1, .int v1), (2, .int v2), (3, .int (v3 + 1))]) [1, 2, 3, 0] rfl ?_
          exact ih v1 v2 (v3 + 1) S23 h
        · rw [if_neg c39] at h
          refine aw_iload_n (pc := 42) hX dX9_worst_42 rfl 3 rfl ?_
          refine aw_istore_n (ls' := [(1, .int v3), (0, .ref 0), (2, .int v2), (3, .int v3)]) (pc := 43) hX dX9_worst_43 rfl (by decide) rfl ?_
          refine aw_aload_n (pc := 44) hX dX9_worst_44 rfl 1 rfl ?_
          refine gf_X9_37 (pc := 45) hX kc0 rfl dX9_worst_45 ?_
          refine gf_X9_158 (pc := 48) hX isW53.1 rfl dX9_worst_48 ?_
          refine aw_iload_n (pc := 51) hX dX9_worst_51 rfl 3 rfl ?_
          obtain ⟨x52, hx52, h⟩ := ob h
          refine aw_iald (pc := 52) hX kc55 hx52 dX9_worst_52 ?_
          refine aw_istore_n (ls' := [(2, .int x52), (1, .int v3), (0, .ref 0), (3, .int v3)]) (pc := 53) hX dX9_worst_53 rfl (by decide) rfl ?_
          refine aw_iinc (v := (v3 + 1)) (ls' := [(3, .int (v3 + 1)), (2, .int x52), (1, .int v3), (0, .ref 0)]) (pc := 54) hX dX9_worst_54 (pos := 3) rfl (by first | rfl | decide) (by decide) rfl ?_
          refine aw_goto (tgt := 7) (pc := 57) hX dX9_worst_57 (by decide) ?_
          refine aw_sub (ls' := [(0, .ref 0), (1, .int v3), (2, .int x52), (3, .int (v3 + 1))]) [3, 2, 1, 0] rfl ?_
          exact ih v3 x52 (v3 + 1) S23 h

set_option maxHeartbeats 4000000 in
set_option maxRecDepth 100000 in
theorem c_X9_worst {S : Mem} {r : Int32} {Sf : Mem} (h : f_X9_worst S = some (r, Sf)) : MetI yX9_worst cX9_worst 4 (some .int) 1 [.ref 0] SKC S r Sf := by
  refine MetI.intro (by decide +kernel) (Nat.le_of_ble_eq_true rfl) (fun X loc hX hQ => ?_)
  unfold f_X9_worst at h
  show AW X SKC loc 0 0 0 [(0, .ref 0)] [] S
  refine aw_bipush (v := (-2 : Int32)) (pc := 0) hX dX9_worst_0 (by decide) ?_
  refine aw_istore_n (ls' := [(1, .int (-2 : Int32)), (0, .ref 0)]) (pc := 2) hX dX9_worst_2 rfl (by decide) rfl ?_
  refine aw_iconst (v := (0 : Int32)) (pc := 3) hX dX9_worst_3 (by decide) ?_
  refine aw_istore_n (ls' := [(2, .int (0 : Int32)), (1, .int (-2 : Int32)), (0, .ref 0)]) (pc := 4) hX dX9_worst_4 rfl (by decide) rfl ?_
  refine aw_iconst (v := (0 : Int32)) (pc := 5) hX dX9_worst_5 (by decide) ?_
  refine aw_istore_n (ls' := [(3, .int (0 : Int32)), (2, .int (0 : Int32)), (1, .int (-2 : Int32)), (0, .ref 0)]) (pc := 6) hX dX9_worst_6 rfl (by decide) rfl ?_
  refine aw_sub (ls' := [(0, .ref 0), (1, .int (-2 : Int32)), (2, .int (0 : Int32)), (3, .int (0 : Int32))]) [3, 2, 1, 0] rfl ?_
  exact c_X9_worst_7 hX hQ FU (-2 : Int32) (0 : Int32) (0 : Int32) S h

