def f_X4_wrong_34 (t1 : Int32) (S : Mem) : Option (Int32 × Mem) :=
  nxt (sI S 3 3 t1) fun S34 =>
  some ((0 : Int32), S34)

def f_X4_wrong (v1 : Int32) (S : Mem) : Option (Int32 × Mem) :=
  nxt (sI S 3 2 v1) fun S2 =>
  if (700 : Int32) < (S2.1 3 5) then
  (f_X4_wrong_34 (700 : Int32) S2)
  else
  ((rd S2 6 701 (S2.1 3 5)).bind fun x27 =>
  f_X4_wrong_34 x27 S2)

set_option maxHeartbeats 4000000 in
set_option maxRecDepth 100000 in
theorem c_X4_wrong_34 {X : XT} {loc : Nat → Nat} {r : Int32} {Sf : Mem} (hX : AC X loc RX4 cX4_wrong (some .boolean) 2 0 0 0) (hQ : RetI X SKC loc 0 0 r Sf) (t1 : Int32) (S : Mem) (h : f_X4_wrong_34 t1 S = some (r, Sf)) : AW X SKC loc 0 0 34 [] [.int t1, .ref 3] S := by
  unfold f_X4_wrong_34 at h
  refine pf_X4_29 (pc := 34) hX kc3 rfl dX4_wrong_34 ?_
  obtain ⟨S34, eS34, h⟩ := on h
  refine aw_S eS34 ?_
  refine aw_iconst (v := (0 : Int32)) (pc := 37) hX dX4_wrong_37 (by decide) ?_
  cases h
  exact aw_zret hX hQ (by decide) dX4_wrong_38

set_option maxHeartbeats 4000000 in
set_option maxRecDepth 100000 in
theorem c_X4_wrong {v1 : Int32} {S : Mem} {r : Int32} {Sf : Mem} (h : f_X4_wrong v1 S = some (r, Sf)) : MetI yX4_wrong cX4_wrong 2 (some .boolean) 0 [.ref 3, .int v1] SKC S r Sf := by
  refine MetI.intro (by decide +kernel) (Nat.le_of_ble_eq_true rfl) (fun X loc hX hQ => ?_)
  unfold f_X4_wrong at h
  show AW X SKC loc 0 0 0 [(0, .ref 3), (1, .int v1)] [] S
  refine aw_aload_n (pc := 0) hX dX4_wrong_0 rfl 0 rfl ?_
  refine aw_iload_n (pc := 1) hX dX4_wrong_1 rfl 1 rfl ?_
  refine pf_X4_25 (pc := 2) hX kc3 rfl dX4_wrong_2 ?_
  obtain ⟨S2, eS2, h⟩ := on h
  refine aw_S eS2 ?_
  refine aw_aload_n (pc := 5) hX dX4_wrong_5 rfl 0 rfl ?_
  refine aw_aload_n (pc := 6) hX dX4_wrong_6 rfl 0 rfl ?_
  refine gf_X4_36 (pc := 7) hX kc3 rfl dX4_wrong_7 ?_
  refine aw_sipush (v := (700 : Int32)) (pc := 10) hX dX4_wrong_10 (by decide) ?_
  refine aw_icmp_gt (pc := 13) hX (tgt := 31) dX4_wrong_13 (by decide) (fun c13 => ?_) (fun c13 => ?_)
  · rw [if_pos c13] at h
    refine aw_sipush (v := (700 : Int32)) (pc := 31) hX dX4_wrong_31 (by decide) ?_
    refine aw_sub (ls' := []) [] rfl ?_
    exact c_X4_wrong_34 hX hQ (700 : Int32) S2 h
  · rw [if_neg c13] at h
    refine aw_aload_n (pc := 16) hX dX4_wrong_16 rfl 0 rfl ?_
    refine gf_X4_12 (pc := 17) hX kc3 rfl dX4_wrong_17 ?_
    refine gf_X4_69 (pc := 20) hX kc4 rfl dX4_wrong_20 ?_
    refine aw_aload_n (pc := 23) hX dX4_wrong_23 rfl 0 rfl ?_
    refine gf_X4_36 (pc := 24) hX kc3 rfl dX4_wrong_24 ?_
    obtain ⟨x27, hx27, h⟩ := ob h
    refine aw_iald (pc := 27) hX kc6 hx27 dX4_wrong_27 ?_
    refine aw_goto (tgt := 34) (pc := 28) hX dX4_wrong_28 (by decide) ?_
    refine aw_sub (ls' := []) [] rfl ?_
    exact c_X4_wrong_34 hX hQ x27 S2 h

def f_X4_addKnot (S : Mem) : Option (Int32 × Mem) :=
  if (S.1 8 2) < (64 : Int32) then
  (nxt (sI S 8 2 ((S.1 8 2) + (1 : Int32))) fun S28 =>
  some ((1 : Int32), S28))
  else
  (bnd (f_X4_wrong (2 : Int32) S) fun r14 S14 =>
  if okz r14 = true then some (r14, S14) else none)

set_option maxHeartbeats 4000000 in
set_option maxRecDepth 100000 in
theorem c_X4_addKnot {S : Mem} {r : Int32} {Sf : Mem} (h : f_X4_addKnot S = some (r, Sf)) : MetI yX4_addKnot cX4_addKnot 1 (some .boolean) 1 [.ref 3] SKC S r Sf := by
  refine MetI.intro (by decide +kernel) (Nat.le_of_ble_eq_true rfl) (fun X loc hX hQ => ?_)
  unfold f_X4_addKnot at h
  show AW X SKC loc 0 0 0 [(0, .ref 3)] [] S
  refine aw_aload_n (pc := 0) hX dX4_addKnot_0 rfl 0 rfl ?_
  refine gf_X4_21 (pc := 1) hX kc3 rfl dX4_addKnot_1 ?_
  refine gf_X4_178 (pc := 4) hX isT8.1 rfl dX4_addKnot_4 ?_
  refine aw_bipush (v := (64 : Int32)) (pc := 7) hX dX4_addKnot_7 (by decide) ?_
  refine aw_icmp_lt (pc := 9) hX (tgt := 18) dX4_addKnot_9 (by decide) (fun c9 => ?_) (fun c9 => ?_)
  · rw [if_pos c9] at h
    refine aw_aload_n (pc := 18) hX dX4_addKnot_18 rfl 0 rfl ?_
    refine gf_X4_21 (pc := 19) hX kc3 rfl dX4_addKnot_19 ?_
    refine aw_dup (pc := 22) hX dX4_addKnot_22 rfl ?_
    refine gf_X4_178 (pc := 23) hX isT8.1 rfl dX4_addKnot_23 ?_
    refine aw_iconst (v := (1 : Int32)) (pc := 26) hX dX4_addKnot_26 (by decide) ?_
    refine aw_iadd (pc := 27) hX dX4_addKnot_27 ?_
    refine pf_X4_178 (pc := 28) hX isT8.1 rfl dX4_addKnot_28 ?_
    obtain ⟨S28, eS28, h⟩ := on h
    refine aw_S eS28 ?_
    refine aw_iconst (v := (1 : Int32)) (pc := 31) hX dX4_addKnot_31 (by decide) ?_
    cases h
    exact aw_zret hX hQ (by decide) dX4_addKnot_32
  · rw [if_neg c9] at h
    refine aw_aload_n (pc := 12) hX dX4_addKnot_12 rfl 0 rfl ?_
    refine aw_iconst (v := (2 : Int32)) (pc := 13) hX dX4_addKnot_13 (by decide) ?_
    obtain ⟨r14, S14, hr14, h⟩ := ob2 h
    refine aw_cVI (pc := 14) (As := [.int (2 : Int32)]) (rest := []) hX (c_X4_wrong hr14) ok_X4_wrong kw_3_58 im_X4_wrong se_X4_wrong rfl kc3 rfl (by decide) (Nat.le_of_ble_eq_true rfl) rfl dX4_addKnot_14 (Nat.le_refl 0) (Nat.le_refl 0) ?_
    by_cases hz17 : okz r14 = true
    · rw [if_pos hz17] at h
      cases h
      exact aw_zret hX hQ hz17 dX4_addKnot_17
    · rw [if_neg hz17] at h
      cases h

def f_X4_kind (S : Mem) : Option (Int32 × Mem) :=
  if (700 : Int32) < (S.1 3 5) then
  (some ((0 : Int32), S))
  else
  ((rd S 5 701 (S.1 3 5)).bind fun x21 =>
  some (x21, S))

set_option maxHeartbeats 4000000 in
set_option maxRecDepth 100000 in
theorem c_X4_kind {S : Mem} {r : Int32} {Sf : Mem} (h : f_X4_kind S = some (r, Sf)) : MetI yX4_kind cX4_kind 1 (some .int) 0 [.ref 3] SKC S r Sf := by
  refine MetI.intro (by decide +kernel) (Nat.le_of_ble_eq_true rfl) (fun X loc hX hQ => ?_)
  unfold f_X4_kind at h
  show AW X SKC loc 0 0 0 [(0, .ref 3)] [] S
  refine aw_aload_n (pc := 0) hX dX4_kind_0 rfl 0 rfl ?_
  refine gf_X4_36 (pc := 1) hX kc3 rfl dX4_kind_1 ?_
  refine aw_sipush (v := (700 : Int32)) (pc := 4) hX dX4_kind_4 (by decide) ?_
  refine aw_icmp_gt (pc := 7) hX (tgt := 25) dX4_kind_7 (by decide) (fun c7 => ?_) (fun c7 => ?_)
  · rw [if_pos c7] at h
    refine aw_iconst (v := (0 : Int32)) (pc := 25) hX dX4_kind_25 (by decide) ?_
    cases h
    exact aw_iret hX hQ dX4_kind_26
  · rw [if_neg c7] at h
    refine aw_aload_n (pc := 10) hX dX4_kind_10 rfl 0 rfl ?_
    refine gf_X4_12 (pc := 11) hX kc3 rfl dX4_kind_11 ?_
    refine gf_X4_64 (pc := 14) hX kc4 rfl dX4_kind_14 ?_
    refine aw_aload_n (pc := 17) hX dX4_kind_17 rfl 0 rfl ?_
    refine gf_X4_36 (pc := 18) hX kc3 rfl dX4_kind_18 ?_
    obtain ⟨x21, hx21, h⟩ := ob h
    refine aw_iald (pc := 21) hX kc5 hx21 dX4_kind_21 ?_
    refine aw_goto (tgt := 26) (pc := 22) hX dX4_kind_22 (by decide) ?_
    cases h
    exact aw_iret hX hQ dX4_kind_26

def f_X4_letWait (v1 : Int32) (S : Mem) : Option (Int32 × Mem) :=
  if (S.1 3 6) < (nI 72) then
  ((wr S 30 72 (S.1 3 6) v1).bind fun S27 =>
  nxt (sI S27 3 6 ((S27.1 3 6) + (1 : Int32))) fun S35 =>
  some ((1 : Int32), S35))
  else
  (bnd (f_X4_wrong (2 : Int32) S) fun r14 S14 =>
  if okz r14 = true then some (r14, S14) else none)

set_option maxHeartbeats 4000000 in
set_option maxRecDepth 100000 in
theorem c_X4_letWait {v1 : Int32} {S : Mem} {r : Int32} {Sf : Mem} (h : f_X4_letWait v1 S = some (r, Sf)) : MetI yX4_letWait cX4_letWait 2 (some .boolean) 1 [.ref 3, .int v1] SKC S r Sf := by
  refine MetI.intro (by decide +kernel) (Nat.le_of_ble_eq_true rfl) (fun X loc hX hQ => ?_)
  unfold f_X4_letWait at h
  show AW X SKC loc 0 0 0 [(0, .ref 3), (1, .int v1)] [] S
  refine aw_aload_n (pc := 0) hX dX4_letWait_0 rfl 0 rfl ?_
  refine gf_X4_39 (pc := 1) hX kc3 rfl dX4_letWait_1 ?_
  refine aw_aload_n (pc := 4) hX dX4_letWait_4 rfl 0 rfl ?_
  refine gf_X4_32 (pc := 5) hX kc3 rfl dX4_letWait_5 ?_
  refine aw_alen (pc := 8) hX kc30 (by decide) dX4_letWait_8 ?_
  refine aw_icmp_lt (pc := 9) hX (tgt := 18) dX4_letWait_9 (by decide) (fun c9 => ?_) (fun c9 => ?_)
  · rw [if_pos c9] at h
    refine aw_aload_n (pc := 18) hX dX4_letWait_18 rfl 0 rfl ?_
    refine gf_X4_32 (pc := 19) hX kc3 rfl dX4_letWait_19 ?_
    refine aw_aload_n (pc := 22) hX dX4_letWait_22 rfl 0 rfl ?_
    refine gf_X4_39 (pc := 23) hX kc3 rfl dX4_letWait_23 ?_
    refine aw_iload_n (pc := 26) hX dX4_letWait_26 rfl 1 rfl ?_
    obtain ⟨S27, hS27, h⟩ := ob h
    refine aw_iast (pc := 27) hX kc30 hS27 dX4_letWait_27 ?_
    refine aw_aload_n (pc := 28) hX dX4_letWait_28 rfl 0 rfl ?_
    refine aw_dup (pc := 29) hX dX4_letWait_29 rfl ?_
    refine gf_X4_39 (pc := 30) hX kc3 rfl dX4_letWait_30 ?_
    refine aw_iconst (v := (1 : Int32)) (pc := 33) hX dX4_letWait_33 (by decide) ?_
    refine aw_iadd (pc := 34) hX dX4_letWait_34 ?_
    refine pf_X4_39 (pc := 35) hX kc3 rfl dX4_letWait_35 ?_
    obtain ⟨S35, eS35, h⟩ := on h
    refine aw_S eS35 ?_
    refine aw_iconst (v := (1 : Int32)) (pc := 38) hX dX4_letWait_38 (by decide) ?_
    cases h
    exact aw_zret hX hQ (by decide) dX4_letWait_39
  · rw [if_neg c9] at h
    refine aw_aload_n (pc := 12) hX dX4_letWait_12 rfl 0 rfl ?_
    refine aw_iconst (v := (2 : Int32)) (pc := 13) hX dX4_letWait_13 (by decide) ?_
    obtain ⟨r14, S14, hr14, h⟩ := ob2 h
    refine aw_cVI (pc := 14) (As := [.int (2 : Int32)]) (rest := []) hX (c_X4_wrong hr14) ok_X4_wrong kw_3_58 im_X4_wrong se_X4_wrong rfl kc3 rfl (by decide) (Nat.le_of_ble_eq_true rfl) rfl dX4_letWait_14 (Nat.le_refl 0) (Nat.le_refl 0) ?_
    by_cases hz17 : okz r14 = true
    · rw [if_pos hz17] at h
      cases h
      exact aw_zret hX hQ hz17 dX4_letWait_17
    · rw [if_neg hz17] at h
      cases h

def f_X4_pass (v1 : Int32) (S : Mem) : Option (Int32 × Mem) :=
  bnd (f_X4_kind S) fun r1 S1 =>
  if r1 = v1 then
  (nxt (sI S1 3 5 ((S1.1 3 5) + (1 : Int32))) fun S21 =>
  some ((1 : Int32), S21))
  else
  (bnd (f_X4_wrong (1 : Int32) S1) fun r10 S10 =>
  if okz r10 = true then some (r10, S10) else none)

set_option maxHeartbeats 4000000 in
set_option maxRecDepth 100000 in
theorem c_X4_pass {v1 : Int32} {S : Mem} {r : Int32} {Sf : Mem} (h : f_X4_pass v1 S = some (r, Sf)) : MetI yX4_pass cX4_pass 2 (some .boolean) 1 [.ref 3, .int v1] SKC S r Sf := by
  refine MetI.intro (by decide +kernel) (Nat.le_of_ble_eq_true rfl) (fun X loc hX hQ => ?_)
  unfold f_X4_pass at h
  show AW X SKC loc 0 0 0 [(0, .ref 3), (1, .int v1)] [] S
  refine aw_aload_n (pc := 0) hX dX4_pass_0 rfl 0 rfl ?_
  obtain ⟨r1, S1, hr1, h⟩ := ob2 h
  refine aw_cVI (pc := 1) (As := []) (rest := []) hX (c_X4_kind hr1) ok_X4_kind kw_3_46 im_X4_kind se_X4_kind rfl kc3 rfl (by decide) (Nat.le_of_ble_eq_true rfl) rfl dX4_pass_1 (Nat.le_refl 0) (Nat.le_refl 0) ?_
  refine aw_iload_n (pc := 4) hX dX4_pass_4 rfl 1 rfl ?_
  refine aw_icmp_eq (pc := 5) hX (tgt := 14) dX4_pass_5 (by decide) (fun c5 => ?_) (fun c5 => ?_)
  · rw [if_pos c5] at h
    refine aw_aload_n (pc := 14) hX dX4_pass_14 rfl 0 rfl ?_
    refine aw_dup (pc := 15) hX dX4_pass_15 rfl ?_
    refine gf_X4_36 (pc := 16) hX kc3 rfl dX4_pass_16 ?_
    refine aw_iconst (v := (1 : Int32)) (pc := 19) hX dX4_pass_19 (by decide) ?_
    refine aw_iadd (pc := 20) hX dX4_pass_20 ?_
    refine pf_X4_36 (pc := 21) hX kc3 rfl dX4_pass_21 ?_
    obtain ⟨S21, eS21, h⟩ := on h
    refine aw_S eS21 ?_
    refine aw_iconst (v := (1 : Int32)) (pc := 24) hX dX4_pass_24 (by decide) ?_
    cases h
    exact aw_zret hX hQ (by decide) dX4_pass_25
  · rw [if_neg c5] at h
    refine aw_aload_n (pc := 8) hX dX4_pass_8 rfl 0 rfl ?_
    refine aw_iconst (v := (1 : Int32)) (pc := 9) hX dX4_pass_9 (by decide) ?_
    obtain ⟨r10, S10, hr10, h⟩ := ob2 h
    refine aw_cVI (pc := 10) (As := [.int (1 : Int32)]) (rest := []) hX (c_X4_wrong hr10) ok_X4_wrong kw_3_58 im_X4_wrong se_X4_wrong rfl kc3 rfl (by decide) (Nat.le_of_ble_eq_true rfl) rfl dX4_pass_10 (Nat.le_refl 0) (Nat.le_refl 0) ?_
    by_cases hz13 : okz r10 = true
    · rw [if_pos hz13] at h
      cases h
      exact aw_zret hX hQ hz13 dX4_pass_13
    · rw [if_neg hz13] at h
      cases h

def f_X4_strengthOf_14 (v0 : Int32) (S : Mem) : Option (Int32 × Mem) :=
  if v0 = 13 then
  (some ((5 : Int32), S))
  else
  (if v0 = 14 then
  (some ((5 : Int32), S))
  else
  (if v0 = 15 then
  (some ((6 : Int32), S))
  else
  (if v0 = 16 then
  (some ((6 : Int32), S))
  else
  (if v0 = 17 then
  (some ((1 : Int32), S))
  else
  (if v0 = 18 then
  (some ((2 : Int32), S))
  else
  (if v0 = 19 then
  (some ((3 : Int32), S))
  else
  (some ((0 : Int32), S))))))))

def f_X4_strengthOf (v0 : Int32) (S : Mem) : Option (Int32 × Mem) :=
  if v0 < (7 : Int32) then
  (f_X4_strengthOf_14 v0 S)
  else
  (if (12 : Int32) < v0 then
  (f_X4_strengthOf_14 v0 S)
  else
  (some ((4 : Int32), S)))

set_option maxHeartbeats 4000000 in
set_option maxRecDepth 100000 in
theorem c_X4_strengthOf_14 {X : XT} {loc : Nat → Nat} {sk : Skel} {r : Int32} {Sf : Mem} (hX : AC X loc RX4 cX4_strengthOf (some .int) 1 0 0 0) (hQ : RetI X sk loc 0 0 r Sf) (v0 : Int32) (S : Mem) (h : f_X4_strengthOf_14 v0 S = some (r, Sf)) : AW X sk loc 0 0 14 [(0, .int v0)] [] S := by
  unfold f_X4_strengthOf_14 at h
  refine aw_iload_n (pc := 14) hX dX4_strengthOf_14 rfl 0 rfl ?_
  by_cases c15_0 : v0 = 13
  · rw [if_pos c15_0] at h
    refine aw_tin (pc := 15) hX (v := 13) (off := 47) (tgt := 62) dX4_strengthOf_15 c15_0 (by decide) (by decide) (by decide) (by decide) ?_
    refine aw_iconst (v := (5 : Int32)) (pc := 62) hX dX4_strengthOf_62 (by decide) ?_
    cases h
    exact aw_iret hX hQ dX4_strengthOf_63
  · rw [if_neg c15_0] at h
    by_cases c15_1 : v0 = 14
    · rw [if_pos c15_1] at h
      refine aw_tin (pc := 15) hX (v := 14) (off := 47) (tgt := 62) dX4_strengthOf_15 c15_1 (by decide) (by decide) (by decide) (by decide) ?_
      refine aw_iconst (v := (5 : Int32)) (pc := 62) hX dX4_strengthOf_62 (by decide) ?_
      cases h
      exact aw_iret hX hQ dX4_strengthOf_63
    · rw [if_neg c15_1] at h
      by_cases c15_2 : v0 = 15
      · rw [if_pos c15_2] at h
        refine aw_tin (pc := 15) hX (v := 15) (off := 49) (tgt := 64) dX4_strengthOf_15 c15_2 (by decide) (by decide) (by decide) (by decide) ?_
        refine aw_bipush (v := (6 : Int32)) (pc := 64) hX dX4_strengthOf_64 (by decide) ?_
        cases h
        exact aw_iret hX hQ dX4_strengthOf_66
      · rw [if_neg c15_2] at h
        by_cases c15_3 : v0 = 16
        · rw [if_pos c15_3] at h
          refine aw_tin (pc := 15) hX (v := 16) (off := 49) (tgt := 64) dX4_strengthOf_15 c15_3 (by decide) (by decide) (by decide) (by decide) ?_
          refine aw_bipush (v := (6 : Int32)) (pc := 64) hX dX4_strengthOf_64 (by decide) ?_
          cases h
          exact aw_iret hX hQ dX4_strengthOf_66
        · rw [if_neg c15_3] at h
          by_cases c15_4 : v0 = 17
          · rw [if_pos c15_4] at h
            refine aw_tin (pc := 15) hX (v := 17) (off := 41) (tgt := 56) dX4_strengthOf_15 c15_4 (by decide) (by decide) (by decide) (by decide) ?_
            refine aw_iconst (v := (1 : Int32)) (pc := 56) hX dX4_strengthOf_56 (by decide) ?_
            cases h
            exact aw_iret hX hQ dX4_strengthOf_57
          · rw [if_neg c15_4] at h
            by_cases c15_5 : v0 = 18
            · rw [if_pos c15_5] at h
              refine aw_tin (pc := 15) hX (v := 18) (off := 43) (tgt := 58) dX4_strengthOf_15 c15_5 (by decide) (by decide) (by decide) (by decide) ?_
              refine aw_iconst (v := (2 : Int32)) (pc := 58) hX dX4_strengthOf_58 (by decide) ?_
              cases h
              exact aw_iret hX hQ dX4_strengthOf_59
            · rw [if_neg c15_5] at h
              by_cases c15_6 : v0 = 19
              · rw [if_pos c15_6] at h
                refine aw_tin (pc := 15) hX (v := 19) (off := 45) (tgt := 60) dX4_strengthOf_15 c15_6 (by decide) (by decide) (by decide) (by decide) ?_
                refine aw_iconst (v := (3 : Int32)) (pc := 60) hX dX4_strengthOf_60 (by decide) ?_
                cases h
                exact aw_iret hX hQ dX4_strengthOf_61
              · rw [if_neg c15_6] at h
                refine aw_tout (pc := 15) hX (tgt := 67) dX4_strengthOf_15 (by have e0 := ne_i c15_0 (by decide : (13 : Int32).toInt = 13); have e1 := ne_i c15_1 (by decide : (14 : Int32).toInt = 14); have e2 := ne_i c15_2 (by decide : (15 : Int32).toInt = 15); have e3 := ne_i c15_3 (by decide : (16 : Int32).toInt = 16); have e4 := ne_i c15_4 (by decide : (17 : Int32).toInt = 17); have e5 := ne_i c15_5 (by decide : (18 : Int32).toInt = 18); have e6 := ne_i c15_6 (by decide : (19 : Int32).toInt = 19); omega) (by decide) ?_
                refine aw_iconst (v := (0 : Int32)) (pc := 67) hX dX4_strengthOf_67 (by decide) ?_
                cases h
                exact aw_iret hX hQ dX4_strengthOf_68

set_option maxHeartbeats 4000000 in
set_option maxRecDepth 100000 in
theorem c_X4_strengthOf {sk : Skel} {v0 : Int32} {S : Mem} {r : Int32} {Sf : Mem} (h : f_X4_strengthOf v0 S = some (r, Sf)) : MetI yX4_strengthOf cX4_strengthOf 1 (some .int) 0 [.int v0] sk S r Sf := by
  refine MetI.intro (by decide +kernel) (Nat.le_of_ble_eq_true rfl) (fun X loc hX hQ => ?_)
  unfold f_X4_strengthOf at h
  show AW X sk loc 0 0 0 [(0, .int v0)] [] S
  refine aw_iload_n (pc := 0) hX dX4_strengthOf_0 rfl 0 rfl ?_
  refine aw_bipush (v := (7 : Int32)) (pc := 1) hX dX4_strengthOf_1 (by decide) ?_
  refine aw_icmp_lt (pc := 3) hX (tgt := 14) dX4_strengthOf_3 (by decide) (fun c3 => ?_) (fun c3 => ?_)
  · rw [if_pos c3] at h
    exact c_X4_strengthOf_14 hX hQ v0 S h
  · rw [if_neg c3] at h
    refine aw_iload_n (pc := 6) hX dX4_strengthOf_6 rfl 0 rfl ?_
    refine aw_bipush (v := (12 : Int32)) (pc := 7) hX dX4_strengthOf_7 (by decide) ?_
    refine aw_icmp_gt (pc := 9) hX (tgt := 14) dX4_strengthOf_9 (by decide) (fun c9 => ?_) (fun c9 => ?_)
    · rw [if_pos c9] at h
      exact c_X4_strengthOf_14 hX hQ v0 S h
    · rw [if_neg c9] at h
      refine aw_iconst (v := (4 : Int32)) (pc := 12) hX dX4_strengthOf_12 (by decide) ?_
      cases h
      exact aw_iret hX hQ dX4_strengthOf_13

def f_X4_settleStronger_0 (a1 : Nat) : Nat → Int32 → Mem → Option Mem
  | 0, _, _ => none
  | n + 1, v2, S =>
  if (S.1 3 6) ≤ 0 then
  (some S)
  else
  ((rd S 30 72 ((S.1 3 6) - (1 : Int32))).bind fun x17 =>
  bnd (f_X4_strengthOf x17 S) fun r18 S18 =>
  if r18 < v2 then
  (some S18)
  else
  (nxt (sI S18 3 6 ((S18.1 3 6) - (1 : Int32))) fun S32 =>
  (rd S32 30 72 (S32.1 3 6)).bind fun x44 =>
  bnd (f_X1_add a1 x44 S32) fun r45 S45 =>
  f_X4_settleStronger_0 a1 n v2 S45))

def f_X4_settleStronger (a1 : Nat) (v2 : Int32) (S : Mem) : Option Mem :=
  f_X4_settleStronger_0 a1 FU v2 S

set_option maxHeartbeats 4000000 in
set_option maxRecDepth 100000 in
theorem c_X4_settleStronger_0 {X : XT} {loc : Nat → Nat} {a1 : Nat} {Sf : Mem} (hX : AC X loc RX4 cX4_settleStronger none 3 1 0 0) (hQ : RetV X SKC loc 0 0 Sf) (ha1 : IsLaw SKC a1) : ∀ (n : Nat) (v2 : Int32) (S : Mem), f_X4_settleStronger_0 a1 n v2 S = some Sf → AW X SKC loc 0 0 0 [(0, .ref 3), (1, .ref a1), (2, .int v2)] [] S := by
  intro n
  induction n with
  | zero => intro v2 S h; cases h
  | succ n ih =>
    intro v2 S h
    unfold f_X4_settleStronger_0 at h
    refine aw_aload_n (pc := 0) hX dX4_settleStronger_0 rfl 0 rfl ?_
    refine gf_X4_39 (pc := 1) hX kc3 rfl dX4_settleStronger_1 ?_
    refine aw_if_le (pc := 4) hX (tgt := 52) dX4_settleStronger_4 (by decide) (fun c4 => ?_) (fun c4 => ?_)
    · rw [if_pos c4] at h
      cases h
      exact aw_vret hX hQ dX4_settleStronger_52
    · rw [if_neg c4] at h
      refine aw_aload_n (pc := 7) hX dX4_settleStronger_7 rfl 0 rfl ?_
      refine gf_X4_32 (pc := 8) hX kc3 rfl dX4_settleStronger_8 ?_
      refine aw_aload_n (pc := 11) hX dX4_settleStronger_11 rfl 0 rfl ?_
      refine gf_X4_39 (pc := 12) hX kc3 rfl dX4_settleStronger_12 ?_
      refine aw_iconst (v := (1 : Int32)) (pc := 15) hX dX4_settleStronger_15 (by decide) ?_
      refine aw_isub (pc := 16) hX dX4_settleStronger_16 ?_
      obtain ⟨x17, hx17, h⟩ := ob h
      refine aw_iald (pc := 17) hX kc30 hx17 dX4_settleStronger_17 ?_
      obtain ⟨r18, S18, hr18, h⟩ := ob2 h
      refine aw_cSI (pc := 18) (As := [.int x17]) (rest := []) hX (c_X4_strengthOf (sk := SKC) hr18) ok_X4_strengthOf kw_3_101 st_X4_strengthOf rfl (by decide) (Nat.le_of_ble_eq_true rfl) rfl dX4_settleStronger_18 (Nat.le_refl 0) (Nat.le_refl 0) ?_
      refine aw_iload_n (pc := 21) hX dX4_settleStronger_21 rfl 2 rfl ?_
      refine aw_icmp_lt (pc := 22) hX (tgt := 52) dX4_settleStronger_22 (by decide) (fun c22 => ?_) (fun c22 => ?_)
      · rw [if_pos c22] at h
        cases h
        exact aw_vret hX hQ dX4_settleStronger_52
      · rw [if_neg c22] at h
        refine aw_aload_n (pc := 25) hX dX4_settleStronger_25 rfl 0 rfl ?_
        refine aw_dup (pc := 26) hX dX4_settleStronger_26 rfl ?_
        refine gf_X4_39 (pc := 27) hX kc3 rfl dX4_settleStronger_27 ?_
        refine aw_iconst (v := (1 : Int32)) (pc := 30) hX dX4_settleStronger_30 (by decide) ?_
        refine aw_isub (pc := 31) hX dX4_settleStronger_31 ?_
        refine pf_X4_39 (pc := 32) hX kc3 rfl dX4_settleStronger_32 ?_
        obtain ⟨S32, eS32, h⟩ := on h
        refine aw_S eS32 ?_
        refine aw_aload_n (pc := 35) hX dX4_settleStronger_35 rfl 1 rfl ?_
        refine aw_aload_n (pc := 36) hX dX4_settleStronger_36 rfl 0 rfl ?_
        refine gf_X4_32 (pc := 37) hX kc3 rfl dX4_settleStronger_37 ?_
        refine aw_aload_n (pc := 40) hX dX4_settleStronger_40 rfl 0 rfl ?_
        refine gf_X4_39 (pc := 41) hX kc3 rfl dX4_settleStronger_41 ?_
        obtain ⟨x44, hx44, h⟩ := ob h
        refine aw_iald (pc := 44) hX kc30 hx44 dX4_settleStronger_44 ?_
        obtain ⟨r45, S45, hr45, h⟩ := ob2 h
        refine aw_cVI (pc := 45) (As := [.int x44]) (rest := []) hX (c_X1_add (sk := SKC) ha1 hr45) ok_X1_add kw_3_104 im_X1_add se_X1_add rfl ha1.1 rfl (by decide) (Nat.le_of_ble_eq_true rfl) rfl dX4_settleStronger_45 (Nat.le_refl 0) (Nat.le_refl 0) ?_
        refine aw_pop (pc := 48) hX dX4_settleStronger_48 rfl ?_
        refine aw_goto (tgt := 0) (pc := 49) hX dX4_settleStronger_49 (by decide) ?_
        exact ih v2 S45 h

set_option maxHeartbeats 4000000 in
set_option maxRecDepth 100000 in
theorem c_X4_settleStronger {a1 : Nat} {v2 : Int32} {S : Mem} {Sf : Mem} (ha1 : IsLaw SKC a1) (h : f_X4_settleStronger a1 v2 S = some Sf) : MetV yX4_settleStronger cX4_settleStronger 3 none 1 [.ref 3, .ref a1, .int v2] SKC S Sf := by
  refine MetV.intro (by decide +kernel) (Nat.le_of_ble_eq_true rfl) (fun X loc hX hQ => ?_)
  unfold f_X4_settleStronger at h
  show AW X SKC loc 0 0 0 [(0, .ref 3), (1, .ref a1), (2, .int v2)] [] S
  exact c_X4_settleStronger_0 hX hQ ha1 FU v2 S h

def f_X4_strengthWaiting (S : Mem) : Option (Int32 × Mem) :=
  if (S.1 3 6) ≤ 0 then
  (some ((0 : Int32), S))
  else
  ((rd S 30 72 ((S.1 3 6) - (1 : Int32))).bind fun x17 =>
  bnd (f_X4_strengthOf x17 S) fun r18 S18 =>
  some (r18, S18))

set_option maxHeartbeats 4000000 in
set_option maxRecDepth 100000 in
theorem c_X4_strengthWaiting {S : Mem} {r : Int32} {Sf : Mem} (h : f_X4_strengthWaiting S = some (r, Sf)) : MetI yX4_strengthWaiting cX4_strengthWaiting 1 (some .int) 1 [.ref 3] SKC S r Sf := by
  refine MetI.intro (by decide +kernel) (Nat.le_of_ble_eq_true rfl) (fun X loc hX hQ => ?_)
  unfold f_X4_strengthWaiting at h
  show AW X SKC loc 0 0 0 [(0, .ref 3)] [] S
  refine aw_aload_n (pc := 0) hX dX4_strengthWaiting_0 rfl 0 rfl ?_
  refine gf_X4_39 (pc := 1) hX kc3 rfl dX4_strengthWaiting_1 ?_
  refine aw_if_le (pc := 4) hX (tgt := 24) dX4_strengthWaiting_4 (by decide) (fun c4 => ?_) (fun c4 => ?_)
  · rw [if_pos c4] at h
    refine aw_iconst (v := (0 : Int32)) (pc := 24) hX dX4_strengthWaiting_24 (by decide) ?_
    cases h
    exact aw_iret hX hQ dX4_strengthWaiting_25
  · rw [if_neg c4] at h
    refine aw_aload_n (pc := 7) hX dX4_strengthWaiting_7 rfl 0 rfl ?_
    refine gf_X4_32 (pc := 8) hX kc3 rfl dX4_strengthWaiting_8 ?_
    refine aw_aload_n (pc := 11) hX dX4_strengthWaiting_11 rfl 0 rfl ?_
    refine gf_X4_39 (pc := 12) hX kc3 rfl dX4_strengthWaiting_12 ?_
    refine aw_iconst (v := (1 : Int32)) (pc := 15) hX dX4_strengthWaiting_15 (by decide) ?_
    refine aw_isub (pc := 16) hX dX4_strengthWaiting_16 ?_
    obtain ⟨x17, hx17, h⟩ := ob h
    refine aw_iald (pc := 17) hX kc30 hx17 dX4_strengthWaiting_17 ?_
    obtain ⟨r18, S18, hr18, h⟩ := ob2 h
    refine aw_cSI (pc := 18) (As := [.int x17]) (rest := []) hX (c_X4_strengthOf (sk := SKC) hr18) ok_X4_strengthOf kw_3_101 st_X4_strengthOf rfl (by decide) (Nat.le_of_ble_eq_true rfl) rfl dX4_strengthWaiting_18 (Nat.le_refl 0) (Nat.le_refl 0) ?_
    refine aw_goto (tgt := 25) (pc := 21) hX dX4_strengthWaiting_21 (by decide) ?_
    cases h
    exact aw_iret hX hQ dX4_strengthWaiting_25

def f_X4_readBehindPart_67 (a1 : Nat) (S : Mem) : Option (Int32 × Mem) :=
  bnd (f_X4_wrong (1 : Int32) S) fun r69 S69 =>
  if okz r69 = true then some (r69, S69) else none

def f_X4_readBehindPart_104 (a1 : Nat) (v2 : Int32) (S : Mem) : Option (Int32 × Mem) :=
  nxt (sI S 3 8 (1 : Int32)) fun S106 =>
  bnd (f_X4_addKnot S106) fun r110 S110 =>
  if r110 = 0 then
  (some ((0 : Int32), S110))
  else
  (bnd (f_X4_letWait v2 S110) fun r118 S118 =>
  if r118 = 0 then
  (some ((0 : Int32), S118))
  else
  (some ((1 : Int32), S118)))

def f_X4_readBehindPart (a1 : Nat) (S : Mem) : Option (Int32 × Mem) :=
  bnd (f_X4_kind S) fun r1 S1 =>
  if r1 = (6 : Int32) then
  (if (S1.1 3 7) = 0 then
  (bnd (f_X4_wrong (1 : Int32) S1) fun r20 S20 =>
  if okz r20 = true then some (r20, S20) else none)
  else
  ((f_X4_settleStronger a1 (1 : Int32) S1).bind fun S27 =>
  nxt (sI S27 3 6 ((S27.1 3 6) - (1 : Int32))) fun S37 =>
  nxt (sI S37 3 7 ((S37.1 3 7) - (1 : Int32))) fun S47 =>
  some ((1 : Int32), S47)))
  else
  (bnd (f_X4_strengthOf r1 S1) fun r53 S53 =>
  if r53 = 0 then
  (f_X4_readBehindPart_67 a1 S53)
  else
  (if r1 = (19 : Int32) then
  (f_X4_readBehindPart_67 a1 S53)
  else
  (if r53 = (4 : Int32) then
  ((f_X4_settleStronger a1 (5 : Int32) S53).bind fun S81 =>
  bnd (f_X4_strengthWaiting S81) fun r85 S85 =>
  if r85 = (4 : Int32) then
  (bnd (f_X4_wrong (1 : Int32) S85) fun r94 S94 =>
  if okz r94 = true then some (r94, S94) else none)
  else
  (f_X4_readBehindPart_104 a1 r1 S85))
  else
  ((f_X4_settleStronger a1 r53 S53).bind fun S101 =>
  f_X4_readBehindPart_104 a1 r1 S101))))

set_option maxHeartbeats 4000000 in
set_option maxRecDepth 100000 in
theorem c_X4_readBehindPart_67 {X : XT} {loc : Nat → Nat} {a1 : Nat} {r : Int32} {Sf : Mem} (hX : AC X loc RX4 cX4_readBehindPart (some .boolean) 4 2 0 0) (hQ : RetI X SKC loc 0 0 r Sf) (ha1 : IsLaw SKC a1) (S : Mem) (h : f_X4_readBehindPart_67 a1 S = some (r, Sf)) : AW X SKC loc 0 0 67 [(0, .ref 3)] [] S := by
  unfold f_X4_readBehindPart_67 at h
  refine aw_aload_n (pc := 67) hX dX4_readBehindPart_67 rfl 0 rfl ?_
  refine aw_iconst (v := (1 : Int32)) (pc := 68) hX dX4_readBehindPart_68 (by decide) ?_
  obtain ⟨r69, S69, hr69, h⟩ := ob2 h
  refine aw_cVI (pc := 69) (As := [.int (1 : Int32)]) (rest := []) hX (c_X4_wrong hr69) ok_X4_wrong kw_3_58 im_X4_wrong se_X4_wrong rfl kc3 rfl (by decide) (Nat.le_of_ble_eq_true rfl) rfl dX4_readBehindPart_69 (Nat.le_refl 0) (Nat.le_refl 0) ?_
  by_cases hz72 : okz r69 = true
  · rw [if_pos hz72] at h
    cases h
    exact aw_zret hX hQ hz72 dX4_readBehindPart_72
  · rw [if_neg hz72] at h
    cases h

set_option maxHeartbeats 4000000 in
set_option maxRecDepth 100000 in
theorem c_X4_readBehindPart_104 {X : XT} {loc : Nat → Nat} {a1 : Nat} {r : Int32} {Sf : Mem} (hX : AC X loc RX4 cX4_readBehindPart (some .boolean) 4 2 0 0) (hQ : RetI X SKC loc 0 0 r Sf) (ha1 : IsLaw SKC a1) (v2 : Int32) (S : Mem) (h : f_X4_readBehindPart_104 a1 v2 S = some (r, Sf)) : AW X SKC loc 0 0 104 [(0, .ref 3), (2, .int v2)] [] S := by
  unfold f_X4_readBehindPart_104 at h
  refine aw_aload_n (pc := 104) hX dX4_readBehindPart_104 rfl 0 rfl ?_
  refine aw_iconst (v := (1 : Int32)) (pc := 105) hX dX4_readBehindPart_105 (by decide) ?_
  refine pf_X4_45 (pc := 106) hX kc3 rfl (by decide) dX4_readBehindPart_106 ?_
  obtain ⟨S106, eS106, h⟩ := on h
  refine aw_S eS106 ?_
  refine aw_aload_n (pc := 109) hX dX4_readBehindPart_109 rfl 0 rfl ?_
  obtain ⟨r110, S110, hr110, h⟩ := ob2 h
  refine aw_cVI (pc := 110) (As := []) (rest := []) hX (c_X4_addKnot hr110) ok_X4_addKnot kw_3_120 im_X4_addKnot se_X4_addKnot rfl kc3 rfl (by decide) (Nat.le_of_ble_eq_true rfl) rfl dX4_readBehindPart_110 (Nat.le_refl 0) (Nat.le_refl 0) ?_
  refine aw_if_eq (pc := 113) hX (tgt := 128) dX4_readBehindPart_113 (by decide) (fun c113 => ?_) (fun c113 => ?_)
  · rw [if_pos c113] at h
    refine aw_iconst (v := (0 : Int32)) (pc := 128) hX dX4_readBehindPart_128 (by decide) ?_
    cases h
    exact aw_zret hX hQ (by decide) dX4_readBehindPart_129
  · rw [if_neg c113] at h
    refine aw_aload_n (pc := 116) hX dX4_readBehindPart_116 rfl 0 rfl ?_
    refine aw_iload_n (pc := 117) hX dX4_readBehindPart_117 rfl 1 rfl ?_
    obtain ⟨r118, S118, hr118, h⟩ := ob2 h
    refine aw_cVI (pc := 118) (As := [.int v2]) (rest := []) hX (c_X4_letWait hr118) ok_X4_letWait kw_3_112 im_X4_letWait se_X4_letWait rfl kc3 rfl (by decide) (Nat.le_of_ble_eq_true rfl) rfl dX4_readBehindPart_118 (Nat.le_refl 0) (Nat.le_refl 0) ?_
    refine aw_if_eq (pc := 121) hX (tgt := 128) dX4_readBehindPart_121 (by decide) (fun c121 => ?_) (fun c121 => ?_)
    · rw [if_pos c121] at h
      refine aw_iconst (v := (0 : Int32)) (pc := 128) hX dX4_readBehindPart_128 (by decide) ?_
      cases h
      exact aw_zret hX hQ (by decide) dX4_readBehindPart_129
    · rw [if_neg c121] at h
      refine aw_iconst (v := (1 : Int32)) (pc := 124) hX dX4_readBehindPart_124 (by decide) ?_
      refine aw_goto (tgt := 129) (pc := 125) hX dX4_readBehindPart_125 (by decide) ?_
      cases h
      exact aw_zret hX hQ (by decide) dX4_readBehindPart_129

set_option maxHeartbeats 4000000 in
set_option maxRecDepth 100000 in
theorem c_X4_readBehindPart {a1 : Nat} {S : Mem} {r : Int32} {Sf : Mem} (ha1 : IsLaw SKC a1) (h : f_X4_readBehindPart a1 S = some (r, Sf)) : MetI yX4_readBehindPart cX4_readBehindPart 4 (some .boolean) 2 [.ref 3, .ref a1] SKC S r Sf := by
  refine MetI.intro (by decide +kernel) (Nat.le_of_ble_eq_true rfl) (fun X loc hX hQ => ?_)
  unfold f_X4_readBehindPart at h
  show AW X SKC loc 0 0 0 [(0, .ref 3), (1, .ref a1)] [] S
  refine aw_aload_n (pc := 0) hX dX4_readBehindPart_0 rfl 0 rfl ?_
  obtain ⟨r1, S1, hr1, h⟩ := ob2 h
  refine aw_cVI (pc := 1) (As := []) (rest := []) hX (c_X4_kind hr1) ok_X4_kind kw_3_46 im_X4_kind se_X4_kind rfl kc3 rfl (by decide) (Nat.le_of_ble_eq_true rfl) rfl dX4_readBehindPart_1 (Nat.le_refl 0) (Nat.le_refl 0) ?_
  refine aw_istore_n (ls' := [(2, .int r1), (0, .ref 3), (1, .ref a1)]) (pc := 4) hX dX4_readBehindPart_4 rfl (by decide) rfl ?_
  refine aw_iload_n (pc := 5) hX dX4_readBehindPart_5 rfl 0 rfl ?_
  refine aw_bipush (v := (6 : Int32)) (pc := 6) hX dX4_readBehindPart_6 (by decide) ?_
  refine aw_icmp_ne (pc := 8) hX (tgt := 52) dX4_readBehindPart_8 (by decide) (fun c8 => ?_) (fun c8 => ?_)
  · rw [if_neg c8] at h
    refine aw_iload_n (pc := 52) hX dX4_readBehindPart_52 rfl 0 rfl ?_
    obtain ⟨r53, S53, hr53, h⟩ := ob2 h
    refine aw_cSI (pc := 53) (As := [.int r1]) (rest := []) hX (c_X4_strengthOf (sk := SKC) hr53) ok_X4_strengthOf kw_3_101 st_X4_strengthOf rfl (by decide) (Nat.le_of_ble_eq_true rfl) rfl dX4_readBehindPart_53 (Nat.le_refl 0) (Nat.le_refl 0) ?_
    refine aw_istore_n (ls' := [(3, .int r53), (2, .int r1), (0, .ref 3), (1, .ref a1)]) (pc := 56) hX dX4_readBehindPart_56 rfl (by decide) rfl ?_
    refine aw_iload_n (pc := 57) hX dX4_readBehindPart_57 rfl 0 rfl ?_
    refine aw_if_eq (pc := 58) hX (tgt := 67) dX4_readBehindPart_58 (by decide) (fun c58 => ?_) (fun c58 => ?_)
    · rw [if_pos c58] at h
      refine aw_sub (ls' := [(0, .ref 3)]) [2] rfl ?_
      exact c_X4_readBehindPart_67 hX hQ ha1 S53 h
    · rw [if_neg c58] at h
      refine aw_iload_n (pc := 61) hX dX4_readBehindPart_61 rfl 1 rfl ?_
      refine aw_bipush (v := (19 : Int32)) (pc := 62) hX dX4_readBehindPart_62 (by decide) ?_
      refine aw_icmp_ne (pc := 64) hX (tgt := 73) dX4_readBehindPart_64 (by decide) (fun c64 => ?_) (fun c64 => ?_)
      · rw [if_neg c64] at h
        refine aw_iload_n (pc := 73) hX dX4_readBehindPart_73 rfl 0 rfl ?_
        refine aw_iconst (v := (4 : Int32)) (pc := 74) hX dX4_readBehindPart_74 (by decide) ?_
        refine aw_icmp_ne (pc := 75) hX (tgt := 98) dX4_readBehindPart_75 (by decide) (fun c75 => ?_) (fun c75 => ?_)
        · rw [if_neg c75] at h
          refine aw_aload_n (pc := 98) hX dX4_readBehindPart_98 rfl 2 rfl ?_
          refine aw_aload_n (pc := 99) hX dX4_readBehindPart_99 rfl 3 rfl ?_
          refine aw_iload_n (pc := 100) hX dX4_readBehindPart_100 rfl 0 rfl ?_
          obtain ⟨S101, hr101, h⟩ := ob h
          refine aw_cVV (pc := 101) (As := [.ref a1, .int r53]) (rest := []) hX (c_X4_settleStronger ha1 hr101) ok_X4_settleStronger kw_3_97 im_X4_settleStronger se_X4_settleStronger rfl kc3 rfl (by decide) (Nat.le_of_ble_eq_true rfl) rfl dX4_readBehindPart_101 (Nat.le_refl 0) (Nat.le_refl 0) ?_
          refine aw_sub (ls' := [(0, .ref 3), (2, .int r1)]) [2, 1] rfl ?_
          exact c_X4_readBehindPart_104 hX hQ ha1 r1 S101 h
        · rw [if_pos c75] at h
          refine aw_aload_n (pc := 78) hX dX4_readBehindPart_78 rfl 2 rfl ?_
          refine aw_aload_n (pc := 79) hX dX4_readBehindPart_79 rfl 3 rfl ?_
          refine aw_iconst (v := (5 : Int32)) (pc := 80) hX dX4_readBehindPart_80 (by decide) ?_
          obtain ⟨S81, hr81, h⟩ := ob h
          refine aw_cVV (pc := 81) (As := [.ref a1, .int (5 : Int32)]) (rest := []) hX (c_X4_settleStronger ha1 hr81) ok_X4_settleStronger kw_3_97 im_X4_settleStronger se_X4_settleStronger rfl kc3 rfl (by decide) (Nat.le_of_ble_eq_true rfl) rfl dX4_readBehindPart_81 (Nat.le_refl 0) (Nat.le_refl 0) ?_
          refine aw_aload_n (pc := 84) hX dX4_readBehindPart_84 rfl 2 rfl ?_
          obtain ⟨r85, S85, hr85, h⟩ := ob2 h
          refine aw_cVI (pc := 85) (As := []) (rest := []) hX (c_X4_strengthWaiting hr85) ok_X4_strengthWaiting kw_3_116 im_X4_strengthWaiting se_X4_strengthWaiting rfl kc3 rfl (by decide) (Nat.le_of_ble_eq_true rfl) rfl dX4_readBehindPart_85 (Nat.le_refl 0) (Nat.le_refl 0) ?_
          refine aw_iconst (v := (4 : Int32)) (pc := 88) hX dX4_readBehindPart_88 (by decide) ?_
          refine aw_icmp_ne (pc := 89) hX (tgt := 104) dX4_readBehindPart_89 (by decide) (fun c89 => ?_) (fun c89 => ?_)
          · rw [if_neg c89] at h
            refine aw_sub (ls' := [(0, .ref 3), (2, .int r1)]) [2, 1] rfl ?_
            exact c_X4_readBehindPart_104 hX hQ ha1 r1 S85 h
          · rw [if_pos c89] at h
            refine aw_aload_n (pc := 92) hX dX4_readBehindPart_92 rfl 2 rfl ?_
            refine aw_iconst (v := (1 : Int32)) (pc := 93) hX dX4_readBehindPart_93 (by decide) ?_
            obtain ⟨r94, S94, hr94, h⟩ := ob2 h
            refine aw_cVI (pc := 94) (As := [.int (1 : Int32)]) (rest := []) hX (c_X4_wrong hr94) ok_X4_wrong kw_3_58 im_X4_wrong se_X4_wrong rfl kc3 rfl (by decide) (Nat.le_of_ble_eq_true rfl) rfl dX4_readBehindPart_94 (Nat.le_refl 0) (Nat.le_refl 0) ?_
            by_cases hz97 : okz r94 = true
            · rw [if_pos hz97] at h
              cases h
              exact aw_zret hX hQ hz97 dX4_readBehindPart_97
            · rw [if_neg hz97] at h
              cases h
      · rw [if_pos c64] at h
        refine aw_sub (ls' := [(0, .ref 3)]) [2] rfl ?_
        exact c_X4_readBehindPart_67 hX hQ ha1 S53 h
  · rw [if_pos c8] at h
    refine aw_aload_n (pc := 11) hX dX4_readBehindPart_11 rfl 1 rfl ?_
    refine gf_X4_42 (pc := 12) hX kc3 rfl dX4_readBehindPart_12 ?_
    refine aw_if_ne (pc := 15) hX (tgt := 24) dX4_readBehindPart_15 (by decide) (fun c15 => ?_) (fun c15 => ?_)
    · rw [if_neg c15] at h
      refine aw_aload_n (pc := 24) hX dX4_readBehindPart_24 rfl 1 rfl ?_
      refine aw_aload_n (pc := 25) hX dX4_readBehindPart_25 rfl 2 rfl ?_
      refine aw_iconst (v := (1 : Int32)) (pc := 26) hX dX4_readBehindPart_26 (by decide) ?_
      obtain ⟨S27, hr27, h⟩ := ob h
      refine aw_cVV (pc := 27) (As := [.ref a1, .int (1 : Int32)]) (rest := []) hX (c_X4_settleStronger ha1 hr27) ok_X4_settleStronger kw_3_97 im_X4_settleStronger se_X4_settleStronger rfl kc3 rfl (by decide) (Nat.le_of_ble_eq_true rfl) rfl dX4_readBehindPart_27 (Nat.le_refl 0) (Nat.le_refl 0) ?_
      refine aw_aload_n (pc := 30) hX dX4_readBehindPart_30 rfl 1 rfl ?_
      refine aw_dup (pc := 31) hX dX4_readBehindPart_31 rfl ?_
      refine gf_X4_39 (pc := 32) hX kc3 rfl dX4_readBehindPart_32 ?_
      refine aw_iconst (v := (1 : Int32)) (pc := 35) hX dX4_readBehindPart_35 (by decide) ?_
      refine aw_isub (pc := 36) hX dX4_readBehindPart_36 ?_
      refine pf_X4_39 (pc := 37) hX kc3 rfl dX4_readBehindPart_37 ?_
      obtain ⟨S37, eS37, h⟩ := on h
      refine aw_S eS37 ?_
      refine aw_aload_n (pc := 40) hX dX4_readBehindPart_40 rfl 1 rfl ?_
      refine aw_dup (pc := 41) hX dX4_readBehindPart_41 rfl ?_
      refine gf_X4_42 (pc := 42) hX kc3 rfl dX4_readBehindPart_42 ?_
      refine aw_iconst (v := (1 : Int32)) (pc := 45) hX dX4_readBehindPart_45 (by decide) ?_
      refine aw_isub (pc := 46) hX dX4_readBehindPart_46 ?_
      refine pf_X4_42 (pc := 47) hX kc3 rfl dX4_readBehindPart_47 ?_
      obtain ⟨S47, eS47, h⟩ := on h
      refine aw_S eS47 ?_
      refine aw_iconst (v := (1 : Int32)) (pc := 50) hX dX4_readBehindPart_50 (by decide) ?_
      cases h
      exact aw_zret hX hQ (by decide) dX4_readBehindPart_51
    · rw [if_pos c15] at h
      refine aw_aload_n (pc := 18) hX dX4_readBehindPart_18 rfl 1 rfl ?_
      refine aw_iconst (v := (1 : Int32)) (pc := 19) hX dX4_readBehindPart_19 (by decide) ?_
      obtain ⟨r20, S20, hr20, h⟩ := ob2 h
      refine aw_cVI (pc := 20) (As := [.int (1 : Int32)]) (rest := []) hX (c_X4_wrong hr20) ok_X4_wrong kw_3_58 im_X4_wrong se_X4_wrong rfl kc3 rfl (by decide) (Nat.le_of_ble_eq_true rfl) rfl dX4_readBehindPart_20 (Nat.le_refl 0) (Nat.le_refl 0) ?_
      by_cases hz23 : okz r20 = true
      · rw [if_pos hz23] at h
        cases h
        exact aw_zret hX hQ hz23 dX4_readBehindPart_23
      · rw [if_neg hz23] at h
        cases h

def f_X4_value (S : Mem) : Option (Int32 × Mem) :=
  if (700 : Int32) < (S.1 3 5) then
  (some ((0 : Int32), S))
  else
  ((rd S 7 701 (S.1 3 5)).bind fun x21 =>
  some (x21, S))

set_option maxHeartbeats 4000000 in
set_option maxRecDepth 100000 in
theorem c_X4_value {S : Mem} {r : Int32} {Sf : Mem} (h : f_X4_value S = some (r, Sf)) : MetI yX4_value cX4_value 1 (some .int) 0 [.ref 3] SKC S r Sf := by
  refine MetI.intro (by decide +kernel) (Nat.le_of_ble_eq_true rfl) (fun X loc hX hQ => ?_)
  unfold f_X4_value at h
  show AW X SKC loc 0 0 0 [(0, .ref 3)] [] S
  refine aw_aload_n (pc := 0) hX dX4_value_0 rfl 0 rfl ?_
  refine gf_X4_36 (pc := 1) hX kc3 rfl dX4_value_1 ?_
  refine aw_sipush (v := (700 : Int32)) (pc := 4) hX dX4_value_4 (by decide) ?_
  refine aw_icmp_gt (pc := 7) hX (tgt := 25) dX4_value_7 (by decide) (fun c7 => ?_) (fun c7 => ?_)
  · rw [if_pos c7] at h
    refine aw_iconst (v := (0 : Int32)) (pc := 25) hX dX4_value_25 (by decide) ?_
    cases h
    exact aw_iret hX hQ dX4_value_26
  · rw [if_neg c7] at h
    refine aw_aload_n (pc := 10) hX dX4_value_10 rfl 0 rfl ?_
    refine gf_X4_12 (pc := 11) hX kc3 rfl dX4_value_11 ?_
    refine gf_X4_66 (pc := 14) hX kc4 rfl dX4_value_14 ?_
    refine aw_aload_n (pc := 17) hX dX4_value_17 rfl 0 rfl ?_
    refine gf_X4_36 (pc := 18) hX kc3 rfl dX4_value_18 ?_
    obtain ⟨x21, hx21, h⟩ := ob h
    refine aw_iald (pc := 21) hX kc7 hx21 dX4_value_21 ?_
    refine aw_goto (tgt := 26) (pc := 22) hX dX4_value_22 (by decide) ?_
    cases h
    exact aw_iret hX hQ dX4_value_26

def f_X4_readNewName (a1 : Nat) (n1 : Nat) (v2 : Int32) (S : Mem) : Option (Int32 × Mem) :=
  bnd (f_X4_kind S) fun r1 S1 =>
  if r1 = (3 : Int32) then
  (bnd (f_X4_value S1) fun r15 S15 =>
  bnd (f_X9_placeOf a1 n1 r15 v2 S15) fun r20 S20 =>
  if r20 < 0 then
  (bnd (f_X4_value S20) fun r35 S35 =>
  (wr S35 a1 n1 v2 r35).bind fun S38 =>
  nxt (sI S38 3 5 ((S38.1 3 5) + (1 : Int32))) fun S46 =>
  some ((1 : Int32), S46))
  else
  (bnd (f_X4_wrong (3 : Int32) S20) fun r28 S28 =>
  if okz r28 = true then some (r28, S28) else none))
  else
  (bnd (f_X4_wrong (1 : Int32) S1) fun r10 S10 =>
  if okz r10 = true then some (r10, S10) else none)

set_option maxHeartbeats 4000000 in
set_option maxRecDepth 100000 in
theorem c_X4_readNewName {a1 : Nat} {n1 : Nat} {v2 : Int32} {S : Mem} {r : Int32} {Sf : Mem} (ha1 : SKC[a1]? = some (0, n1, [])) (h : f_X4_readNewName a1 n1 v2 S = some (r, Sf)) : MetI yX4_readNewName cX4_readNewName 3 (some .boolean) 1 [.ref 3, .ref a1, .int v2] SKC S r Sf := by
  refine MetI.intro (by decide +kernel) (Nat.le_of_ble_eq_true rfl) (fun X loc hX hQ => ?_)
  unfold f_X4_readNewName at h
  show AW X SKC loc 0 0 0 [(0, .ref 3), (1, .ref a1), (2, .int v2)] [] S
  refine aw_aload_n (pc := 0) hX dX4_readNewName_0 rfl 0 rfl ?_
  obtain ⟨r1, S1, hr1, h⟩ := ob2 h
  refine aw_cVI (pc := 1) (As := []) (rest := []) hX (c_X4_kind hr1) ok_X4_kind kw_3_46 im_X4_kind se_X4_kind rfl kc3 rfl (by decide) (Nat.le_of_ble_eq_true rfl) rfl dX4_readNewName_1 (Nat.le_refl 0) (Nat.le_refl 0) ?_
  refine aw_iconst (v := (3 : Int32)) (pc := 4) hX dX4_readNewName_4 (by decide) ?_
  refine aw_icmp_eq (pc := 5) hX (tgt := 14) dX4_readNewName_5 (by decide) (fun c5 => ?_) (fun c5 => ?_)
  · rw [if_pos c5] at h
    refine aw_aload_n (pc := 14) hX dX4_readNewName_14 rfl 0 rfl ?_
    obtain ⟨r15, S15, hr15, h⟩ := ob2 h
    refine aw_cVI (pc := 15) (As := []) (rest := []) hX (c_X4_value hr15) ok_X4_value kw_3_70 im_X4_value se_X4_value rfl kc3 rfl (by decide) (Nat.le_of_ble_eq_true rfl) rfl dX4_readNewName_15 (Nat.le_refl 0) (Nat.le_refl 0) ?_
    refine aw_aload_n (pc := 18) hX dX4_readNewName_18 rfl 1 rfl ?_
    refine aw_iload_n (pc := 19) hX dX4_readNewName_19 rfl 2 rfl ?_
    obtain ⟨r20, S20, hr20, h⟩ := ob2 h
    refine aw_cSNI (pc := 20) (host := "DollTruce") (As := [.int r15, .ref a1, .int v2]) (rest := []) hX (c_X9_placeOf (sk := SKC) ha1 hr20) ok_X9_placeOf (by decide) st_X9_placeOf rfl (by decide) (Nat.le_of_ble_eq_true rfl) rfl dX4_readNewName_20 (Nat.le_refl 0) (Nat.le_refl 0) ?_
    refine aw_if_lt (pc := 23) hX (tgt := 32) dX4_readNewName_23 (by decide) (fun c23 => ?_) (fun c23 => ?_)
    · rw [if_pos c23] at h
      refine aw_aload_n (pc := 32) hX dX4_readNewName_32 rfl 1 rfl ?_
      refine aw_iload_n (pc := 33) hX dX4_readNewName_33 rfl 2 rfl ?_
      refine aw_aload_n (pc := 34) hX dX4_readNewName_34 rfl 0 rfl ?_
      obtain ⟨r35, S35, hr35, h⟩ := ob2 h
      refine aw_cVI (pc := 35) (As := []) (rest := [.int v2, .ref a1]) hX (c_X4_value hr35) ok_X4_value kw_3_70 im_X4_value se_X4_value rfl kc3 rfl (by decide) (Nat.le_of_ble_eq_true rfl) rfl dX4_readNewName_35 (Nat.le_refl 0) (Nat.le_refl 0) ?_
      obtain ⟨S38, hS38, h⟩ := ob h
      refine aw_iast (pc := 38) hX ha1 hS38 dX4_readNewName_38 ?_
      refine aw_aload_n (pc := 39) hX dX4_readNewName_39 rfl 0 rfl ?_
      refine aw_dup (pc := 40) hX dX4_readNewName_40 rfl ?_
      refine gf_X4_36 (pc := 41) hX kc3 rfl dX4_readNewName_41 ?_
      refine aw_iconst (v := (1 : Int32)) (pc := 44) hX dX4_readNewName_44 (by decide) ?_
      refine aw_iadd (pc := 45) hX dX4_readNewName_45 ?_
      refine pf_X4_36 (pc := 46) hX kc3 rfl dX4_readNewName_46 ?_
      obtain ⟨S46, eS46, h⟩ := on h
      refine aw_S eS46 ?_
      refine aw_iconst (v := (1 : Int32)) (pc := 49) hX dX4_readNewName_49 (by decide) ?_
      cases h
      exact aw_zret hX hQ (by decide) dX4_readNewName_50
    · rw [if_neg c23] at h
      refine aw_aload_n (pc := 26) hX dX4_readNewName_26 rfl 0 rfl ?_
      refine aw_iconst (v := (3 : Int32)) (pc := 27) hX dX4_readNewName_27 (by decide) ?_
      obtain ⟨r28, S28, hr28, h⟩ := ob2 h
      refine aw_cVI (pc := 28) (As := [.int (3 : Int32)]) (rest := []) hX (c_X4_wrong hr28) ok_X4_wrong kw_3_58 im_X4_wrong se_X4_wrong rfl kc3 rfl (by decide) (Nat.le_of_ble_eq_true rfl) rfl dX4_readNewName_28 (Nat.le_refl 0) (Nat.le_refl 0) ?_
      by_cases hz31 : okz r28 = true
      · rw [if_pos hz31] at h
        cases h
        exact aw_zret hX hQ hz31 dX4_readNewName_31
      · rw [if_neg hz31] at h
        cases h
  · rw [if_neg c5] at h
    refine aw_aload_n (pc := 8) hX dX4_readNewName_8 rfl 0 rfl ?_
    refine aw_iconst (v := (1 : Int32)) (pc := 9) hX dX4_readNewName_9 (by decide) ?_
    obtain ⟨r10, S10, hr10, h⟩ := ob2 h
    refine aw_cVI (pc := 10) (As := [.int (1 : Int32)]) (rest := []) hX (c_X4_wrong hr10) ok_X4_wrong kw_3_58 im_X4_wrong se_X4_wrong rfl kc3 rfl (by decide) (Nat.le_of_ble_eq_true rfl) rfl dX4_readNewName_10 (Nat.le_refl 0) (Nat.le_refl 0) ?_
    by_cases hz13 : okz r10 = true
    · rw [if_pos hz13] at h
      cases h
      exact aw_zret hX hQ hz13 dX4_readNewName_13
    · rw [if_neg hz13] at h
      cases h

def f_X4_readNumber_31 (a1 : Nat) (n1 : Nat) (S : Mem) : Option (Int32 × Mem) :=
  bnd (f_X4_wrong (2 : Int32) S) fun r33 S33 =>
  if okz r33 = true then some (r33, S33) else none

def f_X4_readNumber (a1 : Nat) (n1 : Nat) (v2 : Int32) (v3 : Int32) (v4 : Int32) (S : Mem) : Option (Int32 × Mem) :=
  bnd (f_X4_kind S) fun r1 S1 =>
  if r1 = (2 : Int32) then
  (bnd (f_X4_value S1) fun r15 S15 =>
  if r15 < v3 then
  (f_X4_readNumber_31 a1 n1 S15)
  else
  (bnd (f_X4_value S15) fun r23 S23 =>
  if r23 ≤ v4 then
  (bnd (f_X4_value S23) fun r40 S40 =>
  (wr S40 a1 n1 v2 r40).bind fun S43 =>
  nxt (sI S43 3 5 ((S43.1 3 5) + (1 : Int32))) fun S51 =>
  some ((1 : Int32), S51))
  else
  (f_X4_readNumber_31 a1 n1 S23)))
  else
  (bnd (f_X4_wrong (1 : Int32) S1) fun r10 S10 =>
  if okz r10 = true then some (r10, S10) else none)

set_option maxHeartbeats 4000000 in
set_option maxRecDepth 100000 in
theorem c_X4_readNumber_31 {X : XT} {loc : Nat → Nat} {a1 : Nat} {n1 : Nat} {r : Int32} {Sf : Mem} (hX : AC X loc RX4 cX4_readNumber (some .boolean) 5 1 0 0) (hQ : RetI X SKC loc 0 0 r Sf) (ha1 : SKC[a1]? = some (0, n1, [])) (S : Mem) (h : f_X4_readNumber_31 a1 n1 S = some (r, Sf)) : AW X SKC loc 0 0 31 [(0, .ref 3)] [] S := by
  unfold f_X4_readNumber_31 at h
  refine aw_aload_n (pc := 31) hX dX4_readNumber_31 rfl 0 rfl ?_
  refine aw_iconst (v := (2 : Int32)) (pc := 32) hX dX4_readNumber_32 (by decide) ?_
  obtain ⟨r33, S33, hr33, h⟩ := ob2 h
  refine aw_cVI (pc := 33) (As := [.int (2 : Int32)]) (rest := []) hX (c_X4_wrong hr33) ok_X4_wrong kw_3_58 im_X4_wrong se_X4_wrong rfl kc3 rfl (by decide) (Nat.le_of_ble_eq_true rfl) rfl dX4_readNumber_33 (Nat.le_refl 0) (Nat.le_refl 0) ?_
  by_cases hz36 : okz r33 = true
  · rw [if_pos hz36] at h
    cases h
    exact aw_zret hX hQ hz36 dX4_readNumber_36
  · rw [if_neg hz36] at h
    cases h

set_option maxHeartbeats 4000000 in
set_option maxRecDepth 100000 in
theorem c_X4_readNumber {a1 : Nat} {n1 : Nat} {v2 : Int32} {v3 : Int32} {v4 : Int32} {S : Mem} {r : Int32} {Sf : Mem} (ha1 : SKC[a1]? = some (0, n1, [])) (h : f_X4_readNumber a1 n1 v2 v3 v4 S = some (r, Sf)) : MetI yX4_readNumber cX4_readNumber 5 (some .boolean) 1 [.ref 3, .ref a1, .int v2, .int v3, .int v4] SKC S r Sf := by
  refine MetI.intro (by decide +kernel) (Nat.le_of_ble_eq_true rfl) (fun X loc hX hQ => ?_)
  unfold f_X4_readNumber at h
  show AW X SKC loc 0 0 0 [(0, .ref 3), (1, .ref a1), (2, .int v2), (3, .int v3), (4, .int v4)] [] S
  refine aw_aload_n (pc := 0) hX dX4_readNumber_0 rfl 0 rfl ?_
  obtain ⟨r1, S1, hr1, h⟩ := ob2 h
  refine aw_cVI (pc := 1) (As := []) (rest := []) hX (c_X4_kind hr1) ok_X4_kind kw_3_46 im_X4_kind se_X4_kind rfl kc3 rfl (by decide) (Nat.le_of_ble_eq_true rfl) rfl dX4_readNumber_1 (Nat.le_refl 0) (Nat.le_refl 0) ?_
  refine aw_iconst (v := (2 : Int32)) (pc := 4) hX dX4_readNumber_4 (by decide) ?_
  refine aw_icmp_eq (pc := 5) hX (tgt := 14) dX4_readNumber_5 (by decide) (fun c5 => ?_) (fun c5 => ?_)
  · rw [if_pos c5] at h
    refine aw_aload_n (pc := 14) hX dX4_readNumber_14 rfl 0 rfl ?_
    obtain ⟨r15, S15, hr15, h⟩ := ob2 h
    refine aw_cVI (pc := 15) (As := []) (rest := []) hX (c_X4_value hr15) ok_X4_value kw_3_70 im_X4_value se_X4_value rfl kc3 rfl (by decide) (Nat.le_of_ble_eq_true rfl) rfl dX4_readNumber_15 (Nat.le_refl 0) (Nat.le_refl 0) ?_
    refine aw_iload_n (pc := 18) hX dX4_readNumber_18 rfl 3 rfl ?_
    refine aw_icmp_lt (pc := 19) hX (tgt := 31) dX4_readNumber_19 (by decide) (fun c19 => ?_) (fun c19 => ?_)
    · rw [if_pos c19] at h
      refine aw_sub (ls' := [(0, .ref 3)]) [0] rfl ?_
      exact c_X4_readNumber_31 hX hQ ha1 S15 h
    · rw [if_neg c19] at h
      refine aw_aload_n (pc := 22) hX dX4_readNumber_22 rfl 0 rfl ?_
      obtain ⟨r23, S23, hr23, h⟩ := ob2 h
      refine aw_cVI (pc := 23) (As := []) (rest := []) hX (c_X4_value hr23) ok_X4_value kw_3_70 im_X4_value se_X4_value rfl kc3 rfl (by decide) (Nat.le_of_ble_eq_true rfl) rfl dX4_readNumber_23 (Nat.le_refl 0) (Nat.le_refl 0) ?_
      refine aw_iload (pc := 26) hX dX4_readNumber_26 4 rfl ?_
      refine aw_icmp_le (pc := 28) hX (tgt := 37) dX4_readNumber_28 (by decide) (fun c28 => ?_) (fun c28 => ?_)
      · rw [if_pos c28] at h
        refine aw_aload_n (pc := 37) hX dX4_readNumber_37 rfl 1 rfl ?_
        refine aw_iload_n (pc := 38) hX dX4_readNumber_38 rfl 2 rfl ?_
        refine aw_aload_n (pc := 39) hX dX4_readNumber_39 rfl 0 rfl ?_
        obtain ⟨r40, S40, hr40, h⟩ := ob2 h
        refine aw_cVI (pc := 40) (As := []) (rest := [.int v2, .ref a1]) hX (c_X4_value hr40) ok_X4_value kw_3_70 im_X4_value se_X4_value rfl kc3 rfl (by decide) (Nat.le_of_ble_eq_true rfl) rfl dX4_readNumber_40 (Nat.le_refl 0) (Nat.le_refl 0) ?_
        obtain ⟨S43, hS43, h⟩ := ob h
        refine aw_iast (pc := 43) hX ha1 hS43 dX4_readNumber_43 ?_
        refine aw_aload_n (pc := 44) hX dX4_readNumber_44 rfl 0 rfl ?_
        refine aw_dup (pc := 45) hX dX4_readNumber_45 rfl ?_
        refine gf_X4_36 (pc := 46) hX kc3 rfl dX4_readNumber_46 ?_
        refine aw_iconst (v := (1 : Int32)) (pc := 49) hX dX4_readNumber_49 (by decide) ?_
        refine aw_iadd (pc := 50) hX dX4_readNumber_50 ?_
        refine pf_X4_36 (pc := 51) hX kc3 rfl dX4_readNumber_51 ?_
        obtain ⟨S51, eS51, h⟩ := on h
        refine aw_S eS51 ?_
        refine aw_iconst (v := (1 : Int32)) (pc := 54) hX dX4_readNumber_54 (by decide) ?_
        cases h
        exact aw_zret hX hQ (by decide) dX4_readNumber_55
      · rw [if_neg c28] at h
        refine aw_sub (ls' := [(0, .ref 3)]) [0] rfl ?_
        exact c_X4_readNumber_31 hX hQ ha1 S23 h
  · rw [if_neg c5] at h
    refine aw_aload_n (pc := 8) hX dX4_readNumber_8 rfl 0 rfl ?_
    refine aw_iconst (v := (1 : Int32)) (pc := 9) hX dX4_readNumber_9 (by decide) ?_
    obtain ⟨r10, S10, hr10, h⟩ := ob2 h
    refine aw_cVI (pc := 10) (As := [.int (1 : Int32)]) (rest := []) hX (c_X4_wrong hr10) ok_X4_wrong kw_3_58 im_X4_wrong se_X4_wrong rfl kc3 rfl (by decide) (Nat.le_of_ble_eq_true rfl) rfl dX4_readNumber_10 (Nat.le_refl 0) (Nat.le_refl 0) ?_
    by_cases hz13 : okz r10 = true
    · rw [if_pos hz13] at h
      cases h
      exact aw_zret hX hQ hz13 dX4_readNumber_13
    · rw [if_neg hz13] at h
      cases h

def f_X4_readDoll (S : Mem) : Option (Int32 × Mem) :=
  if (S.1 8 1) < (10 : Int32) then
  (nxt (sI S 3 5 ((S.1 3 5) + (1 : Int32))) fun S27 =>
  bnd (f_X4_readNewName 12 10 (S.1 8 1) S27) fun r39 S39 =>
  if r39 = 0 then
  (some ((0 : Int32), S39))
  else
  (bnd (f_X4_kind S39) fun r48 S48 =>
  if r48 = (3 : Int32) then
  (bnd (f_X4_value S48) fun r62 S62 =>
  bnd (f_X9_placeOf 9 6 r62 (S62.1 8 0) S62) fun r79 S79 =>
  if 0 ≤ r79 then
  (nxt (sI S79 3 5 ((S79.1 3 5) + (1 : Int32))) fun S100 =>
  bnd (f_X4_readNumber 15 10 (S.1 8 1) (0 : Int32) (9 : Int32) S100) fun r115 S115 =>
  if r115 = 0 then
  (some ((0 : Int32), S115))
  else
  (bnd (f_X4_readNumber 16 10 (S.1 8 1) (0 : Int32) (99 : Int32) S115) fun r133 S133 =>
  if r133 = 0 then
  (some ((0 : Int32), S133))
  else
  ((f_X7_addDoll 8 r79 S133).bind fun S146 =>
  some ((1 : Int32), S146))))
  else
  (bnd (f_X4_wrong (4 : Int32) S79) fun r89 S89 =>
  if okz r89 = true then some (r89, S89) else none))
  else
  (bnd (f_X4_wrong (1 : Int32) S48) fun r57 S57 =>
  if okz r57 = true then some (r57, S57) else none)))
  else
  (bnd (f_X4_wrong (2 : Int32) S) fun r16 S16 =>
  if okz r16 = true then some (r16, S16) else none)

set_option maxHeartbeats 4000000 in
set_option maxRecDepth 100000 in
theorem c_X4_readDoll {S : Mem} {r : Int32} {Sf : Mem} (h : f_X4_readDoll S = some (r, Sf)) : MetI yX4_readDoll cX4_readDoll 3 (some .boolean) 2 [.ref 3] SKC S r Sf := by
  refine MetI.intro (by decide +kernel) (Nat.le_of_ble_eq_true rfl) (fun X loc hX hQ => ?_)
  unfold f_X4_readDoll at h
  show AW X SKC loc 0 0 0 [(0, .ref 3)] [] S
  refine aw_aload_n (pc := 0) hX dX4_readDoll_0 rfl 0 rfl ?_
  refine gf_X4_21 (pc := 1) hX kc3 rfl dX4_readDoll_1 ?_
  refine gf_X4_107 (pc := 4) hX isT8.1 rfl dX4_readDoll_4 ?_
  refine aw_istore_n (ls' := [(1, .int (S.1 8 1)), (0, .ref 3)]) (pc := 7) hX dX4_readDoll_7 rfl (by decide) rfl ?_
  refine aw_iload_n (pc := 8) hX dX4_readDoll_8 rfl 0 rfl ?_
  refine aw_bipush (v := (10 : Int32)) (pc := 9) hX dX4_readDoll_9 (by decide) ?_
  refine aw_icmp_lt (pc := 11) hX (tgt := 20) dX4_readDoll_11 (by decide) (fun c11 => ?_) (fun c11 => ?_)
  · rw [if_pos c11] at h
    refine aw_aload_n (pc := 20) hX dX4_readDoll_20 rfl 1 rfl ?_
    refine aw_dup (pc := 21) hX dX4_readDoll_21 rfl ?_
    refine gf_X4_36 (pc := 22) hX kc3 rfl dX4_readDoll_22 ?_
    refine aw_iconst (v := (1 : Int32)) (pc := 25) hX dX4_readDoll_25 (by decide) ?_
    refine aw_iadd (pc := 26) hX dX4_readDoll_26 ?_
    refine pf_X4_36 (pc := 27) hX kc3 rfl dX4_readDoll_27 ?_
    obtain ⟨S27, eS27, h⟩ := on h
    refine aw_S eS27 ?_
    refine aw_aload_n (pc := 30) hX dX4_readDoll_30 rfl 1 rfl ?_
    refine aw_aload_n (pc := 31) hX dX4_readDoll_31 rfl 1 rfl ?_
    refine gf_X4_21 (pc := 32) hX kc3 rfl dX4_readDoll_32 ?_
    refine gf_X4_110 (pc := 35) hX isT8.1 rfl dX4_readDoll_35 ?_
    refine aw_iload_n (pc := 38) hX dX4_readDoll_38 rfl 0 rfl ?_
    obtain ⟨r39, S39, hr39, h⟩ := ob2 h
    refine aw_cVI (pc := 39) (As := [.ref 12, .int (S.1 8 1)]) (rest := []) hX (c_X4_readNewName kc12 hr39) ok_X4_readNewName kw_3_78 im_X4_readNewName se_X4_readNewName rfl kc3 rfl (by decide) (Nat.le_of_ble_eq_true rfl) rfl dX4_readDoll_39 (Nat.le_refl 0) (Nat.le_refl 0) ?_
    refine aw_if_ne (pc := 42) hX (tgt := 47) dX4_readDoll_42 (by decide) (fun c42 => ?_) (fun c42 => ?_)
    · rw [if_neg c42] at h
      refine aw_aload_n (pc := 47) hX dX4_readDoll_47 rfl 1 rfl ?_
      obtain ⟨r48, S48, hr48, h⟩ := ob2 h
      refine aw_cVI (pc := 48) (As := []) (rest := []) hX (c_X4_kind hr48) ok_X4_kind kw_3_46 im_X4_kind se_X4_kind rfl kc3 rfl (by decide) (Nat.le_of_ble_eq_true rfl) rfl dX4_readDoll_48 (Nat.le_refl 0) (Nat.le_refl 0) ?_
      refine aw_iconst (v := (3 : Int32)) (pc := 51) hX dX4_readDoll_51 (by decide) ?_
      refine aw_icmp_eq (pc := 52) hX (tgt := 61) dX4_readDoll_52 (by decide) (fun c52 => ?_) (fun c52 => ?_)
      · rw [if_pos c52] at h
        refine aw_aload_n (pc := 61) hX dX4_readDoll_61 rfl 1 rfl ?_
        obtain ⟨r62, S62, hr62, h⟩ := ob2 h
        refine aw_cVI (pc := 62) (As := []) (rest := []) hX (c_X4_value hr62) ok_X4_value kw_3_70 im_X4_value se_X4_value rfl kc3 rfl (by decide) (Nat.le_of_ble_eq_true rfl) rfl dX4_readDoll_62 (Nat.le_refl 0) (Nat.le_refl 0) ?_
        refine aw_aload_n (pc := 65) hX dX4_readDoll_65 rfl 1 rfl ?_
        refine gf_X4_21 (pc := 66) hX kc3 rfl dX4_readDoll_66 ?_
        refine gf_X4_90 (pc := 69) hX isT8.1 rfl dX4_readDoll_69 ?_
        refine aw_aload_n (pc := 72) hX dX4_readDoll_72 rfl 1 rfl ?_
        refine gf_X4_21 (pc := 73) hX kc3 rfl dX4_readDoll_73 ?_
        refine gf_X4_87 (pc := 76) hX isT8.1 rfl dX4_readDoll_76 ?_
        obtain ⟨r79, S79, hr79, h⟩ := ob2 h
        refine aw_cSNI (pc := 79) (host := "DollTruce") (As := [.int r62, .ref 9, .int (S62.1 8 0)]) (rest := []) hX (c_X9_placeOf (sk := SKC) kc9 hr79) ok_X9_placeOf (by decide) st_X9_placeOf rfl (by decide) (Nat.le_of_ble_eq_true rfl) rfl dX4_readDoll_79 (Nat.le_refl 0) (Nat.le_refl 0) ?_
        refine aw_istore_n (ls' := [(2, .int r79), (1, .int (S.1 8 1)), (0, .ref 3)]) (pc := 82) hX dX4_readDoll_82 rfl (by decide) rfl ?_
        refine aw_iload_n (pc := 83) hX dX4_readDoll_83 rfl 0 rfl ?_
        refine aw_if_ge (pc := 84) hX (tgt := 93) dX4_readDoll_84 (by decide) (fun c84 => ?_) (fun c84 => ?_)
        · rw [if_pos c84] at h
          refine aw_aload_n (pc := 93) hX dX4_readDoll_93 rfl 2 rfl ?_
          refine aw_dup (pc := 94) hX dX4_readDoll_94 rfl ?_
          refine gf_X4_36 (pc := 95) hX kc3 rfl dX4_readDoll_95 ?_
          refine aw_iconst (v := (1 : Int32)) (pc := 98) hX dX4_readDoll_98 (by decide) ?_
          refine aw_iadd (pc := 99) hX dX4_readDoll_99 ?_
          refine pf_X4_36 (pc := 100) hX kc3 rfl dX4_readDoll_100 ?_
          obtain ⟨S100, eS100, h⟩ := on h
          refine aw_S eS100 ?_
          refine aw_aload_n (pc := 103) hX dX4_readDoll_103 rfl 2 rfl ?_
          refine aw_aload_n (pc := 104) hX dX4_readDoll_104 rfl 2 rfl ?_
          refine gf_X4_21 (pc := 105) hX kc3 rfl dX4_readDoll_105 ?_
          refine gf_X4_119 (pc := 108) hX isT8.1 rfl dX4_readDoll_108 ?_
          refine aw_iload_n (pc := 111) hX dX4_readDoll_111 rfl 1 rfl ?_
          refine aw_iconst (v := (0 : Int32)) (pc := 112) hX dX4_readDoll_112 (by decide) ?_
          refine aw_bipush (v := (9 : Int32)) (pc := 113) hX dX4_readDoll_113 (by decide) ?_
          obtain ⟨r115, S115, hr115, h⟩ := ob2 h
          refine aw_cVI (pc := 115) (As := [.ref 15, .int (S.1 8 1), .int (0 : Int32), .int (9 : Int32)]) (rest := []) hX (c_X4_readNumber kc15 hr115) ok_X4_readNumber kw_3_66 im_X4_readNumber se_X4_readNumber rfl kc3 rfl (by decide) (Nat.le_of_ble_eq_true rfl) rfl dX4_readDoll_115 (Nat.le_refl 0) (Nat.le_refl 0) ?_
          refine aw_if_eq (pc := 118) hX (tgt := 139) dX4_readDoll_118 (by decide) (fun c118 => ?_) (fun c118 => ?_)
          · rw [if_pos c118] at h
            refine aw_iconst (v := (0 : Int32)) (pc := 139) hX dX4_readDoll_139 (by decide) ?_
            cases h
            exact aw_zret hX hQ (by decide) dX4_readDoll_140
          · rw [if_neg c118] at h
            refine aw_aload_n (pc := 121) hX dX4_readDoll_121 rfl 2 rfl ?_
            refine aw_aload_n (pc := 122) hX dX4_readDoll_122 rfl 2 rfl ?_
            refine gf_X4_21 (pc := 123) hX kc3 rfl dX4_readDoll_123 ?_
            refine gf_X4_122 (pc := 126) hX isT8.1 rfl dX4_readDoll_126 ?_
            refine aw_iload_n (pc := 129) hX dX4_readDoll_129 rfl 1 rfl ?_
            refine aw_iconst (v := (0 : Int32)) (pc := 130) hX dX4_readDoll_130 (by decide) ?_
            refine aw_bipush (v := (99 : Int32)) (pc := 131) hX dX4_readDoll_131 (by decide) ?_
            obtain ⟨r133, S133, hr133, h⟩ := ob2 h
            refine aw_cVI (pc := 133) (As := [.ref 16, .int (S.1 8 1), .int (0 : Int32), .int (99 : Int32)]) (rest := []) hX (c_X4_readNumber kc16 hr133) ok_X4_readNumber kw_3_66 im_X4_readNumber se_X4_readNumber rfl kc3 rfl (by decide) (Nat.le_of_ble_eq_true rfl) rfl dX4_readDoll_133 (Nat.le_refl 0) (Nat.le_refl 0) ?_
            refine aw_if_ne (pc := 136) hX (tgt := 141) dX4_readDoll_136 (by decide) (fun c136 => ?_) (fun c136 => ?_)
            · rw [if_neg c136] at h
              refine aw_aload_n (pc := 141) hX dX4_readDoll_141 rfl 2 rfl ?_
              refine gf_X4_21 (pc := 142) hX kc3 rfl dX4_readDoll_142 ?_
              refine aw_iload_n (pc := 145) hX dX4_readDoll_145 rfl 0 rfl ?_
              obtain ⟨S146, hr146, h⟩ := ob h
              refine aw_cVV (pc := 146) (As := [.int r79]) (rest := []) hX (c_X7_addDoll (sk := SKC) isT8 hr146) ok_X7_addDoll kw_3_89 im_X7_addDoll se_X7_addDoll rfl isT8.1 rfl (by decide) (Nat.le_of_ble_eq_true rfl) rfl dX4_readDoll_146 (Nat.le_refl 0) (Nat.le_refl 0) ?_
              refine aw_iconst (v := (1 : Int32)) (pc := 149) hX dX4_readDoll_149 (by decide) ?_
              cases h
              exact aw_zret hX hQ (by decide) dX4_readDoll_150
            · rw [if_pos c136] at h
              refine aw_iconst (v := (0 : Int32)) (pc := 139) hX dX4_readDoll_139 (by decide) ?_
              cases h
              exact aw_zret hX hQ (by decide) dX4_readDoll_140
        · rw [if_neg c84] at h
          refine aw_aload_n (pc := 87) hX dX4_readDoll_87 rfl 2 rfl ?_
          refine aw_iconst (v := (4 : Int32)) (pc := 88) hX dX4_readDoll_88 (by decide) ?_
          obtain ⟨r89, S89, hr89, h⟩ := ob2 h
          refine aw_cVI (pc := 89) (As := [.int (4 : Int32)]) (rest := []) hX (c_X4_wrong hr89) ok_X4_wrong kw_3_58 im_X4_wrong se_X4_wrong rfl kc3 rfl (by decide) (Nat.le_of_ble_eq_true rfl) rfl dX4_readDoll_89 (Nat.le_refl 0) (Nat.le_refl 0) ?_
          by_cases hz92 : okz r89 = true
          · rw [if_pos hz92] at h
            cases h
            exact aw_zret hX hQ hz92 dX4_readDoll_92
          · rw [if_neg hz92] at h
            cases h
      · rw [if_neg c52] at h
        refine aw_aload_n (pc := 55) hX dX4_readDoll_55 rfl 1 rfl ?_
        refine aw_iconst (v := (1 : Int32)) (pc := 56) hX dX4_readDoll_56 (by decide) ?_
        obtain ⟨r57, S57, hr57, h⟩ := ob2 h
        refine aw_cVI (pc := 57) (As := [.int (1 : Int32)]) (rest := []) hX (c_X4_wrong hr57) ok_X4_wrong kw_3_58 im_X4_wrong se_X4_wrong rfl kc3 rfl (by decide) (Nat.le_of_ble_eq_true rfl) rfl dX4_readDoll_57 (Nat.le_refl 0) (Nat.le_refl 0) ?_
        by_cases hz60 : okz r57 = true
        · rw [if_pos hz60] at h
          cases h
          exact aw_zret hX hQ hz60 dX4_readDoll_60
        · rw [if_neg hz60] at h
          cases h
    · rw [if_pos c42] at h
      refine aw_iconst (v := (0 : Int32)) (pc := 45) hX dX4_readDoll_45 (by decide) ?_
      cases h
      exact aw_zret hX hQ (by decide) dX4_readDoll_46
  · rw [if_neg c11] at h
    refine aw_aload_n (pc := 14) hX dX4_readDoll_14 rfl 1 rfl ?_
    refine aw_iconst (v := (2 : Int32)) (pc := 15) hX dX4_readDoll_15 (by decide) ?_
    obtain ⟨r16, S16, hr16, h⟩ := ob2 h
    refine aw_cVI (pc := 16) (As := [.int (2 : Int32)]) (rest := []) hX (c_X4_wrong hr16) ok_X4_wrong kw_3_58 im_X4_wrong se_X4_wrong rfl kc3 rfl (by decide) (Nat.le_of_ble_eq_true rfl) rfl dX4_readDoll_16 (Nat.le_refl 0) (Nat.le_refl 0) ?_
    by_cases hz19 : okz r16 = true
    · rw [if_pos hz19] at h
      cases h
      exact aw_zret hX hQ hz19 dX4_readDoll_19
    · rw [if_neg hz19] at h
      cases h

def f_X4_readPart_152 (a1 : Nat) (S : Mem) : Option (Int32 × Mem) :=
  bnd (f_X4_wrong (1 : Int32) S) fun r154 S154 =>
  if okz r154 = true then some (r154, S154) else none

def f_X4_readPart (a1 : Nat) (S : Mem) : Option (Int32 × Mem) :=
  bnd (f_X4_kind S) fun r1 S1 =>
  if r1 = (5 : Int32) then
  (if (S1.1 3 7) < (8 : Int32) then
  (nxt (sI S1 3 7 ((S1.1 3 7) + (1 : Int32))) fun S32 =>
  bnd (f_X4_letWait (5 : Int32) S32) fun r37 S37 =>
  if okz r37 = true then some (r37, S37) else none)
  else
  (bnd (f_X4_wrong (2 : Int32) S1) fun r21 S21 =>
  if okz r21 = true then some (r21, S21) else none))
  else
  (if r1 = (19 : Int32) then
  (bnd (f_X4_strengthWaiting S1) fun r48 S48 =>
  if r48 ≤ (3 : Int32) then
  (bnd (f_X4_addKnot S48) fun r64 S64 =>
  if r64 = 0 then
  (some ((0 : Int32), S64))
  else
  (bnd (f_X4_letWait (19 : Int32) S64) fun r73 S73 =>
  if r73 = 0 then
  (some ((0 : Int32), S73))
  else
  (some ((1 : Int32), S73))))
  else
  (bnd (f_X4_wrong (1 : Int32) S48) fun r57 S57 =>
  if okz r57 = true then some (r57, S57) else none))
  else
  (if r1 = (2 : Int32) then
  (nxt (sI S1 3 8 (0 : Int32)) fun S92 =>
  bnd (f_X4_value S92) fun r96 S96 =>
  if r96 ≤ (9999 : Int32) then
  (bnd (f_X4_addKnot S96) fun r114 S114 =>
  if r114 = 0 then
  (some ((0 : Int32), S114))
  else
  (bnd (f_X4_value S114) fun r124 S124 =>
  bnd (f_X1_add a1 ((100 : Int32) + r124) S124) fun r128 S128 =>
  if r128 = 0 then
  (some ((0 : Int32), S128))
  else
  (some ((1 : Int32), S128))))
  else
  (bnd (f_X4_wrong (2 : Int32) S96) fun r107 S107 =>
  if okz r107 = true then some (r107, S107) else none))
  else
  (if r1 < (20 : Int32) then
  (f_X4_readPart_152 a1 S1)
  else
  (if r1 ≤ (26 : Int32) then
  (nxt (sI S1 3 8 (0 : Int32)) fun S160 =>
  bnd (f_X4_addKnot S160) fun r164 S164 =>
  if r164 = 0 then
  (some ((0 : Int32), S164))
  else
  (bnd (f_X1_add a1 r1 S164) fun r172 S172 =>
  if r172 = 0 then
  (some ((0 : Int32), S172))
  else
  (some ((1 : Int32), S172))))
  else
  (f_X4_readPart_152 a1 S1)))))

set_option maxHeartbeats 4000000 in
set_option maxRecDepth 100000 in
theorem c_X4_readPart_152 {X : XT} {loc : Nat → Nat} {a1 : Nat} {r : Int32} {Sf : Mem} (hX : AC X loc RX4 cX4_readPart (some .boolean) 3 2 0 0) (hQ : RetI X SKC loc 0 0 r Sf) (ha1 : IsLaw SKC a1) (S : Mem) (h : f_X4_readPart_152 a1 S = some (r, Sf)) : AW X SKC loc 0 0 152 [(0, .ref 3)] [] S := by
  unfold f_X4_readPart_152 at h
  refine aw_aload_n (pc := 152) hX dX4_readPart_152 rfl 0 rfl ?_
  refine aw_iconst (v := (1 : Int32)) (pc := 153) hX dX4_readPart_153 (by decide) ?_
  obtain ⟨r154, S154, hr154, h⟩ := ob2 h
  refine aw_cVI (pc := 154) (As := [.int (1 : Int32)]) (rest := []) hX (c_X4_wrong hr154) ok_X4_wrong kw_3_58 im_X4_wrong se_X4_wrong rfl kc3 rfl (by decide) (Nat.le_of_ble_eq_true rfl) rfl dX4_readPart_154 (Nat.le_refl 0) (Nat.le_refl 0) ?_
  by_cases hz157 : okz r154 = true
  · rw [if_pos hz157] at h
    cases h
    exact aw_zret hX hQ hz157 dX4_readPart_157
  · rw [if_neg hz157] at h
    cases h

set_option maxHeartbeats 4000000 in
set_option maxRecDepth 100000 in
theorem c_X4_readPart {a1 : Nat} {S : Mem} {r : Int32} {Sf : Mem} (ha1 : IsLaw SKC a1) (h : f_X4_readPart a1 S = some (r, Sf)) : MetI yX4_readPart cX4_readPart 3 (some .boolean) 2 [.ref 3, .ref a1] SKC S r Sf := by
  refine MetI.intro (by decide +kernel) (Nat.le_of_ble_eq_true rfl) (fun X loc hX hQ => ?_)
  unfold f_X4_readPart at h
  show AW X SKC loc 0 0 0 [(0, .ref 3), (1, .ref a1)] [] S
  refine aw_aload_n (pc := 0) hX dX4_readPart_0 rfl 0 rfl ?_
  obtain ⟨r1, S1, hr1, h⟩ := ob2 h
  refine aw_cVI (pc := 1) (As := []) (rest := []) hX (c_X4_kind hr1) ok_X4_kind kw_3_46 im_X4_kind se_X4_kind rfl kc3 rfl (by decide) (Nat.le_of_ble_eq_true rfl) rfl dX4_readPart_1 (Nat.le_refl 0) (Nat.le_refl 0) ?_
  refine aw_istore_n (ls' := [(2, .int r1), (0, .ref 3), (1, .ref a1)]) (pc := 4) hX dX4_readPart_4 rfl (by decide) rfl ?_
  refine aw_iload_n (pc := 5) hX dX4_readPart_5 rfl 0 rfl ?_
  refine aw_iconst (v := (5 : Int32)) (pc := 6) hX dX4_readPart_6 (by decide) ?_
  refine aw_icmp_ne (pc := 7) hX (tgt := 41) dX4_readPart_7 (by decide) (fun c7 => ?_) (fun c7 => ?_)
  · rw [if_neg c7] at h
    refine aw_iload_n (pc := 41) hX dX4_readPart_41 rfl 0 rfl ?_
    refine aw_bipush (v := (19 : Int32)) (pc := 42) hX dX4_readPart_42 (by decide) ?_
    refine aw_icmp_ne (pc := 44) hX (tgt := 85) dX4_readPart_44 (by decide) (fun c44 => ?_) (fun c44 => ?_)
    · rw [if_neg c44] at h
      refine aw_iload_n (pc := 85) hX dX4_readPart_85 rfl 0 rfl ?_
      refine aw_iconst (v := (2 : Int32)) (pc := 86) hX dX4_readPart_86 (by decide) ?_
      refine aw_icmp_ne (pc := 87) hX (tgt := 140) dX4_readPart_87 (by decide) (fun c87 => ?_) (fun c87 => ?_)
      · rw [if_neg c87] at h
        refine aw_iload_n (pc := 140) hX dX4_readPart_140 rfl 0 rfl ?_
        refine aw_bipush (v := (20 : Int32)) (pc := 141) hX dX4_readPart_141 (by decide) ?_
        refine aw_icmp_lt (pc := 143) hX (tgt := 152) dX4_readPart_143 (by decide) (fun c143 => ?_) (fun c143 => ?_)
        · rw [if_pos c143] at h
          refine aw_sub (ls' := [(0, .ref 3)]) [1] rfl ?_
          exact c_X4_readPart_152 hX hQ ha1 S1 h
        · rw [if_neg c143] at h
          refine aw_iload_n (pc := 146) hX dX4_readPart_146 rfl 0 rfl ?_
          refine aw_bipush (v := (26 : Int32)) (pc := 147) hX dX4_readPart_147 (by decide) ?_
          refine aw_icmp_le (pc := 149) hX (tgt := 158) dX4_readPart_149 (by decide) (fun c149 => ?_) (fun c149 => ?_)
          · rw [if_pos c149] at h
            refine aw_aload_n (pc := 158) hX dX4_readPart_158 rfl 1 rfl ?_
            refine aw_iconst (v := (0 : Int32)) (pc := 159) hX dX4_readPart_159 (by decide) ?_
            refine pf_X4_45 (pc := 160) hX kc3 rfl (by decide) dX4_readPart_160 ?_
            obtain ⟨S160, eS160, h⟩ := on h
            refine aw_S eS160 ?_
            refine aw_aload_n (pc := 163) hX dX4_readPart_163 rfl 1 rfl ?_
            obtain ⟨r164, S164, hr164, h⟩ := ob2 h
            refine aw_cVI (pc := 164) (As := []) (rest := []) hX (c_X4_addKnot hr164) ok_X4_addKnot kw_3_120 im_X4_addKnot se_X4_addKnot rfl kc3 rfl (by decide) (Nat.le_of_ble_eq_true rfl) rfl dX4_readPart_164 (Nat.le_refl 0) (Nat.le_refl 0) ?_
            refine aw_if_eq (pc := 167) hX (tgt := 182) dX4_readPart_167 (by decide) (fun c167 => ?_) (fun c167 => ?_)
            · rw [if_pos c167] at h
              refine aw_iconst (v := (0 : Int32)) (pc := 182) hX dX4_readPart_182 (by decide) ?_
              cases h
              exact aw_zret hX hQ (by decide) dX4_readPart_183
            · rw [if_neg c167] at h
              refine aw_aload_n (pc := 170) hX dX4_readPart_170 rfl 2 rfl ?_
              refine aw_iload_n (pc := 171) hX dX4_readPart_171 rfl 0 rfl ?_
              obtain ⟨r172, S172, hr172, h⟩ := ob2 h
              refine aw_cVI (pc := 172) (As := [.int r1]) (rest := []) hX (c_X1_add (sk := SKC) ha1 hr172) ok_X1_add kw_3_104 im_X1_add se_X1_add rfl ha1.1 rfl (by decide) (Nat.le_of_ble_eq_true rfl) rfl dX4_readPart_172 (Nat.le_refl 0) (Nat.le_refl 0) ?_
              refine aw_if_eq (pc := 175) hX (tgt := 182) dX4_readPart_175 (by decide) (fun c175 => ?_) (fun c175 => ?_)
              · rw [if_pos c175] at h
                refine aw_iconst (v := (0 : Int32)) (pc := 182) hX dX4_readPart_182 (by decide) ?_
                cases h
                exact aw_zret hX hQ (by decide) dX4_readPart_183
              · rw [if_neg c175] at h
                refine aw_iconst (v := (1 : Int32)) (pc := 178) hX dX4_readPart_178 (by decide) ?_
                refine aw_goto (tgt := 183) (pc := 179) hX dX4_readPart_179 (by decide) ?_
                cases h
                exact aw_zret hX hQ (by decide) dX4_readPart_183
          · rw [if_neg c149] at h
            refine aw_sub (ls' := [(0, .ref 3)]) [1] rfl ?_
            exact c_X4_readPart_152 hX hQ ha1 S1 h
      · rw [if_pos c87] at h
        refine aw_aload_n (pc := 90) hX dX4_readPart_90 rfl 1 rfl ?_
        refine aw_iconst (v := (0 : Int32)) (pc := 91) hX dX4_readPart_91 (by decide) ?_
        refine pf_X4_45 (pc := 92) hX kc3 rfl (by decide) dX4_readPart_92 ?_
        obtain ⟨S92, eS92, h⟩ := on h
        refine aw_S eS92 ?_
        refine aw_aload_n (pc := 95) hX dX4_readPart_95 rfl 1 rfl ?_
        obtain ⟨r96, S96, hr96, h⟩ := ob2 h
        refine aw_cVI (pc := 96) (As := []) (rest := []) hX (c_X4_value hr96) ok_X4_value kw_3_70 im_X4_value se_X4_value rfl kc3 rfl (by decide) (Nat.le_of_ble_eq_true rfl) rfl dX4_readPart_96 (Nat.le_refl 0) (Nat.le_refl 0) ?_
        refine aw_sipush (v := (9999 : Int32)) (pc := 99) hX dX4_readPart_99 (by decide) ?_
        refine aw_icmp_le (pc := 102) hX (tgt := 113) dX4_readPart_102 (by decide) (fun c102 => ?_) (fun c102 => ?_)
        · rw [if_pos c102] at h
          refine aw_aload_n (pc := 113) hX dX4_readPart_113 rfl 1 rfl ?_
          obtain ⟨r114, S114, hr114, h⟩ := ob2 h
          refine aw_cVI (pc := 114) (As := []) (rest := []) hX (c_X4_addKnot hr114) ok_X4_addKnot kw_3_120 im_X4_addKnot se_X4_addKnot rfl kc3 rfl (by decide) (Nat.le_of_ble_eq_true rfl) rfl dX4_readPart_114 (Nat.le_refl 0) (Nat.le_refl 0) ?_
          refine aw_if_eq (pc := 117) hX (tgt := 138) dX4_readPart_117 (by decide) (fun c117 => ?_) (fun c117 => ?_)
          · rw [if_pos c117] at h
            refine aw_iconst (v := (0 : Int32)) (pc := 138) hX dX4_readPart_138 (by decide) ?_
            cases h
            exact aw_zret hX hQ (by decide) dX4_readPart_139
          · rw [if_neg c117] at h
            refine aw_aload_n (pc := 120) hX dX4_readPart_120 rfl 2 rfl ?_
            refine aw_bipush (v := (100 : Int32)) (pc := 121) hX dX4_readPart_121 (by decide) ?_
            refine aw_aload_n (pc := 123) hX dX4_readPart_123 rfl 1 rfl ?_
            obtain ⟨r124, S124, hr124, h⟩ := ob2 h
            refine aw_cVI (pc := 124) (As := []) (rest := [.int (100 : Int32), .ref a1]) hX (c_X4_value hr124) ok_X4_value kw_3_70 im_X4_value se_X4_value rfl kc3 rfl (by decide) (Nat.le_of_ble_eq_true rfl) rfl dX4_readPart_124 (Nat.le_refl 0) (Nat.le_refl 0) ?_
            refine aw_iadd (pc := 127) hX dX4_readPart_127 ?_
            obtain ⟨r128, S128, hr128, h⟩ := ob2 h
            refine aw_cVI (pc := 128) (As := [.int ((100 : Int32) + r124)]) (rest := []) hX (c_X1_add (sk := SKC) ha1 hr128) ok_X1_add kw_3_104 im_X1_add se_X1_add rfl ha1.1 rfl (by decide) (Nat.le_of_ble_eq_true rfl) rfl dX4_readPart_128 (Nat.le_refl 0) (Nat.le_refl 0) ?_
            refine aw_if_eq (pc := 131) hX (tgt := 138) dX4_readPart_131 (by decide) (fun c131 => ?_) (fun c131 => ?_)
            · rw [if_pos c131] at h
              refine aw_iconst (v := (0 : Int32)) (pc := 138) hX dX4_readPart_138 (by decide) ?_
              cases h
              exact aw_zret hX hQ (by decide) dX4_readPart_139
            · rw [if_neg c131] at h
              refine aw_iconst (v := (1 : Int32)) (pc := 134) hX dX4_readPart_134 (by decide) ?_
              refine aw_goto (tgt := 139) (pc := 135) hX dX4_readPart_135 (by decide) ?_
              cases h
              exact aw_zret hX hQ (by decide) dX4_readPart_139
        · rw [if_neg c102] at h
          refine aw_aload_n (pc := 105) hX dX4_readPart_105 rfl 1 rfl ?_
          refine aw_iconst (v := (2 : Int32)) (pc := 106) hX dX4_readPart_106 (by decide) ?_
          obtain ⟨r107, S107, hr107, h⟩ := ob2 h
          refine aw_cVI (pc := 107) (As := [.int (2 : Int32)]) (rest := []) hX (c_X4_wrong hr107) ok_X4_wrong kw_3_58 im_X4_wrong se_X4_wrong rfl kc3 rfl (by decide) (Nat.le_of_ble_eq_true rfl) rfl dX4_readPart_107 (Nat.le_refl 0) (Nat.le_refl 0) ?_
          refine aw_goto (tgt := 139) (pc := 110) hX dX4_readPart_110 (by decide) ?_
          by_cases hz139 : okz r107 = true
          · rw [if_pos hz139] at h
            cases h
            exact aw_zret hX hQ hz139 dX4_readPart_139
          · rw [if_neg hz139] at h
            cases h
    · rw [if_pos c44] at h
      refine aw_aload_n (pc := 47) hX dX4_readPart_47 rfl 1 rfl ?_
      obtain ⟨r48, S48, hr48, h⟩ := ob2 h
      refine aw_cVI (pc := 48) (As := []) (rest := []) hX (c_X4_strengthWaiting hr48) ok_X4_strengthWaiting kw_3_116 im_X4_strengthWaiting se_X4_strengthWaiting rfl kc3 rfl (by decide) (Nat.le_of_ble_eq_true rfl) rfl dX4_readPart_48 (Nat.le_refl 0) (Nat.le_refl 0) ?_
      refine aw_iconst (v := (3 : Int32)) (pc := 51) hX dX4_readPart_51 (by decide) ?_
      refine aw_icmp_le (pc := 52) hX (tgt := 63) dX4_readPart_52 (by decide) (fun c52 => ?_) (fun c52 => ?_)
      · rw [if_pos c52] at h
        refine aw_aload_n (pc := 63) hX dX4_readPart_63 rfl 1 rfl ?_
        obtain ⟨r64, S64, hr64, h⟩ := ob2 h
        refine aw_cVI (pc := 64) (As := []) (rest := []) hX (c_X4_addKnot hr64) ok_X4_addKnot kw_3_120 im_X4_addKnot se_X4_addKnot rfl kc3 rfl (by decide) (Nat.le_of_ble_eq_true rfl) rfl dX4_readPart_64 (Nat.le_refl 0) (Nat.le_refl 0) ?_
        refine aw_if_eq (pc := 67) hX (tgt := 83) dX4_readPart_67 (by decide) (fun c67 => ?_) (fun c67 => ?_)
        · rw [if_pos c67] at h
          refine aw_iconst (v := (0 : Int32)) (pc := 83) hX dX4_readPart_83 (by decide) ?_
          cases h
          exact aw_zret hX hQ (by decide) dX4_readPart_84
        · rw [if_neg c67] at h
          refine aw_aload_n (pc := 70) hX dX4_readPart_70 rfl 1 rfl ?_
          refine aw_bipush (v := (19 : Int32)) (pc := 71) hX dX4_readPart_71 (by decide) ?_
          obtain ⟨r73, S73, hr73, h⟩ := ob2 h
          refine aw_cVI (pc := 73) (As := [.int (19 : Int32)]) (rest := []) hX (c_X4_letWait hr73) ok_X4_letWait kw_3_112 im_X4_letWait se_X4_letWait rfl kc3 rfl (by decide) (Nat.le_of_ble_eq_true rfl) rfl dX4_readPart_73 (Nat.le_refl 0) (Nat.le_refl 0) ?_
          refine aw_if_eq (pc := 76) hX (tgt := 83) dX4_readPart_76 (by decide) (fun c76 => ?_) (fun c76 => ?_)
          · rw [if_pos c76] at h
            refine aw_iconst (v := (0 : Int32)) (pc := 83) hX dX4_readPart_83 (by decide) ?_
            cases h
            exact aw_zret hX hQ (by decide) dX4_readPart_84
          · rw [if_neg c76] at h
            refine aw_iconst (v := (1 : Int32)) (pc := 79) hX dX4_readPart_79 (by decide) ?_
            refine aw_goto (tgt := 84) (pc := 80) hX dX4_readPart_80 (by decide) ?_
            cases h
            exact aw_zret hX hQ (by decide) dX4_readPart_84
      · rw [if_neg c52] at h
        refine aw_aload_n (pc := 55) hX dX4_readPart_55 rfl 1 rfl ?_
        refine aw_iconst (v := (1 : Int32)) (pc := 56) hX dX4_readPart_56 (by decide) ?_
        obtain ⟨r57, S57, hr57, h⟩ := ob2 h
        refine aw_cVI (pc := 57) (As := [.int (1 : Int32)]) (rest := []) hX (c_X4_wrong hr57) ok_X4_wrong kw_3_58 im_X4_wrong se_X4_wrong rfl kc3 rfl (by decide) (Nat.le_of_ble_eq_true rfl) rfl dX4_readPart_57 (Nat.le_refl 0) (Nat.le_refl 0) ?_
        refine aw_goto (tgt := 84) (pc := 60) hX dX4_readPart_60 (by decide) ?_
        by_cases hz84 : okz r57 = true
        · rw [if_pos hz84] at h
          cases h
          exact aw_zret hX hQ hz84 dX4_readPart_84
        · rw [if_neg hz84] at h
          cases h
  · rw [if_pos c7] at h
    refine aw_aload_n (pc := 10) hX dX4_readPart_10 rfl 1 rfl ?_
    refine gf_X4_42 (pc := 11) hX kc3 rfl dX4_readPart_11 ?_
    refine aw_bipush (v := (8 : Int32)) (pc := 14) hX dX4_readPart_14 (by decide) ?_
    refine aw_icmp_lt (pc := 16) hX (tgt := 25) dX4_readPart_16 (by decide) (fun c16 => ?_) (fun c16 => ?_)
    · rw [if_pos c16] at h
      refine aw_aload_n (pc := 25) hX dX4_readPart_25 rfl 1 rfl ?_
      refine aw_dup (pc := 26) hX dX4_readPart_26 rfl ?_
      refine gf_X4_42 (pc := 27) hX kc3 rfl dX4_readPart_27 ?_
      refine aw_iconst (v := (1 : Int32)) (pc := 30) hX dX4_readPart_30 (by decide) ?_
      refine aw_iadd (pc := 31) hX dX4_readPart_31 ?_
      refine pf_X4_42 (pc := 32) hX kc3 rfl dX4_readPart_32 ?_
      obtain ⟨S32, eS32, h⟩ := on h
      refine aw_S eS32 ?_
      refine aw_aload_n (pc := 35) hX dX4_readPart_35 rfl 1 rfl ?_
      refine aw_iconst (v := (5 : Int32)) (pc := 36) hX dX4_readPart_36 (by decide) ?_
      obtain ⟨r37, S37, hr37, h⟩ := ob2 h
      refine aw_cVI (pc := 37) (As := [.int (5 : Int32)]) (rest := []) hX (c_X4_letWait hr37) ok_X4_letWait kw_3_112 im_X4_letWait se_X4_letWait rfl kc3 rfl (by decide) (Nat.le_of_ble_eq_true rfl) rfl dX4_readPart_37 (Nat.le_refl 0) (Nat.le_refl 0) ?_
      by_cases hz40 : okz r37 = true
      · rw [if_pos hz40] at h
        cases h
        exact aw_zret hX hQ hz40 dX4_readPart_40
      · rw [if_neg hz40] at h
        cases h
    · rw [if_neg c16] at h
      refine aw_aload_n (pc := 19) hX dX4_readPart_19 rfl 1 rfl ?_
      refine aw_iconst (v := (2 : Int32)) (pc := 20) hX dX4_readPart_20 (by decide) ?_
      obtain ⟨r21, S21, hr21, h⟩ := ob2 h
      refine aw_cVI (pc := 21) (As := [.int (2 : Int32)]) (rest := []) hX (c_X4_wrong hr21) ok_X4_wrong kw_3_58 im_X4_wrong se_X4_wrong rfl kc3 rfl (by decide) (Nat.le_of_ble_eq_true rfl) rfl dX4_readPart_21 (Nat.le_refl 0) (Nat.le_refl 0) ?_
      by_cases hz24 : okz r21 = true
      · rw [if_pos hz24] at h
        cases h
        exact aw_zret hX hQ hz24 dX4_readPart_24
      · rw [if_neg hz24] at h
        cases h

def f_X4_readLaw_27 (S : Mem) : Option (Int32 × Mem) :=
  bnd (f_X4_wrong (1 : Int32) S) fun r29 S29 =>
  if okz r29 = true then some (r29, S29) else none

def f_X4_readLaw_153 (R88 : Nat → Int32 → Mem → Option (Int32 × Mem)) (b2 : Nat) (v3 : Int32) (S : Mem) : Option (Int32 × Mem) :=
  nxt (sI S 3 5 ((S.1 3 5) + (1 : Int32))) fun S160 =>
  R88 b2 (v3 + 1) S160

def f_X4_readLaw_125 (R88 : Nat → Int32 → Mem → Option (Int32 × Mem)) (b2 : Nat) (v3 : Int32) (S : Mem) : Option (Int32 × Mem) :=
  if (S.1 3 8) = 0 then
  (bnd (f_X4_readBehindPart b2 S) fun r145 S145 =>
  if r145 = 0 then
  (some ((0 : Int32), S145))
  else
  (f_X4_readLaw_153 R88 b2 v3 S145))
  else
  (bnd (f_X4_readPart b2 S) fun r134 S134 =>
  if r134 = 0 then
  (some ((0 : Int32), S134))
  else
  (f_X4_readLaw_153 R88 b2 v3 S134))

def f_X4_readLaw_88 : Nat → Nat → Int32 → Mem → Option (Int32 × Mem)
  | 0, _, _, _ => none
  | n + 1, b2, v3, S =>
  if (700 : Int32) < v3 then
  (bnd (f_X4_wrong (1 : Int32) S) fun r171 S171 =>
  if okz r171 = true then some (r171, S171) else none)
  else
  (if (S.1 3 8) = 0 then
  (if (S.1 3 7) = 0 then
  (bnd (f_X4_kind S) fun r110 S110 =>
  if r110 = (4 : Int32) then
  ((f_X4_settleStronger b2 (1 : Int32) S110).bind fun S120 =>
  some ((1 : Int32), S120))
  else
  (f_X4_readLaw_125 (f_X4_readLaw_88 n) b2 v3 S110))
  else
  (f_X4_readLaw_125 (f_X4_readLaw_88 n) b2 v3 S))
  else
  (f_X4_readLaw_125 (f_X4_readLaw_88 n) b2 v3 S))

def f_X4_readLaw (S : Mem) : Option (Int32 × Mem) :=
  nxt (sI S 3 5 ((S.1 3 5) + (1 : Int32))) fun S7 =>
  bnd (f_X4_kind S7) fun r11 S11 =>
  if (r11 - (36 : Int32)) < 0 then
  (f_X4_readLaw_27 S11)
  else
  (if (r11 - (36 : Int32)) < (3 : Int32) then
  (if inb (r11 - (36 : Int32)) 3 = true then
  (if (S11.1 (8 + 13 + 3 * ((r11 - (36 : Int32))).toNatClampNeg) 0) = 0 then
  (nxt (sI S11 3 5 ((S11.1 3 5) + (1 : Int32))) fun S63 =>
  nxt (sI S63 (8 + 13 + 3 * ((r11 - (36 : Int32))).toNatClampNeg) 0 (1 : Int32)) fun S68 =>
  nxt (sI S68 3 6 (0 : Int32)) fun S73 =>
  nxt (sI S73 3 7 (0 : Int32)) fun S78 =>
  nxt (sI S78 3 8 (1 : Int32)) fun S83 =>
  f_X4_readLaw_88 FU (8 + 13 + 3 * ((r11 - (36 : Int32))).toNatClampNeg) (0 : Int32) S83)
  else
  (bnd (f_X4_wrong (3 : Int32) S11) fun r52 S52 =>
  if okz r52 = true then some (r52, S52) else none))
  else none)
  else
  (f_X4_readLaw_27 S11))

set_option maxHeartbeats 4000000 in
set_option maxRecDepth 100000 in
theorem c_X4_readLaw_27 {X : XT} {loc : Nat → Nat} {r : Int32} {Sf : Mem} (hX : AC X loc RX4 cX4_readLaw (some .boolean) 4 3 0 0) (hQ : RetI X SKC loc 0 0 r Sf) (S : Mem) (h : f_X4_readLaw_27 S = some (r, Sf)) : AW X SKC loc 0 0 27 [(0, .ref 3)] [] S := by
  unfold f_X4_readLaw_27 at h
  refine aw_aload_n (pc := 27) hX dX4_readLaw_27 rfl 0 rfl ?_
  refine aw_iconst (v := (1 : Int32)) (pc := 28) hX dX4_readLaw_28 (by decide) ?_
  obtain ⟨r29, S29, hr29, h⟩ := ob2 h
  refine aw_cVI (pc := 29) (As := [.int (1 : Int32)]) (rest := []) hX (c_X4_wrong hr29) ok_X4_wrong kw_3_58 im_X4_wrong se_X4_wrong rfl kc3 rfl (by decide) (Nat.le_of_ble_eq_true rfl) rfl dX4_readLaw_29 (Nat.le_refl 0) (Nat.le_refl 0) ?_
  by_cases hz32 : okz r29 = true
  · rw [if_pos hz32] at h
    cases h
    exact aw_zret hX hQ hz32 dX4_readLaw_32
  · rw [if_neg hz32] at h
    cases h

set_option maxHeartbeats 4000000 in
set_option maxRecDepth 100000 in
theorem c_X4_readLaw_153 {X : XT} {loc : Nat → Nat} {r : Int32} {Sf : Mem} (hX : AC X loc RX4 cX4_readLaw (some .boolean) 4 3 0 0) (hQ : RetI X SKC loc 0 0 r Sf) {R88 : Nat → Int32 → Mem → Option (Int32 × Mem)} (IH88 : ∀ (b2 : Nat) (v3 : Int32) (_ : IsLaw SKC b2) (S : Mem), R88 b2 v3 S = some (r, Sf) → AW X SKC loc 0 0 88 [(0, .ref 3), (2, .ref b2), (3, .int v3)] [] S) (b2 : Nat) (v3 : Int32) (hb2 : IsLaw SKC b2) (S : Mem) (h : f_X4_readLaw_153 R88 b2 v3 S = some (r, Sf)) : AW X SKC loc 0 0 153 [(0, .ref 3), (2, .ref b2), (3, .int v3)] [] S := by
  unfold f_X4_readLaw_153 at h
  refine aw_aload_n (pc := 153) hX dX4_readLaw_153 rfl 0 rfl ?_
  refine aw_dup (pc := 154) hX dX4_readLaw_154 rfl ?_
  refine gf_X4_36 (pc := 155) hX kc3 rfl dX4_readLaw_155 ?_
  refine aw_iconst (v := (1 : Int32)) (pc := 158) hX dX4_readLaw_158 (by decide) ?_
  refine aw_iadd (pc := 159) hX dX4_readLaw_159 ?_
  refine pf_X4_36 (pc := 160) hX kc3 rfl dX4_readLaw_160 ?_
  obtain ⟨S160, eS160, h⟩ := on h
  refine aw_S eS160 ?_
  refine aw_iinc (v := (v3 + 1)) (ls' := [(3, .int (v3 + 1)), (0, .ref 3), (2, .ref b2)]) (pc := 163) hX dX4_readLaw_163 (pos := 2) rfl (by first | rfl | decide) (by decide) rfl ?_
  refine aw_goto (tgt := 88) (pc := 166) hX dX4_readLaw_166 (by decide) ?_
  refine aw_sub (ls' := [(0, .ref 3), (2, .ref b2), (3, .int (v3 + 1))]) [1, 2, 0] rfl ?_
  exact IH88 b2 (v3 + 1) hb2 S160 h

set_option maxHeartbeats 4000000 in
set_option maxRecDepth 100000 in
theorem c_X4_readLaw_125 {X : XT} {loc : Nat → Nat} {r : Int32} {Sf : Mem} (hX : AC X loc RX4 cX4_readLaw (some .boolean) 4 3 0 0) (hQ : RetI X SKC loc 0 0 r Sf) {R88 : Nat → Int32 → Mem → Option (Int32 × Mem)} (IH88 : ∀ (b2 : Nat) (v3 : Int32) (_ : IsLaw SKC b2) (S : Mem), R88 b2 v3 S = some (r, Sf) → AW X SKC loc 0 0 88 [(0, .ref 3), (2, .ref b2), (3, .int v3)] [] S) (b2 : Nat) (v3 : Int32) (hb2 : IsLaw SKC b2) (S : Mem) (h : f_X4_readLaw_125 R88 b2 v3 S = some (r, Sf)) : AW X SKC loc 0 0 125 [(0, .ref 3), (2, .ref b2), (3, .int v3)] [] S := by
  unfold f_X4_readLaw_125 at h
  refine aw_aload_n (pc := 125) hX dX4_readLaw_125 rfl 0 rfl ?_
  refine gf_X4_45 (pc := 126) hX kc3 rfl dX4_readLaw_126 ?_
  refine aw_if_eq (pc := 129) hX (tgt := 143) dX4_readLaw_129 (by decide) (fun c129 => ?_) (fun c129 => ?_)
  · rw [if_pos c129] at h
    refine aw_aload_n (pc := 143) hX dX4_readLaw_143 rfl 0 rfl ?_
    refine aw_aload_n (pc := 144) hX dX4_readLaw_144 rfl 1 rfl ?_
    obtain ⟨r145, S145, hr145, h⟩ := ob2 h
    refine aw_cVI (pc := 145) (As := [.ref b2]) (rest := []) hX (c_X4_readBehindPart hb2 hr145) ok_X4_readBehindPart kw_3_124 im_X4_readBehindPart se_X4_readBehindPart rfl kc3 rfl (by decide) (Nat.le_of_ble_eq_true rfl) rfl dX4_readLaw_145 (Nat.le_refl 0) (Nat.le_refl 0) ?_
    refine aw_if_ne (pc := 148) hX (tgt := 153) dX4_readLaw_148 (by decide) (fun c148 => ?_) (fun c148 => ?_)
    · rw [if_neg c148] at h
      exact c_X4_readLaw_153 hX hQ IH88 b2 v3 hb2 S145 h
    · rw [if_pos c148] at h
      refine aw_iconst (v := (0 : Int32)) (pc := 151) hX dX4_readLaw_151 (by decide) ?_
      cases h
      exact aw_zret hX hQ (by decide) dX4_readLaw_152
  · rw [if_neg c129] at h
    refine aw_aload_n (pc := 132) hX dX4_readLaw_132 rfl 0 rfl ?_
    refine aw_aload_n (pc := 133) hX dX4_readLaw_133 rfl 1 rfl ?_
    obtain ⟨r134, S134, hr134, h⟩ := ob2 h
    refine aw_cVI (pc := 134) (As := [.ref b2]) (rest := []) hX (c_X4_readPart hb2 hr134) ok_X4_readPart kw_3_108 im_X4_readPart se_X4_readPart rfl kc3 rfl (by decide) (Nat.le_of_ble_eq_true rfl) rfl dX4_readLaw_134 (Nat.le_refl 0) (Nat.le_refl 0) ?_
    refine aw_if_eq (pc := 137) hX (tgt := 151) dX4_readLaw_137 (by decide) (fun c137 => ?_) (fun c137 => ?_)
    · rw [if_pos c137] at h
      refine aw_iconst (v := (0 : Int32)) (pc := 151) hX dX4_readLaw_151 (by decide) ?_
      cases h
      exact aw_zret hX hQ (by decide) dX4_readLaw_152
    · rw [if_neg c137] at h
      refine aw_goto (tgt := 153) (pc := 140) hX dX4_readLaw_140 (by decide) ?_
      exact c_X4_readLaw_153 hX hQ IH88 b2 v3 hb2 S134 h

set_option maxHeartbeats 4000000 in
set_option maxRecDepth 100000 in
theorem c_X4_readLaw_88 {X : XT} {loc : Nat → Nat} {r : Int32} {Sf : Mem} (hX : AC X loc RX4 cX4_readLaw (some .boolean) 4 3 0 0) (hQ : RetI X SKC loc 0 0 r Sf) : ∀ (n : Nat) (b2 : Nat) (v3 : Int32) (hb2 : IsLaw SKC b2) (S : Mem), f_X4_readLaw_88 n b2 v3 S = some (r, Sf) → AW X SKC loc 0 0 88 [(0, .ref 3), (2, .ref b2), (3, .int v3)] [] S := by
  intro n
  induction n with
  | zero => intro b2 v3 hb2 S h; cases h
  | succ n ih =>
    intro b2 v3 hb2 S h
    unfold f_X4_readLaw_88 at h
    refine aw_iload_n (pc := 88) hX dX4_readLaw_88 rfl 2 rfl ?_
    refine aw_sipush (v := (700 : Int32)) (pc := 89) hX dX4_readLaw_89 (by decide) ?_
    refine aw_icmp_gt (pc := 92) hX (tgt := 169) dX4_readLaw_92 (by decide) (fun c92 => ?_) (fun c92 => ?_)
    · rw [if_pos c92] at h
      refine aw_aload_n (pc := 169) hX dX4_readLaw_169 rfl 0 rfl ?_
      refine aw_iconst (v := (1 : Int32)) (pc := 170) hX dX4_readLaw_170 (by decide) ?_
      obtain ⟨r171, S171, hr171, h⟩ := ob2 h
      refine aw_cVI (pc := 171) (As := [.int (1 : Int32)]) (rest := []) hX (c_X4_wrong hr171) ok_X4_wrong kw_3_58 im_X4_wrong se_X4_wrong rfl kc3 rfl (by decide) (Nat.le_of_ble_eq_true rfl) rfl dX4_readLaw_171 (Nat.le_refl 0) (Nat.le_refl 0) ?_
      by_cases hz174 : okz r171 = true
      · rw [if_pos hz174] at h
        cases h
        exact aw_zret hX hQ hz174 dX4_readLaw_174
      · rw [if_neg hz174] at h
        cases h
    · rw [if_neg c92] at h
      refine aw_aload_n (pc := 95) hX dX4_readLaw_95 rfl 0 rfl ?_
      refine gf_X4_45 (pc := 96) hX kc3 rfl dX4_readLaw_96 ?_
      refine aw_if_ne (pc := 99) hX (tgt := 125) dX4_readLaw_99 (by decide) (fun c99 => ?_) (fun c99 => ?_)
      · rw [if_neg c99] at h
        exact c_X4_readLaw_125 hX hQ ih b2 v3 hb2 S h
      · rw [if_pos c99] at h
        refine aw_aload_n (pc := 102) hX dX4_readLaw_102 rfl 0 rfl ?_
        refine gf_X4_42 (pc := 103) hX kc3 rfl dX4_readLaw_103 ?_
        refine aw_if_ne (pc := 106) hX (tgt := 125) dX4_readLaw_106 (by decide) (fun c106 => ?_) (fun c106 => ?_)
        · rw [if_neg c106] at h
          exact c_X4_readLaw_125 hX hQ ih b2 v3 hb2 S h
        · rw [if_pos c106] at h
          refine aw_aload_n (pc := 109) hX dX4_readLaw_109 rfl 0 rfl ?_
          obtain ⟨r110, S110, hr110, h⟩ := ob2 h
          refine aw_cVI (pc := 110) (As := []) (rest := []) hX (c_X4_kind hr110) ok_X4_kind kw_3_46 im_X4_kind se_X4_kind rfl kc3 rfl (by decide) (Nat.le_of_ble_eq_true rfl) rfl dX4_readLaw_110 (Nat.le_refl 0) (Nat.le_refl 0) ?_
          refine aw_iconst (v := (4 : Int32)) (pc := 113) hX dX4_readLaw_113 (by decide) ?_
          refine aw_icmp_ne (pc := 114) hX (tgt := 125) dX4_readLaw_114 (by decide) (fun c114 => ?_) (fun c114 => ?_)
          · rw [if_neg c114] at h
            exact c_X4_readLaw_125 hX hQ ih b2 v3 hb2 S110 h
          · rw [if_pos c114] at h
            refine aw_aload_n (pc := 117) hX dX4_readLaw_117 rfl 0 rfl ?_
            refine aw_aload_n (pc := 118) hX dX4_readLaw_118 rfl 1 rfl ?_
            refine aw_iconst (v := (1 : Int32)) (pc := 119) hX dX4_readLaw_119 (by decide) ?_
            obtain ⟨S120, hr120, h⟩ := ob h
            refine aw_cVV (pc := 120) (As := [.ref b2, .int (1 : Int32)]) (rest := []) hX (c_X4_settleStronger hb2 hr120) ok_X4_settleStronger kw_3_97 im_X4_settleStronger se_X4_settleStronger rfl kc3 rfl (by decide) (Nat.le_of_ble_eq_true rfl) rfl dX4_readLaw_120 (Nat.le_refl 0) (Nat.le_refl 0) ?_
            refine aw_iconst (v := (1 : Int32)) (pc := 123) hX dX4_readLaw_123 (by decide) ?_
            cases h
            exact aw_zret hX hQ (by decide) dX4_readLaw_124

set_option maxHeartbeats 4000000 in
set_option maxRecDepth 100000 in
theorem c_X4_readLaw {S : Mem} {r : Int32} {Sf : Mem} (h : f_X4_readLaw S = some (r, Sf)) : MetI yX4_readLaw cX4_readLaw 4 (some .boolean) 3 [.ref 3] SKC S r Sf := by
  refine MetI.intro (by decide +kernel) (Nat.le_of_ble_eq_true rfl) (fun X loc hX hQ => ?_)
  unfold f_X4_readLaw at h
  show AW X SKC loc 0 0 0 [(0, .ref 3)] [] S
  refine aw_aload_n (pc := 0) hX dX4_readLaw_0 rfl 0 rfl ?_
  refine aw_dup (pc := 1) hX dX4_readLaw_1 rfl ?_
  refine gf_X4_36 (pc := 2) hX kc3 rfl dX4_readLaw_2 ?_
  refine aw_iconst (v := (1 : Int32)) (pc := 5) hX dX4_readLaw_5 (by decide) ?_
  refine aw_iadd (pc := 6) hX dX4_readLaw_6 ?_
  refine pf_X4_36 (pc := 7) hX kc3 rfl dX4_readLaw_7 ?_
  obtain ⟨S7, eS7, h⟩ := on h
  refine aw_S eS7 ?_
  refine aw_aload_n (pc := 10) hX dX4_readLaw_10 rfl 0 rfl ?_
  obtain ⟨r11, S11, hr11, h⟩ := ob2 h
  refine aw_cVI (pc := 11) (As := []) (rest := []) hX (c_X4_kind hr11) ok_X4_kind kw_3_46 im_X4_kind se_X4_kind rfl kc3 rfl (by decide) (Nat.le_of_ble_eq_true rfl) rfl dX4_readLaw_11 (Nat.le_refl 0) (Nat.le_refl 0) ?_
  refine aw_bipush (v := (36 : Int32)) (pc := 14) hX dX4_readLaw_14 (by decide) ?_
  refine aw_isub (pc := 16) hX dX4_readLaw_16 ?_
  refine aw_istore_n (ls' := [(1, .int (r11 - (36 : Int32))), (0, .ref 3)]) (pc := 17) hX dX4_readLaw_17 rfl (by decide) rfl ?_
  refine aw_iload_n (pc := 18) hX dX4_readLaw_18 rfl 0 rfl ?_
  refine aw_if_lt (pc := 19) hX (tgt := 27) dX4_readLaw_19 (by decide) (fun c19 => ?_) (fun c19 => ?_)
  · rw [if_pos c19] at h
    refine aw_sub (ls' := [(0, .ref 3)]) [1] rfl ?_
    exact c_X4_readLaw_27 hX hQ S11 h
  · rw [if_neg c19] at h
    refine aw_iload_n (pc := 22) hX dX4_readLaw_22 rfl 0 rfl ?_
    refine aw_iconst (v := (3 : Int32)) (pc := 23) hX dX4_readLaw_23 (by decide) ?_
    refine aw_icmp_lt (pc := 24) hX (tgt := 33) dX4_readLaw_24 (by decide) (fun c24 => ?_) (fun c24 => ?_)
    · rw [if_pos c24] at h
      refine aw_aload_n (pc := 33) hX dX4_readLaw_33 rfl 1 rfl ?_
      refine gf_X4_21 (pc := 34) hX kc3 rfl dX4_readLaw_34 ?_
      refine gf_X4_142 (pc := 37) hX isT8.1 rfl dX4_readLaw_37 ?_
      refine aw_iload_n (pc := 40) hX dX4_readLaw_40 rfl 0 rfl ?_
      by_cases hi41 : inb (r11 - (36 : Int32)) 3 = true
      · rw [if_pos hi41] at h
        refine aw_aald (pc := 41) hX kc20 hi41 (laws_at hi41) dX4_readLaw_41 ?_
        refine aw_astore_n (ls' := [(2, .ref (8 + 13 + 3 * ((r11 - (36 : Int32))).toNatClampNeg)), (1, .int (r11 - (36 : Int32))), (0, .ref 3)]) (pc := 42) hX dX4_readLaw_42 rfl (by decide) rfl ?_
        refine aw_aload_n (pc := 43) hX dX4_readLaw_43 rfl 0 rfl ?_
        refine gf_X4_146 (pc := 44) hX ((IsT.law isT8 hi41)).1 rfl dX4_readLaw_44 ?_
        refine aw_if_eq (pc := 47) hX (tgt := 56) dX4_readLaw_47 (by decide) (fun c47 => ?_) (fun c47 => ?_)
        · rw [if_pos c47] at h
          refine aw_aload_n (pc := 56) hX dX4_readLaw_56 rfl 2 rfl ?_
          refine aw_dup (pc := 57) hX dX4_readLaw_57 rfl ?_
          refine gf_X4_36 (pc := 58) hX kc3 rfl dX4_readLaw_58 ?_
          refine aw_iconst (v := (1 : Int32)) (pc := 61) hX dX4_readLaw_61 (by decide) ?_
          refine aw_iadd (pc := 62) hX dX4_readLaw_62 ?_
          refine pf_X4_36 (pc := 63) hX kc3 rfl dX4_readLaw_63 ?_
          obtain ⟨S63, eS63, h⟩ := on h
          refine aw_S eS63 ?_
          refine aw_aload_n (pc := 66) hX dX4_readLaw_66 rfl 0 rfl ?_
          refine aw_iconst (v := (1 : Int32)) (pc := 67) hX dX4_readLaw_67 (by decide) ?_
          refine pf_X4_146 (pc := 68) hX ((IsT.law isT8 hi41)).1 rfl (by decide) dX4_readLaw_68 ?_
          obtain ⟨S68, eS68, h⟩ := on h
          refine aw_S eS68 ?_
          refine aw_aload_n (pc := 71) hX dX4_readLaw_71 rfl 2 rfl ?_
          refine aw_iconst (v := (0 : Int32)) (pc := 72) hX dX4_readLaw_72 (by decide) ?_
          refine pf_X4_39 (pc := 73) hX kc3 rfl dX4_readLaw_73 ?_
          obtain ⟨S73, eS73, h⟩ := on h
          refine aw_S eS73 ?_
          refine aw_aload_n (pc := 76) hX dX4_readLaw_76 rfl 2 rfl ?_
          refine aw_iconst (v := (0 : Int32)) (pc := 77) hX dX4_readLaw_77 (by decide) ?_
          refine pf_X4_42 (pc := 78) hX kc3 rfl dX4_readLaw_78 ?_
          obtain ⟨S78, eS78, h⟩ := on h
          refine aw_S eS78 ?_
          refine aw_aload_n (pc := 81) hX dX4_readLaw_81 rfl 2 rfl ?_
          refine aw_iconst (v := (1 : Int32)) (pc := 82) hX dX4_readLaw_82 (by decide) ?_
          refine pf_X4_45 (pc := 83) hX kc3 rfl (by decide) dX4_readLaw_83 ?_
          obtain ⟨S83, eS83, h⟩ := on h
          refine aw_S eS83 ?_
          refine aw_iconst (v := (0 : Int32)) (pc := 86) hX dX4_readLaw_86 (by decide) ?_
          refine aw_istore_n (ls' := [(3, .int (0 : Int32)), (2, .ref (8 + 13 + 3 * ((r11 - (36 : Int32))).toNatClampNeg)), (1, .int (r11 - (36 : Int32))), (0, .ref 3)]) (pc := 87) hX dX4_readLaw_87 rfl (by decide) rfl ?_
          refine aw_sub (ls' := [(0, .ref 3), (2, .ref (8 + 13 + 3 * ((r11 - (36 : Int32))).toNatClampNeg)), (3, .int (0 : Int32))]) [3, 1, 0] rfl ?_
          exact c_X4_readLaw_88 hX hQ FU (8 + 13 + 3 * ((r11 - (36 : Int32))).toNatClampNeg) (0 : Int32) (IsT.law isT8 hi41) S83 h
        · rw [if_neg c47] at h
          refine aw_aload_n (pc := 50) hX dX4_readLaw_50 rfl 2 rfl ?_
          refine aw_iconst (v := (3 : Int32)) (pc := 51) hX dX4_readLaw_51 (by decide) ?_
          obtain ⟨r52, S52, hr52, h⟩ := ob2 h
          refine aw_cVI (pc := 52) (As := [.int (3 : Int32)]) (rest := []) hX (c_X4_wrong hr52) ok_X4_wrong kw_3_58 im_X4_wrong se_X4_wrong rfl kc3 rfl (by decide) (Nat.le_of_ble_eq_true rfl) rfl dX4_readLaw_52 (Nat.le_refl 0) (Nat.le_refl 0) ?_
          by_cases hz55 : okz r52 = true
          · rw [if_pos hz55] at h
            cases h
            exact aw_zret hX hQ hz55 dX4_readLaw_55
          · rw [if_neg hz55] at h
            cases h
      · rw [if_neg hi41] at h
        cases h
    · rw [if_neg c24] at h
      refine aw_sub (ls' := [(0, .ref 3)]) [1] rfl ?_
      exact c_X4_readLaw_27 hX hQ S11 h

def f_X4_readNurse_71 (v1 : Int32) (S : Mem) : Option (Int32 × Mem) :=
  bnd (f_X4_kind S) fun r80 S80 =>
  (wr S80 10 6 v1 (r80 - (34 : Int32))).bind fun S86 =>
  nxt (sI S86 3 5 ((S86.1 3 5) + (1 : Int32))) fun S94 =>
  bnd (f_X4_readNumber 11 6 v1 (0 : Int32) (9 : Int32) S94) fun r109 S109 =>
  if r109 = 0 then
  (some ((0 : Int32), S109))
  else
  (nxt (sI S109 8 0 ((S109.1 8 0) + (1 : Int32))) fun S127 =>
  some ((1 : Int32), S127))

def f_X4_readNurse (S : Mem) : Option (Int32 × Mem) :=
  if (S.1 8 0) < (6 : Int32) then
  (nxt (sI S 3 5 ((S.1 3 5) + (1 : Int32))) fun S27 =>
  bnd (f_X4_readNewName 9 6 (S.1 8 0) S27) fun r39 S39 =>
  if r39 = 0 then
  (some ((0 : Int32), S39))
  else
  (bnd (f_X4_kind S39) fun r48 S48 =>
  if r48 = (34 : Int32) then
  (f_X4_readNurse_71 (S.1 8 0) S48)
  else
  (bnd (f_X4_kind S48) fun r57 S57 =>
  if r57 = (35 : Int32) then
  (f_X4_readNurse_71 (S.1 8 0) S57)
  else
  (bnd (f_X4_wrong (1 : Int32) S57) fun r67 S67 =>
  if okz r67 = true then some (r67, S67) else none))))
  else
  (bnd (f_X4_wrong (2 : Int32) S) fun r16 S16 =>
  if okz r16 = true then some (r16, S16) else none)

set_option maxHeartbeats 4000000 in
set_option maxRecDepth 100000 in
theorem c_X4_readNurse_71 {X : XT} {loc : Nat → Nat} {r : Int32} {Sf : Mem} (hX : AC X loc RX4 cX4_readNurse (some .boolean) 2 2 0 0) (hQ : RetI X SKC loc 0 0 r Sf) (v1 : Int32) (S : Mem) (h : f_X4_readNurse_71 v1 S = some (r, Sf)) : AW X SKC loc 0 0 71 [(0, .ref 3), (1, .int v1)] [] S := by
  unfold f_X4_readNurse_71 at h
  refine aw_aload_n (pc := 71) hX dX4_readNurse_71 rfl 0 rfl ?_
  refine gf_X4_21 (pc := 72) hX kc3 rfl dX4_readNurse_72 ?_
  refine gf_X4_97 (pc := 75) hX isT8.1 rfl dX4_readNurse_75 ?_
  refine aw_iload_n (pc := 78) hX dX4_readNurse_78 rfl 1 rfl ?_
  refine aw_aload_n (pc := 79) hX dX4_readNurse_79 rfl 0 rfl ?_
  obtain ⟨r80, S80, hr80, h⟩ := ob2 h
  refine aw_cVI (pc := 80) (As := []) (rest := [.int v1, .ref 10]) hX (c_X4_kind hr80) ok_X4_kind kw_3_46 im_X4_kind se_X4_kind rfl kc3 rfl (by decide) (Nat.le_of_ble_eq_true rfl) rfl dX4_readNurse_80 (Nat.le_refl 0) (Nat.le_refl 0) ?_
  refine aw_bipush (v := (34 : Int32)) (pc := 83) hX dX4_readNurse_83 (by decide) ?_
  refine aw_isub (pc := 85) hX dX4_readNurse_85 ?_
  obtain ⟨S86, hS86, h⟩ := ob h
  refine aw_iast (pc := 86) hX kc10 hS86 dX4_readNurse_86 ?_
  refine aw_aload_n (pc := 87) hX dX4_readNurse_87 rfl 0 rfl ?_
  refine aw_dup (pc := 88) hX dX4_readNurse_88 rfl ?_
  refine gf_X4_36 (pc := 89) hX kc3 rfl dX4_readNurse_89 ?_
  refine aw_iconst (v := (1 : Int32)) (pc := 92) hX dX4_readNurse_92 (by decide) ?_
  refine aw_iadd (pc := 93) hX dX4_readNurse_93 ?_
  refine pf_X4_36 (pc := 94) hX kc3 rfl dX4_readNurse_94 ?_
  obtain ⟨S94, eS94, h⟩ := on h
  refine aw_S eS94 ?_
  refine aw_aload_n (pc := 97) hX dX4_readNurse_97 rfl 0 rfl ?_
  refine aw_aload_n (pc := 98) hX dX4_readNurse_98 rfl 0 rfl ?_
  refine gf_X4_21 (pc := 99) hX kc3 rfl dX4_readNurse_99 ?_
  refine gf_X4_100 (pc := 102) hX isT8.1 rfl dX4_readNurse_102 ?_
  refine aw_iload_n (pc := 105) hX dX4_readNurse_105 rfl 1 rfl ?_
  refine aw_iconst (v := (0 : Int32)) (pc := 106) hX dX4_readNurse_106 (by decide) ?_
  refine aw_bipush (v := (9 : Int32)) (pc := 107) hX dX4_readNurse_107 (by decide) ?_
  obtain ⟨r109, S109, hr109, h⟩ := ob2 h
  refine aw_cVI (pc := 109) (As := [.ref 11, .int v1, .int (0 : Int32), .int (9 : Int32)]) (rest := []) hX (c_X4_readNumber kc11 hr109) ok_X4_readNumber kw_3_66 im_X4_readNumber se_X4_readNumber rfl kc3 rfl (by decide) (Nat.le_of_ble_eq_true rfl) rfl dX4_readNurse_109 (Nat.le_refl 0) (Nat.le_refl 0) ?_
  refine aw_if_ne (pc := 112) hX (tgt := 117) dX4_readNurse_112 (by decide) (fun c112 => ?_) (fun c112 => ?_)
  · rw [if_neg c112] at h
    refine aw_aload_n (pc := 117) hX dX4_readNurse_117 rfl 0 rfl ?_
    refine gf_X4_21 (pc := 118) hX kc3 rfl dX4_readNurse_118 ?_
    refine aw_dup (pc := 121) hX dX4_readNurse_121 rfl ?_
    refine gf_X4_87 (pc := 122) hX isT8.1 rfl dX4_readNurse_122 ?_
    refine aw_iconst (v := (1 : Int32)) (pc := 125) hX dX4_readNurse_125 (by decide) ?_
    refine aw_iadd (pc := 126) hX dX4_readNurse_126 ?_
    refine pf_X4_87 (pc := 127) hX isT8.1 rfl dX4_readNurse_127 ?_
    obtain ⟨S127, eS127, h⟩ := on h
    refine aw_S eS127 ?_
    refine aw_iconst (v := (1 : Int32)) (pc := 130) hX dX4_readNurse_130 (by decide) ?_
    cases h
    exact aw_zret hX hQ (by decide) dX4_readNurse_131
  · rw [if_pos c112] at h
    refine aw_iconst (v := (0 : Int32)) (pc := 115) hX dX4_readNurse_115 (by decide) ?_
    cases h
    exact aw_zret hX hQ (by decide) dX4_readNurse_116

set_option maxHeartbeats 4000000 in
set_option maxRecDepth 100000 in
theorem c_X4_readNurse {S : Mem} {r : Int32} {Sf : Mem} (h : f_X4_readNurse S = some (r, Sf)) : MetI yX4_readNurse cX4_readNurse 2 (some .boolean) 2 [.ref 3] SKC S r Sf := by
  refine MetI.intro (by decide +kernel) (Nat.le_of_ble_eq_true rfl) (fun X loc hX hQ => ?_)
  unfold f_X4_readNurse at h
  show AW X SKC loc 0 0 0 [(0, .ref 3)] [] S
  refine aw_aload_n (pc := 0) hX dX4_readNurse_0 rfl 0 rfl ?_
  refine gf_X4_21 (pc := 1) hX kc3 rfl dX4_readNurse_1 ?_
  refine gf_X4_87 (pc := 4) hX isT8.1 rfl dX4_readNurse_4 ?_
  refine aw_istore_n (ls' := [(1, .int (S.1 8 0)), (0, .ref 3)]) (pc := 7) hX dX4_readNurse_7 rfl (by decide) rfl ?_
  refine aw_iload_n (pc := 8) hX dX4_readNurse_8 rfl 0 rfl ?_
  refine aw_bipush (v := (6 : Int32)) (pc := 9) hX dX4_readNurse_9 (by decide) ?_
  refine aw_icmp_lt (pc := 11) hX (tgt := 20) dX4_readNurse_11 (by decide) (fun c11 => ?_) (fun c11 => ?_)
  · rw [if_pos c11] at h
    refine aw_aload_n (pc := 20) hX dX4_readNurse_20 rfl 1 rfl ?_
    refine aw_dup (pc := 21) hX dX4_readNurse_21 rfl ?_
    refine gf_X4_36 (pc := 22) hX kc3 rfl dX4_readNurse_22 ?_
    refine aw_iconst (v := (1 : Int32)) (pc := 25) hX dX4_readNurse_25 (by decide) ?_
    refine aw_iadd (pc := 26) hX dX4_readNurse_26 ?_
    refine pf_X4_36 (pc := 27) hX kc3 rfl dX4_readNurse_27 ?_
    obtain ⟨S27, eS27, h⟩ := on h
    refine aw_S eS27 ?_
    refine aw_aload_n (pc := 30) hX dX4_readNurse_30 rfl 1 rfl ?_
    refine aw_aload_n (pc := 31) hX dX4_readNurse_31 rfl 1 rfl ?_
    refine gf_X4_21 (pc := 32) hX kc3 rfl dX4_readNurse_32 ?_
    refine gf_X4_90 (pc := 35) hX isT8.1 rfl dX4_readNurse_35 ?_
    refine aw_iload_n (pc := 38) hX dX4_readNurse_38 rfl 0 rfl ?_
    obtain ⟨r39, S39, hr39, h⟩ := ob2 h
    refine aw_cVI (pc := 39) (As := [.ref 9, .int (S.1 8 0)]) (rest := []) hX (c_X4_readNewName kc9 hr39) ok_X4_readNewName kw_3_78 im_X4_readNewName se_X4_readNewName rfl kc3 rfl (by decide) (Nat.le_of_ble_eq_true rfl) rfl dX4_readNurse_39 (Nat.le_refl 0) (Nat.le_refl 0) ?_
    refine aw_if_ne (pc := 42) hX (tgt := 47) dX4_readNurse_42 (by decide) (fun c42 => ?_) (fun c42 => ?_)
    · rw [if_neg c42] at h
      refine aw_aload_n (pc := 47) hX dX4_readNurse_47 rfl 1 rfl ?_
      obtain ⟨r48, S48, hr48, h⟩ := ob2 h
      refine aw_cVI (pc := 48) (As := []) (rest := []) hX (c_X4_kind hr48) ok_X4_kind kw_3_46 im_X4_kind se_X4_kind rfl kc3 rfl (by decide) (Nat.le_of_ble_eq_true rfl) rfl dX4_readNurse_48 (Nat.le_refl 0) (Nat.le_refl 0) ?_
      refine aw_bipush (v := (34 : Int32)) (pc := 51) hX dX4_readNurse_51 (by decide) ?_
      refine aw_icmp_eq (pc := 53) hX (tgt := 71) dX4_readNurse_53 (by decide) (fun c53 => ?_) (fun c53 => ?_)
      · rw [if_pos c53] at h
        refine aw_sub (ls' := [(0, .ref 3), (1, .int (S.1 8 0))]) [1, 0] rfl ?_
        exact c_X4_readNurse_71 hX hQ (S.1 8 0) S48 h
      · rw [if_neg c53] at h
        refine aw_aload_n (pc := 56) hX dX4_readNurse_56 rfl 1 rfl ?_
        obtain ⟨r57, S57, hr57, h⟩ := ob2 h
        refine aw_cVI (pc := 57) (As := []) (rest := []) hX (c_X4_kind hr57) ok_X4_kind kw_3_46 im_X4_kind se_X4_kind rfl kc3 rfl (by decide) (Nat.le_of_ble_eq_true rfl) rfl dX4_readNurse_57 (Nat.le_refl 0) (Nat.le_refl 0) ?_
        refine aw_bipush (v := (35 : Int32)) (pc := 60) hX dX4_readNurse_60 (by decide) ?_
        refine aw_icmp_eq (pc := 62) hX (tgt := 71) dX4_readNurse_62 (by decide) (fun c62 => ?_) (fun c62 => ?_)
        · rw [if_pos c62] at h
          refine aw_sub (ls' := [(0, .ref 3), (1, .int (S.1 8 0))]) [1, 0] rfl ?_
          exact c_X4_readNurse_71 hX hQ (S.1 8 0) S57 h
        · rw [if_neg c62] at h
          refine aw_aload_n (pc := 65) hX dX4_readNurse_65 rfl 1 rfl ?_
          refine aw_iconst (v := (1 : Int32)) (pc := 66) hX dX4_readNurse_66 (by decide) ?_
          obtain ⟨r67, S67, hr67, h⟩ := ob2 h
          refine aw_cVI (pc := 67) (As := [.int (1 : Int32)]) (rest := []) hX (c_X4_wrong hr67) ok_X4_wrong kw_3_58 im_X4_wrong se_X4_wrong rfl kc3 rfl (by decide) (Nat.le_of_ble_eq_true rfl) rfl dX4_readNurse_67 (Nat.le_refl 0) (Nat.le_refl 0) ?_
          by_cases hz70 : okz r67 = true
          · rw [if_pos hz70] at h
            cases h
            exact aw_zret hX hQ hz70 dX4_readNurse_70
          · rw [if_neg hz70] at h
            cases h
    · rw [if_pos c42] at h
      refine aw_iconst (v := (0 : Int32)) (pc := 45) hX dX4_readNurse_45 (by decide) ?_
      cases h
      exact aw_zret hX hQ (by decide) dX4_readNurse_46
  · rw [if_neg c11] at h
    refine aw_aload_n (pc := 14) hX dX4_readNurse_14 rfl 1 rfl ?_
    refine aw_iconst (v := (2 : Int32)) (pc := 15) hX dX4_readNurse_15 (by decide) ?_
    obtain ⟨r16, S16, hr16, h⟩ := ob2 h
    refine aw_cVI (pc := 16) (As := [.int (2 : Int32)]) (rest := []) hX (c_X4_wrong hr16) ok_X4_wrong kw_3_58 im_X4_wrong se_X4_wrong rfl kc3 rfl (by decide) (Nat.le_of_ble_eq_true rfl) rfl dX4_readNurse_16 (Nat.le_refl 0) (Nat.le_refl 0) ?_
    by_cases hz19 : okz r16 = true
    · rw [if_pos hz19] at h
      cases h
      exact aw_zret hX hQ hz19 dX4_readNurse_19
    · rw [if_neg hz19] at h
      cases h

def f_X4_readSetting (v1 : Int32) (S : Mem) : Option (Int32 × Mem) :=
  (rd S 19 4 v1).bind fun x8 =>
  if x8 = 0 then
  (nxt (sI S 3 5 ((S.1 3 5) + (1 : Int32))) fun S25 =>
  (wrZ S25 19 4 v1 (1 : Int32)).bind fun S37 =>
  (rdT stLeast v1).bind fun x51 =>
  (rdT stMost v1).bind fun x56 =>
  bnd (f_X4_readNumber 18 4 v1 x51 x56 S37) fun r57 S57 =>
  if okz r57 = true then some (r57, S57) else none)
  else
  (bnd (f_X4_wrong (3 : Int32) S) fun r14 S14 =>
  if okz r14 = true then some (r14, S14) else none)

set_option maxHeartbeats 4000000 in
set_option maxRecDepth 100000 in
theorem c_X4_readSetting {v1 : Int32} {S : Mem} {r : Int32} {Sf : Mem} (h : f_X4_readSetting v1 S = some (r, Sf)) : MetI yX4_readSetting cX4_readSetting 2 (some .boolean) 2 [.ref 3, .int v1] SKC S r Sf := by
  refine MetI.intro (by decide +kernel) (Nat.le_of_ble_eq_true rfl) (fun X loc hX hQ => ?_)
  unfold f_X4_readSetting at h
  show AW X SKC loc 0 0 0 [(0, .ref 3), (1, .int v1)] [] S
  refine aw_aload_n (pc := 0) hX dX4_readSetting_0 rfl 0 rfl ?_
  refine gf_X4_21 (pc := 1) hX kc3 rfl dX4_readSetting_1 ?_
  refine gf_X4_129 (pc := 4) hX isT8.1 rfl dX4_readSetting_4 ?_
  refine aw_iload_n (pc := 7) hX dX4_readSetting_7 rfl 1 rfl ?_
  obtain ⟨x8, hx8, h⟩ := ob h
  refine aw_zald (pc := 8) hX kc19 hx8 dX4_readSetting_8 ?_
  refine aw_if_eq (pc := 9) hX (tgt := 18) dX4_readSetting_9 (by decide) (fun c9 => ?_) (fun c9 => ?_)
  · rw [if_pos c9] at h
    refine aw_aload_n (pc := 18) hX dX4_readSetting_18 rfl 0 rfl ?_
    refine aw_dup (pc := 19) hX dX4_readSetting_19 rfl ?_
    refine gf_X4_36 (pc := 20) hX kc3 rfl dX4_readSetting_20 ?_
    refine aw_iconst (v := (1 : Int32)) (pc := 23) hX dX4_readSetting_23 (by decide) ?_
    refine aw_iadd (pc := 24) hX dX4_readSetting_24 ?_
    refine pf_X4_36 (pc := 25) hX kc3 rfl dX4_readSetting_25 ?_
    obtain ⟨S25, eS25, h⟩ := on h
    refine aw_S eS25 ?_
    refine aw_aload_n (pc := 28) hX dX4_readSetting_28 rfl 0 rfl ?_
    refine gf_X4_21 (pc := 29) hX kc3 rfl dX4_readSetting_29 ?_
    refine gf_X4_129 (pc := 32) hX isT8.1 rfl dX4_readSetting_32 ?_
    refine aw_iload_n (pc := 35) hX dX4_readSetting_35 rfl 1 rfl ?_
    refine aw_iconst (v := (1 : Int32)) (pc := 36) hX dX4_readSetting_36 (by decide) ?_
    obtain ⟨S37, hS37, h⟩ := ob h
    refine aw_zast (pc := 37) hX kc19 hS37 dX4_readSetting_37 ?_
    refine aw_aload_n (pc := 38) hX dX4_readSetting_38 rfl 0 rfl ?_
    refine aw_aload_n (pc := 39) hX dX4_readSetting_39 rfl 0 rfl ?_
    refine gf_X4_21 (pc := 40) hX kc3 rfl dX4_readSetting_40 ?_
    refine gf_X4_133 (pc := 43) hX isT8.1 rfl dX4_readSetting_43 ?_
    refine aw_iload_n (pc := 46) hX dX4_readSetting_46 rfl 1 rfl ?_
    refine aw_gets0 (pc := 47) hX (host := "DollTruce") (by decide) dX4_readSetting_47 ?_
    refine aw_iload_n (pc := 50) hX dX4_readSetting_50 rfl 1 rfl ?_
    obtain ⟨x51, hx51, h⟩ := ob h
    refine aw_tld0 (pc := 51) hX hx51 dX4_readSetting_51 ?_
    refine aw_gets1 (pc := 52) hX (host := "DollTruce") (by decide) dX4_readSetting_52 ?_
    refine aw_iload_n (pc := 55) hX dX4_readSetting_55 rfl 1 rfl ?_
    obtain ⟨x56, hx56, h⟩ := ob h
    refine aw_tld1 (pc := 56) hX hx56 dX4_readSetting_56 ?_
    obtain ⟨r57, S57, hr57, h⟩ := ob2 h
    refine aw_cVI (pc := 57) (As := [.ref 18, .int v1, .int x51, .int x56]) (rest := []) hX (c_X4_readNumber kc18 hr57) ok_X4_readNumber kw_3_66 im_X4_readNumber se_X4_readNumber rfl kc3 rfl (by decide) (Nat.le_of_ble_eq_true rfl) rfl dX4_readSetting_57 (Nat.le_refl 0) (Nat.le_refl 0) ?_
    by_cases hz60 : okz r57 = true
    · rw [if_pos hz60] at h
      cases h
      exact aw_zret hX hQ hz60 dX4_readSetting_60
    · rw [if_neg hz60] at h
      cases h
  · rw [if_neg c9] at h
    refine aw_aload_n (pc := 12) hX dX4_readSetting_12 rfl 0 rfl ?_
    refine aw_iconst (v := (3 : Int32)) (pc := 13) hX dX4_readSetting_13 (by decide) ?_
    obtain ⟨r14, S14, hr14, h⟩ := ob2 h
    refine aw_cVI (pc := 14) (As := [.int (3 : Int32)]) (rest := []) hX (c_X4_wrong hr14) ok_X4_wrong kw_3_58 im_X4_wrong se_X4_wrong rfl kc3 rfl (by decide) (Nat.le_of_ble_eq_true rfl) rfl dX4_readSetting_14 (Nat.le_refl 0) (Nat.le_refl 0) ?_
    by_cases hz17 : okz r14 = true
    · rw [if_pos hz17] at h
      cases h
      exact aw_zret hX hQ hz17 dX4_readSetting_17
    · rw [if_neg hz17] at h
      cases h

def f_X4_readLine_26 (v1 : Int32) (S : Mem) : Option (Int32 × Mem) :=
  if v1 = 27 then
  (bnd (f_X4_readNurse S) fun r61 S61 =>
  if okz r61 = true then some (r61, S61) else none)
  else
  (if v1 = 28 then
  (bnd (f_X4_readDoll S) fun r66 S66 =>
  if okz r66 = true then some (r66, S66) else none)
  else
  (if v1 = 33 then
  (bnd (f_X4_readLaw S) fun r71 S71 =>
  if okz r71 = true then some (r71, S71) else none)
  else
  (bnd (f_X4_wrong (1 : Int32) S) fun r77 S77 =>
  if okz r77 = true then some (r77, S77) else none)))

def f_X4_readLine (S : Mem) : Option (Int32 × Mem) :=
  bnd (f_X4_kind S) fun r1 S1 =>
  if r1 < (29 : Int32) then
  (f_X4_readLine_26 r1 S1)
  else
  (if (32 : Int32) < r1 then
  (f_X4_readLine_26 r1 S1)
  else
  (bnd (f_X4_readSetting (r1 - (29 : Int32)) S1) fun r22 S22 =>
  if okz r22 = true then some (r22, S22) else none))

set_option maxHeartbeats 4000000 in
set_option maxRecDepth 100000 in
theorem c_X4_readLine_26 {X : XT} {loc : Nat → Nat} {r : Int32} {Sf : Mem} (hX : AC X loc RX4 cX4_readLine (some .boolean) 2 4 0 0) (hQ : RetI X SKC loc 0 0 r Sf) (v1 : Int32) (S : Mem) (h : f_X4_readLine_26 v1 S = some (r, Sf)) : AW X SKC loc 0 0 26 [(0, .ref 3), (1, .int v1)] [] S := by
  unfold f_X4_readLine_26 at h
  refine aw_iload_n (pc := 26) hX dX4_readLine_26 rfl 1 rfl ?_
  by_cases c27_0 : v1 = 27
  · rw [if_pos c27_0] at h
    refine aw_look (pc := 27) hX (off := 33) (tgt := 60) dX4_readLine_27 (by decide) (by rw [c27_0]; decide) (by decide) ?_
    refine aw_aload_n (pc := 60) hX dX4_readLine_60 rfl 0 rfl ?_
    obtain ⟨r61, S61, hr61, h⟩ := ob2 h
    refine aw_cVI (pc := 61) (As := []) (rest := []) hX (c_X4_readNurse hr61) ok_X4_readNurse kw_3_74 im_X4_readNurse se_X4_readNurse rfl kc3 rfl (by decide) (Nat.le_of_ble_eq_true rfl) rfl dX4_readLine_61 (Nat.le_refl 0) (Nat.le_refl 0) ?_
    by_cases hz64 : okz r61 = true
    · rw [if_pos hz64] at h
      cases h
      exact aw_zret hX hQ hz64 dX4_readLine_64
    · rw [if_neg hz64] at h
      cases h
  · rw [if_neg c27_0] at h
    by_cases c27_1 : v1 = 28
    · rw [if_pos c27_1] at h
      refine aw_look (pc := 27) hX (off := 38) (tgt := 65) dX4_readLine_27 (by decide) (by rw [c27_1]; decide) (by decide) ?_
      refine aw_aload_n (pc := 65) hX dX4_readLine_65 rfl 0 rfl ?_
      obtain ⟨r66, S66, hr66, h⟩ := ob2 h
      refine aw_cVI (pc := 66) (As := []) (rest := []) hX (c_X4_readDoll hr66) ok_X4_readDoll kw_3_85 im_X4_readDoll se_X4_readDoll rfl kc3 rfl (by decide) (Nat.le_of_ble_eq_true rfl) rfl dX4_readLine_66 (Nat.le_refl 0) (Nat.le_refl 0) ?_
      by_cases hz69 : okz r66 = true
      · rw [if_pos hz69] at h
        cases h
        exact aw_zret hX hQ hz69 dX4_readLine_69
      · rw [if_neg hz69] at h
        cases h
    · rw [if_neg c27_1] at h
      by_cases c27_2 : v1 = 33
      · rw [if_pos c27_2] at h
        refine aw_look (pc := 27) hX (off := 43) (tgt := 70) dX4_readLine_27 (by decide) (by rw [c27_2]; decide) (by decide) ?_
        refine aw_aload_n (pc := 70) hX dX4_readLine_70 rfl 0 rfl ?_
        obtain ⟨r71, S71, hr71, h⟩ := ob2 h
        refine aw_cVI (pc := 71) (As := []) (rest := []) hX (c_X4_readLaw hr71) ok_X4_readLaw kw_3_93 im_X4_readLaw se_X4_readLaw rfl kc3 rfl (by decide) (Nat.le_of_ble_eq_true rfl) rfl dX4_readLine_71 (Nat.le_refl 0) (Nat.le_refl 0) ?_
        by_cases hz74 : okz r71 = true
        · rw [if_pos hz74] at h
          cases h
          exact aw_zret hX hQ hz74 dX4_readLine_74
        · rw [if_neg hz74] at h
          cases h
      · rw [if_neg c27_2] at h
        refine aw_look (pc := 27) hX (off := 48) (tgt := 75) dX4_readLine_27 (by decide) (by have e0 := ne_i c27_0 (by decide : (27 : Int32).toInt = 27); have e1 := ne_i c27_1 (by decide : (28 : Int32).toInt = 28); have e2 := ne_i c27_2 (by decide : (33 : Int32).toInt = 33); exact lk_out (by simp; omega)) (by decide) ?_
        refine aw_aload_n (pc := 75) hX dX4_readLine_75 rfl 0 rfl ?_
        refine aw_iconst (v := (1 : Int32)) (pc := 76) hX dX4_readLine_76 (by decide) ?_
        obtain ⟨r77, S77, hr77, h⟩ := ob2 h
        refine aw_cVI (pc := 77) (As := [.int (1 : Int32)]) (rest := []) hX (c_X4_wrong hr77) ok_X4_wrong kw_3_58 im_X4_wrong se_X4_wrong rfl kc3 rfl (by decide) (Nat.le_of_ble_eq_true rfl) rfl dX4_readLine_77 (Nat.le_refl 0) (Nat.le_refl 0) ?_
        by_cases hz80 : okz r77 = true
        · rw [if_pos hz80] at h
          cases h
          exact aw_zret hX hQ hz80 dX4_readLine_80
        · rw [if_neg hz80] at h
          cases h

set_option maxHeartbeats 4000000 in
set_option maxRecDepth 100000 in
theorem c_X4_readLine {S : Mem} {r : Int32} {Sf : Mem} (h : f_X4_readLine S = some (r, Sf)) : MetI yX4_readLine cX4_readLine 2 (some .boolean) 4 [.ref 3] SKC S r Sf := by
  refine MetI.intro (by decide +kernel) (Nat.le_of_ble_eq_true rfl) (fun X loc hX hQ => ?_)
  unfold f_X4_readLine at h
  show AW X SKC loc 0 0 0 [(0, .ref 3)] [] S
  refine aw_aload_n (pc := 0) hX dX4_readLine_0 rfl 0 rfl ?_
  obtain ⟨r1, S1, hr1, h⟩ := ob2 h
  refine aw_cVI (pc := 1) (As := []) (rest := []) hX (c_X4_kind hr1) ok_X4_kind kw_3_46 im_X4_kind se_X4_kind rfl kc3 rfl (by decide) (Nat.le_of_ble_eq_true rfl) rfl dX4_readLine_1 (Nat.le_refl 0) (Nat.le_refl 0) ?_
  refine aw_istore_n (ls' := [(1, .int r1), (0, .ref 3)]) (pc := 4) hX dX4_readLine_4 rfl (by decide) rfl ?_
  refine aw_iload_n (pc := 5) hX dX4_readLine_5 rfl 0 rfl ?_
  refine aw_bipush (v := (29 : Int32)) (pc := 6) hX dX4_readLine_6 (by decide) ?_
  refine aw_icmp_lt (pc := 8) hX (tgt := 26) dX4_readLine_8 (by decide) (fun c8 => ?_) (fun c8 => ?_)
  · rw [if_pos c8] at h
    refine aw_sub (ls' := [(0, .ref 3), (1, .int r1)]) [1, 0] rfl ?_
    exact c_X4_readLine_26 hX hQ r1 S1 h
  · rw [if_neg c8] at h
    refine aw_iload_n (pc := 11) hX dX4_readLine_11 rfl 0 rfl ?_
    refine aw_bipush (v := (32 : Int32)) (pc := 12) hX dX4_readLine_12 (by decide) ?_
    refine aw_icmp_gt (pc := 14) hX (tgt := 26) dX4_readLine_14 (by decide) (fun c14 => ?_) (fun c14 => ?_)
    · rw [if_pos c14] at h
      refine aw_sub (ls' := [(0, .ref 3), (1, .int r1)]) [1, 0] rfl ?_
      exact c_X4_readLine_26 hX hQ r1 S1 h
    · rw [if_neg c14] at h
      refine aw_aload_n (pc := 17) hX dX4_readLine_17 rfl 1 rfl ?_
      refine aw_iload_n (pc := 18) hX dX4_readLine_18 rfl 0 rfl ?_
      refine aw_bipush (v := (29 : Int32)) (pc := 19) hX dX4_readLine_19 (by decide) ?_
      refine aw_isub (pc := 21) hX dX4_readLine_21 ?_
      obtain ⟨r22, S22, hr22, h⟩ := ob2 h
      refine aw_cVI (pc := 22) (As := [.int (r1 - (29 : Int32))]) (rest := []) hX (c_X4_readSetting hr22) ok_X4_readSetting kw_3_54 im_X4_readSetting se_X4_readSetting rfl kc3 rfl (by decide) (Nat.le_of_ble_eq_true rfl) rfl dX4_readLine_22 (Nat.le_refl 0) (Nat.le_refl 0) ?_
      by_cases hz25 : okz r22 = true
      · rw [if_pos hz25] at h
        cases h
        exact aw_zret hX hQ hz25 dX4_readLine_25
      · rw [if_neg hz25] at h
        cases h

def f_X4_readLines_24 : Nat → Int32 → Mem → Option (Int32 × Mem)
  | 0, _, _ => none
  | n + 1, v1, S =>
  if (700 : Int32) < v1 then
  (some ((-1 : Int32), S))
  else
  (bnd (f_X4_kind S) fun r32 S32 =>
  if r32 = 0 then
  (some (v1, S32))
  else
  (bnd (f_X4_readLine S32) fun r41 S41 =>
  if r41 = 0 then
  (some ((-1 : Int32), S41))
  else
  (bnd (f_X4_pass (4 : Int32) S41) fun r49 S49 =>
  if r49 = 0 then
  (some ((-1 : Int32), S49))
  else
  (f_X4_readLines_24 n (v1 + 1) S49))))

def f_X4_readLines (S : Mem) : Option (Int32 × Mem) :=
  (f_X7_clear 8 S).bind fun S4 =>
  nxt (sI S4 3 5 (0 : Int32)) fun S9 =>
  nxt (sI S9 3 2 (0 : Int32)) fun S14 =>
  nxt (sI S14 3 3 (-1 : Int32)) fun S19 =>
  f_X4_readLines_24 FU (0 : Int32) S19

set_option maxHeartbeats 4000000 in
set_option maxRecDepth 100000 in
theorem c_X4_readLines_24 {X : XT} {loc : Nat → Nat} {r : Int32} {Sf : Mem} (hX : AC X loc RX4 cX4_readLines (some .int) 2 5 0 0) (hQ : RetI X SKC loc 0 0 r Sf) : ∀ (n : Nat) (v1 : Int32) (S : Mem), f_X4_readLines_24 n v1 S = some (r, Sf) → AW X SKC loc 0 0 24 [(0, .ref 3), (1, .int v1)] [] S := by
  intro n
  induction n with
  | zero => intro v1 S h; cases h
  | succ n ih =>
    intro v1 S h
    unfold f_X4_readLines_24 at h
    refine aw_iload_n (pc := 24) hX dX4_readLines_24 rfl 1 rfl ?_
    refine aw_sipush (v := (700 : Int32)) (pc := 25) hX dX4_readLines_25 (by decide) ?_
    refine aw_icmp_gt (pc := 28) hX (tgt := 63) dX4_readLines_28 (by decide) (fun c28 => ?_) (fun c28 => ?_)
    · rw [if_pos c28] at h
      refine aw_iconst (v := (-1 : Int32)) (pc := 63) hX dX4_readLines_63 (by decide) ?_
      cases h
      exact aw_iret hX hQ dX4_readLines_64
    · rw [if_neg c28] at h
      refine aw_aload_n (pc := 31) hX dX4_readLines_31 rfl 0 rfl ?_
      obtain ⟨r32, S32, hr32, h⟩ := ob2 h
      refine aw_cVI (pc := 32) (As := []) (rest := []) hX (c_X4_kind hr32) ok_X4_kind kw_3_46 im_X4_kind se_X4_kind rfl kc3 rfl (by decide) (Nat.le_of_ble_eq_true rfl) rfl dX4_readLines_32 (Nat.le_refl 0) (Nat.le_refl 0) ?_
      refine aw_if_ne (pc := 35) hX (tgt := 40) dX4_readLines_35 (by decide) (fun c35 => ?_) (fun c35 => ?_)
      · rw [if_neg c35] at h
        refine aw_aload_n (pc := 40) hX dX4_readLines_40 rfl 0 rfl ?_
        obtain ⟨r41, S41, hr41, h⟩ := ob2 h
        refine aw_cVI (pc := 41) (As := []) (rest := []) hX (c_X4_readLine hr41) ok_X4_readLine kw_3_50 im_X4_readLine se_X4_readLine rfl kc3 rfl (by decide) (Nat.le_of_ble_eq_true rfl) rfl dX4_readLines_41 (Nat.le_refl 0) (Nat.le_refl 0) ?_
        refine aw_if_eq (pc := 44) hX (tgt := 55) dX4_readLines_44 (by decide) (fun c44 => ?_) (fun c44 => ?_)
        · rw [if_pos c44] at h
          refine aw_iconst (v := (-1 : Int32)) (pc := 55) hX dX4_readLines_55 (by decide) ?_
          cases h
          exact aw_iret hX hQ dX4_readLines_56
        · rw [if_neg c44] at h
          refine aw_aload_n (pc := 47) hX dX4_readLines_47 rfl 0 rfl ?_
          refine aw_iconst (v := (4 : Int32)) (pc := 48) hX dX4_readLines_48 (by decide) ?_
          obtain ⟨r49, S49, hr49, h⟩ := ob2 h
          refine aw_cVI (pc := 49) (As := [.int (4 : Int32)]) (rest := []) hX (c_X4_pass hr49) ok_X4_pass kw_3_128 im_X4_pass se_X4_pass rfl kc3 rfl (by decide) (Nat.le_of_ble_eq_true rfl) rfl dX4_readLines_49 (Nat.le_refl 0) (Nat.le_refl 0) ?_
          refine aw_if_ne (pc := 52) hX (tgt := 57) dX4_readLines_52 (by decide) (fun c52 => ?_) (fun c52 => ?_)
          · rw [if_neg c52] at h
            refine aw_iinc (v := (v1 + 1)) (ls' := [(1, .int (v1 + 1)), (0, .ref 3)]) (pc := 57) hX dX4_readLines_57 (pos := 1) rfl (by first | rfl | decide) (by decide) rfl ?_
            refine aw_goto (tgt := 24) (pc := 60) hX dX4_readLines_60 (by decide) ?_
            refine aw_sub (ls' := [(0, .ref 3), (1, .int (v1 + 1))]) [1, 0] rfl ?_
            exact ih (v1 + 1) S49 h
          · rw [if_pos c52] at h
            refine aw_iconst (v := (-1 : Int32)) (pc := 55) hX dX4_readLines_55 (by decide) ?_
            cases h
            exact aw_iret hX hQ dX4_readLines_56
      · rw [if_pos c35] at h
        refine aw_iload_n (pc := 38) hX dX4_readLines_38 rfl 1 rfl ?_
        cases h
        exact aw_iret hX hQ dX4_readLines_39

set_option maxHeartbeats 4000000 in
set_option maxRecDepth 100000 in
theorem c_X4_readLines {S : Mem} {r : Int32} {Sf : Mem} (h : f_X4_readLines S = some (r, Sf)) : MetI yX4_readLines cX4_readLines 2 (some .int) 5 [.ref 3] SKC S r Sf := by
  refine MetI.intro (by decide +kernel) (Nat.le_of_ble_eq_true rfl) (fun X loc hX hQ => ?_)
  unfold f_X4_readLines at h
  show AW X SKC loc 0 0 0 [(0, .ref 3)] [] S
  refine aw_aload_n (pc := 0) hX dX4_readLines_0 rfl 0 rfl ?_
  refine gf_X4_21 (pc := 1) hX kc3 rfl dX4_readLines_1 ?_
  obtain ⟨S4, hr4, h⟩ := ob h
  refine aw_cVV (pc := 4) (As := []) (rest := []) hX (c_X7_clear (sk := SKC) isT8 hr4) ok_X7_clear kw_3_45 im_X7_clear se_X7_clear rfl isT8.1 rfl (by decide) (Nat.le_of_ble_eq_true rfl) rfl dX4_readLines_4 (Nat.le_refl 0) (Nat.le_refl 0) ?_
  refine aw_aload_n (pc := 7) hX dX4_readLines_7 rfl 0 rfl ?_
  refine aw_iconst (v := (0 : Int32)) (pc := 8) hX dX4_readLines_8 (by decide) ?_
  refine pf_X4_36 (pc := 9) hX kc3 rfl dX4_readLines_9 ?_
  obtain ⟨S9, eS9, h⟩ := on h
  refine aw_S eS9 ?_
  refine aw_aload_n (pc := 12) hX dX4_readLines_12 rfl 0 rfl ?_
  refine aw_iconst (v := (0 : Int32)) (pc := 13) hX dX4_readLines_13 (by decide) ?_
  refine pf_X4_25 (pc := 14) hX kc3 rfl dX4_readLines_14 ?_
  obtain ⟨S14, eS14, h⟩ := on h
  refine aw_S eS14 ?_
  refine aw_aload_n (pc := 17) hX dX4_readLines_17 rfl 0 rfl ?_
  refine aw_iconst (v := (-1 : Int32)) (pc := 18) hX dX4_readLines_18 (by decide) ?_
  refine pf_X4_29 (pc := 19) hX kc3 rfl dX4_readLines_19 ?_
  obtain ⟨S19, eS19, h⟩ := on h
  refine aw_S eS19 ?_
  refine aw_iconst (v := (0 : Int32)) (pc := 22) hX dX4_readLines_22 (by decide) ?_
  refine aw_istore_n (ls' := [(1, .int (0 : Int32)), (0, .ref 3)]) (pc := 23) hX dX4_readLines_23 rfl (by decide) rfl ?_
  refine aw_sub (ls' := [(0, .ref 3), (1, .int (0 : Int32))]) [1, 0] rfl ?_
  exact c_X4_readLines_24 hX hQ FU (0 : Int32) S19 h

