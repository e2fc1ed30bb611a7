def f_X0_dropOldest_2 : Nat → Int32 → Mem → Option Mem
  | 0, _, _ => none
  | n + 1, v1, S =>
  if (20 : Int32) ≤ v1 then
  (nxt (sI S 84 0 (19 : Int32)) fun S59 =>
  some S59)
  else
  ((rd S 85 20 v1).bind fun x20 =>
  (wr S 85 20 (v1 - (1 : Int32)) x20).bind fun S21 =>
  (rd S21 86 20 v1).bind fun x34 =>
  (wr S21 86 20 (v1 - (1 : Int32)) x34).bind fun S35 =>
  (rd S35 87 20 v1).bind fun x48 =>
  (wr S35 87 20 (v1 - (1 : Int32)) x48).bind fun S49 =>
  f_X0_dropOldest_2 n (v1 + 1) S49)

def f_X0_dropOldest (S : Mem) : Option Mem :=
  f_X0_dropOldest_2 FU (1 : Int32) S

set_option maxHeartbeats 4000000 in
set_option maxRecDepth 100000 in
theorem c_X0_dropOldest_2 {X : XT} {loc : Nat → Nat} {Sf : Mem} (hX : AC X loc RX0 cX0_dropOldest none 2 0 0 0) (hQ : RetV X SKC loc 0 0 Sf) : ∀ (n : Nat) (v1 : Int32) (S : Mem), f_X0_dropOldest_2 n v1 S = some Sf → AW X SKC loc 0 0 2 [(0, .ref 84), (1, .int v1)] [] S := by
  intro n
  induction n with
  | zero => intro v1 S h; cases h
  | succ n ih =>
    intro v1 S h
    unfold f_X0_dropOldest_2 at h
    refine aw_iload_n (pc := 2) hX dX0_dropOldest_2 rfl 1 rfl ?_
    refine aw_bipush (v := (20 : Int32)) (pc := 3) hX dX0_dropOldest_3 (by decide) ?_
    refine aw_icmp_ge (pc := 5) hX (tgt := 56) dX0_dropOldest_5 (by decide) (fun c5 => ?_) (fun c5 => ?_)
    · rw [if_pos c5] at h
      refine aw_aload_n (pc := 56) hX dX0_dropOldest_56 rfl 0 rfl ?_
      refine aw_bipush (v := (19 : Int32)) (pc := 57) hX dX0_dropOldest_57 (by decide) ?_
      refine pf_X0_9 (pc := 59) hX kc84 rfl dX0_dropOldest_59 ?_
      obtain ⟨S59, eS59, h⟩ := on h
      refine aw_S eS59 ?_
      cases h
      exact aw_vret hX hQ dX0_dropOldest_62
    · rw [if_neg c5] at h
      refine aw_aload_n (pc := 8) hX dX0_dropOldest_8 rfl 0 rfl ?_
      refine gf_X0_15 (pc := 9) hX kc84 rfl dX0_dropOldest_9 ?_
      refine aw_iload_n (pc := 12) hX dX0_dropOldest_12 rfl 1 rfl ?_
      refine aw_iconst (v := (1 : Int32)) (pc := 13) hX dX0_dropOldest_13 (by decide) ?_
      refine aw_isub (pc := 14) hX dX0_dropOldest_14 ?_
      refine aw_aload_n (pc := 15) hX dX0_dropOldest_15 rfl 0 rfl ?_
      refine gf_X0_15 (pc := 16) hX kc84 rfl dX0_dropOldest_16 ?_
      refine aw_iload_n (pc := 19) hX dX0_dropOldest_19 rfl 1 rfl ?_
      obtain ⟨x20, hx20, h⟩ := ob h
      refine aw_iald (pc := 20) hX kc85 hx20 dX0_dropOldest_20 ?_
      obtain ⟨S21, hS21, h⟩ := ob h
      refine aw_iast (pc := 21) hX kc85 hS21 dX0_dropOldest_21 ?_
      refine aw_aload_n (pc := 22) hX dX0_dropOldest_22 rfl 0 rfl ?_
      refine gf_X0_19 (pc := 23) hX kc84 rfl dX0_dropOldest_23 ?_
      refine aw_iload_n (pc := 26) hX dX0_dropOldest_26 rfl 1 rfl ?_
      refine aw_iconst (v := (1 : Int32)) (pc := 27) hX dX0_dropOldest_27 (by decide) ?_
      refine aw_isub (pc := 28) hX dX0_dropOldest_28 ?_
      refine aw_aload_n (pc := 29) hX dX0_dropOldest_29 rfl 0 rfl ?_
      refine gf_X0_19 (pc := 30) hX kc84 rfl dX0_dropOldest_30 ?_
      refine aw_iload_n (pc := 33) hX dX0_dropOldest_33 rfl 1 rfl ?_
      obtain ⟨x34, hx34, h⟩ := ob h
      refine aw_iald (pc := 34) hX kc86 hx34 dX0_dropOldest_34 ?_
      obtain ⟨S35, hS35, h⟩ := ob h
      refine aw_iast (pc := 35) hX kc86 hS35 dX0_dropOldest_35 ?_
      refine aw_aload_n (pc := 36) hX dX0_dropOldest_36 rfl 0 rfl ?_
      refine gf_X0_22 (pc := 37) hX kc84 rfl dX0_dropOldest_37 ?_
      refine aw_iload_n (pc := 40) hX dX0_dropOldest_40 rfl 1 rfl ?_
      refine aw_iconst (v := (1 : Int32)) (pc := 41) hX dX0_dropOldest_41 (by decide) ?_
      refine aw_isub (pc := 42) hX dX0_dropOldest_42 ?_
      refine aw_aload_n (pc := 43) hX dX0_dropOldest_43 rfl 0 rfl ?_
      refine gf_X0_22 (pc := 44) hX kc84 rfl dX0_dropOldest_44 ?_
      refine aw_iload_n (pc := 47) hX dX0_dropOldest_47 rfl 1 rfl ?_
      obtain ⟨x48, hx48, h⟩ := ob h
      refine aw_iald (pc := 48) hX kc87 hx48 dX0_dropOldest_48 ?_
      obtain ⟨S49, hS49, h⟩ := ob h
      refine aw_iast (pc := 49) hX kc87 hS49 dX0_dropOldest_49 ?_
      refine aw_iinc (v := (v1 + 1)) (ls' := [(1, .int (v1 + 1)), (0, .ref 84)]) (pc := 50) hX dX0_dropOldest_50 (pos := 1) rfl (by first | rfl | decide) (by decide) rfl ?_
      refine aw_goto (tgt := 2) (pc := 53) hX dX0_dropOldest_53 (by decide) ?_
      refine aw_sub (ls' := [(0, .ref 84), (1, .int (v1 + 1))]) [1, 0] rfl ?_
      exact ih (v1 + 1) S49 h

set_option maxHeartbeats 4000000 in
set_option maxRecDepth 100000 in
theorem c_X0_dropOldest {S : Mem} {Sf : Mem} (h : f_X0_dropOldest S = some Sf) : MetV yX0_dropOldest cX0_dropOldest 2 none 0 [.ref 84] SKC S Sf := by
  refine MetV.intro (by decide +kernel) (Nat.le_of_ble_eq_true rfl) (fun X loc hX hQ => ?_)
  unfold f_X0_dropOldest at h
  show AW X SKC loc 0 0 0 [(0, .ref 84)] [] S
  refine aw_iconst (v := (1 : Int32)) (pc := 0) hX dX0_dropOldest_0 (by decide) ?_
  refine aw_istore_n (ls' := [(1, .int (1 : Int32)), (0, .ref 84)]) (pc := 1) hX dX0_dropOldest_1 rfl (by decide) rfl ?_
  refine aw_sub (ls' := [(0, .ref 84), (1, .int (1 : Int32))]) [1, 0] rfl ?_
  exact c_X0_dropOldest_2 hX hQ FU (1 : Int32) S h

def f_X0_add_13 (v1 : Int32) (v2 : Int32) (v3 : Int32) (S : Mem) : Option Mem :=
  (wr S 85 20 (S.1 84 0) v1).bind fun S22 =>
  (wr S22 86 20 (S22.1 84 0) v2).bind fun S32 =>
  (wr S32 87 20 (S32.1 84 0) v3).bind fun S42 =>
  nxt (sI S42 84 0 ((S42.1 84 0) + (1 : Int32))) fun S50 =>
  some S50

def f_X0_add (v1 : Int32) (v2 : Int32) (v3 : Int32) (S : Mem) : Option Mem :=
  if (S.1 84 0) < (20 : Int32) then
  (f_X0_add_13 v1 v2 v3 S)
  else
  ((f_X0_dropOldest S).bind fun S10 =>
  f_X0_add_13 v1 v2 v3 S10)

set_option maxHeartbeats 4000000 in
set_option maxRecDepth 100000 in
theorem c_X0_add_13 {X : XT} {loc : Nat → Nat} {Sf : Mem} (hX : AC X loc RX0 cX0_add none 4 1 0 0) (hQ : RetV X SKC loc 0 0 Sf) (v1 : Int32) (v2 : Int32) (v3 : Int32) (S : Mem) (h : f_X0_add_13 v1 v2 v3 S = some Sf) : AW X SKC loc 0 0 13 [(0, .ref 84), (1, .int v1), (2, .int v2), (3, .int v3)] [] S := by
  unfold f_X0_add_13 at h
  refine aw_aload_n (pc := 13) hX dX0_add_13 rfl 0 rfl ?_
  refine gf_X0_15 (pc := 14) hX kc84 rfl dX0_add_14 ?_
  refine aw_aload_n (pc := 17) hX dX0_add_17 rfl 0 rfl ?_
  refine gf_X0_9 (pc := 18) hX kc84 rfl dX0_add_18 ?_
  refine aw_iload_n (pc := 21) hX dX0_add_21 rfl 1 rfl ?_
  obtain ⟨S22, hS22, h⟩ := ob h
  refine aw_iast (pc := 22) hX kc85 hS22 dX0_add_22 ?_
  refine aw_aload_n (pc := 23) hX dX0_add_23 rfl 0 rfl ?_
  refine gf_X0_19 (pc := 24) hX kc84 rfl dX0_add_24 ?_
  refine aw_aload_n (pc := 27) hX dX0_add_27 rfl 0 rfl ?_
  refine gf_X0_9 (pc := 28) hX kc84 rfl dX0_add_28 ?_
  refine aw_iload_n (pc := 31) hX dX0_add_31 rfl 2 rfl ?_
  obtain ⟨S32, hS32, h⟩ := ob h
  refine aw_iast (pc := 32) hX kc86 hS32 dX0_add_32 ?_
  refine aw_aload_n (pc := 33) hX dX0_add_33 rfl 0 rfl ?_
  refine gf_X0_22 (pc := 34) hX kc84 rfl dX0_add_34 ?_
  refine aw_aload_n (pc := 37) hX dX0_add_37 rfl 0 rfl ?_
  refine gf_X0_9 (pc := 38) hX kc84 rfl dX0_add_38 ?_
  refine aw_iload_n (pc := 41) hX dX0_add_41 rfl 3 rfl ?_
  obtain ⟨S42, hS42, h⟩ := ob h
  refine aw_iast (pc := 42) hX kc87 hS42 dX0_add_42 ?_
  refine aw_aload_n (pc := 43) hX dX0_add_43 rfl 0 rfl ?_
  refine aw_dup (pc := 44) hX dX0_add_44 rfl ?_
  refine gf_X0_9 (pc := 45) hX kc84 rfl dX0_add_45 ?_
  refine aw_iconst (v := (1 : Int32)) (pc := 48) hX dX0_add_48 (by decide) ?_
  refine aw_iadd (pc := 49) hX dX0_add_49 ?_
  refine pf_X0_9 (pc := 50) hX kc84 rfl dX0_add_50 ?_
  obtain ⟨S50, eS50, h⟩ := on h
  refine aw_S eS50 ?_
  cases h
  exact aw_vret hX hQ dX0_add_53

set_option maxHeartbeats 4000000 in
set_option maxRecDepth 100000 in
theorem c_X0_add {v1 : Int32} {v2 : Int32} {v3 : Int32} {S : Mem} {Sf : Mem} (h : f_X0_add v1 v2 v3 S = some Sf) : MetV yX0_add cX0_add 4 none 1 [.ref 84, .int v1, .int v2, .int v3] SKC S Sf := by
  refine MetV.intro (by decide +kernel) (Nat.le_of_ble_eq_true rfl) (fun X loc hX hQ => ?_)
  unfold f_X0_add at h
  show AW X SKC loc 0 0 0 [(0, .ref 84), (1, .int v1), (2, .int v2), (3, .int v3)] [] S
  refine aw_aload_n (pc := 0) hX dX0_add_0 rfl 0 rfl ?_
  refine gf_X0_9 (pc := 1) hX kc84 rfl dX0_add_1 ?_
  refine aw_bipush (v := (20 : Int32)) (pc := 4) hX dX0_add_4 (by decide) ?_
  refine aw_icmp_lt (pc := 6) hX (tgt := 13) dX0_add_6 (by decide) (fun c6 => ?_) (fun c6 => ?_)
  · rw [if_pos c6] at h
    exact c_X0_add_13 hX hQ v1 v2 v3 S h
  · rw [if_neg c6] at h
    refine aw_aload_n (pc := 9) hX dX0_add_9 rfl 0 rfl ?_
    obtain ⟨S10, hr10, h⟩ := ob h
    refine aw_cVV (pc := 10) (As := []) (rest := []) hX (c_X0_dropOldest hr10) ok_X0_dropOldest kw_4_24 im_X0_dropOldest se_X0_dropOldest rfl kc84 rfl (by decide) (Nat.le_of_ble_eq_true rfl) rfl dX0_add_10 (Nat.le_refl 0) (Nat.le_refl 0) ?_
    exact c_X0_add_13 hX hQ v1 v2 v3 S10 h

def f_X0_undoIn (w1 : Nat) (S : Mem) : Option Mem :=
  if 0 < (S.1 84 0) then
  (nxt (sI S 84 0 ((S.1 84 0) - (1 : Int32))) fun S15 =>
  (rd S15 86 20 (S15.1 84 0)).bind fun x26 =>
  (rd S15 87 20 (S15.1 84 0)).bind fun x36 =>
  (rd S15 85 20 (S15.1 84 0)).bind fun x46 =>
  if x46 = 0 then
  ((wr S15 (w1 + 2) 10 x26 x36).bind fun S82 =>
  some S82)
  else
  (if x46 = 1 then
  ((f_X8_hold w1 x26 S15).bind fun S88 =>
  (f_X8_hold w1 x36 S88).bind fun S93 =>
  some S93)
  else
  (if x46 = 2 then
  ((wr S15 (w1 + 1) 10 x26 x36).bind fun S105 =>
  some S105)
  else
  (if x46 = 3 then
  ((wr S15 (w1 + 5) 2 x26 x36).bind fun S115 =>
  some S115)
  else
  (some S15)))))
  else
  (some S)

set_option maxHeartbeats 4000000 in
set_option maxRecDepth 100000 in
theorem c_X0_undoIn {w1 : Nat} {S : Mem} {Sf : Mem} (hw1 : IsW SKC w1) (h : f_X0_undoIn w1 S = some Sf) : MetV yX0_undoIn cX0_undoIn 4 none 1 [.ref 84, .ref w1] SKC S Sf := by
  refine MetV.intro (by decide +kernel) (Nat.le_of_ble_eq_true rfl) (fun X loc hX hQ => ?_)
  unfold f_X0_undoIn at h
  show AW X SKC loc 0 0 0 [(0, .ref 84), (1, .ref w1)] [] S
  refine aw_aload_n (pc := 0) hX dX0_undoIn_0 rfl 0 rfl ?_
  refine gf_X0_9 (pc := 1) hX kc84 rfl dX0_undoIn_1 ?_
  refine aw_if_gt (pc := 4) hX (tgt := 8) dX0_undoIn_4 (by decide) (fun c4 => ?_) (fun c4 => ?_)
  · rw [if_pos c4] at h
    refine aw_aload_n (pc := 8) hX dX0_undoIn_8 rfl 0 rfl ?_
    refine aw_dup (pc := 9) hX dX0_undoIn_9 rfl ?_
    refine gf_X0_9 (pc := 10) hX kc84 rfl dX0_undoIn_10 ?_
    refine aw_iconst (v := (1 : Int32)) (pc := 13) hX dX0_undoIn_13 (by decide) ?_
    refine aw_isub (pc := 14) hX dX0_undoIn_14 ?_
    refine pf_X0_9 (pc := 15) hX kc84 rfl dX0_undoIn_15 ?_
    obtain ⟨S15, eS15, h⟩ := on h
    refine aw_S eS15 ?_
    refine aw_aload_n (pc := 18) hX dX0_undoIn_18 rfl 0 rfl ?_
    refine gf_X0_19 (pc := 19) hX kc84 rfl dX0_undoIn_19 ?_
    refine aw_aload_n (pc := 22) hX dX0_undoIn_22 rfl 0 rfl ?_
    refine gf_X0_9 (pc := 23) hX kc84 rfl dX0_undoIn_23 ?_
    obtain ⟨x26, hx26, h⟩ := ob h
    refine aw_iald (pc := 26) hX kc86 hx26 dX0_undoIn_26 ?_
    refine aw_istore_n (ls' := [(2, .int x26), (0, .ref 84), (1, .ref w1)]) (pc := 27) hX dX0_undoIn_27 rfl (by decide) rfl ?_
    refine aw_aload_n (pc := 28) hX dX0_undoIn_28 rfl 1 rfl ?_
    refine gf_X0_22 (pc := 29) hX kc84 rfl dX0_undoIn_29 ?_
    refine aw_aload_n (pc := 32) hX dX0_undoIn_32 rfl 1 rfl ?_
    refine gf_X0_9 (pc := 33) hX kc84 rfl dX0_undoIn_33 ?_
    obtain ⟨x36, hx36, h⟩ := ob h
    refine aw_iald (pc := 36) hX kc87 hx36 dX0_undoIn_36 ?_
    refine aw_istore_n (ls' := [(3, .int x36), (2, .int x26), (0, .ref 84), (1, .ref w1)]) (pc := 37) hX dX0_undoIn_37 rfl (by decide) rfl ?_
    refine aw_aload_n (pc := 38) hX dX0_undoIn_38 rfl 2 rfl ?_
    refine gf_X0_15 (pc := 39) hX kc84 rfl dX0_undoIn_39 ?_
    refine aw_aload_n (pc := 42) hX dX0_undoIn_42 rfl 2 rfl ?_
    refine gf_X0_9 (pc := 43) hX kc84 rfl dX0_undoIn_43 ?_
    obtain ⟨x46, hx46, h⟩ := ob h
    refine aw_iald (pc := 46) hX kc85 hx46 dX0_undoIn_46 ?_
    by_cases c47_0 : x46 = 0
    · rw [if_pos c47_0] at h
      refine aw_tin (pc := 47) hX (v := 0) (off := 29) (tgt := 76) dX0_undoIn_47 c47_0 (by decide) (by decide) (by decide) (by decide) ?_
      refine aw_aload_n (pc := 76) hX dX0_undoIn_76 rfl 3 rfl ?_
      refine gf_X0_28 (pc := 77) hX hw1.1 rfl dX0_undoIn_77 ?_
      refine aw_iload_n (pc := 80) hX dX0_undoIn_80 rfl 1 rfl ?_
      refine aw_iload_n (pc := 81) hX dX0_undoIn_81 rfl 0 rfl ?_
      obtain ⟨S82, hS82, h⟩ := ob h
      refine aw_iast (pc := 82) hX hw1.2.2.1 hS82 dX0_undoIn_82 ?_
      refine aw_goto (tgt := 119) (pc := 83) hX dX0_undoIn_83 (by decide) ?_
      cases h
      exact aw_vret hX hQ dX0_undoIn_119
    · rw [if_neg c47_0] at h
      by_cases c47_1 : x46 = 1
      · rw [if_pos c47_1] at h
        refine aw_tin (pc := 47) hX (v := 1) (off := 39) (tgt := 86) dX0_undoIn_47 c47_1 (by decide) (by decide) (by decide) (by decide) ?_
        refine aw_aload_n (pc := 86) hX dX0_undoIn_86 rfl 3 rfl ?_
        refine aw_iload_n (pc := 87) hX dX0_undoIn_87 rfl 1 rfl ?_
        obtain ⟨S88, hr88, h⟩ := ob h
        refine aw_cVV (pc := 88) (As := [.int x26]) (rest := []) hX (c_X8_hold (sk := SKC) hw1 isT31 hr88) ok_X8_hold kw_5_50 im_X8_hold se_X8_hold rfl hw1.1 rfl (by decide) (Nat.le_of_ble_eq_true rfl) rfl dX0_undoIn_88 (Nat.le_refl 0) (Nat.le_refl 0) ?_
        refine aw_aload_n (pc := 91) hX dX0_undoIn_91 rfl 3 rfl ?_
        refine aw_iload_n (pc := 92) hX dX0_undoIn_92 rfl 0 rfl ?_
        obtain ⟨S93, hr93, h⟩ := ob h
        refine aw_cVV (pc := 93) (As := [.int x36]) (rest := []) hX (c_X8_hold (sk := SKC) hw1 isT31 hr93) ok_X8_hold kw_5_50 im_X8_hold se_X8_hold rfl hw1.1 rfl (by decide) (Nat.le_of_ble_eq_true rfl) rfl dX0_undoIn_93 (Nat.le_refl 0) (Nat.le_refl 0) ?_
        refine aw_goto (tgt := 119) (pc := 96) hX dX0_undoIn_96 (by decide) ?_
        cases h
        exact aw_vret hX hQ dX0_undoIn_119
      · rw [if_neg c47_1] at h
        by_cases c47_2 : x46 = 2
        · rw [if_pos c47_2] at h
          refine aw_tin (pc := 47) hX (v := 2) (off := 52) (tgt := 99) dX0_undoIn_47 c47_2 (by decide) (by decide) (by decide) (by decide) ?_
          refine aw_aload_n (pc := 99) hX dX0_undoIn_99 rfl 3 rfl ?_
          refine gf_X0_37 (pc := 100) hX hw1.1 rfl dX0_undoIn_100 ?_
          refine aw_iload_n (pc := 103) hX dX0_undoIn_103 rfl 1 rfl ?_
          refine aw_iload_n (pc := 104) hX dX0_undoIn_104 rfl 0 rfl ?_
          obtain ⟨S105, hS105, h⟩ := ob h
          refine aw_iast (pc := 105) hX hw1.2.1 hS105 dX0_undoIn_105 ?_
          refine aw_goto (tgt := 119) (pc := 106) hX dX0_undoIn_106 (by decide) ?_
          cases h
          exact aw_vret hX hQ dX0_undoIn_119
        · rw [if_neg c47_2] at h
          by_cases c47_3 : x46 = 3
          · rw [if_pos c47_3] at h
            refine aw_tin (pc := 47) hX (v := 3) (off := 62) (tgt := 109) dX0_undoIn_47 c47_3 (by decide) (by decide) (by decide) (by decide) ?_
            refine aw_aload_n (pc := 109) hX dX0_undoIn_109 rfl 3 rfl ?_
            refine gf_X0_40 (pc := 110) hX hw1.1 rfl dX0_undoIn_110 ?_
            refine aw_iload_n (pc := 113) hX dX0_undoIn_113 rfl 1 rfl ?_
            refine aw_iload_n (pc := 114) hX dX0_undoIn_114 rfl 0 rfl ?_
            obtain ⟨S115, hS115, h⟩ := ob h
            refine aw_iast (pc := 115) hX hw1.2.2.2.2.2.1 hS115 dX0_undoIn_115 ?_
            refine aw_goto (tgt := 119) (pc := 116) hX dX0_undoIn_116 (by decide) ?_
            cases h
            exact aw_vret hX hQ dX0_undoIn_119
          · rw [if_neg c47_3] at h
            refine aw_tout (pc := 47) hX (tgt := 119) dX0_undoIn_47 (by have e0 := ne_i c47_0 (by decide : (0 : Int32).toInt = 0); have e1 := ne_i c47_1 (by decide : (1 : Int32).toInt = 1); have e2 := ne_i c47_2 (by decide : (2 : Int32).toInt = 2); have e3 := ne_i c47_3 (by decide : (3 : Int32).toInt = 3); omega) (by decide) ?_
            cases h
            exact aw_vret hX hQ dX0_undoIn_119
  · rw [if_neg c4] at h
    cases h
    exact aw_vret hX hQ dX0_undoIn_7

def f_X2_addSeen (v1 : Int32) (v2 : Int32) (v3 : Int32) (v4 : Int32) (S : Mem) : Option (Int32 × Mem) :=
  if (S.1 77 0) < (24 : Int32) then
  ((wr S 78 24 (S.1 77 0) (-1 : Int32)).bind fun S20 =>
  (wr S20 79 24 (S20.1 77 0) v1).bind fun S30 =>
  (wr S30 80 24 (S30.1 77 0) v2).bind fun S40 =>
  (wr S40 81 24 (S40.1 77 0) v3).bind fun S50 =>
  (wrZ S50 82 24 (S50.1 77 0) v4).bind fun S61 =>
  nxt (sI S61 77 0 ((S61.1 77 0) + (1 : Int32))) fun S69 =>
  some (((S69.1 77 0) - (1 : Int32)), S69))
  else
  (some ((-1 : Int32), S))

set_option maxHeartbeats 4000000 in
set_option maxRecDepth 100000 in
theorem c_X2_addSeen {v1 : Int32} {v2 : Int32} {v3 : Int32} {v4 : Int32} {S : Mem} {r : Int32} {Sf : Mem} (h : f_X2_addSeen v1 v2 v3 v4 S = some (r, Sf)) : MetI yX2_addSeen cX2_addSeen 5 (some .int) 0 [.ref 77, .int v1, .int v2, .int v3, .int v4] SKC S r Sf := by
  refine MetI.intro (by decide +kernel) (Nat.le_of_ble_eq_true rfl) (fun X loc hX hQ => ?_)
  unfold f_X2_addSeen at h
  show AW X SKC loc 0 0 0 [(0, .ref 77), (1, .int v1), (2, .int v2), (3, .int v3), (4, .int v4)] [] S
  refine aw_aload_n (pc := 0) hX dX2_addSeen_0 rfl 0 rfl ?_
  refine gf_X2_9 (pc := 1) hX kc77 rfl dX2_addSeen_1 ?_
  refine aw_bipush (v := (24 : Int32)) (pc := 4) hX dX2_addSeen_4 (by decide) ?_
  refine aw_icmp_lt (pc := 6) hX (tgt := 11) dX2_addSeen_6 (by decide) (fun c6 => ?_) (fun c6 => ?_)
  · rw [if_pos c6] at h
    refine aw_aload_n (pc := 11) hX dX2_addSeen_11 rfl 0 rfl ?_
    refine gf_X2_18 (pc := 12) hX kc77 rfl dX2_addSeen_12 ?_
    refine aw_aload_n (pc := 15) hX dX2_addSeen_15 rfl 0 rfl ?_
    refine gf_X2_9 (pc := 16) hX kc77 rfl dX2_addSeen_16 ?_
    refine aw_iconst (v := (-1 : Int32)) (pc := 19) hX dX2_addSeen_19 (by decide) ?_
    obtain ⟨S20, hS20, h⟩ := ob h
    refine aw_iast (pc := 20) hX kc78 hS20 dX2_addSeen_20 ?_
    refine aw_aload_n (pc := 21) hX dX2_addSeen_21 rfl 0 rfl ?_
    refine gf_X2_22 (pc := 22) hX kc77 rfl dX2_addSeen_22 ?_
    refine aw_aload_n (pc := 25) hX dX2_addSeen_25 rfl 0 rfl ?_
    refine gf_X2_9 (pc := 26) hX kc77 rfl dX2_addSeen_26 ?_
    refine aw_iload_n (pc := 29) hX dX2_addSeen_29 rfl 1 rfl ?_
    obtain ⟨S30, hS30, h⟩ := ob h
    refine aw_iast (pc := 30) hX kc79 hS30 dX2_addSeen_30 ?_
    refine aw_aload_n (pc := 31) hX dX2_addSeen_31 rfl 0 rfl ?_
    refine gf_X2_25 (pc := 32) hX kc77 rfl dX2_addSeen_32 ?_
    refine aw_aload_n (pc := 35) hX dX2_addSeen_35 rfl 0 rfl ?_
    refine gf_X2_9 (pc := 36) hX kc77 rfl dX2_addSeen_36 ?_
    refine aw_iload_n (pc := 39) hX dX2_addSeen_39 rfl 2 rfl ?_
    obtain ⟨S40, hS40, h⟩ := ob h
    refine aw_iast (pc := 40) hX kc80 hS40 dX2_addSeen_40 ?_
    refine aw_aload_n (pc := 41) hX dX2_addSeen_41 rfl 0 rfl ?_
    refine gf_X2_28 (pc := 42) hX kc77 rfl dX2_addSeen_42 ?_
    refine aw_aload_n (pc := 45) hX dX2_addSeen_45 rfl 0 rfl ?_
    refine gf_X2_9 (pc := 46) hX kc77 rfl dX2_addSeen_46 ?_
    refine aw_iload_n (pc := 49) hX dX2_addSeen_49 rfl 3 rfl ?_
    obtain ⟨S50, hS50, h⟩ := ob h
    refine aw_iast (pc := 50) hX kc81 hS50 dX2_addSeen_50 ?_
    refine aw_aload_n (pc := 51) hX dX2_addSeen_51 rfl 0 rfl ?_
    refine gf_X2_31 (pc := 52) hX kc77 rfl dX2_addSeen_52 ?_
    refine aw_aload_n (pc := 55) hX dX2_addSeen_55 rfl 0 rfl ?_
    refine gf_X2_9 (pc := 56) hX kc77 rfl dX2_addSeen_56 ?_
    refine aw_iload (pc := 59) hX dX2_addSeen_59 4 rfl ?_
    obtain ⟨S61, hS61, h⟩ := ob h
    refine aw_zast (pc := 61) hX kc82 hS61 dX2_addSeen_61 ?_
    refine aw_aload_n (pc := 62) hX dX2_addSeen_62 rfl 0 rfl ?_
    refine aw_dup (pc := 63) hX dX2_addSeen_63 rfl ?_
    refine gf_X2_9 (pc := 64) hX kc77 rfl dX2_addSeen_64 ?_
    refine aw_iconst (v := (1 : Int32)) (pc := 67) hX dX2_addSeen_67 (by decide) ?_
    refine aw_iadd (pc := 68) hX dX2_addSeen_68 ?_
    refine pf_X2_9 (pc := 69) hX kc77 rfl dX2_addSeen_69 ?_
    obtain ⟨S69, eS69, h⟩ := on h
    refine aw_S eS69 ?_
    refine aw_aload_n (pc := 72) hX dX2_addSeen_72 rfl 0 rfl ?_
    refine gf_X2_9 (pc := 73) hX kc77 rfl dX2_addSeen_73 ?_
    refine aw_iconst (v := (1 : Int32)) (pc := 76) hX dX2_addSeen_76 (by decide) ?_
    refine aw_isub (pc := 77) hX dX2_addSeen_77 ?_
    cases h
    exact aw_iret hX hQ dX2_addSeen_78
  · rw [if_neg c6] at h
    refine aw_iconst (v := (-1 : Int32)) (pc := 9) hX dX2_addSeen_9 (by decide) ?_
    cases h
    exact aw_iret hX hQ dX2_addSeen_10

def f_X2_addStrike (v1 : Int32) (S : Mem) : Option (Int32 × Mem) :=
  if (S.1 77 0) < (24 : Int32) then
  ((wr S 78 24 (S.1 77 0) v1).bind fun S20 =>
  nxt (sI S20 77 0 ((S20.1 77 0) + (1 : Int32))) fun S28 =>
  some (((S28.1 77 0) - (1 : Int32)), S28))
  else
  (some ((-1 : Int32), S))

set_option maxHeartbeats 4000000 in
set_option maxRecDepth 100000 in
theorem c_X2_addStrike {v1 : Int32} {S : Mem} {r : Int32} {Sf : Mem} (h : f_X2_addStrike v1 S = some (r, Sf)) : MetI yX2_addStrike cX2_addStrike 2 (some .int) 0 [.ref 77, .int v1] SKC S r Sf := by
  refine MetI.intro (by decide +kernel) (Nat.le_of_ble_eq_true rfl) (fun X loc hX hQ => ?_)
  unfold f_X2_addStrike at h
  show AW X SKC loc 0 0 0 [(0, .ref 77), (1, .int v1)] [] S
  refine aw_aload_n (pc := 0) hX dX2_addStrike_0 rfl 0 rfl ?_
  refine gf_X2_9 (pc := 1) hX kc77 rfl dX2_addStrike_1 ?_
  refine aw_bipush (v := (24 : Int32)) (pc := 4) hX dX2_addStrike_4 (by decide) ?_
  refine aw_icmp_lt (pc := 6) hX (tgt := 11) dX2_addStrike_6 (by decide) (fun c6 => ?_) (fun c6 => ?_)
  · rw [if_pos c6] at h
    refine aw_aload_n (pc := 11) hX dX2_addStrike_11 rfl 0 rfl ?_
    refine gf_X2_18 (pc := 12) hX kc77 rfl dX2_addStrike_12 ?_
    refine aw_aload_n (pc := 15) hX dX2_addStrike_15 rfl 0 rfl ?_
    refine gf_X2_9 (pc := 16) hX kc77 rfl dX2_addStrike_16 ?_
    refine aw_iload_n (pc := 19) hX dX2_addStrike_19 rfl 1 rfl ?_
    obtain ⟨S20, hS20, h⟩ := ob h
    refine aw_iast (pc := 20) hX kc78 hS20 dX2_addStrike_20 ?_
    refine aw_aload_n (pc := 21) hX dX2_addStrike_21 rfl 0 rfl ?_
    refine aw_dup (pc := 22) hX dX2_addStrike_22 rfl ?_
    refine gf_X2_9 (pc := 23) hX kc77 rfl dX2_addStrike_23 ?_
    refine aw_iconst (v := (1 : Int32)) (pc := 26) hX dX2_addStrike_26 (by decide) ?_
    refine aw_iadd (pc := 27) hX dX2_addStrike_27 ?_
    refine pf_X2_9 (pc := 28) hX kc77 rfl dX2_addStrike_28 ?_
    obtain ⟨S28, eS28, h⟩ := on h
    refine aw_S eS28 ?_
    refine aw_aload_n (pc := 31) hX dX2_addStrike_31 rfl 0 rfl ?_
    refine gf_X2_9 (pc := 32) hX kc77 rfl dX2_addStrike_32 ?_
    refine aw_iconst (v := (1 : Int32)) (pc := 35) hX dX2_addStrike_35 (by decide) ?_
    refine aw_isub (pc := 36) hX dX2_addStrike_36 ?_
    cases h
    exact aw_iret hX hQ dX2_addStrike_37
  · rw [if_neg c6] at h
    refine aw_iconst (v := (-1 : Int32)) (pc := 9) hX dX2_addStrike_9 (by decide) ?_
    cases h
    exact aw_iret hX hQ dX2_addStrike_10

def f_X2_isSeenAndKnown (v1 : Int32) (S : Mem) : Option (Int32 × Mem) :=
  (rd S 83 24 v1).bind fun x5 =>
  if x5 = 0 then
  ((rd S 78 24 v1).bind fun x14 =>
  if 0 ≤ x14 then
  (some ((0 : Int32), S))
  else
  (some ((1 : Int32), S)))
  else
  (some ((0 : Int32), S))

set_option maxHeartbeats 4000000 in
set_option maxRecDepth 100000 in
theorem c_X2_isSeenAndKnown {v1 : Int32} {S : Mem} {r : Int32} {Sf : Mem} (h : f_X2_isSeenAndKnown v1 S = some (r, Sf)) : MetI yX2_isSeenAndKnown cX2_isSeenAndKnown 2 (some .boolean) 0 [.ref 77, .int v1] SKC S r Sf := by
  refine MetI.intro (by decide +kernel) (Nat.le_of_ble_eq_true rfl) (fun X loc hX hQ => ?_)
  unfold f_X2_isSeenAndKnown at h
  show AW X SKC loc 0 0 0 [(0, .ref 77), (1, .int v1)] [] S
  refine aw_aload_n (pc := 0) hX dX2_isSeenAndKnown_0 rfl 0 rfl ?_
  refine gf_X2_35 (pc := 1) hX kc77 rfl dX2_isSeenAndKnown_1 ?_
  refine aw_iload_n (pc := 4) hX dX2_isSeenAndKnown_4 rfl 1 rfl ?_
  obtain ⟨x5, hx5, h⟩ := ob h
  refine aw_zald (pc := 5) hX kc83 hx5 dX2_isSeenAndKnown_5 ?_
  refine aw_if_ne (pc := 6) hX (tgt := 22) dX2_isSeenAndKnown_6 (by decide) (fun c6 => ?_) (fun c6 => ?_)
  · rw [if_neg c6] at h
    refine aw_iconst (v := (0 : Int32)) (pc := 22) hX dX2_isSeenAndKnown_22 (by decide) ?_
    cases h
    exact aw_zret hX hQ (by decide) dX2_isSeenAndKnown_23
  · rw [if_pos c6] at h
    refine aw_aload_n (pc := 9) hX dX2_isSeenAndKnown_9 rfl 0 rfl ?_
    refine gf_X2_18 (pc := 10) hX kc77 rfl dX2_isSeenAndKnown_10 ?_
    refine aw_iload_n (pc := 13) hX dX2_isSeenAndKnown_13 rfl 1 rfl ?_
    obtain ⟨x14, hx14, h⟩ := ob h
    refine aw_iald (pc := 14) hX kc78 hx14 dX2_isSeenAndKnown_14 ?_
    refine aw_if_ge (pc := 15) hX (tgt := 22) dX2_isSeenAndKnown_15 (by decide) (fun c15 => ?_) (fun c15 => ?_)
    · rw [if_pos c15] at h
      refine aw_iconst (v := (0 : Int32)) (pc := 22) hX dX2_isSeenAndKnown_22 (by decide) ?_
      cases h
      exact aw_zret hX hQ (by decide) dX2_isSeenAndKnown_23
    · rw [if_neg c15] at h
      refine aw_iconst (v := (1 : Int32)) (pc := 18) hX dX2_isSeenAndKnown_18 (by decide) ?_
      refine aw_goto (tgt := 23) (pc := 19) hX dX2_isSeenAndKnown_19 (by decide) ?_
      cases h
      exact aw_zret hX hQ (by decide) dX2_isSeenAndKnown_23

def f_X2_knownSize (S : Mem) : Option (Int32 × Mem) :=
  if (S.1 77 1) = (-1 : Int32) then
  (some ((S.1 77 0), S))
  else
  (some ((S.1 77 1), S))

set_option maxHeartbeats 4000000 in
set_option maxRecDepth 100000 in
theorem c_X2_knownSize {S : Mem} {r : Int32} {Sf : Mem} (h : f_X2_knownSize S = some (r, Sf)) : MetI yX2_knownSize cX2_knownSize 1 (some .int) 0 [.ref 77] SKC S r Sf := by
  refine MetI.intro (by decide +kernel) (Nat.le_of_ble_eq_true rfl) (fun X loc hX hQ => ?_)
  unfold f_X2_knownSize at h
  show AW X SKC loc 0 0 0 [(0, .ref 77)] [] S
  refine aw_aload_n (pc := 0) hX dX2_knownSize_0 rfl 0 rfl ?_
  refine gf_X2_15 (pc := 1) hX kc77 rfl dX2_knownSize_1 ?_
  refine aw_iconst (v := (-1 : Int32)) (pc := 4) hX dX2_knownSize_4 (by decide) ?_
  refine aw_icmp_ne (pc := 5) hX (tgt := 15) dX2_knownSize_5 (by decide) (fun c5 => ?_) (fun c5 => ?_)
  · rw [if_neg c5] at h
    refine aw_aload_n (pc := 15) hX dX2_knownSize_15 rfl 0 rfl ?_
    refine gf_X2_15 (pc := 16) hX kc77 rfl dX2_knownSize_16 ?_
    cases h
    exact aw_iret hX hQ dX2_knownSize_19
  · rw [if_pos c5] at h
    refine aw_aload_n (pc := 8) hX dX2_knownSize_8 rfl 0 rfl ?_
    refine gf_X2_9 (pc := 9) hX kc77 rfl dX2_knownSize_9 ?_
    refine aw_goto (tgt := 19) (pc := 12) hX dX2_knownSize_12 (by decide) ?_
    cases h
    exact aw_iret hX hQ dX2_knownSize_19

def f_X2_areSoBehind_53 (w2 : Nat) (R2 : Int32 → Int32 → Mem → Option (Int32 × Mem)) (v1 : Int32) (v3 : Int32) (t0 : Int32) (S : Mem) : Option (Int32 × Mem) :=
  (rd S 82 24 v3).bind fun x58 =>
  if t0 = x58 then
  (R2 v1 (v3 + 1) S)
  else
  (some ((0 : Int32), S))

def f_X2_areSoBehind_2 (w2 : Nat) : Nat → Int32 → Int32 → Mem → Option (Int32 × Mem)
  | 0, _, _, _ => none
  | n + 1, v1, v3, S =>
  bnd (f_X2_knownSize S) fun r4 S4 =>
  if r4 ≤ v3 then
  (some ((1 : Int32), S4))
  else
  (bnd (f_X2_isSeenAndKnown v3 S4) fun r12 S12 =>
  if r12 = 0 then
  (f_X2_areSoBehind_2 w2 n v1 (v3 + 1) S12)
  else
  ((rd S12 79 24 v3).bind fun x23 =>
  if x23 = v1 then
  ((rd S12 80 24 v3).bind fun x37 =>
  (rd S12 (w2 + 2) 10 x37).bind fun x38 =>
  (rd S12 81 24 v3).bind fun x44 =>
  if x38 < x44 then
  (f_X2_areSoBehind_53 w2 (f_X2_areSoBehind_2 w2 n) v1 v3 (0 : Int32) S12)
  else
  (f_X2_areSoBehind_53 w2 (f_X2_areSoBehind_2 w2 n) v1 v3 (1 : Int32) S12))
  else
  (f_X2_areSoBehind_2 w2 n v1 (v3 + 1) S12)))

def f_X2_areSoBehind (w2 : Nat) (v1 : Int32) (S : Mem) : Option (Int32 × Mem) :=
  f_X2_areSoBehind_2 w2 FU v1 (0 : Int32) S

set_option maxHeartbeats 4000000 in
set_option maxRecDepth 100000 in
theorem c_X2_areSoBehind_53 {X : XT} {loc : Nat → Nat} {w2 : Nat} {r : Int32} {Sf : Mem} (hX : AC X loc RX2 cX2_areSoBehind (some .boolean) 4 1 0 0) (hQ : RetI X SKC loc 0 0 r Sf) (hw2 : IsW SKC w2) {R2 : Int32 → Int32 → Mem → Option (Int32 × Mem)} (IH2 : ∀ (v1 : Int32) (v3 : Int32) (S : Mem), R2 v1 v3 S = some (r, Sf) → AW X SKC loc 0 0 2 [(0, .ref 77), (1, .int v1), (2, .ref w2), (3, .int v3)] [] S) (v1 : Int32) (v3 : Int32) (t0 : Int32) (S : Mem) (h : f_X2_areSoBehind_53 w2 R2 v1 v3 t0 S = some (r, Sf)) : AW X SKC loc 0 0 53 [(0, .ref 77), (1, .int v1), (2, .ref w2), (3, .int v3)] [.int t0] S := by
  unfold f_X2_areSoBehind_53 at h
  refine aw_aload_n (pc := 53) hX dX2_areSoBehind_53 rfl 0 rfl ?_
  refine gf_X2_31 (pc := 54) hX kc77 rfl dX2_areSoBehind_54 ?_
  refine aw_iload_n (pc := 57) hX dX2_areSoBehind_57 rfl 3 rfl ?_
  obtain ⟨x58, hx58, h⟩ := ob h
  refine aw_zald (pc := 58) hX kc82 hx58 dX2_areSoBehind_58 ?_
  refine aw_icmp_eq (pc := 59) hX (tgt := 64) dX2_areSoBehind_59 (by decide) (fun c59 => ?_) (fun c59 => ?_)
  · rw [if_pos c59] at h
    refine aw_iinc (v := (v3 + 1)) (ls' := [(3, .int (v3 + 1)), (0, .ref 77), (1, .int v1), (2, .ref w2)]) (pc := 64) hX dX2_areSoBehind_64 (pos := 3) rfl (by first | rfl | decide) (by decide) rfl ?_
    refine aw_goto (tgt := 2) (pc := 67) hX dX2_areSoBehind_67 (by decide) ?_
    refine aw_sub (ls' := [(0, .ref 77), (1, .int v1), (2, .ref w2), (3, .int (v3 + 1))]) [1, 2, 3, 0] rfl ?_
    exact IH2 v1 (v3 + 1) S h
  · rw [if_neg c59] at h
    refine aw_iconst (v := (0 : Int32)) (pc := 62) hX dX2_areSoBehind_62 (by decide) ?_
    cases h
    exact aw_zret hX hQ (by decide) dX2_areSoBehind_63

set_option maxHeartbeats 4000000 in
set_option maxRecDepth 100000 in
theorem c_X2_areSoBehind_2 {X : XT} {loc : Nat → Nat} {w2 : Nat} {r : Int32} {Sf : Mem} (hX : AC X loc RX2 cX2_areSoBehind (some .boolean) 4 1 0 0) (hQ : RetI X SKC loc 0 0 r Sf) (hw2 : IsW SKC w2) : ∀ (n : Nat) (v1 : Int32) (v3 : Int32) (S : Mem), f_X2_areSoBehind_2 w2 n v1 v3 S = some (r, Sf) → AW X SKC loc 0 0 2 [(0, .ref 77), (1, .int v1), (2, .ref w2), (3, .int v3)] [] S := by
  intro n
  induction n with
  | zero => intro v1 v3 S h; cases h
  | succ n ih =>
    intro v1 v3 S h
    unfold f_X2_areSoBehind_2 at h
    refine aw_iload_n (pc := 2) hX dX2_areSoBehind_2 rfl 3 rfl ?_
    refine aw_aload_n (pc := 3) hX dX2_areSoBehind_3 rfl 0 rfl ?_
    obtain ⟨r4, S4, hr4, h⟩ := ob2 h
    refine aw_cVI (pc := 4) (As := []) (rest := [.int v3]) hX (c_X2_knownSize hr4) ok_X2_knownSize kw_5_4 im_X2_knownSize se_X2_knownSize rfl kc77 rfl (by decide) (Nat.le_of_ble_eq_true rfl) rfl dX2_areSoBehind_4 (Nat.le_refl 0) (Nat.le_refl 0) ?_
    refine aw_icmp_ge (pc := 7) hX (tgt := 70) dX2_areSoBehind_7 (by decide) (fun c7 => ?_) (fun c7 => ?_)
    · rw [if_pos c7] at h
      refine aw_iconst (v := (1 : Int32)) (pc := 70) hX dX2_areSoBehind_70 (by decide) ?_
      cases h
      exact aw_zret hX hQ (by decide) dX2_areSoBehind_71
    · rw [if_neg c7] at h
      refine aw_aload_n (pc := 10) hX dX2_areSoBehind_10 rfl 0 rfl ?_
      refine aw_iload_n (pc := 11) hX dX2_areSoBehind_11 rfl 3 rfl ?_
      obtain ⟨r12, S12, hr12, h⟩ := ob2 h
      refine aw_cVI (pc := 12) (As := [.int v3]) (rest := []) hX (c_X2_isSeenAndKnown hr12) ok_X2_isSeenAndKnown kw_5_16 im_X2_isSeenAndKnown se_X2_isSeenAndKnown rfl kc77 rfl (by decide) (Nat.le_of_ble_eq_true rfl) rfl dX2_areSoBehind_12 (Nat.le_refl 0) (Nat.le_refl 0) ?_
      refine aw_if_eq (pc := 15) hX (tgt := 64) dX2_areSoBehind_15 (by decide) (fun c15 => ?_) (fun c15 => ?_)
      · rw [if_pos c15] at h
        refine aw_iinc (v := (v3 + 1)) (ls' := [(3, .int (v3 + 1)), (0, .ref 77), (1, .int v1), (2, .ref w2)]) (pc := 64) hX dX2_areSoBehind_64 (pos := 3) rfl (by first | rfl | decide) (by decide) rfl ?_
        refine aw_goto (tgt := 2) (pc := 67) hX dX2_areSoBehind_67 (by decide) ?_
        refine aw_sub (ls' := [(0, .ref 77), (1, .int v1), (2, .ref w2), (3, .int (v3 + 1))]) [1, 2, 3, 0] rfl ?_
        exact ih v1 (v3 + 1) S12 h
      · rw [if_neg c15] at h
        refine aw_aload_n (pc := 18) hX dX2_areSoBehind_18 rfl 0 rfl ?_
        refine gf_X2_22 (pc := 19) hX kc77 rfl dX2_areSoBehind_19 ?_
        refine aw_iload_n (pc := 22) hX dX2_areSoBehind_22 rfl 3 rfl ?_
        obtain ⟨x23, hx23, h⟩ := ob h
        refine aw_iald (pc := 23) hX kc79 hx23 dX2_areSoBehind_23 ?_
        refine aw_iload_n (pc := 24) hX dX2_areSoBehind_24 rfl 1 rfl ?_
        refine aw_icmp_ne (pc := 25) hX (tgt := 64) dX2_areSoBehind_25 (by decide) (fun c25 => ?_) (fun c25 => ?_)
        · rw [if_neg c25] at h
          refine aw_iinc (v := (v3 + 1)) (ls' := [(3, .int (v3 + 1)), (0, .ref 77), (1, .int v1), (2, .ref w2)]) (pc := 64) hX dX2_areSoBehind_64 (pos := 3) rfl (by first | rfl | decide) (by decide) rfl ?_
          refine aw_goto (tgt := 2) (pc := 67) hX dX2_areSoBehind_67 (by decide) ?_
          refine aw_sub (ls' := [(0, .ref 77), (1, .int v1), (2, .ref w2), (3, .int (v3 + 1))]) [1, 2, 3, 0] rfl ?_
          exact ih v1 (v3 + 1) S12 h
        · rw [if_pos c25] at h
          refine aw_aload_n (pc := 28) hX dX2_areSoBehind_28 rfl 2 rfl ?_
          refine gf_X2_65 (pc := 29) hX hw2.1 rfl dX2_areSoBehind_29 ?_
          refine aw_aload_n (pc := 32) hX dX2_areSoBehind_32 rfl 0 rfl ?_
          refine gf_X2_25 (pc := 33) hX kc77 rfl dX2_areSoBehind_33 ?_
          refine aw_iload_n (pc := 36) hX dX2_areSoBehind_36 rfl 3 rfl ?_
          obtain ⟨x37, hx37, h⟩ := ob h
          refine aw_iald (pc := 37) hX kc80 hx37 dX2_areSoBehind_37 ?_
          obtain ⟨x38, hx38, h⟩ := ob h
          refine aw_iald (pc := 38) hX hw2.2.2.1 hx38 dX2_areSoBehind_38 ?_
          refine aw_aload_n (pc := 39) hX dX2_areSoBehind_39 rfl 0 rfl ?_
          refine gf_X2_28 (pc := 40) hX kc77 rfl dX2_areSoBehind_40 ?_
          refine aw_iload_n (pc := 43) hX dX2_areSoBehind_43 rfl 3 rfl ?_
          obtain ⟨x44, hx44, h⟩ := ob h
          refine aw_iald (pc := 44) hX kc81 hx44 dX2_areSoBehind_44 ?_
          refine aw_icmp_lt (pc := 45) hX (tgt := 52) dX2_areSoBehind_45 (by decide) (fun c45 => ?_) (fun c45 => ?_)
          · rw [if_pos c45] at h
            refine aw_iconst (v := (0 : Int32)) (pc := 52) hX dX2_areSoBehind_52 (by decide) ?_
            exact c_X2_areSoBehind_53 hX hQ hw2 ih v1 v3 (0 : Int32) S12 h
          · rw [if_neg c45] at h
            refine aw_iconst (v := (1 : Int32)) (pc := 48) hX dX2_areSoBehind_48 (by decide) ?_
            refine aw_goto (tgt := 53) (pc := 49) hX dX2_areSoBehind_49 (by decide) ?_
            exact c_X2_areSoBehind_53 hX hQ hw2 ih v1 v3 (1 : Int32) S12 h

set_option maxHeartbeats 4000000 in
set_option maxRecDepth 100000 in
theorem c_X2_areSoBehind {w2 : Nat} {v1 : Int32} {S : Mem} {r : Int32} {Sf : Mem} (hw2 : IsW SKC w2) (h : f_X2_areSoBehind w2 v1 S = some (r, Sf)) : MetI yX2_areSoBehind cX2_areSoBehind 4 (some .boolean) 1 [.ref 77, .int v1, .ref w2] SKC S r Sf := by
  refine MetI.intro (by decide +kernel) (Nat.le_of_ble_eq_true rfl) (fun X loc hX hQ => ?_)
  unfold f_X2_areSoBehind at h
  show AW X SKC loc 0 0 0 [(0, .ref 77), (1, .int v1), (2, .ref w2)] [] S
  refine aw_iconst (v := (0 : Int32)) (pc := 0) hX dX2_areSoBehind_0 (by decide) ?_
  refine aw_istore_n (ls' := [(3, .int (0 : Int32)), (0, .ref 77), (1, .int v1), (2, .ref w2)]) (pc := 1) hX dX2_areSoBehind_1 rfl (by decide) rfl ?_
  refine aw_sub (ls' := [(0, .ref 77), (1, .int v1), (2, .ref w2), (3, .int (0 : Int32))]) [1, 2, 3, 0] rfl ?_
  exact c_X2_areSoBehind_2 hX hQ hw2 FU v1 (0 : Int32) S h

def f_X2_lastWeekKnown_4 : Nat → Int32 → Int32 → Mem → Option (Int32 × Mem)
  | 0, _, _, _ => none
  | n + 1, v1, v2, S =>
  bnd (f_X2_knownSize S) fun r6 S6 =>
  if r6 ≤ v2 then
  (some (v1, S6))
  else
  (bnd (f_X2_isSeenAndKnown v2 S6) fun r14 S14 =>
  if r14 = 0 then
  (f_X2_lastWeekKnown_4 n v1 (v2 + 1) S14)
  else
  ((rd S14 79 24 v2).bind fun x26 =>
  bnd (f_J9_max_7cf53 v1 x26 S14) fun r27 S27 =>
  f_X2_lastWeekKnown_4 n r27 (v2 + 1) S27))

def f_X2_lastWeekKnown (S : Mem) : Option (Int32 × Mem) :=
  f_X2_lastWeekKnown_4 FU (0 : Int32) (0 : Int32) S

set_option maxHeartbeats 4000000 in
set_option maxRecDepth 100000 in
theorem c_X2_lastWeekKnown_4 {X : XT} {loc : Nat → Nat} {r : Int32} {Sf : Mem} (hX : AC X loc RX2 cX2_lastWeekKnown (some .int) 3 1 0 0) (hQ : RetI X SKC loc 0 0 r Sf) : ∀ (n : Nat) (v1 : Int32) (v2 : Int32) (S : Mem), f_X2_lastWeekKnown_4 n v1 v2 S = some (r, Sf) → AW X SKC loc 0 0 4 [(0, .ref 77), (1, .int v1), (2, .int v2)] [] S := by
  intro n
  induction n with
  | zero => intro v1 v2 S h; cases h
  | succ n ih =>
    intro v1 v2 S h
    unfold f_X2_lastWeekKnown_4 at h
    refine aw_iload_n (pc := 4) hX dX2_lastWeekKnown_4 rfl 2 rfl ?_
    refine aw_aload_n (pc := 5) hX dX2_lastWeekKnown_5 rfl 0 rfl ?_
    obtain ⟨r6, S6, hr6, h⟩ := ob2 h
    refine aw_cVI (pc := 6) (As := []) (rest := [.int v2]) hX (c_X2_knownSize hr6) ok_X2_knownSize kw_5_4 im_X2_knownSize se_X2_knownSize rfl kc77 rfl (by decide) (Nat.le_of_ble_eq_true rfl) rfl dX2_lastWeekKnown_6 (Nat.le_refl 0) (Nat.le_refl 0) ?_
    refine aw_icmp_ge (pc := 9) hX (tgt := 37) dX2_lastWeekKnown_9 (by decide) (fun c9 => ?_) (fun c9 => ?_)
    · rw [if_pos c9] at h
      refine aw_iload_n (pc := 37) hX dX2_lastWeekKnown_37 rfl 1 rfl ?_
      cases h
      exact aw_iret hX hQ dX2_lastWeekKnown_38
    · rw [if_neg c9] at h
      refine aw_aload_n (pc := 12) hX dX2_lastWeekKnown_12 rfl 0 rfl ?_
      refine aw_iload_n (pc := 13) hX dX2_lastWeekKnown_13 rfl 2 rfl ?_
      obtain ⟨r14, S14, hr14, h⟩ := ob2 h
      refine aw_cVI (pc := 14) (As := [.int v2]) (rest := []) hX (c_X2_isSeenAndKnown hr14) ok_X2_isSeenAndKnown kw_5_16 im_X2_isSeenAndKnown se_X2_isSeenAndKnown rfl kc77 rfl (by decide) (Nat.le_of_ble_eq_true rfl) rfl dX2_lastWeekKnown_14 (Nat.le_refl 0) (Nat.le_refl 0) ?_
      refine aw_if_eq (pc := 17) hX (tgt := 31) dX2_lastWeekKnown_17 (by decide) (fun c17 => ?_) (fun c17 => ?_)
      · rw [if_pos c17] at h
        refine aw_iinc (v := (v2 + 1)) (ls' := [(2, .int (v2 + 1)), (0, .ref 77), (1, .int v1)]) (pc := 31) hX dX2_lastWeekKnown_31 (pos := 2) rfl (by first | rfl | decide) (by decide) rfl ?_
        refine aw_goto (tgt := 4) (pc := 34) hX dX2_lastWeekKnown_34 (by decide) ?_
        refine aw_sub (ls' := [(0, .ref 77), (1, .int v1), (2, .int (v2 + 1))]) [1, 2, 0] rfl ?_
        exact ih v1 (v2 + 1) S14 h
      · rw [if_neg c17] at h
        refine aw_iload_n (pc := 20) hX dX2_lastWeekKnown_20 rfl 1 rfl ?_
        refine aw_aload_n (pc := 21) hX dX2_lastWeekKnown_21 rfl 0 rfl ?_
        refine gf_X2_22 (pc := 22) hX kc77 rfl dX2_lastWeekKnown_22 ?_
        refine aw_iload_n (pc := 25) hX dX2_lastWeekKnown_25 rfl 2 rfl ?_
        obtain ⟨x26, hx26, h⟩ := ob h
        refine aw_iald (pc := 26) hX kc79 hx26 dX2_lastWeekKnown_26 ?_
        obtain ⟨r27, S27, hr27, h⟩ := ob2 h
        refine aw_cSI (pc := 27) (As := [.int v1, .int x26]) (rest := []) hX (c_J9_max_7cf53 (sk := SKC) hr27) ok_J9_max_7cf53 kw_5_20 st_J9_max_7cf53 rfl (by decide) (Nat.le_of_ble_eq_true rfl) rfl dX2_lastWeekKnown_27 (Nat.le_refl 0) (Nat.le_refl 0) ?_
        refine aw_istore_n (ls' := [(1, .int r27), (0, .ref 77), (2, .int v2)]) (pc := 30) hX dX2_lastWeekKnown_30 rfl (by decide) rfl ?_
        refine aw_iinc (v := (v2 + 1)) (ls' := [(2, .int (v2 + 1)), (1, .int r27), (0, .ref 77)]) (pc := 31) hX dX2_lastWeekKnown_31 (pos := 2) rfl (by first | rfl | decide) (by decide) rfl ?_
        refine aw_goto (tgt := 4) (pc := 34) hX dX2_lastWeekKnown_34 (by decide) ?_
        refine aw_sub (ls' := [(0, .ref 77), (1, .int r27), (2, .int (v2 + 1))]) [2, 1, 0] rfl ?_
        exact ih r27 (v2 + 1) S27 h

set_option maxHeartbeats 4000000 in
set_option maxRecDepth 100000 in
theorem c_X2_lastWeekKnown {S : Mem} {r : Int32} {Sf : Mem} (h : f_X2_lastWeekKnown S = some (r, Sf)) : MetI yX2_lastWeekKnown cX2_lastWeekKnown 3 (some .int) 1 [.ref 77] SKC S r Sf := by
  refine MetI.intro (by decide +kernel) (Nat.le_of_ble_eq_true rfl) (fun X loc hX hQ => ?_)
  unfold f_X2_lastWeekKnown at h
  show AW X SKC loc 0 0 0 [(0, .ref 77)] [] S
  refine aw_iconst (v := (0 : Int32)) (pc := 0) hX dX2_lastWeekKnown_0 (by decide) ?_
  refine aw_istore_n (ls' := [(1, .int (0 : Int32)), (0, .ref 77)]) (pc := 1) hX dX2_lastWeekKnown_1 rfl (by decide) rfl ?_
  refine aw_iconst (v := (0 : Int32)) (pc := 2) hX dX2_lastWeekKnown_2 (by decide) ?_
  refine aw_istore_n (ls' := [(2, .int (0 : Int32)), (1, .int (0 : Int32)), (0, .ref 77)]) (pc := 3) hX dX2_lastWeekKnown_3 rfl (by decide) rfl ?_
  refine aw_sub (ls' := [(0, .ref 77), (1, .int (0 : Int32)), (2, .int (0 : Int32))]) [2, 1, 0] rfl ?_
  exact c_X2_lastWeekKnown_4 hX hQ FU (0 : Int32) (0 : Int32) S h

def f_X2_areSoIn_7 (w1 : Nat) : Nat → Int32 → Int32 → Mem → Option (Int32 × Mem)
  | 0, _, _, _ => none
  | n + 1, v2, v3, S =>
  if v2 < v3 then
  (some ((1 : Int32), S))
  else
  ((f_X8_run w1 (1 : Int32) (0 : Int32) S).bind fun S15 =>
  bnd (f_X2_areSoBehind w1 v3 S15) fun r21 S21 =>
  if r21 = 0 then
  (some ((0 : Int32), S21))
  else
  (f_X2_areSoIn_7 w1 n v2 (v3 + 1) S21))

def f_X2_areSoIn (w1 : Nat) (S : Mem) : Option (Int32 × Mem) :=
  bnd (f_X2_lastWeekKnown S) fun r1 S1 =>
  f_X2_areSoIn_7 w1 FU r1 (1 : Int32) S1

set_option maxHeartbeats 4000000 in
set_option maxRecDepth 100000 in
theorem c_X2_areSoIn_7 {X : XT} {loc : Nat → Nat} {w1 : Nat} {r : Int32} {Sf : Mem} (hX : AC X loc RX2 cX2_areSoIn (some .boolean) 4 6 0 0) (hQ : RetI X SKC loc 0 0 r Sf) (hw1 : IsW SKC w1) : ∀ (n : Nat) (v2 : Int32) (v3 : Int32) (S : Mem), f_X2_areSoIn_7 w1 n v2 v3 S = some (r, Sf) → AW X SKC loc 0 0 7 [(0, .ref 77), (1, .ref w1), (2, .int v2), (3, .int v3)] [] S := by
  intro n
  induction n with
  | zero => intro v2 v3 S h; cases h
  | succ n ih =>
    intro v2 v3 S h
    unfold f_X2_areSoIn_7 at h
    refine aw_iload_n (pc := 7) hX dX2_areSoIn_7 rfl 3 rfl ?_
    refine aw_iload_n (pc := 8) hX dX2_areSoIn_8 rfl 2 rfl ?_
    refine aw_icmp_gt (pc := 9) hX (tgt := 35) dX2_areSoIn_9 (by decide) (fun c9 => ?_) (fun c9 => ?_)
    · rw [if_pos c9] at h
      refine aw_iconst (v := (1 : Int32)) (pc := 35) hX dX2_areSoIn_35 (by decide) ?_
      cases h
      exact aw_zret hX hQ (by decide) dX2_areSoIn_36
    · rw [if_neg c9] at h
      refine aw_aload_n (pc := 12) hX dX2_areSoIn_12 rfl 1 rfl ?_
      refine aw_iconst (v := (1 : Int32)) (pc := 13) hX dX2_areSoIn_13 (by decide) ?_
      refine aw_iconst (v := (0 : Int32)) (pc := 14) hX dX2_areSoIn_14 (by decide) ?_
      obtain ⟨S15, hr15, h⟩ := ob h
      refine aw_cVV (pc := 15) (As := [.int (1 : Int32), .int (0 : Int32)]) (rest := []) hX (c_X8_run (sk := SKC) hw1 isT31 hr15) ok_X8_run kw_5_21 im_X8_run se_X8_run rfl hw1.1 rfl (by decide) (Nat.le_of_ble_eq_true rfl) rfl dX2_areSoIn_15 (Nat.le_refl 0) (Nat.le_refl 0) ?_
      refine aw_aload_n (pc := 18) hX dX2_areSoIn_18 rfl 0 rfl ?_
      refine aw_iload_n (pc := 19) hX dX2_areSoIn_19 rfl 3 rfl ?_
      refine aw_aload_n (pc := 20) hX dX2_areSoIn_20 rfl 1 rfl ?_
      obtain ⟨r21, S21, hr21, h⟩ := ob2 h
      refine aw_cVI (pc := 21) (As := [.int v3, .ref w1]) (rest := []) hX (c_X2_areSoBehind hw1 hr21) ok_X2_areSoBehind kw_5_22 im_X2_areSoBehind se_X2_areSoBehind rfl kc77 rfl (by decide) (Nat.le_of_ble_eq_true rfl) rfl dX2_areSoIn_21 (Nat.le_refl 0) (Nat.le_refl 0) ?_
      refine aw_if_ne (pc := 24) hX (tgt := 29) dX2_areSoIn_24 (by decide) (fun c24 => ?_) (fun c24 => ?_)
      · rw [if_neg c24] at h
        refine aw_iinc (v := (v3 + 1)) (ls' := [(3, .int (v3 + 1)), (0, .ref 77), (1, .ref w1), (2, .int v2)]) (pc := 29) hX dX2_areSoIn_29 (pos := 3) rfl (by first | rfl | decide) (by decide) rfl ?_
        refine aw_goto (tgt := 7) (pc := 32) hX dX2_areSoIn_32 (by decide) ?_
        refine aw_sub (ls' := [(0, .ref 77), (1, .ref w1), (2, .int v2), (3, .int (v3 + 1))]) [1, 2, 3, 0] rfl ?_
        exact ih v2 (v3 + 1) S21 h
      · rw [if_pos c24] at h
        refine aw_iconst (v := (0 : Int32)) (pc := 27) hX dX2_areSoIn_27 (by decide) ?_
        cases h
        exact aw_zret hX hQ (by decide) dX2_areSoIn_28

set_option maxHeartbeats 4000000 in
set_option maxRecDepth 100000 in
theorem c_X2_areSoIn {w1 : Nat} {S : Mem} {r : Int32} {Sf : Mem} (hw1 : IsW SKC w1) (h : f_X2_areSoIn w1 S = some (r, Sf)) : MetI yX2_areSoIn cX2_areSoIn 4 (some .boolean) 6 [.ref 77, .ref w1] SKC S r Sf := by
  refine MetI.intro (by decide +kernel) (Nat.le_of_ble_eq_true rfl) (fun X loc hX hQ => ?_)
  unfold f_X2_areSoIn at h
  show AW X SKC loc 0 0 0 [(0, .ref 77), (1, .ref w1)] [] S
  refine aw_aload_n (pc := 0) hX dX2_areSoIn_0 rfl 0 rfl ?_
  obtain ⟨r1, S1, hr1, h⟩ := ob2 h
  refine aw_cVI (pc := 1) (As := []) (rest := []) hX (c_X2_lastWeekKnown hr1) ok_X2_lastWeekKnown kw_5_12 im_X2_lastWeekKnown se_X2_lastWeekKnown rfl kc77 rfl (by decide) (Nat.le_of_ble_eq_true rfl) rfl dX2_areSoIn_1 (Nat.le_refl 0) (Nat.le_refl 0) ?_
  refine aw_istore_n (ls' := [(2, .int r1), (0, .ref 77), (1, .ref w1)]) (pc := 4) hX dX2_areSoIn_4 rfl (by decide) rfl ?_
  refine aw_iconst (v := (1 : Int32)) (pc := 5) hX dX2_areSoIn_5 (by decide) ?_
  refine aw_istore_n (ls' := [(3, .int (1 : Int32)), (2, .int r1), (0, .ref 77), (1, .ref w1)]) (pc := 6) hX dX2_areSoIn_6 rfl (by decide) rfl ?_
  refine aw_sub (ls' := [(0, .ref 77), (1, .ref w1), (2, .int r1), (3, .int (1 : Int32))]) [2, 3, 1, 0] rfl ?_
  exact c_X2_areSoIn_7 hX hQ hw1 FU r1 (1 : Int32) S1 h

def f_X2_clear (S : Mem) : Option Mem :=
  nxt (sI S 77 0 (0 : Int32)) fun S2 =>
  nxt (sI S2 77 1 (-1 : Int32)) fun S7 =>
  some S7

set_option maxHeartbeats 4000000 in
set_option maxRecDepth 100000 in
theorem c_X2_clear {S : Mem} {Sf : Mem} (h : f_X2_clear S = some Sf) : MetV yX2_clear cX2_clear 1 none 0 [.ref 77] SKC S Sf := by
  refine MetV.intro (by decide +kernel) (Nat.le_of_ble_eq_true rfl) (fun X loc hX hQ => ?_)
  unfold f_X2_clear at h
  show AW X SKC loc 0 0 0 [(0, .ref 77)] [] S
  refine aw_aload_n (pc := 0) hX dX2_clear_0 rfl 0 rfl ?_
  refine aw_iconst (v := (0 : Int32)) (pc := 1) hX dX2_clear_1 (by decide) ?_
  refine pf_X2_9 (pc := 2) hX kc77 rfl dX2_clear_2 ?_
  obtain ⟨S2, eS2, h⟩ := on h
  refine aw_S eS2 ?_
  refine aw_aload_n (pc := 5) hX dX2_clear_5 rfl 0 rfl ?_
  refine aw_iconst (v := (-1 : Int32)) (pc := 6) hX dX2_clear_6 (by decide) ?_
  refine pf_X2_15 (pc := 7) hX kc77 rfl dX2_clear_7 ?_
  obtain ⟨S7, eS7, h⟩ := on h
  refine aw_S eS7 ?_
  cases h
  exact aw_vret hX hQ dX2_clear_10

def f_X2_strike_28 : Nat → Int32 → Mem → Option Mem
  | 0, _, _ => none
  | n + 1, v1, S =>
  if v1 < 0 then
  (some S)
  else
  ((rd S 83 24 v1).bind fun x37 =>
  if x37 = 0 then
  ((rd S 78 24 v1).bind fun x46 =>
  if x46 < 0 then
  (f_X2_strike_28 n (v1 + (-1)) S)
  else
  ((rd S 78 24 v1).bind fun x59 =>
  (wrZ S 83 24 x59 (1 : Int32)).bind fun S61 =>
  f_X2_strike_28 n (v1 + (-1)) S61))
  else
  (f_X2_strike_28 n (v1 + (-1)) S))

def f_X2_strike_2 : Nat → Int32 → Mem → Option Mem
  | 0, _, _ => none
  | n + 1, v1, S =>
  if (24 : Int32) ≤ v1 then
  (bnd (f_X2_knownSize S) fun r22 S22 =>
  f_X2_strike_28 FU (r22 - (1 : Int32)) S22)
  else
  ((wrZ S 83 24 v1 (0 : Int32)).bind fun S14 =>
  f_X2_strike_2 n (v1 + 1) S14)

def f_X2_strike (S : Mem) : Option Mem :=
  f_X2_strike_2 FU (0 : Int32) S

set_option maxHeartbeats 4000000 in
set_option maxRecDepth 100000 in
theorem c_X2_strike_28 {X : XT} {loc : Nat → Nat} {Sf : Mem} (hX : AC X loc RX2 cX2_strike none 2 1 0 0) (hQ : RetV X SKC loc 0 0 Sf) : ∀ (n : Nat) (v1 : Int32) (S : Mem), f_X2_strike_28 n v1 S = some Sf → AW X SKC loc 0 0 28 [(0, .ref 77), (1, .int v1)] [] S := by
  intro n
  induction n with
  | zero => intro v1 S h; cases h
  | succ n ih =>
    intro v1 S h
    unfold f_X2_strike_28 at h
    refine aw_iload_n (pc := 28) hX dX2_strike_28 rfl 1 rfl ?_
    refine aw_if_lt (pc := 29) hX (tgt := 68) dX2_strike_29 (by decide) (fun c29 => ?_) (fun c29 => ?_)
    · rw [if_pos c29] at h
      cases h
      exact aw_vret hX hQ dX2_strike_68
    · rw [if_neg c29] at h
      refine aw_aload_n (pc := 32) hX dX2_strike_32 rfl 0 rfl ?_
      refine gf_X2_35 (pc := 33) hX kc77 rfl dX2_strike_33 ?_
      refine aw_iload_n (pc := 36) hX dX2_strike_36 rfl 1 rfl ?_
      obtain ⟨x37, hx37, h⟩ := ob h
      refine aw_zald (pc := 37) hX kc83 hx37 dX2_strike_37 ?_
      refine aw_if_ne (pc := 38) hX (tgt := 62) dX2_strike_38 (by decide) (fun c38 => ?_) (fun c38 => ?_)
      · rw [if_neg c38] at h
        refine aw_iinc (v := (v1 + (-1))) (ls' := [(1, .int (v1 + (-1))), (0, .ref 77)]) (pc := 62) hX dX2_strike_62 (pos := 1) rfl (by first | rfl | decide) (by decide) rfl ?_
        refine aw_goto (tgt := 28) (pc := 65) hX dX2_strike_65 (by decide) ?_
        refine aw_sub (ls' := [(0, .ref 77), (1, .int (v1 + (-1)))]) [1, 0] rfl ?_
        exact ih (v1 + (-1)) S h
      · rw [if_pos c38] at h
        refine aw_aload_n (pc := 41) hX dX2_strike_41 rfl 0 rfl ?_
        refine gf_X2_18 (pc := 42) hX kc77 rfl dX2_strike_42 ?_
        refine aw_iload_n (pc := 45) hX dX2_strike_45 rfl 1 rfl ?_
        obtain ⟨x46, hx46, h⟩ := ob h
        refine aw_iald (pc := 46) hX kc78 hx46 dX2_strike_46 ?_
        refine aw_if_lt (pc := 47) hX (tgt := 62) dX2_strike_47 (by decide) (fun c47 => ?_) (fun c47 => ?_)
        · rw [if_pos c47] at h
          refine aw_iinc (v := (v1 + (-1))) (ls' := [(1, .int (v1 + (-1))), (0, .ref 77)]) (pc := 62) hX dX2_strike_62 (pos := 1) rfl (by first | rfl | decide) (by decide) rfl ?_
          refine aw_goto (tgt := 28) (pc := 65) hX dX2_strike_65 (by decide) ?_
          refine aw_sub (ls' := [(0, .ref 77), (1, .int (v1 + (-1)))]) [1, 0] rfl ?_
          exact ih (v1 + (-1)) S h
        · rw [if_neg c47] at h
          refine aw_aload_n (pc := 50) hX dX2_strike_50 rfl 0 rfl ?_
          refine gf_X2_35 (pc := 51) hX kc77 rfl dX2_strike_51 ?_
          refine aw_aload_n (pc := 54) hX dX2_strike_54 rfl 0 rfl ?_
          refine gf_X2_18 (pc := 55) hX kc77 rfl dX2_strike_55 ?_
          refine aw_iload_n (pc := 58) hX dX2_strike_58 rfl 1 rfl ?_
          obtain ⟨x59, hx59, h⟩ := ob h
          refine aw_iald (pc := 59) hX kc78 hx59 dX2_strike_59 ?_
          refine aw_iconst (v := (1 : Int32)) (pc := 60) hX dX2_strike_60 (by decide) ?_
          obtain ⟨S61, hS61, h⟩ := ob h
          refine aw_zast (pc := 61) hX kc83 hS61 dX2_strike_61 ?_
          refine aw_iinc (v := (v1 + (-1))) (ls' := [(1, .int (v1 + (-1))), (0, .ref 77)]) (pc := 62) hX dX2_strike_62 (pos := 1) rfl (by first | rfl | decide) (by decide) rfl ?_
          refine aw_goto (tgt := 28) (pc := 65) hX dX2_strike_65 (by decide) ?_
          refine aw_sub (ls' := [(0, .ref 77), (1, .int (v1 + (-1)))]) [1, 0] rfl ?_
          exact ih (v1 + (-1)) S61 h

set_option maxHeartbeats 4000000 in
set_option maxRecDepth 100000 in
theorem c_X2_strike_2 {X : XT} {loc : Nat → Nat} {Sf : Mem} (hX : AC X loc RX2 cX2_strike none 2 1 0 0) (hQ : RetV X SKC loc 0 0 Sf) : ∀ (n : Nat) (v1 : Int32) (S : Mem), f_X2_strike_2 n v1 S = some Sf → AW X SKC loc 0 0 2 [(0, .ref 77), (1, .int v1)] [] S := by
  intro n
  induction n with
  | zero => intro v1 S h; cases h
  | succ n ih =>
    intro v1 S h
    unfold f_X2_strike_2 at h
    refine aw_iload_n (pc := 2) hX dX2_strike_2 rfl 1 rfl ?_
    refine aw_bipush (v := (24 : Int32)) (pc := 3) hX dX2_strike_3 (by decide) ?_
    refine aw_icmp_ge (pc := 5) hX (tgt := 21) dX2_strike_5 (by decide) (fun c5 => ?_) (fun c5 => ?_)
    · rw [if_pos c5] at h
      refine aw_aload_n (pc := 21) hX dX2_strike_21 rfl 0 rfl ?_
      obtain ⟨r22, S22, hr22, h⟩ := ob2 h
      refine aw_cVI (pc := 22) (As := []) (rest := []) hX (c_X2_knownSize hr22) ok_X2_knownSize kw_5_4 im_X2_knownSize se_X2_knownSize rfl kc77 rfl (by decide) (Nat.le_of_ble_eq_true rfl) rfl dX2_strike_22 (Nat.le_refl 0) (Nat.le_refl 0) ?_
      refine aw_iconst (v := (1 : Int32)) (pc := 25) hX dX2_strike_25 (by decide) ?_
      refine aw_isub (pc := 26) hX dX2_strike_26 ?_
      refine aw_istore_n (ls' := [(1, .int (r22 - (1 : Int32))), (0, .ref 77)]) (pc := 27) hX dX2_strike_27 rfl (by decide) rfl ?_
      refine aw_sub (ls' := [(0, .ref 77), (1, .int (r22 - (1 : Int32)))]) [1, 0] rfl ?_
      exact c_X2_strike_28 hX hQ FU (r22 - (1 : Int32)) S22 h
    · rw [if_neg c5] at h
      refine aw_aload_n (pc := 8) hX dX2_strike_8 rfl 0 rfl ?_
      refine gf_X2_35 (pc := 9) hX kc77 rfl dX2_strike_9 ?_
      refine aw_iload_n (pc := 12) hX dX2_strike_12 rfl 1 rfl ?_
      refine aw_iconst (v := (0 : Int32)) (pc := 13) hX dX2_strike_13 (by decide) ?_
      obtain ⟨S14, hS14, h⟩ := ob h
      refine aw_zast (pc := 14) hX kc83 hS14 dX2_strike_14 ?_
      refine aw_iinc (v := (v1 + 1)) (ls' := [(1, .int (v1 + 1)), (0, .ref 77)]) (pc := 15) hX dX2_strike_15 (pos := 1) rfl (by first | rfl | decide) (by decide) rfl ?_
      refine aw_goto (tgt := 2) (pc := 18) hX dX2_strike_18 (by decide) ?_
      refine aw_sub (ls' := [(0, .ref 77), (1, .int (v1 + 1))]) [1, 0] rfl ?_
      exact ih (v1 + 1) S14 h

set_option maxHeartbeats 4000000 in
set_option maxRecDepth 100000 in
theorem c_X2_strike {S : Mem} {Sf : Mem} (h : f_X2_strike S = some Sf) : MetV yX2_strike cX2_strike 2 none 1 [.ref 77] SKC S Sf := by
  refine MetV.intro (by decide +kernel) (Nat.le_of_ble_eq_true rfl) (fun X loc hX hQ => ?_)
  unfold f_X2_strike at h
  show AW X SKC loc 0 0 0 [(0, .ref 77)] [] S
  refine aw_iconst (v := (0 : Int32)) (pc := 0) hX dX2_strike_0 (by decide) ?_
  refine aw_istore_n (ls' := [(1, .int (0 : Int32)), (0, .ref 77)]) (pc := 1) hX dX2_strike_1 rfl (by decide) rfl ?_
  refine aw_sub (ls' := [(0, .ref 77), (1, .int (0 : Int32))]) [1, 0] rfl ?_
  exact c_X2_strike_2 hX hQ FU (0 : Int32) S h

def f_X3_choose_2 (w1 : Nat) : Nat → Int32 → Mem → Option Mem
  | 0, _, _ => none
  | n + 1, v2, S =>
  if (S.1 88 0) ≤ v2 then
  (some S)
  else
  ((rd S 90 4 v2).bind fun x24 =>
  (rd S (w1 + 1) 10 x24).bind fun x25 =>
  (wr S 89 4 v2 x25).bind fun S26 =>
  f_X3_choose_2 w1 n (v2 + 1) S26)

def f_X3_choose (w1 : Nat) (S : Mem) : Option Mem :=
  f_X3_choose_2 w1 FU (0 : Int32) S

set_option maxHeartbeats 4000000 in
set_option maxRecDepth 100000 in
theorem c_X3_choose_2 {X : XT} {loc : Nat → Nat} {w1 : Nat} {Sf : Mem} (hX : AC X loc RX3 cX3_choose none 3 0 0 0) (hQ : RetV X SKC loc 0 0 Sf) (hw1 : IsW SKC w1) : ∀ (n : Nat) (v2 : Int32) (S : Mem), f_X3_choose_2 w1 n v2 S = some Sf → AW X SKC loc 0 0 2 [(0, .ref 88), (1, .ref w1), (2, .int v2)] [] S := by
  intro n
  induction n with
  | zero => intro v2 S h; cases h
  | succ n ih =>
    intro v2 S h
    unfold f_X3_choose_2 at h
    refine aw_iload_n (pc := 2) hX dX3_choose_2 rfl 2 rfl ?_
    refine aw_aload_n (pc := 3) hX dX3_choose_3 rfl 0 rfl ?_
    refine gf_X3_9 (pc := 4) hX kc88 rfl dX3_choose_4 ?_
    refine aw_icmp_ge (pc := 7) hX (tgt := 33) dX3_choose_7 (by decide) (fun c7 => ?_) (fun c7 => ?_)
    · rw [if_pos c7] at h
      cases h
      exact aw_vret hX hQ dX3_choose_33
    · rw [if_neg c7] at h
      refine aw_aload_n (pc := 10) hX dX3_choose_10 rfl 0 rfl ?_
      refine gf_X3_18 (pc := 11) hX kc88 rfl dX3_choose_11 ?_
      refine aw_iload_n (pc := 14) hX dX3_choose_14 rfl 2 rfl ?_
      refine aw_aload_n (pc := 15) hX dX3_choose_15 rfl 1 rfl ?_
      refine gf_X3_82 (pc := 16) hX hw1.1 rfl dX3_choose_16 ?_
      refine aw_aload_n (pc := 19) hX dX3_choose_19 rfl 0 rfl ?_
      refine gf_X3_31 (pc := 20) hX kc88 rfl dX3_choose_20 ?_
      refine aw_iload_n (pc := 23) hX dX3_choose_23 rfl 2 rfl ?_
      obtain ⟨x24, hx24, h⟩ := ob h
      refine aw_iald (pc := 24) hX kc90 hx24 dX3_choose_24 ?_
      obtain ⟨x25, hx25, h⟩ := ob h
      refine aw_iald (pc := 25) hX hw1.2.1 hx25 dX3_choose_25 ?_
      obtain ⟨S26, hS26, h⟩ := ob h
      refine aw_iast (pc := 26) hX kc89 hS26 dX3_choose_26 ?_
      refine aw_iinc (v := (v2 + 1)) (ls' := [(2, .int (v2 + 1)), (0, .ref 88), (1, .ref w1)]) (pc := 27) hX dX3_choose_27 (pos := 2) rfl (by first | rfl | decide) (by decide) rfl ?_
      refine aw_goto (tgt := 2) (pc := 30) hX dX3_choose_30 (by decide) ?_
      refine aw_sub (ls' := [(0, .ref 88), (1, .ref w1), (2, .int (v2 + 1))]) [1, 2, 0] rfl ?_
      exact ih (v2 + 1) S26 h

set_option maxHeartbeats 4000000 in
set_option maxRecDepth 100000 in
theorem c_X3_choose {w1 : Nat} {S : Mem} {Sf : Mem} (hw1 : IsW SKC w1) (h : f_X3_choose w1 S = some Sf) : MetV yX3_choose cX3_choose 3 none 0 [.ref 88, .ref w1] SKC S Sf := by
  refine MetV.intro (by decide +kernel) (Nat.le_of_ble_eq_true rfl) (fun X loc hX hQ => ?_)
  unfold f_X3_choose at h
  show AW X SKC loc 0 0 0 [(0, .ref 88), (1, .ref w1)] [] S
  refine aw_iconst (v := (0 : Int32)) (pc := 0) hX dX3_choose_0 (by decide) ?_
  refine aw_istore_n (ls' := [(2, .int (0 : Int32)), (0, .ref 88), (1, .ref w1)]) (pc := 1) hX dX3_choose_1 rfl (by decide) rfl ?_
  refine aw_sub (ls' := [(0, .ref 88), (1, .ref w1), (2, .int (0 : Int32))]) [1, 2, 0] rfl ?_
  exact c_X3_choose_2 hX hQ hw1 FU (0 : Int32) S h

def f_X3_findDolls_14 (w1 : Nat) : Nat → Int32 → Int32 → Mem → Option Mem
  | 0, _, _, _ => none
  | n + 1, v3, v4, S =>
  if (10 : Int32) ≤ v4 then
  (some S)
  else
  (if (4 : Int32) ≤ (S.1 88 0) then
  (some S)
  else
  (if ((v3 >>> (v4 &&& 31)) &&& (1 : Int32)) = (1 : Int32) then
  ((wr S 90 4 (S.1 88 0) v4).bind fun S49 =>
  nxt (sI S49 88 0 ((S49.1 88 0) + (1 : Int32))) fun S57 =>
  f_X3_findDolls_14 w1 n v3 (v4 + 1) S57)
  else
  (f_X3_findDolls_14 w1 n v3 (v4 + 1) S)))

def f_X3_findDolls (w1 : Nat) (v2 : Int32) (S : Mem) : Option Mem :=
  bnd (f_X8_holds w1 v2 S) fun r2 S2 =>
  nxt (sI S2 88 0 (0 : Int32)) fun S8 =>
  f_X3_findDolls_14 w1 FU r2 (0 : Int32) S8

set_option maxHeartbeats 4000000 in
set_option maxRecDepth 100000 in
theorem c_X3_findDolls_14 {X : XT} {loc : Nat → Nat} {w1 : Nat} {Sf : Mem} (hX : AC X loc RX3 cX3_findDolls none 5 1 0 0) (hQ : RetV X SKC loc 0 0 Sf) (hw1 : IsW SKC w1) : ∀ (n : Nat) (v3 : Int32) (v4 : Int32) (S : Mem), f_X3_findDolls_14 w1 n v3 v4 S = some Sf → AW X SKC loc 0 0 14 [(0, .ref 88), (3, .int v3), (4, .int v4)] [] S := by
  intro n
  induction n with
  | zero => intro v3 v4 S h; cases h
  | succ n ih =>
    intro v3 v4 S h
    unfold f_X3_findDolls_14 at h
    refine aw_iload (pc := 14) hX dX3_findDolls_14 2 rfl ?_
    refine aw_bipush (v := (10 : Int32)) (pc := 16) hX dX3_findDolls_16 (by decide) ?_
    refine aw_icmp_ge (pc := 18) hX (tgt := 66) dX3_findDolls_18 (by decide) (fun c18 => ?_) (fun c18 => ?_)
    · rw [if_pos c18] at h
      cases h
      exact aw_vret hX hQ dX3_findDolls_66
    · rw [if_neg c18] at h
      refine aw_aload_n (pc := 21) hX dX3_findDolls_21 rfl 0 rfl ?_
      refine gf_X3_9 (pc := 22) hX kc88 rfl dX3_findDolls_22 ?_
      refine aw_iconst (v := (4 : Int32)) (pc := 25) hX dX3_findDolls_25 (by decide) ?_
      refine aw_icmp_ge (pc := 26) hX (tgt := 66) dX3_findDolls_26 (by decide) (fun c26 => ?_) (fun c26 => ?_)
      · rw [if_pos c26] at h
        cases h
        exact aw_vret hX hQ dX3_findDolls_66
      · rw [if_neg c26] at h
        refine aw_iload_n (pc := 29) hX dX3_findDolls_29 rfl 1 rfl ?_
        refine aw_iload (pc := 30) hX dX3_findDolls_30 2 rfl ?_
        refine aw_ishr (pc := 32) hX dX3_findDolls_32 ?_
        refine aw_iconst (v := (1 : Int32)) (pc := 33) hX dX3_findDolls_33 (by decide) ?_
        refine aw_iand (pc := 34) hX dX3_findDolls_34 ?_
        refine aw_iconst (v := (1 : Int32)) (pc := 35) hX dX3_findDolls_35 (by decide) ?_
        refine aw_icmp_ne (pc := 36) hX (tgt := 60) dX3_findDolls_36 (by decide) (fun c36 => ?_) (fun c36 => ?_)
        · rw [if_neg c36] at h
          refine aw_iinc (v := (v4 + 1)) (ls' := [(4, .int (v4 + 1)), (0, .ref 88), (3, .int v3)]) (pc := 60) hX dX3_findDolls_60 (pos := 2) rfl (by first | rfl | decide) (by decide) rfl ?_
          refine aw_goto (tgt := 14) (pc := 63) hX dX3_findDolls_63 (by decide) ?_
          refine aw_sub (ls' := [(0, .ref 88), (3, .int v3), (4, .int (v4 + 1))]) [1, 2, 0] rfl ?_
          exact ih v3 (v4 + 1) S h
        · rw [if_pos c36] at h
          refine aw_aload_n (pc := 39) hX dX3_findDolls_39 rfl 0 rfl ?_
          refine gf_X3_31 (pc := 40) hX kc88 rfl dX3_findDolls_40 ?_
          refine aw_aload_n (pc := 43) hX dX3_findDolls_43 rfl 0 rfl ?_
          refine gf_X3_9 (pc := 44) hX kc88 rfl dX3_findDolls_44 ?_
          refine aw_iload (pc := 47) hX dX3_findDolls_47 2 rfl ?_
          obtain ⟨S49, hS49, h⟩ := ob h
          refine aw_iast (pc := 49) hX kc90 hS49 dX3_findDolls_49 ?_
          refine aw_aload_n (pc := 50) hX dX3_findDolls_50 rfl 0 rfl ?_
          refine aw_dup (pc := 51) hX dX3_findDolls_51 rfl ?_
          refine gf_X3_9 (pc := 52) hX kc88 rfl dX3_findDolls_52 ?_
          refine aw_iconst (v := (1 : Int32)) (pc := 55) hX dX3_findDolls_55 (by decide) ?_
          refine aw_iadd (pc := 56) hX dX3_findDolls_56 ?_
          refine pf_X3_9 (pc := 57) hX kc88 rfl dX3_findDolls_57 ?_
          obtain ⟨S57, eS57, h⟩ := on h
          refine aw_S eS57 ?_
          refine aw_iinc (v := (v4 + 1)) (ls' := [(4, .int (v4 + 1)), (0, .ref 88), (3, .int v3)]) (pc := 60) hX dX3_findDolls_60 (pos := 2) rfl (by first | rfl | decide) (by decide) rfl ?_
          refine aw_goto (tgt := 14) (pc := 63) hX dX3_findDolls_63 (by decide) ?_
          refine aw_sub (ls' := [(0, .ref 88), (3, .int v3), (4, .int (v4 + 1))]) [1, 2, 0] rfl ?_
          exact ih v3 (v4 + 1) S57 h

set_option maxHeartbeats 4000000 in
set_option maxRecDepth 100000 in
theorem c_X3_findDolls {w1 : Nat} {v2 : Int32} {S : Mem} {Sf : Mem} (hw1 : IsW SKC w1) (h : f_X3_findDolls w1 v2 S = some Sf) : MetV yX3_findDolls cX3_findDolls 5 none 1 [.ref 88, .ref w1, .int v2] SKC S Sf := by
  refine MetV.intro (by decide +kernel) (Nat.le_of_ble_eq_true rfl) (fun X loc hX hQ => ?_)
  unfold f_X3_findDolls at h
  show AW X SKC loc 0 0 0 [(0, .ref 88), (1, .ref w1), (2, .int v2)] [] S
  refine aw_aload_n (pc := 0) hX dX3_findDolls_0 rfl 1 rfl ?_
  refine aw_iload_n (pc := 1) hX dX3_findDolls_1 rfl 2 rfl ?_
  obtain ⟨r2, S2, hr2, h⟩ := ob2 h
  refine aw_cVI (pc := 2) (As := [.int v2]) (rest := []) hX (c_X8_holds (sk := SKC) hw1 isT31 hr2) ok_X8_holds kw_4_151 im_X8_holds se_X8_holds rfl hw1.1 rfl (by decide) (Nat.le_of_ble_eq_true rfl) rfl dX3_findDolls_2 (Nat.le_refl 0) (Nat.le_refl 0) ?_
  refine aw_istore_n (ls' := [(3, .int r2), (0, .ref 88), (1, .ref w1), (2, .int v2)]) (pc := 5) hX dX3_findDolls_5 rfl (by decide) rfl ?_
  refine aw_aload_n (pc := 6) hX dX3_findDolls_6 rfl 1 rfl ?_
  refine aw_iconst (v := (0 : Int32)) (pc := 7) hX dX3_findDolls_7 (by decide) ?_
  refine pf_X3_9 (pc := 8) hX kc88 rfl dX3_findDolls_8 ?_
  obtain ⟨S8, eS8, h⟩ := on h
  refine aw_S eS8 ?_
  refine aw_iconst (v := (0 : Int32)) (pc := 11) hX dX3_findDolls_11 (by decide) ?_
  refine aw_istore (ls' := [(4, .int (0 : Int32)), (3, .int r2), (0, .ref 88), (1, .ref w1), (2, .int v2)]) (pc := 12) hX dX3_findDolls_12 (by decide) rfl ?_
  refine aw_sub (ls' := [(0, .ref 88), (3, .int r2), (4, .int (0 : Int32))]) [2, 1, 0] rfl ?_
  exact c_X3_findDolls_14 hX hQ hw1 FU r2 (0 : Int32) S8 h

def f_X3_findNurses_10 (w1 : Nat) : Nat → Int32 → Int32 → Int32 → Mem → Option Mem
  | 0, _, _, _, _ => none
  | n + 1, v2, v3, v4, S =>
  if (S.1 31 0) ≤ v4 then
  (some S)
  else
  ((rd S (w1 + 4) 6 v4).bind fun x28 =>
  (rd S 33 6 v4).bind fun x40 =>
  if x40 = v2 then
  (if ((v3 >>> (x28 &&& 31)) &&& (1 : Int32)) = 0 then
  ((wr S 91 6 (S.1 88 5) v4).bind fun S71 =>
  nxt (sI S71 88 5 ((S71.1 88 5) + (1 : Int32))) fun S79 =>
  f_X3_findNurses_10 w1 n v2 (v3 ||| ((1 : Int32) <<< (x28 &&& 31))) (v4 + 1) S79)
  else
  (f_X3_findNurses_10 w1 n v2 v3 (v4 + 1) S))
  else
  (f_X3_findNurses_10 w1 n v2 v3 (v4 + 1) S))

def f_X3_findNurses (w1 : Nat) (v2 : Int32) (S : Mem) : Option Mem :=
  nxt (sI S 88 5 (0 : Int32)) fun S4 =>
  f_X3_findNurses_10 w1 FU v2 (0 : Int32) (0 : Int32) S4

set_option maxHeartbeats 4000000 in
set_option maxRecDepth 100000 in
theorem c_X3_findNurses_10 {X : XT} {loc : Nat → Nat} {w1 : Nat} {Sf : Mem} (hX : AC X loc RX3 cX3_findNurses none 6 0 0 0) (hQ : RetV X SKC loc 0 0 Sf) (hw1 : IsW SKC w1) : ∀ (n : Nat) (v2 : Int32) (v3 : Int32) (v4 : Int32) (S : Mem), f_X3_findNurses_10 w1 n v2 v3 v4 S = some Sf → AW X SKC loc 0 0 10 [(0, .ref 88), (1, .ref w1), (2, .int v2), (3, .int v3), (4, .int v4)] [] S := by
  intro n
  induction n with
  | zero => intro v2 v3 v4 S h; cases h
  | succ n ih =>
    intro v2 v3 v4 S h
    unfold f_X3_findNurses_10 at h
    refine aw_iload (pc := 10) hX dX3_findNurses_10 4 rfl ?_
    refine aw_aload_n (pc := 12) hX dX3_findNurses_12 rfl 1 rfl ?_
    refine gf_X3_69 (pc := 13) hX hw1.1 rfl dX3_findNurses_13 ?_
    refine gf_X3_73 (pc := 16) hX isT31.1 rfl dX3_findNurses_16 ?_
    refine aw_icmp_ge (pc := 19) hX (tgt := 88) dX3_findNurses_19 (by decide) (fun c19 => ?_) (fun c19 => ?_)
    · rw [if_pos c19] at h
      cases h
      exact aw_vret hX hQ dX3_findNurses_88
    · rw [if_neg c19] at h
      refine aw_aload_n (pc := 22) hX dX3_findNurses_22 rfl 1 rfl ?_
      refine gf_X3_76 (pc := 23) hX hw1.1 rfl dX3_findNurses_23 ?_
      refine aw_iload (pc := 26) hX dX3_findNurses_26 4 rfl ?_
      obtain ⟨x28, hx28, h⟩ := ob h
      refine aw_iald (pc := 28) hX hw1.2.2.2.2.1 hx28 dX3_findNurses_28 ?_
      refine aw_istore (ls' := [(5, .int x28), (0, .ref 88), (1, .ref w1), (2, .int v2), (3, .int v3), (4, .int v4)]) (pc := 29) hX dX3_findNurses_29 (by decide) rfl ?_
      refine aw_aload_n (pc := 31) hX dX3_findNurses_31 rfl 2 rfl ?_
      refine gf_X3_69 (pc := 32) hX hw1.1 rfl dX3_findNurses_32 ?_
      refine gf_X3_79 (pc := 35) hX isT31.1 rfl dX3_findNurses_35 ?_
      refine aw_iload (pc := 38) hX dX3_findNurses_38 5 rfl ?_
      obtain ⟨x40, hx40, h⟩ := ob h
      refine aw_iald (pc := 40) hX kc33 hx40 dX3_findNurses_40 ?_
      refine aw_iload_n (pc := 41) hX dX3_findNurses_41 rfl 3 rfl ?_
      refine aw_icmp_ne (pc := 42) hX (tgt := 82) dX3_findNurses_42 (by decide) (fun c42 => ?_) (fun c42 => ?_)
      · rw [if_neg c42] at h
        refine aw_iinc (v := (v4 + 1)) (ls' := [(4, .int (v4 + 1)), (5, .int x28), (0, .ref 88), (1, .ref w1), (2, .int v2), (3, .int v3)]) (pc := 82) hX dX3_findNurses_82 (pos := 5) rfl (by first | rfl | decide) (by decide) rfl ?_
        refine aw_goto (tgt := 10) (pc := 85) hX dX3_findNurses_85 (by decide) ?_
        refine aw_sub (ls' := [(0, .ref 88), (1, .ref w1), (2, .int v2), (3, .int v3), (4, .int (v4 + 1))]) [2, 3, 4, 5, 0] rfl ?_
        exact ih v2 v3 (v4 + 1) S h
      · rw [if_pos c42] at h
        refine aw_iload_n (pc := 45) hX dX3_findNurses_45 rfl 4 rfl ?_
        refine aw_iload (pc := 46) hX dX3_findNurses_46 0 rfl ?_
        refine aw_ishr (pc := 48) hX dX3_findNurses_48 ?_
        refine aw_iconst (v := (1 : Int32)) (pc := 49) hX dX3_findNurses_49 (by decide) ?_
        refine aw_iand (pc := 50) hX dX3_findNurses_50 ?_
        refine aw_if_ne (pc := 51) hX (tgt := 82) dX3_findNurses_51 (by decide) (fun c51 => ?_) (fun c51 => ?_)
        · rw [if_neg c51] at h
          refine aw_iinc (v := (v4 + 1)) (ls' := [(4, .int (v4 + 1)), (5, .int x28), (0, .ref 88), (1, .ref w1), (2, .int v2), (3, .int v3)]) (pc := 82) hX dX3_findNurses_82 (pos := 5) rfl (by first | rfl | decide) (by decide) rfl ?_
          refine aw_goto (tgt := 10) (pc := 85) hX dX3_findNurses_85 (by decide) ?_
          refine aw_sub (ls' := [(0, .ref 88), (1, .ref w1), (2, .int v2), (3, .int v3), (4, .int (v4 + 1))]) [2, 3, 4, 5, 0] rfl ?_
          exact ih v2 v3 (v4 + 1) S h
        · rw [if_pos c51] at h
          refine aw_iload_n (pc := 54) hX dX3_findNurses_54 rfl 4 rfl ?_
          refine aw_iconst (v := (1 : Int32)) (pc := 55) hX dX3_findNurses_55 (by decide) ?_
          refine aw_iload (pc := 56) hX dX3_findNurses_56 0 rfl ?_
          refine aw_ishl (pc := 58) hX dX3_findNurses_58 ?_
          refine aw_ior (pc := 59) hX dX3_findNurses_59 ?_
          refine aw_istore_n (ls' := [(3, .int (v3 ||| ((1 : Int32) <<< (x28 &&& 31)))), (5, .int x28), (0, .ref 88), (1, .ref w1), (2, .int v2), (4, .int v4)]) (pc := 60) hX dX3_findNurses_60 rfl (by decide) rfl ?_
          refine aw_aload_n (pc := 61) hX dX3_findNurses_61 rfl 2 rfl ?_
          refine gf_X3_34 (pc := 62) hX kc88 rfl dX3_findNurses_62 ?_
          refine aw_aload_n (pc := 65) hX dX3_findNurses_65 rfl 2 rfl ?_
          refine gf_X3_28 (pc := 66) hX kc88 rfl dX3_findNurses_66 ?_
          refine aw_iload (pc := 69) hX dX3_findNurses_69 5 rfl ?_
          obtain ⟨S71, hS71, h⟩ := ob h
          refine aw_iast (pc := 71) hX kc91 hS71 dX3_findNurses_71 ?_
          refine aw_aload_n (pc := 72) hX dX3_findNurses_72 rfl 2 rfl ?_
          refine aw_dup (pc := 73) hX dX3_findNurses_73 rfl ?_
          refine gf_X3_28 (pc := 74) hX kc88 rfl dX3_findNurses_74 ?_
          refine aw_iconst (v := (1 : Int32)) (pc := 77) hX dX3_findNurses_77 (by decide) ?_
          refine aw_iadd (pc := 78) hX dX3_findNurses_78 ?_
          refine pf_X3_28 (pc := 79) hX kc88 rfl dX3_findNurses_79 ?_
          obtain ⟨S79, eS79, h⟩ := on h
          refine aw_S eS79 ?_
          refine aw_iinc (v := (v4 + 1)) (ls' := [(4, .int (v4 + 1)), (3, .int (v3 ||| ((1 : Int32) <<< (x28 &&& 31)))), (5, .int x28), (0, .ref 88), (1, .ref w1), (2, .int v2)]) (pc := 82) hX dX3_findNurses_82 (pos := 5) rfl (by first | rfl | decide) (by decide) rfl ?_
          refine aw_goto (tgt := 10) (pc := 85) hX dX3_findNurses_85 (by decide) ?_
          refine aw_sub (ls' := [(0, .ref 88), (1, .ref w1), (2, .int v2), (3, .int (v3 ||| ((1 : Int32) <<< (x28 &&& 31)))), (4, .int (v4 + 1))]) [3, 4, 5, 1, 0] rfl ?_
          exact ih v2 (v3 ||| ((1 : Int32) <<< (x28 &&& 31))) (v4 + 1) S79 h

set_option maxHeartbeats 4000000 in
set_option maxRecDepth 100000 in
theorem c_X3_findNurses {w1 : Nat} {v2 : Int32} {S : Mem} {Sf : Mem} (hw1 : IsW SKC w1) (h : f_X3_findNurses w1 v2 S = some Sf) : MetV yX3_findNurses cX3_findNurses 6 none 0 [.ref 88, .ref w1, .int v2] SKC S Sf := by
  refine MetV.intro (by decide +kernel) (Nat.le_of_ble_eq_true rfl) (fun X loc hX hQ => ?_)
  unfold f_X3_findNurses at h
  show AW X SKC loc 0 0 0 [(0, .ref 88), (1, .ref w1), (2, .int v2)] [] S
  refine aw_iconst (v := (0 : Int32)) (pc := 0) hX dX3_findNurses_0 (by decide) ?_
  refine aw_istore_n (ls' := [(3, .int (0 : Int32)), (0, .ref 88), (1, .ref w1), (2, .int v2)]) (pc := 1) hX dX3_findNurses_1 rfl (by decide) rfl ?_
  refine aw_aload_n (pc := 2) hX dX3_findNurses_2 rfl 1 rfl ?_
  refine aw_iconst (v := (0 : Int32)) (pc := 3) hX dX3_findNurses_3 (by decide) ?_
  refine pf_X3_28 (pc := 4) hX kc88 rfl dX3_findNurses_4 ?_
  obtain ⟨S4, eS4, h⟩ := on h
  refine aw_S eS4 ?_
  refine aw_iconst (v := (0 : Int32)) (pc := 7) hX dX3_findNurses_7 (by decide) ?_
  refine aw_istore (ls' := [(4, .int (0 : Int32)), (3, .int (0 : Int32)), (0, .ref 88), (1, .ref w1), (2, .int v2)]) (pc := 8) hX dX3_findNurses_8 (by decide) rfl ?_
  refine aw_sub (ls' := [(0, .ref 88), (1, .ref w1), (2, .int v2), (3, .int (0 : Int32)), (4, .int (0 : Int32))]) [2, 3, 4, 1, 0] rfl ?_
  exact c_X3_findNurses_10 hX hQ hw1 FU v2 (0 : Int32) (0 : Int32) S4 h

def f_X3_forget (S : Mem) : Option Mem :=
  nxt (sI S 88 3 (-1 : Int32)) fun S2 =>
  some S2

set_option maxHeartbeats 4000000 in
set_option maxRecDepth 100000 in
theorem c_X3_forget {S : Mem} {Sf : Mem} (h : f_X3_forget S = some Sf) : MetV yX3_forget cX3_forget 1 none 0 [.ref 88] SKC S Sf := by
  refine MetV.intro (by decide +kernel) (Nat.le_of_ble_eq_true rfl) (fun X loc hX hQ => ?_)
  unfold f_X3_forget at h
  show AW X SKC loc 0 0 0 [(0, .ref 88)] [] S
  refine aw_aload_n (pc := 0) hX dX3_forget_0 rfl 0 rfl ?_
  refine aw_iconst (v := (-1 : Int32)) (pc := 1) hX dX3_forget_1 (by decide) ?_
  refine pf_X3_22 (pc := 2) hX kc88 rfl dX3_forget_2 ?_
  obtain ⟨S2, eS2, h⟩ := on h
  refine aw_S eS2 ?_
  cases h
  exact aw_vret hX hQ dX3_forget_5

def f_X3_giveBy_10 (w2 : Nat) : Nat → Int32 → Int32 → Mem → Option Mem
  | 0, _, _, _ => none
  | n + 1, v3, v4, S =>
  if v4 < 0 then
  (some S)
  else
  (if (S.1 88 5) ≤ 0 then
  (some S)
  else
  ((rd S 90 4 v4).bind fun x32 =>
  (rm v3 (S.1 88 5)).bind fun x42 =>
  (rd S 91 6 x42).bind fun x43 =>
  (wr S (w2 + 1) 10 x32 x43).bind fun S44 =>
  (dv v3 (S44.1 88 5)).bind fun x50 =>
  f_X3_giveBy_10 w2 n x50 (v4 + (-1)) S44))

def f_X3_giveBy (w2 : Nat) (v1 : Int32) (S : Mem) : Option Mem :=
  f_X3_giveBy_10 w2 FU v1 ((S.1 88 0) - (1 : Int32)) S

set_option maxHeartbeats 4000000 in
set_option maxRecDepth 100000 in
theorem c_X3_giveBy_10 {X : XT} {loc : Nat → Nat} {w2 : Nat} {Sf : Mem} (hX : AC X loc RX3 cX3_giveBy none 5 0 0 0) (hQ : RetV X SKC loc 0 0 Sf) (hw2 : IsW SKC w2) : ∀ (n : Nat) (v3 : Int32) (v4 : Int32) (S : Mem), f_X3_giveBy_10 w2 n v3 v4 S = some Sf → AW X SKC loc 0 0 10 [(0, .ref 88), (2, .ref w2), (3, .int v3), (4, .int v4)] [] S := by
  intro n
  induction n with
  | zero => intro v3 v4 S h; cases h
  | succ n ih =>
    intro v3 v4 S h
    unfold f_X3_giveBy_10 at h
    refine aw_iload (pc := 10) hX dX3_giveBy_10 3 rfl ?_
    refine aw_if_lt (pc := 12) hX (tgt := 58) dX3_giveBy_12 (by decide) (fun c12 => ?_) (fun c12 => ?_)
    · rw [if_pos c12] at h
      cases h
      exact aw_vret hX hQ dX3_giveBy_58
    · rw [if_neg c12] at h
      refine aw_aload_n (pc := 15) hX dX3_giveBy_15 rfl 0 rfl ?_
      refine gf_X3_28 (pc := 16) hX kc88 rfl dX3_giveBy_16 ?_
      refine aw_if_le (pc := 19) hX (tgt := 58) dX3_giveBy_19 (by decide) (fun c19 => ?_) (fun c19 => ?_)
      · rw [if_pos c19] at h
        cases h
        exact aw_vret hX hQ dX3_giveBy_58
      · rw [if_neg c19] at h
        refine aw_aload_n (pc := 22) hX dX3_giveBy_22 rfl 1 rfl ?_
        refine gf_X3_82 (pc := 23) hX hw2.1 rfl dX3_giveBy_23 ?_
        refine aw_aload_n (pc := 26) hX dX3_giveBy_26 rfl 0 rfl ?_
        refine gf_X3_31 (pc := 27) hX kc88 rfl dX3_giveBy_27 ?_
        refine aw_iload (pc := 30) hX dX3_giveBy_30 3 rfl ?_
        obtain ⟨x32, hx32, h⟩ := ob h
        refine aw_iald (pc := 32) hX kc90 hx32 dX3_giveBy_32 ?_
        refine aw_aload_n (pc := 33) hX dX3_giveBy_33 rfl 0 rfl ?_
        refine gf_X3_34 (pc := 34) hX kc88 rfl dX3_giveBy_34 ?_
        refine aw_iload_n (pc := 37) hX dX3_giveBy_37 rfl 2 rfl ?_
        refine aw_aload_n (pc := 38) hX dX3_giveBy_38 rfl 0 rfl ?_
        refine gf_X3_28 (pc := 39) hX kc88 rfl dX3_giveBy_39 ?_
        obtain ⟨x42, hx42, h⟩ := ob h
        refine aw_irem (pc := 42) hX dX3_giveBy_42 hx42 ?_
        obtain ⟨x43, hx43, h⟩ := ob h
        refine aw_iald (pc := 43) hX kc91 hx43 dX3_giveBy_43 ?_
        obtain ⟨S44, hS44, h⟩ := ob h
        refine aw_iast (pc := 44) hX hw2.2.1 hS44 dX3_giveBy_44 ?_
        refine aw_iload_n (pc := 45) hX dX3_giveBy_45 rfl 2 rfl ?_
        refine aw_aload_n (pc := 46) hX dX3_giveBy_46 rfl 0 rfl ?_
        refine gf_X3_28 (pc := 47) hX kc88 rfl dX3_giveBy_47 ?_
        obtain ⟨x50, hx50, h⟩ := ob h
        refine aw_idiv (pc := 50) hX dX3_giveBy_50 hx50 ?_
        refine aw_istore_n (ls' := [(3, .int x50), (0, .ref 88), (2, .ref w2), (4, .int v4)]) (pc := 51) hX dX3_giveBy_51 rfl (by decide) rfl ?_
        refine aw_iinc (v := (v4 + (-1))) (ls' := [(4, .int (v4 + (-1))), (3, .int x50), (0, .ref 88), (2, .ref w2)]) (pc := 52) hX dX3_giveBy_52 (pos := 3) rfl (by first | rfl | decide) (by decide) rfl ?_
        refine aw_goto (tgt := 10) (pc := 55) hX dX3_giveBy_55 (by decide) ?_
        refine aw_sub (ls' := [(0, .ref 88), (2, .ref w2), (3, .int x50), (4, .int (v4 + (-1)))]) [2, 3, 1, 0] rfl ?_
        exact ih x50 (v4 + (-1)) S44 h

set_option maxHeartbeats 4000000 in
set_option maxRecDepth 100000 in
theorem c_X3_giveBy {w2 : Nat} {v1 : Int32} {S : Mem} {Sf : Mem} (hw2 : IsW SKC w2) (h : f_X3_giveBy w2 v1 S = some Sf) : MetV yX3_giveBy cX3_giveBy 5 none 0 [.ref 88, .int v1, .ref w2] SKC S Sf := by
  refine MetV.intro (by decide +kernel) (Nat.le_of_ble_eq_true rfl) (fun X loc hX hQ => ?_)
  unfold f_X3_giveBy at h
  show AW X SKC loc 0 0 0 [(0, .ref 88), (1, .int v1), (2, .ref w2)] [] S
  refine aw_iload_n (pc := 0) hX dX3_giveBy_0 rfl 1 rfl ?_
  refine aw_istore_n (ls' := [(3, .int v1), (0, .ref 88), (1, .int v1), (2, .ref w2)]) (pc := 1) hX dX3_giveBy_1 rfl (by decide) rfl ?_
  refine aw_aload_n (pc := 2) hX dX3_giveBy_2 rfl 1 rfl ?_
  refine gf_X3_9 (pc := 3) hX kc88 rfl dX3_giveBy_3 ?_
  refine aw_iconst (v := (1 : Int32)) (pc := 6) hX dX3_giveBy_6 (by decide) ?_
  refine aw_isub (pc := 7) hX dX3_giveBy_7 ?_
  refine aw_istore (ls' := [(4, .int ((S.1 88 0) - (1 : Int32))), (3, .int v1), (0, .ref 88), (1, .int v1), (2, .ref w2)]) (pc := 8) hX dX3_giveBy_8 (by decide) rfl ?_
  refine aw_sub (ls' := [(0, .ref 88), (2, .ref w2), (3, .int v1), (4, .int ((S.1 88 0) - (1 : Int32)))]) [2, 4, 1, 0] rfl ?_
  exact c_X3_giveBy_10 hX hQ hw2 FU v1 ((S.1 88 0) - (1 : Int32)) S h

def f_X3_search_81 (w1 : Nat) (w2 : Nat) : Nat → Int32 → Int32 → Int32 → Mem → Option Mem
  | 0, _, _, _, _ => none
  | n + 1, v4, v5, v6, S =>
  if v5 ≤ v6 then
  (some S)
  else
  (if (S.1 88 1) ≤ 0 then
  (some S)
  else
  ((f_X8_take w2 w1 S).bind fun S97 =>
  (f_X3_giveBy w2 v6 S97).bind fun S104 =>
  (f_X8_run w2 v4 (0 : Int32) S104).bind fun S111 =>
  bnd (f_X8_angerOfBoth w2 S111) fun r115 S115 =>
  if (S115.1 88 1) ≤ r115 then
  (f_X3_search_81 w1 w2 n v4 v5 (v6 + 1) S115)
  else
  (bnd (f_X8_angerOfBoth w2 S115) fun r127 S127 =>
  nxt (sI S127 88 1 r127) fun S130 =>
  (f_X3_choose w2 S130).bind fun S135 =>
  f_X3_search_81 w1 w2 n v4 v5 (v6 + 1) S135)))

def f_X3_search_47 (w1 : Nat) (w2 : Nat) : Nat → Int32 → Int32 → Int32 → Mem → Option Mem
  | 0, _, _, _, _ => none
  | n + 1, v4, v5, v6, S =>
  if (S.1 88 0) ≤ v6 then
  (nxt (sI S 88 1 (1999 : Int32)) fun S75 =>
  f_X3_search_81 w1 w2 FU v4 v5 (0 : Int32) S75)
  else
  (f_X3_search_47 w1 w2 n v4 (v5 * (S.1 88 5)) (v6 + 1) S)

def f_X3_search_18 (w1 : Nat) (w2 : Nat) (v3 : Int32) (v4 : Int32) (S : Mem) : Option Mem :=
  nxt (sI S 88 3 v3) fun S20 =>
  nxt (sI S20 88 4 v4) fun S26 =>
  (f_X3_findDolls w1 v3 S26).bind fun S32 =>
  (f_X3_findNurses w1 v3 S32).bind fun S38 =>
  f_X3_search_47 w1 w2 FU v4 (1 : Int32) (0 : Int32) S38

def f_X3_search (w1 : Nat) (w2 : Nat) (v3 : Int32) (v4 : Int32) (S : Mem) : Option Mem :=
  if (S.1 88 3) = v3 then
  (if (S.1 88 4) = v4 then
  (some S)
  else
  (f_X3_search_18 w1 w2 v3 v4 S))
  else
  (f_X3_search_18 w1 w2 v3 v4 S)

set_option maxHeartbeats 4000000 in
set_option maxRecDepth 100000 in
theorem c_X3_search_81 {X : XT} {loc : Nat → Nat} {w1 : Nat} {w2 : Nat} {Sf : Mem} (hX : AC X loc RX3 cX3_search none 7 6 0 0) (hQ : RetV X SKC loc 0 0 Sf) (hw1 : IsW SKC w1) (hw2 : IsW SKC w2) : ∀ (n : Nat) (v4 : Int32) (v5 : Int32) (v6 : Int32) (S : Mem), f_X3_search_81 w1 w2 n v4 v5 v6 S = some Sf → AW X SKC loc 0 0 81 [(0, .ref 88), (1, .ref w1), (2, .ref w2), (4, .int v4), (5, .int v5), (6, .int v6)] [] S := by
  intro n
  induction n with
  | zero => intro v4 v5 v6 S h; cases h
  | succ n ih =>
    intro v4 v5 v6 S h
    unfold f_X3_search_81 at h
    refine aw_iload (pc := 81) hX dX3_search_81 5 rfl ?_
    refine aw_iload (pc := 83) hX dX3_search_83 4 rfl ?_
    refine aw_icmp_ge (pc := 85) hX (tgt := 144) dX3_search_85 (by decide) (fun c85 => ?_) (fun c85 => ?_)
    · rw [if_pos c85] at h
      cases h
      exact aw_vret hX hQ dX3_search_144
    · rw [if_neg c85] at h
      refine aw_aload_n (pc := 88) hX dX3_search_88 rfl 0 rfl ?_
      refine gf_X3_15 (pc := 89) hX kc88 rfl dX3_search_89 ?_
      refine aw_if_le (pc := 92) hX (tgt := 144) dX3_search_92 (by decide) (fun c92 => ?_) (fun c92 => ?_)
      · rw [if_pos c92] at h
        cases h
        exact aw_vret hX hQ dX3_search_144
      · rw [if_neg c92] at h
        refine aw_aload_n (pc := 95) hX dX3_search_95 rfl 2 rfl ?_
        refine aw_aload_n (pc := 96) hX dX3_search_96 rfl 1 rfl ?_
        obtain ⟨S97, hr97, h⟩ := ob h
        refine aw_cVV (pc := 97) (As := [.ref w1]) (rest := []) hX (c_X8_take (sk := SKC) hw2 isT31 hw1 hr97) ok_X8_take kw_4_156 im_X8_take se_X8_take rfl hw2.1 rfl (by decide) (Nat.le_of_ble_eq_true rfl) rfl dX3_search_97 (Nat.le_refl 0) (Nat.le_refl 0) ?_
        refine aw_aload_n (pc := 100) hX dX3_search_100 rfl 0 rfl ?_
        refine aw_iload (pc := 101) hX dX3_search_101 5 rfl ?_
        refine aw_aload_n (pc := 103) hX dX3_search_103 rfl 2 rfl ?_
        obtain ⟨S104, hr104, h⟩ := ob h
        refine aw_cVV (pc := 104) (As := [.int v6, .ref w2]) (rest := []) hX (c_X3_giveBy hw2 hr104) ok_X3_giveBy kw_4_157 im_X3_giveBy se_X3_giveBy rfl kc88 rfl (by decide) (Nat.le_of_ble_eq_true rfl) rfl dX3_search_104 (Nat.le_refl 0) (Nat.le_refl 0) ?_
        refine aw_aload_n (pc := 107) hX dX3_search_107 rfl 2 rfl ?_
        refine aw_iload (pc := 108) hX dX3_search_108 3 rfl ?_
        refine aw_iconst (v := (0 : Int32)) (pc := 110) hX dX3_search_110 (by decide) ?_
        obtain ⟨S111, hr111, h⟩ := ob h
        refine aw_cVV (pc := 111) (As := [.int v4, .int (0 : Int32)]) (rest := []) hX (c_X8_run (sk := SKC) hw2 isT31 hr111) ok_X8_run kw_4_161 im_X8_run se_X8_run rfl hw2.1 rfl (by decide) (Nat.le_of_ble_eq_true rfl) rfl dX3_search_111 (Nat.le_refl 0) (Nat.le_refl 0) ?_
        refine aw_aload_n (pc := 114) hX dX3_search_114 rfl 2 rfl ?_
        obtain ⟨r115, S115, hr115, h⟩ := ob2 h
        refine aw_cVI (pc := 115) (As := []) (rest := []) hX (c_X8_angerOfBoth (sk := SKC) hw2 isT31 hr115) ok_X8_angerOfBoth kw_4_162 im_X8_angerOfBoth se_X8_angerOfBoth rfl hw2.1 rfl (by decide) (Nat.le_of_ble_eq_true rfl) rfl dX3_search_115 (Nat.le_refl 0) (Nat.le_refl 0) ?_
        refine aw_aload_n (pc := 118) hX dX3_search_118 rfl 0 rfl ?_
        refine gf_X3_15 (pc := 119) hX kc88 rfl dX3_search_119 ?_
        refine aw_icmp_ge (pc := 122) hX (tgt := 138) dX3_search_122 (by decide) (fun c122 => ?_) (fun c122 => ?_)
        · rw [if_pos c122] at h
          refine aw_iinc (v := (v6 + 1)) (ls' := [(6, .int (v6 + 1)), (0, .ref 88), (1, .ref w1), (2, .ref w2), (4, .int v4), (5, .int v5)]) (pc := 138) hX dX3_search_138 (pos := 5) rfl (by first | rfl | decide) (by decide) rfl ?_
          refine aw_goto (tgt := 81) (pc := 141) hX dX3_search_141 (by decide) ?_
          refine aw_sub (ls' := [(0, .ref 88), (1, .ref w1), (2, .ref w2), (4, .int v4), (5, .int v5), (6, .int (v6 + 1))]) [1, 2, 3, 4, 5, 0] rfl ?_
          exact ih v4 v5 (v6 + 1) S115 h
        · rw [if_neg c122] at h
          refine aw_aload_n (pc := 125) hX dX3_search_125 rfl 0 rfl ?_
          refine aw_aload_n (pc := 126) hX dX3_search_126 rfl 2 rfl ?_
          obtain ⟨r127, S127, hr127, h⟩ := ob2 h
          refine aw_cVI (pc := 127) (As := []) (rest := [.ref 88]) hX (c_X8_angerOfBoth (sk := SKC) hw2 isT31 hr127) ok_X8_angerOfBoth kw_4_162 im_X8_angerOfBoth se_X8_angerOfBoth rfl hw2.1 rfl (by decide) (Nat.le_of_ble_eq_true rfl) rfl dX3_search_127 (Nat.le_refl 0) (Nat.le_refl 0) ?_
          refine pf_X3_15 (pc := 130) hX kc88 rfl dX3_search_130 ?_
          obtain ⟨S130, eS130, h⟩ := on h
          refine aw_S eS130 ?_
          refine aw_aload_n (pc := 133) hX dX3_search_133 rfl 0 rfl ?_
          refine aw_aload_n (pc := 134) hX dX3_search_134 rfl 2 rfl ?_
          obtain ⟨S135, hr135, h⟩ := ob h
          refine aw_cVV (pc := 135) (As := [.ref w2]) (rest := []) hX (c_X3_choose hw2 hr135) ok_X3_choose kw_4_163 im_X3_choose se_X3_choose rfl kc88 rfl (by decide) (Nat.le_of_ble_eq_true rfl) rfl dX3_search_135 (Nat.le_refl 0) (Nat.le_refl 0) ?_
          refine aw_iinc (v := (v6 + 1)) (ls' := [(6, .int (v6 + 1)), (0, .ref 88), (1, .ref w1), (2, .ref w2), (4, .int v4), (5, .int v5)]) (pc := 138) hX dX3_search_138 (pos := 5) rfl (by first | rfl | decide) (by decide) rfl ?_
          refine aw_goto (tgt := 81) (pc := 141) hX dX3_search_141 (by decide) ?_
          refine aw_sub (ls' := [(0, .ref 88), (1, .ref w1), (2, .ref w2), (4, .int v4), (5, .int v5), (6, .int (v6 + 1))]) [1, 2, 3, 4, 5, 0] rfl ?_
          exact ih v4 v5 (v6 + 1) S135 h

set_option maxHeartbeats 4000000 in
set_option maxRecDepth 100000 in
theorem c_X3_search_47 {X : XT} {loc : Nat → Nat} {w1 : Nat} {w2 : Nat} {Sf : Mem} (hX : AC X loc RX3 cX3_search none 7 6 0 0) (hQ : RetV X SKC loc 0 0 Sf) (hw1 : IsW SKC w1) (hw2 : IsW SKC w2) : ∀ (n : Nat) (v4 : Int32) (v5 : Int32) (v6 : Int32) (S : Mem), f_X3_search_47 w1 w2 n v4 v5 v6 S = some Sf → AW X SKC loc 0 0 47 [(0, .ref 88), (1, .ref w1), (2, .ref w2), (4, .int v4), (5, .int v5), (6, .int v6)] [] S := by
  intro n
  induction n with
  | zero => intro v4 v5 v6 S h; cases h
  | succ n ih =>
    intro v4 v5 v6 S h
    unfold f_X3_search_47 at h
    refine aw_iload (pc := 47) hX dX3_search_47 5 rfl ?_
    refine aw_aload_n (pc := 49) hX dX3_search_49 rfl 0 rfl ?_
    refine gf_X3_9 (pc := 50) hX kc88 rfl dX3_search_50 ?_
    refine aw_icmp_ge (pc := 53) hX (tgt := 71) dX3_search_53 (by decide) (fun c53 => ?_) (fun c53 => ?_)
    · rw [if_pos c53] at h
      refine aw_aload_n (pc := 71) hX dX3_search_71 rfl 0 rfl ?_
      refine aw_sipush (v := (1999 : Int32)) (pc := 72) hX dX3_search_72 (by decide) ?_
      refine pf_X3_15 (pc := 75) hX kc88 rfl dX3_search_75 ?_
      obtain ⟨S75, eS75, h⟩ := on h
      refine aw_S eS75 ?_
      refine aw_iconst (v := (0 : Int32)) (pc := 78) hX dX3_search_78 (by decide) ?_
      refine aw_istore (ls' := [(6, .int (0 : Int32)), (0, .ref 88), (1, .ref w1), (2, .ref w2), (4, .int v4), (5, .int v5)]) (pc := 79) hX dX3_search_79 (by decide) rfl ?_
      refine aw_sub (ls' := [(0, .ref 88), (1, .ref w1), (2, .ref w2), (4, .int v4), (5, .int v5), (6, .int (0 : Int32))]) [1, 2, 3, 4, 5, 0] rfl ?_
      exact c_X3_search_81 hX hQ hw1 hw2 FU v4 v5 (0 : Int32) S75 h
    · rw [if_neg c53] at h
      refine aw_iload (pc := 56) hX dX3_search_56 4 rfl ?_
      refine aw_aload_n (pc := 58) hX dX3_search_58 rfl 0 rfl ?_
      refine gf_X3_28 (pc := 59) hX kc88 rfl dX3_search_59 ?_
      refine aw_imul (pc := 62) hX dX3_search_62 ?_
      refine aw_istore (ls' := [(5, .int (v5 * (S.1 88 5))), (0, .ref 88), (1, .ref w1), (2, .ref w2), (4, .int v4), (6, .int v6)]) (pc := 63) hX dX3_search_63 (by decide) rfl ?_
      refine aw_iinc (v := (v6 + 1)) (ls' := [(6, .int (v6 + 1)), (5, .int (v5 * (S.1 88 5))), (0, .ref 88), (1, .ref w1), (2, .ref w2), (4, .int v4)]) (pc := 65) hX dX3_search_65 (pos := 5) rfl (by first | rfl | decide) (by decide) rfl ?_
      refine aw_goto (tgt := 47) (pc := 68) hX dX3_search_68 (by decide) ?_
      refine aw_sub (ls' := [(0, .ref 88), (1, .ref w1), (2, .ref w2), (4, .int v4), (5, .int (v5 * (S.1 88 5))), (6, .int (v6 + 1))]) [2, 3, 4, 5, 1, 0] rfl ?_
      exact ih v4 (v5 * (S.1 88 5)) (v6 + 1) S h

set_option maxHeartbeats 4000000 in
set_option maxRecDepth 100000 in
theorem c_X3_search_18 {X : XT} {loc : Nat → Nat} {w1 : Nat} {w2 : Nat} {Sf : Mem} (hX : AC X loc RX3 cX3_search none 7 6 0 0) (hQ : RetV X SKC loc 0 0 Sf) (hw1 : IsW SKC w1) (hw2 : IsW SKC w2) (v3 : Int32) (v4 : Int32) (S : Mem) (h : f_X3_search_18 w1 w2 v3 v4 S = some Sf) : AW X SKC loc 0 0 18 [(0, .ref 88), (1, .ref w1), (2, .ref w2), (3, .int v3), (4, .int v4)] [] S := by
  unfold f_X3_search_18 at h
  refine aw_aload_n (pc := 18) hX dX3_search_18 rfl 0 rfl ?_
  refine aw_iload_n (pc := 19) hX dX3_search_19 rfl 3 rfl ?_
  refine pf_X3_22 (pc := 20) hX kc88 rfl dX3_search_20 ?_
  obtain ⟨S20, eS20, h⟩ := on h
  refine aw_S eS20 ?_
  refine aw_aload_n (pc := 23) hX dX3_search_23 rfl 0 rfl ?_
  refine aw_iload (pc := 24) hX dX3_search_24 4 rfl ?_
  refine pf_X3_25 (pc := 26) hX kc88 rfl dX3_search_26 ?_
  obtain ⟨S26, eS26, h⟩ := on h
  refine aw_S eS26 ?_
  refine aw_aload_n (pc := 29) hX dX3_search_29 rfl 0 rfl ?_
  refine aw_aload_n (pc := 30) hX dX3_search_30 rfl 1 rfl ?_
  refine aw_iload_n (pc := 31) hX dX3_search_31 rfl 3 rfl ?_
  obtain ⟨S32, hr32, h⟩ := ob h
  refine aw_cVV (pc := 32) (As := [.ref w1, .int v3]) (rest := []) hX (c_X3_findDolls hw1 hr32) ok_X3_findDolls kw_4_147 im_X3_findDolls se_X3_findDolls rfl kc88 rfl (by decide) (Nat.le_of_ble_eq_true rfl) rfl dX3_search_32 (Nat.le_refl 0) (Nat.le_refl 0) ?_
  refine aw_aload_n (pc := 35) hX dX3_search_35 rfl 0 rfl ?_
  refine aw_aload_n (pc := 36) hX dX3_search_36 rfl 1 rfl ?_
  refine aw_iload_n (pc := 37) hX dX3_search_37 rfl 3 rfl ?_
  obtain ⟨S38, hr38, h⟩ := ob h
  refine aw_cVV (pc := 38) (As := [.ref w1, .int v3]) (rest := []) hX (c_X3_findNurses hw1 hr38) ok_X3_findNurses kw_4_152 im_X3_findNurses se_X3_findNurses rfl kc88 rfl (by decide) (Nat.le_of_ble_eq_true rfl) rfl dX3_search_38 (Nat.le_refl 0) (Nat.le_refl 0) ?_
  refine aw_iconst (v := (1 : Int32)) (pc := 41) hX dX3_search_41 (by decide) ?_
  refine aw_istore (ls' := [(5, .int (1 : Int32)), (0, .ref 88), (1, .ref w1), (2, .ref w2), (3, .int v3), (4, .int v4)]) (pc := 42) hX dX3_search_42 (by decide) rfl ?_
  refine aw_iconst (v := (0 : Int32)) (pc := 44) hX dX3_search_44 (by decide) ?_
  refine aw_istore (ls' := [(6, .int (0 : Int32)), (5, .int (1 : Int32)), (0, .ref 88), (1, .ref w1), (2, .ref w2), (3, .int v3), (4, .int v4)]) (pc := 45) hX dX3_search_45 (by decide) rfl ?_
  refine aw_sub (ls' := [(0, .ref 88), (1, .ref w1), (2, .ref w2), (4, .int v4), (5, .int (1 : Int32)), (6, .int (0 : Int32))]) [2, 3, 4, 6, 1, 0] rfl ?_
  exact c_X3_search_47 hX hQ hw1 hw2 FU v4 (1 : Int32) (0 : Int32) S38 h

set_option maxHeartbeats 4000000 in
set_option maxRecDepth 100000 in
theorem c_X3_search {w1 : Nat} {w2 : Nat} {v3 : Int32} {v4 : Int32} {S : Mem} {Sf : Mem} (hw1 : IsW SKC w1) (hw2 : IsW SKC w2) (h : f_X3_search w1 w2 v3 v4 S = some Sf) : MetV yX3_search cX3_search 7 none 6 [.ref 88, .ref w1, .ref w2, .int v3, .int v4] SKC S Sf := by
  refine MetV.intro (by decide +kernel) (Nat.le_of_ble_eq_true rfl) (fun X loc hX hQ => ?_)
  unfold f_X3_search at h
  show AW X SKC loc 0 0 0 [(0, .ref 88), (1, .ref w1), (2, .ref w2), (3, .int v3), (4, .int v4)] [] S
  refine aw_aload_n (pc := 0) hX dX3_search_0 rfl 0 rfl ?_
  refine gf_X3_22 (pc := 1) hX kc88 rfl dX3_search_1 ?_
  refine aw_iload_n (pc := 4) hX dX3_search_4 rfl 3 rfl ?_
  refine aw_icmp_ne (pc := 5) hX (tgt := 18) dX3_search_5 (by decide) (fun c5 => ?_) (fun c5 => ?_)
  · rw [if_neg c5] at h
    exact c_X3_search_18 hX hQ hw1 hw2 v3 v4 S h
  · rw [if_pos c5] at h
    refine aw_aload_n (pc := 8) hX dX3_search_8 rfl 0 rfl ?_
    refine gf_X3_25 (pc := 9) hX kc88 rfl dX3_search_9 ?_
    refine aw_iload (pc := 12) hX dX3_search_12 4 rfl ?_
    refine aw_icmp_ne (pc := 14) hX (tgt := 18) dX3_search_14 (by decide) (fun c14 => ?_) (fun c14 => ?_)
    · rw [if_neg c14] at h
      exact c_X3_search_18 hX hQ hw1 hw2 v3 v4 S h
    · rw [if_pos c14] at h
      cases h
      exact aw_vret hX hQ dX3_search_17

def f_X5_put_3 : Nat → Int32 → Int32 → Mem → Option Mem
  | 0, _, _, _ => none
  | n + 1, v1, v2, S =>
  if v2 < 0 then
  (some S)
  else
  (if (700 : Int32) ≤ (S.1 1 1) then
  (f_X5_put_3 n v1 (v2 + (-8)) S)
  else
  ((wr S 2 700 (S.1 1 1) ((((v1).toUInt32 >>> ((v2).toUInt32 &&& Int32.toUInt32 31)).toInt32) &&& (255 : Int32))).bind fun S32 =>
  nxt (sI S32 1 1 ((S32.1 1 1) + (1 : Int32))) fun S40 =>
  f_X5_put_3 n v1 (v2 + (-8)) S40))

def f_X5_put (v1 : Int32) (S : Mem) : Option Mem :=
  f_X5_put_3 FU v1 (24 : Int32) S

set_option maxHeartbeats 4000000 in
set_option maxRecDepth 100000 in
theorem c_X5_put_3 {X : XT} {loc : Nat → Nat} {Sf : Mem} (hX : AC X loc RX5 cX5_put none 3 0 0 0) (hQ : RetV X SKC loc 0 0 Sf) : ∀ (n : Nat) (v1 : Int32) (v2 : Int32) (S : Mem), f_X5_put_3 n v1 v2 S = some Sf → AW X SKC loc 0 0 3 [(0, .ref 1), (1, .int v1), (2, .int v2)] [] S := by
  intro n
  induction n with
  | zero => intro v1 v2 S h; cases h
  | succ n ih =>
    intro v1 v2 S h
    unfold f_X5_put_3 at h
    refine aw_iload_n (pc := 3) hX dX5_put_3 rfl 2 rfl ?_
    refine aw_if_lt (pc := 4) hX (tgt := 49) dX5_put_4 (by decide) (fun c4 => ?_) (fun c4 => ?_)
    · rw [if_pos c4] at h
      cases h
      exact aw_vret hX hQ dX5_put_49
    · rw [if_neg c4] at h
      refine aw_aload_n (pc := 7) hX dX5_put_7 rfl 0 rfl ?_
      refine gf_X5_15 (pc := 8) hX kc1 rfl dX5_put_8 ?_
      refine aw_sipush (v := (700 : Int32)) (pc := 11) hX dX5_put_11 (by decide) ?_
      refine aw_icmp_ge (pc := 14) hX (tgt := 43) dX5_put_14 (by decide) (fun c14 => ?_) (fun c14 => ?_)
      · rw [if_pos c14] at h
        refine aw_iinc (v := (v2 + (-8))) (ls' := [(2, .int (v2 + (-8))), (0, .ref 1), (1, .int v1)]) (pc := 43) hX dX5_put_43 (pos := 2) rfl (by first | rfl | decide) (by decide) rfl ?_
        refine aw_goto (tgt := 3) (pc := 46) hX dX5_put_46 (by decide) ?_
        refine aw_sub (ls' := [(0, .ref 1), (1, .int v1), (2, .int (v2 + (-8)))]) [1, 2, 0] rfl ?_
        exact ih v1 (v2 + (-8)) S h
      · rw [if_neg c14] at h
        refine aw_aload_n (pc := 17) hX dX5_put_17 rfl 0 rfl ?_
        refine gf_X5_9 (pc := 18) hX kc1 rfl dX5_put_18 ?_
        refine aw_aload_n (pc := 21) hX dX5_put_21 rfl 0 rfl ?_
        refine gf_X5_15 (pc := 22) hX kc1 rfl dX5_put_22 ?_
        refine aw_iload_n (pc := 25) hX dX5_put_25 rfl 1 rfl ?_
        refine aw_iload_n (pc := 26) hX dX5_put_26 rfl 2 rfl ?_
        refine aw_iushr (pc := 27) hX dX5_put_27 ?_
        refine aw_sipush (v := (255 : Int32)) (pc := 28) hX dX5_put_28 (by decide) ?_
        refine aw_iand (pc := 31) hX dX5_put_31 ?_
        obtain ⟨S32, hS32, h⟩ := ob h
        refine aw_iast (pc := 32) hX kc2 hS32 dX5_put_32 ?_
        refine aw_aload_n (pc := 33) hX dX5_put_33 rfl 0 rfl ?_
        refine aw_dup (pc := 34) hX dX5_put_34 rfl ?_
        refine gf_X5_15 (pc := 35) hX kc1 rfl dX5_put_35 ?_
        refine aw_iconst (v := (1 : Int32)) (pc := 38) hX dX5_put_38 (by decide) ?_
        refine aw_iadd (pc := 39) hX dX5_put_39 ?_
        refine pf_X5_15 (pc := 40) hX kc1 rfl dX5_put_40 ?_
        obtain ⟨S40, eS40, h⟩ := on h
        refine aw_S eS40 ?_
        refine aw_iinc (v := (v2 + (-8))) (ls' := [(2, .int (v2 + (-8))), (0, .ref 1), (1, .int v1)]) (pc := 43) hX dX5_put_43 (pos := 2) rfl (by first | rfl | decide) (by decide) rfl ?_
        refine aw_goto (tgt := 3) (pc := 46) hX dX5_put_46 (by decide) ?_
        refine aw_sub (ls' := [(0, .ref 1), (1, .int v1), (2, .int (v2 + (-8)))]) [1, 2, 0] rfl ?_
        exact ih v1 (v2 + (-8)) S40 h

set_option maxHeartbeats 4000000 in
set_option maxRecDepth 100000 in
theorem c_X5_put {v1 : Int32} {S : Mem} {Sf : Mem} (h : f_X5_put v1 S = some Sf) : MetV yX5_put cX5_put 3 none 0 [.ref 1, .int v1] SKC S Sf := by
  refine MetV.intro (by decide +kernel) (Nat.le_of_ble_eq_true rfl) (fun X loc hX hQ => ?_)
  unfold f_X5_put at h
  show AW X SKC loc 0 0 0 [(0, .ref 1), (1, .int v1)] [] S
  refine aw_bipush (v := (24 : Int32)) (pc := 0) hX dX5_put_0 (by decide) ?_
  refine aw_istore_n (ls' := [(2, .int (24 : Int32)), (0, .ref 1), (1, .int v1)]) (pc := 2) hX dX5_put_2 rfl (by decide) rfl ?_
  refine aw_sub (ls' := [(0, .ref 1), (1, .int v1), (2, .int (24 : Int32))]) [1, 2, 0] rfl ?_
  exact c_X5_put_3 hX hQ FU v1 (24 : Int32) S h

