def f_X10_conjunction_4 (kX10_negation : Mem → Option Mem) : Nat → Mem → Option Mem
  | 0, _ => none
  | n + 1, S =>
  bnd (f_X10_isWord (13 : Int32) S) fun r7 S7 =>
  if r7 = 0 then
  (some S7)
  else
  ((f_X10_knot S7).bind fun S14 =>
  (f_X10_goOn S14).bind fun S18 =>
  (kX10_negation S18).bind fun S22 =>
  (f_X10_puts (2 : Int32) (261 : Int32) S22).bind fun S30 =>
  f_X10_conjunction_4 kX10_negation n S30)

def f_X10_conjunctionG (kX10_negation : Mem → Option Mem) (S : Mem) : Option Mem :=
  (kX10_negation S).bind fun S1 =>
  f_X10_conjunction_4 kX10_negation FU S1

set_option maxHeartbeats 4000000 in
set_option maxRecDepth 100000 in
theorem c_X10_conjunction_4 {X : XT} {loc : Nat → Nat} {dd : Nat} {Sf : Mem} (hX : AC X loc RX10 cX10_conjunction none 1 (dd + 1) 0 0) (hQ : RetV X SKM loc 0 0 Sf) (hd0 : 8 ≤ dd) {kX10_negation : Mem → Option Mem} (hkX10_negation : ∀ {S Sf : Mem}, kX10_negation S = some Sf → MetV yX10_negation cX10_negation 2 none dd [.ref 0] SKM S Sf) : ∀ (n : Nat) (S : Mem), f_X10_conjunction_4 kX10_negation n S = some Sf → AW X SKM loc 0 0 4 [(0, .ref 0)] [] S := by
  intro n
  induction n with
  | zero => intro S h; cases h
  | succ n ih =>
    intro S h
    unfold f_X10_conjunction_4 at h
    refine aw_aload_n (pc := 4) hX dX10_conjunction_4 rfl 0 rfl ?_
    refine aw_bipush (v := (13 : Int32)) (pc := 5) hX dX10_conjunction_5 (by decide) ?_
    obtain ⟨r7, S7, hr7, h⟩ := ob2 h
    refine aw_cVI (pc := 7) (As := [.int (13 : Int32)]) (rest := []) hX (c_X10_isWord hr7) ok_X10_isWord kw_6_208 im_X10_isWord se_X10_isWord rfl km0 rfl (Nat.succ_le_succ (Nat.le_trans (by decide) hd0)) (Nat.le_of_ble_eq_true rfl) rfl dX10_conjunction_7 (Nat.le_refl 0) (Nat.le_refl 0) ?_
    refine aw_if_eq (pc := 10) hX (tgt := 36) dX10_conjunction_10 (by decide) (fun c10 => ?_) (fun c10 => ?_)
    · rw [if_pos c10] at h
      cases h
      exact aw_vret hX hQ dX10_conjunction_36
    · rw [if_neg c10] at h
      refine aw_aload_n (pc := 13) hX dX10_conjunction_13 rfl 0 rfl ?_
      obtain ⟨S14, hr14, h⟩ := ob h
      refine aw_cVV (pc := 14) (As := []) (rest := []) hX (c_X10_knot hr14) ok_X10_knot kw_6_212 im_X10_knot se_X10_knot rfl km0 rfl (Nat.succ_le_succ (Nat.le_trans (by decide) hd0)) (Nat.le_of_ble_eq_true rfl) rfl dX10_conjunction_14 (Nat.le_refl 0) (Nat.le_refl 0) ?_
      refine aw_aload_n (pc := 17) hX dX10_conjunction_17 rfl 0 rfl ?_
      obtain ⟨S18, hr18, h⟩ := ob h
      refine aw_cVV (pc := 18) (As := []) (rest := []) hX (c_X10_goOn hr18) ok_X10_goOn kw_6_180 im_X10_goOn se_X10_goOn rfl km0 rfl (Nat.succ_le_succ (Nat.le_trans (by decide) hd0)) (Nat.le_of_ble_eq_true rfl) rfl dX10_conjunction_18 (Nat.le_refl 0) (Nat.le_refl 0) ?_
      refine aw_aload_n (pc := 21) hX dX10_conjunction_21 rfl 0 rfl ?_
      obtain ⟨S22, hr22, h⟩ := ob h
      refine aw_cVV (pc := 22) (As := []) (rest := []) hX (hkX10_negation hr22) ok_X10_negation kw_6_204 im_X10_negation se_X10_negation rfl km0 rfl (Nat.le_refl _) (Nat.le_of_ble_eq_true rfl) rfl dX10_conjunction_22 (Nat.le_refl 0) (Nat.le_refl 0) ?_
      refine aw_aload_n (pc := 25) hX dX10_conjunction_25 rfl 0 rfl ?_
      refine aw_iconst (v := (2 : Int32)) (pc := 26) hX dX10_conjunction_26 (by decide) ?_
      refine aw_sipush (v := (261 : Int32)) (pc := 27) hX dX10_conjunction_27 (by decide) ?_
      obtain ⟨S30, hr30, h⟩ := ob h
      refine aw_cVV (pc := 30) (As := [.int (2 : Int32), .int (261 : Int32)]) (rest := []) hX (c_X10_puts hr30) ok_X10_puts kw_6_216 im_X10_puts se_X10_puts rfl km0 rfl (Nat.succ_le_succ (Nat.le_trans (by decide) hd0)) (Nat.le_of_ble_eq_true rfl) rfl dX10_conjunction_30 (Nat.le_refl 0) (Nat.le_refl 0) ?_
      refine aw_goto (tgt := 4) (pc := 33) hX dX10_conjunction_33 (by decide) ?_
      exact ih S30 h

set_option maxHeartbeats 4000000 in
set_option maxRecDepth 100000 in
theorem c_X10_conjunctionG {dd : Nat} {S : Mem} {Sf : Mem} (hd0 : 8 ≤ dd) {kX10_negation : Mem → Option Mem} (hkX10_negation : ∀ {S Sf : Mem}, kX10_negation S = some Sf → MetV yX10_negation cX10_negation 2 none dd [.ref 0] SKM S Sf) (h : f_X10_conjunctionG kX10_negation S = some Sf) : MetV yX10_conjunction cX10_conjunction 1 none (dd + 1) [.ref 0] SKM S Sf := by
  refine MetV.intro (by decide +kernel) (Nat.le_of_ble_eq_true rfl) (fun X loc hX hQ => ?_)
  unfold f_X10_conjunctionG at h
  show AW X SKM loc 0 0 0 [(0, .ref 0)] [] S
  refine aw_aload_n (pc := 0) hX dX10_conjunction_0 rfl 0 rfl ?_
  obtain ⟨S1, hr1, h⟩ := ob h
  refine aw_cVV (pc := 1) (As := []) (rest := []) hX (hkX10_negation hr1) ok_X10_negation kw_6_204 im_X10_negation se_X10_negation rfl km0 rfl (Nat.le_refl _) (Nat.le_of_ble_eq_true rfl) rfl dX10_conjunction_1 (Nat.le_refl 0) (Nat.le_refl 0) ?_
  exact c_X10_conjunction_4 hX hQ hd0 hkX10_negation FU S1 h

def f_X10_expression_4 (kX10_conjunction : Mem → Option Mem) : Nat → Mem → Option Mem
  | 0, _ => none
  | n + 1, S =>
  bnd (f_X10_isWord (12 : Int32) S) fun r7 S7 =>
  if r7 = 0 then
  (some S7)
  else
  ((f_X10_knot S7).bind fun S14 =>
  (f_X10_goOn S14).bind fun S18 =>
  (kX10_conjunction S18).bind fun S22 =>
  (f_X10_puts (2 : Int32) (262 : Int32) S22).bind fun S30 =>
  f_X10_expression_4 kX10_conjunction n S30)

def f_X10_expressionG (kX10_conjunction : Mem → Option Mem) (S : Mem) : Option Mem :=
  (kX10_conjunction S).bind fun S1 =>
  f_X10_expression_4 kX10_conjunction FU S1

set_option maxHeartbeats 4000000 in
set_option maxRecDepth 100000 in
theorem c_X10_expression_4 {X : XT} {loc : Nat → Nat} {dd : Nat} {Sf : Mem} (hX : AC X loc RX10 cX10_expression none 1 (dd + 1) 0 0) (hQ : RetV X SKM loc 0 0 Sf) (hd0 : 8 ≤ dd) {kX10_conjunction : Mem → Option Mem} (hkX10_conjunction : ∀ {S Sf : Mem}, kX10_conjunction S = some Sf → MetV yX10_conjunction cX10_conjunction 1 none dd [.ref 0] SKM S Sf) : ∀ (n : Nat) (S : Mem), f_X10_expression_4 kX10_conjunction n S = some Sf → AW X SKM loc 0 0 4 [(0, .ref 0)] [] S := by
  intro n
  induction n with
  | zero => intro S h; cases h
  | succ n ih =>
    intro S h
    unfold f_X10_expression_4 at h
    refine aw_aload_n (pc := 4) hX dX10_expression_4 rfl 0 rfl ?_
    refine aw_bipush (v := (12 : Int32)) (pc := 5) hX dX10_expression_5 (by decide) ?_
    obtain ⟨r7, S7, hr7, h⟩ := ob2 h
    refine aw_cVI (pc := 7) (As := [.int (12 : Int32)]) (rest := []) hX (c_X10_isWord hr7) ok_X10_isWord kw_6_208 im_X10_isWord se_X10_isWord rfl km0 rfl (Nat.succ_le_succ (Nat.le_trans (by decide) hd0)) (Nat.le_of_ble_eq_true rfl) rfl dX10_expression_7 (Nat.le_refl 0) (Nat.le_refl 0) ?_
    refine aw_if_eq (pc := 10) hX (tgt := 36) dX10_expression_10 (by decide) (fun c10 => ?_) (fun c10 => ?_)
    · rw [if_pos c10] at h
      cases h
      exact aw_vret hX hQ dX10_expression_36
    · rw [if_neg c10] at h
      refine aw_aload_n (pc := 13) hX dX10_expression_13 rfl 0 rfl ?_
      obtain ⟨S14, hr14, h⟩ := ob h
      refine aw_cVV (pc := 14) (As := []) (rest := []) hX (c_X10_knot hr14) ok_X10_knot kw_6_212 im_X10_knot se_X10_knot rfl km0 rfl (Nat.succ_le_succ (Nat.le_trans (by decide) hd0)) (Nat.le_of_ble_eq_true rfl) rfl dX10_expression_14 (Nat.le_refl 0) (Nat.le_refl 0) ?_
      refine aw_aload_n (pc := 17) hX dX10_expression_17 rfl 0 rfl ?_
      obtain ⟨S18, hr18, h⟩ := ob h
      refine aw_cVV (pc := 18) (As := []) (rest := []) hX (c_X10_goOn hr18) ok_X10_goOn kw_6_180 im_X10_goOn se_X10_goOn rfl km0 rfl (Nat.succ_le_succ (Nat.le_trans (by decide) hd0)) (Nat.le_of_ble_eq_true rfl) rfl dX10_expression_18 (Nat.le_refl 0) (Nat.le_refl 0) ?_
      refine aw_aload_n (pc := 21) hX dX10_expression_21 rfl 0 rfl ?_
      obtain ⟨S22, hr22, h⟩ := ob h
      refine aw_cVV (pc := 22) (As := []) (rest := []) hX (hkX10_conjunction hr22) ok_X10_conjunction kw_6_200 im_X10_conjunction se_X10_conjunction rfl km0 rfl (Nat.le_refl _) (Nat.le_of_ble_eq_true rfl) rfl dX10_expression_22 (Nat.le_refl 0) (Nat.le_refl 0) ?_
      refine aw_aload_n (pc := 25) hX dX10_expression_25 rfl 0 rfl ?_
      refine aw_iconst (v := (2 : Int32)) (pc := 26) hX dX10_expression_26 (by decide) ?_
      refine aw_sipush (v := (262 : Int32)) (pc := 27) hX dX10_expression_27 (by decide) ?_
      obtain ⟨S30, hr30, h⟩ := ob h
      refine aw_cVV (pc := 30) (As := [.int (2 : Int32), .int (262 : Int32)]) (rest := []) hX (c_X10_puts hr30) ok_X10_puts kw_6_216 im_X10_puts se_X10_puts rfl km0 rfl (Nat.succ_le_succ (Nat.le_trans (by decide) hd0)) (Nat.le_of_ble_eq_true rfl) rfl dX10_expression_30 (Nat.le_refl 0) (Nat.le_refl 0) ?_
      refine aw_goto (tgt := 4) (pc := 33) hX dX10_expression_33 (by decide) ?_
      exact ih S30 h

set_option maxHeartbeats 4000000 in
set_option maxRecDepth 100000 in
theorem c_X10_expressionG {dd : Nat} {S : Mem} {Sf : Mem} (hd0 : 8 ≤ dd) {kX10_conjunction : Mem → Option Mem} (hkX10_conjunction : ∀ {S Sf : Mem}, kX10_conjunction S = some Sf → MetV yX10_conjunction cX10_conjunction 1 none dd [.ref 0] SKM S Sf) (h : f_X10_expressionG kX10_conjunction S = some Sf) : MetV yX10_expression cX10_expression 1 none (dd + 1) [.ref 0] SKM S Sf := by
  refine MetV.intro (by decide +kernel) (Nat.le_of_ble_eq_true rfl) (fun X loc hX hQ => ?_)
  unfold f_X10_expressionG at h
  show AW X SKM loc 0 0 0 [(0, .ref 0)] [] S
  refine aw_aload_n (pc := 0) hX dX10_expression_0 rfl 0 rfl ?_
  obtain ⟨S1, hr1, h⟩ := ob h
  refine aw_cVV (pc := 1) (As := []) (rest := []) hX (hkX10_conjunction hr1) ok_X10_conjunction kw_6_200 im_X10_conjunction se_X10_conjunction rfl km0 rfl (Nat.le_refl _) (Nat.le_of_ble_eq_true rfl) rfl dX10_expression_1 (Nat.le_refl 0) (Nat.le_refl 0) ?_
  exact c_X10_expression_4 hX hQ hd0 hkX10_conjunction FU S1 h

def f_X10_negation_87 (kX10_negation : Mem → Option Mem) (kX10_sum : Mem → Option Mem) (S : Mem) : Option Mem :=
  (f_X10_knot S).bind fun S93 =>
  (f_X10_goOn S93).bind fun S97 =>
  (kX10_sum S97).bind fun S101 =>
  (f_X10_puts (2 : Int32) (S.1 0 21) S101).bind fun S107 =>
  some S107

def f_X10_negationG (kX10_negation : Mem → Option Mem) (kX10_sum : Mem → Option Mem) (S : Mem) : Option Mem :=
  bnd (f_X10_isWord (14 : Int32) S) fun r3 S3 =>
  if r3 = 0 then
  ((kX10_sum S3).bind fun S31 =>
  if (S31.1 0 22) = 0 then
  (if (S31.1 0 20) = (3 : Int32) then
  (if (S31.1 0 21) = (60 : Int32) then
  (f_X10_negation_87 kX10_negation kX10_sum S31)
  else
  (if (S31.1 0 21) = (62 : Int32) then
  (f_X10_negation_87 kX10_negation kX10_sum S31)
  else
  (if (S31.1 0 21) = (61 : Int32) then
  (f_X10_negation_87 kX10_negation kX10_sum S31)
  else
  (if (256 : Int32) ≤ (S31.1 0 21) then
  (f_X10_negation_87 kX10_negation kX10_sum S31)
  else
  (some S31)))))
  else
  (some S31))
  else
  (some S31))
  else
  ((f_X10_knot S3).bind fun S10 =>
  (f_X10_goOn S10).bind fun S14 =>
  (kX10_negation S14).bind fun S18 =>
  (f_X10_puts (2 : Int32) (260 : Int32) S18).bind fun S26 =>
  some S26)

set_option maxHeartbeats 4000000 in
set_option maxRecDepth 100000 in
theorem c_X10_negation_87 {X : XT} {loc : Nat → Nat} {dd : Nat} {Sf : Mem} (hX : AC X loc RX10 cX10_negation none 2 (dd + 1) 0 0) (hQ : RetV X SKM loc 0 0 Sf) (hd0 : 8 ≤ dd) {kX10_negation : Mem → Option Mem} (hkX10_negation : ∀ {S Sf : Mem}, kX10_negation S = some Sf → MetV yX10_negation cX10_negation 2 none dd [.ref 0] SKM S Sf) {kX10_sum : Mem → Option Mem} (hkX10_sum : ∀ {S Sf : Mem}, kX10_sum S = some Sf → MetV yX10_sum cX10_sum 2 none dd [.ref 0] SKM S Sf) (S : Mem) (h : f_X10_negation_87 kX10_negation kX10_sum S = some Sf) : AW X SKM loc 0 0 87 [(0, .ref 0)] [] S := by
  unfold f_X10_negation_87 at h
  refine aw_aload_n (pc := 87) hX dX10_negation_87 rfl 0 rfl ?_
  refine gf_X10_153 (pc := 88) hX km0 rfl dX10_negation_88 ?_
  refine aw_istore_n (ls' := [(1, .int (S.1 0 21)), (0, .ref 0)]) (pc := 91) hX dX10_negation_91 rfl (by decide) rfl ?_
  refine aw_aload_n (pc := 92) hX dX10_negation_92 rfl 1 rfl ?_
  obtain ⟨S93, hr93, h⟩ := ob h
  refine aw_cVV (pc := 93) (As := []) (rest := []) hX (c_X10_knot hr93) ok_X10_knot kw_6_212 im_X10_knot se_X10_knot rfl km0 rfl (Nat.succ_le_succ (Nat.le_trans (by decide) hd0)) (Nat.le_of_ble_eq_true rfl) rfl dX10_negation_93 (Nat.le_refl 0) (Nat.le_refl 0) ?_
  refine aw_aload_n (pc := 96) hX dX10_negation_96 rfl 1 rfl ?_
  obtain ⟨S97, hr97, h⟩ := ob h
  refine aw_cVV (pc := 97) (As := []) (rest := []) hX (c_X10_goOn hr97) ok_X10_goOn kw_6_180 im_X10_goOn se_X10_goOn rfl km0 rfl (Nat.succ_le_succ (Nat.le_trans (by decide) hd0)) (Nat.le_of_ble_eq_true rfl) rfl dX10_negation_97 (Nat.le_refl 0) (Nat.le_refl 0) ?_
  refine aw_aload_n (pc := 100) hX dX10_negation_100 rfl 1 rfl ?_
  obtain ⟨S101, hr101, h⟩ := ob h
  refine aw_cVV (pc := 101) (As := []) (rest := []) hX (hkX10_sum hr101) ok_X10_sum kw_6_220 im_X10_sum se_X10_sum rfl km0 rfl (Nat.le_refl _) (Nat.le_of_ble_eq_true rfl) rfl dX10_negation_101 (Nat.le_refl 0) (Nat.le_refl 0) ?_
  refine aw_aload_n (pc := 104) hX dX10_negation_104 rfl 1 rfl ?_
  refine aw_iconst (v := (2 : Int32)) (pc := 105) hX dX10_negation_105 (by decide) ?_
  refine aw_iload_n (pc := 106) hX dX10_negation_106 rfl 0 rfl ?_
  obtain ⟨S107, hr107, h⟩ := ob h
  refine aw_cVV (pc := 107) (As := [.int (2 : Int32), .int (S.1 0 21)]) (rest := []) hX (c_X10_puts hr107) ok_X10_puts kw_6_216 im_X10_puts se_X10_puts rfl km0 rfl (Nat.succ_le_succ (Nat.le_trans (by decide) hd0)) (Nat.le_of_ble_eq_true rfl) rfl dX10_negation_107 (Nat.le_refl 0) (Nat.le_refl 0) ?_
  cases h
  exact aw_vret hX hQ dX10_negation_110

set_option maxHeartbeats 4000000 in
set_option maxRecDepth 100000 in
theorem c_X10_negationG {dd : Nat} {S : Mem} {Sf : Mem} (hd0 : 8 ≤ dd) {kX10_negation : Mem → Option Mem} (hkX10_negation : ∀ {S Sf : Mem}, kX10_negation S = some Sf → MetV yX10_negation cX10_negation 2 none dd [.ref 0] SKM S Sf) {kX10_sum : Mem → Option Mem} (hkX10_sum : ∀ {S Sf : Mem}, kX10_sum S = some Sf → MetV yX10_sum cX10_sum 2 none dd [.ref 0] SKM S Sf) (h : f_X10_negationG kX10_negation kX10_sum S = some Sf) : MetV yX10_negation cX10_negation 2 none (dd + 1) [.ref 0] SKM S Sf := by
  refine MetV.intro (by decide +kernel) (Nat.le_of_ble_eq_true rfl) (fun X loc hX hQ => ?_)
  unfold f_X10_negationG at h
  show AW X SKM loc 0 0 0 [(0, .ref 0)] [] S
  refine aw_aload_n (pc := 0) hX dX10_negation_0 rfl 0 rfl ?_
  refine aw_bipush (v := (14 : Int32)) (pc := 1) hX dX10_negation_1 (by decide) ?_
  obtain ⟨r3, S3, hr3, h⟩ := ob2 h
  refine aw_cVI (pc := 3) (As := [.int (14 : Int32)]) (rest := []) hX (c_X10_isWord hr3) ok_X10_isWord kw_6_208 im_X10_isWord se_X10_isWord rfl km0 rfl (Nat.succ_le_succ (Nat.le_trans (by decide) hd0)) (Nat.le_of_ble_eq_true rfl) rfl dX10_negation_3 (Nat.le_refl 0) (Nat.le_refl 0) ?_
  refine aw_if_eq (pc := 6) hX (tgt := 30) dX10_negation_6 (by decide) (fun c6 => ?_) (fun c6 => ?_)
  · rw [if_pos c6] at h
    refine aw_aload_n (pc := 30) hX dX10_negation_30 rfl 0 rfl ?_
    obtain ⟨S31, hr31, h⟩ := ob h
    refine aw_cVV (pc := 31) (As := []) (rest := []) hX (hkX10_sum hr31) ok_X10_sum kw_6_220 im_X10_sum se_X10_sum rfl km0 rfl (Nat.le_refl _) (Nat.le_of_ble_eq_true rfl) rfl dX10_negation_31 (Nat.le_refl 0) (Nat.le_refl 0) ?_
    refine aw_aload_n (pc := 34) hX dX10_negation_34 rfl 0 rfl ?_
    refine gf_X10_178 (pc := 35) hX km0 rfl dX10_negation_35 ?_
    refine aw_if_ne (pc := 38) hX (tgt := 86) dX10_negation_38 (by decide) (fun c38 => ?_) (fun c38 => ?_)
    · rw [if_neg c38] at h
      cases h
      exact aw_vret hX hQ dX10_negation_86
    · rw [if_pos c38] at h
      refine aw_aload_n (pc := 41) hX dX10_negation_41 rfl 0 rfl ?_
      refine gf_X10_143 (pc := 42) hX km0 rfl dX10_negation_42 ?_
      refine aw_iconst (v := (3 : Int32)) (pc := 45) hX dX10_negation_45 (by decide) ?_
      refine aw_icmp_ne (pc := 46) hX (tgt := 86) dX10_negation_46 (by decide) (fun c46 => ?_) (fun c46 => ?_)
      · rw [if_neg c46] at h
        cases h
        exact aw_vret hX hQ dX10_negation_86
      · rw [if_pos c46] at h
        refine aw_aload_n (pc := 49) hX dX10_negation_49 rfl 0 rfl ?_
        refine gf_X10_153 (pc := 50) hX km0 rfl dX10_negation_50 ?_
        refine aw_bipush (v := (60 : Int32)) (pc := 53) hX dX10_negation_53 (by decide) ?_
        refine aw_icmp_eq (pc := 55) hX (tgt := 87) dX10_negation_55 (by decide) (fun c55 => ?_) (fun c55 => ?_)
        · rw [if_pos c55] at h
          exact c_X10_negation_87 hX hQ hd0 hkX10_negation hkX10_sum S31 h
        · rw [if_neg c55] at h
          refine aw_aload_n (pc := 58) hX dX10_negation_58 rfl 0 rfl ?_
          refine gf_X10_153 (pc := 59) hX km0 rfl dX10_negation_59 ?_
          refine aw_bipush (v := (62 : Int32)) (pc := 62) hX dX10_negation_62 (by decide) ?_
          refine aw_icmp_eq (pc := 64) hX (tgt := 87) dX10_negation_64 (by decide) (fun c64 => ?_) (fun c64 => ?_)
          · rw [if_pos c64] at h
            exact c_X10_negation_87 hX hQ hd0 hkX10_negation hkX10_sum S31 h
          · rw [if_neg c64] at h
            refine aw_aload_n (pc := 67) hX dX10_negation_67 rfl 0 rfl ?_
            refine gf_X10_153 (pc := 68) hX km0 rfl dX10_negation_68 ?_
            refine aw_bipush (v := (61 : Int32)) (pc := 71) hX dX10_negation_71 (by decide) ?_
            refine aw_icmp_eq (pc := 73) hX (tgt := 87) dX10_negation_73 (by decide) (fun c73 => ?_) (fun c73 => ?_)
            · rw [if_pos c73] at h
              exact c_X10_negation_87 hX hQ hd0 hkX10_negation hkX10_sum S31 h
            · rw [if_neg c73] at h
              refine aw_aload_n (pc := 76) hX dX10_negation_76 rfl 0 rfl ?_
              refine gf_X10_153 (pc := 77) hX km0 rfl dX10_negation_77 ?_
              refine aw_sipush (v := (256 : Int32)) (pc := 80) hX dX10_negation_80 (by decide) ?_
              refine aw_icmp_ge (pc := 83) hX (tgt := 87) dX10_negation_83 (by decide) (fun c83 => ?_) (fun c83 => ?_)
              · rw [if_pos c83] at h
                exact c_X10_negation_87 hX hQ hd0 hkX10_negation hkX10_sum S31 h
              · rw [if_neg c83] at h
                cases h
                exact aw_vret hX hQ dX10_negation_86
  · rw [if_neg c6] at h
    refine aw_aload_n (pc := 9) hX dX10_negation_9 rfl 0 rfl ?_
    obtain ⟨S10, hr10, h⟩ := ob h
    refine aw_cVV (pc := 10) (As := []) (rest := []) hX (c_X10_knot hr10) ok_X10_knot kw_6_212 im_X10_knot se_X10_knot rfl km0 rfl (Nat.succ_le_succ (Nat.le_trans (by decide) hd0)) (Nat.le_of_ble_eq_true rfl) rfl dX10_negation_10 (Nat.le_refl 0) (Nat.le_refl 0) ?_
    refine aw_aload_n (pc := 13) hX dX10_negation_13 rfl 0 rfl ?_
    obtain ⟨S14, hr14, h⟩ := ob h
    refine aw_cVV (pc := 14) (As := []) (rest := []) hX (c_X10_goOn hr14) ok_X10_goOn kw_6_180 im_X10_goOn se_X10_goOn rfl km0 rfl (Nat.succ_le_succ (Nat.le_trans (by decide) hd0)) (Nat.le_of_ble_eq_true rfl) rfl dX10_negation_14 (Nat.le_refl 0) (Nat.le_refl 0) ?_
    refine aw_aload_n (pc := 17) hX dX10_negation_17 rfl 0 rfl ?_
    obtain ⟨S18, hr18, h⟩ := ob h
    refine aw_cVV (pc := 18) (As := []) (rest := []) hX (hkX10_negation hr18) ok_X10_negation kw_6_204 im_X10_negation se_X10_negation rfl km0 rfl (Nat.le_refl _) (Nat.le_of_ble_eq_true rfl) rfl dX10_negation_18 (Nat.le_refl 0) (Nat.le_refl 0) ?_
    refine aw_aload_n (pc := 21) hX dX10_negation_21 rfl 0 rfl ?_
    refine aw_iconst (v := (2 : Int32)) (pc := 22) hX dX10_negation_22 (by decide) ?_
    refine aw_sipush (v := (260 : Int32)) (pc := 23) hX dX10_negation_23 (by decide) ?_
    obtain ⟨S26, hr26, h⟩ := ob h
    refine aw_cVV (pc := 26) (As := [.int (2 : Int32), .int (260 : Int32)]) (rest := []) hX (c_X10_puts hr26) ok_X10_puts kw_6_216 im_X10_puts se_X10_puts rfl km0 rfl (Nat.succ_le_succ (Nat.le_trans (by decide) hd0)) (Nat.le_of_ble_eq_true rfl) rfl dX10_negation_26 (Nat.le_refl 0) (Nat.le_refl 0) ?_
    cases h
    exact aw_vret hX hQ dX10_negation_29

def f_X10_nurses_141 (kX10_nurses : Int32 → Int32 → Int32 → Int32 → Mem → Option Mem) : Nat → Int32 → Int32 → Mem → Option Mem
  | 0, _, _, _ => none
  | n + 1, v2, v5, S =>
  if v2 ≤ v5 then
  (some S)
  else
  ((rd S 26 4 v5).bind fun x159 =>
  (wr S 27 4 v5 x159).bind fun S160 =>
  f_X10_nurses_141 kX10_nurses n v2 (v5 + 1) S160)

def f_X10_nurses_129 (kX10_nurses : Int32 → Int32 → Int32 → Int32 → Mem → Option Mem) (v2 : Int32) (S : Mem) : Option Mem :=
  bnd (f_X10_angerBoth (1 : Int32) S) fun r132 S132 =>
  nxt (sI S132 0 49 r132) fun S135 =>
  f_X10_nurses_141 kX10_nurses FU v2 (0 : Int32) S135

def f_X10_nurses_68 (kX10_nurses : Int32 → Int32 → Int32 → Int32 → Mem → Option Mem) : Nat → Int32 → Int32 → Int32 → Mem → Option Mem
  | 0, _, _, _, _ => none
  | n + 1, v2, v4, v5, S =>
  if v2 ≤ v5 then
  ((f_X10_goesOn v4 S).bind fun S105 =>
  if (S105.1 0 49) = (-1 : Int32) then
  (f_X10_nurses_129 kX10_nurses v2 S105)
  else
  (bnd (f_X10_angerBoth (1 : Int32) S105) fun r118 S118 =>
  if r118 < (S118.1 0 49) then
  (f_X10_nurses_129 kX10_nurses v2 S118)
  else
  (some S118)))
  else
  ((rd S 25 4 v5).bind fun x86 =>
  (rd S 26 4 v5).bind fun x94 =>
  (wr S 21 230 ((10 : Int32) + x86) x94).bind fun S95 =>
  f_X10_nurses_68 kX10_nurses n v2 v4 (v5 + 1) S95)

def f_X10_nurses_8 (kX10_nurses : Int32 → Int32 → Int32 → Int32 → Mem → Option Mem) : Nat → Int32 → Int32 → Int32 → Int32 → Int32 → Mem → Option Mem
  | 0, _, _, _, _, _, _ => none
  | n + 1, v1, v2, v3, v4, v5, S =>
  (rd S 2 14 (0 : Int32)).bind fun x15 =>
  if x15 ≤ v5 then
  (some S)
  else
  ((rd S 4 12 v5).bind fun x25 =>
  if x25 = v3 then
  ((wr S 26 4 v1 v5).bind fun S40 =>
  (kX10_nurses (v1 + (1 : Int32)) v2 v3 v4 S40).bind fun S49 =>
  f_X10_nurses_8 kX10_nurses n v1 v2 v3 v4 (v5 + 1) S49)
  else
  (f_X10_nurses_8 kX10_nurses n v1 v2 v3 v4 (v5 + 1) S))

def f_X10_nursesG (kX10_nurses : Int32 → Int32 → Int32 → Int32 → Mem → Option Mem) (v1 : Int32) (v2 : Int32) (v3 : Int32) (v4 : Int32) (S : Mem) : Option Mem :=
  if v2 ≤ v1 then
  ((f_X10_copies (1 : Int32) (0 : Int32) S).bind fun S62 =>
  f_X10_nurses_68 kX10_nurses FU v2 v4 (0 : Int32) S62)
  else
  (f_X10_nurses_8 kX10_nurses FU v1 v2 v3 v4 (0 : Int32) S)

set_option maxHeartbeats 4000000 in
set_option maxRecDepth 100000 in
theorem c_X10_nurses_141 {X : XT} {loc : Nat → Nat} {dd : Nat} {Sf : Mem} (hX : AC X loc RX10 cX10_nurses none 6 (dd + 1) 0 0) (hQ : RetV X SKM loc 0 0 Sf) (hd0 : 8 ≤ dd) {kX10_nurses : Int32 → Int32 → Int32 → Int32 → Mem → Option Mem} (hkX10_nurses : ∀ {u0 : Int32} {u1 : Int32} {u2 : Int32} {u3 : Int32} {S Sf : Mem}, kX10_nurses u0 u1 u2 u3 S = some Sf → MetV yX10_nurses cX10_nurses 6 none dd [.ref 0, .int u0, .int u1, .int u2, .int u3] SKM S Sf) : ∀ (n : Nat) (v2 : Int32) (v5 : Int32) (S : Mem), f_X10_nurses_141 kX10_nurses n v2 v5 S = some Sf → AW X SKM loc 0 0 141 [(0, .ref 0), (2, .int v2), (5, .int v5)] [] S := by
  intro n
  induction n with
  | zero => intro v2 v5 S h; cases h
  | succ n ih =>
    intro v2 v5 S h
    unfold f_X10_nurses_141 at h
    refine aw_iload (pc := 141) hX dX10_nurses_141 2 rfl ?_
    refine aw_iload_n (pc := 143) hX dX10_nurses_143 rfl 1 rfl ?_
    refine aw_icmp_ge (pc := 144) hX (tgt := 167) dX10_nurses_144 (by decide) (fun c144 => ?_) (fun c144 => ?_)
    · rw [if_pos c144] at h
      cases h
      exact aw_vret hX hQ dX10_nurses_167
    · rw [if_neg c144] at h
      refine aw_aload_n (pc := 147) hX dX10_nurses_147 rfl 0 rfl ?_
      refine gf_X10_96 (pc := 148) hX km0 rfl dX10_nurses_148 ?_
      refine aw_iload (pc := 151) hX dX10_nurses_151 2 rfl ?_
      refine aw_aload_n (pc := 153) hX dX10_nurses_153 rfl 0 rfl ?_
      refine gf_X10_93 (pc := 154) hX km0 rfl dX10_nurses_154 ?_
      refine aw_iload (pc := 157) hX dX10_nurses_157 2 rfl ?_
      obtain ⟨x159, hx159, h⟩ := ob h
      refine aw_iald (pc := 159) hX km26 hx159 dX10_nurses_159 ?_
      obtain ⟨S160, hS160, h⟩ := ob h
      refine aw_iast (pc := 160) hX km27 hS160 dX10_nurses_160 ?_
      refine aw_iinc (v := (v5 + 1)) (ls' := [(5, .int (v5 + 1)), (0, .ref 0), (2, .int v2)]) (pc := 161) hX dX10_nurses_161 (pos := 2) rfl (by first | rfl | decide) (by decide) rfl ?_
      refine aw_goto (tgt := 141) (pc := 164) hX dX10_nurses_164 (by decide) ?_
      refine aw_sub (ls' := [(0, .ref 0), (2, .int v2), (5, .int (v5 + 1))]) [1, 2, 0] rfl ?_
      exact ih v2 (v5 + 1) S160 h

set_option maxHeartbeats 4000000 in
set_option maxRecDepth 100000 in
theorem c_X10_nurses_129 {X : XT} {loc : Nat → Nat} {dd : Nat} {Sf : Mem} (hX : AC X loc RX10 cX10_nurses none 6 (dd + 1) 0 0) (hQ : RetV X SKM loc 0 0 Sf) (hd0 : 8 ≤ dd) {kX10_nurses : Int32 → Int32 → Int32 → Int32 → Mem → Option Mem} (hkX10_nurses : ∀ {u0 : Int32} {u1 : Int32} {u2 : Int32} {u3 : Int32} {S Sf : Mem}, kX10_nurses u0 u1 u2 u3 S = some Sf → MetV yX10_nurses cX10_nurses 6 none dd [.ref 0, .int u0, .int u1, .int u2, .int u3] SKM S Sf) (v2 : Int32) (S : Mem) (h : f_X10_nurses_129 kX10_nurses v2 S = some Sf) : AW X SKM loc 0 0 129 [(0, .ref 0), (2, .int v2)] [] S := by
  unfold f_X10_nurses_129 at h
  refine aw_aload_n (pc := 129) hX dX10_nurses_129 rfl 0 rfl ?_
  refine aw_aload_n (pc := 130) hX dX10_nurses_130 rfl 0 rfl ?_
  refine aw_iconst (v := (1 : Int32)) (pc := 131) hX dX10_nurses_131 (by decide) ?_
  obtain ⟨r132, S132, hr132, h⟩ := ob2 h
  refine aw_cVI (pc := 132) (As := [.int (1 : Int32)]) (rest := [.ref 0]) hX (c_X10_angerBoth hr132) ok_X10_angerBoth kw_7_185 im_X10_angerBoth se_X10_angerBoth rfl km0 rfl (Nat.succ_le_succ (Nat.le_trans (by decide) hd0)) (Nat.le_of_ble_eq_true rfl) rfl dX10_nurses_132 (Nat.le_refl 0) (Nat.le_refl 0) ?_
  refine pf_X10_438 (pc := 135) hX km0 rfl dX10_nurses_135 ?_
  obtain ⟨S135, eS135, h⟩ := on h
  refine aw_S eS135 ?_
  refine aw_iconst (v := (0 : Int32)) (pc := 138) hX dX10_nurses_138 (by decide) ?_
  refine aw_istore (ls' := [(5, .int (0 : Int32)), (0, .ref 0), (2, .int v2)]) (pc := 139) hX dX10_nurses_139 (by decide) rfl ?_
  refine aw_sub (ls' := [(0, .ref 0), (2, .int v2), (5, .int (0 : Int32))]) [1, 2, 0] rfl ?_
  exact c_X10_nurses_141 hX hQ hd0 hkX10_nurses FU v2 (0 : Int32) S135 h

set_option maxHeartbeats 4000000 in
set_option maxRecDepth 100000 in
theorem c_X10_nurses_68 {X : XT} {loc : Nat → Nat} {dd : Nat} {Sf : Mem} (hX : AC X loc RX10 cX10_nurses none 6 (dd + 1) 0 0) (hQ : RetV X SKM loc 0 0 Sf) (hd0 : 8 ≤ dd) {kX10_nurses : Int32 → Int32 → Int32 → Int32 → Mem → Option Mem} (hkX10_nurses : ∀ {u0 : Int32} {u1 : Int32} {u2 : Int32} {u3 : Int32} {S Sf : Mem}, kX10_nurses u0 u1 u2 u3 S = some Sf → MetV yX10_nurses cX10_nurses 6 none dd [.ref 0, .int u0, .int u1, .int u2, .int u3] SKM S Sf) : ∀ (n : Nat) (v2 : Int32) (v4 : Int32) (v5 : Int32) (S : Mem), f_X10_nurses_68 kX10_nurses n v2 v4 v5 S = some Sf → AW X SKM loc 0 0 68 [(0, .ref 0), (2, .int v2), (4, .int v4), (5, .int v5)] [] S := by
  intro n
  induction n with
  | zero => intro v2 v4 v5 S h; cases h
  | succ n ih =>
    intro v2 v4 v5 S h
    unfold f_X10_nurses_68 at h
    refine aw_iload (pc := 68) hX dX10_nurses_68 3 rfl ?_
    refine aw_iload_n (pc := 70) hX dX10_nurses_70 rfl 1 rfl ?_
    refine aw_icmp_ge (pc := 71) hX (tgt := 102) dX10_nurses_71 (by decide) (fun c71 => ?_) (fun c71 => ?_)
    · rw [if_pos c71] at h
      refine aw_aload_n (pc := 102) hX dX10_nurses_102 rfl 0 rfl ?_
      refine aw_iload (pc := 103) hX dX10_nurses_103 2 rfl ?_
      obtain ⟨S105, hr105, h⟩ := ob h
      refine aw_cVV (pc := 105) (As := [.int v4]) (rest := []) hX (c_X10_goesOn hr105) ok_X10_goesOn kw_7_169 im_X10_goesOn se_X10_goesOn rfl km0 rfl (Nat.succ_le_succ (Nat.le_trans (by decide) hd0)) (Nat.le_of_ble_eq_true rfl) rfl dX10_nurses_105 (Nat.le_refl 0) (Nat.le_refl 0) ?_
      refine aw_aload_n (pc := 108) hX dX10_nurses_108 rfl 0 rfl ?_
      refine gf_X10_438 (pc := 109) hX km0 rfl dX10_nurses_109 ?_
      refine aw_iconst (v := (-1 : Int32)) (pc := 112) hX dX10_nurses_112 (by decide) ?_
      refine aw_icmp_eq (pc := 113) hX (tgt := 129) dX10_nurses_113 (by decide) (fun c113 => ?_) (fun c113 => ?_)
      · rw [if_pos c113] at h
        refine aw_sub (ls' := [(0, .ref 0), (2, .int v2)]) [0, 1] rfl ?_
        exact c_X10_nurses_129 hX hQ hd0 hkX10_nurses v2 S105 h
      · rw [if_neg c113] at h
        refine aw_aload_n (pc := 116) hX dX10_nurses_116 rfl 0 rfl ?_
        refine aw_iconst (v := (1 : Int32)) (pc := 117) hX dX10_nurses_117 (by decide) ?_
        obtain ⟨r118, S118, hr118, h⟩ := ob2 h
        refine aw_cVI (pc := 118) (As := [.int (1 : Int32)]) (rest := []) hX (c_X10_angerBoth hr118) ok_X10_angerBoth kw_7_185 im_X10_angerBoth se_X10_angerBoth rfl km0 rfl (Nat.succ_le_succ (Nat.le_trans (by decide) hd0)) (Nat.le_of_ble_eq_true rfl) rfl dX10_nurses_118 (Nat.le_refl 0) (Nat.le_refl 0) ?_
        refine aw_aload_n (pc := 121) hX dX10_nurses_121 rfl 0 rfl ?_
        refine gf_X10_438 (pc := 122) hX km0 rfl dX10_nurses_122 ?_
        refine aw_icmp_lt (pc := 125) hX (tgt := 129) dX10_nurses_125 (by decide) (fun c125 => ?_) (fun c125 => ?_)
        · rw [if_pos c125] at h
          refine aw_sub (ls' := [(0, .ref 0), (2, .int v2)]) [0, 1] rfl ?_
          exact c_X10_nurses_129 hX hQ hd0 hkX10_nurses v2 S118 h
        · rw [if_neg c125] at h
          cases h
          exact aw_vret hX hQ dX10_nurses_128
    · rw [if_neg c71] at h
      refine aw_aload_n (pc := 74) hX dX10_nurses_74 rfl 0 rfl ?_
      refine gf_X10_75 (pc := 75) hX km0 rfl dX10_nurses_75 ?_
      refine aw_bipush (v := (10 : Int32)) (pc := 78) hX dX10_nurses_78 (by decide) ?_
      refine aw_aload_n (pc := 80) hX dX10_nurses_80 rfl 0 rfl ?_
      refine gf_X10_90 (pc := 81) hX km0 rfl dX10_nurses_81 ?_
      refine aw_iload (pc := 84) hX dX10_nurses_84 3 rfl ?_
      obtain ⟨x86, hx86, h⟩ := ob h
      refine aw_iald (pc := 86) hX km25 hx86 dX10_nurses_86 ?_
      refine aw_iadd (pc := 87) hX dX10_nurses_87 ?_
      refine aw_aload_n (pc := 88) hX dX10_nurses_88 rfl 0 rfl ?_
      refine gf_X10_93 (pc := 89) hX km0 rfl dX10_nurses_89 ?_
      refine aw_iload (pc := 92) hX dX10_nurses_92 3 rfl ?_
      obtain ⟨x94, hx94, h⟩ := ob h
      refine aw_iald (pc := 94) hX km26 hx94 dX10_nurses_94 ?_
      obtain ⟨S95, hS95, h⟩ := ob h
      refine aw_iast (pc := 95) hX km21 hS95 dX10_nurses_95 ?_
      refine aw_iinc (v := (v5 + 1)) (ls' := [(5, .int (v5 + 1)), (0, .ref 0), (2, .int v2), (4, .int v4)]) (pc := 96) hX dX10_nurses_96 (pos := 3) rfl (by first | rfl | decide) (by decide) rfl ?_
      refine aw_goto (tgt := 68) (pc := 99) hX dX10_nurses_99 (by decide) ?_
      refine aw_sub (ls' := [(0, .ref 0), (2, .int v2), (4, .int v4), (5, .int (v5 + 1))]) [1, 2, 3, 0] rfl ?_
      exact ih v2 v4 (v5 + 1) S95 h

set_option maxHeartbeats 4000000 in
set_option maxRecDepth 100000 in
theorem c_X10_nurses_8 {X : XT} {loc : Nat → Nat} {dd : Nat} {Sf : Mem} (hX : AC X loc RX10 cX10_nurses none 6 (dd + 1) 0 0) (hQ : RetV X SKM loc 0 0 Sf) (hd0 : 8 ≤ dd) {kX10_nurses : Int32 → Int32 → Int32 → Int32 → Mem → Option Mem} (hkX10_nurses : ∀ {u0 : Int32} {u1 : Int32} {u2 : Int32} {u3 : Int32} {S Sf : Mem}, kX10_nurses u0 u1 u2 u3 S = some Sf → MetV yX10_nurses cX10_nurses 6 none dd [.ref 0, .int u0, .int u1, .int u2, .int u3] SKM S Sf) : ∀ (n : Nat) (v1 : Int32) (v2 : Int32) (v3 : Int32) (v4 : Int32) (v5 : Int32) (S : Mem), f_X10_nurses_8 kX10_nurses n v1 v2 v3 v4 v5 S = some Sf → AW X SKM loc 0 0 8 [(0, .ref 0), (1, .int v1), (2, .int v2), (3, .int v3), (4, .int v4), (5, .int v5)] [] S := by
  intro n
  induction n with
  | zero => intro v1 v2 v3 v4 v5 S h; cases h
  | succ n ih =>
    intro v1 v2 v3 v4 v5 S h
    unfold f_X10_nurses_8 at h
    refine aw_iload (pc := 8) hX dX10_nurses_8 5 rfl ?_
    refine aw_aload_n (pc := 10) hX dX10_nurses_10 rfl 0 rfl ?_
    refine gf_X10_13 (pc := 11) hX km0 rfl dX10_nurses_11 ?_
    refine aw_iconst (v := (0 : Int32)) (pc := 14) hX dX10_nurses_14 (by decide) ?_
    obtain ⟨x15, hx15, h⟩ := ob h
    refine aw_iald (pc := 15) hX km2 hx15 dX10_nurses_15 ?_
    refine aw_icmp_ge (pc := 16) hX (tgt := 58) dX10_nurses_16 (by decide) (fun c16 => ?_) (fun c16 => ?_)
    · rw [if_pos c16] at h
      cases h
      exact aw_vret hX hQ dX10_nurses_58
    · rw [if_neg c16] at h
      refine aw_aload_n (pc := 19) hX dX10_nurses_19 rfl 0 rfl ?_
      refine gf_X10_19 (pc := 20) hX km0 rfl dX10_nurses_20 ?_
      refine aw_iload (pc := 23) hX dX10_nurses_23 5 rfl ?_
      obtain ⟨x25, hx25, h⟩ := ob h
      refine aw_iald (pc := 25) hX km4 hx25 dX10_nurses_25 ?_
      refine aw_iload_n (pc := 26) hX dX10_nurses_26 rfl 3 rfl ?_
      refine aw_icmp_eq (pc := 27) hX (tgt := 33) dX10_nurses_27 (by decide) (fun c27 => ?_) (fun c27 => ?_)
      · rw [if_pos c27] at h
        refine aw_aload_n (pc := 33) hX dX10_nurses_33 rfl 0 rfl ?_
        refine gf_X10_93 (pc := 34) hX km0 rfl dX10_nurses_34 ?_
        refine aw_iload_n (pc := 37) hX dX10_nurses_37 rfl 1 rfl ?_
        refine aw_iload (pc := 38) hX dX10_nurses_38 5 rfl ?_
        obtain ⟨S40, hS40, h⟩ := ob h
        refine aw_iast (pc := 40) hX km26 hS40 dX10_nurses_40 ?_
        refine aw_aload_n (pc := 41) hX dX10_nurses_41 rfl 0 rfl ?_
        refine aw_iload_n (pc := 42) hX dX10_nurses_42 rfl 1 rfl ?_
        refine aw_iconst (v := (1 : Int32)) (pc := 43) hX dX10_nurses_43 (by decide) ?_
        refine aw_iadd (pc := 44) hX dX10_nurses_44 ?_
        refine aw_iload_n (pc := 45) hX dX10_nurses_45 rfl 2 rfl ?_
        refine aw_iload_n (pc := 46) hX dX10_nurses_46 rfl 3 rfl ?_
        refine aw_iload (pc := 47) hX dX10_nurses_47 4 rfl ?_
        obtain ⟨S49, hr49, h⟩ := ob h
        refine aw_cVV (pc := 49) (As := [.int (v1 + (1 : Int32)), .int v2, .int v3, .int v4]) (rest := []) hX (hkX10_nurses hr49) ok_X10_nurses kw_7_209 im_X10_nurses se_X10_nurses rfl km0 rfl (Nat.le_refl _) (Nat.le_of_ble_eq_true rfl) rfl dX10_nurses_49 (Nat.le_refl 0) (Nat.le_refl 0) ?_
        refine aw_iinc (v := (v5 + 1)) (ls' := [(5, .int (v5 + 1)), (0, .ref 0), (1, .int v1), (2, .int v2), (3, .int v3), (4, .int v4)]) (pc := 52) hX dX10_nurses_52 (pos := 5) rfl (by first | rfl | decide) (by decide) rfl ?_
        refine aw_goto (tgt := 8) (pc := 55) hX dX10_nurses_55 (by decide) ?_
        refine aw_sub (ls' := [(0, .ref 0), (1, .int v1), (2, .int v2), (3, .int v3), (4, .int v4), (5, .int (v5 + 1))]) [1, 2, 3, 4, 5, 0] rfl ?_
        exact ih v1 v2 v3 v4 (v5 + 1) S49 h
      · rw [if_neg c27] at h
        refine aw_goto (tgt := 52) (pc := 30) hX dX10_nurses_30 (by decide) ?_
        refine aw_iinc (v := (v5 + 1)) (ls' := [(5, .int (v5 + 1)), (0, .ref 0), (1, .int v1), (2, .int v2), (3, .int v3), (4, .int v4)]) (pc := 52) hX dX10_nurses_52 (pos := 5) rfl (by first | rfl | decide) (by decide) rfl ?_
        refine aw_goto (tgt := 8) (pc := 55) hX dX10_nurses_55 (by decide) ?_
        refine aw_sub (ls' := [(0, .ref 0), (1, .int v1), (2, .int v2), (3, .int v3), (4, .int v4), (5, .int (v5 + 1))]) [1, 2, 3, 4, 5, 0] rfl ?_
        exact ih v1 v2 v3 v4 (v5 + 1) S h

set_option maxHeartbeats 4000000 in
set_option maxRecDepth 100000 in
theorem c_X10_nursesG {dd : Nat} {v1 : Int32} {v2 : Int32} {v3 : Int32} {v4 : Int32} {S : Mem} {Sf : Mem} (hd0 : 8 ≤ dd) {kX10_nurses : Int32 → Int32 → Int32 → Int32 → Mem → Option Mem} (hkX10_nurses : ∀ {u0 : Int32} {u1 : Int32} {u2 : Int32} {u3 : Int32} {S Sf : Mem}, kX10_nurses u0 u1 u2 u3 S = some Sf → MetV yX10_nurses cX10_nurses 6 none dd [.ref 0, .int u0, .int u1, .int u2, .int u3] SKM S Sf) (h : f_X10_nursesG kX10_nurses v1 v2 v3 v4 S = some Sf) : MetV yX10_nurses cX10_nurses 6 none (dd + 1) [.ref 0, .int v1, .int v2, .int v3, .int v4] SKM S Sf := by
  refine MetV.intro (by decide +kernel) (Nat.le_of_ble_eq_true rfl) (fun X loc hX hQ => ?_)
  unfold f_X10_nursesG at h
  show AW X SKM loc 0 0 0 [(0, .ref 0), (1, .int v1), (2, .int v2), (3, .int v3), (4, .int v4)] [] S
  refine aw_iload_n (pc := 0) hX dX10_nurses_0 rfl 1 rfl ?_
  refine aw_iload_n (pc := 1) hX dX10_nurses_1 rfl 2 rfl ?_
  refine aw_icmp_ge (pc := 2) hX (tgt := 59) dX10_nurses_2 (by decide) (fun c2 => ?_) (fun c2 => ?_)
  · rw [if_pos c2] at h
    refine aw_aload_n (pc := 59) hX dX10_nurses_59 rfl 0 rfl ?_
    refine aw_iconst (v := (1 : Int32)) (pc := 60) hX dX10_nurses_60 (by decide) ?_
    refine aw_iconst (v := (0 : Int32)) (pc := 61) hX dX10_nurses_61 (by decide) ?_
    obtain ⟨S62, hr62, h⟩ := ob h
    refine aw_cVV (pc := 62) (As := [.int (1 : Int32), .int (0 : Int32)]) (rest := []) hX (c_X10_copies hr62) ok_X10_copies kw_7_110 im_X10_copies se_X10_copies rfl km0 rfl (Nat.succ_le_succ (Nat.le_trans (by decide) hd0)) (Nat.le_of_ble_eq_true rfl) rfl dX10_nurses_62 (Nat.le_refl 0) (Nat.le_refl 0) ?_
    refine aw_iconst (v := (0 : Int32)) (pc := 65) hX dX10_nurses_65 (by decide) ?_
    refine aw_istore (ls' := [(5, .int (0 : Int32)), (0, .ref 0), (1, .int v1), (2, .int v2), (3, .int v3), (4, .int v4)]) (pc := 66) hX dX10_nurses_66 (by decide) rfl ?_
    refine aw_sub (ls' := [(0, .ref 0), (2, .int v2), (4, .int v4), (5, .int (0 : Int32))]) [1, 3, 5, 0] rfl ?_
    exact c_X10_nurses_68 hX hQ hd0 hkX10_nurses FU v2 v4 (0 : Int32) S62 h
  · rw [if_neg c2] at h
    refine aw_iconst (v := (0 : Int32)) (pc := 5) hX dX10_nurses_5 (by decide) ?_
    refine aw_istore (ls' := [(5, .int (0 : Int32)), (0, .ref 0), (1, .int v1), (2, .int v2), (3, .int v3), (4, .int v4)]) (pc := 6) hX dX10_nurses_6 (by decide) rfl ?_
    refine aw_sub (ls' := [(0, .ref 0), (1, .int v1), (2, .int v2), (3, .int v3), (4, .int v4), (5, .int (0 : Int32))]) [1, 2, 3, 4, 5, 0] rfl ?_
    exact c_X10_nurses_8 hX hQ hd0 hkX10_nurses FU v1 v2 v3 v4 (0 : Int32) S h

def f_X10_primary_194 (kX10_expression : Mem → Option Mem) (t1 : Int32) (t2 : Int32) (S : Mem) : Option Mem :=
  (f_X10_puts t1 t2 S).bind fun S194 =>
  (f_X10_goOn S194).bind fun S198 =>
  some S198

def f_X10_primary_176 (kX10_expression : Mem → Option Mem) (v1 : Int32) (t1 : Int32) (S : Mem) : Option Mem :=
  if v1 = 0 then
  (f_X10_primary_194 kX10_expression t1 ((S.1 0 21) - (15 : Int32)) S)
  else
  (f_X10_primary_194 kX10_expression t1 (S.1 0 21) S)

def f_X10_primary_162 (kX10_expression : Mem → Option Mem) (v1 : Int32) (S : Mem) : Option Mem :=
  (f_X10_knot S).bind fun S163 =>
  if v1 = 0 then
  (f_X10_primary_176 kX10_expression v1 (1 : Int32) S163)
  else
  (f_X10_primary_176 kX10_expression v1 (0 : Int32) S163)

def f_X10_primary_157 (kX10_expression : Mem → Option Mem) (v1 : Int32) (S : Mem) : Option Mem :=
  (f_X10_wrong (1 : Int32) S).bind fun S159 =>
  f_X10_primary_162 kX10_expression v1 S159

def f_X10_primary_137 (kX10_expression : Mem → Option Mem) (v1 : Int32) (S : Mem) : Option Mem :=
  if v1 = 0 then
  (if (S.1 0 20) = 0 then
  (if (15 : Int32) ≤ (S.1 0 21) then
  (f_X10_primary_162 kX10_expression v1 S)
  else
  (f_X10_primary_157 kX10_expression v1 S))
  else
  (f_X10_primary_157 kX10_expression v1 S))
  else
  (f_X10_primary_162 kX10_expression v1 S)

def f_X10_primary_114 (kX10_expression : Mem → Option Mem) (t0 : Int32) (S : Mem) : Option Mem :=
  if t0 = 0 then
  (f_X10_primary_137 kX10_expression t0 S)
  else
  (if (S.1 0 21) ≤ (9999 : Int32) then
  (f_X10_primary_137 kX10_expression t0 S)
  else
  ((f_X10_wrong (2 : Int32) S).bind fun S131 =>
  f_X10_primary_162 kX10_expression t0 S131))

def f_X10_primary_78 (kX10_expression : Mem → Option Mem) (S : Mem) : Option Mem :=
  if (S.1 0 22) = 0 then
  (nxt (sI S 0 26 ((S.1 0 26) - (1 : Int32))) fun S93 =>
  (f_X10_token S93).bind fun S97 =>
  some S97)
  else
  (some S)

def f_X10_primary_31 (kX10_expression : Mem → Option Mem) (S : Mem) : Option Mem :=
  if (S.1 0 22) = 0 then
  (nxt (sI S 0 26 ((S.1 0 26) + (1 : Int32))) fun S46 =>
  (f_X10_token S46).bind fun S50 =>
  (kX10_expression S50).bind fun S54 =>
  if (S54.1 0 22) = 0 then
  (bnd (f_X10_isSign (41 : Int32) S54) fun r67 S67 =>
  if r67 = 0 then
  ((f_X10_wrong (1 : Int32) S67).bind fun S75 =>
  f_X10_primary_78 kX10_expression S75)
  else
  (f_X10_primary_78 kX10_expression S67))
  else
  (f_X10_primary_78 kX10_expression S54))
  else
  (some S)

def f_X10_primaryG (kX10_expression : Mem → Option Mem) (S : Mem) : Option Mem :=
  if (S.1 0 22) = 0 then
  (bnd (f_X10_isSign (40 : Int32) S) fun r11 S11 =>
  if r11 = 0 then
  (if (S11.1 0 20) = (2 : Int32) then
  (f_X10_primary_114 kX10_expression (1 : Int32) S11)
  else
  (f_X10_primary_114 kX10_expression (0 : Int32) S11))
  else
  (if (S11.1 0 26) = (8 : Int32) then
  ((f_X10_wrong (2 : Int32) S11).bind fun S28 =>
  f_X10_primary_31 kX10_expression S28)
  else
  (f_X10_primary_31 kX10_expression S11)))
  else
  (some S)

set_option maxHeartbeats 4000000 in
set_option maxRecDepth 100000 in
theorem c_X10_primary_194 {X : XT} {loc : Nat → Nat} {dd : Nat} {Sf : Mem} (hX : AC X loc RX10 cX10_primary none 2 (dd + 1) 0 0) (hQ : RetV X SKM loc 0 0 Sf) (hd0 : 8 ≤ dd) {kX10_expression : Mem → Option Mem} (hkX10_expression : ∀ {S Sf : Mem}, kX10_expression S = some Sf → MetV yX10_expression cX10_expression 1 none dd [.ref 0] SKM S Sf) (t1 : Int32) (t2 : Int32) (S : Mem) (h : f_X10_primary_194 kX10_expression t1 t2 S = some Sf) : AW X SKM loc 0 0 194 [(0, .ref 0)] [.int t2, .int t1, .ref 0] S := by
  unfold f_X10_primary_194 at h
  obtain ⟨S194, hr194, h⟩ := ob h
  refine aw_cVV (pc := 194) (As := [.int t1, .int t2]) (rest := []) hX (c_X10_puts hr194) ok_X10_puts kw_6_216 im_X10_puts se_X10_puts rfl km0 rfl (Nat.succ_le_succ (Nat.le_trans (by decide) hd0)) (Nat.le_of_ble_eq_true rfl) rfl dX10_primary_194 (Nat.le_refl 0) (Nat.le_refl 0) ?_
  refine aw_aload_n (pc := 197) hX dX10_primary_197 rfl 0 rfl ?_
  obtain ⟨S198, hr198, h⟩ := ob h
  refine aw_cVV (pc := 198) (As := []) (rest := []) hX (c_X10_goOn hr198) ok_X10_goOn kw_6_180 im_X10_goOn se_X10_goOn rfl km0 rfl (Nat.succ_le_succ (Nat.le_trans (by decide) hd0)) (Nat.le_of_ble_eq_true rfl) rfl dX10_primary_198 (Nat.le_refl 0) (Nat.le_refl 0) ?_
  cases h
  exact aw_vret hX hQ dX10_primary_201

set_option maxHeartbeats 4000000 in
set_option maxRecDepth 100000 in
theorem c_X10_primary_176 {X : XT} {loc : Nat → Nat} {dd : Nat} {Sf : Mem} (hX : AC X loc RX10 cX10_primary none 2 (dd + 1) 0 0) (hQ : RetV X SKM loc 0 0 Sf) (hd0 : 8 ≤ dd) {kX10_expression : Mem → Option Mem} (hkX10_expression : ∀ {S Sf : Mem}, kX10_expression S = some Sf → MetV yX10_expression cX10_expression 1 none dd [.ref 0] SKM S Sf) (v1 : Int32) (t1 : Int32) (S : Mem) (h : f_X10_primary_176 kX10_expression v1 t1 S = some Sf) : AW X SKM loc 0 0 176 [(0, .ref 0), (1, .int v1)] [.int t1, .ref 0] S := by
  unfold f_X10_primary_176 at h
  refine aw_iload_n (pc := 176) hX dX10_primary_176 rfl 1 rfl ?_
  refine aw_if_eq (pc := 177) hX (tgt := 187) dX10_primary_177 (by decide) (fun c177 => ?_) (fun c177 => ?_)
  · rw [if_pos c177] at h
    refine aw_aload_n (pc := 187) hX dX10_primary_187 rfl 0 rfl ?_
    refine gf_X10_153 (pc := 188) hX km0 rfl dX10_primary_188 ?_
    refine aw_bipush (v := (15 : Int32)) (pc := 191) hX dX10_primary_191 (by decide) ?_
    refine aw_isub (pc := 193) hX dX10_primary_193 ?_
    refine aw_sub (ls' := [(0, .ref 0)]) [0] rfl ?_
    exact c_X10_primary_194 hX hQ hd0 hkX10_expression t1 ((S.1 0 21) - (15 : Int32)) S h
  · rw [if_neg c177] at h
    refine aw_aload_n (pc := 180) hX dX10_primary_180 rfl 0 rfl ?_
    refine gf_X10_153 (pc := 181) hX km0 rfl dX10_primary_181 ?_
    refine aw_goto (tgt := 194) (pc := 184) hX dX10_primary_184 (by decide) ?_
    refine aw_sub (ls' := [(0, .ref 0)]) [0] rfl ?_
    exact c_X10_primary_194 hX hQ hd0 hkX10_expression t1 (S.1 0 21) S h

set_option maxHeartbeats 4000000 in
set_option maxRecDepth 100000 in
theorem c_X10_primary_162 {X : XT} {loc : Nat → Nat} {dd : Nat} {Sf : Mem} (hX : AC X loc RX10 cX10_primary none 2 (dd + 1) 0 0) (hQ : RetV X SKM loc 0 0 Sf) (hd0 : 8 ≤ dd) {kX10_expression : Mem → Option Mem} (hkX10_expression : ∀ {S Sf : Mem}, kX10_expression S = some Sf → MetV yX10_expression cX10_expression 1 none dd [.ref 0] SKM S Sf) (v1 : Int32) (S : Mem) (h : f_X10_primary_162 kX10_expression v1 S = some Sf) : AW X SKM loc 0 0 162 [(0, .ref 0), (1, .int v1)] [] S := by
  unfold f_X10_primary_162 at h
  refine aw_aload_n (pc := 162) hX dX10_primary_162 rfl 0 rfl ?_
  obtain ⟨S163, hr163, h⟩ := ob h
  refine aw_cVV (pc := 163) (As := []) (rest := []) hX (c_X10_knot hr163) ok_X10_knot kw_6_212 im_X10_knot se_X10_knot rfl km0 rfl (Nat.succ_le_succ (Nat.le_trans (by decide) hd0)) (Nat.le_of_ble_eq_true rfl) rfl dX10_primary_163 (Nat.le_refl 0) (Nat.le_refl 0) ?_
  refine aw_aload_n (pc := 166) hX dX10_primary_166 rfl 0 rfl ?_
  refine aw_iload_n (pc := 167) hX dX10_primary_167 rfl 1 rfl ?_
  refine aw_if_eq (pc := 168) hX (tgt := 175) dX10_primary_168 (by decide) (fun c168 => ?_) (fun c168 => ?_)
  · rw [if_pos c168] at h
    refine aw_iconst (v := (1 : Int32)) (pc := 175) hX dX10_primary_175 (by decide) ?_
    exact c_X10_primary_176 hX hQ hd0 hkX10_expression v1 (1 : Int32) S163 h
  · rw [if_neg c168] at h
    refine aw_iconst (v := (0 : Int32)) (pc := 171) hX dX10_primary_171 (by decide) ?_
    refine aw_goto (tgt := 176) (pc := 172) hX dX10_primary_172 (by decide) ?_
    exact c_X10_primary_176 hX hQ hd0 hkX10_expression v1 (0 : Int32) S163 h

set_option maxHeartbeats 4000000 in
set_option maxRecDepth 100000 in
theorem c_X10_primary_157 {X : XT} {loc : Nat → Nat} {dd : Nat} {Sf : Mem} (hX : AC X loc RX10 cX10_primary none 2 (dd + 1) 0 0) (hQ : RetV X SKM loc 0 0 Sf) (hd0 : 8 ≤ dd) {kX10_expression : Mem → Option Mem} (hkX10_expression : ∀ {S Sf : Mem}, kX10_expression S = some Sf → MetV yX10_expression cX10_expression 1 none dd [.ref 0] SKM S Sf) (v1 : Int32) (S : Mem) (h : f_X10_primary_157 kX10_expression v1 S = some Sf) : AW X SKM loc 0 0 157 [(0, .ref 0), (1, .int v1)] [] S := by
  unfold f_X10_primary_157 at h
  refine aw_aload_n (pc := 157) hX dX10_primary_157 rfl 0 rfl ?_
  refine aw_iconst (v := (1 : Int32)) (pc := 158) hX dX10_primary_158 (by decide) ?_
  obtain ⟨S159, hr159, h⟩ := ob h
  refine aw_cVV (pc := 159) (As := [.int (1 : Int32)]) (rest := []) hX (c_X10_wrong hr159) ok_X10_wrong kw_6_157 im_X10_wrong se_X10_wrong rfl km0 rfl (Nat.succ_le_succ (Nat.le_trans (by decide) hd0)) (Nat.le_of_ble_eq_true rfl) rfl dX10_primary_159 (Nat.le_refl 0) (Nat.le_refl 0) ?_
  exact c_X10_primary_162 hX hQ hd0 hkX10_expression v1 S159 h

set_option maxHeartbeats 4000000 in
set_option maxRecDepth 100000 in
theorem c_X10_primary_137 {X : XT} {loc : Nat → Nat} {dd : Nat} {Sf : Mem} (hX : AC X loc RX10 cX10_primary none 2 (dd + 1) 0 0) (hQ : RetV X SKM loc 0 0 Sf) (hd0 : 8 ≤ dd) {kX10_expression : Mem → Option Mem} (hkX10_expression : ∀ {S Sf : Mem}, kX10_expression S = some Sf → MetV yX10_expression cX10_expression 1 none dd [.ref 0] SKM S Sf) (v1 : Int32) (S : Mem) (h : f_X10_primary_137 kX10_expression v1 S = some Sf) : AW X SKM loc 0 0 137 [(0, .ref 0), (1, .int v1)] [] S := by
  unfold f_X10_primary_137 at h
  refine aw_iload_n (pc := 137) hX dX10_primary_137 rfl 1 rfl ?_
  refine aw_if_ne (pc := 138) hX (tgt := 162) dX10_primary_138 (by decide) (fun c138 => ?_) (fun c138 => ?_)
  · rw [if_neg c138] at h
    exact c_X10_primary_162 hX hQ hd0 hkX10_expression v1 S h
  · rw [if_pos c138] at h
    refine aw_aload_n (pc := 141) hX dX10_primary_141 rfl 0 rfl ?_
    refine gf_X10_143 (pc := 142) hX km0 rfl dX10_primary_142 ?_
    refine aw_if_ne (pc := 145) hX (tgt := 157) dX10_primary_145 (by decide) (fun c145 => ?_) (fun c145 => ?_)
    · rw [if_neg c145] at h
      exact c_X10_primary_157 hX hQ hd0 hkX10_expression v1 S h
    · rw [if_pos c145] at h
      refine aw_aload_n (pc := 148) hX dX10_primary_148 rfl 0 rfl ?_
      refine gf_X10_153 (pc := 149) hX km0 rfl dX10_primary_149 ?_
      refine aw_bipush (v := (15 : Int32)) (pc := 152) hX dX10_primary_152 (by decide) ?_
      refine aw_icmp_ge (pc := 154) hX (tgt := 162) dX10_primary_154 (by decide) (fun c154 => ?_) (fun c154 => ?_)
      · rw [if_pos c154] at h
        exact c_X10_primary_162 hX hQ hd0 hkX10_expression v1 S h
      · rw [if_neg c154] at h
        exact c_X10_primary_157 hX hQ hd0 hkX10_expression v1 S h

set_option maxHeartbeats 4000000 in
set_option maxRecDepth 100000 in
theorem c_X10_primary_114 {X : XT} {loc : Nat → Nat} {dd : Nat} {Sf : Mem} (hX : AC X loc RX10 cX10_primary none 2 (dd + 1) 0 0) (hQ : RetV X SKM loc 0 0 Sf) (hd0 : 8 ≤ dd) {kX10_expression : Mem → Option Mem} (hkX10_expression : ∀ {S Sf : Mem}, kX10_expression S = some Sf → MetV yX10_expression cX10_expression 1 none dd [.ref 0] SKM S Sf) (t0 : Int32) (S : Mem) (h : f_X10_primary_114 kX10_expression t0 S = some Sf) : AW X SKM loc 0 0 114 [(0, .ref 0)] [.int t0] S := by
  unfold f_X10_primary_114 at h
  refine aw_istore_n (ls' := [(1, .int t0), (0, .ref 0)]) (pc := 114) hX dX10_primary_114 rfl (by decide) rfl ?_
  refine aw_iload_n (pc := 115) hX dX10_primary_115 rfl 0 rfl ?_
  refine aw_if_eq (pc := 116) hX (tgt := 137) dX10_primary_116 (by decide) (fun c116 => ?_) (fun c116 => ?_)
  · rw [if_pos c116] at h
    refine aw_sub (ls' := [(0, .ref 0), (1, .int t0)]) [1, 0] rfl ?_
    exact c_X10_primary_137 hX hQ hd0 hkX10_expression t0 S h
  · rw [if_neg c116] at h
    refine aw_aload_n (pc := 119) hX dX10_primary_119 rfl 1 rfl ?_
    refine gf_X10_153 (pc := 120) hX km0 rfl dX10_primary_120 ?_
    refine aw_sipush (v := (9999 : Int32)) (pc := 123) hX dX10_primary_123 (by decide) ?_
    refine aw_icmp_le (pc := 126) hX (tgt := 137) dX10_primary_126 (by decide) (fun c126 => ?_) (fun c126 => ?_)
    · rw [if_pos c126] at h
      refine aw_sub (ls' := [(0, .ref 0), (1, .int t0)]) [1, 0] rfl ?_
      exact c_X10_primary_137 hX hQ hd0 hkX10_expression t0 S h
    · rw [if_neg c126] at h
      refine aw_aload_n (pc := 129) hX dX10_primary_129 rfl 1 rfl ?_
      refine aw_iconst (v := (2 : Int32)) (pc := 130) hX dX10_primary_130 (by decide) ?_
      obtain ⟨S131, hr131, h⟩ := ob h
      refine aw_cVV (pc := 131) (As := [.int (2 : Int32)]) (rest := []) hX (c_X10_wrong hr131) ok_X10_wrong kw_6_157 im_X10_wrong se_X10_wrong rfl km0 rfl (Nat.succ_le_succ (Nat.le_trans (by decide) hd0)) (Nat.le_of_ble_eq_true rfl) rfl dX10_primary_131 (Nat.le_refl 0) (Nat.le_refl 0) ?_
      refine aw_goto (tgt := 162) (pc := 134) hX dX10_primary_134 (by decide) ?_
      refine aw_sub (ls' := [(0, .ref 0), (1, .int t0)]) [1, 0] rfl ?_
      exact c_X10_primary_162 hX hQ hd0 hkX10_expression t0 S131 h

set_option maxHeartbeats 4000000 in
set_option maxRecDepth 100000 in
theorem c_X10_primary_78 {X : XT} {loc : Nat → Nat} {dd : Nat} {Sf : Mem} (hX : AC X loc RX10 cX10_primary none 2 (dd + 1) 0 0) (hQ : RetV X SKM loc 0 0 Sf) (hd0 : 8 ≤ dd) {kX10_expression : Mem → Option Mem} (hkX10_expression : ∀ {S Sf : Mem}, kX10_expression S = some Sf → MetV yX10_expression cX10_expression 1 none dd [.ref 0] SKM S Sf) (S : Mem) (h : f_X10_primary_78 kX10_expression S = some Sf) : AW X SKM loc 0 0 78 [(0, .ref 0)] [] S := by
  unfold f_X10_primary_78 at h
  refine aw_aload_n (pc := 78) hX dX10_primary_78 rfl 0 rfl ?_
  refine gf_X10_178 (pc := 79) hX km0 rfl dX10_primary_79 ?_
  refine aw_if_eq (pc := 82) hX (tgt := 86) dX10_primary_82 (by decide) (fun c82 => ?_) (fun c82 => ?_)
  · rw [if_pos c82] at h
    refine aw_aload_n (pc := 86) hX dX10_primary_86 rfl 0 rfl ?_
    refine aw_dup (pc := 87) hX dX10_primary_87 rfl ?_
    refine gf_X10_264 (pc := 88) hX km0 rfl dX10_primary_88 ?_
    refine aw_iconst (v := (1 : Int32)) (pc := 91) hX dX10_primary_91 (by decide) ?_
    refine aw_isub (pc := 92) hX dX10_primary_92 ?_
    refine pf_X10_264 (pc := 93) hX km0 rfl dX10_primary_93 ?_
    obtain ⟨S93, eS93, h⟩ := on h
    refine aw_S eS93 ?_
    refine aw_aload_n (pc := 96) hX dX10_primary_96 rfl 0 rfl ?_
    obtain ⟨S97, hr97, h⟩ := ob h
    refine aw_cVV (pc := 97) (As := []) (rest := []) hX (c_X10_token hr97) ok_X10_token kw_6_123 im_X10_token se_X10_token rfl km0 rfl (Nat.succ_le_succ (Nat.le_trans (by decide) hd0)) (Nat.le_of_ble_eq_true rfl) rfl dX10_primary_97 (Nat.le_refl 0) (Nat.le_refl 0) ?_
    cases h
    exact aw_vret hX hQ dX10_primary_100
  · rw [if_neg c82] at h
    cases h
    exact aw_vret hX hQ dX10_primary_85

set_option maxHeartbeats 4000000 in
set_option maxRecDepth 100000 in
theorem c_X10_primary_31 {X : XT} {loc : Nat → Nat} {dd : Nat} {Sf : Mem} (hX : AC X loc RX10 cX10_primary none 2 (dd + 1) 0 0) (hQ : RetV X SKM loc 0 0 Sf) (hd0 : 8 ≤ dd) {kX10_expression : Mem → Option Mem} (hkX10_expression : ∀ {S Sf : Mem}, kX10_expression S = some Sf → MetV yX10_expression cX10_expression 1 none dd [.ref 0] SKM S Sf) (S : Mem) (h : f_X10_primary_31 kX10_expression S = some Sf) : AW X SKM loc 0 0 31 [(0, .ref 0)] [] S := by
  unfold f_X10_primary_31 at h
  refine aw_aload_n (pc := 31) hX dX10_primary_31 rfl 0 rfl ?_
  refine gf_X10_178 (pc := 32) hX km0 rfl dX10_primary_32 ?_
  refine aw_if_eq (pc := 35) hX (tgt := 39) dX10_primary_35 (by decide) (fun c35 => ?_) (fun c35 => ?_)
  · rw [if_pos c35] at h
    refine aw_aload_n (pc := 39) hX dX10_primary_39 rfl 0 rfl ?_
    refine aw_dup (pc := 40) hX dX10_primary_40 rfl ?_
    refine gf_X10_264 (pc := 41) hX km0 rfl dX10_primary_41 ?_
    refine aw_iconst (v := (1 : Int32)) (pc := 44) hX dX10_primary_44 (by decide) ?_
    refine aw_iadd (pc := 45) hX dX10_primary_45 ?_
    refine pf_X10_264 (pc := 46) hX km0 rfl dX10_primary_46 ?_
    obtain ⟨S46, eS46, h⟩ := on h
    refine aw_S eS46 ?_
    refine aw_aload_n (pc := 49) hX dX10_primary_49 rfl 0 rfl ?_
    obtain ⟨S50, hr50, h⟩ := ob h
    refine aw_cVV (pc := 50) (As := []) (rest := []) hX (c_X10_token hr50) ok_X10_token kw_6_123 im_X10_token se_X10_token rfl km0 rfl (Nat.succ_le_succ (Nat.le_trans (by decide) hd0)) (Nat.le_of_ble_eq_true rfl) rfl dX10_primary_50 (Nat.le_refl 0) (Nat.le_refl 0) ?_
    refine aw_aload_n (pc := 53) hX dX10_primary_53 rfl 0 rfl ?_
    obtain ⟨S54, hr54, h⟩ := ob h
    refine aw_cVV (pc := 54) (As := []) (rest := []) hX (hkX10_expression hr54) ok_X10_expression kw_6_196 im_X10_expression se_X10_expression rfl km0 rfl (Nat.le_refl _) (Nat.le_of_ble_eq_true rfl) rfl dX10_primary_54 (Nat.le_refl 0) (Nat.le_refl 0) ?_
    refine aw_aload_n (pc := 57) hX dX10_primary_57 rfl 0 rfl ?_
    refine gf_X10_178 (pc := 58) hX km0 rfl dX10_primary_58 ?_
    refine aw_if_ne (pc := 61) hX (tgt := 78) dX10_primary_61 (by decide) (fun c61 => ?_) (fun c61 => ?_)
    · rw [if_neg c61] at h
      exact c_X10_primary_78 hX hQ hd0 hkX10_expression S54 h
    · rw [if_pos c61] at h
      refine aw_aload_n (pc := 64) hX dX10_primary_64 rfl 0 rfl ?_
      refine aw_bipush (v := (41 : Int32)) (pc := 65) hX dX10_primary_65 (by decide) ?_
      obtain ⟨r67, S67, hr67, h⟩ := ob2 h
      refine aw_cVI (pc := 67) (As := [.int (41 : Int32)]) (rest := []) hX (c_X10_isSign hr67) ok_X10_isSign kw_6_232 im_X10_isSign se_X10_isSign rfl km0 rfl (Nat.succ_le_succ (Nat.le_trans (by decide) hd0)) (Nat.le_of_ble_eq_true rfl) rfl dX10_primary_67 (Nat.le_refl 0) (Nat.le_refl 0) ?_
      refine aw_if_ne (pc := 70) hX (tgt := 78) dX10_primary_70 (by decide) (fun c70 => ?_) (fun c70 => ?_)
      · rw [if_neg c70] at h
        exact c_X10_primary_78 hX hQ hd0 hkX10_expression S67 h
      · rw [if_pos c70] at h
        refine aw_aload_n (pc := 73) hX dX10_primary_73 rfl 0 rfl ?_
        refine aw_iconst (v := (1 : Int32)) (pc := 74) hX dX10_primary_74 (by decide) ?_
        obtain ⟨S75, hr75, h⟩ := ob h
        refine aw_cVV (pc := 75) (As := [.int (1 : Int32)]) (rest := []) hX (c_X10_wrong hr75) ok_X10_wrong kw_6_157 im_X10_wrong se_X10_wrong rfl km0 rfl (Nat.succ_le_succ (Nat.le_trans (by decide) hd0)) (Nat.le_of_ble_eq_true rfl) rfl dX10_primary_75 (Nat.le_refl 0) (Nat.le_refl 0) ?_
        exact c_X10_primary_78 hX hQ hd0 hkX10_expression S75 h
  · rw [if_neg c35] at h
    cases h
    exact aw_vret hX hQ dX10_primary_38

set_option maxHeartbeats 4000000 in
set_option maxRecDepth 100000 in
theorem c_X10_primaryG {dd : Nat} {S : Mem} {Sf : Mem} (hd0 : 8 ≤ dd) {kX10_expression : Mem → Option Mem} (hkX10_expression : ∀ {S Sf : Mem}, kX10_expression S = some Sf → MetV yX10_expression cX10_expression 1 none dd [.ref 0] SKM S Sf) (h : f_X10_primaryG kX10_expression S = some Sf) : MetV yX10_primary cX10_primary 2 none (dd + 1) [.ref 0] SKM S Sf := by
  refine MetV.intro (by decide +kernel) (Nat.le_of_ble_eq_true rfl) (fun X loc hX hQ => ?_)
  unfold f_X10_primaryG at h
  show AW X SKM loc 0 0 0 [(0, .ref 0)] [] S
  refine aw_aload_n (pc := 0) hX dX10_primary_0 rfl 0 rfl ?_
  refine gf_X10_178 (pc := 1) hX km0 rfl dX10_primary_1 ?_
  refine aw_if_eq (pc := 4) hX (tgt := 8) dX10_primary_4 (by decide) (fun c4 => ?_) (fun c4 => ?_)
  · rw [if_pos c4] at h
    refine aw_aload_n (pc := 8) hX dX10_primary_8 rfl 0 rfl ?_
    refine aw_bipush (v := (40 : Int32)) (pc := 9) hX dX10_primary_9 (by decide) ?_
    obtain ⟨r11, S11, hr11, h⟩ := ob2 h
    refine aw_cVI (pc := 11) (As := [.int (40 : Int32)]) (rest := []) hX (c_X10_isSign hr11) ok_X10_isSign kw_6_232 im_X10_isSign se_X10_isSign rfl km0 rfl (Nat.succ_le_succ (Nat.le_trans (by decide) hd0)) (Nat.le_of_ble_eq_true rfl) rfl dX10_primary_11 (Nat.le_refl 0) (Nat.le_refl 0) ?_
    refine aw_if_eq (pc := 14) hX (tgt := 101) dX10_primary_14 (by decide) (fun c14 => ?_) (fun c14 => ?_)
    · rw [if_pos c14] at h
      refine aw_aload_n (pc := 101) hX dX10_primary_101 rfl 0 rfl ?_
      refine gf_X10_143 (pc := 102) hX km0 rfl dX10_primary_102 ?_
      refine aw_iconst (v := (2 : Int32)) (pc := 105) hX dX10_primary_105 (by decide) ?_
      refine aw_icmp_ne (pc := 106) hX (tgt := 113) dX10_primary_106 (by decide) (fun c106 => ?_) (fun c106 => ?_)
      · rw [if_neg c106] at h
        refine aw_iconst (v := (0 : Int32)) (pc := 113) hX dX10_primary_113 (by decide) ?_
        exact c_X10_primary_114 hX hQ hd0 hkX10_expression (0 : Int32) S11 h
      · rw [if_pos c106] at h
        refine aw_iconst (v := (1 : Int32)) (pc := 109) hX dX10_primary_109 (by decide) ?_
        refine aw_goto (tgt := 114) (pc := 110) hX dX10_primary_110 (by decide) ?_
        exact c_X10_primary_114 hX hQ hd0 hkX10_expression (1 : Int32) S11 h
    · rw [if_neg c14] at h
      refine aw_aload_n (pc := 17) hX dX10_primary_17 rfl 0 rfl ?_
      refine gf_X10_264 (pc := 18) hX km0 rfl dX10_primary_18 ?_
      refine aw_bipush (v := (8 : Int32)) (pc := 21) hX dX10_primary_21 (by decide) ?_
      refine aw_icmp_ne (pc := 23) hX (tgt := 31) dX10_primary_23 (by decide) (fun c23 => ?_) (fun c23 => ?_)
      · rw [if_neg c23] at h
        exact c_X10_primary_31 hX hQ hd0 hkX10_expression S11 h
      · rw [if_pos c23] at h
        refine aw_aload_n (pc := 26) hX dX10_primary_26 rfl 0 rfl ?_
        refine aw_iconst (v := (2 : Int32)) (pc := 27) hX dX10_primary_27 (by decide) ?_
        obtain ⟨S28, hr28, h⟩ := ob h
        refine aw_cVV (pc := 28) (As := [.int (2 : Int32)]) (rest := []) hX (c_X10_wrong hr28) ok_X10_wrong kw_6_157 im_X10_wrong se_X10_wrong rfl km0 rfl (Nat.succ_le_succ (Nat.le_trans (by decide) hd0)) (Nat.le_of_ble_eq_true rfl) rfl dX10_primary_28 (Nat.le_refl 0) (Nat.le_refl 0) ?_
        exact c_X10_primary_31 hX hQ hd0 hkX10_expression S28 h
  · rw [if_neg c4] at h
    cases h
    exact aw_vret hX hQ dX10_primary_7

def f_X10_product_22 (kX10_primary : Mem → Option Mem) (R4 : Mem → Option Mem) (S : Mem) : Option Mem :=
  (f_X10_knot S).bind fun S28 =>
  (f_X10_goOn S28).bind fun S32 =>
  (kX10_primary S32).bind fun S36 =>
  (f_X10_puts (2 : Int32) (S.1 0 21) S36).bind fun S42 =>
  R4 S42

def f_X10_product_4 (kX10_primary : Mem → Option Mem) : Nat → Mem → Option Mem
  | 0, _ => none
  | n + 1, S =>
  bnd (f_X10_isSign (42 : Int32) S) fun r7 S7 =>
  if r7 = 0 then
  (bnd (f_X10_isSign (47 : Int32) S7) fun r16 S16 =>
  if r16 = 0 then
  (some S16)
  else
  (f_X10_product_22 kX10_primary (f_X10_product_4 kX10_primary n) S16))
  else
  (f_X10_product_22 kX10_primary (f_X10_product_4 kX10_primary n) S7)

def f_X10_productG (kX10_primary : Mem → Option Mem) (S : Mem) : Option Mem :=
  (kX10_primary S).bind fun S1 =>
  f_X10_product_4 kX10_primary FU S1

set_option maxHeartbeats 4000000 in
set_option maxRecDepth 100000 in
theorem c_X10_product_22 {X : XT} {loc : Nat → Nat} {dd : Nat} {Sf : Mem} (hX : AC X loc RX10 cX10_product none 2 (dd + 1) 0 0) (hQ : RetV X SKM loc 0 0 Sf) (hd0 : 8 ≤ dd) {kX10_primary : Mem → Option Mem} (hkX10_primary : ∀ {S Sf : Mem}, kX10_primary S = some Sf → MetV yX10_primary cX10_primary 2 none dd [.ref 0] SKM S Sf) {R4 : Mem → Option Mem} (IH4 : ∀ (S : Mem), R4 S = some Sf → AW X SKM loc 0 0 4 [(0, .ref 0)] [] S) (S : Mem) (h : f_X10_product_22 kX10_primary R4 S = some Sf) : AW X SKM loc 0 0 22 [(0, .ref 0)] [] S := by
  unfold f_X10_product_22 at h
  refine aw_aload_n (pc := 22) hX dX10_product_22 rfl 0 rfl ?_
  refine gf_X10_153 (pc := 23) hX km0 rfl dX10_product_23 ?_
  refine aw_istore_n (ls' := [(1, .int (S.1 0 21)), (0, .ref 0)]) (pc := 26) hX dX10_product_26 rfl (by decide) rfl ?_
  refine aw_aload_n (pc := 27) hX dX10_product_27 rfl 1 rfl ?_
  obtain ⟨S28, hr28, h⟩ := ob h
  refine aw_cVV (pc := 28) (As := []) (rest := []) hX (c_X10_knot hr28) ok_X10_knot kw_6_212 im_X10_knot se_X10_knot rfl km0 rfl (Nat.succ_le_succ (Nat.le_trans (by decide) hd0)) (Nat.le_of_ble_eq_true rfl) rfl dX10_product_28 (Nat.le_refl 0) (Nat.le_refl 0) ?_
  refine aw_aload_n (pc := 31) hX dX10_product_31 rfl 1 rfl ?_
  obtain ⟨S32, hr32, h⟩ := ob h
  refine aw_cVV (pc := 32) (As := []) (rest := []) hX (c_X10_goOn hr32) ok_X10_goOn kw_6_180 im_X10_goOn se_X10_goOn rfl km0 rfl (Nat.succ_le_succ (Nat.le_trans (by decide) hd0)) (Nat.le_of_ble_eq_true rfl) rfl dX10_product_32 (Nat.le_refl 0) (Nat.le_refl 0) ?_
  refine aw_aload_n (pc := 35) hX dX10_product_35 rfl 1 rfl ?_
  obtain ⟨S36, hr36, h⟩ := ob h
  refine aw_cVV (pc := 36) (As := []) (rest := []) hX (hkX10_primary hr36) ok_X10_primary kw_6_228 im_X10_primary se_X10_primary rfl km0 rfl (Nat.le_refl _) (Nat.le_of_ble_eq_true rfl) rfl dX10_product_36 (Nat.le_refl 0) (Nat.le_refl 0) ?_
  refine aw_aload_n (pc := 39) hX dX10_product_39 rfl 1 rfl ?_
  refine aw_iconst (v := (2 : Int32)) (pc := 40) hX dX10_product_40 (by decide) ?_
  refine aw_iload_n (pc := 41) hX dX10_product_41 rfl 0 rfl ?_
  obtain ⟨S42, hr42, h⟩ := ob h
  refine aw_cVV (pc := 42) (As := [.int (2 : Int32), .int (S.1 0 21)]) (rest := []) hX (c_X10_puts hr42) ok_X10_puts kw_6_216 im_X10_puts se_X10_puts rfl km0 rfl (Nat.succ_le_succ (Nat.le_trans (by decide) hd0)) (Nat.le_of_ble_eq_true rfl) rfl dX10_product_42 (Nat.le_refl 0) (Nat.le_refl 0) ?_
  refine aw_goto (tgt := 4) (pc := 45) hX dX10_product_45 (by decide) ?_
  refine aw_sub (ls' := [(0, .ref 0)]) [1] rfl ?_
  exact IH4 S42 h

set_option maxHeartbeats 4000000 in
set_option maxRecDepth 100000 in
theorem c_X10_product_4 {X : XT} {loc : Nat → Nat} {dd : Nat} {Sf : Mem} (hX : AC X loc RX10 cX10_product none 2 (dd + 1) 0 0) (hQ : RetV X SKM loc 0 0 Sf) (hd0 : 8 ≤ dd) {kX10_primary : Mem → Option Mem} (hkX10_primary : ∀ {S Sf : Mem}, kX10_primary S = some Sf → MetV yX10_primary cX10_primary 2 none dd [.ref 0] SKM S Sf) : ∀ (n : Nat) (S : Mem), f_X10_product_4 kX10_primary n S = some Sf → AW X SKM loc 0 0 4 [(0, .ref 0)] [] S := by
  intro n
  induction n with
  | zero => intro S h; cases h
  | succ n ih =>
    intro S h
    unfold f_X10_product_4 at h
    refine aw_aload_n (pc := 4) hX dX10_product_4 rfl 0 rfl ?_
    refine aw_bipush (v := (42 : Int32)) (pc := 5) hX dX10_product_5 (by decide) ?_
    obtain ⟨r7, S7, hr7, h⟩ := ob2 h
    refine aw_cVI (pc := 7) (As := [.int (42 : Int32)]) (rest := []) hX (c_X10_isSign hr7) ok_X10_isSign kw_6_232 im_X10_isSign se_X10_isSign rfl km0 rfl (Nat.succ_le_succ (Nat.le_trans (by decide) hd0)) (Nat.le_of_ble_eq_true rfl) rfl dX10_product_7 (Nat.le_refl 0) (Nat.le_refl 0) ?_
    refine aw_if_ne (pc := 10) hX (tgt := 22) dX10_product_10 (by decide) (fun c10 => ?_) (fun c10 => ?_)
    · rw [if_neg c10] at h
      exact c_X10_product_22 hX hQ hd0 hkX10_primary ih S7 h
    · rw [if_pos c10] at h
      refine aw_aload_n (pc := 13) hX dX10_product_13 rfl 0 rfl ?_
      refine aw_bipush (v := (47 : Int32)) (pc := 14) hX dX10_product_14 (by decide) ?_
      obtain ⟨r16, S16, hr16, h⟩ := ob2 h
      refine aw_cVI (pc := 16) (As := [.int (47 : Int32)]) (rest := []) hX (c_X10_isSign hr16) ok_X10_isSign kw_6_232 im_X10_isSign se_X10_isSign rfl km0 rfl (Nat.succ_le_succ (Nat.le_trans (by decide) hd0)) (Nat.le_of_ble_eq_true rfl) rfl dX10_product_16 (Nat.le_refl 0) (Nat.le_refl 0) ?_
      refine aw_if_eq (pc := 19) hX (tgt := 48) dX10_product_19 (by decide) (fun c19 => ?_) (fun c19 => ?_)
      · rw [if_pos c19] at h
        cases h
        exact aw_vret hX hQ dX10_product_48
      · rw [if_neg c19] at h
        exact c_X10_product_22 hX hQ hd0 hkX10_primary ih S16 h

set_option maxHeartbeats 4000000 in
set_option maxRecDepth 100000 in
theorem c_X10_productG {dd : Nat} {S : Mem} {Sf : Mem} (hd0 : 8 ≤ dd) {kX10_primary : Mem → Option Mem} (hkX10_primary : ∀ {S Sf : Mem}, kX10_primary S = some Sf → MetV yX10_primary cX10_primary 2 none dd [.ref 0] SKM S Sf) (h : f_X10_productG kX10_primary S = some Sf) : MetV yX10_product cX10_product 2 none (dd + 1) [.ref 0] SKM S Sf := by
  refine MetV.intro (by decide +kernel) (Nat.le_of_ble_eq_true rfl) (fun X loc hX hQ => ?_)
  unfold f_X10_productG at h
  show AW X SKM loc 0 0 0 [(0, .ref 0)] [] S
  refine aw_aload_n (pc := 0) hX dX10_product_0 rfl 0 rfl ?_
  obtain ⟨S1, hr1, h⟩ := ob h
  refine aw_cVV (pc := 1) (As := []) (rest := []) hX (hkX10_primary hr1) ok_X10_primary kw_6_228 im_X10_primary se_X10_primary rfl km0 rfl (Nat.le_refl _) (Nat.le_of_ble_eq_true rfl) rfl dX10_product_1 (Nat.le_refl 0) (Nat.le_refl 0) ?_
  exact c_X10_product_4 hX hQ hd0 hkX10_primary FU S1 h

def f_X10_sum_22 (kX10_product : Mem → Option Mem) (R4 : Mem → Option Mem) (S : Mem) : Option Mem :=
  (f_X10_knot S).bind fun S28 =>
  (f_X10_goOn S28).bind fun S32 =>
  (kX10_product S32).bind fun S36 =>
  (f_X10_puts (2 : Int32) (S.1 0 21) S36).bind fun S42 =>
  R4 S42

def f_X10_sum_4 (kX10_product : Mem → Option Mem) : Nat → Mem → Option Mem
  | 0, _ => none
  | n + 1, S =>
  bnd (f_X10_isSign (43 : Int32) S) fun r7 S7 =>
  if r7 = 0 then
  (bnd (f_X10_isSign (45 : Int32) S7) fun r16 S16 =>
  if r16 = 0 then
  (some S16)
  else
  (f_X10_sum_22 kX10_product (f_X10_sum_4 kX10_product n) S16))
  else
  (f_X10_sum_22 kX10_product (f_X10_sum_4 kX10_product n) S7)

def f_X10_sumG (kX10_product : Mem → Option Mem) (S : Mem) : Option Mem :=
  (kX10_product S).bind fun S1 =>
  f_X10_sum_4 kX10_product FU S1

set_option maxHeartbeats 4000000 in
set_option maxRecDepth 100000 in
theorem c_X10_sum_22 {X : XT} {loc : Nat → Nat} {dd : Nat} {Sf : Mem} (hX : AC X loc RX10 cX10_sum none 2 (dd + 1) 0 0) (hQ : RetV X SKM loc 0 0 Sf) (hd0 : 8 ≤ dd) {kX10_product : Mem → Option Mem} (hkX10_product : ∀ {S Sf : Mem}, kX10_product S = some Sf → MetV yX10_product cX10_product 2 none dd [.ref 0] SKM S Sf) {R4 : Mem → Option Mem} (IH4 : ∀ (S : Mem), R4 S = some Sf → AW X SKM loc 0 0 4 [(0, .ref 0)] [] S) (S : Mem) (h : f_X10_sum_22 kX10_product R4 S = some Sf) : AW X SKM loc 0 0 22 [(0, .ref 0)] [] S := by
  unfold f_X10_sum_22 at h
  refine aw_aload_n (pc := 22) hX dX10_sum_22 rfl 0 rfl ?_
  refine gf_X10_153 (pc := 23) hX km0 rfl dX10_sum_23 ?_
  refine aw_istore_n (ls' := [(1, .int (S.1 0 21)), (0, .ref 0)]) (pc := 26) hX dX10_sum_26 rfl (by decide) rfl ?_
  refine aw_aload_n (pc := 27) hX dX10_sum_27 rfl 1 rfl ?_
  obtain ⟨S28, hr28, h⟩ := ob h
  refine aw_cVV (pc := 28) (As := []) (rest := []) hX (c_X10_knot hr28) ok_X10_knot kw_6_212 im_X10_knot se_X10_knot rfl km0 rfl (Nat.succ_le_succ (Nat.le_trans (by decide) hd0)) (Nat.le_of_ble_eq_true rfl) rfl dX10_sum_28 (Nat.le_refl 0) (Nat.le_refl 0) ?_
  refine aw_aload_n (pc := 31) hX dX10_sum_31 rfl 1 rfl ?_
  obtain ⟨S32, hr32, h⟩ := ob h
  refine aw_cVV (pc := 32) (As := []) (rest := []) hX (c_X10_goOn hr32) ok_X10_goOn kw_6_180 im_X10_goOn se_X10_goOn rfl km0 rfl (Nat.succ_le_succ (Nat.le_trans (by decide) hd0)) (Nat.le_of_ble_eq_true rfl) rfl dX10_sum_32 (Nat.le_refl 0) (Nat.le_refl 0) ?_
  refine aw_aload_n (pc := 35) hX dX10_sum_35 rfl 1 rfl ?_
  obtain ⟨S36, hr36, h⟩ := ob h
  refine aw_cVV (pc := 36) (As := []) (rest := []) hX (hkX10_product hr36) ok_X10_product kw_6_224 im_X10_product se_X10_product rfl km0 rfl (Nat.le_refl _) (Nat.le_of_ble_eq_true rfl) rfl dX10_sum_36 (Nat.le_refl 0) (Nat.le_refl 0) ?_
  refine aw_aload_n (pc := 39) hX dX10_sum_39 rfl 1 rfl ?_
  refine aw_iconst (v := (2 : Int32)) (pc := 40) hX dX10_sum_40 (by decide) ?_
  refine aw_iload_n (pc := 41) hX dX10_sum_41 rfl 0 rfl ?_
  obtain ⟨S42, hr42, h⟩ := ob h
  refine aw_cVV (pc := 42) (As := [.int (2 : Int32), .int (S.1 0 21)]) (rest := []) hX (c_X10_puts hr42) ok_X10_puts kw_6_216 im_X10_puts se_X10_puts rfl km0 rfl (Nat.succ_le_succ (Nat.le_trans (by decide) hd0)) (Nat.le_of_ble_eq_true rfl) rfl dX10_sum_42 (Nat.le_refl 0) (Nat.le_refl 0) ?_
  refine aw_goto (tgt := 4) (pc := 45) hX dX10_sum_45 (by decide) ?_
  refine aw_sub (ls' := [(0, .ref 0)]) [1] rfl ?_
  exact IH4 S42 h

set_option maxHeartbeats 4000000 in
set_option maxRecDepth 100000 in
theorem c_X10_sum_4 {X : XT} {loc : Nat → Nat} {dd : Nat} {Sf : Mem} (hX : AC X loc RX10 cX10_sum none 2 (dd + 1) 0 0) (hQ : RetV X SKM loc 0 0 Sf) (hd0 : 8 ≤ dd) {kX10_product : Mem → Option Mem} (hkX10_product : ∀ {S Sf : Mem}, kX10_product S = some Sf → MetV yX10_product cX10_product 2 none dd [.ref 0] SKM S Sf) : ∀ (n : Nat) (S : Mem), f_X10_sum_4 kX10_product n S = some Sf → AW X SKM loc 0 0 4 [(0, .ref 0)] [] S := by
  intro n
  induction n with
  | zero => intro S h; cases h
  | succ n ih =>
    intro S h
    unfold f_X10_sum_4 at h
    refine aw_aload_n (pc := 4) hX dX10_sum_4 rfl 0 rfl ?_
    refine aw_bipush (v := (43 : Int32)) (pc := 5) hX dX10_sum_5 (by decide) ?_
    obtain ⟨r7, S7, hr7, h⟩ := ob2 h
    refine aw_cVI (pc := 7) (As := [.int (43 : Int32)]) (rest := []) hX (c_X10_isSign hr7) ok_X10_isSign kw_6_232 im_X10_isSign se_X10_isSign rfl km0 rfl (Nat.succ_le_succ (Nat.le_trans (by decide) hd0)) (Nat.le_of_ble_eq_true rfl) rfl dX10_sum_7 (Nat.le_refl 0) (Nat.le_refl 0) ?_
    refine aw_if_ne (pc := 10) hX (tgt := 22) dX10_sum_10 (by decide) (fun c10 => ?_) (fun c10 => ?_)
    · rw [if_neg c10] at h
      exact c_X10_sum_22 hX hQ hd0 hkX10_product ih S7 h
    · rw [if_pos c10] at h
      refine aw_aload_n (pc := 13) hX dX10_sum_13 rfl 0 rfl ?_
      refine aw_bipush (v := (45 : Int32)) (pc := 14) hX dX10_sum_14 (by decide) ?_
      obtain ⟨r16, S16, hr16, h⟩ := ob2 h
      refine aw_cVI (pc := 16) (As := [.int (45 : Int32)]) (rest := []) hX (c_X10_isSign hr16) ok_X10_isSign kw_6_232 im_X10_isSign se_X10_isSign rfl km0 rfl (Nat.succ_le_succ (Nat.le_trans (by decide) hd0)) (Nat.le_of_ble_eq_true rfl) rfl dX10_sum_16 (Nat.le_refl 0) (Nat.le_refl 0) ?_
      refine aw_if_eq (pc := 19) hX (tgt := 48) dX10_sum_19 (by decide) (fun c19 => ?_) (fun c19 => ?_)
      · rw [if_pos c19] at h
        cases h
        exact aw_vret hX hQ dX10_sum_48
      · rw [if_neg c19] at h
        exact c_X10_sum_22 hX hQ hd0 hkX10_product ih S16 h

set_option maxHeartbeats 4000000 in
set_option maxRecDepth 100000 in
theorem c_X10_sumG {dd : Nat} {S : Mem} {Sf : Mem} (hd0 : 8 ≤ dd) {kX10_product : Mem → Option Mem} (hkX10_product : ∀ {S Sf : Mem}, kX10_product S = some Sf → MetV yX10_product cX10_product 2 none dd [.ref 0] SKM S Sf) (h : f_X10_sumG kX10_product S = some Sf) : MetV yX10_sum cX10_sum 2 none (dd + 1) [.ref 0] SKM S Sf := by
  refine MetV.intro (by decide +kernel) (Nat.le_of_ble_eq_true rfl) (fun X loc hX hQ => ?_)
  unfold f_X10_sumG at h
  show AW X SKM loc 0 0 0 [(0, .ref 0)] [] S
  refine aw_aload_n (pc := 0) hX dX10_sum_0 rfl 0 rfl ?_
  obtain ⟨S1, hr1, h⟩ := ob h
  refine aw_cVV (pc := 1) (As := []) (rest := []) hX (hkX10_product hr1) ok_X10_product kw_6_224 im_X10_product se_X10_product rfl km0 rfl (Nat.le_refl _) (Nat.le_of_ble_eq_true rfl) rfl dX10_sum_1 (Nat.le_refl 0) (Nat.le_refl 0) ?_
  exact c_X10_sum_4 hX hQ hd0 hkX10_product FU S1 h

def pz : Nat → Nat → Mem → Option Mem
  | 0, _, _ => none
  | n + 1, w, S => if w = 0 then f_X10_expressionG (pz n 1) S else if w = 1 then f_X10_conjunctionG (pz n 2) S else if w = 2 then f_X10_negationG (pz n 2) (pz n 3) S else if w = 3 then f_X10_sumG (pz n 4) S else if w = 4 then f_X10_productG (pz n 5) S else f_X10_primaryG (pz n 0) S
theorem c_pz : ∀ n : Nat, (∀ {S Sf : Mem}, pz n 0 S = some Sf → MetV yX10_expression cX10_expression 1 none (8 + n) [.ref 0] SKM S Sf) ∧ (∀ {S Sf : Mem}, pz n 1 S = some Sf → MetV yX10_conjunction cX10_conjunction 1 none (8 + n) [.ref 0] SKM S Sf) ∧ (∀ {S Sf : Mem}, pz n 2 S = some Sf → MetV yX10_negation cX10_negation 2 none (8 + n) [.ref 0] SKM S Sf) ∧ (∀ {S Sf : Mem}, pz n 3 S = some Sf → MetV yX10_sum cX10_sum 2 none (8 + n) [.ref 0] SKM S Sf) ∧ (∀ {S Sf : Mem}, pz n 4 S = some Sf → MetV yX10_product cX10_product 2 none (8 + n) [.ref 0] SKM S Sf) ∧ (∀ {S Sf : Mem}, pz n 5 S = some Sf → MetV yX10_primary cX10_primary 2 none (8 + n) [.ref 0] SKM S Sf) := by
  intro n
  induction n with
  | zero => exact ⟨fun h => (by cases h), fun h => (by cases h), fun h => (by cases h), fun h => (by cases h), fun h => (by cases h), fun h => (by cases h)⟩
  | succ n ih =>
    obtain ⟨h0, h1, h2, h3, h4, h5⟩ := ih
    have hd : 8 ≤ 8 + n := by omega
    refine ⟨fun h => ?_, fun h => ?_, fun h => ?_, fun h => ?_, fun h => ?_, fun h => ?_⟩
    · exact c_X10_expressionG hd h1 h
    · exact c_X10_conjunctionG hd h2 h
    · exact c_X10_negationG hd h2 h3 h
    · exact c_X10_sumG hd h4 h
    · exact c_X10_productG hd h5 h
    · exact c_X10_primaryG hd h0 h
def f_X10_expression (S : Mem) : Option Mem := pz 200 0 S
theorem c_X10_expression {S Sf : Mem} (h : f_X10_expression S = some Sf) : MetV yX10_expression cX10_expression 1 none 208 [.ref 0] SKM S Sf := (c_pz 200).1 h
def nz : Nat → Int32 → Int32 → Int32 → Int32 → Mem → Option Mem
  | 0, _, _, _, _, _ => none
  | n + 1, v1, v2, v3, v4, S => f_X10_nursesG (nz n) v1 v2 v3 v4 S
theorem c_nz : ∀ n : Nat, ∀ {u0 u1 u2 u3 : Int32} {S Sf : Mem}, nz n u0 u1 u2 u3 S = some Sf → MetV yX10_nurses cX10_nurses 6 none (8 + n) [.ref 0, .int u0, .int u1, .int u2, .int u3] SKM S Sf := by
  intro n
  induction n with
  | zero => intro _ _ _ _ _ _ h; cases h
  | succ n ih =>
    intro u0 u1 u2 u3 S Sf h
    exact c_X10_nursesG (by omega : 8 ≤ 8 + n) ih h
def f_X10_nurses (v1 v2 v3 v4 : Int32) (S : Mem) : Option Mem := nz 200 v1 v2 v3 v4 S
theorem c_X10_nurses {v1 v2 v3 v4 : Int32} {S Sf : Mem} (h : f_X10_nurses v1 v2 v3 v4 S = some Sf) : MetV yX10_nurses cX10_nurses 6 none 208 [.ref 0, .int v1, .int v2, .int v3, .int v4] SKM S Sf := c_nz 200 h
def f_X10_lawLine_65 (v1 : Int32) (S : Mem) : Option Mem :=
  if (S.1 0 22) = 0 then
  (nxt (sI S 0 15 ((S.1 0 15) ||| ((1 : Int32) <<< (((16 : Int32) + v1) &&& 31)))) fun S85 =>
  (f_X10_token S85).bind fun S89 =>
  bnd (f_X10_fresher (6 : Int32) S89) fun r102 S102 =>
  (wr S102 10 6 ((3 : Int32) + v1) r102).bind fun S105 =>
  (f_X10_expression S105).bind fun S107 =>
  bnd (f_X10_fresher (6 : Int32) S107) fun r120 S120 =>
  (wr S120 11 6 ((3 : Int32) + v1) r120).bind fun S123 =>
  some S123)
  else
  (some S)

def f_X10_lawLine_30 (S : Mem) : Option Mem :=
  if (S.1 0 22) = 0 then
  (if (((S.1 0 15) >>> (((16 : Int32) + ((S.1 0 21) - (9 : Int32))) &&& 31)) &&& (1 : Int32)) = (1 : Int32) then
  ((f_X10_wrong (3 : Int32) S).bind fun S62 =>
  f_X10_lawLine_65 ((S.1 0 21) - (9 : Int32)) S62)
  else
  (f_X10_lawLine_65 ((S.1 0 21) - (9 : Int32)) S))
  else
  (f_X10_lawLine_65 ((S.1 0 21) - (9 : Int32)) S)

def f_X10_lawLine_25 (S : Mem) : Option Mem :=
  (f_X10_wrong (1 : Int32) S).bind fun S27 =>
  f_X10_lawLine_30 S27

def f_X10_lawLine (S : Mem) : Option Mem :=
  if (S.1 0 20) = 0 then
  (if (S.1 0 21) < (9 : Int32) then
  (f_X10_lawLine_25 S)
  else
  (if (S.1 0 21) ≤ (11 : Int32) then
  (f_X10_lawLine_30 S)
  else
  (f_X10_lawLine_25 S)))
  else
  (f_X10_lawLine_25 S)

set_option maxHeartbeats 4000000 in
set_option maxRecDepth 100000 in
theorem c_X10_lawLine_65 {X : XT} {loc : Nat → Nat} {Sf : Mem} (hX : AC X loc RX10 cX10_lawLine none 2 209 0 0) (hQ : RetV X SKM loc 0 0 Sf) (v1 : Int32) (S : Mem) (h : f_X10_lawLine_65 v1 S = some Sf) : AW X SKM loc 0 0 65 [(0, .ref 0), (1, .int v1)] [] S := by
  unfold f_X10_lawLine_65 at h
  refine aw_aload_n (pc := 65) hX dX10_lawLine_65 rfl 0 rfl ?_
  refine gf_X10_178 (pc := 66) hX km0 rfl dX10_lawLine_66 ?_
  refine aw_if_eq (pc := 69) hX (tgt := 73) dX10_lawLine_69 (by decide) (fun c69 => ?_) (fun c69 => ?_)
  · rw [if_pos c69] at h
    refine aw_aload_n (pc := 73) hX dX10_lawLine_73 rfl 0 rfl ?_
    refine aw_dup (pc := 74) hX dX10_lawLine_74 rfl ?_
    refine gf_X10_201 (pc := 75) hX km0 rfl dX10_lawLine_75 ?_
    refine aw_iconst (v := (1 : Int32)) (pc := 78) hX dX10_lawLine_78 (by decide) ?_
    refine aw_bipush (v := (16 : Int32)) (pc := 79) hX dX10_lawLine_79 (by decide) ?_
    refine aw_iload_n (pc := 81) hX dX10_lawLine_81 rfl 1 rfl ?_
    refine aw_iadd (pc := 82) hX dX10_lawLine_82 ?_
    refine aw_ishl (pc := 83) hX dX10_lawLine_83 ?_
    refine aw_ior (pc := 84) hX dX10_lawLine_84 ?_
    refine pf_X10_201 (pc := 85) hX km0 rfl dX10_lawLine_85 ?_
    obtain ⟨S85, eS85, h⟩ := on h
    refine aw_S eS85 ?_
    refine aw_aload_n (pc := 88) hX dX10_lawLine_88 rfl 0 rfl ?_
    obtain ⟨S89, hr89, h⟩ := ob h
    refine aw_cVV (pc := 89) (As := []) (rest := []) hX (c_X10_token hr89) ok_X10_token kw_6_123 im_X10_token se_X10_token rfl km0 rfl (by decide) (Nat.le_of_ble_eq_true rfl) rfl dX10_lawLine_89 (Nat.le_refl 0) (Nat.le_refl 0) ?_
    refine aw_aload_n (pc := 92) hX dX10_lawLine_92 rfl 0 rfl ?_
    refine gf_X10_37 (pc := 93) hX km0 rfl dX10_lawLine_93 ?_
    refine aw_iconst (v := (3 : Int32)) (pc := 96) hX dX10_lawLine_96 (by decide) ?_
    refine aw_iload_n (pc := 97) hX dX10_lawLine_97 rfl 1 rfl ?_
    refine aw_iadd (pc := 98) hX dX10_lawLine_98 ?_
    refine aw_aload_n (pc := 99) hX dX10_lawLine_99 rfl 0 rfl ?_
    refine aw_bipush (v := (6 : Int32)) (pc := 100) hX dX10_lawLine_100 (by decide) ?_
    obtain ⟨r102, S102, hr102, h⟩ := ob2 h
    refine aw_cVI (pc := 102) (As := [.int (6 : Int32)]) (rest := [.int ((3 : Int32) + v1), .ref 10]) hX (c_X10_fresher hr102) ok_X10_fresher kw_6_165 im_X10_fresher se_X10_fresher rfl km0 rfl (by decide) (Nat.le_of_ble_eq_true rfl) rfl dX10_lawLine_102 (Nat.le_refl 0) (Nat.le_refl 0) ?_
    obtain ⟨S105, hS105, h⟩ := ob h
    refine aw_iast (pc := 105) hX km10 hS105 dX10_lawLine_105 ?_
    refine aw_aload_n (pc := 106) hX dX10_lawLine_106 rfl 0 rfl ?_
    obtain ⟨S107, hr107, h⟩ := ob h
    refine aw_cVV (pc := 107) (As := []) (rest := []) hX (c_X10_expression hr107) ok_X10_expression kw_6_196 im_X10_expression se_X10_expression rfl km0 rfl (by decide) (Nat.le_of_ble_eq_true rfl) rfl dX10_lawLine_107 (Nat.le_refl 0) (Nat.le_refl 0) ?_
    refine aw_aload_n (pc := 110) hX dX10_lawLine_110 rfl 0 rfl ?_
    refine gf_X10_40 (pc := 111) hX km0 rfl dX10_lawLine_111 ?_
    refine aw_iconst (v := (3 : Int32)) (pc := 114) hX dX10_lawLine_114 (by decide) ?_
    refine aw_iload_n (pc := 115) hX dX10_lawLine_115 rfl 1 rfl ?_
    refine aw_iadd (pc := 116) hX dX10_lawLine_116 ?_
    refine aw_aload_n (pc := 117) hX dX10_lawLine_117 rfl 0 rfl ?_
    refine aw_bipush (v := (6 : Int32)) (pc := 118) hX dX10_lawLine_118 (by decide) ?_
    obtain ⟨r120, S120, hr120, h⟩ := ob2 h
    refine aw_cVI (pc := 120) (As := [.int (6 : Int32)]) (rest := [.int ((3 : Int32) + v1), .ref 11]) hX (c_X10_fresher hr120) ok_X10_fresher kw_6_165 im_X10_fresher se_X10_fresher rfl km0 rfl (by decide) (Nat.le_of_ble_eq_true rfl) rfl dX10_lawLine_120 (Nat.le_refl 0) (Nat.le_refl 0) ?_
    obtain ⟨S123, hS123, h⟩ := ob h
    refine aw_iast (pc := 123) hX km11 hS123 dX10_lawLine_123 ?_
    cases h
    exact aw_vret hX hQ dX10_lawLine_124
  · rw [if_neg c69] at h
    cases h
    exact aw_vret hX hQ dX10_lawLine_72

set_option maxHeartbeats 4000000 in
set_option maxRecDepth 100000 in
theorem c_X10_lawLine_30 {X : XT} {loc : Nat → Nat} {Sf : Mem} (hX : AC X loc RX10 cX10_lawLine none 2 209 0 0) (hQ : RetV X SKM loc 0 0 Sf) (S : Mem) (h : f_X10_lawLine_30 S = some Sf) : AW X SKM loc 0 0 30 [(0, .ref 0)] [] S := by
  unfold f_X10_lawLine_30 at h
  refine aw_aload_n (pc := 30) hX dX10_lawLine_30 rfl 0 rfl ?_
  refine gf_X10_153 (pc := 31) hX km0 rfl dX10_lawLine_31 ?_
  refine aw_bipush (v := (9 : Int32)) (pc := 34) hX dX10_lawLine_34 (by decide) ?_
  refine aw_isub (pc := 36) hX dX10_lawLine_36 ?_
  refine aw_istore_n (ls' := [(1, .int ((S.1 0 21) - (9 : Int32))), (0, .ref 0)]) (pc := 37) hX dX10_lawLine_37 rfl (by decide) rfl ?_
  refine aw_aload_n (pc := 38) hX dX10_lawLine_38 rfl 1 rfl ?_
  refine gf_X10_178 (pc := 39) hX km0 rfl dX10_lawLine_39 ?_
  refine aw_if_ne (pc := 42) hX (tgt := 65) dX10_lawLine_42 (by decide) (fun c42 => ?_) (fun c42 => ?_)
  · rw [if_neg c42] at h
    refine aw_sub (ls' := [(0, .ref 0), (1, .int ((S.1 0 21) - (9 : Int32)))]) [1, 0] rfl ?_
    exact c_X10_lawLine_65 hX hQ ((S.1 0 21) - (9 : Int32)) S h
  · rw [if_pos c42] at h
    refine aw_aload_n (pc := 45) hX dX10_lawLine_45 rfl 1 rfl ?_
    refine gf_X10_201 (pc := 46) hX km0 rfl dX10_lawLine_46 ?_
    refine aw_bipush (v := (16 : Int32)) (pc := 49) hX dX10_lawLine_49 (by decide) ?_
    refine aw_iload_n (pc := 51) hX dX10_lawLine_51 rfl 0 rfl ?_
    refine aw_iadd (pc := 52) hX dX10_lawLine_52 ?_
    refine aw_ishr (pc := 53) hX dX10_lawLine_53 ?_
    refine aw_iconst (v := (1 : Int32)) (pc := 54) hX dX10_lawLine_54 (by decide) ?_
    refine aw_iand (pc := 55) hX dX10_lawLine_55 ?_
    refine aw_iconst (v := (1 : Int32)) (pc := 56) hX dX10_lawLine_56 (by decide) ?_
    refine aw_icmp_ne (pc := 57) hX (tgt := 65) dX10_lawLine_57 (by decide) (fun c57 => ?_) (fun c57 => ?_)
    · rw [if_neg c57] at h
      refine aw_sub (ls' := [(0, .ref 0), (1, .int ((S.1 0 21) - (9 : Int32)))]) [1, 0] rfl ?_
      exact c_X10_lawLine_65 hX hQ ((S.1 0 21) - (9 : Int32)) S h
    · rw [if_pos c57] at h
      refine aw_aload_n (pc := 60) hX dX10_lawLine_60 rfl 1 rfl ?_
      refine aw_iconst (v := (3 : Int32)) (pc := 61) hX dX10_lawLine_61 (by decide) ?_
      obtain ⟨S62, hr62, h⟩ := ob h
      refine aw_cVV (pc := 62) (As := [.int (3 : Int32)]) (rest := []) hX (c_X10_wrong hr62) ok_X10_wrong kw_6_157 im_X10_wrong se_X10_wrong rfl km0 rfl (by decide) (Nat.le_of_ble_eq_true rfl) rfl dX10_lawLine_62 (Nat.le_refl 0) (Nat.le_refl 0) ?_
      refine aw_sub (ls' := [(0, .ref 0), (1, .int ((S.1 0 21) - (9 : Int32)))]) [1, 0] rfl ?_
      exact c_X10_lawLine_65 hX hQ ((S.1 0 21) - (9 : Int32)) S62 h

set_option maxHeartbeats 4000000 in
set_option maxRecDepth 100000 in
theorem c_X10_lawLine_25 {X : XT} {loc : Nat → Nat} {Sf : Mem} (hX : AC X loc RX10 cX10_lawLine none 2 209 0 0) (hQ : RetV X SKM loc 0 0 Sf) (S : Mem) (h : f_X10_lawLine_25 S = some Sf) : AW X SKM loc 0 0 25 [(0, .ref 0)] [] S := by
  unfold f_X10_lawLine_25 at h
  refine aw_aload_n (pc := 25) hX dX10_lawLine_25 rfl 0 rfl ?_
  refine aw_iconst (v := (1 : Int32)) (pc := 26) hX dX10_lawLine_26 (by decide) ?_
  obtain ⟨S27, hr27, h⟩ := ob h
  refine aw_cVV (pc := 27) (As := [.int (1 : Int32)]) (rest := []) hX (c_X10_wrong hr27) ok_X10_wrong kw_6_157 im_X10_wrong se_X10_wrong rfl km0 rfl (by decide) (Nat.le_of_ble_eq_true rfl) rfl dX10_lawLine_27 (Nat.le_refl 0) (Nat.le_refl 0) ?_
  exact c_X10_lawLine_30 hX hQ S27 h

set_option maxHeartbeats 4000000 in
set_option maxRecDepth 100000 in
theorem c_X10_lawLine {S : Mem} {Sf : Mem} (h : f_X10_lawLine S = some Sf) : MetV yX10_lawLine cX10_lawLine 2 none 209 [.ref 0] SKM S Sf := by
  refine MetV.intro (by decide +kernel) (Nat.le_of_ble_eq_true rfl) (fun X loc hX hQ => ?_)
  unfold f_X10_lawLine at h
  show AW X SKM loc 0 0 0 [(0, .ref 0)] [] S
  refine aw_aload_n (pc := 0) hX dX10_lawLine_0 rfl 0 rfl ?_
  refine gf_X10_143 (pc := 1) hX km0 rfl dX10_lawLine_1 ?_
  refine aw_if_ne (pc := 4) hX (tgt := 25) dX10_lawLine_4 (by decide) (fun c4 => ?_) (fun c4 => ?_)
  · rw [if_neg c4] at h
    exact c_X10_lawLine_25 hX hQ S h
  · rw [if_pos c4] at h
    refine aw_aload_n (pc := 7) hX dX10_lawLine_7 rfl 0 rfl ?_
    refine gf_X10_153 (pc := 8) hX km0 rfl dX10_lawLine_8 ?_
    refine aw_bipush (v := (9 : Int32)) (pc := 11) hX dX10_lawLine_11 (by decide) ?_
    refine aw_icmp_lt (pc := 13) hX (tgt := 25) dX10_lawLine_13 (by decide) (fun c13 => ?_) (fun c13 => ?_)
    · rw [if_pos c13] at h
      exact c_X10_lawLine_25 hX hQ S h
    · rw [if_neg c13] at h
      refine aw_aload_n (pc := 16) hX dX10_lawLine_16 rfl 0 rfl ?_
      refine gf_X10_153 (pc := 17) hX km0 rfl dX10_lawLine_17 ?_
      refine aw_bipush (v := (11 : Int32)) (pc := 20) hX dX10_lawLine_20 (by decide) ?_
      refine aw_icmp_le (pc := 22) hX (tgt := 30) dX10_lawLine_22 (by decide) (fun c22 => ?_) (fun c22 => ?_)
      · rw [if_pos c22] at h
        exact c_X10_lawLine_30 hX hQ S h
      · rw [if_neg c22] at h
        exact c_X10_lawLine_25 hX hQ S h

def f_X10_line_16 (S : Mem) : Option Mem :=
  (f_X10_wrong (1 : Int32) S).bind fun S18 =>
  some S18

def f_X10_line_255 (S : Mem) : Option Mem :=
  nxt (sI S 0 16 ((S.1 0 16) + (1 : Int32))) fun S262 =>
  some S262

def f_X10_line_226 (S : Mem) : Option Mem :=
  if (S.1 0 22) = 0 then
  (bnd (f_X10_isSign (59 : Int32) S) fun r237 S237 =>
  if r237 = 0 then
  ((f_X10_wrong (1 : Int32) S237).bind fun S245 =>
  f_X10_line_255 S245)
  else
  ((f_X10_token S237).bind fun S252 =>
  f_X10_line_255 S252))
  else
  (some S)

def f_X10_line_70 (v1 : Int32) (S : Mem) : Option Mem :=
  if (S.1 0 22) = 0 then
  (nxt (sI S 0 15 ((S.1 0 15) ||| ((1 : Int32) <<< (v1 &&& 31)))) fun S87 =>
  (f_X10_token S87).bind fun S91 =>
  if v1 = 0 then
  (bnd (f_X10_fresher (0 : Int32) S91) fun r137 S137 =>
  (f_X10_nurseLine ((6 : Int32) + r137) S137).bind fun S141 =>
  f_X10_line_226 S141)
  else
  (if v1 = 1 then
  (bnd (f_X10_fresher (1 : Int32) S91) fun r152 S152 =>
  (f_X10_dollLine ((10 : Int32) + r152) S152).bind fun S156 =>
  f_X10_line_226 S156)
  else
  (if v1 = 2 then
  (bnd (f_X10_numeral (0 : Int32) (100 : Int32) S91) fun r168 S168 =>
  (f_X10_reads (2 : Int32) r168 S168).bind fun S171 =>
  f_X10_line_226 S171)
  else
  (if v1 = 3 then
  (bnd (f_X10_numeral (1 : Int32) (99 : Int32) S91) fun r183 S183 =>
  (f_X10_reads (3 : Int32) r183 S183).bind fun S186 =>
  f_X10_line_226 S186)
  else
  (if v1 = 4 then
  (bnd (f_X10_numeral (0 : Int32) (99 : Int32) S91) fun r198 S198 =>
  (f_X10_reads (4 : Int32) r198 S198).bind fun S201 =>
  f_X10_line_226 S201)
  else
  (if v1 = 5 then
  (bnd (f_X10_numeral (0 : Int32) (99999 : Int32) S91) fun r213 S213 =>
  (f_X10_reads (5 : Int32) r213 S213).bind fun S216 =>
  f_X10_line_226 S216)
  else
  ((f_X10_lawLine S91).bind fun S223 =>
  f_X10_line_226 S223)))))))
  else
  (some S)

def f_X10_line (S : Mem) : Option Mem :=
  if (S.1 0 20) = 0 then
  (if (S.1 0 21) ≤ (6 : Int32) then
  (bnd (f_X10_isFull (S.1 0 21) S) fun r29 S29 =>
  if r29 = 0 then
  (if (S.1 0 21) < (2 : Int32) then
  (f_X10_line_70 (S.1 0 21) S29)
  else
  (if (5 : Int32) < (S.1 0 21) then
  (f_X10_line_70 (S.1 0 21) S29)
  else
  (if (((S29.1 0 15) >>> ((S.1 0 21) &&& 31)) &&& (1 : Int32)) = (1 : Int32) then
  ((f_X10_wrong (3 : Int32) S29).bind fun S67 =>
  f_X10_line_70 (S.1 0 21) S67)
  else
  (f_X10_line_70 (S.1 0 21) S29))))
  else
  ((f_X10_wrong (2 : Int32) S29).bind fun S37 =>
  f_X10_line_70 (S.1 0 21) S37))
  else
  (f_X10_line_16 S))
  else
  (f_X10_line_16 S)

set_option maxHeartbeats 4000000 in
set_option maxRecDepth 100000 in
theorem c_X10_line_16 {X : XT} {loc : Nat → Nat} {Sf : Mem} (hX : AC X loc RX10 cX10_line none 2 210 0 0) (hQ : RetV X SKM loc 0 0 Sf) (S : Mem) (h : f_X10_line_16 S = some Sf) : AW X SKM loc 0 0 16 [(0, .ref 0)] [] S := by
  unfold f_X10_line_16 at h
  refine aw_aload_n (pc := 16) hX dX10_line_16 rfl 0 rfl ?_
  refine aw_iconst (v := (1 : Int32)) (pc := 17) hX dX10_line_17 (by decide) ?_
  obtain ⟨S18, hr18, h⟩ := ob h
  refine aw_cVV (pc := 18) (As := [.int (1 : Int32)]) (rest := []) hX (c_X10_wrong hr18) ok_X10_wrong kw_6_157 im_X10_wrong se_X10_wrong rfl km0 rfl (by decide) (Nat.le_of_ble_eq_true rfl) rfl dX10_line_18 (Nat.le_refl 0) (Nat.le_refl 0) ?_
  cases h
  exact aw_vret hX hQ dX10_line_21

set_option maxHeartbeats 4000000 in
set_option maxRecDepth 100000 in
theorem c_X10_line_255 {X : XT} {loc : Nat → Nat} {Sf : Mem} (hX : AC X loc RX10 cX10_line none 2 210 0 0) (hQ : RetV X SKM loc 0 0 Sf) (S : Mem) (h : f_X10_line_255 S = some Sf) : AW X SKM loc 0 0 255 [(0, .ref 0)] [] S := by
  unfold f_X10_line_255 at h
  refine aw_aload_n (pc := 255) hX dX10_line_255 rfl 0 rfl ?_
  refine aw_dup (pc := 256) hX dX10_line_256 rfl ?_
  refine gf_X10_224 (pc := 257) hX km0 rfl dX10_line_257 ?_
  refine aw_iconst (v := (1 : Int32)) (pc := 260) hX dX10_line_260 (by decide) ?_
  refine aw_iadd (pc := 261) hX dX10_line_261 ?_
  refine pf_X10_224 (pc := 262) hX km0 rfl dX10_line_262 ?_
  obtain ⟨S262, eS262, h⟩ := on h
  refine aw_S eS262 ?_
  cases h
  exact aw_vret hX hQ dX10_line_265

set_option maxHeartbeats 4000000 in
set_option maxRecDepth 100000 in
theorem c_X10_line_226 {X : XT} {loc : Nat → Nat} {Sf : Mem} (hX : AC X loc RX10 cX10_line none 2 210 0 0) (hQ : RetV X SKM loc 0 0 Sf) (S : Mem) (h : f_X10_line_226 S = some Sf) : AW X SKM loc 0 0 226 [(0, .ref 0)] [] S := by
  unfold f_X10_line_226 at h
  refine aw_aload_n (pc := 226) hX dX10_line_226 rfl 0 rfl ?_
  refine gf_X10_178 (pc := 227) hX km0 rfl dX10_line_227 ?_
  refine aw_if_eq (pc := 230) hX (tgt := 234) dX10_line_230 (by decide) (fun c230 => ?_) (fun c230 => ?_)
  · rw [if_pos c230] at h
    refine aw_aload_n (pc := 234) hX dX10_line_234 rfl 0 rfl ?_
    refine aw_bipush (v := (59 : Int32)) (pc := 235) hX dX10_line_235 (by decide) ?_
    obtain ⟨r237, S237, hr237, h⟩ := ob2 h
    refine aw_cVI (pc := 237) (As := [.int (59 : Int32)]) (rest := []) hX (c_X10_isSign hr237) ok_X10_isSign kw_6_232 im_X10_isSign se_X10_isSign rfl km0 rfl (by decide) (Nat.le_of_ble_eq_true rfl) rfl dX10_line_237 (Nat.le_refl 0) (Nat.le_refl 0) ?_
    refine aw_if_ne (pc := 240) hX (tgt := 251) dX10_line_240 (by decide) (fun c240 => ?_) (fun c240 => ?_)
    · rw [if_neg c240] at h
      refine aw_aload_n (pc := 251) hX dX10_line_251 rfl 0 rfl ?_
      obtain ⟨S252, hr252, h⟩ := ob h
      refine aw_cVV (pc := 252) (As := []) (rest := []) hX (c_X10_token hr252) ok_X10_token kw_6_123 im_X10_token se_X10_token rfl km0 rfl (by decide) (Nat.le_of_ble_eq_true rfl) rfl dX10_line_252 (Nat.le_refl 0) (Nat.le_refl 0) ?_
      exact c_X10_line_255 hX hQ S252 h
    · rw [if_pos c240] at h
      refine aw_aload_n (pc := 243) hX dX10_line_243 rfl 0 rfl ?_
      refine aw_iconst (v := (1 : Int32)) (pc := 244) hX dX10_line_244 (by decide) ?_
      obtain ⟨S245, hr245, h⟩ := ob h
      refine aw_cVV (pc := 245) (As := [.int (1 : Int32)]) (rest := []) hX (c_X10_wrong hr245) ok_X10_wrong kw_6_157 im_X10_wrong se_X10_wrong rfl km0 rfl (by decide) (Nat.le_of_ble_eq_true rfl) rfl dX10_line_245 (Nat.le_refl 0) (Nat.le_refl 0) ?_
      refine aw_goto (tgt := 255) (pc := 248) hX dX10_line_248 (by decide) ?_
      exact c_X10_line_255 hX hQ S245 h
  · rw [if_neg c230] at h
    cases h
    exact aw_vret hX hQ dX10_line_233

set_option maxHeartbeats 4000000 in
set_option maxRecDepth 100000 in
theorem c_X10_line_70 {X : XT} {loc : Nat → Nat} {Sf : Mem} (hX : AC X loc RX10 cX10_line none 2 210 0 0) (hQ : RetV X SKM loc 0 0 Sf) (v1 : Int32) (S : Mem) (h : f_X10_line_70 v1 S = some Sf) : AW X SKM loc 0 0 70 [(0, .ref 0), (1, .int v1)] [] S := by
  unfold f_X10_line_70 at h
  refine aw_aload_n (pc := 70) hX dX10_line_70 rfl 0 rfl ?_
  refine gf_X10_178 (pc := 71) hX km0 rfl dX10_line_71 ?_
  refine aw_if_eq (pc := 74) hX (tgt := 78) dX10_line_74 (by decide) (fun c74 => ?_) (fun c74 => ?_)
  · rw [if_pos c74] at h
    refine aw_aload_n (pc := 78) hX dX10_line_78 rfl 0 rfl ?_
    refine aw_dup (pc := 79) hX dX10_line_79 rfl ?_
    refine gf_X10_201 (pc := 80) hX km0 rfl dX10_line_80 ?_
    refine aw_iconst (v := (1 : Int32)) (pc := 83) hX dX10_line_83 (by decide) ?_
    refine aw_iload_n (pc := 84) hX dX10_line_84 rfl 1 rfl ?_
    refine aw_ishl (pc := 85) hX dX10_line_85 ?_
    refine aw_ior (pc := 86) hX dX10_line_86 ?_
    refine pf_X10_201 (pc := 87) hX km0 rfl dX10_line_87 ?_
    obtain ⟨S87, eS87, h⟩ := on h
    refine aw_S eS87 ?_
    refine aw_aload_n (pc := 90) hX dX10_line_90 rfl 0 rfl ?_
    obtain ⟨S91, hr91, h⟩ := ob h
    refine aw_cVV (pc := 91) (As := []) (rest := []) hX (c_X10_token hr91) ok_X10_token kw_6_123 im_X10_token se_X10_token rfl km0 rfl (by decide) (Nat.le_of_ble_eq_true rfl) rfl dX10_line_91 (Nat.le_refl 0) (Nat.le_refl 0) ?_
    refine aw_iload_n (pc := 94) hX dX10_line_94 rfl 1 rfl ?_
    by_cases c95_0 : v1 = 0
    · rw [if_pos c95_0] at h
      refine aw_tin (pc := 95) hX (v := 0) (off := 37) (tgt := 132) dX10_line_95 c95_0 (by decide) (by decide) (by decide) (by decide) ?_
      refine aw_aload_n (pc := 132) hX dX10_line_132 rfl 0 rfl ?_
      refine aw_bipush (v := (6 : Int32)) (pc := 133) hX dX10_line_133 (by decide) ?_
      refine aw_aload_n (pc := 135) hX dX10_line_135 rfl 0 rfl ?_
      refine aw_iconst (v := (0 : Int32)) (pc := 136) hX dX10_line_136 (by decide) ?_
      obtain ⟨r137, S137, hr137, h⟩ := ob2 h
      refine aw_cVI (pc := 137) (As := [.int (0 : Int32)]) (rest := [.int (6 : Int32), .ref 0]) hX (c_X10_fresher hr137) ok_X10_fresher kw_6_165 im_X10_fresher se_X10_fresher rfl km0 rfl (by decide) (Nat.le_of_ble_eq_true rfl) rfl dX10_line_137 (Nat.le_refl 0) (Nat.le_refl 0) ?_
      refine aw_iadd (pc := 140) hX dX10_line_140 ?_
      obtain ⟨S141, hr141, h⟩ := ob h
      refine aw_cVV (pc := 141) (As := [.int ((6 : Int32) + r137)]) (rest := []) hX (c_X10_nurseLine hr141) ok_X10_nurseLine kw_6_169 im_X10_nurseLine se_X10_nurseLine rfl km0 rfl (by decide) (Nat.le_of_ble_eq_true rfl) rfl dX10_line_141 (Nat.le_refl 0) (Nat.le_refl 0) ?_
      refine aw_goto (tgt := 226) (pc := 144) hX dX10_line_144 (by decide) ?_
      refine aw_sub (ls' := [(0, .ref 0)]) [0] rfl ?_
      exact c_X10_line_226 hX hQ S141 h
    · rw [if_neg c95_0] at h
      by_cases c95_1 : v1 = 1
      · rw [if_pos c95_1] at h
        refine aw_tin (pc := 95) hX (v := 1) (off := 52) (tgt := 147) dX10_line_95 c95_1 (by decide) (by decide) (by decide) (by decide) ?_
        refine aw_aload_n (pc := 147) hX dX10_line_147 rfl 0 rfl ?_
        refine aw_bipush (v := (10 : Int32)) (pc := 148) hX dX10_line_148 (by decide) ?_
        refine aw_aload_n (pc := 150) hX dX10_line_150 rfl 0 rfl ?_
        refine aw_iconst (v := (1 : Int32)) (pc := 151) hX dX10_line_151 (by decide) ?_
        obtain ⟨r152, S152, hr152, h⟩ := ob2 h
        refine aw_cVI (pc := 152) (As := [.int (1 : Int32)]) (rest := [.int (10 : Int32), .ref 0]) hX (c_X10_fresher hr152) ok_X10_fresher kw_6_165 im_X10_fresher se_X10_fresher rfl km0 rfl (by decide) (Nat.le_of_ble_eq_true rfl) rfl dX10_line_152 (Nat.le_refl 0) (Nat.le_refl 0) ?_
        refine aw_iadd (pc := 155) hX dX10_line_155 ?_
        obtain ⟨S156, hr156, h⟩ := ob h
        refine aw_cVV (pc := 156) (As := [.int ((10 : Int32) + r152)]) (rest := []) hX (c_X10_dollLine hr156) ok_X10_dollLine kw_6_188 im_X10_dollLine se_X10_dollLine rfl km0 rfl (by decide) (Nat.le_of_ble_eq_true rfl) rfl dX10_line_156 (Nat.le_refl 0) (Nat.le_refl 0) ?_
        refine aw_goto (tgt := 226) (pc := 159) hX dX10_line_159 (by decide) ?_
        refine aw_sub (ls' := [(0, .ref 0)]) [0] rfl ?_
        exact c_X10_line_226 hX hQ S156 h
      · rw [if_neg c95_1] at h
        by_cases c95_2 : v1 = 2
        · rw [if_pos c95_2] at h
          refine aw_tin (pc := 95) hX (v := 2) (off := 67) (tgt := 162) dX10_line_95 c95_2 (by decide) (by decide) (by decide) (by decide) ?_
          refine aw_aload_n (pc := 162) hX dX10_line_162 rfl 0 rfl ?_
          refine aw_iconst (v := (2 : Int32)) (pc := 163) hX dX10_line_163 (by decide) ?_
          refine aw_aload_n (pc := 164) hX dX10_line_164 rfl 0 rfl ?_
          refine aw_iconst (v := (0 : Int32)) (pc := 165) hX dX10_line_165 (by decide) ?_
          refine aw_bipush (v := (100 : Int32)) (pc := 166) hX dX10_line_166 (by decide) ?_
          obtain ⟨r168, S168, hr168, h⟩ := ob2 h
          refine aw_cVI (pc := 168) (As := [.int (0 : Int32), .int (100 : Int32)]) (rest := [.int (2 : Int32), .ref 0]) hX (c_X10_numeral hr168) ok_X10_numeral kw_6_184 im_X10_numeral se_X10_numeral rfl km0 rfl (by decide) (Nat.le_of_ble_eq_true rfl) rfl dX10_line_168 (Nat.le_refl 0) (Nat.le_refl 0) ?_
          obtain ⟨S171, hr171, h⟩ := ob h
          refine aw_cVV (pc := 171) (As := [.int (2 : Int32), .int r168]) (rest := []) hX (c_X10_reads hr171) ok_X10_reads kw_6_119 im_X10_reads se_X10_reads rfl km0 rfl (by decide) (Nat.le_of_ble_eq_true rfl) rfl dX10_line_171 (Nat.le_refl 0) (Nat.le_refl 0) ?_
          refine aw_goto (tgt := 226) (pc := 174) hX dX10_line_174 (by decide) ?_
          refine aw_sub (ls' := [(0, .ref 0)]) [0] rfl ?_
          exact c_X10_line_226 hX hQ S171 h
        · rw [if_neg c95_2] at h
          by_cases c95_3 : v1 = 3
          · rw [if_pos c95_3] at h
            refine aw_tin (pc := 95) hX (v := 3) (off := 82) (tgt := 177) dX10_line_95 c95_3 (by decide) (by decide) (by decide) (by decide) ?_
            refine aw_aload_n (pc := 177) hX dX10_line_177 rfl 0 rfl ?_
            refine aw_iconst (v := (3 : Int32)) (pc := 178) hX dX10_line_178 (by decide) ?_
            refine aw_aload_n (pc := 179) hX dX10_line_179 rfl 0 rfl ?_
            refine aw_iconst (v := (1 : Int32)) (pc := 180) hX dX10_line_180 (by decide) ?_
            refine aw_bipush (v := (99 : Int32)) (pc := 181) hX dX10_line_181 (by decide) ?_
            obtain ⟨r183, S183, hr183, h⟩ := ob2 h
            refine aw_cVI (pc := 183) (As := [.int (1 : Int32), .int (99 : Int32)]) (rest := [.int (3 : Int32), .ref 0]) hX (c_X10_numeral hr183) ok_X10_numeral kw_6_184 im_X10_numeral se_X10_numeral rfl km0 rfl (by decide) (Nat.le_of_ble_eq_true rfl) rfl dX10_line_183 (Nat.le_refl 0) (Nat.le_refl 0) ?_
            obtain ⟨S186, hr186, h⟩ := ob h
            refine aw_cVV (pc := 186) (As := [.int (3 : Int32), .int r183]) (rest := []) hX (c_X10_reads hr186) ok_X10_reads kw_6_119 im_X10_reads se_X10_reads rfl km0 rfl (by decide) (Nat.le_of_ble_eq_true rfl) rfl dX10_line_186 (Nat.le_refl 0) (Nat.le_refl 0) ?_
            refine aw_goto (tgt := 226) (pc := 189) hX dX10_line_189 (by decide) ?_
            refine aw_sub (ls' := [(0, .ref 0)]) [0] rfl ?_
            exact c_X10_line_226 hX hQ S186 h
          · rw [if_neg c95_3] at h
            by_cases c95_4 : v1 = 4
            · rw [if_pos c95_4] at h
              refine aw_tin (pc := 95) hX (v := 4) (off := 97) (tgt := 192) dX10_line_95 c95_4 (by decide) (by decide) (by decide) (by decide) ?_
              refine aw_aload_n (pc := 192) hX dX10_line_192 rfl 0 rfl ?_
              refine aw_iconst (v := (4 : Int32)) (pc := 193) hX dX10_line_193 (by decide) ?_
              refine aw_aload_n (pc := 194) hX dX10_line_194 rfl 0 rfl ?_
              refine aw_iconst (v := (0 : Int32)) (pc := 195) hX dX10_line_195 (by decide) ?_
              refine aw_bipush (v := (99 : Int32)) (pc := 196) hX dX10_line_196 (by decide) ?_
              obtain ⟨r198, S198, hr198, h⟩ := ob2 h
              refine aw_cVI (pc := 198) (As := [.int (0 : Int32), .int (99 : Int32)]) (rest := [.int (4 : Int32), .ref 0]) hX (c_X10_numeral hr198) ok_X10_numeral kw_6_184 im_X10_numeral se_X10_numeral rfl km0 rfl (by decide) (Nat.le_of_ble_eq_true rfl) rfl dX10_line_198 (Nat.le_refl 0) (Nat.le_refl 0) ?_
              obtain ⟨S201, hr201, h⟩ := ob h
              refine aw_cVV (pc := 201) (As := [.int (4 : Int32), .int r198]) (rest := []) hX (c_X10_reads hr201) ok_X10_reads kw_6_119 im_X10_reads se_X10_reads rfl km0 rfl (by decide) (Nat.le_of_ble_eq_true rfl) rfl dX10_line_201 (Nat.le_refl 0) (Nat.le_refl 0) ?_
              refine aw_goto (tgt := 226) (pc := 204) hX dX10_line_204 (by decide) ?_
              refine aw_sub (ls' := [(0, .ref 0)]) [0] rfl ?_
              exact c_X10_line_226 hX hQ S201 h
            · rw [if_neg c95_4] at h
              by_cases c95_5 : v1 = 5
              · rw [if_pos c95_5] at h
                refine aw_tin (pc := 95) hX (v := 5) (off := 112) (tgt := 207) dX10_line_95 c95_5 (by decide) (by decide) (by decide) (by decide) ?_
                refine aw_aload_n (pc := 207) hX dX10_line_207 rfl 0 rfl ?_
                refine aw_iconst (v := (5 : Int32)) (pc := 208) hX dX10_line_208 (by decide) ?_
                refine aw_aload_n (pc := 209) hX dX10_line_209 rfl 0 rfl ?_
                refine aw_iconst (v := (0 : Int32)) (pc := 210) hX dX10_line_210 (by decide) ?_
                refine aw_ldc (v := (99999 : Int32)) (pc := 211) hX kw_6_148 dX10_line_211 ?_
                obtain ⟨r213, S213, hr213, h⟩ := ob2 h
                refine aw_cVI (pc := 213) (As := [.int (0 : Int32), .int (99999 : Int32)]) (rest := [.int (5 : Int32), .ref 0]) hX (c_X10_numeral hr213) ok_X10_numeral kw_6_184 im_X10_numeral se_X10_numeral rfl km0 rfl (by decide) (Nat.le_of_ble_eq_true rfl) rfl dX10_line_213 (Nat.le_refl 0) (Nat.le_refl 0) ?_
                obtain ⟨S216, hr216, h⟩ := ob h
                refine aw_cVV (pc := 216) (As := [.int (5 : Int32), .int r213]) (rest := []) hX (c_X10_reads hr216) ok_X10_reads kw_6_119 im_X10_reads se_X10_reads rfl km0 rfl (by decide) (Nat.le_of_ble_eq_true rfl) rfl dX10_line_216 (Nat.le_refl 0) (Nat.le_refl 0) ?_
                refine aw_goto (tgt := 226) (pc := 219) hX dX10_line_219 (by decide) ?_
                refine aw_sub (ls' := [(0, .ref 0)]) [0] rfl ?_
                exact c_X10_line_226 hX hQ S216 h
              · rw [if_neg c95_5] at h
                refine aw_tout (pc := 95) hX (tgt := 222) dX10_line_95 (by have e0 := ne_i c95_0 (by decide : (0 : Int32).toInt = 0); have e1 := ne_i c95_1 (by decide : (1 : Int32).toInt = 1); have e2 := ne_i c95_2 (by decide : (2 : Int32).toInt = 2); have e3 := ne_i c95_3 (by decide : (3 : Int32).toInt = 3); have e4 := ne_i c95_4 (by decide : (4 : Int32).toInt = 4); have e5 := ne_i c95_5 (by decide : (5 : Int32).toInt = 5); omega) (by decide) ?_
                refine aw_aload_n (pc := 222) hX dX10_line_222 rfl 0 rfl ?_
                obtain ⟨S223, hr223, h⟩ := ob h
                refine aw_cVV (pc := 223) (As := []) (rest := []) hX (c_X10_lawLine hr223) ok_X10_lawLine kw_6_192 im_X10_lawLine se_X10_lawLine rfl km0 rfl (by decide) (Nat.le_of_ble_eq_true rfl) rfl dX10_line_223 (Nat.le_refl 0) (Nat.le_refl 0) ?_
                refine aw_sub (ls' := [(0, .ref 0)]) [0] rfl ?_
                exact c_X10_line_226 hX hQ S223 h
  · rw [if_neg c74] at h
    cases h
    exact aw_vret hX hQ dX10_line_77

set_option maxHeartbeats 4000000 in
set_option maxRecDepth 100000 in
theorem c_X10_line {S : Mem} {Sf : Mem} (h : f_X10_line S = some Sf) : MetV yX10_line cX10_line 2 none 210 [.ref 0] SKM S Sf := by
  refine MetV.intro (by decide +kernel) (Nat.le_of_ble_eq_true rfl) (fun X loc hX hQ => ?_)
  unfold f_X10_line at h
  show AW X SKM loc 0 0 0 [(0, .ref 0)] [] S
  refine aw_aload_n (pc := 0) hX dX10_line_0 rfl 0 rfl ?_
  refine gf_X10_143 (pc := 1) hX km0 rfl dX10_line_1 ?_
  refine aw_if_ne (pc := 4) hX (tgt := 16) dX10_line_4 (by decide) (fun c4 => ?_) (fun c4 => ?_)
  · rw [if_neg c4] at h
    exact c_X10_line_16 hX hQ S h
  · rw [if_pos c4] at h
    refine aw_aload_n (pc := 7) hX dX10_line_7 rfl 0 rfl ?_
    refine gf_X10_153 (pc := 8) hX km0 rfl dX10_line_8 ?_
    refine aw_bipush (v := (6 : Int32)) (pc := 11) hX dX10_line_11 (by decide) ?_
    refine aw_icmp_le (pc := 13) hX (tgt := 22) dX10_line_13 (by decide) (fun c13 => ?_) (fun c13 => ?_)
    · rw [if_pos c13] at h
      refine aw_aload_n (pc := 22) hX dX10_line_22 rfl 0 rfl ?_
      refine gf_X10_153 (pc := 23) hX km0 rfl dX10_line_23 ?_
      refine aw_istore_n (ls' := [(1, .int (S.1 0 21)), (0, .ref 0)]) (pc := 26) hX dX10_line_26 rfl (by decide) rfl ?_
      refine aw_aload_n (pc := 27) hX dX10_line_27 rfl 1 rfl ?_
      refine aw_iload_n (pc := 28) hX dX10_line_28 rfl 0 rfl ?_
      obtain ⟨r29, S29, hr29, h⟩ := ob2 h
      refine aw_cVI (pc := 29) (As := [.int (S.1 0 21)]) (rest := []) hX (c_X10_isFull hr29) ok_X10_isFull kw_6_161 im_X10_isFull se_X10_isFull rfl km0 rfl (by decide) (Nat.le_of_ble_eq_true rfl) rfl dX10_line_29 (Nat.le_refl 0) (Nat.le_refl 0) ?_
      refine aw_if_eq (pc := 32) hX (tgt := 43) dX10_line_32 (by decide) (fun c32 => ?_) (fun c32 => ?_)
      · rw [if_pos c32] at h
        refine aw_iload_n (pc := 43) hX dX10_line_43 rfl 0 rfl ?_
        refine aw_iconst (v := (2 : Int32)) (pc := 44) hX dX10_line_44 (by decide) ?_
        refine aw_icmp_lt (pc := 45) hX (tgt := 70) dX10_line_45 (by decide) (fun c45 => ?_) (fun c45 => ?_)
        · rw [if_pos c45] at h
          refine aw_sub (ls' := [(0, .ref 0), (1, .int (S.1 0 21))]) [1, 0] rfl ?_
          exact c_X10_line_70 hX hQ (S.1 0 21) S29 h
        · rw [if_neg c45] at h
          refine aw_iload_n (pc := 48) hX dX10_line_48 rfl 0 rfl ?_
          refine aw_iconst (v := (5 : Int32)) (pc := 49) hX dX10_line_49 (by decide) ?_
          refine aw_icmp_gt (pc := 50) hX (tgt := 70) dX10_line_50 (by decide) (fun c50 => ?_) (fun c50 => ?_)
          · rw [if_pos c50] at h
            refine aw_sub (ls' := [(0, .ref 0), (1, .int (S.1 0 21))]) [1, 0] rfl ?_
            exact c_X10_line_70 hX hQ (S.1 0 21) S29 h
          · rw [if_neg c50] at h
            refine aw_aload_n (pc := 53) hX dX10_line_53 rfl 1 rfl ?_
            refine gf_X10_201 (pc := 54) hX km0 rfl dX10_line_54 ?_
            refine aw_iload_n (pc := 57) hX dX10_line_57 rfl 0 rfl ?_
            refine aw_ishr (pc := 58) hX dX10_line_58 ?_
            refine aw_iconst (v := (1 : Int32)) (pc := 59) hX dX10_line_59 (by decide) ?_
            refine aw_iand (pc := 60) hX dX10_line_60 ?_
            refine aw_iconst (v := (1 : Int32)) (pc := 61) hX dX10_line_61 (by decide) ?_
            refine aw_icmp_ne (pc := 62) hX (tgt := 70) dX10_line_62 (by decide) (fun c62 => ?_) (fun c62 => ?_)
            · rw [if_neg c62] at h
              refine aw_sub (ls' := [(0, .ref 0), (1, .int (S.1 0 21))]) [1, 0] rfl ?_
              exact c_X10_line_70 hX hQ (S.1 0 21) S29 h
            · rw [if_pos c62] at h
              refine aw_aload_n (pc := 65) hX dX10_line_65 rfl 1 rfl ?_
              refine aw_iconst (v := (3 : Int32)) (pc := 66) hX dX10_line_66 (by decide) ?_
              obtain ⟨S67, hr67, h⟩ := ob h
              refine aw_cVV (pc := 67) (As := [.int (3 : Int32)]) (rest := []) hX (c_X10_wrong hr67) ok_X10_wrong kw_6_157 im_X10_wrong se_X10_wrong rfl km0 rfl (by decide) (Nat.le_of_ble_eq_true rfl) rfl dX10_line_67 (Nat.le_refl 0) (Nat.le_refl 0) ?_
              refine aw_sub (ls' := [(0, .ref 0), (1, .int (S.1 0 21))]) [1, 0] rfl ?_
              exact c_X10_line_70 hX hQ (S.1 0 21) S67 h
      · rw [if_neg c32] at h
        refine aw_aload_n (pc := 35) hX dX10_line_35 rfl 1 rfl ?_
        refine aw_iconst (v := (2 : Int32)) (pc := 36) hX dX10_line_36 (by decide) ?_
        obtain ⟨S37, hr37, h⟩ := ob h
        refine aw_cVV (pc := 37) (As := [.int (2 : Int32)]) (rest := []) hX (c_X10_wrong hr37) ok_X10_wrong kw_6_157 im_X10_wrong se_X10_wrong rfl km0 rfl (by decide) (Nat.le_of_ble_eq_true rfl) rfl dX10_line_37 (Nat.le_refl 0) (Nat.le_refl 0) ?_
        refine aw_goto (tgt := 70) (pc := 40) hX dX10_line_40 (by decide) ?_
        refine aw_sub (ls' := [(0, .ref 0), (1, .int (S.1 0 21))]) [1, 0] rfl ?_
        exact c_X10_line_70 hX hQ (S.1 0 21) S37 h
    · rw [if_neg c13] at h
      exact c_X10_line_16 hX hQ S h

def f_X10_nursing_103 (v1 : Int32) (v2 : Int32) (v3 : Int32) (v4 : Int32) (S : Mem) : Option (Int32 × Mem) :=
  nxt (sI S 0 49 (-1 : Int32)) fun S105 =>
  (f_X10_nurses (0 : Int32) v4 v1 v2 S105).bind fun S114 =>
  if v3 = (4 : Int32) then
  (some ((S114.1 0 49), S114))
  else
  ((rd S114 27 4 v3).bind fun x134 =>
  some (x134, S114))

def f_X10_nursing_89 (v1 : Int32) (v2 : Int32) (v3 : Int32) (v4 : Int32) (S : Mem) : Option (Int32 × Mem) :=
  if (4 : Int32) ≤ v3 then
  (f_X10_nursing_103 v1 v2 v3 v4 S)
  else
  (if v3 < v4 then
  (f_X10_nursing_103 v1 v2 v3 v4 S)
  else
  (some ((-2 : Int32), S)))

def f_X10_nursing_40 : Nat → Int32 → Int32 → Int32 → Int32 → Int32 → Mem → Option (Int32 × Mem)
  | 0, _, _, _, _, _, _ => none
  | n + 1, v1, v2, v3, v4, v5, S =>
  (rd S 2 14 (1 : Int32)).bind fun x47 =>
  if x47 ≤ v5 then
  (f_X10_nursing_89 v1 v2 v3 v4 S)
  else
  (if (4 : Int32) ≤ v4 then
  (f_X10_nursing_89 v1 v2 v3 v4 S)
  else
  (bnd (f_X10_holds (0 : Int32) v1 v5 S) fun r62 S62 =>
  if r62 = 0 then
  (f_X10_nursing_40 n v1 v2 v3 v4 (v5 + 1) S62)
  else
  ((wr S62 25 4 v4 v5).bind fun S79 =>
  f_X10_nursing_40 n v1 v2 v3 (v4 + 1) (v5 + 1) S79)))

def f_X10_nursing (v1 : Int32) (v2 : Int32) (v3 : Int32) (S : Mem) : Option (Int32 × Mem) :=
  nxt (sI S 0 0 (0 : Int32)) fun S2 =>
  bnd (f_X10_isCity v1 S2) fun r6 S6 =>
  if r6 = 0 then
  (some ((-1 : Int32), S6))
  else
  (if v2 < (1 : Int32) then
  (some ((-1 : Int32), S6))
  else
  (if (20 : Int32) < v2 then
  (some ((-1 : Int32), S6))
  else
  (if v3 < 0 then
  (some ((-1 : Int32), S6))
  else
  (if v3 ≤ (4 : Int32) then
  (f_X10_nursing_40 FU v1 v2 v3 (0 : Int32) (0 : Int32) S6)
  else
  (some ((-1 : Int32), S6))))))

set_option maxHeartbeats 4000000 in
set_option maxRecDepth 100000 in
theorem c_X10_nursing_103 {X : XT} {loc : Nat → Nat} {r : Int32} {Sf : Mem} (hX : AC X loc RX10 cX10_nursing (some .int) 6 209 0 0) (hQ : RetI X SKM loc 0 0 r Sf) (v1 : Int32) (v2 : Int32) (v3 : Int32) (v4 : Int32) (S : Mem) (h : f_X10_nursing_103 v1 v2 v3 v4 S = some (r, Sf)) : AW X SKM loc 0 0 103 [(0, .ref 0), (1, .int v1), (2, .int v2), (3, .int v3), (4, .int v4)] [] S := by
  unfold f_X10_nursing_103 at h
  refine aw_aload_n (pc := 103) hX dX10_nursing_103 rfl 0 rfl ?_
  refine aw_iconst (v := (-1 : Int32)) (pc := 104) hX dX10_nursing_104 (by decide) ?_
  refine pf_X10_438 (pc := 105) hX km0 rfl dX10_nursing_105 ?_
  obtain ⟨S105, eS105, h⟩ := on h
  refine aw_S eS105 ?_
  refine aw_aload_n (pc := 108) hX dX10_nursing_108 rfl 0 rfl ?_
  refine aw_iconst (v := (0 : Int32)) (pc := 109) hX dX10_nursing_109 (by decide) ?_
  refine aw_iload (pc := 110) hX dX10_nursing_110 4 rfl ?_
  refine aw_iload_n (pc := 112) hX dX10_nursing_112 rfl 1 rfl ?_
  refine aw_iload_n (pc := 113) hX dX10_nursing_113 rfl 2 rfl ?_
  obtain ⟨S114, hr114, h⟩ := ob h
  refine aw_cVV (pc := 114) (As := [.int (0 : Int32), .int v4, .int v1, .int v2]) (rest := []) hX (c_X10_nurses hr114) ok_X10_nurses kw_7_209 im_X10_nurses se_X10_nurses rfl km0 rfl (by decide) (Nat.le_of_ble_eq_true rfl) rfl dX10_nursing_114 (Nat.le_refl 0) (Nat.le_refl 0) ?_
  refine aw_iload_n (pc := 117) hX dX10_nursing_117 rfl 3 rfl ?_
  refine aw_iconst (v := (4 : Int32)) (pc := 118) hX dX10_nursing_118 (by decide) ?_
  refine aw_icmp_ne (pc := 119) hX (tgt := 129) dX10_nursing_119 (by decide) (fun c119 => ?_) (fun c119 => ?_)
  · rw [if_neg c119] at h
    refine aw_aload_n (pc := 129) hX dX10_nursing_129 rfl 0 rfl ?_
    refine gf_X10_96 (pc := 130) hX km0 rfl dX10_nursing_130 ?_
    refine aw_iload_n (pc := 133) hX dX10_nursing_133 rfl 3 rfl ?_
    obtain ⟨x134, hx134, h⟩ := ob h
    refine aw_iald (pc := 134) hX km27 hx134 dX10_nursing_134 ?_
    cases h
    exact aw_iret hX hQ dX10_nursing_135
  · rw [if_pos c119] at h
    refine aw_aload_n (pc := 122) hX dX10_nursing_122 rfl 0 rfl ?_
    refine gf_X10_438 (pc := 123) hX km0 rfl dX10_nursing_123 ?_
    refine aw_goto (tgt := 135) (pc := 126) hX dX10_nursing_126 (by decide) ?_
    cases h
    exact aw_iret hX hQ dX10_nursing_135

set_option maxHeartbeats 4000000 in
set_option maxRecDepth 100000 in
theorem c_X10_nursing_89 {X : XT} {loc : Nat → Nat} {r : Int32} {Sf : Mem} (hX : AC X loc RX10 cX10_nursing (some .int) 6 209 0 0) (hQ : RetI X SKM loc 0 0 r Sf) (v1 : Int32) (v2 : Int32) (v3 : Int32) (v4 : Int32) (S : Mem) (h : f_X10_nursing_89 v1 v2 v3 v4 S = some (r, Sf)) : AW X SKM loc 0 0 89 [(0, .ref 0), (1, .int v1), (2, .int v2), (3, .int v3), (4, .int v4)] [] S := by
  unfold f_X10_nursing_89 at h
  refine aw_iload_n (pc := 89) hX dX10_nursing_89 rfl 3 rfl ?_
  refine aw_iconst (v := (4 : Int32)) (pc := 90) hX dX10_nursing_90 (by decide) ?_
  refine aw_icmp_ge (pc := 91) hX (tgt := 103) dX10_nursing_91 (by decide) (fun c91 => ?_) (fun c91 => ?_)
  · rw [if_pos c91] at h
    exact c_X10_nursing_103 hX hQ v1 v2 v3 v4 S h
  · rw [if_neg c91] at h
    refine aw_iload_n (pc := 94) hX dX10_nursing_94 rfl 3 rfl ?_
    refine aw_iload (pc := 95) hX dX10_nursing_95 4 rfl ?_
    refine aw_icmp_lt (pc := 97) hX (tgt := 103) dX10_nursing_97 (by decide) (fun c97 => ?_) (fun c97 => ?_)
    · rw [if_pos c97] at h
      exact c_X10_nursing_103 hX hQ v1 v2 v3 v4 S h
    · rw [if_neg c97] at h
      refine aw_bipush (v := (-2 : Int32)) (pc := 100) hX dX10_nursing_100 (by decide) ?_
      cases h
      exact aw_iret hX hQ dX10_nursing_102

set_option maxHeartbeats 4000000 in
set_option maxRecDepth 100000 in
theorem c_X10_nursing_40 {X : XT} {loc : Nat → Nat} {r : Int32} {Sf : Mem} (hX : AC X loc RX10 cX10_nursing (some .int) 6 209 0 0) (hQ : RetI X SKM loc 0 0 r Sf) : ∀ (n : Nat) (v1 : Int32) (v2 : Int32) (v3 : Int32) (v4 : Int32) (v5 : Int32) (S : Mem), f_X10_nursing_40 n v1 v2 v3 v4 v5 S = some (r, Sf) → AW X SKM loc 0 0 40 [(0, .ref 0), (1, .int v1), (2, .int v2), (3, .int v3), (4, .int v4), (5, .int v5)] [] S := by
  intro n
  induction n with
  | zero => intro v1 v2 v3 v4 v5 S h; cases h
  | succ n ih =>
    intro v1 v2 v3 v4 v5 S h
    unfold f_X10_nursing_40 at h
    refine aw_iload (pc := 40) hX dX10_nursing_40 5 rfl ?_
    refine aw_aload_n (pc := 42) hX dX10_nursing_42 rfl 0 rfl ?_
    refine gf_X10_13 (pc := 43) hX km0 rfl dX10_nursing_43 ?_
    refine aw_iconst (v := (1 : Int32)) (pc := 46) hX dX10_nursing_46 (by decide) ?_
    obtain ⟨x47, hx47, h⟩ := ob h
    refine aw_iald (pc := 47) hX km2 hx47 dX10_nursing_47 ?_
    refine aw_icmp_ge (pc := 48) hX (tgt := 89) dX10_nursing_48 (by decide) (fun c48 => ?_) (fun c48 => ?_)
    · rw [if_pos c48] at h
      refine aw_sub (ls' := [(0, .ref 0), (1, .int v1), (2, .int v2), (3, .int v3), (4, .int v4)]) [0, 1, 2, 3, 4] rfl ?_
      exact c_X10_nursing_89 hX hQ v1 v2 v3 v4 S h
    · rw [if_neg c48] at h
      refine aw_iload (pc := 51) hX dX10_nursing_51 4 rfl ?_
      refine aw_iconst (v := (4 : Int32)) (pc := 53) hX dX10_nursing_53 (by decide) ?_
      refine aw_icmp_ge (pc := 54) hX (tgt := 89) dX10_nursing_54 (by decide) (fun c54 => ?_) (fun c54 => ?_)
      · rw [if_pos c54] at h
        refine aw_sub (ls' := [(0, .ref 0), (1, .int v1), (2, .int v2), (3, .int v3), (4, .int v4)]) [0, 1, 2, 3, 4] rfl ?_
        exact c_X10_nursing_89 hX hQ v1 v2 v3 v4 S h
      · rw [if_neg c54] at h
        refine aw_aload_n (pc := 57) hX dX10_nursing_57 rfl 0 rfl ?_
        refine aw_iconst (v := (0 : Int32)) (pc := 58) hX dX10_nursing_58 (by decide) ?_
        refine aw_iload_n (pc := 59) hX dX10_nursing_59 rfl 1 rfl ?_
        refine aw_iload (pc := 60) hX dX10_nursing_60 5 rfl ?_
        obtain ⟨r62, S62, hr62, h⟩ := ob2 h
        refine aw_cVI (pc := 62) (As := [.int (0 : Int32), .int v1, .int v5]) (rest := []) hX (c_X10_holds hr62) ok_X10_holds kw_7_42 im_X10_holds se_X10_holds rfl km0 rfl (by decide) (Nat.le_of_ble_eq_true rfl) rfl dX10_nursing_62 (Nat.le_refl 0) (Nat.le_refl 0) ?_
        refine aw_if_ne (pc := 65) hX (tgt := 71) dX10_nursing_65 (by decide) (fun c65 => ?_) (fun c65 => ?_)
        · rw [if_neg c65] at h
          refine aw_aload_n (pc := 71) hX dX10_nursing_71 rfl 0 rfl ?_
          refine gf_X10_90 (pc := 72) hX km0 rfl dX10_nursing_72 ?_
          refine aw_iload (pc := 75) hX dX10_nursing_75 4 rfl ?_
          refine aw_iload (pc := 77) hX dX10_nursing_77 5 rfl ?_
          obtain ⟨S79, hS79, h⟩ := ob h
          refine aw_iast (pc := 79) hX km25 hS79 dX10_nursing_79 ?_
          refine aw_iinc (v := (v4 + 1)) (ls' := [(4, .int (v4 + 1)), (0, .ref 0), (1, .int v1), (2, .int v2), (3, .int v3), (5, .int v5)]) (pc := 80) hX dX10_nursing_80 (pos := 4) rfl (by first | rfl | decide) (by decide) rfl ?_
          refine aw_iinc (v := (v5 + 1)) (ls' := [(5, .int (v5 + 1)), (4, .int (v4 + 1)), (0, .ref 0), (1, .int v1), (2, .int v2), (3, .int v3)]) (pc := 83) hX dX10_nursing_83 (pos := 5) rfl (by first | rfl | decide) (by decide) rfl ?_
          refine aw_goto (tgt := 40) (pc := 86) hX dX10_nursing_86 (by decide) ?_
          refine aw_sub (ls' := [(0, .ref 0), (1, .int v1), (2, .int v2), (3, .int v3), (4, .int (v4 + 1)), (5, .int (v5 + 1))]) [2, 3, 4, 5, 1, 0] rfl ?_
          exact ih v1 v2 v3 (v4 + 1) (v5 + 1) S79 h
        · rw [if_pos c65] at h
          refine aw_goto (tgt := 83) (pc := 68) hX dX10_nursing_68 (by decide) ?_
          refine aw_iinc (v := (v5 + 1)) (ls' := [(5, .int (v5 + 1)), (0, .ref 0), (1, .int v1), (2, .int v2), (3, .int v3), (4, .int v4)]) (pc := 83) hX dX10_nursing_83 (pos := 5) rfl (by first | rfl | decide) (by decide) rfl ?_
          refine aw_goto (tgt := 40) (pc := 86) hX dX10_nursing_86 (by decide) ?_
          refine aw_sub (ls' := [(0, .ref 0), (1, .int v1), (2, .int v2), (3, .int v3), (4, .int v4), (5, .int (v5 + 1))]) [1, 2, 3, 4, 5, 0] rfl ?_
          exact ih v1 v2 v3 v4 (v5 + 1) S62 h

set_option maxHeartbeats 4000000 in
set_option maxRecDepth 100000 in
theorem c_X10_nursing {v1 : Int32} {v2 : Int32} {v3 : Int32} {S : Mem} {r : Int32} {Sf : Mem} (h : f_X10_nursing v1 v2 v3 S = some (r, Sf)) : MetI yX10_nursing cX10_nursing 6 (some .int) 209 [.ref 0, .int v1, .int v2, .int v3] SKM S r Sf := by
  refine MetI.intro (by decide +kernel) (Nat.le_of_ble_eq_true rfl) (fun X loc hX hQ => ?_)
  unfold f_X10_nursing at h
  show AW X SKM loc 0 0 0 [(0, .ref 0), (1, .int v1), (2, .int v2), (3, .int v3)] [] S
  refine aw_aload_n (pc := 0) hX dX10_nursing_0 rfl 0 rfl ?_
  refine aw_iconst (v := (0 : Int32)) (pc := 1) hX dX10_nursing_1 (by decide) ?_
  refine pf_X10_124 (pc := 2) hX km0 rfl dX10_nursing_2 ?_
  obtain ⟨S2, eS2, h⟩ := on h
  refine aw_S eS2 ?_
  refine aw_iload_n (pc := 5) hX dX10_nursing_5 rfl 1 rfl ?_
  obtain ⟨r6, S6, hr6, h⟩ := ob2 h
  refine aw_cSI (pc := 6) (As := [.int v1]) (rest := []) hX (c_X10_isCity (sk := SKM) hr6) ok_X10_isCity kw_7_35 st_X10_isCity rfl (by decide) (Nat.le_of_ble_eq_true rfl) rfl dX10_nursing_6 (Nat.le_refl 0) (Nat.le_refl 0) ?_
  refine aw_if_eq (pc := 9) hX (tgt := 32) dX10_nursing_9 (by decide) (fun c9 => ?_) (fun c9 => ?_)
  · rw [if_pos c9] at h
    refine aw_iconst (v := (-1 : Int32)) (pc := 32) hX dX10_nursing_32 (by decide) ?_
    cases h
    exact aw_iret hX hQ dX10_nursing_33
  · rw [if_neg c9] at h
    refine aw_iload_n (pc := 12) hX dX10_nursing_12 rfl 2 rfl ?_
    refine aw_iconst (v := (1 : Int32)) (pc := 13) hX dX10_nursing_13 (by decide) ?_
    refine aw_icmp_lt (pc := 14) hX (tgt := 32) dX10_nursing_14 (by decide) (fun c14 => ?_) (fun c14 => ?_)
    · rw [if_pos c14] at h
      refine aw_iconst (v := (-1 : Int32)) (pc := 32) hX dX10_nursing_32 (by decide) ?_
      cases h
      exact aw_iret hX hQ dX10_nursing_33
    · rw [if_neg c14] at h
      refine aw_iload_n (pc := 17) hX dX10_nursing_17 rfl 2 rfl ?_
      refine aw_bipush (v := (20 : Int32)) (pc := 18) hX dX10_nursing_18 (by decide) ?_
      refine aw_icmp_gt (pc := 20) hX (tgt := 32) dX10_nursing_20 (by decide) (fun c20 => ?_) (fun c20 => ?_)
      · rw [if_pos c20] at h
        refine aw_iconst (v := (-1 : Int32)) (pc := 32) hX dX10_nursing_32 (by decide) ?_
        cases h
        exact aw_iret hX hQ dX10_nursing_33
      · rw [if_neg c20] at h
        refine aw_iload_n (pc := 23) hX dX10_nursing_23 rfl 3 rfl ?_
        refine aw_if_lt (pc := 24) hX (tgt := 32) dX10_nursing_24 (by decide) (fun c24 => ?_) (fun c24 => ?_)
        · rw [if_pos c24] at h
          refine aw_iconst (v := (-1 : Int32)) (pc := 32) hX dX10_nursing_32 (by decide) ?_
          cases h
          exact aw_iret hX hQ dX10_nursing_33
        · rw [if_neg c24] at h
          refine aw_iload_n (pc := 27) hX dX10_nursing_27 rfl 3 rfl ?_
          refine aw_iconst (v := (4 : Int32)) (pc := 28) hX dX10_nursing_28 (by decide) ?_
          refine aw_icmp_le (pc := 29) hX (tgt := 34) dX10_nursing_29 (by decide) (fun c29 => ?_) (fun c29 => ?_)
          · rw [if_pos c29] at h
            refine aw_iconst (v := (0 : Int32)) (pc := 34) hX dX10_nursing_34 (by decide) ?_
            refine aw_istore (ls' := [(4, .int (0 : Int32)), (0, .ref 0), (1, .int v1), (2, .int v2), (3, .int v3)]) (pc := 35) hX dX10_nursing_35 (by decide) rfl ?_
            refine aw_iconst (v := (0 : Int32)) (pc := 37) hX dX10_nursing_37 (by decide) ?_
            refine aw_istore (ls' := [(5, .int (0 : Int32)), (4, .int (0 : Int32)), (0, .ref 0), (1, .int v1), (2, .int v2), (3, .int v3)]) (pc := 38) hX dX10_nursing_38 (by decide) rfl ?_
            refine aw_sub (ls' := [(0, .ref 0), (1, .int v1), (2, .int v2), (3, .int v3), (4, .int (0 : Int32)), (5, .int (0 : Int32))]) [2, 3, 4, 5, 1, 0] rfl ?_
            exact c_X10_nursing_40 hX hQ FU v1 v2 v3 (0 : Int32) (0 : Int32) S6 h
          · rw [if_neg c29] at h
            refine aw_iconst (v := (-1 : Int32)) (pc := 32) hX dX10_nursing_32 (by decide) ?_
            cases h
            exact aw_iret hX hQ dX10_nursing_33

def f_X10_text_163 (S : Mem) : Option (Int32 × Mem) :=
  nxt (sI S 0 24 (S.1 0 22)) fun S168 =>
  nxt (sI S168 0 25 (S168.1 0 23)) fun S176 =>
  if (S176.1 0 22) = 0 then
  ((f_X10_half 2 14 S176).bind fun S192 =>
  (f_X10_half 3 12 S192).bind fun S199 =>
  (f_X10_half 4 12 S199).bind fun S206 =>
  (f_X10_half 5 12 S206).bind fun S213 =>
  (f_X10_half 6 20 S213).bind fun S220 =>
  (f_X10_half 7 20 S220).bind fun S227 =>
  (f_X10_half 8 20 S227).bind fun S234 =>
  (f_X10_half 9 20 S234).bind fun S241 =>
  (f_X10_half 10 6 S241).bind fun S248 =>
  (f_X10_half 11 6 S248).bind fun S255 =>
  (f_X10_half 12 128 S255).bind fun S262 =>
  (f_X10_half 13 128 S262).bind fun S269 =>
  nxt (sI S269 0 50 (0 : Int32)) fun S274 =>
  nxt (sI S274 0 51 (-1 : Int32)) fun S279 =>
  nxt (sI S279 0 41 (0 : Int32)) fun S284 =>
  nxt (sI S284 0 42 (0 : Int32)) fun S289 =>
  (f_X10_begins S289).bind fun S293 =>
  some ((S293.1 0 16), S293))
  else
  (some ((-1 : Int32), S176))

def f_X10_text_141 : Nat → Mem → Option (Int32 × Mem)
  | 0, _ => none
  | n + 1, S =>
  if (S.1 0 22) = 0 then
  (if (S.1 0 20) = (4 : Int32) then
  (f_X10_text_163 S)
  else
  ((f_X10_line S).bind fun S157 =>
  f_X10_text_141 n S157))
  else
  (f_X10_text_163 S)

def f_X10_text_91 : Nat → Int32 → Mem → Option (Int32 × Mem)
  | 0, _, _ => none
  | n + 1, v2, S =>
  if (6 : Int32) ≤ v2 then
  (nxt (sI S 0 15 (0 : Int32)) fun S119 =>
  nxt (sI S119 0 16 (0 : Int32)) fun S124 =>
  nxt (sI S124 0 26 (0 : Int32)) fun S129 =>
  nxt (sI S129 0 27 (0 : Int32)) fun S134 =>
  (f_X10_token S134).bind fun S138 =>
  f_X10_text_141 FU S138)
  else
  ((wr S 10 6 v2 (0 : Int32)).bind fun S103 =>
  (wr S103 11 6 v2 (0 : Int32)).bind fun S110 =>
  f_X10_text_91 n (v2 + 1) S110)

def f_X10_text_80 (R47 : Int32 → Mem → Option (Int32 × Mem)) (v2 : Int32) (t1 : Int32) (t2 : Int32) (S : Mem) : Option (Int32 × Mem) :=
  (f_X10_reads t1 t2 S).bind fun S80 =>
  R47 (v2 + 1) S80

def f_X10_text_65 (R47 : Int32 → Mem → Option (Int32 × Mem)) (v2 : Int32) (t1 : Int32) (S : Mem) : Option (Int32 × Mem) :=
  f_X10_text_80 R47 v2 t1 (20 : Int32) S

def f_X10_text_47 : Nat → Int32 → Mem → Option (Int32 × Mem)
  | 0, _, _ => none
  | n + 1, v2, S =>
  if (7 : Int32) ≤ v2 then
  (f_X10_text_91 FU (3 : Int32) S)
  else
  (if v2 = (2 : Int32) then
  (f_X10_text_65 (f_X10_text_47 n) v2 v2 S)
  else
  (if v2 = (3 : Int32) then
  (f_X10_text_65 (f_X10_text_47 n) v2 v2 S)
  else
  (if v2 = (4 : Int32) then
  (f_X10_text_80 (f_X10_text_47 n) v2 v2 (5 : Int32) S)
  else
  (f_X10_text_80 (f_X10_text_47 n) v2 v2 (0 : Int32) S))))

def f_X10_text (v1 : Int32) (S : Mem) : Option (Int32 × Mem) :=
  nxt (sI S 0 0 (0 : Int32)) fun S2 =>
  if v1 < 0 then
  (some ((-2 : Int32), S2))
  else
  (if v1 ≤ (S2.1 0 2) then
  (nxt (sI S2 0 17 v1) fun S22 =>
  nxt (sI S22 0 2 (0 : Int32)) fun S27 =>
  nxt (sI S27 0 18 (0 : Int32)) fun S32 =>
  nxt (sI S32 0 22 (0 : Int32)) fun S37 =>
  nxt (sI S37 0 23 (-1 : Int32)) fun S42 =>
  f_X10_text_47 FU (0 : Int32) S42)
  else
  (some ((-2 : Int32), S2)))

set_option maxHeartbeats 4000000 in
set_option maxRecDepth 100000 in
theorem c_X10_text_163 {X : XT} {loc : Nat → Nat} {r : Int32} {Sf : Mem} (hX : AC X loc RX10 cX10_text (some .int) 3 211 0 0) (hQ : RetI X SKM loc 0 0 r Sf) (S : Mem) (h : f_X10_text_163 S = some (r, Sf)) : AW X SKM loc 0 0 163 [(0, .ref 0)] [] S := by
  unfold f_X10_text_163 at h
  refine aw_aload_n (pc := 163) hX dX10_text_163 rfl 0 rfl ?_
  refine aw_aload_n (pc := 164) hX dX10_text_164 rfl 0 rfl ?_
  refine gf_X10_178 (pc := 165) hX km0 rfl dX10_text_165 ?_
  refine pf_X10_270 (pc := 168) hX km0 rfl dX10_text_168 ?_
  obtain ⟨S168, eS168, h⟩ := on h
  refine aw_S eS168 ?_
  refine aw_aload_n (pc := 171) hX dX10_text_171 rfl 0 rfl ?_
  refine aw_aload_n (pc := 172) hX dX10_text_172 rfl 0 rfl ?_
  refine gf_X10_181 (pc := 173) hX km0 rfl dX10_text_173 ?_
  refine pf_X10_49 (pc := 176) hX km0 rfl dX10_text_176 ?_
  obtain ⟨S176, eS176, h⟩ := on h
  refine aw_S eS176 ?_
  refine aw_aload_n (pc := 179) hX dX10_text_179 rfl 0 rfl ?_
  refine gf_X10_178 (pc := 180) hX km0 rfl dX10_text_180 ?_
  refine aw_if_eq (pc := 183) hX (tgt := 188) dX10_text_183 (by decide) (fun c183 => ?_) (fun c183 => ?_)
  · rw [if_pos c183] at h
    refine aw_aload_n (pc := 188) hX dX10_text_188 rfl 0 rfl ?_
    refine gf_X10_13 (pc := 189) hX km0 rfl dX10_text_189 ?_
    obtain ⟨S192, hr192, h⟩ := ob h
    refine aw_cSV (pc := 192) (As := [.ref 2]) (rest := []) hX (c_X10_half (sk := SKM) km2 hr192) ok_X10_half kw_6_236 st_X10_half rfl (by decide) (Nat.le_of_ble_eq_true rfl) rfl dX10_text_192 (Nat.le_refl 0) (Nat.le_refl 0) ?_
    refine aw_aload_n (pc := 195) hX dX10_text_195 rfl 0 rfl ?_
    refine gf_X10_16 (pc := 196) hX km0 rfl dX10_text_196 ?_
    obtain ⟨S199, hr199, h⟩ := ob h
    refine aw_cSV (pc := 199) (As := [.ref 3]) (rest := []) hX (c_X10_half (sk := SKM) km3 hr199) ok_X10_half kw_6_236 st_X10_half rfl (by decide) (Nat.le_of_ble_eq_true rfl) rfl dX10_text_199 (Nat.le_refl 0) (Nat.le_refl 0) ?_
    refine aw_aload_n (pc := 202) hX dX10_text_202 rfl 0 rfl ?_
    refine gf_X10_19 (pc := 203) hX km0 rfl dX10_text_203 ?_
    obtain ⟨S206, hr206, h⟩ := ob h
    refine aw_cSV (pc := 206) (As := [.ref 4]) (rest := []) hX (c_X10_half (sk := SKM) km4 hr206) ok_X10_half kw_6_236 st_X10_half rfl (by decide) (Nat.le_of_ble_eq_true rfl) rfl dX10_text_206 (Nat.le_refl 0) (Nat.le_refl 0) ?_
    refine aw_aload_n (pc := 209) hX dX10_text_209 rfl 0 rfl ?_
    refine gf_X10_22 (pc := 210) hX km0 rfl dX10_text_210 ?_
    obtain ⟨S213, hr213, h⟩ := ob h
    refine aw_cSV (pc := 213) (As := [.ref 5]) (rest := []) hX (c_X10_half (sk := SKM) km5 hr213) ok_X10_half kw_6_236 st_X10_half rfl (by decide) (Nat.le_of_ble_eq_true rfl) rfl dX10_text_213 (Nat.le_refl 0) (Nat.le_refl 0) ?_
    refine aw_aload_n (pc := 216) hX dX10_text_216 rfl 0 rfl ?_
    refine gf_X10_25 (pc := 217) hX km0 rfl dX10_text_217 ?_
    obtain ⟨S220, hr220, h⟩ := ob h
    refine aw_cSV (pc := 220) (As := [.ref 6]) (rest := []) hX (c_X10_half (sk := SKM) km6 hr220) ok_X10_half kw_6_236 st_X10_half rfl (by decide) (Nat.le_of_ble_eq_true rfl) rfl dX10_text_220 (Nat.le_refl 0) (Nat.le_refl 0) ?_
    refine aw_aload_n (pc := 223) hX dX10_text_223 rfl 0 rfl ?_
    refine gf_X10_28 (pc := 224) hX km0 rfl dX10_text_224 ?_
    obtain ⟨S227, hr227, h⟩ := ob h
    refine aw_cSV (pc := 227) (As := [.ref 7]) (rest := []) hX (c_X10_half (sk := SKM) km7 hr227) ok_X10_half kw_6_236 st_X10_half rfl (by decide) (Nat.le_of_ble_eq_true rfl) rfl dX10_text_227 (Nat.le_refl 0) (Nat.le_refl 0) ?_
    refine aw_aload_n (pc := 230) hX dX10_text_230 rfl 0 rfl ?_
    refine gf_X10_31 (pc := 231) hX km0 rfl dX10_text_231 ?_
    obtain ⟨S234, hr234, h⟩ := ob h
    refine aw_cSV (pc := 234) (As := [.ref 8]) (rest := []) hX (c_X10_half (sk := SKM) km8 hr234) ok_X10_half kw_6_236 st_X10_half rfl (by decide) (Nat.le_of_ble_eq_true rfl) rfl dX10_text_234 (Nat.le_refl 0) (Nat.le_refl 0) ?_
    refine aw_aload_n (pc := 237) hX dX10_text_237 rfl 0 rfl ?_
    refine gf_X10_34 (pc := 238) hX km0 rfl dX10_text_238 ?_
    obtain ⟨S241, hr241, h⟩ := ob h
    refine aw_cSV (pc := 241) (As := [.ref 9]) (rest := []) hX (c_X10_half (sk := SKM) km9 hr241) ok_X10_half kw_6_236 st_X10_half rfl (by decide) (Nat.le_of_ble_eq_true rfl) rfl dX10_text_241 (Nat.le_refl 0) (Nat.le_refl 0) ?_
    refine aw_aload_n (pc := 244) hX dX10_text_244 rfl 0 rfl ?_
    refine gf_X10_37 (pc := 245) hX km0 rfl dX10_text_245 ?_
    obtain ⟨S248, hr248, h⟩ := ob h
    refine aw_cSV (pc := 248) (As := [.ref 10]) (rest := []) hX (c_X10_half (sk := SKM) km10 hr248) ok_X10_half kw_6_236 st_X10_half rfl (by decide) (Nat.le_of_ble_eq_true rfl) rfl dX10_text_248 (Nat.le_refl 0) (Nat.le_refl 0) ?_
    refine aw_aload_n (pc := 251) hX dX10_text_251 rfl 0 rfl ?_
    refine gf_X10_40 (pc := 252) hX km0 rfl dX10_text_252 ?_
    obtain ⟨S255, hr255, h⟩ := ob h
    refine aw_cSV (pc := 255) (As := [.ref 11]) (rest := []) hX (c_X10_half (sk := SKM) km11 hr255) ok_X10_half kw_6_236 st_X10_half rfl (by decide) (Nat.le_of_ble_eq_true rfl) rfl dX10_text_255 (Nat.le_refl 0) (Nat.le_refl 0) ?_
    refine aw_aload_n (pc := 258) hX dX10_text_258 rfl 0 rfl ?_
    refine gf_X10_43 (pc := 259) hX km0 rfl dX10_text_259 ?_
    obtain ⟨S262, hr262, h⟩ := ob h
    refine aw_cSV (pc := 262) (As := [.ref 12]) (rest := []) hX (c_X10_half (sk := SKM) km12 hr262) ok_X10_half kw_6_236 st_X10_half rfl (by decide) (Nat.le_of_ble_eq_true rfl) rfl dX10_text_262 (Nat.le_refl 0) (Nat.le_refl 0) ?_
    refine aw_aload_n (pc := 265) hX dX10_text_265 rfl 0 rfl ?_
    refine gf_X10_46 (pc := 266) hX km0 rfl dX10_text_266 ?_
    obtain ⟨S269, hr269, h⟩ := ob h
    refine aw_cSV (pc := 269) (As := [.ref 13]) (rest := []) hX (c_X10_half (sk := SKM) km13 hr269) ok_X10_half kw_6_236 st_X10_half rfl (by decide) (Nat.le_of_ble_eq_true rfl) rfl dX10_text_269 (Nat.le_refl 0) (Nat.le_refl 0) ?_
    refine aw_aload_n (pc := 272) hX dX10_text_272 rfl 0 rfl ?_
    refine aw_iconst (v := (0 : Int32)) (pc := 273) hX dX10_text_273 (by decide) ?_
    refine pf_X10_277 (pc := 274) hX km0 rfl dX10_text_274 ?_
    obtain ⟨S274, eS274, h⟩ := on h
    refine aw_S eS274 ?_
    refine aw_aload_n (pc := 277) hX dX10_text_277 rfl 0 rfl ?_
    refine aw_iconst (v := (-1 : Int32)) (pc := 278) hX dX10_text_278 (by decide) ?_
    refine pf_X10_99 (pc := 279) hX km0 rfl dX10_text_279 ?_
    obtain ⟨S279, eS279, h⟩ := on h
    refine aw_S eS279 ?_
    refine aw_aload_n (pc := 282) hX dX10_text_282 rfl 0 rfl ?_
    refine aw_iconst (v := (0 : Int32)) (pc := 283) hX dX10_text_283 (by decide) ?_
    refine pf_X10_280 (pc := 284) hX km0 rfl (by decide) dX10_text_284 ?_
    obtain ⟨S284, eS284, h⟩ := on h
    refine aw_S eS284 ?_
    refine aw_aload_n (pc := 287) hX dX10_text_287 rfl 0 rfl ?_
    refine aw_iconst (v := (0 : Int32)) (pc := 288) hX dX10_text_288 (by decide) ?_
    refine pf_X10_284 (pc := 289) hX km0 rfl dX10_text_289 ?_
    obtain ⟨S289, eS289, h⟩ := on h
    refine aw_S eS289 ?_
    refine aw_aload_n (pc := 292) hX dX10_text_292 rfl 0 rfl ?_
    obtain ⟨S293, hr293, h⟩ := ob h
    refine aw_cVV (pc := 293) (As := []) (rest := []) hX (c_X10_begins hr293) ok_X10_begins kw_5_164 im_X10_begins se_X10_begins rfl km0 rfl (by decide) (Nat.le_of_ble_eq_true rfl) rfl dX10_text_293 (Nat.le_refl 0) (Nat.le_refl 0) ?_
    refine aw_aload_n (pc := 296) hX dX10_text_296 rfl 0 rfl ?_
    refine gf_X10_224 (pc := 297) hX km0 rfl dX10_text_297 ?_
    cases h
    exact aw_iret hX hQ dX10_text_300
  · rw [if_neg c183] at h
    refine aw_iconst (v := (-1 : Int32)) (pc := 186) hX dX10_text_186 (by decide) ?_
    cases h
    exact aw_iret hX hQ dX10_text_187

set_option maxHeartbeats 4000000 in
set_option maxRecDepth 100000 in
theorem c_X10_text_141 {X : XT} {loc : Nat → Nat} {r : Int32} {Sf : Mem} (hX : AC X loc RX10 cX10_text (some .int) 3 211 0 0) (hQ : RetI X SKM loc 0 0 r Sf) : ∀ (n : Nat) (S : Mem), f_X10_text_141 n S = some (r, Sf) → AW X SKM loc 0 0 141 [(0, .ref 0)] [] S := by
  intro n
  induction n with
  | zero => intro S h; cases h
  | succ n ih =>
    intro S h
    unfold f_X10_text_141 at h
    refine aw_aload_n (pc := 141) hX dX10_text_141 rfl 0 rfl ?_
    refine gf_X10_178 (pc := 142) hX km0 rfl dX10_text_142 ?_
    refine aw_if_ne (pc := 145) hX (tgt := 163) dX10_text_145 (by decide) (fun c145 => ?_) (fun c145 => ?_)
    · rw [if_neg c145] at h
      exact c_X10_text_163 hX hQ S h
    · rw [if_pos c145] at h
      refine aw_aload_n (pc := 148) hX dX10_text_148 rfl 0 rfl ?_
      refine gf_X10_143 (pc := 149) hX km0 rfl dX10_text_149 ?_
      refine aw_iconst (v := (4 : Int32)) (pc := 152) hX dX10_text_152 (by decide) ?_
      refine aw_icmp_eq (pc := 153) hX (tgt := 163) dX10_text_153 (by decide) (fun c153 => ?_) (fun c153 => ?_)
      · rw [if_pos c153] at h
        exact c_X10_text_163 hX hQ S h
      · rw [if_neg c153] at h
        refine aw_aload_n (pc := 156) hX dX10_text_156 rfl 0 rfl ?_
        obtain ⟨S157, hr157, h⟩ := ob h
        refine aw_cVV (pc := 157) (As := []) (rest := []) hX (c_X10_line hr157) ok_X10_line kw_6_153 im_X10_line se_X10_line rfl km0 rfl (by decide) (Nat.le_of_ble_eq_true rfl) rfl dX10_text_157 (Nat.le_refl 0) (Nat.le_refl 0) ?_
        refine aw_goto (tgt := 141) (pc := 160) hX dX10_text_160 (by decide) ?_
        exact ih S157 h

set_option maxHeartbeats 4000000 in
set_option maxRecDepth 100000 in
theorem c_X10_text_91 {X : XT} {loc : Nat → Nat} {r : Int32} {Sf : Mem} (hX : AC X loc RX10 cX10_text (some .int) 3 211 0 0) (hQ : RetI X SKM loc 0 0 r Sf) : ∀ (n : Nat) (v2 : Int32) (S : Mem), f_X10_text_91 n v2 S = some (r, Sf) → AW X SKM loc 0 0 91 [(0, .ref 0), (2, .int v2)] [] S := by
  intro n
  induction n with
  | zero => intro v2 S h; cases h
  | succ n ih =>
    intro v2 S h
    unfold f_X10_text_91 at h
    refine aw_iload_n (pc := 91) hX dX10_text_91 rfl 1 rfl ?_
    refine aw_bipush (v := (6 : Int32)) (pc := 92) hX dX10_text_92 (by decide) ?_
    refine aw_icmp_ge (pc := 94) hX (tgt := 117) dX10_text_94 (by decide) (fun c94 => ?_) (fun c94 => ?_)
    · rw [if_pos c94] at h
      refine aw_aload_n (pc := 117) hX dX10_text_117 rfl 0 rfl ?_
      refine aw_iconst (v := (0 : Int32)) (pc := 118) hX dX10_text_118 (by decide) ?_
      refine pf_X10_201 (pc := 119) hX km0 rfl dX10_text_119 ?_
      obtain ⟨S119, eS119, h⟩ := on h
      refine aw_S eS119 ?_
      refine aw_aload_n (pc := 122) hX dX10_text_122 rfl 0 rfl ?_
      refine aw_iconst (v := (0 : Int32)) (pc := 123) hX dX10_text_123 (by decide) ?_
      refine pf_X10_224 (pc := 124) hX km0 rfl dX10_text_124 ?_
      obtain ⟨S124, eS124, h⟩ := on h
      refine aw_S eS124 ?_
      refine aw_aload_n (pc := 127) hX dX10_text_127 rfl 0 rfl ?_
      refine aw_iconst (v := (0 : Int32)) (pc := 128) hX dX10_text_128 (by decide) ?_
      refine pf_X10_264 (pc := 129) hX km0 rfl dX10_text_129 ?_
      obtain ⟨S129, eS129, h⟩ := on h
      refine aw_S eS129 ?_
      refine aw_aload_n (pc := 132) hX dX10_text_132 rfl 0 rfl ?_
      refine aw_iconst (v := (0 : Int32)) (pc := 133) hX dX10_text_133 (by decide) ?_
      refine pf_X10_237 (pc := 134) hX km0 rfl dX10_text_134 ?_
      obtain ⟨S134, eS134, h⟩ := on h
      refine aw_S eS134 ?_
      refine aw_aload_n (pc := 137) hX dX10_text_137 rfl 0 rfl ?_
      obtain ⟨S138, hr138, h⟩ := ob h
      refine aw_cVV (pc := 138) (As := []) (rest := []) hX (c_X10_token hr138) ok_X10_token kw_6_123 im_X10_token se_X10_token rfl km0 rfl (by decide) (Nat.le_of_ble_eq_true rfl) rfl dX10_text_138 (Nat.le_refl 0) (Nat.le_refl 0) ?_
      refine aw_sub (ls' := [(0, .ref 0)]) [0] rfl ?_
      exact c_X10_text_141 hX hQ FU S138 h
    · rw [if_neg c94] at h
      refine aw_aload_n (pc := 97) hX dX10_text_97 rfl 0 rfl ?_
      refine gf_X10_37 (pc := 98) hX km0 rfl dX10_text_98 ?_
      refine aw_iload_n (pc := 101) hX dX10_text_101 rfl 1 rfl ?_
      refine aw_iconst (v := (0 : Int32)) (pc := 102) hX dX10_text_102 (by decide) ?_
      obtain ⟨S103, hS103, h⟩ := ob h
      refine aw_iast (pc := 103) hX km10 hS103 dX10_text_103 ?_
      refine aw_aload_n (pc := 104) hX dX10_text_104 rfl 0 rfl ?_
      refine gf_X10_40 (pc := 105) hX km0 rfl dX10_text_105 ?_
      refine aw_iload_n (pc := 108) hX dX10_text_108 rfl 1 rfl ?_
      refine aw_iconst (v := (0 : Int32)) (pc := 109) hX dX10_text_109 (by decide) ?_
      obtain ⟨S110, hS110, h⟩ := ob h
      refine aw_iast (pc := 110) hX km11 hS110 dX10_text_110 ?_
      refine aw_iinc (v := (v2 + 1)) (ls' := [(2, .int (v2 + 1)), (0, .ref 0)]) (pc := 111) hX dX10_text_111 (pos := 1) rfl (by first | rfl | decide) (by decide) rfl ?_
      refine aw_goto (tgt := 91) (pc := 114) hX dX10_text_114 (by decide) ?_
      refine aw_sub (ls' := [(0, .ref 0), (2, .int (v2 + 1))]) [1, 0] rfl ?_
      exact ih (v2 + 1) S110 h

set_option maxHeartbeats 4000000 in
set_option maxRecDepth 100000 in
theorem c_X10_text_80 {X : XT} {loc : Nat → Nat} {r : Int32} {Sf : Mem} (hX : AC X loc RX10 cX10_text (some .int) 3 211 0 0) (hQ : RetI X SKM loc 0 0 r Sf) {R47 : Int32 → Mem → Option (Int32 × Mem)} (IH47 : ∀ (v2 : Int32) (S : Mem), R47 v2 S = some (r, Sf) → AW X SKM loc 0 0 47 [(0, .ref 0), (2, .int v2)] [] S) (v2 : Int32) (t1 : Int32) (t2 : Int32) (S : Mem) (h : f_X10_text_80 R47 v2 t1 t2 S = some (r, Sf)) : AW X SKM loc 0 0 80 [(0, .ref 0), (2, .int v2)] [.int t2, .int t1, .ref 0] S := by
  unfold f_X10_text_80 at h
  obtain ⟨S80, hr80, h⟩ := ob h
  refine aw_cVV (pc := 80) (As := [.int t1, .int t2]) (rest := []) hX (c_X10_reads hr80) ok_X10_reads kw_6_119 im_X10_reads se_X10_reads rfl km0 rfl (by decide) (Nat.le_of_ble_eq_true rfl) rfl dX10_text_80 (Nat.le_refl 0) (Nat.le_refl 0) ?_
  refine aw_iinc (v := (v2 + 1)) (ls' := [(2, .int (v2 + 1)), (0, .ref 0)]) (pc := 83) hX dX10_text_83 (pos := 1) rfl (by first | rfl | decide) (by decide) rfl ?_
  refine aw_goto (tgt := 47) (pc := 86) hX dX10_text_86 (by decide) ?_
  refine aw_sub (ls' := [(0, .ref 0), (2, .int (v2 + 1))]) [1, 0] rfl ?_
  exact IH47 (v2 + 1) S80 h

set_option maxHeartbeats 4000000 in
set_option maxRecDepth 100000 in
theorem c_X10_text_65 {X : XT} {loc : Nat → Nat} {r : Int32} {Sf : Mem} (hX : AC X loc RX10 cX10_text (some .int) 3 211 0 0) (hQ : RetI X SKM loc 0 0 r Sf) {R47 : Int32 → Mem → Option (Int32 × Mem)} (IH47 : ∀ (v2 : Int32) (S : Mem), R47 v2 S = some (r, Sf) → AW X SKM loc 0 0 47 [(0, .ref 0), (2, .int v2)] [] S) (v2 : Int32) (t1 : Int32) (S : Mem) (h : f_X10_text_65 R47 v2 t1 S = some (r, Sf)) : AW X SKM loc 0 0 65 [(0, .ref 0), (2, .int v2)] [.int t1, .ref 0] S := by
  unfold f_X10_text_65 at h
  refine aw_bipush (v := (20 : Int32)) (pc := 65) hX dX10_text_65 (by decide) ?_
  refine aw_goto (tgt := 80) (pc := 67) hX dX10_text_67 (by decide) ?_
  exact c_X10_text_80 hX hQ IH47 v2 t1 (20 : Int32) S h

set_option maxHeartbeats 4000000 in
set_option maxRecDepth 100000 in
theorem c_X10_text_47 {X : XT} {loc : Nat → Nat} {r : Int32} {Sf : Mem} (hX : AC X loc RX10 cX10_text (some .int) 3 211 0 0) (hQ : RetI X SKM loc 0 0 r Sf) : ∀ (n : Nat) (v2 : Int32) (S : Mem), f_X10_text_47 n v2 S = some (r, Sf) → AW X SKM loc 0 0 47 [(0, .ref 0), (2, .int v2)] [] S := by
  intro n
  induction n with
  | zero => intro v2 S h; cases h
  | succ n ih =>
    intro v2 S h
    unfold f_X10_text_47 at h
    refine aw_iload_n (pc := 47) hX dX10_text_47 rfl 1 rfl ?_
    refine aw_bipush (v := (7 : Int32)) (pc := 48) hX dX10_text_48 (by decide) ?_
    refine aw_icmp_ge (pc := 50) hX (tgt := 89) dX10_text_50 (by decide) (fun c50 => ?_) (fun c50 => ?_)
    · rw [if_pos c50] at h
      refine aw_iconst (v := (3 : Int32)) (pc := 89) hX dX10_text_89 (by decide) ?_
      refine aw_istore_n (ls' := [(2, .int (3 : Int32)), (0, .ref 0)]) (pc := 90) hX dX10_text_90 rfl (by decide) rfl ?_
      refine aw_sub (ls' := [(0, .ref 0), (2, .int (3 : Int32))]) [1, 0] rfl ?_
      exact c_X10_text_91 hX hQ FU (3 : Int32) S h
    · rw [if_neg c50] at h
      refine aw_aload_n (pc := 53) hX dX10_text_53 rfl 0 rfl ?_
      refine aw_iload_n (pc := 54) hX dX10_text_54 rfl 1 rfl ?_
      refine aw_iload_n (pc := 55) hX dX10_text_55 rfl 1 rfl ?_
      refine aw_iconst (v := (2 : Int32)) (pc := 56) hX dX10_text_56 (by decide) ?_
      refine aw_icmp_eq (pc := 57) hX (tgt := 65) dX10_text_57 (by decide) (fun c57 => ?_) (fun c57 => ?_)
      · rw [if_pos c57] at h
        exact c_X10_text_65 hX hQ ih v2 v2 S h
      · rw [if_neg c57] at h
        refine aw_iload_n (pc := 60) hX dX10_text_60 rfl 1 rfl ?_
        refine aw_iconst (v := (3 : Int32)) (pc := 61) hX dX10_text_61 (by decide) ?_
        refine aw_icmp_ne (pc := 62) hX (tgt := 70) dX10_text_62 (by decide) (fun c62 => ?_) (fun c62 => ?_)
        · rw [if_neg c62] at h
          refine aw_iload_n (pc := 70) hX dX10_text_70 rfl 1 rfl ?_
          refine aw_iconst (v := (4 : Int32)) (pc := 71) hX dX10_text_71 (by decide) ?_
          refine aw_icmp_ne (pc := 72) hX (tgt := 79) dX10_text_72 (by decide) (fun c72 => ?_) (fun c72 => ?_)
          · rw [if_neg c72] at h
            refine aw_iconst (v := (0 : Int32)) (pc := 79) hX dX10_text_79 (by decide) ?_
            exact c_X10_text_80 hX hQ ih v2 v2 (0 : Int32) S h
          · rw [if_pos c72] at h
            refine aw_iconst (v := (5 : Int32)) (pc := 75) hX dX10_text_75 (by decide) ?_
            refine aw_goto (tgt := 80) (pc := 76) hX dX10_text_76 (by decide) ?_
            exact c_X10_text_80 hX hQ ih v2 v2 (5 : Int32) S h
        · rw [if_pos c62] at h
          exact c_X10_text_65 hX hQ ih v2 v2 S h

set_option maxHeartbeats 4000000 in
set_option maxRecDepth 100000 in
theorem c_X10_text {v1 : Int32} {S : Mem} {r : Int32} {Sf : Mem} (h : f_X10_text v1 S = some (r, Sf)) : MetI yX10_text cX10_text 3 (some .int) 211 [.ref 0, .int v1] SKM S r Sf := by
  refine MetI.intro (by decide +kernel) (Nat.le_of_ble_eq_true rfl) (fun X loc hX hQ => ?_)
  unfold f_X10_text at h
  show AW X SKM loc 0 0 0 [(0, .ref 0), (1, .int v1)] [] S
  refine aw_aload_n (pc := 0) hX dX10_text_0 rfl 0 rfl ?_
  refine aw_iconst (v := (0 : Int32)) (pc := 1) hX dX10_text_1 (by decide) ?_
  refine pf_X10_124 (pc := 2) hX km0 rfl dX10_text_2 ?_
  obtain ⟨S2, eS2, h⟩ := on h
  refine aw_S eS2 ?_
  refine aw_iload_n (pc := 5) hX dX10_text_5 rfl 1 rfl ?_
  refine aw_if_lt (pc := 6) hX (tgt := 17) dX10_text_6 (by decide) (fun c6 => ?_) (fun c6 => ?_)
  · rw [if_pos c6] at h
    refine aw_bipush (v := (-2 : Int32)) (pc := 17) hX dX10_text_17 (by decide) ?_
    cases h
    exact aw_iret hX hQ dX10_text_19
  · rw [if_neg c6] at h
    refine aw_iload_n (pc := 9) hX dX10_text_9 rfl 1 rfl ?_
    refine aw_aload_n (pc := 10) hX dX10_text_10 rfl 0 rfl ?_
    refine gf_X10_127 (pc := 11) hX km0 rfl dX10_text_11 ?_
    refine aw_icmp_le (pc := 14) hX (tgt := 20) dX10_text_14 (by decide) (fun c14 => ?_) (fun c14 => ?_)
    · rw [if_pos c14] at h
      refine aw_aload_n (pc := 20) hX dX10_text_20 rfl 0 rfl ?_
      refine aw_iload_n (pc := 21) hX dX10_text_21 rfl 1 rfl ?_
      refine pf_X10_133 (pc := 22) hX km0 rfl dX10_text_22 ?_
      obtain ⟨S22, eS22, h⟩ := on h
      refine aw_S eS22 ?_
      refine aw_aload_n (pc := 25) hX dX10_text_25 rfl 0 rfl ?_
      refine aw_iconst (v := (0 : Int32)) (pc := 26) hX dX10_text_26 (by decide) ?_
      refine pf_X10_127 (pc := 27) hX km0 rfl dX10_text_27 ?_
      obtain ⟨S27, eS27, h⟩ := on h
      refine aw_S eS27 ?_
      refine aw_aload_n (pc := 30) hX dX10_text_30 rfl 0 rfl ?_
      refine aw_iconst (v := (0 : Int32)) (pc := 31) hX dX10_text_31 (by decide) ?_
      refine pf_X10_130 (pc := 32) hX km0 rfl dX10_text_32 ?_
      obtain ⟨S32, eS32, h⟩ := on h
      refine aw_S eS32 ?_
      refine aw_aload_n (pc := 35) hX dX10_text_35 rfl 0 rfl ?_
      refine aw_iconst (v := (0 : Int32)) (pc := 36) hX dX10_text_36 (by decide) ?_
      refine pf_X10_178 (pc := 37) hX km0 rfl dX10_text_37 ?_
      obtain ⟨S37, eS37, h⟩ := on h
      refine aw_S eS37 ?_
      refine aw_aload_n (pc := 40) hX dX10_text_40 rfl 0 rfl ?_
      refine aw_iconst (v := (-1 : Int32)) (pc := 41) hX dX10_text_41 (by decide) ?_
      refine pf_X10_181 (pc := 42) hX km0 rfl dX10_text_42 ?_
      obtain ⟨S42, eS42, h⟩ := on h
      refine aw_S eS42 ?_
      refine aw_iconst (v := (0 : Int32)) (pc := 45) hX dX10_text_45 (by decide) ?_
      refine aw_istore_n (ls' := [(2, .int (0 : Int32)), (0, .ref 0), (1, .int v1)]) (pc := 46) hX dX10_text_46 rfl (by decide) rfl ?_
      refine aw_sub (ls' := [(0, .ref 0), (2, .int (0 : Int32))]) [1, 0] rfl ?_
      exact c_X10_text_47 hX hQ FU (0 : Int32) S42 h
    · rw [if_neg c14] at h
      refine aw_bipush (v := (-2 : Int32)) (pc := 17) hX dX10_text_17 (by decide) ?_
      cases h
      exact aw_iret hX hQ dX10_text_19

