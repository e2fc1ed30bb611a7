def f_X6_add (v1 : Int32) (v2 : Int32) (v3 : Int32) (S : Mem) : Option Mem :=
  if (700 : Int32) < (S.1 4 3) then
  (some S)
  else
  ((wr S 5 701 (S.1 4 3) v1).bind fun S19 =>
  (wr S19 6 701 (S19.1 4 3) v2).bind fun S29 =>
  (wr S29 7 701 (S29.1 4 3) v3).bind fun S39 =>
  nxt (sI S39 4 3 ((S39.1 4 3) + (1 : Int32))) fun S47 =>
  some S47)

set_option maxHeartbeats 4000000 in
set_option maxRecDepth 100000 in
theorem c_X6_add {v1 : Int32} {v2 : Int32} {v3 : Int32} {S : Mem} {Sf : Mem} (h : f_X6_add v1 v2 v3 S = some Sf) : MetV yX6_add cX6_add 4 none 0 [.ref 4, .int v1, .int v2, .int v3] SKC S Sf := by
  refine MetV.intro (by decide +kernel) (Nat.le_of_ble_eq_true rfl) (fun X loc hX hQ => ?_)
  unfold f_X6_add at h
  show AW X SKC loc 0 0 0 [(0, .ref 4), (1, .int v1), (2, .int v2), (3, .int v3)] [] S
  refine aw_aload_n (pc := 0) hX dX6_add_0 rfl 0 rfl ?_
  refine gf_X6_21 (pc := 1) hX kc4 rfl dX6_add_1 ?_
  refine aw_sipush (v := (700 : Int32)) (pc := 4) hX dX6_add_4 (by decide) ?_
  refine aw_icmp_gt (pc := 7) hX (tgt := 50) dX6_add_7 (by decide) (fun c7 => ?_) (fun c7 => ?_)
  · rw [if_pos c7] at h
    cases h
    exact aw_vret hX hQ dX6_add_50
  · rw [if_neg c7] at h
    refine aw_aload_n (pc := 10) hX dX6_add_10 rfl 0 rfl ?_
    refine gf_X6_9 (pc := 11) hX kc4 rfl dX6_add_11 ?_
    refine aw_aload_n (pc := 14) hX dX6_add_14 rfl 0 rfl ?_
    refine gf_X6_21 (pc := 15) hX kc4 rfl dX6_add_15 ?_
    refine aw_iload_n (pc := 18) hX dX6_add_18 rfl 1 rfl ?_
    obtain ⟨S19, hS19, h⟩ := ob h
    refine aw_iast (pc := 19) hX kc5 hS19 dX6_add_19 ?_
    refine aw_aload_n (pc := 20) hX dX6_add_20 rfl 0 rfl ?_
    refine gf_X6_15 (pc := 21) hX kc4 rfl dX6_add_21 ?_
    refine aw_aload_n (pc := 24) hX dX6_add_24 rfl 0 rfl ?_
    refine gf_X6_21 (pc := 25) hX kc4 rfl dX6_add_25 ?_
    refine aw_iload_n (pc := 28) hX dX6_add_28 rfl 2 rfl ?_
    obtain ⟨S29, hS29, h⟩ := ob h
    refine aw_iast (pc := 29) hX kc6 hS29 dX6_add_29 ?_
    refine aw_aload_n (pc := 30) hX dX6_add_30 rfl 0 rfl ?_
    refine gf_X6_18 (pc := 31) hX kc4 rfl dX6_add_31 ?_
    refine aw_aload_n (pc := 34) hX dX6_add_34 rfl 0 rfl ?_
    refine gf_X6_21 (pc := 35) hX kc4 rfl dX6_add_35 ?_
    refine aw_iload_n (pc := 38) hX dX6_add_38 rfl 3 rfl ?_
    obtain ⟨S39, hS39, h⟩ := ob h
    refine aw_iast (pc := 39) hX kc7 hS39 dX6_add_39 ?_
    refine aw_aload_n (pc := 40) hX dX6_add_40 rfl 0 rfl ?_
    refine aw_dup (pc := 41) hX dX6_add_41 rfl ?_
    refine gf_X6_21 (pc := 42) hX kc4 rfl dX6_add_42 ?_
    refine aw_iconst (v := (1 : Int32)) (pc := 45) hX dX6_add_45 (by decide) ?_
    refine aw_iadd (pc := 46) hX dX6_add_46 ?_
    refine pf_X6_21 (pc := 47) hX kc4 rfl dX6_add_47 ?_
    obtain ⟨S47, eS47, h⟩ := on h
    refine aw_S eS47 ?_
    cases h
    exact aw_vret hX hQ dX6_add_50

def f_X6_isDigit (v0 : Int32) (S : Mem) : Option (Int32 × Mem) :=
  if v0 < (48 : Int32) then
  (some ((0 : Int32), S))
  else
  (if (57 : Int32) < v0 then
  (some ((0 : Int32), S))
  else
  (some ((1 : Int32), S)))

set_option maxHeartbeats 4000000 in
set_option maxRecDepth 100000 in
theorem c_X6_isDigit {sk : Skel} {v0 : Int32} {S : Mem} {r : Int32} {Sf : Mem} (h : f_X6_isDigit v0 S = some (r, Sf)) : MetI yX6_isDigit cX6_isDigit 1 (some .boolean) 0 [.int v0] sk S r Sf := by
  refine MetI.intro (by decide +kernel) (Nat.le_of_ble_eq_true rfl) (fun X loc hX hQ => ?_)
  unfold f_X6_isDigit at h
  show AW X sk loc 0 0 0 [(0, .int v0)] [] S
  refine aw_iload_n (pc := 0) hX dX6_isDigit_0 rfl 0 rfl ?_
  refine aw_bipush (v := (48 : Int32)) (pc := 1) hX dX6_isDigit_1 (by decide) ?_
  refine aw_icmp_lt (pc := 3) hX (tgt := 16) dX6_isDigit_3 (by decide) (fun c3 => ?_) (fun c3 => ?_)
  · rw [if_pos c3] at h
    refine aw_iconst (v := (0 : Int32)) (pc := 16) hX dX6_isDigit_16 (by decide) ?_
    cases h
    exact aw_zret hX hQ (by decide) dX6_isDigit_17
  · rw [if_neg c3] at h
    refine aw_iload_n (pc := 6) hX dX6_isDigit_6 rfl 0 rfl ?_
    refine aw_bipush (v := (57 : Int32)) (pc := 7) hX dX6_isDigit_7 (by decide) ?_
    refine aw_icmp_gt (pc := 9) hX (tgt := 16) dX6_isDigit_9 (by decide) (fun c9 => ?_) (fun c9 => ?_)
    · rw [if_pos c9] at h
      refine aw_iconst (v := (0 : Int32)) (pc := 16) hX dX6_isDigit_16 (by decide) ?_
      cases h
      exact aw_zret hX hQ (by decide) dX6_isDigit_17
    · rw [if_neg c9] at h
      refine aw_iconst (v := (1 : Int32)) (pc := 12) hX dX6_isDigit_12 (by decide) ?_
      refine aw_goto (tgt := 17) (pc := 13) hX dX6_isDigit_13 (by decide) ?_
      cases h
      exact aw_zret hX hQ (by decide) dX6_isDigit_17

def f_X6_cutNumber_48 (a1 : Nat) (n1 : Nat) (v2 : Int32) (v4 : Int32) (v5 : Int32) (S : Mem) : Option (Int32 × Mem) :=
  (f_X6_add (2 : Int32) v2 v5 S).bind fun S53 =>
  some (v4, S53)

def f_X6_cutNumber_6 (a1 : Nat) (n1 : Nat) : Nat → Int32 → Int32 → Int32 → Int32 → Mem → Option (Int32 × Mem)
  | 0, _, _, _, _, _ => none
  | n + 1, v2, v3, v4, v5, S =>
  if v3 ≤ v4 then
  (f_X6_cutNumber_48 a1 n1 v2 v4 v5 S)
  else
  ((rd S a1 n1 v4).bind fun x15 =>
  bnd (f_X6_isDigit x15 S) fun r16 S16 =>
  if r16 = 0 then
  (f_X6_cutNumber_48 a1 n1 v2 v4 v5 S16)
  else
  ((rd S16 a1 n1 v4).bind fun x32 =>
  bnd (f_J9_min_7cf53 (1000000 : Int32) (((v5 * (10 : Int32)) + x32) - (48 : Int32)) S16) fun r37 S37 =>
  f_X6_cutNumber_6 a1 n1 n v2 v3 (v4 + 1) r37 S37))

def f_X6_cutNumber (a1 : Nat) (n1 : Nat) (v2 : Int32) (v3 : Int32) (S : Mem) : Option (Int32 × Mem) :=
  f_X6_cutNumber_6 a1 n1 FU v2 v3 v2 (0 : Int32) S

set_option maxHeartbeats 4000000 in
set_option maxRecDepth 100000 in
theorem c_X6_cutNumber_48 {X : XT} {loc : Nat → Nat} {a1 : Nat} {n1 : Nat} {r : Int32} {Sf : Mem} (hX : AC X loc RX6 cX6_cutNumber (some .int) 6 1 0 0) (hQ : RetI X SKC loc 0 0 r Sf) (ha1 : SKC[a1]? = some (0, n1, [])) (v2 : Int32) (v4 : Int32) (v5 : Int32) (S : Mem) (h : f_X6_cutNumber_48 a1 n1 v2 v4 v5 S = some (r, Sf)) : AW X SKC loc 0 0 48 [(0, .ref 4), (2, .int v2), (4, .int v4), (5, .int v5)] [] S := by
  unfold f_X6_cutNumber_48 at h
  refine aw_aload_n (pc := 48) hX dX6_cutNumber_48 rfl 0 rfl ?_
  refine aw_iconst (v := (2 : Int32)) (pc := 49) hX dX6_cutNumber_49 (by decide) ?_
  refine aw_iload_n (pc := 50) hX dX6_cutNumber_50 rfl 1 rfl ?_
  refine aw_iload (pc := 51) hX dX6_cutNumber_51 3 rfl ?_
  obtain ⟨S53, hr53, h⟩ := ob h
  refine aw_cVV (pc := 53) (As := [.int (2 : Int32), .int v2, .int v5]) (rest := []) hX (c_X6_add hr53) ok_X6_add kw_3_19 im_X6_add se_X6_add rfl kc4 rfl (by decide) (Nat.le_of_ble_eq_true rfl) rfl dX6_cutNumber_53 (Nat.le_refl 0) (Nat.le_refl 0) ?_
  refine aw_iload (pc := 56) hX dX6_cutNumber_56 2 rfl ?_
  cases h
  exact aw_iret hX hQ dX6_cutNumber_58

set_option maxHeartbeats 4000000 in
set_option maxRecDepth 100000 in
theorem c_X6_cutNumber_6 {X : XT} {loc : Nat → Nat} {a1 : Nat} {n1 : Nat} {r : Int32} {Sf : Mem} (hX : AC X loc RX6 cX6_cutNumber (some .int) 6 1 0 0) (hQ : RetI X SKC loc 0 0 r Sf) (ha1 : SKC[a1]? = some (0, n1, [])) : ∀ (n : Nat) (v2 : Int32) (v3 : Int32) (v4 : Int32) (v5 : Int32) (S : Mem), f_X6_cutNumber_6 a1 n1 n v2 v3 v4 v5 S = some (r, Sf) → AW X SKC loc 0 0 6 [(0, .ref 4), (1, .ref a1), (2, .int v2), (3, .int v3), (4, .int v4), (5, .int v5)] [] S := by
  intro n
  induction n with
  | zero => intro v2 v3 v4 v5 S h; cases h
  | succ n ih =>
    intro v2 v3 v4 v5 S h
    unfold f_X6_cutNumber_6 at h
    refine aw_iload (pc := 6) hX dX6_cutNumber_6 4 rfl ?_
    refine aw_iload_n (pc := 8) hX dX6_cutNumber_8 rfl 3 rfl ?_
    refine aw_icmp_ge (pc := 9) hX (tgt := 48) dX6_cutNumber_9 (by decide) (fun c9 => ?_) (fun c9 => ?_)
    · rw [if_pos c9] at h
      refine aw_sub (ls' := [(0, .ref 4), (2, .int v2), (4, .int v4), (5, .int v5)]) [0, 2, 4, 5] rfl ?_
      exact c_X6_cutNumber_48 hX hQ ha1 v2 v4 v5 S h
    · rw [if_neg c9] at h
      refine aw_aload_n (pc := 12) hX dX6_cutNumber_12 rfl 1 rfl ?_
      refine aw_iload (pc := 13) hX dX6_cutNumber_13 4 rfl ?_
      obtain ⟨x15, hx15, h⟩ := ob h
      refine aw_iald (pc := 15) hX ha1 hx15 dX6_cutNumber_15 ?_
      obtain ⟨r16, S16, hr16, h⟩ := ob2 h
      refine aw_cSI (pc := 16) (As := [.int x15]) (rest := []) hX (c_X6_isDigit (sk := SKC) hr16) ok_X6_isDigit kw_3_23 st_X6_isDigit rfl (by decide) (Nat.le_of_ble_eq_true rfl) rfl dX6_cutNumber_16 (Nat.le_refl 0) (Nat.le_refl 0) ?_
      refine aw_if_eq (pc := 19) hX (tgt := 48) dX6_cutNumber_19 (by decide) (fun c19 => ?_) (fun c19 => ?_)
      · rw [if_pos c19] at h
        refine aw_sub (ls' := [(0, .ref 4), (2, .int v2), (4, .int v4), (5, .int v5)]) [0, 2, 4, 5] rfl ?_
        exact c_X6_cutNumber_48 hX hQ ha1 v2 v4 v5 S16 h
      · rw [if_neg c19] at h
        refine aw_ldc (v := (1000000 : Int32)) (pc := 22) hX kw_3_30 dX6_cutNumber_22 ?_
        refine aw_iload (pc := 24) hX dX6_cutNumber_24 5 rfl ?_
        refine aw_bipush (v := (10 : Int32)) (pc := 26) hX dX6_cutNumber_26 (by decide) ?_
        refine aw_imul (pc := 28) hX dX6_cutNumber_28 ?_
        refine aw_aload_n (pc := 29) hX dX6_cutNumber_29 rfl 1 rfl ?_
        refine aw_iload (pc := 30) hX dX6_cutNumber_30 4 rfl ?_
        obtain ⟨x32, hx32, h⟩ := ob h
        refine aw_iald (pc := 32) hX ha1 hx32 dX6_cutNumber_32 ?_
        refine aw_iadd (pc := 33) hX dX6_cutNumber_33 ?_
        refine aw_bipush (v := (48 : Int32)) (pc := 34) hX dX6_cutNumber_34 (by decide) ?_
        refine aw_isub (pc := 36) hX dX6_cutNumber_36 ?_
        obtain ⟨r37, S37, hr37, h⟩ := ob2 h
        refine aw_cSI (pc := 37) (As := [.int (1000000 : Int32), .int (((v5 * (10 : Int32)) + x32) - (48 : Int32))]) (rest := []) hX (c_J9_min_7cf53 (sk := SKC) hr37) ok_J9_min_7cf53 kw_2_194 st_J9_min_7cf53 rfl (by decide) (Nat.le_of_ble_eq_true rfl) rfl dX6_cutNumber_37 (Nat.le_refl 0) (Nat.le_refl 0) ?_
        refine aw_istore (ls' := [(5, .int r37), (0, .ref 4), (1, .ref a1), (2, .int v2), (3, .int v3), (4, .int v4)]) (pc := 40) hX dX6_cutNumber_40 (by decide) rfl ?_
        refine aw_iinc (v := (v4 + 1)) (ls' := [(4, .int (v4 + 1)), (5, .int r37), (0, .ref 4), (1, .ref a1), (2, .int v2), (3, .int v3)]) (pc := 42) hX dX6_cutNumber_42 (pos := 5) rfl (by first | rfl | decide) (by decide) rfl ?_
        refine aw_goto (tgt := 6) (pc := 45) hX dX6_cutNumber_45 (by decide) ?_
        refine aw_sub (ls' := [(0, .ref 4), (1, .ref a1), (2, .int v2), (3, .int v3), (4, .int (v4 + 1)), (5, .int r37)]) [2, 3, 4, 5, 0, 1] rfl ?_
        exact ih v2 v3 (v4 + 1) r37 S37 h

set_option maxHeartbeats 4000000 in
set_option maxRecDepth 100000 in
theorem c_X6_cutNumber {a1 : Nat} {n1 : Nat} {v2 : Int32} {v3 : Int32} {S : Mem} {r : Int32} {Sf : Mem} (ha1 : SKC[a1]? = some (0, n1, [])) (h : f_X6_cutNumber a1 n1 v2 v3 S = some (r, Sf)) : MetI yX6_cutNumber cX6_cutNumber 6 (some .int) 1 [.ref 4, .ref a1, .int v2, .int v3] SKC S r Sf := by
  refine MetI.intro (by decide +kernel) (Nat.le_of_ble_eq_true rfl) (fun X loc hX hQ => ?_)
  unfold f_X6_cutNumber at h
  show AW X SKC loc 0 0 0 [(0, .ref 4), (1, .ref a1), (2, .int v2), (3, .int v3)] [] S
  refine aw_iload_n (pc := 0) hX dX6_cutNumber_0 rfl 2 rfl ?_
  refine aw_istore (ls' := [(4, .int v2), (0, .ref 4), (1, .ref a1), (2, .int v2), (3, .int v3)]) (pc := 1) hX dX6_cutNumber_1 (by decide) rfl ?_
  refine aw_iconst (v := (0 : Int32)) (pc := 3) hX dX6_cutNumber_3 (by decide) ?_
  refine aw_istore (ls' := [(5, .int (0 : Int32)), (4, .int v2), (0, .ref 4), (1, .ref a1), (2, .int v2), (3, .int v3)]) (pc := 4) hX dX6_cutNumber_4 (by decide) rfl ?_
  refine aw_sub (ls' := [(0, .ref 4), (1, .ref a1), (2, .int v2), (3, .int v3), (4, .int v2), (5, .int (0 : Int32))]) [2, 3, 4, 5, 1, 0] rfl ?_
  exact c_X6_cutNumber_6 hX hQ ha1 FU v2 v3 v2 (0 : Int32) S h

def f_X6_pairKind (v0 : Int32) (v1 : Int32) (S : Mem) : Option (Int32 × Mem) :=
  if v0 = (60 : Int32) then
  (if v1 = (61 : Int32) then
  (some ((8 : Int32), S))
  else
  (if v1 = (62 : Int32) then
  (some ((10 : Int32), S))
  else
  (some ((1 : Int32), S))))
  else
  (if v0 = (62 : Int32) then
  (if v1 = (61 : Int32) then
  (some ((11 : Int32), S))
  else
  (some ((1 : Int32), S)))
  else
  (some ((1 : Int32), S)))

set_option maxHeartbeats 4000000 in
set_option maxRecDepth 100000 in
theorem c_X6_pairKind {sk : Skel} {v0 : Int32} {v1 : Int32} {S : Mem} {r : Int32} {Sf : Mem} (h : f_X6_pairKind v0 v1 S = some (r, Sf)) : MetI yX6_pairKind cX6_pairKind 2 (some .int) 0 [.int v0, .int v1] sk S r Sf := by
  refine MetI.intro (by decide +kernel) (Nat.le_of_ble_eq_true rfl) (fun X loc hX hQ => ?_)
  unfold f_X6_pairKind at h
  show AW X sk loc 0 0 0 [(0, .int v0), (1, .int v1)] [] S
  refine aw_iload_n (pc := 0) hX dX6_pairKind_0 rfl 0 rfl ?_
  refine aw_bipush (v := (60 : Int32)) (pc := 1) hX dX6_pairKind_1 (by decide) ?_
  refine aw_icmp_ne (pc := 3) hX (tgt := 30) dX6_pairKind_3 (by decide) (fun c3 => ?_) (fun c3 => ?_)
  · rw [if_neg c3] at h
    refine aw_iload_n (pc := 30) hX dX6_pairKind_30 rfl 0 rfl ?_
    refine aw_bipush (v := (62 : Int32)) (pc := 31) hX dX6_pairKind_31 (by decide) ?_
    refine aw_icmp_ne (pc := 33) hX (tgt := 47) dX6_pairKind_33 (by decide) (fun c33 => ?_) (fun c33 => ?_)
    · rw [if_neg c33] at h
      refine aw_iconst (v := (1 : Int32)) (pc := 47) hX dX6_pairKind_47 (by decide) ?_
      cases h
      exact aw_iret hX hQ dX6_pairKind_48
    · rw [if_pos c33] at h
      refine aw_iload_n (pc := 36) hX dX6_pairKind_36 rfl 1 rfl ?_
      refine aw_bipush (v := (61 : Int32)) (pc := 37) hX dX6_pairKind_37 (by decide) ?_
      refine aw_icmp_ne (pc := 39) hX (tgt := 47) dX6_pairKind_39 (by decide) (fun c39 => ?_) (fun c39 => ?_)
      · rw [if_neg c39] at h
        refine aw_iconst (v := (1 : Int32)) (pc := 47) hX dX6_pairKind_47 (by decide) ?_
        cases h
        exact aw_iret hX hQ dX6_pairKind_48
      · rw [if_pos c39] at h
        refine aw_bipush (v := (11 : Int32)) (pc := 42) hX dX6_pairKind_42 (by decide) ?_
        refine aw_goto (tgt := 48) (pc := 44) hX dX6_pairKind_44 (by decide) ?_
        cases h
        exact aw_iret hX hQ dX6_pairKind_48
  · rw [if_pos c3] at h
    refine aw_iload_n (pc := 6) hX dX6_pairKind_6 rfl 1 rfl ?_
    refine aw_bipush (v := (61 : Int32)) (pc := 7) hX dX6_pairKind_7 (by decide) ?_
    refine aw_icmp_ne (pc := 9) hX (tgt := 17) dX6_pairKind_9 (by decide) (fun c9 => ?_) (fun c9 => ?_)
    · rw [if_neg c9] at h
      refine aw_iload_n (pc := 17) hX dX6_pairKind_17 rfl 1 rfl ?_
      refine aw_bipush (v := (62 : Int32)) (pc := 18) hX dX6_pairKind_18 (by decide) ?_
      refine aw_icmp_ne (pc := 20) hX (tgt := 28) dX6_pairKind_20 (by decide) (fun c20 => ?_) (fun c20 => ?_)
      · rw [if_neg c20] at h
        refine aw_iconst (v := (1 : Int32)) (pc := 28) hX dX6_pairKind_28 (by decide) ?_
        cases h
        exact aw_iret hX hQ dX6_pairKind_29
      · rw [if_pos c20] at h
        refine aw_bipush (v := (10 : Int32)) (pc := 23) hX dX6_pairKind_23 (by decide) ?_
        refine aw_goto (tgt := 29) (pc := 25) hX dX6_pairKind_25 (by decide) ?_
        cases h
        exact aw_iret hX hQ dX6_pairKind_29
    · rw [if_pos c9] at h
      refine aw_bipush (v := (8 : Int32)) (pc := 12) hX dX6_pairKind_12 (by decide) ?_
      refine aw_goto (tgt := 29) (pc := 14) hX dX6_pairKind_14 (by decide) ?_
      cases h
      exact aw_iret hX hQ dX6_pairKind_29

def f_X6_signKind (v0 : Int32) (S : Mem) : Option (Int32 × Mem) :=
  if v0 = 40 then
  (some ((5 : Int32), S))
  else
  (if v0 = 41 then
  (some ((6 : Int32), S))
  else
  (if v0 = 42 then
  (some ((15 : Int32), S))
  else
  (if v0 = 43 then
  (some ((13 : Int32), S))
  else
  (if v0 = 44 then
  (some ((1 : Int32), S))
  else
  (if v0 = 45 then
  (some ((14 : Int32), S))
  else
  (if v0 = 46 then
  (some ((1 : Int32), S))
  else
  (if v0 = 47 then
  (some ((16 : Int32), S))
  else
  (if v0 = 48 then
  (some ((1 : Int32), S))
  else
  (if v0 = 49 then
  (some ((1 : Int32), S))
  else
  (if v0 = 50 then
  (some ((1 : Int32), S))
  else
  (if v0 = 51 then
  (some ((1 : Int32), S))
  else
  (if v0 = 52 then
  (some ((1 : Int32), S))
  else
  (if v0 = 53 then
  (some ((1 : Int32), S))
  else
  (if v0 = 54 then
  (some ((1 : Int32), S))
  else
  (if v0 = 55 then
  (some ((1 : Int32), S))
  else
  (if v0 = 56 then
  (some ((1 : Int32), S))
  else
  (if v0 = 57 then
  (some ((1 : Int32), S))
  else
  (if v0 = 58 then
  (some ((1 : Int32), S))
  else
  (if v0 = 59 then
  (some ((4 : Int32), S))
  else
  (if v0 = 60 then
  (some ((7 : Int32), S))
  else
  (if v0 = 61 then
  (some ((9 : Int32), S))
  else
  (if v0 = 62 then
  (some ((12 : Int32), S))
  else
  (some ((1 : Int32), S))))))))))))))))))))))))

set_option maxHeartbeats 4000000 in
set_option maxRecDepth 100000 in
theorem c_X6_signKind {sk : Skel} {v0 : Int32} {S : Mem} {r : Int32} {Sf : Mem} (h : f_X6_signKind v0 S = some (r, Sf)) : MetI yX6_signKind cX6_signKind 1 (some .int) 0 [.int v0] sk S r Sf := by
  refine MetI.intro (by decide +kernel) (Nat.le_of_ble_eq_true rfl) (fun X loc hX hQ => ?_)
  unfold f_X6_signKind at h
  show AW X sk loc 0 0 0 [(0, .int v0)] [] S
  refine aw_iload_n (pc := 0) hX dX6_signKind_0 rfl 0 rfl ?_
  by_cases c1_0 : v0 = 40
  · rw [if_pos c1_0] at h
    refine aw_tin (pc := 1) hX (v := 40) (off := 109) (tgt := 110) dX6_signKind_1 c1_0 (by decide) (by decide) (by decide) (by decide) ?_
    refine aw_iconst (v := (5 : Int32)) (pc := 110) hX dX6_signKind_110 (by decide) ?_
    cases h
    exact aw_iret hX hQ dX6_signKind_111
  · rw [if_neg c1_0] at h
    by_cases c1_1 : v0 = 41
    · rw [if_pos c1_1] at h
      refine aw_tin (pc := 1) hX (v := 41) (off := 111) (tgt := 112) dX6_signKind_1 c1_1 (by decide) (by decide) (by decide) (by decide) ?_
      refine aw_bipush (v := (6 : Int32)) (pc := 112) hX dX6_signKind_112 (by decide) ?_
      cases h
      exact aw_iret hX hQ dX6_signKind_114
    · rw [if_neg c1_1] at h
      by_cases c1_2 : v0 = 42
      · rw [if_pos c1_2] at h
        refine aw_tin (pc := 1) hX (v := 42) (off := 129) (tgt := 130) dX6_signKind_1 c1_2 (by decide) (by decide) (by decide) (by decide) ?_
        refine aw_bipush (v := (15 : Int32)) (pc := 130) hX dX6_signKind_130 (by decide) ?_
        cases h
        exact aw_iret hX hQ dX6_signKind_132
      · rw [if_neg c1_2] at h
        by_cases c1_3 : v0 = 43
        · rw [if_pos c1_3] at h
          refine aw_tin (pc := 1) hX (v := 43) (off := 123) (tgt := 124) dX6_signKind_1 c1_3 (by decide) (by decide) (by decide) (by decide) ?_
          refine aw_bipush (v := (13 : Int32)) (pc := 124) hX dX6_signKind_124 (by decide) ?_
          cases h
          exact aw_iret hX hQ dX6_signKind_126
        · rw [if_neg c1_3] at h
          by_cases c1_4 : v0 = 44
          · rw [if_pos c1_4] at h
            refine aw_tin (pc := 1) hX (v := 44) (off := 135) (tgt := 136) dX6_signKind_1 c1_4 (by decide) (by decide) (by decide) (by decide) ?_
            refine aw_iconst (v := (1 : Int32)) (pc := 136) hX dX6_signKind_136 (by decide) ?_
            cases h
            exact aw_iret hX hQ dX6_signKind_137
          · rw [if_neg c1_4] at h
            by_cases c1_5 : v0 = 45
            · rw [if_pos c1_5] at h
              refine aw_tin (pc := 1) hX (v := 45) (off := 126) (tgt := 127) dX6_signKind_1 c1_5 (by decide) (by decide) (by decide) (by decide) ?_
              refine aw_bipush (v := (14 : Int32)) (pc := 127) hX dX6_signKind_127 (by decide) ?_
              cases h
              exact aw_iret hX hQ dX6_signKind_129
            · rw [if_neg c1_5] at h
              by_cases c1_6 : v0 = 46
              · rw [if_pos c1_6] at h
                refine aw_tin (pc := 1) hX (v := 46) (off := 135) (tgt := 136) dX6_signKind_1 c1_6 (by decide) (by decide) (by decide) (by decide) ?_
                refine aw_iconst (v := (1 : Int32)) (pc := 136) hX dX6_signKind_136 (by decide) ?_
                cases h
                exact aw_iret hX hQ dX6_signKind_137
              · rw [if_neg c1_6] at h
                by_cases c1_7 : v0 = 47
                · rw [if_pos c1_7] at h
                  refine aw_tin (pc := 1) hX (v := 47) (off := 132) (tgt := 133) dX6_signKind_1 c1_7 (by decide) (by decide) (by decide) (by decide) ?_
                  refine aw_bipush (v := (16 : Int32)) (pc := 133) hX dX6_signKind_133 (by decide) ?_
                  cases h
                  exact aw_iret hX hQ dX6_signKind_135
                · rw [if_neg c1_7] at h
                  by_cases c1_8 : v0 = 48
                  · rw [if_pos c1_8] at h
                    refine aw_tin (pc := 1) hX (v := 48) (off := 135) (tgt := 136) dX6_signKind_1 c1_8 (by decide) (by decide) (by decide) (by decide) ?_
                    refine aw_iconst (v := (1 : Int32)) (pc := 136) hX dX6_signKind_136 (by decide) ?_
                    cases h
                    exact aw_iret hX hQ dX6_signKind_137
                  · rw [if_neg c1_8] at h
                    by_cases c1_9 : v0 = 49
                    · rw [if_pos c1_9] at h
                      refine aw_tin (pc := 1) hX (v := 49) (off := 135) (tgt := 136) dX6_signKind_1 c1_9 (by decide) (by decide) (by decide) (by decide) ?_
                      refine aw_iconst (v := (1 : Int32)) (pc := 136) hX dX6_signKind_136 (by decide) ?_
                      cases h
                      exact aw_iret hX hQ dX6_signKind_137
                    · rw [if_neg c1_9] at h
                      by_cases c1_10 : v0 = 50
                      · rw [if_pos c1_10] at h
                        refine aw_tin (pc := 1) hX (v := 50) (off := 135) (tgt := 136) dX6_signKind_1 c1_10 (by decide) (by decide) (by decide) (by decide) ?_
                        refine aw_iconst (v := (1 : Int32)) (pc := 136) hX dX6_signKind_136 (by decide) ?_
                        cases h
                        exact aw_iret hX hQ dX6_signKind_137
                      · rw [if_neg c1_10] at h
                        by_cases c1_11 : v0 = 51
                        · rw [if_pos c1_11] at h
                          refine aw_tin (pc := 1) hX (v := 51) (off := 135) (tgt := 136) dX6_signKind_1 c1_11 (by decide) (by decide) (by decide) (by decide) ?_
                          refine aw_iconst (v := (1 : Int32)) (pc := 136) hX dX6_signKind_136 (by decide) ?_
                          cases h
                          exact aw_iret hX hQ dX6_signKind_137
                        · rw [if_neg c1_11] at h
                          by_cases c1_12 : v0 = 52
                          · rw [if_pos c1_12] at h
                            refine aw_tin (pc := 1) hX (v := 52) (off := 135) (tgt := 136) dX6_signKind_1 c1_12 (by decide) (by decide) (by decide) (by decide) ?_
                            refine aw_iconst (v := (1 : Int32)) (pc := 136) hX dX6_signKind_136 (by decide) ?_
                            cases h
                            exact aw_iret hX hQ dX6_signKind_137
                          · rw [if_neg c1_12] at h
                            by_cases c1_13 : v0 = 53
                            · rw [if_pos c1_13] at h
                              refine aw_tin (pc := 1) hX (v := 53) (off := 135) (tgt := 136) dX6_signKind_1 c1_13 (by decide) (by decide) (by decide) (by decide) ?_
                              refine aw_iconst (v := (1 : Int32)) (pc := 136) hX dX6_signKind_136 (by decide) ?_
                              cases h
                              exact aw_iret hX hQ dX6_signKind_137
                            · rw [if_neg c1_13] at h
                              by_cases c1_14 : v0 = 54
                              · rw [if_pos c1_14] at h
                                refine aw_tin (pc := 1) hX (v := 54) (off := 135) (tgt := 136) dX6_signKind_1 c1_14 (by decide) (by decide) (by decide) (by decide) ?_
                                refine aw_iconst (v := (1 : Int32)) (pc := 136) hX dX6_signKind_136 (by decide) ?_
                                cases h
                                exact aw_iret hX hQ dX6_signKind_137
                              · rw [if_neg c1_14] at h
                                by_cases c1_15 : v0 = 55
                                · rw [if_pos c1_15] at h
                                  refine aw_tin (pc := 1) hX (v := 55) (off := 135) (tgt := 136) dX6_signKind_1 c1_15 (by decide) (by decide) (by decide) (by decide) ?_
                                  refine aw_iconst (v := (1 : Int32)) (pc := 136) hX dX6_signKind_136 (by decide) ?_
                                  cases h
                                  exact aw_iret hX hQ dX6_signKind_137
                                · rw [if_neg c1_15] at h
                                  by_cases c1_16 : v0 = 56
                                  · rw [if_pos c1_16] at h
                                    refine aw_tin (pc := 1) hX (v := 56) (off := 135) (tgt := 136) dX6_signKind_1 c1_16 (by decide) (by decide) (by decide) (by decide) ?_
                                    refine aw_iconst (v := (1 : Int32)) (pc := 136) hX dX6_signKind_136 (by decide) ?_
                                    cases h
                                    exact aw_iret hX hQ dX6_signKind_137
                                  · rw [if_neg c1_16] at h
                                    by_cases c1_17 : v0 = 57
                                    · rw [if_pos c1_17] at h
                                      refine aw_tin (pc := 1) hX (v := 57) (off := 135) (tgt := 136) dX6_signKind_1 c1_17 (by decide) (by decide) (by decide) (by decide) ?_
                                      refine aw_iconst (v := (1 : Int32)) (pc := 136) hX dX6_signKind_136 (by decide) ?_
                                      cases h
                                      exact aw_iret hX hQ dX6_signKind_137
                                    · rw [if_neg c1_17] at h
                                      by_cases c1_18 : v0 = 58
                                      · rw [if_pos c1_18] at h
                                        refine aw_tin (pc := 1) hX (v := 58) (off := 135) (tgt := 136) dX6_signKind_1 c1_18 (by decide) (by decide) (by decide) (by decide) ?_
                                        refine aw_iconst (v := (1 : Int32)) (pc := 136) hX dX6_signKind_136 (by decide) ?_
                                        cases h
                                        exact aw_iret hX hQ dX6_signKind_137
                                      · rw [if_neg c1_18] at h
                                        by_cases c1_19 : v0 = 59
                                        · rw [if_pos c1_19] at h
                                          refine aw_tin (pc := 1) hX (v := 59) (off := 107) (tgt := 108) dX6_signKind_1 c1_19 (by decide) (by decide) (by decide) (by decide) ?_
                                          refine aw_iconst (v := (4 : Int32)) (pc := 108) hX dX6_signKind_108 (by decide) ?_
                                          cases h
                                          exact aw_iret hX hQ dX6_signKind_109
                                        · rw [if_neg c1_19] at h
                                          by_cases c1_20 : v0 = 60
                                          · rw [if_pos c1_20] at h
                                            refine aw_tin (pc := 1) hX (v := 60) (off := 114) (tgt := 115) dX6_signKind_1 c1_20 (by decide) (by decide) (by decide) (by decide) ?_
                                            refine aw_bipush (v := (7 : Int32)) (pc := 115) hX dX6_signKind_115 (by decide) ?_
                                            cases h
                                            exact aw_iret hX hQ dX6_signKind_117
                                          · rw [if_neg c1_20] at h
                                            by_cases c1_21 : v0 = 61
                                            · rw [if_pos c1_21] at h
                                              refine aw_tin (pc := 1) hX (v := 61) (off := 117) (tgt := 118) dX6_signKind_1 c1_21 (by decide) (by decide) (by decide) (by decide) ?_
                                              refine aw_bipush (v := (9 : Int32)) (pc := 118) hX dX6_signKind_118 (by decide) ?_
                                              cases h
                                              exact aw_iret hX hQ dX6_signKind_120
                                            · rw [if_neg c1_21] at h
                                              by_cases c1_22 : v0 = 62
                                              · rw [if_pos c1_22] at h
                                                refine aw_tin (pc := 1) hX (v := 62) (off := 120) (tgt := 121) dX6_signKind_1 c1_22 (by decide) (by decide) (by decide) (by decide) ?_
                                                refine aw_bipush (v := (12 : Int32)) (pc := 121) hX dX6_signKind_121 (by decide) ?_
                                                cases h
                                                exact aw_iret hX hQ dX6_signKind_123
                                              · rw [if_neg c1_22] at h
                                                refine aw_tout (pc := 1) hX (tgt := 136) dX6_signKind_1 (by have e0 := ne_i c1_0 (by decide : (40 : Int32).toInt = 40); have e1 := ne_i c1_1 (by decide : (41 : Int32).toInt = 41); have e2 := ne_i c1_2 (by decide : (42 : Int32).toInt = 42); have e3 := ne_i c1_3 (by decide : (43 : Int32).toInt = 43); have e4 := ne_i c1_4 (by decide : (44 : Int32).toInt = 44); have e5 := ne_i c1_5 (by decide : (45 : Int32).toInt = 45); have e6 := ne_i c1_6 (by decide : (46 : Int32).toInt = 46); have e7 := ne_i c1_7 (by decide : (47 : Int32).toInt = 47); have e8 := ne_i c1_8 (by decide : (48 : Int32).toInt = 48); have e9 := ne_i c1_9 (by decide : (49 : Int32).toInt = 49); have e10 := ne_i c1_10 (by decide : (50 : Int32).toInt = 50); have e11 := ne_i c1_11 (by decide : (51 : Int32).toInt = 51); have e12 := ne_i c1_12 (by decide : (52 : Int32).toInt = 52); have e13 := ne_i c1_13 (by decide : (53 : Int32).toInt = 53); have e14 := ne_i c1_14 (by decide : (54 : Int32).toInt = 54); have e15 := ne_i c1_15 (by decide : (55 : Int32).toInt = 55); have e16 := ne_i c1_16 (by decide : (56 : Int32).toInt = 56); have e17 := ne_i c1_17 (by decide : (57 : Int32).toInt = 57); have e18 := ne_i c1_18 (by decide : (58 : Int32).toInt = 58); have e19 := ne_i c1_19 (by decide : (59 : Int32).toInt = 59); have e20 := ne_i c1_20 (by decide : (60 : Int32).toInt = 60); have e21 := ne_i c1_21 (by decide : (61 : Int32).toInt = 61); have e22 := ne_i c1_22 (by decide : (62 : Int32).toInt = 62); omega) (by decide) ?_
                                                refine aw_iconst (v := (1 : Int32)) (pc := 136) hX dX6_signKind_136 (by decide) ?_
                                                cases h
                                                exact aw_iret hX hQ dX6_signKind_137

def f_X6_cutSign_46 (a1 : Nat) (n1 : Nat) (v2 : Int32) (v5 : Int32) (t1 : Int32) (S : Mem) : Option (Int32 × Mem) :=
  (f_X6_add t1 v2 (0 : Int32) S).bind fun S48 =>
  if v5 = (1 : Int32) then
  (some ((v2 + (1 : Int32)), S48))
  else
  (some ((v2 + (2 : Int32)), S48))

def f_X6_cutSign_16 (a1 : Nat) (n1 : Nat) (v2 : Int32) (t0 : Int32) (S : Mem) : Option (Int32 × Mem) :=
  (rd S a1 n1 v2).bind fun x20 =>
  bnd (f_X6_pairKind x20 t0 S) fun r23 S23 =>
  if r23 = (1 : Int32) then
  ((rd S23 a1 n1 v2).bind fun x37 =>
  bnd (f_X6_signKind x37 S23) fun r38 S38 =>
  f_X6_cutSign_46 a1 n1 v2 r23 r38 S38)
  else
  (f_X6_cutSign_46 a1 n1 v2 r23 r23 S23)

def f_X6_cutSign (a1 : Nat) (n1 : Nat) (v2 : Int32) (v3 : Int32) (S : Mem) : Option (Int32 × Mem) :=
  if v3 ≤ (v2 + (1 : Int32)) then
  (f_X6_cutSign_16 a1 n1 v2 (0 : Int32) S)
  else
  ((rd S a1 n1 (v2 + (1 : Int32))).bind fun x11 =>
  f_X6_cutSign_16 a1 n1 v2 x11 S)

set_option maxHeartbeats 4000000 in
set_option maxRecDepth 100000 in
theorem c_X6_cutSign_46 {X : XT} {loc : Nat → Nat} {a1 : Nat} {n1 : Nat} {r : Int32} {Sf : Mem} (hX : AC X loc RX6 cX6_cutSign (some .int) 6 1 0 0) (hQ : RetI X SKC loc 0 0 r Sf) (ha1 : SKC[a1]? = some (0, n1, [])) (v2 : Int32) (v5 : Int32) (t1 : Int32) (S : Mem) (h : f_X6_cutSign_46 a1 n1 v2 v5 t1 S = some (r, Sf)) : AW X SKC loc 0 0 46 [(2, .int v2), (5, .int v5)] [.int t1, .ref 4] S := by
  unfold f_X6_cutSign_46 at h
  refine aw_iload_n (pc := 46) hX dX6_cutSign_46 rfl 0 rfl ?_
  refine aw_iconst (v := (0 : Int32)) (pc := 47) hX dX6_cutSign_47 (by decide) ?_
  obtain ⟨S48, hr48, h⟩ := ob h
  refine aw_cVV (pc := 48) (As := [.int t1, .int v2, .int (0 : Int32)]) (rest := []) hX (c_X6_add hr48) ok_X6_add kw_3_19 im_X6_add se_X6_add rfl kc4 rfl (by decide) (Nat.le_of_ble_eq_true rfl) rfl dX6_cutSign_48 (Nat.le_refl 0) (Nat.le_refl 0) ?_
  refine aw_iload (pc := 51) hX dX6_cutSign_51 1 rfl ?_
  refine aw_iconst (v := (1 : Int32)) (pc := 53) hX dX6_cutSign_53 (by decide) ?_
  refine aw_icmp_ne (pc := 54) hX (tgt := 63) dX6_cutSign_54 (by decide) (fun c54 => ?_) (fun c54 => ?_)
  · rw [if_neg c54] at h
    refine aw_iload_n (pc := 63) hX dX6_cutSign_63 rfl 0 rfl ?_
    refine aw_iconst (v := (2 : Int32)) (pc := 64) hX dX6_cutSign_64 (by decide) ?_
    refine aw_iadd (pc := 65) hX dX6_cutSign_65 ?_
    cases h
    exact aw_iret hX hQ dX6_cutSign_66
  · rw [if_pos c54] at h
    refine aw_iload_n (pc := 57) hX dX6_cutSign_57 rfl 0 rfl ?_
    refine aw_iconst (v := (1 : Int32)) (pc := 58) hX dX6_cutSign_58 (by decide) ?_
    refine aw_iadd (pc := 59) hX dX6_cutSign_59 ?_
    refine aw_goto (tgt := 66) (pc := 60) hX dX6_cutSign_60 (by decide) ?_
    cases h
    exact aw_iret hX hQ dX6_cutSign_66

set_option maxHeartbeats 4000000 in
set_option maxRecDepth 100000 in
theorem c_X6_cutSign_16 {X : XT} {loc : Nat → Nat} {a1 : Nat} {n1 : Nat} {r : Int32} {Sf : Mem} (hX : AC X loc RX6 cX6_cutSign (some .int) 6 1 0 0) (hQ : RetI X SKC loc 0 0 r Sf) (ha1 : SKC[a1]? = some (0, n1, [])) (v2 : Int32) (t0 : Int32) (S : Mem) (h : f_X6_cutSign_16 a1 n1 v2 t0 S = some (r, Sf)) : AW X SKC loc 0 0 16 [(0, .ref 4), (1, .ref a1), (2, .int v2)] [.int t0] S := by
  unfold f_X6_cutSign_16 at h
  refine aw_istore (ls' := [(4, .int t0), (0, .ref 4), (1, .ref a1), (2, .int v2)]) (pc := 16) hX dX6_cutSign_16 (by decide) rfl ?_
  refine aw_aload_n (pc := 18) hX dX6_cutSign_18 rfl 2 rfl ?_
  refine aw_iload_n (pc := 19) hX dX6_cutSign_19 rfl 3 rfl ?_
  obtain ⟨x20, hx20, h⟩ := ob h
  refine aw_iald (pc := 20) hX ha1 hx20 dX6_cutSign_20 ?_
  refine aw_iload (pc := 21) hX dX6_cutSign_21 0 rfl ?_
  obtain ⟨r23, S23, hr23, h⟩ := ob2 h
  refine aw_cSI (pc := 23) (As := [.int x20, .int t0]) (rest := []) hX (c_X6_pairKind (sk := SKC) hr23) ok_X6_pairKind kw_3_35 st_X6_pairKind rfl (by decide) (Nat.le_of_ble_eq_true rfl) rfl dX6_cutSign_23 (Nat.le_refl 0) (Nat.le_refl 0) ?_
  refine aw_istore (ls' := [(5, .int r23), (4, .int t0), (0, .ref 4), (1, .ref a1), (2, .int v2)]) (pc := 26) hX dX6_cutSign_26 (by decide) rfl ?_
  refine aw_aload_n (pc := 28) hX dX6_cutSign_28 rfl 2 rfl ?_
  refine aw_iload (pc := 29) hX dX6_cutSign_29 0 rfl ?_
  refine aw_iconst (v := (1 : Int32)) (pc := 31) hX dX6_cutSign_31 (by decide) ?_
  refine aw_icmp_ne (pc := 32) hX (tgt := 44) dX6_cutSign_32 (by decide) (fun c32 => ?_) (fun c32 => ?_)
  · rw [if_neg c32] at h
    refine aw_iload (pc := 44) hX dX6_cutSign_44 0 rfl ?_
    refine aw_sub (ls' := [(2, .int v2), (5, .int r23)]) [4, 0] rfl ?_
    exact c_X6_cutSign_46 hX hQ ha1 v2 r23 r23 S23 h
  · rw [if_pos c32] at h
    refine aw_aload_n (pc := 35) hX dX6_cutSign_35 rfl 3 rfl ?_
    refine aw_iload_n (pc := 36) hX dX6_cutSign_36 rfl 4 rfl ?_
    obtain ⟨x37, hx37, h⟩ := ob h
    refine aw_iald (pc := 37) hX ha1 hx37 dX6_cutSign_37 ?_
    obtain ⟨r38, S38, hr38, h⟩ := ob2 h
    refine aw_cSI (pc := 38) (As := [.int x37]) (rest := [.ref 4]) hX (c_X6_signKind (sk := SKC) hr38) ok_X6_signKind kw_3_38 st_X6_signKind rfl (by decide) (Nat.le_of_ble_eq_true rfl) rfl dX6_cutSign_38 (Nat.le_refl 0) (Nat.le_refl 0) ?_
    refine aw_goto (tgt := 46) (pc := 41) hX dX6_cutSign_41 (by decide) ?_
    refine aw_sub (ls' := [(2, .int v2), (5, .int r23)]) [4, 0] rfl ?_
    exact c_X6_cutSign_46 hX hQ ha1 v2 r23 r38 S38 h

set_option maxHeartbeats 4000000 in
set_option maxRecDepth 100000 in
theorem c_X6_cutSign {a1 : Nat} {n1 : Nat} {v2 : Int32} {v3 : Int32} {S : Mem} {r : Int32} {Sf : Mem} (ha1 : SKC[a1]? = some (0, n1, [])) (h : f_X6_cutSign a1 n1 v2 v3 S = some (r, Sf)) : MetI yX6_cutSign cX6_cutSign 6 (some .int) 1 [.ref 4, .ref a1, .int v2, .int v3] SKC S r Sf := by
  refine MetI.intro (by decide +kernel) (Nat.le_of_ble_eq_true rfl) (fun X loc hX hQ => ?_)
  unfold f_X6_cutSign at h
  show AW X SKC loc 0 0 0 [(0, .ref 4), (1, .ref a1), (2, .int v2), (3, .int v3)] [] S
  refine aw_iload_n (pc := 0) hX dX6_cutSign_0 rfl 2 rfl ?_
  refine aw_iconst (v := (1 : Int32)) (pc := 1) hX dX6_cutSign_1 (by decide) ?_
  refine aw_iadd (pc := 2) hX dX6_cutSign_2 ?_
  refine aw_iload_n (pc := 3) hX dX6_cutSign_3 rfl 3 rfl ?_
  refine aw_icmp_ge (pc := 4) hX (tgt := 15) dX6_cutSign_4 (by decide) (fun c4 => ?_) (fun c4 => ?_)
  · rw [if_pos c4] at h
    refine aw_iconst (v := (0 : Int32)) (pc := 15) hX dX6_cutSign_15 (by decide) ?_
    refine aw_sub (ls' := [(0, .ref 4), (1, .ref a1), (2, .int v2)]) [0, 1, 2] rfl ?_
    exact c_X6_cutSign_16 hX hQ ha1 v2 (0 : Int32) S h
  · rw [if_neg c4] at h
    refine aw_aload_n (pc := 7) hX dX6_cutSign_7 rfl 1 rfl ?_
    refine aw_iload_n (pc := 8) hX dX6_cutSign_8 rfl 2 rfl ?_
    refine aw_iconst (v := (1 : Int32)) (pc := 9) hX dX6_cutSign_9 (by decide) ?_
    refine aw_iadd (pc := 10) hX dX6_cutSign_10 ?_
    obtain ⟨x11, hx11, h⟩ := ob h
    refine aw_iald (pc := 11) hX ha1 hx11 dX6_cutSign_11 ?_
    refine aw_goto (tgt := 16) (pc := 12) hX dX6_cutSign_12 (by decide) ?_
    refine aw_sub (ls' := [(0, .ref 4), (1, .ref a1), (2, .int v2)]) [0, 1, 2] rfl ?_
    exact c_X6_cutSign_16 hX hQ ha1 v2 x11 S h

def f_X6_isLetter (v0 : Int32) (S : Mem) : Option (Int32 × Mem) :=
  if v0 < (97 : Int32) then
  (some ((0 : Int32), S))
  else
  (if (122 : Int32) < v0 then
  (some ((0 : Int32), S))
  else
  (some ((1 : Int32), S)))

set_option maxHeartbeats 4000000 in
set_option maxRecDepth 100000 in
theorem c_X6_isLetter {sk : Skel} {v0 : Int32} {S : Mem} {r : Int32} {Sf : Mem} (h : f_X6_isLetter v0 S = some (r, Sf)) : MetI yX6_isLetter cX6_isLetter 1 (some .boolean) 0 [.int v0] sk S r Sf := by
  refine MetI.intro (by decide +kernel) (Nat.le_of_ble_eq_true rfl) (fun X loc hX hQ => ?_)
  unfold f_X6_isLetter at h
  show AW X sk loc 0 0 0 [(0, .int v0)] [] S
  refine aw_iload_n (pc := 0) hX dX6_isLetter_0 rfl 0 rfl ?_
  refine aw_bipush (v := (97 : Int32)) (pc := 1) hX dX6_isLetter_1 (by decide) ?_
  refine aw_icmp_lt (pc := 3) hX (tgt := 16) dX6_isLetter_3 (by decide) (fun c3 => ?_) (fun c3 => ?_)
  · rw [if_pos c3] at h
    refine aw_iconst (v := (0 : Int32)) (pc := 16) hX dX6_isLetter_16 (by decide) ?_
    cases h
    exact aw_zret hX hQ (by decide) dX6_isLetter_17
  · rw [if_neg c3] at h
    refine aw_iload_n (pc := 6) hX dX6_isLetter_6 rfl 0 rfl ?_
    refine aw_bipush (v := (122 : Int32)) (pc := 7) hX dX6_isLetter_7 (by decide) ?_
    refine aw_icmp_gt (pc := 9) hX (tgt := 16) dX6_isLetter_9 (by decide) (fun c9 => ?_) (fun c9 => ?_)
    · rw [if_pos c9] at h
      refine aw_iconst (v := (0 : Int32)) (pc := 16) hX dX6_isLetter_16 (by decide) ?_
      cases h
      exact aw_zret hX hQ (by decide) dX6_isLetter_17
    · rw [if_neg c9] at h
      refine aw_iconst (v := (1 : Int32)) (pc := 12) hX dX6_isLetter_12 (by decide) ?_
      refine aw_goto (tgt := 17) (pc := 13) hX dX6_isLetter_13 (by decide) ?_
      cases h
      exact aw_zret hX hQ (by decide) dX6_isLetter_17

def f_X6_lettersOf_4 : Nat → Int32 → Int32 → Int32 → Mem → Option (Int32 × Mem)
  | 0, _, _, _, _ => none
  | n + 1, v0, v1, v2, S =>
  if (v0 + (6 : Int32)) ≤ v2 then
  (some (v1, S))
  else
  (if (132 : Int32) ≤ v2 then
  (some (v1, S))
  else
  ((chr0 v2).bind fun x24 =>
  if x24 = (32 : Int32) then
  (f_X6_lettersOf_4 n v0 ((v1 <<< ((5 : Int32) &&& 31)) ||| (0 : Int32)) (v2 + 1) S)
  else
  (f_X6_lettersOf_4 n v0 ((v1 <<< ((5 : Int32) &&& 31)) ||| ((x24 - (97 : Int32)) + (1 : Int32))) (v2 + 1) S)))

def f_X6_lettersOf (v0 : Int32) (S : Mem) : Option (Int32 × Mem) :=
  f_X6_lettersOf_4 FU v0 (0 : Int32) v0 S

set_option maxHeartbeats 4000000 in
set_option maxRecDepth 100000 in
theorem c_X6_lettersOf_4 {X : XT} {loc : Nat → Nat} {sk : Skel} {r : Int32} {Sf : Mem} (hX : AC X loc RX6 cX6_lettersOf (some .int) 4 4 0 0) (hQ : RetI X sk loc 0 0 r Sf) : ∀ (n : Nat) (v0 : Int32) (v1 : Int32) (v2 : Int32) (S : Mem), f_X6_lettersOf_4 n v0 v1 v2 S = some (r, Sf) → AW X sk loc 0 0 4 [(0, .int v0), (1, .int v1), (2, .int v2)] [] S := by
  intro n
  induction n with
  | zero => intro v0 v1 v2 S h; cases h
  | succ n ih =>
    intro v0 v1 v2 S h
    unfold f_X6_lettersOf_4 at h
    refine aw_iload_n (pc := 4) hX dX6_lettersOf_4 rfl 2 rfl ?_
    refine aw_iload_n (pc := 5) hX dX6_lettersOf_5 rfl 0 rfl ?_
    refine aw_bipush (v := (6 : Int32)) (pc := 6) hX dX6_lettersOf_6 (by decide) ?_
    refine aw_iadd (pc := 8) hX dX6_lettersOf_8 ?_
    refine aw_icmp_ge (pc := 9) hX (tgt := 55) dX6_lettersOf_9 (by decide) (fun c9 => ?_) (fun c9 => ?_)
    · rw [if_pos c9] at h
      refine aw_iload_n (pc := 55) hX dX6_lettersOf_55 rfl 1 rfl ?_
      cases h
      exact aw_iret hX hQ dX6_lettersOf_56
    · rw [if_neg c9] at h
      refine aw_iload_n (pc := 12) hX dX6_lettersOf_12 rfl 2 rfl ?_
      refine aw_str0 (pc := 13) hX dX6_lettersOf_13 ?_
      refine aw_slen0 (pc := 15) hX (by decide) (Nat.le_of_ble_eq_true rfl) dX6_lettersOf_15 (Nat.le_refl 0) (Nat.le_refl 0) ?_
      refine aw_icmp_ge (pc := 18) hX (tgt := 55) dX6_lettersOf_18 (by decide) (fun c18 => ?_) (fun c18 => ?_)
      · rw [if_pos c18] at h
        refine aw_iload_n (pc := 55) hX dX6_lettersOf_55 rfl 1 rfl ?_
        cases h
        exact aw_iret hX hQ dX6_lettersOf_56
      · rw [if_neg c18] at h
        refine aw_str0 (pc := 21) hX dX6_lettersOf_21 ?_
        refine aw_iload_n (pc := 23) hX dX6_lettersOf_23 rfl 2 rfl ?_
        obtain ⟨x24, hx24, h⟩ := ob h
        refine aw_chr0 (pc := 24) hX hx24 (by decide) (Nat.le_of_ble_eq_true rfl) dX6_lettersOf_24 (Nat.le_refl 0) (Nat.le_refl 0) ?_
        refine aw_istore_n (ls' := [(3, .int x24), (0, .int v0), (1, .int v1), (2, .int v2)]) (pc := 27) hX dX6_lettersOf_27 rfl (by decide) rfl ?_
        refine aw_iload_n (pc := 28) hX dX6_lettersOf_28 rfl 2 rfl ?_
        refine aw_iconst (v := (5 : Int32)) (pc := 29) hX dX6_lettersOf_29 (by decide) ?_
        refine aw_ishl (pc := 30) hX dX6_lettersOf_30 ?_
        refine aw_iload_n (pc := 31) hX dX6_lettersOf_31 rfl 0 rfl ?_
        refine aw_bipush (v := (32 : Int32)) (pc := 32) hX dX6_lettersOf_32 (by decide) ?_
        refine aw_icmp_ne (pc := 34) hX (tgt := 41) dX6_lettersOf_34 (by decide) (fun c34 => ?_) (fun c34 => ?_)
        · rw [if_neg c34] at h
          refine aw_iload_n (pc := 41) hX dX6_lettersOf_41 rfl 0 rfl ?_
          refine aw_bipush (v := (97 : Int32)) (pc := 42) hX dX6_lettersOf_42 (by decide) ?_
          refine aw_isub (pc := 44) hX dX6_lettersOf_44 ?_
          refine aw_iconst (v := (1 : Int32)) (pc := 45) hX dX6_lettersOf_45 (by decide) ?_
          refine aw_iadd (pc := 46) hX dX6_lettersOf_46 ?_
          refine aw_ior (pc := 47) hX dX6_lettersOf_47 ?_
          refine aw_istore_n (ls' := [(1, .int ((v1 <<< ((5 : Int32) &&& 31)) ||| ((x24 - (97 : Int32)) + (1 : Int32)))), (3, .int x24), (0, .int v0), (2, .int v2)]) (pc := 48) hX dX6_lettersOf_48 rfl (by decide) rfl ?_
          refine aw_iinc (v := (v2 + 1)) (ls' := [(2, .int (v2 + 1)), (1, .int ((v1 <<< ((5 : Int32) &&& 31)) ||| ((x24 - (97 : Int32)) + (1 : Int32)))), (3, .int x24), (0, .int v0)]) (pc := 49) hX dX6_lettersOf_49 (pos := 3) rfl (by first | rfl | decide) (by decide) rfl ?_
          refine aw_goto (tgt := 4) (pc := 52) hX dX6_lettersOf_52 (by decide) ?_
          refine aw_sub (ls' := [(0, .int v0), (1, .int ((v1 <<< ((5 : Int32) &&& 31)) ||| ((x24 - (97 : Int32)) + (1 : Int32)))), (2, .int (v2 + 1))]) [3, 1, 0] rfl ?_
          exact ih v0 ((v1 <<< ((5 : Int32) &&& 31)) ||| ((x24 - (97 : Int32)) + (1 : Int32))) (v2 + 1) S h
        · rw [if_pos c34] at h
          refine aw_iconst (v := (0 : Int32)) (pc := 37) hX dX6_lettersOf_37 (by decide) ?_
          refine aw_goto (tgt := 47) (pc := 38) hX dX6_lettersOf_38 (by decide) ?_
          refine aw_ior (pc := 47) hX dX6_lettersOf_47 ?_
          refine aw_istore_n (ls' := [(1, .int ((v1 <<< ((5 : Int32) &&& 31)) ||| (0 : Int32))), (3, .int x24), (0, .int v0), (2, .int v2)]) (pc := 48) hX dX6_lettersOf_48 rfl (by decide) rfl ?_
          refine aw_iinc (v := (v2 + 1)) (ls' := [(2, .int (v2 + 1)), (1, .int ((v1 <<< ((5 : Int32) &&& 31)) ||| (0 : Int32))), (3, .int x24), (0, .int v0)]) (pc := 49) hX dX6_lettersOf_49 (pos := 3) rfl (by first | rfl | decide) (by decide) rfl ?_
          refine aw_goto (tgt := 4) (pc := 52) hX dX6_lettersOf_52 (by decide) ?_
          refine aw_sub (ls' := [(0, .int v0), (1, .int ((v1 <<< ((5 : Int32) &&& 31)) ||| (0 : Int32))), (2, .int (v2 + 1))]) [3, 1, 0] rfl ?_
          exact ih v0 ((v1 <<< ((5 : Int32) &&& 31)) ||| (0 : Int32)) (v2 + 1) S h

set_option maxHeartbeats 4000000 in
set_option maxRecDepth 100000 in
theorem c_X6_lettersOf {sk : Skel} {v0 : Int32} {S : Mem} {r : Int32} {Sf : Mem} (h : f_X6_lettersOf v0 S = some (r, Sf)) : MetI yX6_lettersOf cX6_lettersOf 4 (some .int) 4 [.int v0] sk S r Sf := by
  refine MetI.intro (by decide +kernel) (Nat.le_of_ble_eq_true rfl) (fun X loc hX hQ => ?_)
  unfold f_X6_lettersOf at h
  show AW X sk loc 0 0 0 [(0, .int v0)] [] S
  refine aw_iconst (v := (0 : Int32)) (pc := 0) hX dX6_lettersOf_0 (by decide) ?_
  refine aw_istore_n (ls' := [(1, .int (0 : Int32)), (0, .int v0)]) (pc := 1) hX dX6_lettersOf_1 rfl (by decide) rfl ?_
  refine aw_iload_n (pc := 2) hX dX6_lettersOf_2 rfl 1 rfl ?_
  refine aw_istore_n (ls' := [(2, .int v0), (1, .int (0 : Int32)), (0, .int v0)]) (pc := 3) hX dX6_lettersOf_3 rfl (by decide) rfl ?_
  refine aw_sub (ls' := [(0, .int v0), (1, .int (0 : Int32)), (2, .int v0)]) [2, 1, 0] rfl ?_
  exact c_X6_lettersOf_4 hX hQ FU v0 (0 : Int32) v0 S h

def f_X6_wordKind_2 : Nat → Int32 → Int32 → Mem → Option (Int32 × Mem)
  | 0, _, _, _ => none
  | n + 1, v0, v1, S =>
  if (21 : Int32) < v1 then
  (some ((3 : Int32), S))
  else
  (bnd (f_X6_lettersOf (v1 * (6 : Int32)) S) fun r12 S12 =>
  if r12 = v0 then
  (some (((17 : Int32) + v1), S12))
  else
  (f_X6_wordKind_2 n v0 (v1 + 1) S12))

def f_X6_wordKind (v0 : Int32) (S : Mem) : Option (Int32 × Mem) :=
  f_X6_wordKind_2 FU v0 (0 : Int32) S

set_option maxHeartbeats 4000000 in
set_option maxRecDepth 100000 in
theorem c_X6_wordKind_2 {X : XT} {loc : Nat → Nat} {sk : Skel} {r : Int32} {Sf : Mem} (hX : AC X loc RX6 cX6_wordKind (some .int) 2 5 0 0) (hQ : RetI X sk loc 0 0 r Sf) : ∀ (n : Nat) (v0 : Int32) (v1 : Int32) (S : Mem), f_X6_wordKind_2 n v0 v1 S = some (r, Sf) → AW X sk loc 0 0 2 [(0, .int v0), (1, .int v1)] [] S := by
  intro n
  induction n with
  | zero => intro v0 v1 S h; cases h
  | succ n ih =>
    intro v0 v1 S h
    unfold f_X6_wordKind_2 at h
    refine aw_iload_n (pc := 2) hX dX6_wordKind_2 rfl 1 rfl ?_
    refine aw_bipush (v := (21 : Int32)) (pc := 3) hX dX6_wordKind_3 (by decide) ?_
    refine aw_icmp_gt (pc := 5) hX (tgt := 30) dX6_wordKind_5 (by decide) (fun c5 => ?_) (fun c5 => ?_)
    · rw [if_pos c5] at h
      refine aw_iconst (v := (3 : Int32)) (pc := 30) hX dX6_wordKind_30 (by decide) ?_
      cases h
      exact aw_iret hX hQ dX6_wordKind_31
    · rw [if_neg c5] at h
      refine aw_iload_n (pc := 8) hX dX6_wordKind_8 rfl 1 rfl ?_
      refine aw_bipush (v := (6 : Int32)) (pc := 9) hX dX6_wordKind_9 (by decide) ?_
      refine aw_imul (pc := 11) hX dX6_wordKind_11 ?_
      obtain ⟨r12, S12, hr12, h⟩ := ob2 h
      refine aw_cSI (pc := 12) (As := [.int (v1 * (6 : Int32))]) (rest := []) hX (c_X6_lettersOf (sk := sk) hr12) ok_X6_lettersOf kw_2_207 st_X6_lettersOf rfl (by decide) (Nat.le_of_ble_eq_true rfl) rfl dX6_wordKind_12 (Nat.le_refl 0) (Nat.le_refl 0) ?_
      refine aw_iload_n (pc := 15) hX dX6_wordKind_15 rfl 0 rfl ?_
      refine aw_icmp_ne (pc := 16) hX (tgt := 24) dX6_wordKind_16 (by decide) (fun c16 => ?_) (fun c16 => ?_)
      · rw [if_neg c16] at h
        refine aw_iinc (v := (v1 + 1)) (ls' := [(1, .int (v1 + 1)), (0, .int v0)]) (pc := 24) hX dX6_wordKind_24 (pos := 1) rfl (by first | rfl | decide) (by decide) rfl ?_
        refine aw_goto (tgt := 2) (pc := 27) hX dX6_wordKind_27 (by decide) ?_
        refine aw_sub (ls' := [(0, .int v0), (1, .int (v1 + 1))]) [1, 0] rfl ?_
        exact ih v0 (v1 + 1) S12 h
      · rw [if_pos c16] at h
        refine aw_bipush (v := (17 : Int32)) (pc := 19) hX dX6_wordKind_19 (by decide) ?_
        refine aw_iload_n (pc := 21) hX dX6_wordKind_21 rfl 1 rfl ?_
        refine aw_iadd (pc := 22) hX dX6_wordKind_22 ?_
        cases h
        exact aw_iret hX hQ dX6_wordKind_23

set_option maxHeartbeats 4000000 in
set_option maxRecDepth 100000 in
theorem c_X6_wordKind {sk : Skel} {v0 : Int32} {S : Mem} {r : Int32} {Sf : Mem} (h : f_X6_wordKind v0 S = some (r, Sf)) : MetI yX6_wordKind cX6_wordKind 2 (some .int) 5 [.int v0] sk S r Sf := by
  refine MetI.intro (by decide +kernel) (Nat.le_of_ble_eq_true rfl) (fun X loc hX hQ => ?_)
  unfold f_X6_wordKind at h
  show AW X sk loc 0 0 0 [(0, .int v0)] [] S
  refine aw_iconst (v := (0 : Int32)) (pc := 0) hX dX6_wordKind_0 (by decide) ?_
  refine aw_istore_n (ls' := [(1, .int (0 : Int32)), (0, .int v0)]) (pc := 1) hX dX6_wordKind_1 rfl (by decide) rfl ?_
  refine aw_sub (ls' := [(0, .int v0), (1, .int (0 : Int32))]) [1, 0] rfl ?_
  exact c_X6_wordKind_2 hX hQ FU v0 (0 : Int32) S h

def f_X6_cutWord_79 (a1 : Nat) (n1 : Nat) (v2 : Int32) (v4 : Int32) (v5 : Int32) (t1 : Int32) (S : Mem) : Option (Int32 × Mem) :=
  (f_X6_add t1 v2 v5 S).bind fun S82 =>
  some (v4, S82)

def f_X6_cutWord_60 (a1 : Nat) (n1 : Nat) (v2 : Int32) (v4 : Int32) (v5 : Int32) (S : Mem) : Option (Int32 × Mem) :=
  if (v4 - v2) ≤ (6 : Int32) then
  (bnd (f_X6_wordKind v5 S) fun r76 S76 =>
  f_X6_cutWord_79 a1 n1 v2 v4 v5 r76 S76)
  else
  (f_X6_cutWord_79 a1 n1 v2 v4 v5 (1 : Int32) S)

def f_X6_cutWord_6 (a1 : Nat) (n1 : Nat) : Nat → Int32 → Int32 → Int32 → Int32 → Mem → Option (Int32 × Mem)
  | 0, _, _, _, _, _ => none
  | n + 1, v2, v3, v4, v5, S =>
  if v3 ≤ v4 then
  (f_X6_cutWord_60 a1 n1 v2 v4 v5 S)
  else
  ((rd S a1 n1 v4).bind fun x15 =>
  bnd (f_X6_isLetter x15 S) fun r16 S16 =>
  if r16 = 0 then
  (f_X6_cutWord_60 a1 n1 v2 v4 v5 S16)
  else
  (if (6 : Int32) ≤ (v4 - v2) then
  (f_X6_cutWord_6 a1 n1 n v2 v3 (v4 + 1) v5 S16)
  else
  ((rd S16 a1 n1 v4).bind fun x36 =>
  f_X6_cutWord_6 a1 n1 n v2 v3 (v4 + 1) (v5 ||| (((x36 - (97 : Int32)) + (1 : Int32)) <<< (((5 : Int32) * ((5 : Int32) - (v4 - v2))) &&& 31))) S16)))

def f_X6_cutWord (a1 : Nat) (n1 : Nat) (v2 : Int32) (v3 : Int32) (S : Mem) : Option (Int32 × Mem) :=
  f_X6_cutWord_6 a1 n1 FU v2 v3 v2 (0 : Int32) S

set_option maxHeartbeats 4000000 in
set_option maxRecDepth 100000 in
theorem c_X6_cutWord_79 {X : XT} {loc : Nat → Nat} {a1 : Nat} {n1 : Nat} {r : Int32} {Sf : Mem} (hX : AC X loc RX6 cX6_cutWord (some .int) 6 6 0 0) (hQ : RetI X SKC loc 0 0 r Sf) (ha1 : SKC[a1]? = some (0, n1, [])) (v2 : Int32) (v4 : Int32) (v5 : Int32) (t1 : Int32) (S : Mem) (h : f_X6_cutWord_79 a1 n1 v2 v4 v5 t1 S = some (r, Sf)) : AW X SKC loc 0 0 79 [(2, .int v2), (4, .int v4), (5, .int v5)] [.int t1, .ref 4] S := by
  unfold f_X6_cutWord_79 at h
  refine aw_iload_n (pc := 79) hX dX6_cutWord_79 rfl 0 rfl ?_
  refine aw_iload (pc := 80) hX dX6_cutWord_80 2 rfl ?_
  obtain ⟨S82, hr82, h⟩ := ob h
  refine aw_cVV (pc := 82) (As := [.int t1, .int v2, .int v5]) (rest := []) hX (c_X6_add hr82) ok_X6_add kw_3_19 im_X6_add se_X6_add rfl kc4 rfl (by decide) (Nat.le_of_ble_eq_true rfl) rfl dX6_cutWord_82 (Nat.le_refl 0) (Nat.le_refl 0) ?_
  refine aw_iload (pc := 85) hX dX6_cutWord_85 1 rfl ?_
  cases h
  exact aw_iret hX hQ dX6_cutWord_87

set_option maxHeartbeats 4000000 in
set_option maxRecDepth 100000 in
theorem c_X6_cutWord_60 {X : XT} {loc : Nat → Nat} {a1 : Nat} {n1 : Nat} {r : Int32} {Sf : Mem} (hX : AC X loc RX6 cX6_cutWord (some .int) 6 6 0 0) (hQ : RetI X SKC loc 0 0 r Sf) (ha1 : SKC[a1]? = some (0, n1, [])) (v2 : Int32) (v4 : Int32) (v5 : Int32) (S : Mem) (h : f_X6_cutWord_60 a1 n1 v2 v4 v5 S = some (r, Sf)) : AW X SKC loc 0 0 60 [(0, .ref 4), (2, .int v2), (4, .int v4), (5, .int v5)] [] S := by
  unfold f_X6_cutWord_60 at h
  refine aw_aload_n (pc := 60) hX dX6_cutWord_60 rfl 0 rfl ?_
  refine aw_iload (pc := 61) hX dX6_cutWord_61 2 rfl ?_
  refine aw_iload_n (pc := 63) hX dX6_cutWord_63 rfl 1 rfl ?_
  refine aw_isub (pc := 64) hX dX6_cutWord_64 ?_
  refine aw_bipush (v := (6 : Int32)) (pc := 65) hX dX6_cutWord_65 (by decide) ?_
  refine aw_icmp_le (pc := 67) hX (tgt := 74) dX6_cutWord_67 (by decide) (fun c67 => ?_) (fun c67 => ?_)
  · rw [if_pos c67] at h
    refine aw_iload (pc := 74) hX dX6_cutWord_74 3 rfl ?_
    obtain ⟨r76, S76, hr76, h⟩ := ob2 h
    refine aw_cSI (pc := 76) (As := [.int v5]) (rest := [.ref 4]) hX (c_X6_wordKind (sk := SKC) hr76) ok_X6_wordKind kw_2_204 st_X6_wordKind rfl (by decide) (Nat.le_of_ble_eq_true rfl) rfl dX6_cutWord_76 (Nat.le_refl 0) (Nat.le_refl 0) ?_
    refine aw_sub (ls' := [(2, .int v2), (4, .int v4), (5, .int v5)]) [1, 2, 3] rfl ?_
    exact c_X6_cutWord_79 hX hQ ha1 v2 v4 v5 r76 S76 h
  · rw [if_neg c67] at h
    refine aw_iconst (v := (1 : Int32)) (pc := 70) hX dX6_cutWord_70 (by decide) ?_
    refine aw_goto (tgt := 79) (pc := 71) hX dX6_cutWord_71 (by decide) ?_
    refine aw_sub (ls' := [(2, .int v2), (4, .int v4), (5, .int v5)]) [1, 2, 3] rfl ?_
    exact c_X6_cutWord_79 hX hQ ha1 v2 v4 v5 (1 : Int32) S h

set_option maxHeartbeats 4000000 in
set_option maxRecDepth 100000 in
theorem c_X6_cutWord_6 {X : XT} {loc : Nat → Nat} {a1 : Nat} {n1 : Nat} {r : Int32} {Sf : Mem} (hX : AC X loc RX6 cX6_cutWord (some .int) 6 6 0 0) (hQ : RetI X SKC loc 0 0 r Sf) (ha1 : SKC[a1]? = some (0, n1, [])) : ∀ (n : Nat) (v2 : Int32) (v3 : Int32) (v4 : Int32) (v5 : Int32) (S : Mem), f_X6_cutWord_6 a1 n1 n v2 v3 v4 v5 S = some (r, Sf) → AW X SKC loc 0 0 6 [(0, .ref 4), (1, .ref a1), (2, .int v2), (3, .int v3), (4, .int v4), (5, .int v5)] [] S := by
  intro n
  induction n with
  | zero => intro v2 v3 v4 v5 S h; cases h
  | succ n ih =>
    intro v2 v3 v4 v5 S h
    unfold f_X6_cutWord_6 at h
    refine aw_iload (pc := 6) hX dX6_cutWord_6 4 rfl ?_
    refine aw_iload_n (pc := 8) hX dX6_cutWord_8 rfl 3 rfl ?_
    refine aw_icmp_ge (pc := 9) hX (tgt := 60) dX6_cutWord_9 (by decide) (fun c9 => ?_) (fun c9 => ?_)
    · rw [if_pos c9] at h
      refine aw_sub (ls' := [(0, .ref 4), (2, .int v2), (4, .int v4), (5, .int v5)]) [0, 2, 4, 5] rfl ?_
      exact c_X6_cutWord_60 hX hQ ha1 v2 v4 v5 S h
    · rw [if_neg c9] at h
      refine aw_aload_n (pc := 12) hX dX6_cutWord_12 rfl 1 rfl ?_
      refine aw_iload (pc := 13) hX dX6_cutWord_13 4 rfl ?_
      obtain ⟨x15, hx15, h⟩ := ob h
      refine aw_iald (pc := 15) hX ha1 hx15 dX6_cutWord_15 ?_
      obtain ⟨r16, S16, hr16, h⟩ := ob2 h
      refine aw_cSI (pc := 16) (As := [.int x15]) (rest := []) hX (c_X6_isLetter (sk := SKC) hr16) ok_X6_isLetter kw_2_197 st_X6_isLetter rfl (by decide) (Nat.le_of_ble_eq_true rfl) rfl dX6_cutWord_16 (Nat.le_refl 0) (Nat.le_refl 0) ?_
      refine aw_if_eq (pc := 19) hX (tgt := 60) dX6_cutWord_19 (by decide) (fun c19 => ?_) (fun c19 => ?_)
      · rw [if_pos c19] at h
        refine aw_sub (ls' := [(0, .ref 4), (2, .int v2), (4, .int v4), (5, .int v5)]) [0, 2, 4, 5] rfl ?_
        exact c_X6_cutWord_60 hX hQ ha1 v2 v4 v5 S16 h
      · rw [if_neg c19] at h
        refine aw_iload (pc := 22) hX dX6_cutWord_22 4 rfl ?_
        refine aw_iload_n (pc := 24) hX dX6_cutWord_24 rfl 2 rfl ?_
        refine aw_isub (pc := 25) hX dX6_cutWord_25 ?_
        refine aw_bipush (v := (6 : Int32)) (pc := 26) hX dX6_cutWord_26 (by decide) ?_
        refine aw_icmp_ge (pc := 28) hX (tgt := 54) dX6_cutWord_28 (by decide) (fun c28 => ?_) (fun c28 => ?_)
        · rw [if_pos c28] at h
          refine aw_iinc (v := (v4 + 1)) (ls' := [(4, .int (v4 + 1)), (0, .ref 4), (1, .ref a1), (2, .int v2), (3, .int v3), (5, .int v5)]) (pc := 54) hX dX6_cutWord_54 (pos := 4) rfl (by first | rfl | decide) (by decide) rfl ?_
          refine aw_goto (tgt := 6) (pc := 57) hX dX6_cutWord_57 (by decide) ?_
          refine aw_sub (ls' := [(0, .ref 4), (1, .ref a1), (2, .int v2), (3, .int v3), (4, .int (v4 + 1)), (5, .int v5)]) [1, 2, 3, 4, 0, 5] rfl ?_
          exact ih v2 v3 (v4 + 1) v5 S16 h
        · rw [if_neg c28] at h
          refine aw_iload (pc := 31) hX dX6_cutWord_31 5 rfl ?_
          refine aw_aload_n (pc := 33) hX dX6_cutWord_33 rfl 1 rfl ?_
          refine aw_iload (pc := 34) hX dX6_cutWord_34 4 rfl ?_
          obtain ⟨x36, hx36, h⟩ := ob h
          refine aw_iald (pc := 36) hX ha1 hx36 dX6_cutWord_36 ?_
          refine aw_bipush (v := (97 : Int32)) (pc := 37) hX dX6_cutWord_37 (by decide) ?_
          refine aw_isub (pc := 39) hX dX6_cutWord_39 ?_
          refine aw_iconst (v := (1 : Int32)) (pc := 40) hX dX6_cutWord_40 (by decide) ?_
          refine aw_iadd (pc := 41) hX dX6_cutWord_41 ?_
          refine aw_iconst (v := (5 : Int32)) (pc := 42) hX dX6_cutWord_42 (by decide) ?_
          refine aw_iconst (v := (5 : Int32)) (pc := 43) hX dX6_cutWord_43 (by decide) ?_
          refine aw_iload (pc := 44) hX dX6_cutWord_44 4 rfl ?_
          refine aw_iload_n (pc := 46) hX dX6_cutWord_46 rfl 2 rfl ?_
          refine aw_isub (pc := 47) hX dX6_cutWord_47 ?_
          refine aw_isub (pc := 48) hX dX6_cutWord_48 ?_
          refine aw_imul (pc := 49) hX dX6_cutWord_49 ?_
          refine aw_ishl (pc := 50) hX dX6_cutWord_50 ?_
          refine aw_ior (pc := 51) hX dX6_cutWord_51 ?_
          refine aw_istore (ls' := [(5, .int (v5 ||| (((x36 - (97 : Int32)) + (1 : Int32)) <<< (((5 : Int32) * ((5 : Int32) - (v4 - v2))) &&& 31)))), (0, .ref 4), (1, .ref a1), (2, .int v2), (3, .int v3), (4, .int v4)]) (pc := 52) hX dX6_cutWord_52 (by decide) rfl ?_
          refine aw_iinc (v := (v4 + 1)) (ls' := [(4, .int (v4 + 1)), (5, .int (v5 ||| (((x36 - (97 : Int32)) + (1 : Int32)) <<< (((5 : Int32) * ((5 : Int32) - (v4 - v2))) &&& 31)))), (0, .ref 4), (1, .ref a1), (2, .int v2), (3, .int v3)]) (pc := 54) hX dX6_cutWord_54 (pos := 5) rfl (by first | rfl | decide) (by decide) rfl ?_
          refine aw_goto (tgt := 6) (pc := 57) hX dX6_cutWord_57 (by decide) ?_
          refine aw_sub (ls' := [(0, .ref 4), (1, .ref a1), (2, .int v2), (3, .int v3), (4, .int (v4 + 1)), (5, .int (v5 ||| (((x36 - (97 : Int32)) + (1 : Int32)) <<< (((5 : Int32) * ((5 : Int32) - (v4 - v2))) &&& 31))))]) [2, 3, 4, 5, 0, 1] rfl ?_
          exact ih v2 v3 (v4 + 1) (v5 ||| (((x36 - (97 : Int32)) + (1 : Int32)) <<< (((5 : Int32) * ((5 : Int32) - (v4 - v2))) &&& 31))) S16 h

set_option maxHeartbeats 4000000 in
set_option maxRecDepth 100000 in
theorem c_X6_cutWord {a1 : Nat} {n1 : Nat} {v2 : Int32} {v3 : Int32} {S : Mem} {r : Int32} {Sf : Mem} (ha1 : SKC[a1]? = some (0, n1, [])) (h : f_X6_cutWord a1 n1 v2 v3 S = some (r, Sf)) : MetI yX6_cutWord cX6_cutWord 6 (some .int) 6 [.ref 4, .ref a1, .int v2, .int v3] SKC S r Sf := by
  refine MetI.intro (by decide +kernel) (Nat.le_of_ble_eq_true rfl) (fun X loc hX hQ => ?_)
  unfold f_X6_cutWord at h
  show AW X SKC loc 0 0 0 [(0, .ref 4), (1, .ref a1), (2, .int v2), (3, .int v3)] [] S
  refine aw_iload_n (pc := 0) hX dX6_cutWord_0 rfl 2 rfl ?_
  refine aw_istore (ls' := [(4, .int v2), (0, .ref 4), (1, .ref a1), (2, .int v2), (3, .int v3)]) (pc := 1) hX dX6_cutWord_1 (by decide) rfl ?_
  refine aw_iconst (v := (0 : Int32)) (pc := 3) hX dX6_cutWord_3 (by decide) ?_
  refine aw_istore (ls' := [(5, .int (0 : Int32)), (4, .int v2), (0, .ref 4), (1, .ref a1), (2, .int v2), (3, .int v3)]) (pc := 4) hX dX6_cutWord_4 (by decide) rfl ?_
  refine aw_sub (ls' := [(0, .ref 4), (1, .ref a1), (2, .int v2), (3, .int v3), (4, .int v2), (5, .int (0 : Int32))]) [2, 3, 4, 5, 1, 0] rfl ?_
  exact c_X6_cutWord_6 hX hQ ha1 FU v2 v3 v2 (0 : Int32) S h

def f_X6_cut_116 (a1 : Nat) (n1 : Nat) (v3 : Int32) (S : Mem) : Option Mem :=
  (f_X6_add (0 : Int32) v3 (0 : Int32) S).bind fun S120 =>
  some S120

def f_X6_cut_18 (a1 : Nat) (n1 : Nat) : Nat → Int32 → Int32 → Int32 → Mem → Option Mem
  | 0, _, _, _, _ => none
  | n + 1, v3, v4, v5, S =>
  if (700 : Int32) ≤ v5 then
  (f_X6_cut_116 a1 n1 v3 S)
  else
  (if v3 ≤ v4 then
  (f_X6_cut_116 a1 n1 v3 S)
  else
  ((rd S a1 n1 v4).bind fun x35 =>
  if x35 = (10 : Int32) then
  (f_X6_cut_18 a1 n1 n v3 (v4 + 1) (v5 + 1) S)
  else
  (if x35 = (32 : Int32) then
  (f_X6_cut_18 a1 n1 n v3 (v4 + 1) (v5 + 1) S)
  else
  (bnd (f_X6_isLetter x35 S) fun r60 S60 =>
  if r60 = 0 then
  (bnd (f_X6_isDigit x35 S60) fun r81 S81 =>
  if r81 = 0 then
  (bnd (f_X6_cutSign a1 n1 v4 v3 S81) fun r105 S105 =>
  f_X6_cut_18 a1 n1 n v3 r105 (v5 + 1) S105)
  else
  (bnd (f_X6_cutNumber a1 n1 v4 v3 S81) fun r92 S92 =>
  f_X6_cut_18 a1 n1 n v3 r92 (v5 + 1) S92))
  else
  (bnd (f_X6_cutWord a1 n1 v4 v3 S60) fun r71 S71 =>
  f_X6_cut_18 a1 n1 n v3 r71 (v5 + 1) S71)))))

def f_X6_cut (a1 : Nat) (n1 : Nat) (v2 : Int32) (S : Mem) : Option Mem :=
  bnd (f_J9_min_7cf53 v2 (nI n1) S) fun r3 S3 =>
  nxt (sI S3 4 3 (0 : Int32)) fun S12 =>
  f_X6_cut_18 a1 n1 FU r3 (0 : Int32) (0 : Int32) S12

set_option maxHeartbeats 4000000 in
set_option maxRecDepth 100000 in
theorem c_X6_cut_116 {X : XT} {loc : Nat → Nat} {a1 : Nat} {n1 : Nat} {Sf : Mem} (hX : AC X loc RX6 cX6_cut none 7 7 0 0) (hQ : RetV X SKC loc 0 0 Sf) (ha1 : SKC[a1]? = some (0, n1, [])) (v3 : Int32) (S : Mem) (h : f_X6_cut_116 a1 n1 v3 S = some Sf) : AW X SKC loc 0 0 116 [(0, .ref 4), (3, .int v3)] [] S := by
  unfold f_X6_cut_116 at h
  refine aw_aload_n (pc := 116) hX dX6_cut_116 rfl 0 rfl ?_
  refine aw_iconst (v := (0 : Int32)) (pc := 117) hX dX6_cut_117 (by decide) ?_
  refine aw_iload_n (pc := 118) hX dX6_cut_118 rfl 1 rfl ?_
  refine aw_iconst (v := (0 : Int32)) (pc := 119) hX dX6_cut_119 (by decide) ?_
  obtain ⟨S120, hr120, h⟩ := ob h
  refine aw_cVV (pc := 120) (As := [.int (0 : Int32), .int v3, .int (0 : Int32)]) (rest := []) hX (c_X6_add hr120) ok_X6_add kw_3_19 im_X6_add se_X6_add rfl kc4 rfl (by decide) (Nat.le_of_ble_eq_true rfl) rfl dX6_cut_120 (Nat.le_refl 0) (Nat.le_refl 0) ?_
  cases h
  exact aw_vret hX hQ dX6_cut_123

set_option maxHeartbeats 4000000 in
set_option maxRecDepth 100000 in
theorem c_X6_cut_18 {X : XT} {loc : Nat → Nat} {a1 : Nat} {n1 : Nat} {Sf : Mem} (hX : AC X loc RX6 cX6_cut none 7 7 0 0) (hQ : RetV X SKC loc 0 0 Sf) (ha1 : SKC[a1]? = some (0, n1, [])) : ∀ (n : Nat) (v3 : Int32) (v4 : Int32) (v5 : Int32) (S : Mem), f_X6_cut_18 a1 n1 n v3 v4 v5 S = some Sf → AW X SKC loc 0 0 18 [(0, .ref 4), (1, .ref a1), (3, .int v3), (4, .int v4), (5, .int v5)] [] S := by
  intro n
  induction n with
  | zero => intro v3 v4 v5 S h; cases h
  | succ n ih =>
    intro v3 v4 v5 S h
    unfold f_X6_cut_18 at h
    refine aw_iload (pc := 18) hX dX6_cut_18 4 rfl ?_
    refine aw_sipush (v := (700 : Int32)) (pc := 20) hX dX6_cut_20 (by decide) ?_
    refine aw_icmp_ge (pc := 23) hX (tgt := 116) dX6_cut_23 (by decide) (fun c23 => ?_) (fun c23 => ?_)
    · rw [if_pos c23] at h
      refine aw_sub (ls' := [(0, .ref 4), (3, .int v3)]) [0, 2] rfl ?_
      exact c_X6_cut_116 hX hQ ha1 v3 S h
    · rw [if_neg c23] at h
      refine aw_iload (pc := 26) hX dX6_cut_26 3 rfl ?_
      refine aw_iload_n (pc := 28) hX dX6_cut_28 rfl 2 rfl ?_
      refine aw_icmp_ge (pc := 29) hX (tgt := 116) dX6_cut_29 (by decide) (fun c29 => ?_) (fun c29 => ?_)
      · rw [if_pos c29] at h
        refine aw_sub (ls' := [(0, .ref 4), (3, .int v3)]) [0, 2] rfl ?_
        exact c_X6_cut_116 hX hQ ha1 v3 S h
      · rw [if_neg c29] at h
        refine aw_aload_n (pc := 32) hX dX6_cut_32 rfl 1 rfl ?_
        refine aw_iload (pc := 33) hX dX6_cut_33 3 rfl ?_
        obtain ⟨x35, hx35, h⟩ := ob h
        refine aw_iald (pc := 35) hX ha1 hx35 dX6_cut_35 ?_
        refine aw_istore (ls' := [(6, .int x35), (0, .ref 4), (1, .ref a1), (3, .int v3), (4, .int v4), (5, .int v5)]) (pc := 36) hX dX6_cut_36 (by decide) rfl ?_
        refine aw_iload (pc := 38) hX dX6_cut_38 0 rfl ?_
        refine aw_bipush (v := (10 : Int32)) (pc := 40) hX dX6_cut_40 (by decide) ?_
        refine aw_icmp_eq (pc := 42) hX (tgt := 52) dX6_cut_42 (by decide) (fun c42 => ?_) (fun c42 => ?_)
        · rw [if_pos c42] at h
          refine aw_iinc (v := (v4 + 1)) (ls' := [(4, .int (v4 + 1)), (6, .int x35), (0, .ref 4), (1, .ref a1), (3, .int v3), (5, .int v5)]) (pc := 52) hX dX6_cut_52 (pos := 4) rfl (by first | rfl | decide) (by decide) rfl ?_
          refine aw_goto (tgt := 110) (pc := 55) hX dX6_cut_55 (by decide) ?_
          refine aw_iinc (v := (v5 + 1)) (ls' := [(5, .int (v5 + 1)), (4, .int (v4 + 1)), (6, .int x35), (0, .ref 4), (1, .ref a1), (3, .int v3)]) (pc := 110) hX dX6_cut_110 (pos := 5) rfl (by first | rfl | decide) (by decide) rfl ?_
          refine aw_goto (tgt := 18) (pc := 113) hX dX6_cut_113 (by decide) ?_
          refine aw_sub (ls' := [(0, .ref 4), (1, .ref a1), (3, .int v3), (4, .int (v4 + 1)), (5, .int (v5 + 1))]) [3, 4, 5, 1, 0] rfl ?_
          exact ih v3 (v4 + 1) (v5 + 1) S h
        · rw [if_neg c42] at h
          refine aw_iload (pc := 45) hX dX6_cut_45 0 rfl ?_
          refine aw_bipush (v := (32 : Int32)) (pc := 47) hX dX6_cut_47 (by decide) ?_
          refine aw_icmp_ne (pc := 49) hX (tgt := 58) dX6_cut_49 (by decide) (fun c49 => ?_) (fun c49 => ?_)
          · rw [if_neg c49] at h
            refine aw_iload (pc := 58) hX dX6_cut_58 0 rfl ?_
            obtain ⟨r60, S60, hr60, h⟩ := ob2 h
            refine aw_cSI (pc := 60) (As := [.int x35]) (rest := []) hX (c_X6_isLetter (sk := SKC) hr60) ok_X6_isLetter kw_2_197 st_X6_isLetter rfl (by decide) (Nat.le_of_ble_eq_true rfl) rfl dX6_cut_60 (Nat.le_refl 0) (Nat.le_refl 0) ?_
            refine aw_if_eq (pc := 63) hX (tgt := 79) dX6_cut_63 (by decide) (fun c63 => ?_) (fun c63 => ?_)
            · rw [if_pos c63] at h
              refine aw_iload (pc := 79) hX dX6_cut_79 0 rfl ?_
              obtain ⟨r81, S81, hr81, h⟩ := ob2 h
              refine aw_cSI (pc := 81) (As := [.int x35]) (rest := []) hX (c_X6_isDigit (sk := SKC) hr81) ok_X6_isDigit kw_3_23 st_X6_isDigit rfl (by decide) (Nat.le_of_ble_eq_true rfl) rfl dX6_cut_81 (Nat.le_refl 0) (Nat.le_refl 0) ?_
              refine aw_if_eq (pc := 84) hX (tgt := 100) dX6_cut_84 (by decide) (fun c84 => ?_) (fun c84 => ?_)
              · rw [if_pos c84] at h
                refine aw_aload_n (pc := 100) hX dX6_cut_100 rfl 1 rfl ?_
                refine aw_aload_n (pc := 101) hX dX6_cut_101 rfl 2 rfl ?_
                refine aw_iload (pc := 102) hX dX6_cut_102 4 rfl ?_
                refine aw_iload_n (pc := 104) hX dX6_cut_104 rfl 3 rfl ?_
                obtain ⟨r105, S105, hr105, h⟩ := ob2 h
                refine aw_cVI (pc := 105) (As := [.ref a1, .int v4, .int v3]) (rest := []) hX (c_X6_cutSign ha1 hr105) ok_X6_cutSign kw_3_31 im_X6_cutSign se_X6_cutSign rfl kc4 rfl (by decide) (Nat.le_of_ble_eq_true rfl) rfl dX6_cut_105 (Nat.le_refl 0) (Nat.le_refl 0) ?_
                refine aw_istore (ls' := [(4, .int r105), (6, .int x35), (0, .ref 4), (1, .ref a1), (3, .int v3), (5, .int v5)]) (pc := 108) hX dX6_cut_108 (by decide) rfl ?_
                refine aw_iinc (v := (v5 + 1)) (ls' := [(5, .int (v5 + 1)), (4, .int r105), (6, .int x35), (0, .ref 4), (1, .ref a1), (3, .int v3)]) (pc := 110) hX dX6_cut_110 (pos := 5) rfl (by first | rfl | decide) (by decide) rfl ?_
                refine aw_goto (tgt := 18) (pc := 113) hX dX6_cut_113 (by decide) ?_
                refine aw_sub (ls' := [(0, .ref 4), (1, .ref a1), (3, .int v3), (4, .int r105), (5, .int (v5 + 1))]) [3, 4, 5, 1, 0] rfl ?_
                exact ih v3 r105 (v5 + 1) S105 h
              · rw [if_neg c84] at h
                refine aw_aload_n (pc := 87) hX dX6_cut_87 rfl 1 rfl ?_
                refine aw_aload_n (pc := 88) hX dX6_cut_88 rfl 2 rfl ?_
                refine aw_iload (pc := 89) hX dX6_cut_89 4 rfl ?_
                refine aw_iload_n (pc := 91) hX dX6_cut_91 rfl 3 rfl ?_
                obtain ⟨r92, S92, hr92, h⟩ := ob2 h
                refine aw_cVI (pc := 92) (As := [.ref a1, .int v4, .int v3]) (rest := []) hX (c_X6_cutNumber ha1 hr92) ok_X6_cutNumber kw_3_26 im_X6_cutNumber se_X6_cutNumber rfl kc4 rfl (by decide) (Nat.le_of_ble_eq_true rfl) rfl dX6_cut_92 (Nat.le_refl 0) (Nat.le_refl 0) ?_
                refine aw_istore (ls' := [(4, .int r92), (6, .int x35), (0, .ref 4), (1, .ref a1), (3, .int v3), (5, .int v5)]) (pc := 95) hX dX6_cut_95 (by decide) rfl ?_
                refine aw_goto (tgt := 110) (pc := 97) hX dX6_cut_97 (by decide) ?_
                refine aw_iinc (v := (v5 + 1)) (ls' := [(5, .int (v5 + 1)), (4, .int r92), (6, .int x35), (0, .ref 4), (1, .ref a1), (3, .int v3)]) (pc := 110) hX dX6_cut_110 (pos := 5) rfl (by first | rfl | decide) (by decide) rfl ?_
                refine aw_goto (tgt := 18) (pc := 113) hX dX6_cut_113 (by decide) ?_
                refine aw_sub (ls' := [(0, .ref 4), (1, .ref a1), (3, .int v3), (4, .int r92), (5, .int (v5 + 1))]) [3, 4, 5, 1, 0] rfl ?_
                exact ih v3 r92 (v5 + 1) S92 h
            · rw [if_neg c63] at h
              refine aw_aload_n (pc := 66) hX dX6_cut_66 rfl 1 rfl ?_
              refine aw_aload_n (pc := 67) hX dX6_cut_67 rfl 2 rfl ?_
              refine aw_iload (pc := 68) hX dX6_cut_68 4 rfl ?_
              refine aw_iload_n (pc := 70) hX dX6_cut_70 rfl 3 rfl ?_
              obtain ⟨r71, S71, hr71, h⟩ := ob2 h
              refine aw_cVI (pc := 71) (As := [.ref a1, .int v4, .int v3]) (rest := []) hX (c_X6_cutWord ha1 hr71) ok_X6_cutWord kw_2_200 im_X6_cutWord se_X6_cutWord rfl kc4 rfl (by decide) (Nat.le_of_ble_eq_true rfl) rfl dX6_cut_71 (Nat.le_refl 0) (Nat.le_refl 0) ?_
              refine aw_istore (ls' := [(4, .int r71), (6, .int x35), (0, .ref 4), (1, .ref a1), (3, .int v3), (5, .int v5)]) (pc := 74) hX dX6_cut_74 (by decide) rfl ?_
              refine aw_goto (tgt := 110) (pc := 76) hX dX6_cut_76 (by decide) ?_
              refine aw_iinc (v := (v5 + 1)) (ls' := [(5, .int (v5 + 1)), (4, .int r71), (6, .int x35), (0, .ref 4), (1, .ref a1), (3, .int v3)]) (pc := 110) hX dX6_cut_110 (pos := 5) rfl (by first | rfl | decide) (by decide) rfl ?_
              refine aw_goto (tgt := 18) (pc := 113) hX dX6_cut_113 (by decide) ?_
              refine aw_sub (ls' := [(0, .ref 4), (1, .ref a1), (3, .int v3), (4, .int r71), (5, .int (v5 + 1))]) [3, 4, 5, 1, 0] rfl ?_
              exact ih v3 r71 (v5 + 1) S71 h
          · rw [if_pos c49] at h
            refine aw_iinc (v := (v4 + 1)) (ls' := [(4, .int (v4 + 1)), (6, .int x35), (0, .ref 4), (1, .ref a1), (3, .int v3), (5, .int v5)]) (pc := 52) hX dX6_cut_52 (pos := 4) rfl (by first | rfl | decide) (by decide) rfl ?_
            refine aw_goto (tgt := 110) (pc := 55) hX dX6_cut_55 (by decide) ?_
            refine aw_iinc (v := (v5 + 1)) (ls' := [(5, .int (v5 + 1)), (4, .int (v4 + 1)), (6, .int x35), (0, .ref 4), (1, .ref a1), (3, .int v3)]) (pc := 110) hX dX6_cut_110 (pos := 5) rfl (by first | rfl | decide) (by decide) rfl ?_
            refine aw_goto (tgt := 18) (pc := 113) hX dX6_cut_113 (by decide) ?_
            refine aw_sub (ls' := [(0, .ref 4), (1, .ref a1), (3, .int v3), (4, .int (v4 + 1)), (5, .int (v5 + 1))]) [3, 4, 5, 1, 0] rfl ?_
            exact ih v3 (v4 + 1) (v5 + 1) S h

set_option maxHeartbeats 4000000 in
set_option maxRecDepth 100000 in
theorem c_X6_cut {a1 : Nat} {n1 : Nat} {v2 : Int32} {S : Mem} {Sf : Mem} (ha1 : SKC[a1]? = some (0, n1, [])) (h : f_X6_cut a1 n1 v2 S = some Sf) : MetV yX6_cut cX6_cut 7 none 7 [.ref 4, .ref a1, .int v2] SKC S Sf := by
  refine MetV.intro (by decide +kernel) (Nat.le_of_ble_eq_true rfl) (fun X loc hX hQ => ?_)
  unfold f_X6_cut at h
  show AW X SKC loc 0 0 0 [(0, .ref 4), (1, .ref a1), (2, .int v2)] [] S
  refine aw_iload_n (pc := 0) hX dX6_cut_0 rfl 2 rfl ?_
  refine aw_aload_n (pc := 1) hX dX6_cut_1 rfl 1 rfl ?_
  refine aw_alen (pc := 2) hX ha1 (by decide) dX6_cut_2 ?_
  obtain ⟨r3, S3, hr3, h⟩ := ob2 h
  refine aw_cSI (pc := 3) (As := [.int v2, .int (nI n1)]) (rest := []) hX (c_J9_min_7cf53 (sk := SKC) hr3) ok_J9_min_7cf53 kw_2_194 st_J9_min_7cf53 rfl (by decide) (Nat.le_of_ble_eq_true rfl) rfl dX6_cut_3 (Nat.le_refl 0) (Nat.le_refl 0) ?_
  refine aw_istore_n (ls' := [(3, .int r3), (0, .ref 4), (1, .ref a1), (2, .int v2)]) (pc := 6) hX dX6_cut_6 rfl (by decide) rfl ?_
  refine aw_iconst (v := (0 : Int32)) (pc := 7) hX dX6_cut_7 (by decide) ?_
  refine aw_istore (ls' := [(4, .int (0 : Int32)), (3, .int r3), (0, .ref 4), (1, .ref a1), (2, .int v2)]) (pc := 8) hX dX6_cut_8 (by decide) rfl ?_
  refine aw_aload_n (pc := 10) hX dX6_cut_10 rfl 2 rfl ?_
  refine aw_iconst (v := (0 : Int32)) (pc := 11) hX dX6_cut_11 (by decide) ?_
  refine pf_X6_21 (pc := 12) hX kc4 rfl dX6_cut_12 ?_
  obtain ⟨S12, eS12, h⟩ := on h
  refine aw_S eS12 ?_
  refine aw_iconst (v := (0 : Int32)) (pc := 15) hX dX6_cut_15 (by decide) ?_
  refine aw_istore (ls' := [(5, .int (0 : Int32)), (4, .int (0 : Int32)), (3, .int r3), (0, .ref 4), (1, .ref a1), (2, .int v2)]) (pc := 16) hX dX6_cut_16 (by decide) rfl ?_
  refine aw_sub (ls' := [(0, .ref 4), (1, .ref a1), (3, .int r3), (4, .int (0 : Int32)), (5, .int (0 : Int32))]) [3, 4, 2, 1, 0] rfl ?_
  exact c_X6_cut_18 hX hQ ha1 FU r3 (0 : Int32) (0 : Int32) S12 h

