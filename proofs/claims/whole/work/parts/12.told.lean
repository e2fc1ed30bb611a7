def f_X7_addDoll (t : Nat) (v1 : Int32) (S : Mem) : Option Mem :=
  (wr S (t + 5) 10 (S.1 t 1) v1).bind fun S9 =>
  (rd S9 (t + 2) 6 v1).bind fun x24 =>
  (wr S9 (t + 6) 10 (S9.1 t 1) ((1 : Int32) - x24)).bind fun S26 =>
  (rd S26 (t + 6) 10 (S26.1 t 1)).bind fun x39 =>
  (rd S26 (t + 9) 2 x39).bind fun x41 =>
  (wr S26 (t + 9) 2 x39 (x41 ||| ((1 : Int32) <<< ((S26.1 t 1) &&& 31)))).bind fun S49 =>
  nxt (sI S49 t 1 ((S49.1 t 1) + (1 : Int32))) fun S57 =>
  some S57

set_option maxHeartbeats 4000000 in
set_option maxRecDepth 100000 in
theorem c_X7_addDoll {sk : Skel} {t : Nat} {v1 : Int32} {S : Mem} {Sf : Mem} (ht : IsT sk t) (h : f_X7_addDoll t v1 S = some Sf) : MetV yX7_addDoll cX7_addDoll 2 none 0 [.ref t, .int v1] sk S Sf := by
  refine MetV.intro (by decide +kernel) (Nat.le_of_ble_eq_true rfl) (fun X loc hX hQ => ?_)
  unfold f_X7_addDoll at h
  show AW X sk loc 0 0 0 [(0, .ref t), (1, .int v1)] [] S
  refine aw_aload_n (pc := 0) hX dX7_addDoll_0 rfl 0 rfl ?_
  refine gf_X7_34 (pc := 1) hX ht.1 rfl dX7_addDoll_1 ?_
  refine aw_aload_n (pc := 4) hX dX7_addDoll_4 rfl 0 rfl ?_
  refine gf_X7_15 (pc := 5) hX ht.1 rfl dX7_addDoll_5 ?_
  refine aw_iload_n (pc := 8) hX dX7_addDoll_8 rfl 1 rfl ?_
  obtain ⟨S9, hS9, h⟩ := ob h
  refine aw_iast (pc := 9) hX ht.2.2.2.2.2.1 hS9 dX7_addDoll_9 ?_
  refine aw_aload_n (pc := 10) hX dX7_addDoll_10 rfl 0 rfl ?_
  refine gf_X7_37 (pc := 11) hX ht.1 rfl dX7_addDoll_11 ?_
  refine aw_aload_n (pc := 14) hX dX7_addDoll_14 rfl 0 rfl ?_
  refine gf_X7_15 (pc := 15) hX ht.1 rfl dX7_addDoll_15 ?_
  refine aw_iconst (v := (1 : Int32)) (pc := 18) hX dX7_addDoll_18 (by decide) ?_
  refine aw_aload_n (pc := 19) hX dX7_addDoll_19 rfl 0 rfl ?_
  refine gf_X7_25 (pc := 20) hX ht.1 rfl dX7_addDoll_20 ?_
  refine aw_iload_n (pc := 23) hX dX7_addDoll_23 rfl 1 rfl ?_
  obtain ⟨x24, hx24, h⟩ := ob h
  refine aw_iald (pc := 24) hX ht.2.2.1 hx24 dX7_addDoll_24 ?_
  refine aw_isub (pc := 25) hX dX7_addDoll_25 ?_
  obtain ⟨S26, hS26, h⟩ := ob h
  refine aw_iast (pc := 26) hX ht.2.2.2.2.2.2.1 hS26 dX7_addDoll_26 ?_
  refine aw_aload_n (pc := 27) hX dX7_addDoll_27 rfl 0 rfl ?_
  refine gf_X7_46 (pc := 28) hX ht.1 rfl dX7_addDoll_28 ?_
  refine aw_aload_n (pc := 31) hX dX7_addDoll_31 rfl 0 rfl ?_
  refine gf_X7_37 (pc := 32) hX ht.1 rfl dX7_addDoll_32 ?_
  refine aw_aload_n (pc := 35) hX dX7_addDoll_35 rfl 0 rfl ?_
  refine gf_X7_15 (pc := 36) hX ht.1 rfl dX7_addDoll_36 ?_
  obtain ⟨x39, hx39, h⟩ := ob h
  refine aw_iald (pc := 39) hX ht.2.2.2.2.2.2.1 hx39 dX7_addDoll_39 ?_
  refine aw_dup2 (pc := 40) hX dX7_addDoll_40 rfl rfl ?_
  obtain ⟨x41, hx41, h⟩ := ob h
  refine aw_iald (pc := 41) hX ht.2.2.2.2.2.2.2.2.2.1 hx41 dX7_addDoll_41 ?_
  refine aw_iconst (v := (1 : Int32)) (pc := 42) hX dX7_addDoll_42 (by decide) ?_
  refine aw_aload_n (pc := 43) hX dX7_addDoll_43 rfl 0 rfl ?_
  refine gf_X7_15 (pc := 44) hX ht.1 rfl dX7_addDoll_44 ?_
  refine aw_ishl (pc := 47) hX dX7_addDoll_47 ?_
  refine aw_ior (pc := 48) hX dX7_addDoll_48 ?_
  obtain ⟨S49, hS49, h⟩ := ob h
  refine aw_iast (pc := 49) hX ht.2.2.2.2.2.2.2.2.2.1 hS49 dX7_addDoll_49 ?_
  refine aw_aload_n (pc := 50) hX dX7_addDoll_50 rfl 0 rfl ?_
  refine aw_dup (pc := 51) hX dX7_addDoll_51 rfl ?_
  refine gf_X7_15 (pc := 52) hX ht.1 rfl dX7_addDoll_52 ?_
  refine aw_iconst (v := (1 : Int32)) (pc := 55) hX dX7_addDoll_55 (by decide) ?_
  refine aw_iadd (pc := 56) hX dX7_addDoll_56 ?_
  refine pf_X7_15 (pc := 57) hX ht.1 rfl dX7_addDoll_57 ?_
  obtain ⟨S57, eS57, h⟩ := on h
  refine aw_S eS57 ?_
  cases h
  exact aw_vret hX hQ dX7_addDoll_60

def f_X7_clear_68 (t : Nat) : Nat → Int32 → Mem → Option Mem
  | 0, _, _ => none
  | n + 1, v1, S =>
  if (3 : Int32) ≤ v1 then
  (some S)
  else
  (if inb v1 3 = true then
  ((f_X1_clear (t + 13 + 3 * (v1).toNatClampNeg) S).bind fun S79 =>
  f_X7_clear_68 t n (v1 + 1) S79)
  else none)

def f_X7_clear_37 (t : Nat) : Nat → Int32 → Mem → Option Mem
  | 0, _, _ => none
  | n + 1, v1, S =>
  if (4 : Int32) ≤ v1 then
  (f_X7_clear_68 t FU (0 : Int32) S)
  else
  ((rdT stUntold v1).bind fun x51 =>
  (wr S (t + 10) 4 v1 x51).bind fun S52 =>
  (wrZ S52 (t + 11) 4 v1 (0 : Int32)).bind fun S59 =>
  f_X7_clear_37 t n (v1 + 1) S59)

def f_X7_clear_17 (t : Nat) : Nat → Int32 → Mem → Option Mem
  | 0, _, _ => none
  | n + 1, v1, S =>
  if (2 : Int32) ≤ v1 then
  (f_X7_clear_37 t FU (0 : Int32) S)
  else
  ((wr S (t + 9) 2 v1 (0 : Int32)).bind fun S28 =>
  f_X7_clear_17 t n (v1 + 1) S28)

def f_X7_clear (t : Nat) (S : Mem) : Option Mem :=
  nxt (sI S t 0 (0 : Int32)) fun S2 =>
  nxt (sI S2 t 1 (0 : Int32)) fun S7 =>
  nxt (sI S7 t 2 (0 : Int32)) fun S12 =>
  f_X7_clear_17 t FU (0 : Int32) S12

set_option maxHeartbeats 4000000 in
set_option maxRecDepth 100000 in
theorem c_X7_clear_68 {X : XT} {loc : Nat → Nat} {sk : Skel} {t : Nat} {Sf : Mem} (hX : AC X loc RX7 cX7_clear none 2 1 0 0) (hQ : RetV X sk loc 0 0 Sf) (ht : IsT sk t) : ∀ (n : Nat) (v1 : Int32) (S : Mem), f_X7_clear_68 t n v1 S = some Sf → AW X sk loc 0 0 68 [(0, .ref t), (1, .int v1)] [] S := by
  intro n
  induction n with
  | zero => intro v1 S h; cases h
  | succ n ih =>
    intro v1 S h
    unfold f_X7_clear_68 at h
    refine aw_iload_n (pc := 68) hX dX7_clear_68 rfl 1 rfl ?_
    refine aw_iconst (v := (3 : Int32)) (pc := 69) hX dX7_clear_69 (by decide) ?_
    refine aw_icmp_ge (pc := 70) hX (tgt := 88) dX7_clear_70 (by decide) (fun c70 => ?_) (fun c70 => ?_)
    · rw [if_pos c70] at h
      cases h
      exact aw_vret hX hQ dX7_clear_88
    · rw [if_neg c70] at h
      refine aw_aload_n (pc := 73) hX dX7_clear_73 rfl 0 rfl ?_
      refine gf_X7_58 (pc := 74) hX ht.1 rfl dX7_clear_74 ?_
      refine aw_iload_n (pc := 77) hX dX7_clear_77 rfl 1 rfl ?_
      by_cases hi78 : inb v1 3 = true
      · rw [if_pos hi78] at h
        refine aw_aald (pc := 78) hX ht.2.2.2.2.2.2.2.2.2.2.2.2.1 hi78 (laws_at hi78) dX7_clear_78 ?_
        obtain ⟨S79, hr79, h⟩ := ob h
        refine aw_cVV (pc := 79) (As := []) (rest := []) hX (c_X1_clear (sk := sk) (IsT.law ht hi78) hr79) ok_X1_clear kw_1_111 im_X1_clear se_X1_clear rfl ((IsT.law ht hi78)).1 rfl (by decide) (Nat.le_of_ble_eq_true rfl) rfl dX7_clear_79 (Nat.le_refl 0) (Nat.le_refl 0) ?_
        refine aw_iinc (v := (v1 + 1)) (ls' := [(1, .int (v1 + 1)), (0, .ref t)]) (pc := 82) hX dX7_clear_82 (pos := 1) rfl (by first | rfl | decide) (by decide) rfl ?_
        refine aw_goto (tgt := 68) (pc := 85) hX dX7_clear_85 (by decide) ?_
        refine aw_sub (ls' := [(0, .ref t), (1, .int (v1 + 1))]) [1, 0] rfl ?_
        exact ih (v1 + 1) S79 h
      · rw [if_neg hi78] at h
        cases h

set_option maxHeartbeats 4000000 in
set_option maxRecDepth 100000 in
theorem c_X7_clear_37 {X : XT} {loc : Nat → Nat} {sk : Skel} {t : Nat} {Sf : Mem} (hX : AC X loc RX7 cX7_clear none 2 1 0 0) (hQ : RetV X sk loc 0 0 Sf) (ht : IsT sk t) : ∀ (n : Nat) (v1 : Int32) (S : Mem), f_X7_clear_37 t n v1 S = some Sf → AW X sk loc 0 0 37 [(0, .ref t), (1, .int v1)] [] S := by
  intro n
  induction n with
  | zero => intro v1 S h; cases h
  | succ n ih =>
    intro v1 S h
    unfold f_X7_clear_37 at h
    refine aw_iload_n (pc := 37) hX dX7_clear_37 rfl 1 rfl ?_
    refine aw_iconst (v := (4 : Int32)) (pc := 38) hX dX7_clear_38 (by decide) ?_
    refine aw_icmp_ge (pc := 39) hX (tgt := 66) dX7_clear_39 (by decide) (fun c39 => ?_) (fun c39 => ?_)
    · rw [if_pos c39] at h
      refine aw_iconst (v := (0 : Int32)) (pc := 66) hX dX7_clear_66 (by decide) ?_
      refine aw_istore_n (ls' := [(1, .int (0 : Int32)), (0, .ref t)]) (pc := 67) hX dX7_clear_67 rfl (by decide) rfl ?_
      refine aw_sub (ls' := [(0, .ref t), (1, .int (0 : Int32))]) [1, 0] rfl ?_
      exact c_X7_clear_68 hX hQ ht FU (0 : Int32) S h
    · rw [if_neg c39] at h
      refine aw_aload_n (pc := 42) hX dX7_clear_42 rfl 0 rfl ?_
      refine gf_X7_49 (pc := 43) hX ht.1 rfl dX7_clear_43 ?_
      refine aw_iload_n (pc := 46) hX dX7_clear_46 rfl 1 rfl ?_
      refine aw_gets2 (pc := 47) hX (host := "DollTruce") (by decide) dX7_clear_47 ?_
      refine aw_iload_n (pc := 50) hX dX7_clear_50 rfl 1 rfl ?_
      obtain ⟨x51, hx51, h⟩ := ob h
      refine aw_tld2 (pc := 51) hX hx51 dX7_clear_51 ?_
      obtain ⟨S52, hS52, h⟩ := ob h
      refine aw_iast (pc := 52) hX ht.2.2.2.2.2.2.2.2.2.2.1 hS52 dX7_clear_52 ?_
      refine aw_aload_n (pc := 53) hX dX7_clear_53 rfl 0 rfl ?_
      refine gf_X7_52 (pc := 54) hX ht.1 rfl dX7_clear_54 ?_
      refine aw_iload_n (pc := 57) hX dX7_clear_57 rfl 1 rfl ?_
      refine aw_iconst (v := (0 : Int32)) (pc := 58) hX dX7_clear_58 (by decide) ?_
      obtain ⟨S59, hS59, h⟩ := ob h
      refine aw_zast (pc := 59) hX ht.2.2.2.2.2.2.2.2.2.2.2.1 hS59 dX7_clear_59 ?_
      refine aw_iinc (v := (v1 + 1)) (ls' := [(1, .int (v1 + 1)), (0, .ref t)]) (pc := 60) hX dX7_clear_60 (pos := 1) rfl (by first | rfl | decide) (by decide) rfl ?_
      refine aw_goto (tgt := 37) (pc := 63) hX dX7_clear_63 (by decide) ?_
      refine aw_sub (ls' := [(0, .ref t), (1, .int (v1 + 1))]) [1, 0] rfl ?_
      exact ih (v1 + 1) S59 h

set_option maxHeartbeats 4000000 in
set_option maxRecDepth 100000 in
theorem c_X7_clear_17 {X : XT} {loc : Nat → Nat} {sk : Skel} {t : Nat} {Sf : Mem} (hX : AC X loc RX7 cX7_clear none 2 1 0 0) (hQ : RetV X sk loc 0 0 Sf) (ht : IsT sk t) : ∀ (n : Nat) (v1 : Int32) (S : Mem), f_X7_clear_17 t n v1 S = some Sf → AW X sk loc 0 0 17 [(0, .ref t), (1, .int v1)] [] S := by
  intro n
  induction n with
  | zero => intro v1 S h; cases h
  | succ n ih =>
    intro v1 S h
    unfold f_X7_clear_17 at h
    refine aw_iload_n (pc := 17) hX dX7_clear_17 rfl 1 rfl ?_
    refine aw_iconst (v := (2 : Int32)) (pc := 18) hX dX7_clear_18 (by decide) ?_
    refine aw_icmp_ge (pc := 19) hX (tgt := 35) dX7_clear_19 (by decide) (fun c19 => ?_) (fun c19 => ?_)
    · rw [if_pos c19] at h
      refine aw_iconst (v := (0 : Int32)) (pc := 35) hX dX7_clear_35 (by decide) ?_
      refine aw_istore_n (ls' := [(1, .int (0 : Int32)), (0, .ref t)]) (pc := 36) hX dX7_clear_36 rfl (by decide) rfl ?_
      refine aw_sub (ls' := [(0, .ref t), (1, .int (0 : Int32))]) [1, 0] rfl ?_
      exact c_X7_clear_37 hX hQ ht FU (0 : Int32) S h
    · rw [if_neg c19] at h
      refine aw_aload_n (pc := 22) hX dX7_clear_22 rfl 0 rfl ?_
      refine gf_X7_46 (pc := 23) hX ht.1 rfl dX7_clear_23 ?_
      refine aw_iload_n (pc := 26) hX dX7_clear_26 rfl 1 rfl ?_
      refine aw_iconst (v := (0 : Int32)) (pc := 27) hX dX7_clear_27 (by decide) ?_
      obtain ⟨S28, hS28, h⟩ := ob h
      refine aw_iast (pc := 28) hX ht.2.2.2.2.2.2.2.2.2.1 hS28 dX7_clear_28 ?_
      refine aw_iinc (v := (v1 + 1)) (ls' := [(1, .int (v1 + 1)), (0, .ref t)]) (pc := 29) hX dX7_clear_29 (pos := 1) rfl (by first | rfl | decide) (by decide) rfl ?_
      refine aw_goto (tgt := 17) (pc := 32) hX dX7_clear_32 (by decide) ?_
      refine aw_sub (ls' := [(0, .ref t), (1, .int (v1 + 1))]) [1, 0] rfl ?_
      exact ih (v1 + 1) S28 h

set_option maxHeartbeats 4000000 in
set_option maxRecDepth 100000 in
theorem c_X7_clear {sk : Skel} {t : Nat} {S : Mem} {Sf : Mem} (ht : IsT sk t) (h : f_X7_clear t S = some Sf) : MetV yX7_clear cX7_clear 2 none 1 [.ref t] sk S Sf := by
  refine MetV.intro (by decide +kernel) (Nat.le_of_ble_eq_true rfl) (fun X loc hX hQ => ?_)
  unfold f_X7_clear at h
  show AW X sk loc 0 0 0 [(0, .ref t)] [] S
  refine aw_aload_n (pc := 0) hX dX7_clear_0 rfl 0 rfl ?_
  refine aw_iconst (v := (0 : Int32)) (pc := 1) hX dX7_clear_1 (by decide) ?_
  refine pf_X7_9 (pc := 2) hX ht.1 rfl dX7_clear_2 ?_
  obtain ⟨S2, eS2, h⟩ := on h
  refine aw_S eS2 ?_
  refine aw_aload_n (pc := 5) hX dX7_clear_5 rfl 0 rfl ?_
  refine aw_iconst (v := (0 : Int32)) (pc := 6) hX dX7_clear_6 (by decide) ?_
  refine pf_X7_15 (pc := 7) hX ht.1 rfl dX7_clear_7 ?_
  obtain ⟨S7, eS7, h⟩ := on h
  refine aw_S eS7 ?_
  refine aw_aload_n (pc := 10) hX dX7_clear_10 rfl 0 rfl ?_
  refine aw_iconst (v := (0 : Int32)) (pc := 11) hX dX7_clear_11 (by decide) ?_
  refine pf_X7_18 (pc := 12) hX ht.1 rfl dX7_clear_12 ?_
  obtain ⟨S12, eS12, h⟩ := on h
  refine aw_S eS12 ?_
  refine aw_iconst (v := (0 : Int32)) (pc := 15) hX dX7_clear_15 (by decide) ?_
  refine aw_istore_n (ls' := [(1, .int (0 : Int32)), (0, .ref t)]) (pc := 16) hX dX7_clear_16 rfl (by decide) rfl ?_
  refine aw_sub (ls' := [(0, .ref t), (1, .int (0 : Int32))]) [1, 0] rfl ?_
  exact c_X7_clear_17 hX hQ ht FU (0 : Int32) S12 h

def f_X7_sumOf_5 (t : Nat) (a1 : Nat) (n1 : Nat) : Nat → Int32 → Int32 → Int32 → Mem → Option (Int32 × Mem)
  | 0, _, _, _, _ => none
  | n + 1, v2, v3, v4, S =>
  if (S.1 t 1) ≤ v4 then
  (some (v3, S))
  else
  (if ((v2 >>> (v4 &&& 31)) &&& (1 : Int32)) = (1 : Int32) then
  ((rd S a1 n1 v4).bind fun x28 =>
  f_X7_sumOf_5 t a1 n1 n v2 (v3 + x28) (v4 + 1) S)
  else
  (f_X7_sumOf_5 t a1 n1 n v2 v3 (v4 + 1) S))

def f_X7_sumOf (t : Nat) (a1 : Nat) (n1 : Nat) (v2 : Int32) (S : Mem) : Option (Int32 × Mem) :=
  f_X7_sumOf_5 t a1 n1 FU v2 (0 : Int32) (0 : Int32) S

set_option maxHeartbeats 4000000 in
set_option maxRecDepth 100000 in
theorem c_X7_sumOf_5 {X : XT} {loc : Nat → Nat} {sk : Skel} {t : Nat} {a1 : Nat} {n1 : Nat} {r : Int32} {Sf : Mem} (hX : AC X loc RX7 cX7_sumOf (some .int) 5 0 0 0) (hQ : RetI X sk loc 0 0 r Sf) (ht : IsT sk t) (ha1 : sk[a1]? = some (0, n1, [])) : ∀ (n : Nat) (v2 : Int32) (v3 : Int32) (v4 : Int32) (S : Mem), f_X7_sumOf_5 t a1 n1 n v2 v3 v4 S = some (r, Sf) → AW X sk loc 0 0 5 [(0, .ref t), (1, .ref a1), (2, .int v2), (3, .int v3), (4, .int v4)] [] S := by
  intro n
  induction n with
  | zero => intro v2 v3 v4 S h; cases h
  | succ n ih =>
    intro v2 v3 v4 S h
    unfold f_X7_sumOf_5 at h
    refine aw_iload (pc := 5) hX dX7_sumOf_5 4 rfl ?_
    refine aw_aload_n (pc := 7) hX dX7_sumOf_7 rfl 0 rfl ?_
    refine gf_X7_15 (pc := 8) hX ht.1 rfl dX7_sumOf_8 ?_
    refine aw_icmp_ge (pc := 11) hX (tgt := 37) dX7_sumOf_11 (by decide) (fun c11 => ?_) (fun c11 => ?_)
    · rw [if_pos c11] at h
      refine aw_iload_n (pc := 37) hX dX7_sumOf_37 rfl 3 rfl ?_
      cases h
      exact aw_iret hX hQ dX7_sumOf_38
    · rw [if_neg c11] at h
      refine aw_iload_n (pc := 14) hX dX7_sumOf_14 rfl 2 rfl ?_
      refine aw_iload (pc := 15) hX dX7_sumOf_15 4 rfl ?_
      refine aw_ishr (pc := 17) hX dX7_sumOf_17 ?_
      refine aw_iconst (v := (1 : Int32)) (pc := 18) hX dX7_sumOf_18 (by decide) ?_
      refine aw_iand (pc := 19) hX dX7_sumOf_19 ?_
      refine aw_iconst (v := (1 : Int32)) (pc := 20) hX dX7_sumOf_20 (by decide) ?_
      refine aw_icmp_ne (pc := 21) hX (tgt := 31) dX7_sumOf_21 (by decide) (fun c21 => ?_) (fun c21 => ?_)
      · rw [if_neg c21] at h
        refine aw_iinc (v := (v4 + 1)) (ls' := [(4, .int (v4 + 1)), (0, .ref t), (1, .ref a1), (2, .int v2), (3, .int v3)]) (pc := 31) hX dX7_sumOf_31 (pos := 4) rfl (by first | rfl | decide) (by decide) rfl ?_
        refine aw_goto (tgt := 5) (pc := 34) hX dX7_sumOf_34 (by decide) ?_
        refine aw_sub (ls' := [(0, .ref t), (1, .ref a1), (2, .int v2), (3, .int v3), (4, .int (v4 + 1))]) [1, 2, 3, 4, 0] rfl ?_
        exact ih v2 v3 (v4 + 1) S h
      · rw [if_pos c21] at h
        refine aw_iload_n (pc := 24) hX dX7_sumOf_24 rfl 3 rfl ?_
        refine aw_aload_n (pc := 25) hX dX7_sumOf_25 rfl 1 rfl ?_
        refine aw_iload (pc := 26) hX dX7_sumOf_26 4 rfl ?_
        obtain ⟨x28, hx28, h⟩ := ob h
        refine aw_iald (pc := 28) hX ha1 hx28 dX7_sumOf_28 ?_
        refine aw_iadd (pc := 29) hX dX7_sumOf_29 ?_
        refine aw_istore_n (ls' := [(3, .int (v3 + x28)), (0, .ref t), (1, .ref a1), (2, .int v2), (4, .int v4)]) (pc := 30) hX dX7_sumOf_30 rfl (by decide) rfl ?_
        refine aw_iinc (v := (v4 + 1)) (ls' := [(4, .int (v4 + 1)), (3, .int (v3 + x28)), (0, .ref t), (1, .ref a1), (2, .int v2)]) (pc := 31) hX dX7_sumOf_31 (pos := 4) rfl (by first | rfl | decide) (by decide) rfl ?_
        refine aw_goto (tgt := 5) (pc := 34) hX dX7_sumOf_34 (by decide) ?_
        refine aw_sub (ls' := [(0, .ref t), (1, .ref a1), (2, .int v2), (3, .int (v3 + x28)), (4, .int (v4 + 1))]) [2, 3, 4, 1, 0] rfl ?_
        exact ih v2 (v3 + x28) (v4 + 1) S h

set_option maxHeartbeats 4000000 in
set_option maxRecDepth 100000 in
theorem c_X7_sumOf {sk : Skel} {t : Nat} {a1 : Nat} {n1 : Nat} {v2 : Int32} {S : Mem} {r : Int32} {Sf : Mem} (ht : IsT sk t) (ha1 : sk[a1]? = some (0, n1, [])) (h : f_X7_sumOf t a1 n1 v2 S = some (r, Sf)) : MetI yX7_sumOf cX7_sumOf 5 (some .int) 0 [.ref t, .ref a1, .int v2] sk S r Sf := by
  refine MetI.intro (by decide +kernel) (Nat.le_of_ble_eq_true rfl) (fun X loc hX hQ => ?_)
  unfold f_X7_sumOf at h
  show AW X sk loc 0 0 0 [(0, .ref t), (1, .ref a1), (2, .int v2)] [] S
  refine aw_iconst (v := (0 : Int32)) (pc := 0) hX dX7_sumOf_0 (by decide) ?_
  refine aw_istore_n (ls' := [(3, .int (0 : Int32)), (0, .ref t), (1, .ref a1), (2, .int v2)]) (pc := 1) hX dX7_sumOf_1 rfl (by decide) rfl ?_
  refine aw_iconst (v := (0 : Int32)) (pc := 2) hX dX7_sumOf_2 (by decide) ?_
  refine aw_istore (ls' := [(4, .int (0 : Int32)), (3, .int (0 : Int32)), (0, .ref t), (1, .ref a1), (2, .int v2)]) (pc := 3) hX dX7_sumOf_3 (by decide) rfl ?_
  refine aw_sub (ls' := [(0, .ref t), (1, .ref a1), (2, .int v2), (3, .int (0 : Int32)), (4, .int (0 : Int32))]) [2, 3, 4, 1, 0] rfl ?_
  exact c_X7_sumOf_5 hX hQ ht ha1 FU v2 (0 : Int32) (0 : Int32) S h

def f_X7_take_136 (t : Nat) (t1 : Nat) : Nat → Int32 → Mem → Option Mem
  | 0, _, _ => none
  | n + 1, v2, S =>
  if (3 : Int32) ≤ v2 then
  (some S)
  else
  (if inb v2 3 = true then
  (if inb v2 3 = true then
  ((f_X1_take (t + 13 + 3 * (v2).toNatClampNeg) (t1 + 13 + 3 * (v2).toNatClampNeg) S).bind fun S153 =>
  f_X7_take_136 t t1 n (v2 + 1) S153)
  else none)
  else none)

def f_X7_take (t : Nat) (t1 : Nat) (S : Mem) : Option Mem :=
  nxt (sI S t 0 (S.1 t1 0)) fun S5 =>
  nxt (sI S5 t 1 (S5.1 t1 1)) fun S13 =>
  nxt (sI S13 t 2 (S13.1 t1 2)) fun S21 =>
  (f_X9_copy (t1 + 1) 6 (t + 1) 6 S21).bind fun S32 =>
  (f_X9_copy (t1 + 2) 6 (t + 2) 6 S32).bind fun S43 =>
  (f_X9_copy (t1 + 3) 6 (t + 3) 6 S43).bind fun S54 =>
  (f_X9_copy (t1 + 4) 10 (t + 4) 10 S54).bind fun S65 =>
  (f_X9_copy (t1 + 5) 10 (t + 5) 10 S65).bind fun S76 =>
  (f_X9_copy (t1 + 6) 10 (t + 6) 10 S76).bind fun S87 =>
  (f_X9_copy (t1 + 7) 10 (t + 7) 10 S87).bind fun S98 =>
  (f_X9_copy (t1 + 8) 10 (t + 8) 10 S98).bind fun S109 =>
  (f_X9_copy (t1 + 9) 2 (t + 9) 2 S109).bind fun S120 =>
  (f_X9_copy (t1 + 10) 4 (t + 10) 4 S120).bind fun S131 =>
  f_X7_take_136 t t1 FU (0 : Int32) S131

set_option maxHeartbeats 4000000 in
set_option maxRecDepth 100000 in
theorem c_X7_take_136 {X : XT} {loc : Nat → Nat} {sk : Skel} {t : Nat} {t1 : Nat} {Sf : Mem} (hX : AC X loc RX7 cX7_take none 3 1 0 0) (hQ : RetV X sk loc 0 0 Sf) (ht : IsT sk t) (ht1 : IsT sk t1) : ∀ (n : Nat) (v2 : Int32) (S : Mem), f_X7_take_136 t t1 n v2 S = some Sf → AW X sk loc 0 0 136 [(0, .ref t), (1, .ref t1), (2, .int v2)] [] S := by
  intro n
  induction n with
  | zero => intro v2 S h; cases h
  | succ n ih =>
    intro v2 S h
    unfold f_X7_take_136 at h
    refine aw_iload_n (pc := 136) hX dX7_take_136 rfl 2 rfl ?_
    refine aw_iconst (v := (3 : Int32)) (pc := 137) hX dX7_take_137 (by decide) ?_
    refine aw_icmp_ge (pc := 138) hX (tgt := 162) dX7_take_138 (by decide) (fun c138 => ?_) (fun c138 => ?_)
    · rw [if_pos c138] at h
      cases h
      exact aw_vret hX hQ dX7_take_162
    · rw [if_neg c138] at h
      refine aw_aload_n (pc := 141) hX dX7_take_141 rfl 0 rfl ?_
      refine gf_X7_58 (pc := 142) hX ht.1 rfl dX7_take_142 ?_
      refine aw_iload_n (pc := 145) hX dX7_take_145 rfl 2 rfl ?_
      by_cases hi146 : inb v2 3 = true
      · rw [if_pos hi146] at h
        refine aw_aald (pc := 146) hX ht.2.2.2.2.2.2.2.2.2.2.2.2.1 hi146 (laws_at hi146) dX7_take_146 ?_
        refine aw_aload_n (pc := 147) hX dX7_take_147 rfl 1 rfl ?_
        refine gf_X7_58 (pc := 148) hX ht1.1 rfl dX7_take_148 ?_
        refine aw_iload_n (pc := 151) hX dX7_take_151 rfl 2 rfl ?_
        by_cases hi152 : inb v2 3 = true
        · rw [if_pos hi152] at h
          refine aw_aald (pc := 152) hX ht1.2.2.2.2.2.2.2.2.2.2.2.2.1 hi152 (laws_at hi152) dX7_take_152 ?_
          obtain ⟨S153, hr153, h⟩ := ob h
          refine aw_cVV (pc := 153) (As := [.ref (t1 + 13 + 3 * (v2).toNatClampNeg)]) (rest := []) hX (c_X1_take (sk := sk) (IsT.law ht hi146) (IsT.law ht1 hi152) hr153) ok_X1_take kw_3_137 im_X1_take se_X1_take rfl ((IsT.law ht hi146)).1 rfl (by decide) (Nat.le_of_ble_eq_true rfl) rfl dX7_take_153 (Nat.le_refl 0) (Nat.le_refl 0) ?_
          refine aw_iinc (v := (v2 + 1)) (ls' := [(2, .int (v2 + 1)), (0, .ref t), (1, .ref t1)]) (pc := 156) hX dX7_take_156 (pos := 2) rfl (by first | rfl | decide) (by decide) rfl ?_
          refine aw_goto (tgt := 136) (pc := 159) hX dX7_take_159 (by decide) ?_
          refine aw_sub (ls' := [(0, .ref t), (1, .ref t1), (2, .int (v2 + 1))]) [1, 2, 0] rfl ?_
          exact ih (v2 + 1) S153 h
        · rw [if_neg hi152] at h
          cases h
      · rw [if_neg hi146] at h
        cases h

set_option maxHeartbeats 4000000 in
set_option maxRecDepth 100000 in
theorem c_X7_take {sk : Skel} {t : Nat} {t1 : Nat} {S : Mem} {Sf : Mem} (ht : IsT sk t) (ht1 : IsT sk t1) (h : f_X7_take t t1 S = some Sf) : MetV yX7_take cX7_take 3 none 1 [.ref t, .ref t1] sk S Sf := by
  refine MetV.intro (by decide +kernel) (Nat.le_of_ble_eq_true rfl) (fun X loc hX hQ => ?_)
  unfold f_X7_take at h
  show AW X sk loc 0 0 0 [(0, .ref t), (1, .ref t1)] [] S
  refine aw_aload_n (pc := 0) hX dX7_take_0 rfl 0 rfl ?_
  refine aw_aload_n (pc := 1) hX dX7_take_1 rfl 1 rfl ?_
  refine gf_X7_9 (pc := 2) hX ht1.1 rfl dX7_take_2 ?_
  refine pf_X7_9 (pc := 5) hX ht.1 rfl dX7_take_5 ?_
  obtain ⟨S5, eS5, h⟩ := on h
  refine aw_S eS5 ?_
  refine aw_aload_n (pc := 8) hX dX7_take_8 rfl 0 rfl ?_
  refine aw_aload_n (pc := 9) hX dX7_take_9 rfl 1 rfl ?_
  refine gf_X7_15 (pc := 10) hX ht1.1 rfl dX7_take_10 ?_
  refine pf_X7_15 (pc := 13) hX ht.1 rfl dX7_take_13 ?_
  obtain ⟨S13, eS13, h⟩ := on h
  refine aw_S eS13 ?_
  refine aw_aload_n (pc := 16) hX dX7_take_16 rfl 0 rfl ?_
  refine aw_aload_n (pc := 17) hX dX7_take_17 rfl 1 rfl ?_
  refine gf_X7_18 (pc := 18) hX ht1.1 rfl dX7_take_18 ?_
  refine pf_X7_18 (pc := 21) hX ht.1 rfl dX7_take_21 ?_
  obtain ⟨S21, eS21, h⟩ := on h
  refine aw_S eS21 ?_
  refine aw_aload_n (pc := 24) hX dX7_take_24 rfl 1 rfl ?_
  refine gf_X7_21 (pc := 25) hX ht1.1 rfl dX7_take_25 ?_
  refine aw_aload_n (pc := 28) hX dX7_take_28 rfl 0 rfl ?_
  refine gf_X7_21 (pc := 29) hX ht.1 rfl dX7_take_29 ?_
  obtain ⟨S32, hr32, h⟩ := ob h
  refine aw_cSNV (pc := 32) (host := "DollTruce") (As := [.ref (t1 + 1), .ref (t + 1)]) (rest := []) hX (c_X9_copy (sk := sk) ht1.2.1 ht.2.1 hr32) ok_X9_copy (by decide) st_X9_copy rfl (by decide) (Nat.le_of_ble_eq_true rfl) rfl dX7_take_32 (Nat.le_refl 0) (Nat.le_refl 0) ?_
  refine aw_aload_n (pc := 35) hX dX7_take_35 rfl 1 rfl ?_
  refine gf_X7_25 (pc := 36) hX ht1.1 rfl dX7_take_36 ?_
  refine aw_aload_n (pc := 39) hX dX7_take_39 rfl 0 rfl ?_
  refine gf_X7_25 (pc := 40) hX ht.1 rfl dX7_take_40 ?_
  obtain ⟨S43, hr43, h⟩ := ob h
  refine aw_cSNV (pc := 43) (host := "DollTruce") (As := [.ref (t1 + 2), .ref (t + 2)]) (rest := []) hX (c_X9_copy (sk := sk) ht1.2.2.1 ht.2.2.1 hr43) ok_X9_copy (by decide) st_X9_copy rfl (by decide) (Nat.le_of_ble_eq_true rfl) rfl dX7_take_43 (Nat.le_refl 0) (Nat.le_refl 0) ?_
  refine aw_aload_n (pc := 46) hX dX7_take_46 rfl 1 rfl ?_
  refine gf_X7_28 (pc := 47) hX ht1.1 rfl dX7_take_47 ?_
  refine aw_aload_n (pc := 50) hX dX7_take_50 rfl 0 rfl ?_
  refine gf_X7_28 (pc := 51) hX ht.1 rfl dX7_take_51 ?_
  obtain ⟨S54, hr54, h⟩ := ob h
  refine aw_cSNV (pc := 54) (host := "DollTruce") (As := [.ref (t1 + 3), .ref (t + 3)]) (rest := []) hX (c_X9_copy (sk := sk) ht1.2.2.2.1 ht.2.2.2.1 hr54) ok_X9_copy (by decide) st_X9_copy rfl (by decide) (Nat.le_of_ble_eq_true rfl) rfl dX7_take_54 (Nat.le_refl 0) (Nat.le_refl 0) ?_
  refine aw_aload_n (pc := 57) hX dX7_take_57 rfl 1 rfl ?_
  refine gf_X7_31 (pc := 58) hX ht1.1 rfl dX7_take_58 ?_
  refine aw_aload_n (pc := 61) hX dX7_take_61 rfl 0 rfl ?_
  refine gf_X7_31 (pc := 62) hX ht.1 rfl dX7_take_62 ?_
  obtain ⟨S65, hr65, h⟩ := ob h
  refine aw_cSNV (pc := 65) (host := "DollTruce") (As := [.ref (t1 + 4), .ref (t + 4)]) (rest := []) hX (c_X9_copy (sk := sk) ht1.2.2.2.2.1 ht.2.2.2.2.1 hr65) ok_X9_copy (by decide) st_X9_copy rfl (by decide) (Nat.le_of_ble_eq_true rfl) rfl dX7_take_65 (Nat.le_refl 0) (Nat.le_refl 0) ?_
  refine aw_aload_n (pc := 68) hX dX7_take_68 rfl 1 rfl ?_
  refine gf_X7_34 (pc := 69) hX ht1.1 rfl dX7_take_69 ?_
  refine aw_aload_n (pc := 72) hX dX7_take_72 rfl 0 rfl ?_
  refine gf_X7_34 (pc := 73) hX ht.1 rfl dX7_take_73 ?_
  obtain ⟨S76, hr76, h⟩ := ob h
  refine aw_cSNV (pc := 76) (host := "DollTruce") (As := [.ref (t1 + 5), .ref (t + 5)]) (rest := []) hX (c_X9_copy (sk := sk) ht1.2.2.2.2.2.1 ht.2.2.2.2.2.1 hr76) ok_X9_copy (by decide) st_X9_copy rfl (by decide) (Nat.le_of_ble_eq_true rfl) rfl dX7_take_76 (Nat.le_refl 0) (Nat.le_refl 0) ?_
  refine aw_aload_n (pc := 79) hX dX7_take_79 rfl 1 rfl ?_
  refine gf_X7_37 (pc := 80) hX ht1.1 rfl dX7_take_80 ?_
  refine aw_aload_n (pc := 83) hX dX7_take_83 rfl 0 rfl ?_
  refine gf_X7_37 (pc := 84) hX ht.1 rfl dX7_take_84 ?_
  obtain ⟨S87, hr87, h⟩ := ob h
  refine aw_cSNV (pc := 87) (host := "DollTruce") (As := [.ref (t1 + 6), .ref (t + 6)]) (rest := []) hX (c_X9_copy (sk := sk) ht1.2.2.2.2.2.2.1 ht.2.2.2.2.2.2.1 hr87) ok_X9_copy (by decide) st_X9_copy rfl (by decide) (Nat.le_of_ble_eq_true rfl) rfl dX7_take_87 (Nat.le_refl 0) (Nat.le_refl 0) ?_
  refine aw_aload_n (pc := 90) hX dX7_take_90 rfl 1 rfl ?_
  refine gf_X7_40 (pc := 91) hX ht1.1 rfl dX7_take_91 ?_
  refine aw_aload_n (pc := 94) hX dX7_take_94 rfl 0 rfl ?_
  refine gf_X7_40 (pc := 95) hX ht.1 rfl dX7_take_95 ?_
  obtain ⟨S98, hr98, h⟩ := ob h
  refine aw_cSNV (pc := 98) (host := "DollTruce") (As := [.ref (t1 + 7), .ref (t + 7)]) (rest := []) hX (c_X9_copy (sk := sk) ht1.2.2.2.2.2.2.2.1 ht.2.2.2.2.2.2.2.1 hr98) ok_X9_copy (by decide) st_X9_copy rfl (by decide) (Nat.le_of_ble_eq_true rfl) rfl dX7_take_98 (Nat.le_refl 0) (Nat.le_refl 0) ?_
  refine aw_aload_n (pc := 101) hX dX7_take_101 rfl 1 rfl ?_
  refine gf_X7_43 (pc := 102) hX ht1.1 rfl dX7_take_102 ?_
  refine aw_aload_n (pc := 105) hX dX7_take_105 rfl 0 rfl ?_
  refine gf_X7_43 (pc := 106) hX ht.1 rfl dX7_take_106 ?_
  obtain ⟨S109, hr109, h⟩ := ob h
  refine aw_cSNV (pc := 109) (host := "DollTruce") (As := [.ref (t1 + 8), .ref (t + 8)]) (rest := []) hX (c_X9_copy (sk := sk) ht1.2.2.2.2.2.2.2.2.1 ht.2.2.2.2.2.2.2.2.1 hr109) ok_X9_copy (by decide) st_X9_copy rfl (by decide) (Nat.le_of_ble_eq_true rfl) rfl dX7_take_109 (Nat.le_refl 0) (Nat.le_refl 0) ?_
  refine aw_aload_n (pc := 112) hX dX7_take_112 rfl 1 rfl ?_
  refine gf_X7_46 (pc := 113) hX ht1.1 rfl dX7_take_113 ?_
  refine aw_aload_n (pc := 116) hX dX7_take_116 rfl 0 rfl ?_
  refine gf_X7_46 (pc := 117) hX ht.1 rfl dX7_take_117 ?_
  obtain ⟨S120, hr120, h⟩ := ob h
  refine aw_cSNV (pc := 120) (host := "DollTruce") (As := [.ref (t1 + 9), .ref (t + 9)]) (rest := []) hX (c_X9_copy (sk := sk) ht1.2.2.2.2.2.2.2.2.2.1 ht.2.2.2.2.2.2.2.2.2.1 hr120) ok_X9_copy (by decide) st_X9_copy rfl (by decide) (Nat.le_of_ble_eq_true rfl) rfl dX7_take_120 (Nat.le_refl 0) (Nat.le_refl 0) ?_
  refine aw_aload_n (pc := 123) hX dX7_take_123 rfl 1 rfl ?_
  refine gf_X7_49 (pc := 124) hX ht1.1 rfl dX7_take_124 ?_
  refine aw_aload_n (pc := 127) hX dX7_take_127 rfl 0 rfl ?_
  refine gf_X7_49 (pc := 128) hX ht.1 rfl dX7_take_128 ?_
  obtain ⟨S131, hr131, h⟩ := ob h
  refine aw_cSNV (pc := 131) (host := "DollTruce") (As := [.ref (t1 + 10), .ref (t + 10)]) (rest := []) hX (c_X9_copy (sk := sk) ht1.2.2.2.2.2.2.2.2.2.2.1 ht.2.2.2.2.2.2.2.2.2.2.1 hr131) ok_X9_copy (by decide) st_X9_copy rfl (by decide) (Nat.le_of_ble_eq_true rfl) rfl dX7_take_131 (Nat.le_refl 0) (Nat.le_refl 0) ?_
  refine aw_iconst (v := (0 : Int32)) (pc := 134) hX dX7_take_134 (by decide) ?_
  refine aw_istore_n (ls' := [(2, .int (0 : Int32)), (0, .ref t), (1, .ref t1)]) (pc := 135) hX dX7_take_135 rfl (by decide) rfl ?_
  refine aw_sub (ls' := [(0, .ref t), (1, .ref t1), (2, .int (0 : Int32))]) [1, 2, 0] rfl ?_
  exact c_X7_take_136 hX hQ ht ht1 FU (0 : Int32) S131 h

