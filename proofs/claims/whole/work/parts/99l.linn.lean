/-! PURE 61: the text: names; a nurse's line -/
section LINN
variable {C C' M M' S S' : Mem} {b : Nat → Nat} {n m i kn ln f w s : Nat} {N : TN} {T : WS} {L : LWS} {mk : Nat → Bool}
theorem pl_neg {g : Nat → Int32} {k : Nat} {x r : Int32} (h : isPl g k x r) (hk : k ≤ 100) : (r < 0 ↔ ∀ j, j < k → g j ≠ x) ∧ (r = -1 ↔ ∀ j, j < k → g j ≠ x) := by
  rcases h with ⟨j, a, b, c, rfl⟩ | ⟨a, rfl⟩
  · have n1 : ¬ nI j < 0 := Int32.not_lt.mpr (nI_le (a := 0) (by omega) (by omega))
    exact ⟨⟨fun e => absurd e n1, fun e => absurd b (e j a)⟩, ⟨fun e => absurd (by rw [e]; decide) n1, fun e => absurd b (e j a)⟩⟩
  · exact ⟨⟨fun _ => a, fun _ => by decide⟩, ⟨fun _ => a, fun _ => rfl⟩⟩
def nmN (g : Nat → Int32) (k : Nat) (x : Int32) : Prop := ∀ j, j < k → g j ≠ x
/-- a new name asked for: the class -/
theorem newN_C (hb2 : ∀ i, i < n → b i < 256) (hn : n ≤ 700) (ht : tkC C b n m) (h5 : C.1 3 5 = nI i) (hi : i ≤ m) {a n1 k : Nat} (hk : k < n1) (hn1 : n1 ≤ 100) (ha : a ≠ 3) :
    ((tK b n i = 3 ∧ nmN (C.1 a) k (nI (tV b n i))) → i < m ∧ f_X4_readNewName a n1 (nI k) C = some (1, sI (sI C a k (nI (tV b n i))) 3 5 (nI (i + 1)))) ∧
    (¬ (tK b n i = 3 ∧ nmN (C.1 a) k (nI (tV b n i))) → ∀ C1 C3, f_X4_wrong 1 C = some (0, C1) → f_X4_wrong 3 C = some (0, C3) → f_X4_readNewName a n1 (nI k) C = some (0, if tK b n i = 3 then C3 else C1)) := by
  have hkd := tK_b hb2 i
  have e1 : f_X4_kind C = some (nI (tK b n i), C) := kindR_C ht hn h5 hi
  unfold f_X4_readNewName
  rw [e1, bnd_some]
  by_cases z : tK b n i = 3
  · have him := lt_m ht hi (by show tK b n i ≠ 0; omega)
    have e2 : f_X4_value C = some (nI (tV b n i), C) := valR_C ht hn h5 him
    obtain ⟨⟨r, S1⟩, q1, q2, q3⟩ := place_C (S := C) (a := a) (m := n1) (n := k) (by omega) hn1 (nI (tV b n i))
    have q3 : S1 = C := q3
    subst q3
    obtain ⟨p1, p2⟩ := pl_neg q2 (by omega)
    rw [z, if_pos (show nI 3 = (3 : Int32) from rfl), e2, bnd_some, q1, bnd_some]
    refine ⟨fun hN => ⟨him, ?_⟩, fun hN C1 C3 w1 w3 => ?_⟩
    · rw [if_pos (p1.mpr hN.2), e2, bnd_some, wrN hk (by omega), Option.bind_some, nxt_eq, sI1, if_neg (by omega), h5, nI_1]
    · rw [if_neg (fun q => hN ⟨rfl, p1.mp q⟩), bw w3 o0, if_pos rfl]
  · rw [if_neg (show ¬ nI (tK b n i) = 3 from fun e => z ((nI_eq (b := 3) (by omega) (by omega)).mp e))]
    exact ⟨fun hN => absurd hN.1 z, fun hN C1 C3 w1 w3 => by rw [bw w1 o0, if_neg z]⟩
/-- a new name asked for: the reference -/
theorem newN_M (hb2 : ∀ i, i < n → b i < 256) (hn : n ≤ 700) (ht : tkA M b n i) (h22 : M.1 0 22 = 0) {a n1 o k : Nat} (hk : o + k ≤ n1) (hn1 : n1 ≤ 100) :
    ((tK b n i = 3 ∧ nmN (fun j => M.1 a (o + j)) k (nI (tV b n i))) → ∃ M', f_X10_fresh a n1 (nI o) (nI k) M = some (nI (tV b n i), M') ∧ tkA M' b n (i + 1) ∧ frQ M M') ∧
    (¬ (tK b n i = 3 ∧ nmN (fun j => M.1 a (o + j)) k (nI (tV b n i))) → ∀ M1 M3, f_X10_wrong 1 M = some M1 → f_X10_wrong 3 M = some M3 → M1.1 0 22 ≠ 0 → M3.1 0 22 ≠ 0 → f_X10_fresh a n1 (nI o) (nI k) M = some (0, if tK b n i = 3 then M3 else M1)) := by
  have idle : ∀ Q : Mem, Q.1 0 22 ≠ 0 → f_X10_fresh_44 a n1 Q = some (0, Q) := by
    intro Q hQ
    unfold f_X10_fresh_44
    rw [if_neg hQ]
  unfold f_X10_fresh
  rw [if_pos h22]
  by_cases z : tK b n i = 3
  · have hv : M.1 0 21 = nI (tV b n i) := (ht.2.2.2.2.2.2.1 z).2
    obtain ⟨⟨r, S1⟩, q1, q2, q3⟩ := found_M (S := M) (a := a) (m := n1) (n := k) (o := o) (by omega) hn1 (nI (tV b n i))
    have q3 : S1 = M := q3
    subst q3
    obtain ⟨p1, p2⟩ := pl_neg q2 (by omega)
    rw [if_pos ((sort_M ht).2.2.2.1.mpr z), hv, q1, bnd_some]
    refine ⟨fun hN => ?_, fun hN M1 M3 w1 w3 g1 g3 => ?_⟩
    · rw [if_pos (p2.mpr hN.2)]
      unfold f_X10_fresh_44
      obtain ⟨M', t1, t2, t3⟩ := step_M ht hb2 hn
      rw [if_pos h22, t1, Option.bind_some, hv]
      exact ⟨M', rfl, t2, t3⟩
    · rw [if_neg (fun q => hN ⟨z, p2.mp q⟩), w3, Option.bind_some, idle M3 g3, if_pos z]
  · rw [if_neg (fun q => z ((sort_M ht).2.2.2.1.mp q))]
    exact ⟨fun hN => absurd hN.1 z, fun hN M1 M3 w1 w3 g1 g3 => by rw [w1, Option.bind_some, idle M1 g1, if_neg z]⟩
theorem numeral_i {lo hi : Int32} (h : M.1 0 22 ≠ 0) : f_X10_numeral lo hi M = some (lo, M) := by
  unfold f_X10_numeral
  rw [if_neg h]
def NnU (N : TN) (s c : Nat) : TN := fun r i => if r = 0 ∧ i = 0 then N 0 0 + 1 else if r = 2 ∧ i = N 0 0 then s else if r = 3 ∧ i = N 0 0 then c else N r i
theorem NnU_ow {s c d : Nat} (hI : TI N T L) (hd : d < N 0 1) : ow (NnU N s c) d = ow N d := by
  have := (hI.2.2.2.1 d hd).1
  have n5 : NnU N s c 5 d = N 5 d := by unfold NnU; rw [if_neg (by omega), if_neg (by omega), if_neg (by omega)]
  have n2 : NnU N s c 2 (N 5 d) = N 2 (N 5 d) := by unfold NnU; rw [if_neg (by omega), if_neg (by omega), if_neg (by omega)]
  unfold ow
  rw [n5, n2]
theorem TC_nurse {s c : Nat} {v : Int32} (h : TC (shC C) N T L) (hI : TI N T L) (e : ∀ c j, 8 ≤ c → c ≤ 29 → ¬ (c = 8 ∧ j = 0) → ¬ ((c = 9 ∨ c = 10 ∨ c = 11) ∧ j = N 0 0) → C'.1 c j = C.1 c j)
    (e0 : C'.1 8 0 = nI (N 0 0 + 1)) (e9 : C'.1 9 (N 0 0) = v) (e10 : C'.1 10 (N 0 0) = nI s) (e11 : C'.1 11 (N 0 0) = nI c) : TC (shC C') (NnU N s c) (wu T 1 (N 0 0) v) L := by
  obtain ⟨d1, d2, d3, d4, d5, d6, d7, d8⟩ := h
  have ee : ∀ c j, 31 ≤ c → c < 53 → ¬ (c = 31 ∧ j = 0) → ¬ ((c = 32 ∨ c = 33 ∨ c = 34) ∧ j = N 0 0) → (shC C').1 c j = (shC C).1 c j := fun c j a1 a2 a3 a4 => e (c - 23) j (by omega) (by omega) (by omega) (by omega)
  have n0 : NnU N s c 0 0 = N 0 0 + 1 := by unfold NnU; rw [if_pos ⟨rfl, rfl⟩]
  have n1 : NnU N s c 0 1 = N 0 1 := by unfold NnU; rw [if_neg (by omega), if_neg (by omega), if_neg (by omega)]
  have n5 : ∀ d, NnU N s c 5 d = N 5 d := fun d => by unfold NnU; rw [if_neg (by omega), if_neg (by omega), if_neg (by omega)]
  have t : ∀ r j, r ≠ 1 → wu T 1 (N 0 0) v r j = T r j := fun r j hr => by rw [wu1, if_neg (by omega)]
  refine ⟨by rw [n0]; exact e0, by rw [n1, ee _ _ (by omega) (by omega) (by omega) (by omega)]; exact d2, by rw [t _ _ (by omega), ee _ _ (by omega) (by omega) (by omega) (by omega)]; exact d3, fun j hj => ?_, fun d hd => ?_, fun k hk x => ?_, fun j hj => ?_, fun k hk => ?_⟩
  · rw [n0] at hj
    by_cases z : j = N 0 0
    · subst z
      refine ⟨?_, ?_, ?_⟩
      · rw [wu1, if_pos ⟨rfl, rfl⟩]; exact e9
      · rw [show NnU N s c 2 (N 0 0) = s from by unfold NnU; rw [if_neg (by omega), if_pos ⟨rfl, rfl⟩]]; exact e10
      · rw [show NnU N s c 3 (N 0 0) = c from by unfold NnU; rw [if_neg (by omega), if_neg (by omega), if_pos ⟨rfl, rfl⟩]]; exact e11
    · rw [ee _ _ (by omega) (by omega) (by omega) (by omega), ee _ _ (by omega) (by omega) (by omega) (by omega), ee _ _ (by omega) (by omega) (by omega) (by omega), wu1, if_neg (by omega), show NnU N s c 2 j = N 2 j from by unfold NnU; rw [if_neg (by omega), if_neg (by omega), if_neg (by omega)], show NnU N s c 3 j = N 3 j from by unfold NnU; rw [if_neg (by omega), if_neg (by omega), if_neg (by omega)]]
      exact d4 j (by omega)
  · rw [n1] at hd
    rw [ee _ _ (by omega) (by omega) (by omega) (by omega), ee _ _ (by omega) (by omega) (by omega) (by omega), ee _ _ (by omega) (by omega) (by omega) (by omega), ee _ _ (by omega) (by omega) (by omega) (by omega), ee _ _ (by omega) (by omega) (by omega) (by omega), t _ _ (by omega), t _ _ (by omega), t _ _ (by omega), n5, NnU_ow hI hd]
    exact d5 d hd
  · rw [ee _ _ (by omega) (by omega) (by omega) (by omega), d6 k hk x, n1]
    exact and_congr_right (fun hx => by rw [NnU_ow hI hx])
  · rw [ee _ _ (by omega) (by omega) (by omega) (by omega), t _ _ (by omega)]; exact d7 j hj
  · refine ⟨fun hL => ?_, fun l hL => ?_⟩
    · rw [ee _ _ (by omega) (by omega) (by omega) (by omega)]; exact (d8 k hk).1 hL
    · obtain ⟨x1, x2, x3⟩ := (d8 k hk).2 l hL
      refine ⟨by rw [ee _ _ (by omega) (by omega) (by omega) (by omega)]; exact x1, by rw [ee _ _ (by omega) (by omega) (by omega) (by omega)]; exact x2, fun j hj => ?_⟩
      rw [ee _ _ (by omega) (by omega) (by omega) (by omega)]; exact x3 j hj
theorem TM_nurse {s c : Nat} {v : Int32} (h : TM (shM M) N T L) (e : ∀ c j, 2 ≤ c → c ≤ 13 → ¬ (c = 2 ∧ j = 7) → ¬ ((c = 3 ∨ c = 4 ∨ c = 5) ∧ j = 6 + N 0 0) → M'.1 c j = M.1 c j)
    (e0 : M'.1 2 7 = nI (N 0 0 + 1)) (e9 : M'.1 3 (6 + N 0 0) = v) (e10 : M'.1 4 (6 + N 0 0) = nI s) (e11 : M'.1 5 (6 + N 0 0) = nI c) : TM (shM M') (NnU N s c) (wu T 1 (N 0 0) v) L := by
  obtain ⟨d1, d2, d3, d4, d5, d6, d7⟩ := h
  have ee : ∀ c j, 2 ≤ c → c ≤ 13 → ¬ (c = 2 ∧ j = 0) → ¬ ((c = 3 ∨ c = 4 ∨ c = 5) ∧ j = N 0 0) → (shM M').1 c j = (shM M).1 c j := by
    intro c j a1 a2 a3 a4
    show M'.1 c (shI c j) = M.1 c (shI c j)
    refine e c _ a1 a2 ?_ ?_
    · unfold shI; split <;> omega
    · unfold shI; repeat' split
      all_goals omega
  have n0 : NnU N s c 0 0 = N 0 0 + 1 := by unfold NnU; rw [if_pos ⟨rfl, rfl⟩]
  have n1 : NnU N s c 0 1 = N 0 1 := by unfold NnU; rw [if_neg (by omega), if_neg (by omega), if_neg (by omega)]
  have n5 : ∀ d, NnU N s c 5 d = N 5 d := fun d => by unfold NnU; rw [if_neg (by omega), if_neg (by omega), if_neg (by omega)]
  have t : ∀ r j, r ≠ 1 → wu T 1 (N 0 0) v r j = T r j := fun r j hr => by rw [wu1, if_neg (by omega)]
  refine ⟨by rw [n0]; exact e0, by rw [n1, ee _ _ (by omega) (by omega) (by omega) (by omega)]; exact d2, by rw [t _ _ (by omega), ee _ _ (by omega) (by omega) (by omega) (by omega)]; exact d3, fun j hj => ?_, fun d hd => ?_, fun j hj => ?_, fun k hk => ⟨fun hL => ?_, fun l hL => ?_⟩⟩
  · rw [n0] at hj
    by_cases z : j = N 0 0
    · subst z
      refine ⟨?_, ?_, ?_⟩
      · rw [wu1, if_pos ⟨rfl, rfl⟩]; exact e9
      · rw [show NnU N s c 2 (N 0 0) = s from by unfold NnU; rw [if_neg (by omega), if_pos ⟨rfl, rfl⟩]]; exact e10
      · rw [show NnU N s c 3 (N 0 0) = c from by unfold NnU; rw [if_neg (by omega), if_neg (by omega), if_pos ⟨rfl, rfl⟩]]; exact e11
    · rw [ee _ _ (by omega) (by omega) (by omega) (by omega), ee _ _ (by omega) (by omega) (by omega) (by omega), ee _ _ (by omega) (by omega) (by omega) (by omega), wu1, if_neg (by omega), show NnU N s c 2 j = N 2 j from by unfold NnU; rw [if_neg (by omega), if_neg (by omega), if_neg (by omega)], show NnU N s c 3 j = N 3 j from by unfold NnU; rw [if_neg (by omega), if_neg (by omega), if_neg (by omega)]]
      exact d4 j (by omega)
  · rw [n1] at hd
    rw [ee _ _ (by omega) (by omega) (by omega) (by omega), ee _ _ (by omega) (by omega) (by omega) (by omega), ee _ _ (by omega) (by omega) (by omega) (by omega), ee _ _ (by omega) (by omega) (by omega) (by omega), t _ _ (by omega), t _ _ (by omega), t _ _ (by omega), n5]
    exact d5 d hd
  · rw [ee _ _ (by omega) (by omega) (by omega) (by omega), t _ _ (by omega)]; exact d6 j hj
  · rw [ee _ _ (by omega) (by omega) (by omega) (by omega), ee _ _ (by omega) (by omega) (by omega) (by omega)]; exact (d7 k hk).1 hL
  · obtain ⟨a, x1, x2, x3, x4⟩ := (d7 k hk).2 l hL
    refine ⟨a, by rw [ee _ _ (by omega) (by omega) (by omega) (by omega)]; exact x1, by rw [ee _ _ (by omega) (by omega) (by omega) (by omega)]; exact x2, x3, fun j hj => ?_⟩
    rw [ee _ _ (by omega) (by omega) (by omega) (by omega), ee _ _ (by omega) (by omega) (by omega) (by omega)]; exact x4 j hj
theorem RSp_nurse {s c : Nat} {v : Int32} (h : RSp N T L kn) (h6 : N 0 0 < 6) (hs : s ≤ 1) (hc : c ≤ 9) : RSp (NnU N s c) (wu T 1 (N 0 0) v) L kn := by
  obtain ⟨⟨t1, t2, t3, t4, t5, t6, t7, t8, t9⟩, p1, p2⟩ := h
  have n0 : NnU N s c 0 0 = N 0 0 + 1 := by unfold NnU; rw [if_pos ⟨rfl, rfl⟩]
  have n1 : NnU N s c 0 1 = N 0 1 := by unfold NnU; rw [if_neg (by omega), if_neg (by omega), if_neg (by omega)]
  have n5 : ∀ d, NnU N s c 5 d = N 5 d := fun d => by unfold NnU; rw [if_neg (by omega), if_neg (by omega), if_neg (by omega)]
  have t : ∀ r j, r ≠ 1 → wu T 1 (N 0 0) v r j = T r j := fun r j hr => by rw [wu1, if_neg (by omega)]
  refine ⟨⟨by omega, by omega, fun j hj => ?_, fun d hd => ?_, by rw [t _ _ (by omega)]; exact t5, by rw [t _ _ (by omega)]; exact t6, by rw [t _ _ (by omega)]; exact t7, by rw [t _ _ (by omega)]; exact t8, t9⟩, by rw [t _ _ (by omega)]; exact p1, p2⟩
  · rw [n0] at hj
    by_cases z : j = N 0 0
    · subst z
      rw [show NnU N s c 2 (N 0 0) = s from by unfold NnU; rw [if_neg (by omega), if_pos ⟨rfl, rfl⟩], show NnU N s c 3 (N 0 0) = c from by unfold NnU; rw [if_neg (by omega), if_neg (by omega), if_pos ⟨rfl, rfl⟩]]
      exact ⟨hs, hc⟩
    · rw [show NnU N s c 2 j = N 2 j from by unfold NnU; rw [if_neg (by omega), if_neg (by omega), if_neg (by omega)], show NnU N s c 3 j = N 3 j from by unfold NnU; rw [if_neg (by omega), if_neg (by omega), if_neg (by omega)]]
      exact t3 j (by omega)
  · rw [n1] at hd
    rw [n5, n0, t _ _ (by omega), t _ _ (by omega)]
    obtain ⟨a1, a2⟩ := t4 d hd
    exact ⟨by omega, a2⟩
end LINN
