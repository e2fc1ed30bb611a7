/-! PURE 63: the text: a doll's line: what is told -/
section LIND
variable {C C' M M' S S' : Mem} {b : Nat → Nat} {n m i kn ln f w s j : Nat} {N : TN} {T : WS} {L : LWS} {mk : Nat → Bool}
def NdU (N : TN) (j : Nat) : TN := fun r i => if r = 0 ∧ i = 1 then N 0 1 + 1 else if r = 5 ∧ i = N 0 1 then j else N r i
theorem NdU_o (h : ¬ (w = 0 ∧ s = 1)) (h2 : ¬ (w = 5 ∧ s = N 0 1)) : NdU N j w s = N w s := by unfold NdU; rw [if_neg h, if_neg h2]
theorem NdU_1 : NdU N j 0 1 = N 0 1 + 1 := by unfold NdU; rw [if_pos ⟨rfl, rfl⟩]
theorem NdU_5 : NdU N j 5 (N 0 1) = j := by unfold NdU; rw [if_neg (by omega), if_pos ⟨rfl, rfl⟩]
theorem NdU_ow {e : Nat} (he : e < N 0 1) : ow (NdU N j) e = ow N e := by
  unfold ow
  rw [NdU_o (w := 5) (by omega) (by omega), NdU_o (w := 2) (by omega) (by omega)]
theorem NdU_owd : ow (NdU N j) (N 0 1) = 1 - N 2 j := by
  unfold ow
  rw [NdU_5, NdU_o (w := 2) (by omega) (by omega)]
def TdU (N : TN) (T : WS) (nm lo wo : Int32) : WS := wu (wu (wu T 4 (N 0 1) nm) 6 (N 0 1) lo) 7 (N 0 1) wo
theorem TdU_o {nm lo wo : Int32} (h : ¬ ((w = 4 ∨ w = 6 ∨ w = 7) ∧ s = N 0 1)) : TdU N T nm lo wo w s = T w s := by
  unfold TdU
  rw [wu1, if_neg (by omega), wu1, if_neg (by omega), wu1, if_neg (by omega)]
theorem TdU_4 {nm lo wo : Int32} : TdU N T nm lo wo 4 (N 0 1) = nm := by unfold TdU; rw [wu1, if_neg (by omega), wu1, if_neg (by omega), wu1, if_pos ⟨rfl, rfl⟩]
theorem TdU_6 {nm lo wo : Int32} : TdU N T nm lo wo 6 (N 0 1) = lo := by unfold TdU; rw [wu1, if_neg (by omega), wu1, if_pos ⟨rfl, rfl⟩]
theorem TdU_7 {nm lo wo : Int32} : TdU N T nm lo wo 7 (N 0 1) = wo := by unfold TdU; rw [wu1, if_pos ⟨rfl, rfl⟩]
theorem TC_doll {nm lo wo : Int32} (h : TC (shC C) N T L) (hI : TI N T L) (h2 : N 2 j ≤ 1) (hd : N 0 1 < 10)
    (e : ∀ c j, 8 ≤ c → c ≤ 29 → ¬ (c = 8 ∧ j = 1) → ¬ ((12 ≤ c ∧ c ≤ 16) ∧ j = N 0 1) → c ≠ 17 → C'.1 c j = C.1 c j)
    (e1 : C'.1 8 1 = nI (N 0 1 + 1)) (e12 : C'.1 12 (N 0 1) = nm) (e13 : C'.1 13 (N 0 1) = nI j) (e14 : C'.1 14 (N 0 1) = nI (1 - N 2 j)) (e15 : C'.1 15 (N 0 1) = lo) (e16 : C'.1 16 (N 0 1) = wo)
    (e17 : C'.1 17 (1 - N 2 j) = C.1 17 (1 - N 2 j) ||| ((1 : Int32) <<< (nI (N 0 1) &&& 31))) (e17' : ∀ c, c ≠ 1 - N 2 j → C'.1 17 c = C.1 17 c) : TC (shC C') (NdU N j) (TdU N T nm lo wo) L := by
  obtain ⟨d1, d2, d3, d4, d5, d6, d7, d8⟩ := h
  have ee : ∀ c j, 31 ≤ c → c < 53 → ¬ (c = 31 ∧ j = 1) → ¬ ((35 ≤ c ∧ c ≤ 39) ∧ j = N 0 1) → c ≠ 40 → (shC C').1 c j = (shC C).1 c j := fun c j a1 a2 a3 a4 a5 => e (c - 23) j (by omega) (by omega) (by omega) (by omega) (by omega)
  refine ⟨?_, by rw [NdU_1]; exact e1, ?_, fun k hk => ?_, fun d hd => ?_, fun k hk x => ?_, fun k hk => ?_, fun k hk => ?_⟩
  · rw [NdU_o (by omega) (by omega), ee _ _ (by omega) (by omega) (by omega) (by omega) (by omega)]; exact d1
  · rw [TdU_o (by omega), ee _ _ (by omega) (by omega) (by omega) (by omega) (by omega)]; exact d3
  · rw [NdU_o (by omega) (by omega)] at hk
    rw [NdU_o (by omega) (by omega), NdU_o (by omega) (by omega), TdU_o (by omega), ee _ _ (by omega) (by omega) (by omega) (by omega) (by omega), ee _ _ (by omega) (by omega) (by omega) (by omega) (by omega), ee _ _ (by omega) (by omega) (by omega) (by omega) (by omega)]
    exact d4 k hk
  · rw [NdU_1] at hd
    by_cases z : d = N 0 1
    · subst z
      rw [TdU_4, TdU_6, TdU_7, NdU_5, NdU_owd]
      exact ⟨e12, e13, e14, e15, e16⟩
    · rw [NdU_ow (by omega), NdU_o (by omega) (by omega), TdU_o (by omega), TdU_o (by omega), TdU_o (by omega), ee _ _ (by omega) (by omega) (by omega) (by omega) (by omega), ee _ _ (by omega) (by omega) (by omega) (by omega) (by omega), ee _ _ (by omega) (by omega) (by omega) (by omega) (by omega), ee _ _ (by omega) (by omega) (by omega) (by omega) (by omega), ee _ _ (by omega) (by omega) (by omega) (by omega) (by omega)]
      exact d5 d (by omega)
  · rw [NdU_1]
    have d6' := d6 k hk x
    have d6' : bt (C.1 17 k) x = true ↔ x < N 0 1 ∧ ow N x = k := d6'
    show bt (C'.1 17 k) x = true ↔ _
    by_cases z : k = 1 - N 2 j
    · rw [z, e17, bt_or1 (by omega), Bool.or_eq_true, ← z, d6', decide_eq_true_eq]
      constructor
      · rintro (q | q)
        · exact ⟨by omega, by rw [NdU_ow q.1]; exact q.2⟩
        · rw [q, NdU_owd]; exact ⟨by omega, z.symm⟩
      · rintro ⟨q1, q2⟩
        by_cases y : x = N 0 1
        · exact Or.inr y
        · rw [NdU_ow (by omega)] at q2
          exact Or.inl ⟨by omega, q2⟩
    · rw [e17' k z, d6']
      constructor
      · intro q
        exact ⟨by omega, by rw [NdU_ow q.1]; exact q.2⟩
      · rintro ⟨q1, q2⟩
        by_cases y : x = N 0 1
        · rw [y, NdU_owd] at q2
          exact absurd q2.symm z
        · rw [NdU_ow (by omega)] at q2
          exact ⟨by omega, q2⟩
  · rw [TdU_o (by omega), ee _ _ (by omega) (by omega) (by omega) (by omega) (by omega)]; exact d7 k hk
  · refine ⟨fun hL => ?_, fun l hL => ?_⟩
    · rw [ee _ _ (by omega) (by omega) (by omega) (by omega) (by omega)]; exact (d8 k hk).1 hL
    · obtain ⟨x1, x2, x3⟩ := (d8 k hk).2 l hL
      refine ⟨by rw [ee _ _ (by omega) (by omega) (by omega) (by omega) (by omega)]; exact x1, by rw [ee _ _ (by omega) (by omega) (by omega) (by omega) (by omega)]; exact x2, fun q hq => ?_⟩
      rw [ee _ _ (by omega) (by omega) (by omega) (by omega) (by omega)]; exact x3 q hq
theorem TM_doll {nm lo wo : Int32} (h : TM (shM M) N T L) (e : ∀ c j, 2 ≤ c → c ≤ 13 → ¬ (c = 2 ∧ j = 8) → ¬ ((6 ≤ c ∧ c ≤ 9) ∧ j = 10 + N 0 1) → M'.1 c j = M.1 c j)
    (e1 : M'.1 2 8 = nI (N 0 1 + 1)) (e6 : M'.1 6 (10 + N 0 1) = nm) (e7 : M'.1 7 (10 + N 0 1) = nI j) (e8 : M'.1 8 (10 + N 0 1) = lo) (e9 : M'.1 9 (10 + N 0 1) = wo) : TM (shM M') (NdU N j) (TdU N T nm lo wo) L := by
  obtain ⟨d1, d2, d3, d4, d5, d6, d7⟩ := h
  have ee : ∀ c j, 2 ≤ c → c ≤ 13 → ¬ (c = 2 ∧ j = 1) → ¬ ((6 ≤ c ∧ c ≤ 9) ∧ j = N 0 1) → (shM M').1 c j = (shM M).1 c j := by
    intro c j a1 a2 a3 a4
    show M'.1 c (shI c j) = M.1 c (shI c j)
    refine e c _ a1 a2 ?_ ?_
    · unfold shI; split <;> omega
    · unfold shI; repeat' split
      all_goals omega
  refine ⟨?_, by rw [NdU_1]; exact e1, ?_, fun k hk => ?_, fun d hd => ?_, fun k hk => ?_, fun k hk => ⟨fun hL => ?_, fun l hL => ?_⟩⟩
  · rw [NdU_o (by omega) (by omega), ee _ _ (by omega) (by omega) (by omega) (by omega)]; exact d1
  · rw [TdU_o (by omega), ee _ _ (by omega) (by omega) (by omega) (by omega)]; exact d3
  · rw [NdU_o (by omega) (by omega)] at hk
    rw [NdU_o (by omega) (by omega), NdU_o (by omega) (by omega), TdU_o (by omega), ee _ _ (by omega) (by omega) (by omega) (by omega), ee _ _ (by omega) (by omega) (by omega) (by omega), ee _ _ (by omega) (by omega) (by omega) (by omega)]
    exact d4 k hk
  · rw [NdU_1] at hd
    by_cases z : d = N 0 1
    · subst z
      rw [TdU_4, TdU_6, TdU_7, NdU_5]
      exact ⟨e6, e7, e8, e9⟩
    · rw [NdU_o (by omega) (by omega), TdU_o (by omega), TdU_o (by omega), TdU_o (by omega), ee _ _ (by omega) (by omega) (by omega) (by omega), ee _ _ (by omega) (by omega) (by omega) (by omega), ee _ _ (by omega) (by omega) (by omega) (by omega), ee _ _ (by omega) (by omega) (by omega) (by omega)]
      exact d5 d (by omega)
  · rw [TdU_o (by omega), ee _ _ (by omega) (by omega) (by omega) (by omega)]; exact d6 k hk
  · rw [ee _ _ (by omega) (by omega) (by omega) (by omega), ee _ _ (by omega) (by omega) (by omega) (by omega)]; exact (d7 k hk).1 hL
  · obtain ⟨a, x1, x2, x3, x4⟩ := (d7 k hk).2 l hL
    refine ⟨a, by rw [ee _ _ (by omega) (by omega) (by omega) (by omega)]; exact x1, by rw [ee _ _ (by omega) (by omega) (by omega) (by omega)]; exact x2, x3, fun q hq => ?_⟩
    rw [ee _ _ (by omega) (by omega) (by omega) (by omega), ee _ _ (by omega) (by omega) (by omega) (by omega)]; exact x4 q hq
theorem RSp_doll {nm : Int32} {lo wo : Nat} (h : RSp N T L kn) (h10 : N 0 1 < 10) (hj : j < N 0 0) (hl : lo ≤ 9) (hw : wo ≤ 99) : RSp (NdU N j) (TdU N T nm (nI lo) (nI wo)) L kn := by
  obtain ⟨⟨t1, t2, t3, t4, t5, t6, t7, t8, t9⟩, p1, p2⟩ := h
  refine ⟨⟨by rw [NdU_o (by omega) (by omega)]; exact t1, by rw [NdU_1]; omega, fun k hk => ?_, fun d hd => ?_, by rw [TdU_o (by omega)]; exact t5, by rw [TdU_o (by omega)]; exact t6, by rw [TdU_o (by omega)]; exact t7, by rw [TdU_o (by omega)]; exact t8, t9⟩, by rw [TdU_o (by omega)]; exact p1, p2⟩
  · rw [NdU_o (by omega) (by omega)] at hk
    rw [NdU_o (by omega) (by omega), NdU_o (by omega) (by omega)]
    exact t3 k hk
  · rw [NdU_1] at hd
    rw [NdU_o (w := 0) (by omega) (by omega)]
    by_cases z : d = N 0 1
    · subst z
      rw [TdU_6, TdU_7, NdU_5]
      exact ⟨hj, nI_le (a := 0) (by omega) (by omega), nI_le (b := 9) hl (by omega), nI_le (a := 0) (by omega) (by omega), nI_le (b := 99) hw (by omega)⟩
    · rw [NdU_o (by omega) (by omega), TdU_o (by omega), TdU_o (by omega)]
      exact t4 d (by omega)
theorem addD_C {d s : Nat} (h1 : S.1 8 1 = nI d) (hd : d < 10) (hj : j < 6) (h10 : S.1 10 j = nI s) (hs : s ≤ 1) : f_X7_addDoll 8 (nI j) S = some (sI (sI (sI (sI S 13 d (nI j)) 14 d (nI (1 - s))) 17 (1 - s) (S.1 17 (1 - s) ||| ((1 : Int32) <<< (nI d &&& 31)))) 8 1 (nI (d + 1))) := by
  have e1 : (1 : Int32) - nI s = nI (1 - s) := by
    have : s = 0 ∨ s = 1 := by omega
    rcases this with rfl | rfl <;> decide
  have a1 : (sI S (8 + 5) d (nI j)).1 8 1 = nI d := by rw [sI1, if_neg (by omega)]; exact h1
  have a10 : (sI S (8 + 5) d (nI j)).1 (8 + 2) j = nI s := by rw [sI1, if_neg (by omega)]; exact h10
  unfold f_X7_addDoll
  rw [h1, wrN hd (by omega), Option.bind_some, rdN hj (by omega), Option.bind_some, a10, e1, a1, wrN hd (by omega), Option.bind_some]
  have a2 : (sI (sI S (8 + 5) d (nI j)) (8 + 6) d (nI (1 - s))).1 8 1 = nI d := by rw [sI1, if_neg (by omega)]; exact a1
  have a3 : (sI (sI S (8 + 5) d (nI j)) (8 + 6) d (nI (1 - s))).1 (8 + 6) d = nI (1 - s) := by rw [sI1, if_pos ⟨rfl, rfl⟩]
  have a4 : (sI (sI S (8 + 5) d (nI j)) (8 + 6) d (nI (1 - s))).1 (8 + 9) (1 - s) = S.1 17 (1 - s) := by rw [sI1, if_neg (by omega), sI1, if_neg (by omega)]
  rw [a2, rdN hd (by omega), Option.bind_some, a3, rdN (by omega) (by omega), Option.bind_some, a4, wrN (by omega) (by omega), Option.bind_some, nxt_eq]
  rw [sI1 _ (8 + 9), if_neg (by omega), a2, nI_1]
theorem l88_i {k : Nat} {v : Int32} (hk : k < 10) (h : M.1 0 22 ≠ 0) : ∃ M', f_X10_dollLine_88 (nI (10 + k)) v M = some M' ∧ mR M M' ∧ M'.1 0 22 = M.1 0 22 ∧ M'.1 0 23 = M.1 0 23 := by
  unfold f_X10_dollLine_88
  have h1 : (sI M 7 (10 + k) v).1 0 22 ≠ 0 := by rw [sI1, if_neg (by omega)]; exact h
  have h2 : (sI (sI M 7 (10 + k) v) 8 (10 + k) 0).1 0 22 ≠ 0 := by rw [sI1, if_neg (by omega)]; exact h1
  rw [goOn_i h, Option.bind_some, wrN (by omega) (by omega), Option.bind_some, numeral_i h1, bnd_some, wrN (by omega) (by omega), Option.bind_some, numeral_i h2, bnd_some, wrN (by omega) (by omega), Option.bind_some]
  have e : ∀ Q : Mem, f_X10_fresher 1 Q = some (Q.1 2 8, Q) := fun Q => fresh_k (k := 1) (by omega)
  have e2 : ∀ (Q : Mem) v, f_X10_reads 1 v Q = some (sI Q 2 8 v) := fun Q v => reads_k (k := 1) (by omega) v
  rw [e, bnd_some, e2, Option.bind_some]
  refine ⟨_, rfl, mR_s (mR_s (mR_s (mR_s (mR_rf M) (by unfold rM; omega)) (by unfold rM; omega)) (by unfold rM; omega)) (by unfold rM; omega), ?_, ?_⟩ <;> simp only [sI1] <;> simp
theorem l41_i {k : Nat} (hk : k < 10) (h : M.1 0 22 ≠ 0) : ∃ M', f_X10_dollLine_41 (nI (10 + k)) M = some M' ∧ mR M M' ∧ M'.1 0 22 = M.1 0 22 ∧ M'.1 0 23 = M.1 0 23 := by
  unfold f_X10_dollLine_41
  rw [if_neg h]
  unfold f_X10_dollLine_70
  rw [if_neg h]
  exact l88_i hk h
theorem nmN_c {g g' : Nat → Int32} {k : Nat} {x : Int32} (e : ∀ j, j < k → g j = g' j) : nmN g k x ↔ nmN g' k x :=
  ⟨fun h j hj => by rw [← e j hj]; exact h j hj, fun h j hj => by rw [e j hj]; exact h j hj⟩
end LIND
