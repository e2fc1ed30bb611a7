/-! PURE 19: rests, whole, best, enough -/
section SET
variable {C M S : Mem} {N : TN} {T : WS} {L : LWS} {W : WS} {nu : Nat → Nat} {cf : Nat → Int32}
def gnV (N : TN) (T : WS) (m : Int32) (c a o : Nat) : Int32 := (if a = 1 then sumB N T 7 (hMask N m c) else 0) - (if o = 1 then 5 * sumB N T 6 (hMask N m (1 - c)) else 0)
theorem gain_C (hT : TC C N T L) (hI : TI N T L) (hR : RC 53 C N W nu cf) {c a o : Nat} (hc : c < 2) (ha : a < 2) (ho : o < 2) : f_X9_gain (nI c) (nI a) (nI o) C = some (gnV N T (W 0 3) c a o, C) := by
  unfold f_X9_gain gnV
  have g31 : ∀ t0 : Int32, f_X9_gain_31 (nI c) (nI o) t0 C = some (t0 - (if o = 1 then 5 * sumB N T 6 (hMask N (W 0 3) (1 - c)) else 0), C) := by
    intro t0
    unfold f_X9_gain_31
    rcases (by omega : o = 0 ∨ o = 1) with rfl | rfl
    · rw [if_neg (by decide), if_neg (by decide), Int32.sub_zero]
    · rw [if_pos (by decide), if_pos rfl, ownR_C hT hI hR hc, bnd_some, sum6_C hT hI, bnd_some]
  rcases (by omega : a = 0 ∨ a = 1) with rfl | rfl
  · rw [if_neg (by decide), g31, if_neg (show ¬ (0 : Nat) = 1 by decide)]
  · rw [if_pos (by decide), holdsR_C hT hI hR hc, bnd_some, sum7_C hT hI, bnd_some, g31, if_pos (show (1 : Nat) = 1 from rfl)]
theorem hasOf_M (hM : TM M N T L) (hI : TI N T L) (hR : RM 0 M N W nu) {c a o : Nat} (hc : c < 2) (ha : a < 2) (ho : o < 2) : f_X10_hasOf (nI c) (nI a) (nI o) M = some (gnV N T (W 0 3) c a o, M) := by
  unfold f_X10_hasOf gnV
  rw [heldBy_M hM hI hR hc, bnd_some, sum7_M hM hI, bnd_some, sub1 hc, heldBy_M hM hI hR (by omega), bnd_some, sum6_M hM hI, bnd_some]
  have e1 : nI a * sumB N T 7 (hMask N (W 0 3) c) = if a = 1 then sumB N T 7 (hMask N (W 0 3) c) else 0 := by
    rcases (by omega : a = 0 ∨ a = 1) with rfl | rfl
    · rw [if_neg (by decide)]; exact Int32.zero_mul
    · rw [if_pos rfl]; exact Int32.one_mul _
  have e2 : (5 * nI o) * sumB N T 6 (hMask N (W 0 3) (1 - c)) = if o = 1 then 5 * sumB N T 6 (hMask N (W 0 3) (1 - c)) else 0 := by
    rcases (by omega : o = 0 ∨ o = 1) with rfl | rfl
    · rw [if_neg (by decide)]; exact Int32.zero_mul
    · rw [if_pos rfl]; rfl
  rw [e1, e2]
def isR (N : TN) (T : WS) (m : Int32) (a b : Nat) : Bool := decide (¬ gnV N T m 0 a b < gnV N T m 0 (1 - a) b) && decide (¬ gnV N T m 1 b a < gnV N T m 1 (1 - b) a)
theorem rest_C (hT : TC C N T L) (hI : TI N T L) (hR : RC 53 C N W nu cf) {a b : Nat} (ha : a < 2) (hb : b < 2) : f_X9_isRest (nI a) (nI b) C = some (b01 (isR N T (W 0 3) a b), C) := by
  unfold f_X9_isRest isR b01
  rw [show f_X9_gain 0 (nI a) (nI b) C = _ from gain_C (c := 0) hT hI hR (by omega) ha hb, bnd_some, sub1 ha, show f_X9_gain 0 (nI (1 - a)) (nI b) C = _ from gain_C (c := 0) hT hI hR (by omega) (by omega) hb, bnd_some]
  by_cases q : gnV N T (W 0 3) 0 a b < gnV N T (W 0 3) 0 (1 - a) b
  · rw [if_pos q]; simp [q]
  · rw [if_neg q, show f_X9_gain 1 (nI b) (nI a) C = _ from gain_C (c := 1) hT hI hR (by omega) hb ha, bnd_some, sub1 hb, show f_X9_gain 1 (nI (1 - b)) (nI a) C = _ from gain_C (c := 1) hT hI hR (by omega) (by omega) ha, bnd_some]
    by_cases q2 : gnV N T (W 0 3) 1 b a < gnV N T (W 0 3) 1 (1 - b) a
    · rw [if_pos q2]; simp [q, q2]
    · rw [if_neg q2]; simp [q, q2]
theorem rest_M (hM : TM M N T L) (hI : TI N T L) (hR : RM 0 M N W nu) {a b : Nat} (ha : a < 2) (hb : b < 2) : f_X10_isRest (nI a) (nI b) M = some (b01 (isR N T (W 0 3) a b), M) := by
  unfold f_X10_isRest isR b01
  rw [sub1 ha, show f_X10_hasOf 0 (nI (1 - a)) (nI b) M = _ from hasOf_M (c := 0) hM hI hR (by omega) (by omega) hb, bnd_some, show f_X10_hasOf 0 (nI a) (nI b) M = _ from hasOf_M (c := 0) hM hI hR (by omega) ha hb, bnd_some]
  by_cases q : gnV N T (W 0 3) 0 a b < gnV N T (W 0 3) 0 (1 - a) b
  · rw [if_pos q]; simp [q]
  · rw [if_neg q, sub1 hb, show f_X10_hasOf 1 (nI (1 - b)) (nI a) M = _ from hasOf_M (c := 1) hM hI hR (by omega) (by omega) ha, bnd_some, show f_X10_hasOf 1 (nI b) (nI a) M = _ from hasOf_M (c := 1) hM hI hR (by omega) hb ha, bnd_some]
    by_cases q2 : gnV N T (W 0 3) 1 b a < gnV N T (W 0 3) 1 (1 - b) a
    · rw [if_pos q2]; simp [q, q2]
    · rw [if_neg q2]; simp [q, q2]
theorem sh4 : ∀ i, i < 4 → nI i >>> ((1 : Int32) &&& 31) = nI (i / 2) ∧ nI i &&& 1 = nI (i % 2) ∧ dv (nI i) 2 = some (nI (i / 2)) ∧ rm (nI i) 2 = some (nI (i % 2)) := by decide +kernel
def cntR (N : TN) (T : WS) (m : Int32) (j : Nat) : Nat := itN (fun i s => if isR N T m (i / 2) (i % 2) = true then s + 1 else s) j 0
theorem cnt_le {m : Int32} : ∀ j, cntR N T m j ≤ j := by
  intro j
  induction j with
  | zero => exact Nat.le_refl _
  | succ j ih =>
    unfold cntR at *
    rw [itN_s]
    split <;> omega
theorem q_rests (h : Cp C M) : both C M (f_X9_rests C) (f_X10_rests M) := by
  unfold f_X10_rests
  refine both_m h ?_
  intro N T L W nu M' hq
  unfold f_X9_rests f_X10_restOf
  obtain ⟨-, -, ⟨hT, hM, hI⟩, ⟨hR, hR', -⟩, -⟩ := hq
  refine ⟨nI (cntR N T (W 0 3) 4), ?_, ?_⟩
  · refine lp0 (fun fuel i (s : Nat) => f_X9_rests_4 fuel (nI s) i C) 4 (fun j s => s = cntR N T (W 0 3) j) (by omega) 0 rfl ?_ ?_
    · rintro fuel s hs
      exact wp_pos (by decide) (wp_some ⟨by rw [hs], cQ_rf _⟩)
    · rintro fuel j s hj hs ih
      try simp only at ih
      show wp (f_X9_rests_4 (fuel + 1) (nI s) (nI j) C) _
      unfold f_X9_rests_4
      refine wp_neg (nI_ge (b := 4) hj (by omega)) ?_
      rw [(sh4 j hj).1, (sh4 j hj).2.1, rest_C hT hI hR (by omega) (by omega)]
      refine wp_bnde rfl ?_
      unfold cntR at ih hs
      rw [itN_s, ← hs] at ih
      unfold b01
      by_cases q : isR N T (W 0 3) (j / 2) (j % 2) = true
      · rw [if_pos q]
        refine wp_neg n10 ?_
        rw [nI_1, nI_1]; exact ih _ (by rw [if_pos q])
      · rw [if_neg q]
        refine wp_pos rfl ?_
        rw [nI_1]; exact ih _ (by rw [if_neg q])
  · refine wp_bnd (Q := fun q => q.1 = nI (cntR N T (W 0 3) 4) ∧ q.2 = M') ?_ (fun r S e => wp_some ⟨e.1, by rw [show S = M' from e.2]; exact mQ_rf _⟩)
    refine lp0 (fun fuel i (s : Nat) => f_X10_restOf_4 fuel (-1) (nI s) i M') 4 (fun j s => s = cntR N T (W 0 3) j) (by omega) 0 rfl ?_ ?_
    · rintro fuel s hs
      exact wp_pos (by decide) (wp_pos rfl (wp_some ⟨by rw [hs], rfl⟩))
    · rintro fuel j s hj hs ih
      try simp only at ih
      show wp (f_X10_restOf_4 (fuel + 1) (-1) (nI s) (nI j) M') _
      unfold f_X10_restOf_4
      refine wp_neg (nI_ge (b := 4) hj (by omega)) ?_
      rw [(sh4 j hj).2.2.1, (sh4 j hj).2.2.2, Option.bind_some, Option.bind_some, rest_M hM hI hR' (by omega) (by omega)]
      refine wp_bnde rfl ?_
      have hle := cnt_le (N := N) (T := T) (m := W 0 3) j
      unfold cntR at ih hs hle
      rw [← hs] at hle
      rw [itN_s, ← hs] at ih
      unfold b01
      by_cases q : isR N T (W 0 3) (j / 2) (j % 2) = true
      · rw [if_pos q]
        refine wp_neg n10 (wp_neg (nI_n1 (by omega)) ?_)
        rw [nI_1, nI_1]; exact ih _ (by rw [if_pos q])
      · rw [if_neg q]
        refine wp_pos rfl ?_
        rw [nI_1]; exact ih _ (by rw [if_neg q])
theorem q_rest (h : Cp C M) (v : Int32) : both C M (f_X9_rest v C) (f_X10_rest v M) := by
  unfold f_X10_rest
  refine both_m h ?_
  intro N T L W nu M' hq
  unfold f_X9_rest f_X10_restOf
  obtain ⟨-, -, ⟨hT, hM, hI⟩, ⟨hR, hR', -⟩, -⟩ := hq
  by_cases a1 : 0 ≤ v
  · rw [if_pos a1, if_pos a1]
    obtain ⟨k, hk, rfl⟩ := nI_of (Int32.not_lt.mpr a1)
    have hx : wp (f_X9_rest_10 FU (nI k) 0 C) (fun q => (∃ r, q.1 = r ∧ ((∃ j, j < 4 ∧ isR N T (W 0 3) (j / 2) (j % 2) = true ∧ cntR N T (W 0 3) j = k ∧ r = nI (10 * (j / 2) + j % 2)) ∨ (cntR N T (W 0 3) 4 ≤ k ∧ r = -2))) ∧ cQ C q.2) := by
      refine lp0 (fun fuel i (s : Nat) => f_X9_rest_10 fuel (nI s) i C) 4 (fun j s => cntR N T (W 0 3) j + s = k) (by omega) k (Nat.zero_add k) ?_ ?_
      · rintro fuel s hs
        exact wp_pos (by decide) (wp_some ⟨⟨_, rfl, Or.inr ⟨by omega, rfl⟩⟩, cQ_rf _⟩)
      · rintro fuel j s hj hs ih
        try simp only at ih
        show wp (f_X9_rest_10 (fuel + 1) (nI s) (nI j) C) _
        unfold f_X9_rest_10
        refine wp_neg (nI_ge (b := 4) hj (by omega)) ?_
        rw [(sh4 j hj).1, (sh4 j hj).2.1, rest_C hT hI hR (by omega) (by omega)]
        refine wp_bnde rfl ?_
        have e1 : cntR N T (W 0 3) (j + 1) = if isR N T (W 0 3) (j / 2) (j % 2) = true then cntR N T (W 0 3) j + 1 else cntR N T (W 0 3) j := rfl
        rw [e1] at ih
        unfold b01
        by_cases q : isR N T (W 0 3) (j / 2) (j % 2) = true
        · rw [if_pos q] at ih ⊢
          refine wp_neg n10 ?_
          refine wp_if (fun q2 => ?_) (fun q2 => ?_)
          · have q2 : s = 0 := (nI_eq (by omega) (by omega)).mp (show nI s = nI 0 from q2)
            refine wp_some ⟨⟨_, rfl, Or.inl ⟨j, hj, q, by omega, ?_⟩⟩, cQ_rf _⟩
            rw [show (10 : Int32) = nI 10 from rfl, pk_mul, nI_add]
          · have q2 : s ≠ 0 := fun e => q2 (by rw [e]; rfl)
            rw [nI_1, sb_m1 (by omega)]
            exact ih (s - 1) (by omega)
        · rw [if_neg q] at ih ⊢
          refine wp_pos rfl ?_
          rw [nI_1]; exact ih _ hs
    have hy : wp (f_X10_restOf_4 FU (nI k) 0 0 M') (fun q => (∃ r, q.1 = r ∧ ((∃ j, j < 4 ∧ isR N T (W 0 3) (j / 2) (j % 2) = true ∧ cntR N T (W 0 3) j = k ∧ r = nI (10 * (j / 2) + j % 2)) ∨ (cntR N T (W 0 3) 4 ≤ k ∧ r = -2))) ∧ mQ M' q.2) := by
      refine lp0 (fun fuel i (s : Nat) => f_X10_restOf_4 fuel (nI k) (nI s) i M') 4 (fun j s => s = cntR N T (W 0 3) j ∧ s ≤ k) (by omega) 0 ⟨rfl, by omega⟩ ?_ ?_
      · rintro fuel s ⟨hs, hsk⟩
        exact wp_pos (by decide) (wp_neg (nI_n1 (by omega)) (wp_some ⟨⟨_, rfl, Or.inr ⟨by omega, rfl⟩⟩, mQ_rf _⟩))
      · rintro fuel j s hj ⟨hs, hsk⟩ ih
        try simp only at ih
        show wp (f_X10_restOf_4 (fuel + 1) (nI k) (nI s) (nI j) M') _
        unfold f_X10_restOf_4
        refine wp_neg (nI_ge (b := 4) hj (by omega)) ?_
        rw [(sh4 j hj).2.2.1, (sh4 j hj).2.2.2, Option.bind_some, Option.bind_some, rest_M hM hI hR' (by omega) (by omega)]
        refine wp_bnde rfl ?_
        have e1 : cntR N T (W 0 3) (j + 1) = if isR N T (W 0 3) (j / 2) (j % 2) = true then cntR N T (W 0 3) j + 1 else cntR N T (W 0 3) j := rfl
        rw [e1, ← hs] at ih
        have hle := cnt_le (N := N) (T := T) (m := W 0 3) j
        unfold b01
        by_cases q : isR N T (W 0 3) (j / 2) (j % 2) = true
        · rw [if_pos q] at ih ⊢
          refine wp_neg n10 ?_
          refine wp_if (fun q2 => ?_) (fun q2 => ?_)
          · have q2 : s = k := (nI_eq (by omega) (by omega)).mp q2
            refine wp_bde rfl (wp_bde rfl (wp_some ⟨⟨_, rfl, Or.inl ⟨j, hj, q, by omega, ?_⟩⟩, mQ_rf _⟩))
            rw [show (10 : Int32) = nI 10 from rfl, pk_mul, nI_add]
          · have q2 : s ≠ k := fun e => q2 (by rw [e])
            rw [nI_1, nI_1]
            exact ih (s + 1) ⟨rfl, by omega⟩
        · rw [if_neg q] at ih ⊢
          refine wp_pos rfl ?_
          rw [nI_1]; exact ih _ ⟨rfl, hsk⟩
    have mono : ∀ i j, i < j → isR N T (W 0 3) (i / 2) (i % 2) = true → cntR N T (W 0 3) i < cntR N T (W 0 3) j := by
      intro i j hij hi
      induction j with
      | zero => omega
      | succ j ih =>
        have e1 : cntR N T (W 0 3) (j + 1) = if isR N T (W 0 3) (j / 2) (j % 2) = true then cntR N T (W 0 3) j + 1 else cntR N T (W 0 3) j := rfl
        rcases (by omega : i < j ∨ i = j) with h | rfl
        · have := ih h
          rw [e1]
          split <;> omega
        · rw [e1, if_pos hi]; omega
    obtain ⟨⟨r, S1⟩, e1, ⟨_, rfl, h1⟩, f1⟩ := hx
    refine ⟨r, wp_of e1 ⟨rfl, f1⟩, ?_⟩
    obtain ⟨⟨r2, S2⟩, e2, ⟨_, rfl, h2⟩, f2⟩ := hy
    refine wp_bnde e2 (wp_some ⟨?_, f2⟩)
    simp only at h1 h2 ⊢
    rcases h1 with ⟨j, a, b, c, d⟩ | ⟨a, d⟩
    · rcases h2 with ⟨j', a', b', c', d'⟩ | ⟨a', d'⟩
      · have : j = j' := by
          rcases Nat.lt_trichotomy j j' with q | q | q
          · have := mono j j' q b; omega
          · exact q
          · have := mono j' j q b'; omega
        rw [d, d', this]
      · have := mono j 4 a b; omega
    · rcases h2 with ⟨j', a', b', c', d'⟩ | ⟨a', d'⟩
      · have := mono j' 4 a' b'; omega
      · rw [d, d']
  · rw [if_neg a1, if_neg a1]; exact bq _ rfl rfl
/-! whole -/
def S00 : Mem := ((fun _ _ => 0), (fun _ _ => 0))
theorem sd_S : ∀ n v0 v1, f_X9_sharedDivisor_3 n v0 v1 S = (f_X9_sharedDivisor_3 n v0 v1 S00).map (fun q => (q.1, S)) := by
  intro n
  induction n with
  | zero => intro v0 v1; rfl
  | succ n ih =>
    intro v0 v1
    unfold f_X9_sharedDivisor_3
    split
    · rfl
    · cases rm 100 v1 with
      | none => rfl
      | some a =>
        rw [Option.bind_some, Option.bind_some]
        split
        · cases rm v0 v1 with
          | none => rfl
          | some b =>
            rw [Option.bind_some, Option.bind_some]
            split
            · rfl
            · exact ih _ _
        · exact ih _ _
theorem w81_S : ∀ n v2 v6 v7 v9, f_X9_whole_81 n v2 v6 v7 v9 S = (f_X9_whole_81 n v2 v6 v7 v9 S00).map (fun q => (q.1, S)) := by
  intro n
  induction n with
  | zero => intros; rfl
  | succ n ih =>
    intros
    unfold f_X9_whole_81
    split
    · rfl
    · exact ih _ _ _ _
theorem cm_S : ∀ n v4 v6, f_X10_common_6 n v4 v6 S = (f_X10_common_6 n v4 v6 S00).map (fun q => (q.1, S)) := by
  intro n
  induction n with
  | zero => intros; rfl
  | succ n ih =>
    intro v4 v6
    unfold f_X10_common_6
    split
    · rfl
    · cases rmL v4 v6 with
      | none => rfl
      | some a => rw [Option.bind_some, Option.bind_some]; exact ih _ _
theorem w68_S : ∀ n v2 v3 v4 v5 v7 v9, f_X10_whole_68 n v2 v3 v4 v5 v7 v9 S = (f_X10_whole_68 n v2 v3 v4 v5 v7 v9 S00).map (fun q => (q.1, S)) := by
  intro n
  induction n with
  | zero => intros; rfl
  | succ n ih =>
    intro v2 v3 v4 v5 v7 v9
    unfold f_X10_whole_68
    split
    · unfold f_X10_common
      rw [cm_S (S := S)]
      cases f_X10_common_6 FU v5 v7 S00 with
      | none => rfl
      | some q =>
        obtain ⟨a, S1⟩ := q
        rw [Option.map_some, bnd_some, bnd_some]
        split
        · cases dvL v5 a with
          | none => rfl
          | some z => rfl
        · cases dvL v7 a with
          | none => rfl
          | some z => rfl
    · exact ih _ _ _ _ _ _
theorem sd_t : ∀ o, o < 101 → (f_X9_sharedDivisor (100 - nI o) S00).map (fun q => q.1) = some (nI (Nat.gcd (100 - o) 100)) := by decide +kernel
def wC (o n x : Nat) : Option Int64 := (f_X9_whole_70 (nI n) (nI (Nat.gcd (100 - o) 100)) (if x = 0 then 100 - nI o else 100) S00).map (fun q => q.1)
def wM (o n x : Nat) : Option Int64 := (f_X10_whole_68 FU (nI n) (nI x) (nI o) 1 1 0 S00).map (fun q => q.1)
theorem w_t : ∀ o, o < 101 → ∀ n, n < 7 → ∀ x, x < 2 → (wC o n x).isSome = true ∧ wC o n x = wM o n x := by decide +kernel
theorem q_whole (h : Cp C M) (v x y : Int32) : both C M (f_X9_whole v x y C) (f_X10_whole v x y M) := by
  unfold f_X10_whole
  refine both_m h ?_
  intro N T L W nu M' hq
  unfold f_X9_whole
  obtain ⟨-, -, ⟨hT, hM, hI⟩, ⟨hR, hR', ⟨-, hn⟩⟩, -, -, -, -, h43, h44⟩ := hq
  have hnd := hI.2.1
  rcases ix_d v (n := N 0 1) (by omega) with ⟨d, hd, rfl⟩ | hv
  · have eh : f_X10_isHeld 0 (nI d) M' = some (b01 (bt (W 0 3) d), M') := heldR_M (t := 0) hR' (by omega) hnd hd
    rw [heldD_C hT hI hR hd, bnd_some, doll_M1 hM hI hd, bnd_some, if_neg n10, eh, bnd_some]
    unfold b01
    by_cases q : bt (W 0 3) d = true
    · rw [if_pos q, if_neg n10, if_neg n10]
      by_cases a1 : x < 0
      · rw [if_pos a1, if_pos a1]; exact bq _ rfl rfl
      rw [if_neg a1, if_neg a1]
      by_cases a2 : 6 < x
      · rw [if_pos a2, if_pos a2]; exact bq _ rfl rfl
      rw [if_neg a2, if_neg a2]
      by_cases a3 : y < 0
      · rw [if_pos a3, if_pos a3]; exact bq _ rfl rfl
      rw [if_neg a3, if_neg a3]
      by_cases a4 : y ≤ 1
      · rw [if_pos a4, if_pos a4, careR_C hR hn hI hd, bnd_some]
        obtain ⟨-, -, -, r0, -⟩ := RM0 hR'
        rw [rdN (by omega) (by decide), (r0 d hd).1, Option.bind_some]
        obtain ⟨n, hn6, rfl⟩ := nI_of2 (M := 6) (n := 6) rfl a1 (Int32.not_lt.mp a2)
        obtain ⟨z, hz, rfl⟩ := nI_of2 (M := 1) (n := 1) rfl a3 a4
        obtain ⟨o, ho, eo⟩ := odds_b (N := N) (T := T) (L := L) (W := W) hI (d := d) (hI.2.2.1 _ (hn d hd)).2
        obtain ⟨t1, t2⟩ := w_t o (by omega) n (by omega) z (by omega)
        obtain ⟨r, hr⟩ := Option.isSome_iff_exists.mp t1
        refine ⟨r, wp_bnd (oddsR_C hT hI hR hn hd _) ?_, wp_bnd (mothsR_M hM hI hR' hn h43 h44 hd (hn d hd)) ?_⟩
        · rintro u S ⟨e, f⟩
          simp only at e f
          have e : u = nI o := e.trans eo
          subst e
          have es : f_X9_sharedDivisor (100 - nI o) S = some (nI (Nat.gcd (100 - o) 100), S) := by
            have := sd_t o (by omega)
            unfold f_X9_sharedDivisor at this ⊢
            rw [sd_S]
            cases hh : f_X9_sharedDivisor_3 FU (100 - nI o) 100 S00 with
            | none => rw [hh] at this; cases this
            | some p =>
              rw [hh] at this
              rw [Option.map_some] at this ⊢
              rw [Option.some.inj this]
          rw [es, bnd_some]
          have key : f_X9_whole_70 (nI n) (nI (Nat.gcd (100 - o) 100)) (if z = 0 then 100 - nI o else 100) S = some (r, S) := by
            unfold wC at hr
            unfold f_X9_whole_70 at hr ⊢
            cases hdv : dv (if z = 0 then 100 - nI o else 100) (nI (Nat.gcd (100 - o) 100)) with
            | none => rw [hdv] at hr; cases hr
            | some b =>
              rw [hdv, Option.bind_some] at hr
              rw [Option.bind_some, w81_S]
              cases hh : f_X9_whole_81 FU (nI n) b 1 0 S00 with
              | none => rw [hh] at hr; cases hr
              | some p =>
                rw [hh, Option.map_some] at hr
                rw [Option.map_some, Option.some.inj hr]
          rcases (by omega : z = 0 ∨ z = 1) with rfl | rfl
          · rw [if_pos rfl] at key
            exact wp_pos (by decide) (wp_of key ⟨rfl, cQ_n f⟩)
          · rw [if_neg (by decide)] at key
            exact wp_neg (by decide) (wp_of key ⟨rfl, cQ_n f⟩)
        · rintro u S ⟨e, f⟩
          simp only at e f
          have e : u = nI o := e.trans eo
          subst e
          rw [w68_S]
          rw [t2] at hr
          unfold wM at hr
          cases hh : f_X10_whole_68 FU (nI n) (nI z) (nI o) 1 1 0 S00 with
          | none => rw [hh] at hr; cases hr
          | some p =>
            rw [hh, Option.map_some] at hr
            rw [Option.map_some]
            exact wp_some ⟨Option.some.inj hr, mQ_S f⟩
      · rw [if_neg a4, if_neg a4]; exact bq _ rfl rfl
    · rw [if_neg q]
      exact bq _ rfl rfl
  · rw [heldD_C0 hT hv, bnd_some, doll_M0 hM hv, bnd_some]
    exact bq _ rfl rfl
end SET
