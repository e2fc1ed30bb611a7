/-! PURE 67: the text: taken, by both -/
section TXT
variable {C C' M M' S S' : Mem} {b : Nat → Nat} {n m i kn ln : Nat} {N : TN} {T : WS} {L : LWS} {mk : Nat → Bool}
def hlf (c : Nat) : Nat := if c = 2 then 7 else if c ≤ 5 then 6 else if c ≤ 9 then 10 else if c ≤ 11 then 3 else 64
theorem shI_h (c j : Nat) : shI c j = hlf c + j := by
  unfold shI hlf
  repeat' split
  all_goals rfl
theorem TM_lim (h : TM S N T L) (hI : TI N T L) (e : ∀ c j, 2 ≤ c → c ≤ 13 → j < hlf c → S'.1 c j = S.1 c j) : TM S' N T L := by
  obtain ⟨d1, d2, d3, d4, d5, d6, d7⟩ := h
  have h0 := hI.1
  have h1 := hI.2.1
  have b2 : hlf 2 = 7 := rfl
  have b3 : hlf 3 = 6 := rfl
  have b4 : hlf 4 = 6 := rfl
  have b5 : hlf 5 = 6 := rfl
  have b6 : hlf 6 = 10 := rfl
  have b7 : hlf 7 = 10 := rfl
  have b8 : hlf 8 = 10 := rfl
  have b9 : hlf 9 = 10 := rfl
  have b10 : hlf 10 = 3 := rfl
  have b11 : hlf 11 = 3 := rfl
  have b12 : hlf 12 = 64 := rfl
  have b13 : hlf 13 = 64 := rfl
  refine ⟨by rw [e _ _ (by omega) (by omega) (by omega)]; exact d1, by rw [e _ _ (by omega) (by omega) (by omega)]; exact d2, by rw [e _ _ (by omega) (by omega) (by omega)]; exact d3, fun q hq => ?_, fun d hd => ?_, fun q hq => ?_, fun k hk => ⟨fun hL => ?_, fun l hL => ?_⟩⟩
  · rw [e _ _ (by omega) (by omega) (by omega), e _ _ (by omega) (by omega) (by omega), e _ _ (by omega) (by omega) (by omega)]; exact d4 q hq
  · rw [e _ _ (by omega) (by omega) (by omega), e _ _ (by omega) (by omega) (by omega), e _ _ (by omega) (by omega) (by omega), e _ _ (by omega) (by omega) (by omega)]; exact d5 d hd
  · rw [e _ _ (by omega) (by omega) (by omega)]; exact d6 q hq
  · rw [e _ _ (by omega) (by omega) (by omega), e _ _ (by omega) (by omega) (by omega)]; exact (d7 k hk).1 hL
  · obtain ⟨a, x1, x2, x3, x4⟩ := (d7 k hk).2 l hL
    refine ⟨a, by rw [e _ _ (by omega) (by omega) (by omega)]; exact x1, by rw [e _ _ (by omega) (by omega) (by omega)]; exact x2, x3, fun q hq => ?_⟩
    rw [e _ _ (by omega) (by omega) (by omega), e _ _ (by omega) (by omega) (by omega)]; exact x4 q hq
/-- halves taken below a -/
def hvD (M : Mem) (a : Nat) (S : Mem) : Prop := ∀ c j, S.1 c j = if (2 ≤ c ∧ c < a) ∧ j < hlf c then M.1 c (hlf c + j) else M.1 c j
theorem hv_s {a n0 : Nat} (h : hvD M a S) (ha : 2 ≤ a) (hd : dv (nI n0) 2 = some (nI (hlf a))) (hh : hlf a ≤ 64) (hn : n0 = 2 * hlf a) : wp (f_X10_half a n0 S) (fun S' => hvD M (a + 1) S') := by
  refine wp_mono (half_M hd hh hn) ?_
  intro S' h' c j
  rw [h' c j]
  by_cases z : c = a ∧ j < hlf a
  · obtain ⟨rfl, z2⟩ := z
    rw [if_pos ⟨rfl, z2⟩, if_pos ⟨⟨ha, by omega⟩, z2⟩, h c _, if_neg (by omega)]
  · rw [if_neg z, h c j]
    by_cases y : (2 ≤ c ∧ c < a) ∧ j < hlf c
    · rw [if_pos y, if_pos ⟨⟨y.1.1, by omega⟩, y.2⟩]
    · rw [if_neg y, if_neg (fun q => by
        by_cases x : c = a
        · subst x; exact z ⟨rfl, q.2⟩
        · exact y ⟨⟨q.1.1, by omega⟩, q.2⟩)]
theorem text_ok (h22 : M.1 0 22 = 0) (hT : TM (shM M) N T L) (hI : TI N T L) : ∃ M', f_X10_text_163 M = some (M.1 0 16, M') ∧ TM M' N T L ∧ RM 0 M' N (W0 N T) (fun d => N 5 d) ∧
    M'.1 0 24 = M.1 0 22 ∧ M'.1 0 25 = M.1 0 23 ∧ M'.1 0 50 = 0 ∧ M'.1 0 51 = -1 ∧ M'.1 0 41 = 0 ∧ M'.1 0 42 = 0 ∧ (∀ j, j = 2 ∨ j = 43 ∨ j = 44 → M'.1 0 j = M.1 0 j) := by
  unfold f_X10_text_163
  rw [nxt_eq, nxt_eq]
  generalize hQ : sI (sI M 0 24 (M.1 0 22)) 0 25 ((sI M 0 24 (M.1 0 22)).1 0 23) = Q
  have qe : ∀ c j, ¬ (c = 0 ∧ (j = 24 ∨ j = 25)) → Q.1 c j = M.1 c j := fun c j a => by rw [← hQ, sI1, if_neg (by omega), sI1, if_neg (by omega)]
  have q24 : Q.1 0 24 = M.1 0 22 := by rw [← hQ, sI1, if_neg (by omega), sI1, if_pos ⟨rfl, rfl⟩]
  have q25 : Q.1 0 25 = M.1 0 23 := by rw [← hQ, sI1, if_pos ⟨rfl, rfl⟩, sI1, if_neg (by omega)]
  rw [if_pos (by rw [qe _ _ (by omega)]; exact h22)]
  have h0 : hvD Q 2 Q := fun c j => by rw [if_neg (by omega)]
  obtain ⟨S1, e1, h1⟩ := hv_s (n0 := 14) h0 (by omega) dv_14 (by decide) (by decide)
  obtain ⟨S2, e2, h2⟩ := hv_s (n0 := 12) h1 (by omega) dv_12 (by decide) (by decide)
  obtain ⟨S3, e3, h3⟩ := hv_s (n0 := 12) h2 (by omega) dv_12 (by decide) (by decide)
  obtain ⟨S4, e4, h4⟩ := hv_s (n0 := 12) h3 (by omega) dv_12 (by decide) (by decide)
  obtain ⟨S5, e5, h5⟩ := hv_s (n0 := 20) h4 (by omega) dv_20 (by decide) (by decide)
  obtain ⟨S6, e6, h6⟩ := hv_s (n0 := 20) h5 (by omega) dv_20 (by decide) (by decide)
  obtain ⟨S7, e7, h7⟩ := hv_s (n0 := 20) h6 (by omega) dv_20 (by decide) (by decide)
  obtain ⟨S8, e8, h8⟩ := hv_s (n0 := 20) h7 (by omega) dv_20 (by decide) (by decide)
  obtain ⟨S9, e9, h9⟩ := hv_s (n0 := 6) h8 (by omega) dv_6 (by decide) (by decide)
  obtain ⟨S10, e10, h10⟩ := hv_s (n0 := 6) h9 (by omega) dv_6 (by decide) (by decide)
  obtain ⟨S11, e11, h11⟩ := hv_s (n0 := 128) h10 (by omega) dv_128 (by decide) (by decide)
  obtain ⟨S12, e12, h12⟩ := hv_s (n0 := 128) h11 (by omega) dv_128 (by decide) (by decide)
  rw [e1, Option.bind_some, e2, Option.bind_some, e3, Option.bind_some, e4, Option.bind_some, e5, Option.bind_some, e6, Option.bind_some, e7, Option.bind_some, e8, Option.bind_some, e9, Option.bind_some, e10, Option.bind_some, e11, Option.bind_some, e12, Option.bind_some, nxt_eq, nxt_eq, nxt_eq, nxt_eq]
  generalize hZ : sI (sI (sI (sI S12 0 50 0) 0 51 (-1)) 0 41 0) 0 42 0 = Z
  have ze : ∀ c j, ¬ (c = 0 ∧ (j = 50 ∨ j = 51 ∨ j = 41 ∨ j = 42)) → Z.1 c j = S12.1 c j := fun c j a => by rw [← hZ, sI1, if_neg (by omega), sI1, if_neg (by omega), sI1, if_neg (by omega), sI1, if_neg (by omega)]
  have zT : TM Z N T L := by
    refine TM_lim hT hI (fun c j a1 a2 a3 => ?_)
    rw [ze c j (by omega), h12 c j, if_pos ⟨⟨a1, by omega⟩, a3⟩, qe _ _ (by omega)]
    show M.1 c (hlf c + j) = M.1 c (shI c j)
    rw [shI_h]
  have z0 : ∀ j, Z.1 0 j = if j = 50 ∨ j = 41 ∨ j = 42 then 0 else if j = 51 then -1 else Q.1 0 j := by
    intro j
    by_cases a : j = 50 ∨ j = 51 ∨ j = 41 ∨ j = 42
    · rcases a with rfl | rfl | rfl | rfl <;> (rw [← hZ]; simp [sI1])
    · rw [ze 0 j (by omega), if_neg (by omega), if_neg (by omega), h12 0 j, if_neg (by omega)]
  obtain ⟨S13, e13, h13, f13⟩ := starts_M (t := 0) (by omega) zT hI
  have e13 : f_X10_starts 0 Z = some S13 := e13
  unfold f_X10_begins
  rw [e13, Option.bind_some, Option.bind_some]
  have s0 : ∀ j, S13.1 0 j = Z.1 0 j := fun j => f13 0 j (by unfold chC; omega)
  refine ⟨S13, ?_, TM_to zT (fun c j a1 a2 => f13 c j (by unfold chC; omega)), h13, ?_, ?_, ?_, ?_, ?_, ?_, fun j hj => ?_⟩
  · rw [s0, z0, if_neg (by omega), if_neg (by omega), qe _ _ (by omega)]
  · rw [s0, z0, if_neg (by omega), if_neg (by omega)]; exact q24
  · rw [s0, z0, if_neg (by omega), if_neg (by omega)]; exact q25
  · rw [s0, z0, if_pos (by omega)]
  · rw [s0, z0, if_neg (by omega), if_pos rfl]
  · rw [s0, z0, if_pos (by omega)]
  · rw [s0, z0, if_pos (by omega)]
  · rw [s0, z0, if_neg (by omega), if_neg (by omega), qe _ _ (by omega)]
theorem text_w (h22 : M.1 0 22 ≠ 0) : f_X10_text_163 M = some (-1, sI (sI M 0 24 (M.1 0 22)) 0 25 (M.1 0 23)) := by
  unfold f_X10_text_163
  have e : (sI M 0 24 (M.1 0 22)).1 0 23 = M.1 0 23 := by rw [sI1, if_neg (by omega)]
  have e2 : ¬ (sI (sI M 0 24 (M.1 0 22)) 0 25 (M.1 0 23)).1 0 22 = 0 := by rw [sI1, if_neg (by omega), sI1, if_neg (by omega)]; exact h22
  rw [nxt_eq, nxt_eq, e, if_neg e2]
/-! the class's taking -/
theorem lawT_C {a a1 len : Nat} (hab : a1 + 2 < a) (hz : okz (S.1 a1 0) = true) (hl : S.1 a1 1 = nI len) (h64 : len ≤ 64) :
    wp (f_X1_take a a1 S) (fun S' => S'.1 a 0 = S.1 a1 0 ∧ S'.1 a 1 = nI len ∧ (∀ j, j < len → S'.1 (a + 1) j = S.1 (a1 + 1) j) ∧ (∀ c j, c ≠ a → c ≠ a + 1 → S'.1 c j = S.1 c j) ∧ S'.2 = S.2) := by
  unfold f_X1_take
  refine wp_pos hz (wp_nxt (wp_nxt ?_))
  have hl1 : (sI S a 0 (S.1 a1 0)).1 a1 1 = nI len := by rw [sI1, if_neg (by omega)]; exact hl
  rw [hl1]
  refine lp0 (fun fuel i M => f_X1_take_18 a a1 fuel i M) len (fun j S' => S'.1 a 0 = S.1 a1 0 ∧ S'.1 a 1 = nI len ∧ (∀ i, i < j → S'.1 (a + 1) i = S.1 (a1 + 1) i) ∧ (∀ c i, c ≠ a → c ≠ a + 1 → S'.1 c i = S.1 c i) ∧ S'.2 = S.2) (by omega) _ ⟨?_, ?_, fun i hi => absurd hi (Nat.not_lt_zero i), fun c i c1 c2 => ?_, rfl⟩ ?_ ?_
  · rw [sI1, if_neg (by omega), sI1, if_pos ⟨rfl, rfl⟩]
  · rw [sI1, if_pos ⟨rfl, rfl⟩]
  · rw [sI1, if_neg (by omega), sI1, if_neg (by omega)]
  · rintro fuel S' hS
    show wp (f_X1_take_18 a a1 (fuel + 1) (nI len) S') _
    unfold f_X1_take_18
    rw [hS.2.1]
    exact wp_pos (Int32.le_refl _) (wp_some hS)
  · rintro fuel j S' hj ⟨g1, g2, g3, g4, g5⟩ ih
    try simp only at ih
    show wp (f_X1_take_18 a a1 (fuel + 1) (nI j) S') _
    unfold f_X1_take_18
    rw [g2]
    refine wp_neg (nI_ge hj (by omega)) ?_
    refine wp_rd j rfl (by omega) (v := S.1 (a1 + 1) j) (g4 _ _ (by omega) (by omega)) ?_
    refine wp_wr j rfl (by omega) ?_
    rw [nI_1]
    refine ih _ ⟨?_, ?_, fun i hi => ?_, fun c i c1 c2 => ?_, g5⟩
    · rw [sI1, if_neg (by omega)]; exact g1
    · rw [sI1, if_neg (by omega)]; exact g2
    · rw [sI1]
      by_cases z : i = j
      · rw [if_pos ⟨rfl, z⟩, z]
      · rw [if_neg (by omega)]; exact g3 i (by omega)
    · rw [sI1, if_neg (by omega)]; exact g4 c i c1 c2
/-- a law's cells in the class -/
def lwc (S : Mem) (a : Nat) (l : Option (List Nat)) : Prop := match l with
  | none => S.1 a 0 = 0 ∧ S.1 a 1 = 0
  | some l => S.1 a 0 = 1 ∧ S.1 a 1 = nI l.length ∧ l.length ≤ 64 ∧ ∀ j, j < l.length → S.1 (a + 1) j = nI (l.getD j 0)
theorem lwc_T {a a1 : Nat} {l : Option (List Nat)} (hab : a1 + 2 < a) (h : lwc S a1 l) : wp (f_X1_take a a1 S) (fun S' => lwc S' a l ∧ (∀ c j, c ≠ a → c ≠ a + 1 → S'.1 c j = S.1 c j) ∧ S'.2 = S.2) := by
  cases l with
  | none =>
    obtain ⟨h1, h2⟩ := h
    refine wp_mono (lawT_C (len := 0) hab (by rw [h1]; decide) h2 (by omega)) ?_
    rintro S' ⟨g1, g2, g3, g4, g5⟩
    exact ⟨⟨by rw [g1]; exact h1, g2⟩, g4, g5⟩
  | some l =>
    obtain ⟨h1, h2, h3, h4⟩ := h
    refine wp_mono (lawT_C (len := l.length) hab (by rw [h1]; decide) h2 h3) ?_
    rintro S' ⟨g1, g2, g3, g4, g5⟩
    exact ⟨⟨by rw [g1]; exact h1, g2, h3, fun j hj => by rw [g3 j hj]; exact h4 j hj⟩, g4, g5⟩
theorem lwc_to {a : Nat} {l : Option (List Nat)} (h : lwc S a l) (e : ∀ c j, c = a ∨ c = a + 1 → S'.1 c j = S.1 c j) : lwc S' a l := by
  cases l with
  | none => exact ⟨by rw [e a 0 (by omega)]; exact h.1, by rw [e a 1 (by omega)]; exact h.2⟩
  | some l => exact ⟨by rw [e a 0 (by omega)]; exact h.1, by rw [e a 1 (by omega)]; exact h.2.1, h.2.2.1, fun j hj => by rw [e (a + 1) j (by omega)]; exact h.2.2.2 j hj⟩
theorem take_T (hc : RSc S b n m i N T L mk) (hI : TI N T L) : wp (f_X7_take 31 8 S) (fun S' => TC S' N T L ∧ (∀ c j, c < 31 ∨ 53 ≤ c → S'.1 c j = S.1 c j) ∧ S'.2 = S.2) := by
  obtain ⟨-, -, -, ⟨d1, d2, d3, d4, d5, d6, d7, d8⟩, l0, -⟩ := hc
  have hL : ∀ k, k < 3 → lwc S (21 + 3 * k) (L k) := by
    intro k hk
    have d8 := d8 k hk
    have sh : ∀ c j, (shC S).1 c j = S.1 (c - 23) j := fun _ _ => rfl
    rw [sh, show 44 + 3 * k - 23 = 21 + 3 * k by omega] at d8
    cases e : L k with
    | none => exact ⟨d8.1 e, l0 k hk e⟩
    | some l =>
      obtain ⟨x1, x2, x3⟩ := d8.2 l e
      rw [sh, show 44 + 3 * k - 23 = 21 + 3 * k by omega] at x2
      refine ⟨x1, x2, (hI.2.2.2.2.2.2.2.2 k hk l e).2, fun j hj => ?_⟩
      have := x3 j hj
      rw [sh, show 45 + 3 * k - 23 = 21 + 3 * k + 1 by omega] at this
      exact this
  have h0 := hI.1
  have h1 := hI.2.1
  unfold f_X7_take
  refine wp_nxt (wp_nxt (wp_nxt ?_))
  generalize hQ : sI (sI (sI S 31 0 (S.1 8 0)) 31 1 ((sI S 31 0 (S.1 8 0)).1 8 1)) 31 2 ((sI (sI S 31 0 (S.1 8 0)) 31 1 ((sI S 31 0 (S.1 8 0)).1 8 1)).1 8 2) = Q
  have qe : ∀ c j, c ≠ 31 → Q.1 c j = S.1 c j := fun c j a => by rw [← hQ, sI1, if_neg (by omega), sI1, if_neg (by omega), sI1, if_neg (by omega)]
  have q0 : Q.1 31 0 = S.1 8 0 := by rw [← hQ]; simp [sI1]
  have q1 : Q.1 31 1 = S.1 8 1 := by rw [← hQ]; simp [sI1]
  have q2 : Q.1 31 2 = S.1 8 2 := by rw [← hQ]; simp [sI1]
  have qs : Q.2 = S.2 := by rw [← hQ]; rfl
  refine wp_call (copy_C (a := 8 + 1) (b := 31 + 1) (n := 6) (by omega) (by omega)) ?_
  rintro S1 ⟨a1, b1, c1⟩
  refine wp_call (copy_C (a := 8 + 2) (b := 31 + 2) (n := 6) (by omega) (by omega)) ?_
  rintro S2 ⟨a2, b2, c2⟩
  refine wp_call (copy_C (a := 8 + 3) (b := 31 + 3) (n := 6) (by omega) (by omega)) ?_
  rintro S3 ⟨a3, b3, c3⟩
  refine wp_call (copy_C (a := 8 + 4) (b := 31 + 4) (n := 10) (by omega) (by omega)) ?_
  rintro S4 ⟨a4, b4, c4⟩
  refine wp_call (copy_C (a := 8 + 5) (b := 31 + 5) (n := 10) (by omega) (by omega)) ?_
  rintro S5 ⟨a5, b5, c5⟩
  refine wp_call (copy_C (a := 8 + 6) (b := 31 + 6) (n := 10) (by omega) (by omega)) ?_
  rintro S6 ⟨a6, b6, c6⟩
  refine wp_call (copy_C (a := 8 + 7) (b := 31 + 7) (n := 10) (by omega) (by omega)) ?_
  rintro S7 ⟨a7, b7, c7⟩
  refine wp_call (copy_C (a := 8 + 8) (b := 31 + 8) (n := 10) (by omega) (by omega)) ?_
  rintro S8 ⟨a8, b8, c8⟩
  refine wp_call (copy_C (a := 8 + 9) (b := 31 + 9) (n := 2) (by omega) (by omega)) ?_
  rintro S9 ⟨a9, b9, c9⟩
  refine wp_call (copy_C (a := 8 + 10) (b := 31 + 10) (n := 4) (by omega) (by omega)) ?_
  rintro S10 ⟨a10, b10, c10⟩
  have so : ∀ c, (c < 32 ∨ 41 < c) → S10.1 c = Q.1 c := fun c h => by
    rw [a10 c (by omega), a9 c (by omega), a8 c (by omega), a7 c (by omega), a6 c (by omega), a5 c (by omega), a4 c (by omega), a3 c (by omega), a2 c (by omega), a1 c (by omega)]
  have f1 : ∀ j, j < 6 → S10.1 32 j = S.1 9 j := fun j hj => by
    rw [a10 32 (by omega), a9 32 (by omega), a8 32 (by omega), a7 32 (by omega), a6 32 (by omega), a5 32 (by omega), a4 32 (by omega), a3 32 (by omega), a2 32 (by omega), b1 j hj, qe _ _ (by omega)]
  have f2 : ∀ j, j < 6 → S10.1 33 j = S.1 10 j := fun j hj => by
    rw [a10 33 (by omega), a9 33 (by omega), a8 33 (by omega), a7 33 (by omega), a6 33 (by omega), a5 33 (by omega), a4 33 (by omega), a3 33 (by omega), b2 j hj, a1 (8 + 2) (by omega), qe _ _ (by omega)]
  have f3 : ∀ j, j < 6 → S10.1 34 j = S.1 11 j := fun j hj => by
    rw [a10 34 (by omega), a9 34 (by omega), a8 34 (by omega), a7 34 (by omega), a6 34 (by omega), a5 34 (by omega), a4 34 (by omega), b3 j hj, a2 (8 + 3) (by omega), a1 (8 + 3) (by omega), qe _ _ (by omega)]
  have f4 : ∀ j, j < 10 → S10.1 35 j = S.1 12 j := fun j hj => by
    rw [a10 35 (by omega), a9 35 (by omega), a8 35 (by omega), a7 35 (by omega), a6 35 (by omega), a5 35 (by omega), b4 j hj, a3 (8 + 4) (by omega), a2 (8 + 4) (by omega), a1 (8 + 4) (by omega), qe _ _ (by omega)]
  have f5 : ∀ j, j < 10 → S10.1 36 j = S.1 13 j := fun j hj => by
    rw [a10 36 (by omega), a9 36 (by omega), a8 36 (by omega), a7 36 (by omega), a6 36 (by omega), b5 j hj, a4 (8 + 5) (by omega), a3 (8 + 5) (by omega), a2 (8 + 5) (by omega), a1 (8 + 5) (by omega), qe _ _ (by omega)]
  have f6 : ∀ j, j < 10 → S10.1 37 j = S.1 14 j := fun j hj => by
    rw [a10 37 (by omega), a9 37 (by omega), a8 37 (by omega), a7 37 (by omega), b6 j hj, a5 (8 + 6) (by omega), a4 (8 + 6) (by omega), a3 (8 + 6) (by omega), a2 (8 + 6) (by omega), a1 (8 + 6) (by omega), qe _ _ (by omega)]
  have f7 : ∀ j, j < 10 → S10.1 38 j = S.1 15 j := fun j hj => by
    rw [a10 38 (by omega), a9 38 (by omega), a8 38 (by omega), b7 j hj, a6 (8 + 7) (by omega), a5 (8 + 7) (by omega), a4 (8 + 7) (by omega), a3 (8 + 7) (by omega), a2 (8 + 7) (by omega), a1 (8 + 7) (by omega), qe _ _ (by omega)]
  have f8 : ∀ j, j < 10 → S10.1 39 j = S.1 16 j := fun j hj => by
    rw [a10 39 (by omega), a9 39 (by omega), b8 j hj, a7 (8 + 8) (by omega), a6 (8 + 8) (by omega), a5 (8 + 8) (by omega), a4 (8 + 8) (by omega), a3 (8 + 8) (by omega), a2 (8 + 8) (by omega), a1 (8 + 8) (by omega), qe _ _ (by omega)]
  have f9 : ∀ j, j < 2 → S10.1 40 j = S.1 17 j := fun j hj => by
    rw [a10 40 (by omega), b9 j hj, a8 (8 + 9) (by omega), a7 (8 + 9) (by omega), a6 (8 + 9) (by omega), a5 (8 + 9) (by omega), a4 (8 + 9) (by omega), a3 (8 + 9) (by omega), a2 (8 + 9) (by omega), a1 (8 + 9) (by omega), qe _ _ (by omega)]
  have f10 : ∀ j, j < 4 → S10.1 41 j = S.1 18 j := fun j hj => by
    rw [b10 j hj, a9 (8 + 10) (by omega), a8 (8 + 10) (by omega), a7 (8 + 10) (by omega), a6 (8 + 10) (by omega), a5 (8 + 10) (by omega), a4 (8 + 10) (by omega), a3 (8 + 10) (by omega), a2 (8 + 10) (by omega), a1 (8 + 10) (by omega), qe _ _ (by omega)]
  have s2 : S10.2 = S.2 := by rw [c10, c9, c8, c7, c6, c5, c4, c3, c2, c1, qs]
  refine lp0 (fun fuel v Z => f_X7_take_136 31 8 fuel v Z) 3 (fun j Z => (∀ k, k < j → lwc Z (44 + 3 * k) (L k)) ∧ (∀ c q, c < 44 ∨ 53 ≤ c → Z.1 c q = S10.1 c q) ∧ Z.2 = S.2) (by omega) S10 ⟨fun k hk => absurd hk (Nat.not_lt_zero k), fun _ _ _ => rfl, s2⟩ ?_ ?_
  · rintro fuel Z ⟨z1, z2, z3⟩
    show wp (f_X7_take_136 31 8 (fuel + 1) (nI 3) Z) _
    unfold f_X7_take_136
    refine wp_pos (by decide) (wp_some ⟨⟨?_, ?_, ?_, fun j hj => ?_, fun j hj => ?_, fun c hc e => ?_, fun j hj => ?_, fun k hk => ?_⟩, fun c q h => ?_, z3⟩)
    · rw [z2 _ _ (by omega), so 31 (by omega), q0]; exact d1
    · rw [z2 _ _ (by omega), so 31 (by omega), q1]; exact d2
    · rw [z2 _ _ (by omega), so 31 (by omega), q2]; exact d3
    · rw [z2 _ _ (by omega), z2 _ _ (by omega), z2 _ _ (by omega), f1 j (by omega), f2 j (by omega), f3 j (by omega)]; exact d4 j hj
    · rw [z2 _ _ (by omega), z2 _ _ (by omega), z2 _ _ (by omega), z2 _ _ (by omega), z2 _ _ (by omega), f4 j (by omega), f5 j (by omega), f6 j (by omega), f7 j (by omega), f8 j (by omega)]; exact d5 j hj
    · rw [z2 _ _ (by omega), f9 c hc]; exact d6 c hc e
    · rw [z2 _ _ (by omega), f10 j hj]; exact d7 j hj
    · have := z1 k hk
      refine ⟨fun e => ?_, fun l e => ?_⟩
      · rw [e] at this; exact this.1
      · rw [e] at this
        exact ⟨this.1, this.2.1, fun j hj => by rw [show 45 + 3 * k = 44 + 3 * k + 1 by omega]; exact this.2.2.2 j hj⟩
    · rw [z2 c q (by omega), so c (by omega), qe c q (by omega)]
  · rintro fuel j Z hj ⟨z1, z2, z3⟩ ih
    try simp only at ih
    show wp (f_X7_take_136 31 8 (fuel + 1) (nI j) Z) _
    unfold f_X7_take_136
    refine wp_neg (nI_ge (b := 3) hj (by omega)) (wp_pos (inbN hj (by omega)) (wp_pos (inbN hj (by omega)) ?_))
    rw [clN hj (by omega), nI_1, show 31 + 13 + 3 * j = 44 + 3 * j by omega, show 8 + 13 + 3 * j = 21 + 3 * j by omega]
    refine wp_call (lwc_T (l := L j) (by omega) (lwc_to (hL j hj) (fun c q h => by rw [z2 c q (by omega), so c (by omega), qe c q (by omega)]))) ?_
    rintro Z' ⟨y1, y2, y3⟩
    refine ih Z' ⟨fun k hk => ?_, fun c q h => ?_, by rw [y3]; exact z3⟩
    · by_cases e : k = j
      · rw [e]; exact y1
      · exact lwc_to (z1 k (by omega)) (fun c q h => y2 c q (by omega) (by omega))
    · rw [y2 c q (by omega) (by omega)]; exact z2 c q h
end TXT
