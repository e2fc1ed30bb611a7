/-! PURE 16: more questions -/
theorem nI_n2 {e : Nat} (h : e < 2 ^ 31) : nI e ≠ -2 := by
  intro c
  have h0 : ¬ nI e < 0 := nI_pos h
  rw [c] at h0
  exact h0 (by decide)
section ASB
variable {C M S : Mem} {N : TN} {T : WS} {L : LWS} {W : WS} {nu : Nat → Nat} {cf : Nat → Int32}
theorem RC_n (h : RC 53 C N W nu cf) (f : frN 53 C S) : RC 53 S N W nu cf := RC_to h (fun c i a b _ => by rw [f.1 c (by omega)]) (by rw [f.2 53 (by omega) (by omega) (by omega)])
theorem TC_n (h : TC C N T L) (f : frN 53 C S) : TC S N T L := TC_to h (fun k a b => f.1 k (by omega))
theorem RM_S {t : Nat} (h : RM t M N W nu) (hnd : N 0 1 ≤ 10) (f : frS M S) : RM t S N W nu := RM_to h hnd (fun c i q => f c i (by unfold chC at q; omega))
theorem q_stays (h : Cp C M) : both C M (f_X9_stays C) (f_X10_stays M) := by
  unfold f_X10_stays
  refine both_m h ?_
  intro N T L W nu M' hq
  unfold f_X9_stays
  obtain ⟨-, -, ⟨hT, hM, hI⟩, ⟨hR, hR', -⟩, -⟩ := hq
  have hnd := hI.2.1
  obtain ⟨-, -, -, r0, -⟩ := RM0 hR'
  refine ⟨itN (fun d x => if bt (W 0 3) d = true ∧ ¬ W 3 d ≤ T 6 d then x ||| (1 <<< (nI d &&& 31)) else x) (N 0 1) 0, ?_, ?_⟩
  · refine lp0 (fun fuel i (x : Int32) => f_X9_stays_4 fuel x i C) (N 0 1) (fun j x => x = itN (fun d x => if bt (W 0 3) d = true ∧ ¬ W 3 d ≤ T 6 d then x ||| (1 <<< (nI d &&& 31)) else x) j 0) (by omega) 0 rfl ?_ ?_
    · rintro fuel x hx
      show wp (f_X9_stays_4 (fuel + 1) x (nI (N 0 1)) C) _
      unfold f_X9_stays_4
      rw [hT.2.1]
      exact wp_pos (Int32.le_refl _) (wp_some ⟨hx, cQ_rf _⟩)
    · rintro fuel j x hj hx ih
      try simp only at ih
      show wp (f_X9_stays_4 (fuel + 1) x (nI j) C) _
      unfold f_X9_stays_4
      rw [hT.2.1]
      refine wp_neg (nI_ge hj (by omega)) ?_
      refine wp_bnde (heldR_C hR (by omega)) ?_
      rw [itN_s, ← hx] at ih
      unfold b01
      by_cases q : bt (W 0 3) j = true
      · rw [if_pos q]
        refine wp_neg (by decide) ?_
        refine wp_rd j rfl (by omega) (hR.2.2.2.2.1 j hj).2.2 ?_
        refine wp_rd j rfl (by omega) (hT.2.2.2.2.1 j hj).2.2.2.1 ?_
        refine wp_if (fun q2 => ?_) (fun q2 => ?_)
        · rw [nI_1]; exact ih _ (by rw [if_neg (fun e => e.2 q2)])
        · rw [nI_1]; exact ih _ (by rw [if_pos ⟨q, q2⟩])
      · rw [if_neg q]
        refine wp_pos rfl ?_
        rw [nI_1]; exact ih _ (by rw [if_neg (fun e => q e.1)])
  · refine lp0 (fun fuel i (x : Int32) => f_X10_stays_9 fuel x i M') (N 0 1) (fun j x => x = itN (fun d x => if bt (W 0 3) d = true ∧ ¬ W 3 d ≤ T 6 d then x ||| (1 <<< (nI d &&& 31)) else x) j 0) (by omega) 0 rfl ?_ ?_
    · rintro fuel x hx
      show wp (f_X10_stays_9 (fuel + 1) x (nI (N 0 1)) M') _
      unfold f_X10_stays_9
      refine wp_rd 1 rfl (by decide) hM.2.1 ?_
      exact wp_pos (Int32.le_refl _) (wp_some ⟨hx, mQ_rf _⟩)
    · rintro fuel j x hj hx ih
      try simp only at ih
      show wp (f_X10_stays_9 (fuel + 1) x (nI j) M') _
      unfold f_X10_stays_9
      refine wp_rd 1 rfl (by decide) hM.2.1 ?_
      refine wp_neg (nI_ge hj (by omega)) ?_
      refine wp_bnde (heldR_M (t := 0) hR' (by omega) hnd hj) ?_
      rw [itN_s, ← hx] at ih
      unfold b01
      by_cases q : bt (W 0 3) j = true
      · rw [if_pos q]
        refine wp_neg (by decide) ?_
        refine wp_rd j rfl (by omega) (r0 j hj).2.2.1 ?_
        refine wp_rd j rfl (by omega) (hM.2.2.2.2.1 j hj).2.2.1 ?_
        refine wp_if (fun q2 => ?_) (fun q2 => ?_)
        · rw [nI_1]; exact ih _ (by rw [if_neg (fun e => e.2 q2), Int32.or_zero])
        · rw [nI_1]; exact ih _ (by rw [if_pos ⟨q, q2⟩])
      · rw [if_neg q]
        refine wp_pos rfl ?_
        rw [nI_1]; exact ih _ (by rw [if_neg (fun e => q e.1), Int32.or_zero])
def wStep (W : WS) (d : Nat) (b : Option Nat) : Option Nat :=
  if bt (W 0 3) d = true then (match b with
    | none => if W 2 d ≤ 0 then none else some d
    | some e => if W 2 d ≤ W 2 e then some e else some d) else b
theorem w_in : ∀ (j : Nat) (e : Nat), itN (wStep W) j none = some e → e < j := by
  intro j
  induction j with
  | zero => intro e h; cases h
  | succ j ih =>
    intro e h
    rw [itN_s] at h
    cases hb : itN (wStep W) j none with
    | none =>
      rw [hb] at h
      unfold wStep at h
      by_cases q : bt (W 0 3) j = true
      · rw [if_pos q] at h
        by_cases q2 : W 2 j ≤ 0
        · simp [q2] at h
        · simp [q2] at h; omega
      · rw [if_neg q] at h; cases h
    | some e' =>
      have h0 := ih e' hb
      rw [hb] at h
      unfold wStep at h
      by_cases q : bt (W 0 3) j = true
      · rw [if_pos q] at h
        by_cases q2 : W 2 j ≤ W 2 e'
        · simp [q2] at h; omega
        · simp [q2] at h; omega
      · rw [if_neg q] at h; cases h; omega
def eH (W : WS) (b : Option Nat) : Int32 := match b with
  | none => 0
  | some e => W 2 e
theorem q_worst (h : Cp C M) : both C M (f_X9_worst C) (f_X10_worst M) := by
  unfold f_X10_worst
  refine both_m h ?_
  intro N T L W nu M' hq
  unfold f_X9_worst
  obtain ⟨-, -, ⟨hT, hM, hI⟩, ⟨hR, hR', -⟩, -⟩ := hq
  have hnd := hI.2.1
  obtain ⟨-, -, -, r0, -⟩ := RM0 hR'
  refine ⟨eD (itN (wStep W) (N 0 1) none), ?_, ?_⟩
  · refine lp0 (fun fuel i (b : Option Nat) => f_X9_worst_7 fuel (eD b) (eH W b) i C) (N 0 1) (fun j b => b = itN (wStep W) j none) (by omega) none rfl ?_ ?_
    · rintro fuel b hb
      show wp (f_X9_worst_7 (fuel + 1) (eD b) (eH W b) (nI (N 0 1)) C) _
      unfold f_X9_worst_7
      rw [hT.2.1]
      exact wp_pos (Int32.le_refl _) (wp_some ⟨by rw [hb], cQ_rf _⟩)
    · rintro fuel j b hj hb ih
      try simp only at ih
      show wp (f_X9_worst_7 (fuel + 1) (eD b) (eH W b) (nI j) C) _
      unfold f_X9_worst_7
      rw [hT.2.1]
      refine wp_neg (nI_ge hj (by omega)) ?_
      refine wp_bnde (heldR_C hR (by omega)) ?_
      rw [itN_s, ← hb] at ih
      unfold b01
      have hd := (hR.2.2.2.2.1 j hj).2.1
      by_cases q : bt (W 0 3) j = true
      · rw [if_pos q]
        refine wp_neg (by decide) ?_
        refine wp_rd j rfl (by omega) hd ?_
        cases b with
        | none =>
          refine wp_if (fun q2 => ?_) (fun q2 => ?_)
          · rw [nI_1]; exact ih none (by simp [wStep, q, show W 2 j ≤ 0 from q2])
          · refine wp_rd j rfl (by omega) hd ?_
            rw [nI_1]; exact ih (some j) (by simp [wStep, q, show ¬ W 2 j ≤ 0 from q2])
        | some e =>
          refine wp_if (fun q2 => ?_) (fun q2 => ?_)
          · rw [nI_1]; exact ih (some e) (by simp [wStep, q, show W 2 j ≤ W 2 e from q2])
          · refine wp_rd j rfl (by omega) hd ?_
            rw [nI_1]; exact ih (some j) (by simp [wStep, q, show ¬ W 2 j ≤ W 2 e from q2])
      · rw [if_neg q]
        refine wp_pos rfl ?_
        rw [nI_1]; exact ih b (by unfold wStep; rw [if_neg q])
  · refine lp0 (fun fuel i (b : Option Nat) => f_X10_worst_10 fuel (eD b) i M') (N 0 1) (fun j b => b = itN (wStep W) j none) (by omega) none rfl ?_ ?_
    · rintro fuel b hb
      show wp (f_X10_worst_10 (fuel + 1) (eD b) (nI (N 0 1)) M') _
      unfold f_X10_worst_10
      refine wp_rd 1 rfl (by decide) hM.2.1 ?_
      exact wp_pos (Int32.le_refl _) (wp_some ⟨by rw [hb], mQ_rf _⟩)
    · rintro fuel j b hj hb ih
      try simp only at ih
      show wp (f_X10_worst_10 (fuel + 1) (eD b) (nI j) M') _
      unfold f_X10_worst_10
      refine wp_rd 1 rfl (by decide) hM.2.1 ?_
      refine wp_neg (nI_ge hj (by omega)) ?_
      refine wp_bnde (heldR_M (t := 0) hR' (by omega) hnd hj) ?_
      rw [itN_s, ← hb] at ih
      unfold b01
      have hd := (r0 j hj).2.1
      by_cases q : bt (W 0 3) j = true
      · rw [if_pos q]
        refine wp_neg (by decide) ?_
        refine wp_rd j rfl (by omega) hd ?_
        cases b with
        | none =>
          refine wp_pos rfl ?_
          unfold f_X10_worst_51
          refine wp_if (fun q2 => ?_) (fun q2 => ?_)
          · rw [nI_1]; exact ih none (by simp [wStep, q, q2])
          · rw [nI_1]; exact ih (some j) (by simp [wStep, q, q2])
        | some e =>
          have he := w_in j e hb.symm
          refine wp_neg (nI_n2 (by omega)) ?_
          refine wp_rd e rfl (by omega) (r0 e (by omega)).2.1 ?_
          unfold f_X10_worst_51
          refine wp_if (fun q2 => ?_) (fun q2 => ?_)
          · rw [nI_1]; exact ih (some e) (by simp [wStep, q, q2])
          · rw [nI_1]; exact ih (some j) (by simp [wStep, q, q2])
      · rw [if_neg q]
        refine wp_pos rfl ?_
        rw [nI_1]; exact ih b (by unfold wStep; rw [if_neg q])
/-! sums -/
theorem hurtAll_C {w : Nat} (hT : TC C N T L) (hI : TI N T L) (h : RC w C N W nu cf) : f_X8_hurtOfAll w C = some (itN (fun d s => s + W 2 d) (N 0 1) 0, C) := by
  have hnd := hI.2.1
  unfold f_X8_hurtOfAll
  suffices hh : wp (f_X8_hurtOfAll_4 w FU 0 0 C) (fun q => q = (itN (fun d s => s + W 2 d) (N 0 1) 0, C)) by
    obtain ⟨y, hy, rfl⟩ := hh
    exact hy
  refine lp0 (fun fuel i (x : Int32) => f_X8_hurtOfAll_4 w fuel x i C) (N 0 1) (fun j x => x = itN (fun d s => s + W 2 d) j 0) (by omega) 0 rfl ?_ ?_
  · rintro fuel x hx
    show wp (f_X8_hurtOfAll_4 w (fuel + 1) x (nI (N 0 1)) C) _
    unfold f_X8_hurtOfAll_4
    rw [hT.2.1]
    exact wp_pos (Int32.le_refl _) (wp_some (by rw [hx]))
  · rintro fuel j x hj hx ih
    try simp only at ih
    show wp (f_X8_hurtOfAll_4 w (fuel + 1) x (nI j) C) _
    unfold f_X8_hurtOfAll_4
    rw [hT.2.1]
    refine wp_neg (nI_ge hj (by omega)) ?_
    refine wp_rd j rfl (by omega) (h.2.2.2.2.1 j hj).2.1 ?_
    rw [nI_1]; exact ih _ (by rw [itN_s, ← hx])
theorem hurtAll_M {t : Nat} (ht : t < 23) (hM : TM M N T L) (hI : TI N T L) (h : RM t M N W nu) : f_X10_hurtAll (nI t) M = some (itN (fun d s => s + W 2 d) (N 0 1) 0, M) := by
  have hnd := hI.2.1
  unfold f_X10_hurtAll
  suffices hh : wp (f_X10_hurtAll_4 FU (nI t) 0 0 M) (fun q => q = (itN (fun d s => s + W 2 d) (N 0 1) 0, M)) by
    obtain ⟨y, hy, rfl⟩ := hh
    exact hy
  refine lp0 (fun fuel i (x : Int32) => f_X10_hurtAll_4 fuel (nI t) x i M) (N 0 1) (fun j x => x = itN (fun d s => s + W 2 d) j 0) (by omega) 0 rfl ?_ ?_
  · rintro fuel x hx
    show wp (f_X10_hurtAll_4 (fuel + 1) (nI t) x (nI (N 0 1)) M) _
    unfold f_X10_hurtAll_4
    refine wp_rd 1 rfl (by decide) hM.2.1 ?_
    exact wp_pos (Int32.le_refl _) (wp_some (by rw [hx]))
  · rintro fuel j x hj hx ih
    try simp only at ih
    show wp (f_X10_hurtAll_4 (fuel + 1) (nI t) x (nI j) M) _
    unfold f_X10_hurtAll_4
    refine wp_rd 1 rfl (by decide) hM.2.1 ?_
    refine wp_neg (nI_ge hj (by omega)) ?_
    refine wp_rd (10 * t + j) (ix10 t j) (by omega) (h.2.2.2.1 j hj).2.1 ?_
    rw [nI_1]; exact ih _ (by rw [itN_s, ← hx])
theorem ang_C {w : Nat} (h : RC w C N W nu cf) : f_X8_angerOfBoth w C = some (W 5 0 + W 5 1, C) := by
  unfold f_X8_angerOfBoth
  rw [show rd C (w + 5) 2 (0 : Int32) = some (C.1 (w + 5) 0) from rdN (j := 0) (by decide) (by decide), show rd C (w + 5) 2 (1 : Int32) = some (C.1 (w + 5) 1) from rdN (j := 1) (by decide) (by decide), (h.2.2.2.2.2.1 0 (by decide)).1, (h.2.2.2.2.2.1 1 (by decide)).1]
  rfl
theorem bre_C {w : Nat} (h : RC w C N W nu cf) : f_X8_breachesOfBoth w C = some (W 6 0 + W 6 1, C) := by
  unfold f_X8_breachesOfBoth
  rw [show rd C (w + 6) 2 (0 : Int32) = some (C.1 (w + 6) 0) from rdN (j := 0) (by decide) (by decide), show rd C (w + 6) 2 (1 : Int32) = some (C.1 (w + 6) 1) from rdN (j := 1) (by decide) (by decide), (h.2.2.2.2.2.1 0 (by decide)).2, (h.2.2.2.2.2.1 1 (by decide)).2]
  rfl
theorem ix20 (t : Nat) : (2 : Int32) * nI t = nI (2 * t) := by rw [show (2 : Int32) = nI 2 from rfl, pk_mul]
theorem ix21 (t : Nat) : (2 : Int32) * nI t + 1 = nI (2 * t + 1) := by rw [ix20, nI_1]
theorem ang_M {t : Nat} (ht : t < 23) (h : RM t M N W nu) : f_X10_angerBoth (nI t) M = some (W 5 0 + W 5 1, M) := by
  unfold f_X10_angerBoth
  rw [ix21, ix20, rdN (by omega) (by decide), rdN (by omega) (by decide), (h.2.2.2.2 1 (by decide)).1, show M.1 19 (2 * t) = W 5 0 from (h.2.2.2.2 0 (by decide)).1]
  rfl
theorem bre_M {t : Nat} (ht : t < 23) (h : RM t M N W nu) : f_X10_breachesBoth (nI t) M = some (W 6 0 + W 6 1, M) := by
  unfold f_X10_breachesBoth
  rw [ix21, ix20, rdN (by omega) (by decide), rdN (by omega) (by decide), (h.2.2.2.2 1 (by decide)).2, show M.1 20 (2 * t) = W 6 0 from (h.2.2.2.2 0 (by decide)).2]
  rfl
theorem known_C {z : Nat} (h : pNotes C M N) : ∃ r, f_X2_knownSize C = some (r, C) ∧ f_X10_knownMany M = some (r, M) := by
  obtain ⟨z, a, b, c, d, e, f⟩ := h
  unfold f_X2_knownSize f_X10_knownMany
  rw [← d]
  by_cases q : C.1 77 1 = -1
  · rw [if_pos q, if_pos q, b, c]; exact ⟨_, rfl, rfl⟩
  · rw [if_neg q, if_neg q]; exact ⟨_, rfl, rfl⟩
theorem q_count (h : Cp C M) (v : Int32) : both C M (f_X9_count v C) (f_X10_count v M) := by
  unfold f_X10_count
  refine both_m h ?_
  intro N T L W nu M' hq
  unfold f_X9_count
  obtain ⟨-, -, ⟨hT, hM, hI⟩, ⟨hR, hR', ⟨hW, -⟩⟩, -, ⟨u, -, u1, u2, -⟩, hN, -⟩ := hq
  obtain ⟨m0, -, m2, -, -⟩ := RM0 hR'
  have hnd := hI.2.1
  by_cases c0 : v = 0
  · rw [if_pos c0, if_pos c0]; exact bq _ rfl (by rw [hT.1, show rd M' 2 14 (0 : Int32) = some (M'.1 2 0) from rdN (j := 0) (by decide) (by decide), hM.1]; rfl)
  rw [if_neg c0, if_neg c0]
  by_cases c1 : v = 1
  · rw [if_pos c1, if_pos c1]; exact bq _ rfl (by rw [hT.2.1, show rd M' 2 14 (1 : Int32) = some (M'.1 2 1) from rdN (j := 1) (by decide) (by decide), hM.2.1]; rfl)
  rw [if_neg c1, if_neg c1]
  by_cases c2 : v = 2
  · rw [if_pos c2, if_pos c2]; exact bq _ rfl (by rw [hT.2.2.1, show rd M' 2 14 (6 : Int32) = some (M'.1 2 6) from rdN (j := 6) (by decide) (by decide), hM.2.2.1]; rfl)
  rw [if_neg c2, if_neg c2]
  by_cases c3 : v = 3
  · rw [if_pos c3, if_pos c3]; exact bq _ rfl (by rw [hR.1, show rd M' 16 23 (0 : Int32) = some (M'.1 16 0) from rdN (j := 0) (by decide) (by decide), m0]; rfl)
  rw [if_neg c3, if_neg c3]
  by_cases c4 : v = 4
  · rw [if_pos c4, if_pos c4]
    have e0 : f_X10_heldBy 0 M' = some (hMask N (W 0 3) 0, M') := heldBy_M (c := 0) hM hI hR' (by decide)
    have e1 : f_X10_heldBy 1 M' = some (hMask N (W 0 3) 1, M') := heldBy_M (c := 1) hM hI hR' (by decide)
    have em : hMask N (W 0 3) 0 ||| hMask N (W 0 3) 1 = W 0 3 := by
      apply bt_ext2
      intro e
      rw [bt_or, Bool.or_eq_true, hMask_bt hnd, hMask_bt hnd]
      constructor
      · rintro (q | q)
        · exact q.1
        · exact q.1
      · intro q
        have := hW.2.2 e q
        by_cases o : ow N e = 0
        · exact Or.inr ⟨q, this, by omega⟩
        · exact Or.inl ⟨q, this, o⟩
    rw [hR.2.1, bits_Cx (fun e he => by have := hW.2.2 e he; omega), e0, bnd_some, bnd_some, e1, bnd_some, em, bits_M]
    exact bq _ rfl rfl
  rw [if_neg c4, if_neg c4]
  by_cases c5 : v = 5
  · rw [if_pos c5, if_pos c5, hurtAll_C hT hI hR, show f_X10_hurtAll 0 M' = _ from hurtAll_M (t := 0) (by omega) hM hI hR']
    exact bq _ rfl rfl
  rw [if_neg c5, if_neg c5]
  by_cases c6 : v = 6
  · rw [if_pos c6, if_pos c6, ang_C hR, show f_X10_angerBoth 0 M' = _ from ang_M (t := 0) (by omega) hR']
    exact bq _ rfl rfl
  rw [if_neg c6, if_neg c6]
  by_cases c7 : v = 7
  · rw [if_pos c7, if_pos c7, bre_C hR, show f_X10_breachesBoth 0 M' = _ from bre_M (t := 0) (by omega) hR']
    exact bq _ rfl rfl
  rw [if_neg c7, if_neg c7]
  by_cases c8 : v = 8
  · rw [if_pos c8, if_pos c8]; exact bq _ rfl (by rw [hR.2.2.1, show rd M' 18 23 (0 : Int32) = some (M'.1 18 0) from rdN (j := 0) (by decide) (by decide), m2]; rfl)
  rw [if_neg c8, if_neg c8]
  by_cases c9 : v = 9
  · rw [if_pos c9, if_pos c9]
    obtain ⟨z, a, b, c, -⟩ := hN
    exact bq _ rfl (by rw [b, c])
  rw [if_neg c9, if_neg c9]
  by_cases c10 : v = 10
  · rw [if_pos c10, if_pos c10]
    obtain ⟨r, a, b⟩ := known_C (z := 0) hN
    rw [a, b]
    exact bq _ rfl rfl
  rw [if_neg c10, if_neg c10]
  by_cases c11 : v = 11
  · rw [if_pos c11, if_pos c11]; exact bq _ rfl (by rw [u1, u2])
  rw [if_neg c11, if_neg c11]
  exact bq _ rfl rfl
/-- doll: the kind of its end, its answer -/
theorem q_doll (h : Cp C M) (v x : Int32) : wp (dollK v x C) (fun q => wp (f_X10_doll v x M) (fun p => p.2.1 0 0 = q.1 ∧ (q.1 = 0 → p.1 = q.2.1) ∧ Cp q.2.2 p.2)) := by
  obtain ⟨N, T, L, W, nu, hq⟩ := h
  have hcp : ∀ k, Cp C (sI M 0 0 k) := fun k => ⟨N, T, L, W, nu, Cq_q hq (cQ_rf _) mQ_0⟩
  have hq' : ∀ k, Cq C (sI M 0 0 k) N T L W nu := fun k => Cq_q hq (cQ_rf _) mQ_0
  obtain ⟨-, -, ⟨hT, hM, hI⟩, ⟨hR, hR', -⟩, -⟩ := hq
  have hnd := hI.2.1
  unfold dollK f_X10_doll
  have thr : ∀ k : Int32, k = 1 ∨ k = 2 → wp (some (k, (0 : Int32), C)) (fun q => wp (f_X10_doll_28 v x k M) (fun p => p.2.1 0 0 = q.1 ∧ (q.1 = 0 → p.1 = q.2.1) ∧ Cp q.2.2 p.2)) := by
    intro k hk
    refine wp_some ?_
    unfold f_X10_doll_28
    refine wp_nxt (wp_neg ?_ (wp_some ⟨?_, fun _ => rfl, hcp k⟩))
    · rw [sI1, if_pos ⟨rfl, rfl⟩]
      rcases hk with rfl | rfl <;> decide
    · rw [sI1, if_pos ⟨rfl, rfl⟩]
  rcases ix_d v (n := N 0 1) (by omega) with ⟨d, hd, rfl⟩ | hv
  · rw [doll_C1 hT hI hd, bnd_some, doll_M1 hM hI hd, bnd_some, if_neg n10, if_neg n10]
    obtain ⟨-, -, ⟨-, kM, -⟩, ⟨-, kR, -⟩, -⟩ := hq' 0
    obtain ⟨-, -, -, r0, -⟩ := RM0 kR
    obtain ⟨a1, a2, a3⟩ := hR.2.2.2.2.1 d hd
    obtain ⟨b1, b2, b3, b4, b5⟩ := hT.2.2.2.2.1 d hd
    obtain ⟨d1, d2, d3, d4⟩ := r0 d hd
    obtain ⟨g1, g2, g3, g4⟩ := kM.2.2.2.2.1 d hd
    have e00 : (sI M 0 0 0).1 0 0 = 0 := by rw [sI1, if_pos ⟨rfl, rfl⟩]
    have fin : ∀ r : Int32, (∀ y : Option (Int32 × Mem), y = some (r, sI M 0 0 0) → wp (some ((0 : Int32), r, C)) (fun q => wp y (fun p => p.2.1 0 0 = q.1 ∧ (q.1 = 0 → p.1 = q.2.1) ∧ Cp q.2.2 p.2))) := fun r y e => wp_some (wp_of e ⟨e00, fun _ => rfl, hcp 0⟩)
    have pre : ∀ z : Int32, x = z → ¬ z < 0 → z ≤ 6 → ∀ r : Int32, (bnd (some ((0 : Int32), sI M 0 0 0)) fun (_ : Int32) (S28 : Mem) => if x = 0 then ((rd S28 21 230 (nI d)).bind fun x85 => some (x85, S28)) else (if x = 1 then (bnd (f_X10_ownerOf (nI d) S28) fun r89 S89 => some (r89, S89)) else (if x = 2 then ((rd S28 8 20 (nI d)).bind fun x98 => some (x98, S28)) else (if x = 3 then ((rd S28 9 20 (nI d)).bind fun x105 => some (x105, S28)) else (if x = 4 then ((rd S28 22 230 (nI d)).bind fun x112 => some (x112, S28)) else (if x = 5 then ((rd S28 23 230 (nI d)).bind fun x119 => some (x119, S28)) else ((rd S28 24 230 (nI d)).bind fun x126 => some (x126, S28)))))))) = some (r, sI M 0 0 0) → (if x < 0 then f_X10_doll_23 (nI d) x M else if x ≤ 6 then f_X10_doll_28 (nI d) x 0 M else f_X10_doll_23 (nI d) x M) = some (r, sI M 0 0 0) := by
      intro z hz h1 h2 r e
      rw [← hz] at h1 h2
      rw [if_neg h1, if_pos h2]
      unfold f_X10_doll_28
      rw [nxt_eq, if_pos e00]
      exact e
    by_cases c0 : x = 0
    · rw [if_pos c0, rdN (by omega) (by decide), a1, Option.bind_some]
      refine fin _ _ (pre 0 c0 (by decide) (by decide) _ ?_)
      rw [bnd_some, if_pos c0, rdN (by omega) (by decide), d1]; rfl
    rw [if_neg c0]
    by_cases c1 : x = 1
    · rw [if_pos c1, rdN (by omega) (by decide), b3, Option.bind_some]
      refine fin _ _ (pre 1 c1 (by decide) (by decide) _ ?_)
      rw [bnd_some, if_neg c0, if_pos c1, owner_M kM hI hd]; rfl
    rw [if_neg c1]
    by_cases c2 : x = 2
    · rw [if_pos c2, rdN (by omega) (by decide), b4, Option.bind_some]
      refine fin _ _ (pre 2 c2 (by decide) (by decide) _ ?_)
      rw [bnd_some, if_neg c0, if_neg c1, if_pos c2, rdN (by omega) (by decide), g3]; rfl
    rw [if_neg c2]
    by_cases c3 : x = 3
    · rw [if_pos c3, rdN (by omega) (by decide), b5, Option.bind_some]
      refine fin _ _ (pre 3 c3 (by decide) (by decide) _ ?_)
      rw [bnd_some, if_neg c0, if_neg c1, if_neg c2, if_pos c3, rdN (by omega) (by decide), g4]; rfl
    rw [if_neg c3]
    by_cases c4 : x = 4
    · rw [if_pos c4, rdN (by omega) (by decide), a2, Option.bind_some]
      refine fin _ _ (pre 4 c4 (by decide) (by decide) _ ?_)
      rw [bnd_some, if_neg c0, if_neg c1, if_neg c2, if_neg c3, if_pos c4, rdN (by omega) (by decide), d2]; rfl
    rw [if_neg c4]
    by_cases c5 : x = 5
    · rw [if_pos c5, rdN (by omega) (by decide), a3, Option.bind_some]
      refine fin _ _ (pre 5 c5 (by decide) (by decide) _ ?_)
      rw [bnd_some, if_neg c0, if_neg c1, if_neg c2, if_neg c3, if_neg c4, if_pos c5, rdN (by omega) (by decide), d3]; rfl
    rw [if_neg c5]
    by_cases c6 : x = 6
    · rw [if_pos c6, heldR_C hR (by omega), bnd_some]
      have e6 : (bnd (some ((0 : Int32), sI M 0 0 0)) fun (_ : Int32) (S28 : Mem) => if x = 0 then ((rd S28 21 230 (nI d)).bind fun x85 => some (x85, S28)) else (if x = 1 then (bnd (f_X10_ownerOf (nI d) S28) fun r89 S89 => some (r89, S89)) else (if x = 2 then ((rd S28 8 20 (nI d)).bind fun x98 => some (x98, S28)) else (if x = 3 then ((rd S28 9 20 (nI d)).bind fun x105 => some (x105, S28)) else (if x = 4 then ((rd S28 22 230 (nI d)).bind fun x112 => some (x112, S28)) else (if x = 5 then ((rd S28 23 230 (nI d)).bind fun x119 => some (x119, S28)) else ((rd S28 24 230 (nI d)).bind fun x126 => some (x126, S28)))))))) = some (b01 (bt (W 0 3) d), sI M 0 0 0) := by
        rw [bnd_some, if_neg c0, if_neg c1, if_neg c2, if_neg c3, if_neg c4, if_neg c5, rdN (by omega) (by decide), d4]; rfl
      have e7 := pre 6 c6 (by decide) (by decide) _ e6
      unfold b01 at e7 ⊢
      by_cases q : bt (W 0 3) d = true
      · rw [if_pos q] at e7 ⊢
        rw [if_neg n10]
        exact fin _ _ e7
      · rw [if_neg q] at e7 ⊢
        rw [if_pos rfl]
        exact fin _ _ e7
    rw [if_neg c6]
    have e2 : (if x < 0 then f_X10_doll_23 (nI d) x M else if x ≤ 6 then f_X10_doll_28 (nI d) x 0 M else f_X10_doll_23 (nI d) x M) = f_X10_doll_28 (nI d) x 2 M := by
      by_cases q : x < 0
      · rw [if_pos q]; rfl
      · rw [if_neg q]
        by_cases q2 : x ≤ 6
        · obtain ⟨j, hj, rfl⟩ := nI_of2 (M := 6) (n := 6) rfl q q2
          rcases (by omega : j = 0 ∨ j = 1 ∨ j = 2 ∨ j = 3 ∨ j = 4 ∨ j = 5 ∨ j = 6) with rfl | rfl | rfl | rfl | rfl | rfl | rfl
          · exact absurd rfl c0
          · exact absurd rfl c1
          · exact absurd rfl c2
          · exact absurd rfl c3
          · exact absurd rfl c4
          · exact absurd rfl c5
          · exact absurd rfl c6
        · rw [if_neg q2]; rfl
    rw [e2]
    exact thr 2 (Or.inr rfl)
  · rw [doll_C0 hT hv, bnd_some, doll_M0 hM hv, bnd_some, if_pos rfl, if_pos rfl]
    exact thr 1 (Or.inl rfl)
end ASB
