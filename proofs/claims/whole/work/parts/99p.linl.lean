/-! PURE 65: the text: a law's line -/
section LINL
variable {C C' M M' S S' : Mem} {b : Nat → Nat} {n m i kn ln f w s k j : Nat} {N : TN} {T : WS} {L : LWS} {mk : Nat → Bool} {l : List Nat}
def LlU (L : LWS) (k : Nat) (l : List Nat) : LWS := fun q => if q = k then some l else L q
theorem TC_law (h : TC (shC C) N T L) (hk : k < 3) {v : Int32} (e : ∀ c j, 8 ≤ c → c ≤ 29 → ¬ (c = 8 ∧ j = 2) → ¬ (c = 21 + 3 * k ∧ (j = 0 ∨ j = 1)) → c ≠ 22 + 3 * k → C'.1 c j = C.1 c j)
    (e2 : C'.1 8 2 = v) (e0 : C'.1 (21 + 3 * k) 0 = 1) (e1 : C'.1 (21 + 3 * k) 1 = nI l.length) (er : ∀ j, j < l.length → C'.1 (22 + 3 * k) j = nI (l.getD j 0)) : TC (shC C') N (wu T 9 0 v) (LlU L k l) := by
  obtain ⟨d1, d2, d3, d4, d5, d6, d7, d8⟩ := h
  have ee : ∀ c j, 31 ≤ c → c < 53 → ¬ (c = 31 ∧ j = 2) → ¬ (c = 44 + 3 * k ∧ (j = 0 ∨ j = 1)) → c ≠ 45 + 3 * k → (shC C').1 c j = (shC C).1 c j := fun c j a1 a2 a3 a4 a5 => e (c - 23) j (by omega) (by omega) (by omega) (by omega) (by omega)
  have t : ∀ r j, r ≠ 9 → wu T 9 0 v r j = T r j := fun r j hr => by rw [wu1, if_neg (by omega)]
  refine ⟨?_, ?_, ?_, fun q hq => ?_, fun d hd => ?_, fun c hc x => ?_, fun q hq => ?_, fun q hq => ?_⟩
  · rw [ee _ _ (by omega) (by omega) (by omega) (by omega) (by omega)]; exact d1
  · rw [ee _ _ (by omega) (by omega) (by omega) (by omega) (by omega)]; exact d2
  · rw [wu1, if_pos ⟨rfl, rfl⟩]; exact e2
  · rw [ee _ _ (by omega) (by omega) (by omega) (by omega) (by omega), ee _ _ (by omega) (by omega) (by omega) (by omega) (by omega), ee _ _ (by omega) (by omega) (by omega) (by omega) (by omega), t _ _ (by omega)]; exact d4 q hq
  · rw [ee _ _ (by omega) (by omega) (by omega) (by omega) (by omega), ee _ _ (by omega) (by omega) (by omega) (by omega) (by omega), ee _ _ (by omega) (by omega) (by omega) (by omega) (by omega), ee _ _ (by omega) (by omega) (by omega) (by omega) (by omega), ee _ _ (by omega) (by omega) (by omega) (by omega) (by omega), t _ _ (by omega), t _ _ (by omega), t _ _ (by omega)]; exact d5 d hd
  · rw [ee _ _ (by omega) (by omega) (by omega) (by omega) (by omega)]; exact d6 c hc x
  · rw [ee _ _ (by omega) (by omega) (by omega) (by omega) (by omega), t _ _ (by omega)]; exact d7 q hq
  · unfold LlU
    by_cases z : q = k
    · rw [if_pos z]
      subst z
      refine ⟨fun hL => (by cases hL), fun l' hL => ?_⟩
      cases hL
      refine ⟨?_, ?_, fun j hj => ?_⟩
      · show C'.1 (44 + 3 * q - 23) 0 = 1
        rw [show 44 + 3 * q - 23 = 21 + 3 * q by omega]; exact e0
      · show C'.1 (44 + 3 * q - 23) 1 = _
        rw [show 44 + 3 * q - 23 = 21 + 3 * q by omega]; exact e1
      · show C'.1 (45 + 3 * q - 23) j = _
        rw [show 45 + 3 * q - 23 = 22 + 3 * q by omega]; exact er j hj
    · rw [if_neg z]
      refine ⟨fun hL => ?_, fun l' hL => ?_⟩
      · rw [ee _ _ (by omega) (by omega) (by omega) (by omega) (by omega)]; exact (d8 q hq).1 hL
      · obtain ⟨x1, x2, x3⟩ := (d8 q hq).2 l' hL
        refine ⟨by rw [ee _ _ (by omega) (by omega) (by omega) (by omega) (by omega)]; exact x1, by rw [ee _ _ (by omega) (by omega) (by omega) (by omega) (by omega)]; exact x2, fun j hj => ?_⟩
        rw [ee _ _ (by omega) (by omega) (by omega) (by omega) (by omega)]; exact x3 j hj
theorem TM_law (h : TM (shM M) N T L) (hk : k < 3) (hx : ∀ q, q < 3 → ∀ l, L q = some l → ∃ a, a ≤ kn ∧ M.1 11 (3 + q) = nI a) (hkn : kn + l.length ≤ 64)
    (e : ∀ c j, 2 ≤ c → c ≤ 13 → ¬ (c = 2 ∧ j = 13) → ¬ ((c = 10 ∨ c = 11) ∧ j = 3 + k) → ¬ ((c = 12 ∨ c = 13) ∧ 64 + kn ≤ j) → M'.1 c j = M.1 c j)
    (e13 : M'.1 2 13 = nI (kn + l.length)) (e10 : M'.1 10 (3 + k) = nI kn) (e11 : M'.1 11 (3 + k) = nI (kn + l.length))
    (er : ∀ j, j < l.length → M'.1 12 (64 + kn + j) = nI (ks (l.getD j 0)) ∧ M'.1 13 (64 + kn + j) = nI (kv (l.getD j 0))) : TM (shM M') N (wu T 9 0 (nI (kn + l.length))) (LlU L k l) := by
  obtain ⟨d1, d2, d3, d4, d5, d6, d7⟩ := h
  have ee : ∀ c j, 2 ≤ c → c ≤ 13 → ¬ (c = 2 ∧ j = 6) → ¬ ((c = 10 ∨ c = 11) ∧ j = k) → ¬ ((c = 12 ∨ c = 13) ∧ kn ≤ j) → (shM M').1 c j = (shM M).1 c j := by
    intro c j a1 a2 a3 a4 a5
    show M'.1 c (shI c j) = M.1 c (shI c j)
    have h1 : c = 2 → shI c j = 7 + j := fun z => by unfold shI; rw [if_pos z]
    have h2 : (c = 10 ∨ c = 11) → shI c j = 3 + j := fun z => by unfold shI; rw [if_neg (by omega), if_neg (by omega), if_neg (by omega), if_pos (by omega)]
    have h3 : (c = 12 ∨ c = 13) → shI c j = 64 + j := fun z => by unfold shI; rw [if_neg (by omega), if_neg (by omega), if_neg (by omega), if_neg (by omega)]
    refine e c _ a1 a2 (fun z => ?_) (fun z => ?_) (fun z => ?_)
    · have := h1 z.1; omega
    · have := h2 z.1; omega
    · have := h3 z.1; omega
  have t : ∀ r j, r ≠ 9 → wu T 9 0 (nI (kn + l.length)) r j = T r j := fun r j hr => by rw [wu1, if_neg (by omega)]
  refine ⟨?_, ?_, ?_, fun q hq => ?_, fun d hd => ?_, fun q hq => ?_, fun q hq => ?_⟩
  · rw [ee _ _ (by omega) (by omega) (by omega) (by omega) (by omega)]; exact d1
  · rw [ee _ _ (by omega) (by omega) (by omega) (by omega) (by omega)]; exact d2
  · rw [wu1, if_pos ⟨rfl, rfl⟩]; exact e13
  · rw [ee _ _ (by omega) (by omega) (by omega) (by omega) (by omega), ee _ _ (by omega) (by omega) (by omega) (by omega) (by omega), ee _ _ (by omega) (by omega) (by omega) (by omega) (by omega), t _ _ (by omega)]; exact d4 q hq
  · rw [ee _ _ (by omega) (by omega) (by omega) (by omega) (by omega), ee _ _ (by omega) (by omega) (by omega) (by omega) (by omega), ee _ _ (by omega) (by omega) (by omega) (by omega) (by omega), ee _ _ (by omega) (by omega) (by omega) (by omega) (by omega), t _ _ (by omega), t _ _ (by omega), t _ _ (by omega)]; exact d5 d hd
  · rw [ee _ _ (by omega) (by omega) (by omega) (by omega) (by omega), t _ _ (by omega)]; exact d6 q hq
  · unfold LlU
    by_cases z : q = k
    · rw [if_pos z]
      subst z
      refine ⟨fun hL => (by cases hL), fun l' hL => ?_⟩
      cases hL
      refine ⟨kn, e10, e11, hkn, fun j hj => ?_⟩
      show M'.1 12 (64 + (kn + j)) = _ ∧ M'.1 13 (64 + (kn + j)) = _
      rw [← Nat.add_assoc]
      exact er j hj
    · rw [if_neg z]
      refine ⟨fun hL => ?_, fun l' hL => ?_⟩
      · rw [ee _ _ (by omega) (by omega) (by omega) (by omega) (by omega), ee _ _ (by omega) (by omega) (by omega) (by omega) (by omega)]; exact (d7 q hq).1 hL
      · obtain ⟨a, x1, x2, x3, x4⟩ := (d7 q hq).2 l' hL
        obtain ⟨a', y1, y2⟩ := hx q hq l' hL
        have x2' : M.1 11 (3 + q) = nI (a + l'.length) := x2
        rw [y2] at x2'
        have ea := (nI_eq (by omega) (by omega)).mp x2'
        refine ⟨a, by rw [ee _ _ (by omega) (by omega) (by omega) (by omega) (by omega)]; exact x1, by rw [ee _ _ (by omega) (by omega) (by omega) (by omega) (by omega)]; exact x2, x3, fun j hj => ?_⟩
        rw [ee _ _ (by omega) (by omega) (by omega) (by omega) (by omega), ee _ _ (by omega) (by omega) (by omega) (by omega) (by omega)]; exact x4 j hj
theorem rule_v : ∀ k, k < 22 → ((nI (rfJ k) < 9 ∨ ¬ nI (rfJ k) ≤ 11) ↔ k < 19) := by decide +kernel
theorem law65_i {v : Int32} (h : M.1 0 22 ≠ 0) : f_X10_lawLine_65 v M = some M := by
  unfold f_X10_lawLine_65
  rw [if_neg h]
theorem ln_law (hb2 : ∀ i, i < n → b i < 256) (hn : n ≤ 700) (hc : RSc C b n m i N T L mk) (hm : RSm M b n i N T L mk kn ln) (hI : RSp N T L kn) (hk : tK b n i = 33) : lnR C M b n m i ln := by
  obtain ⟨e1, e2⟩ := kd_C hb2 hc hn
  have him := lt_m hc.1 hc.2.2.1 (by show tK b n i ≠ 0; omega)
  obtain ⟨c80, c81, c82⟩ := RSc_00 hc
  have hmn : m ≤ n := hc.1.1
  have hem : eMk b n m := ⟨hc.1.2.1, hmn⟩
  have hd : f_X4_readLine C = (bnd (f_X4_readLaw C) fun r22 S22 => if okz r22 = true then some (r22, S22) else none) := by
    unfold f_X4_readLine
    rw [e1, bnd_some, hk, if_neg (by decide), if_pos (by decide)]
    unfold f_X4_readLine_26
    rw [if_neg (by decide), if_neg (by decide), if_pos (by decide)]
  have hM := head_M (w := 6) hm hI (by omega) (by omega)
  rw [if_neg (by omega), if_neg (by omega)] at hM
  obtain ⟨M2, r1, r2, r3⟩ := l70_M (w := 6) hm hb2 hn (by omega)
  have r2 : RSm M2 b n (i + 1) N T L mk kn ln := RSm_mk r2 (fun s hs => by rw [show decide (2 + s = 6) = false from decide_eq_false (by omega), Bool.or_false])
  have fr6 : ∀ Q : Mem, f_X10_fresher 6 Q = some (Q.1 2 13, Q) := fun Q => fresh_k (k := 6) (by omega)
  have hM : f_X10_line M = (f_X10_lawLine M2).bind fun S => f_X10_line_226 S := by
    rw [hM]
    unfold f_X10_line_70
    rw [if_pos hm.2.1, nxt_eq, r1, Option.bind_some, if_neg (by decide), if_neg (by decide), if_neg (by decide), if_neg (by decide), if_neg (by decide), if_neg (by decide)]
  have hc1 := RSc_n hc (i' := i + 1) him
  have kd1 : f_X4_kind (sI C 3 5 (nI (i + 1))) = some (nI (tK b n (i + 1)), sI C 3 5 (nI (i + 1))) := kindR_C hc1.1 hn hc1.2.1 hc1.2.2.1
  have hkb := tK_b hb2 (i + 1)
  unfold f_X4_readLaw at hd
  rw [nxt_eq, hc.2.1, nI_1, kd1, bnd_some] at hd
  have fC1 : cR C (sI C 3 5 (nI (i + 1))) := cR_s (cR_rf C) (by omega)
  by_cases x : 36 ≤ tK b n (i + 1)
  · obtain ⟨k, hk3, ek⟩ : ∃ k, k < 3 ∧ tK b n (i + 1) = 36 + k := ⟨tK b n (i + 1) - 36, by omega, by omega⟩
    have e36 : nI (tK b n (i + 1)) - 36 = nI k := by
      rw [ek]
      have : ∀ k, k < 3 → nI (36 + k) - 36 = nI k := by decide +kernel
      exact this k hk3
    rw [e36, if_neg (show ¬ nI k < 0 from Int32.not_lt.mpr (nI_le (a := 0) (by omega) (by omega))), if_pos (show nI k < 3 from nI_lt (b := 3) hk3 (by omega)), if_pos (inbN hk3 (by omega)), clN hk3 (by omega), show 8 + 13 + 3 * k = 21 + 3 * k by omega] at hd
    have hv := val_w r2.1 (by omega)
    have e9 : M2.1 0 21 - 9 = nI k := by
      rw [hv, ek]
      have : ∀ k, k < 3 → nI (rfJ (36 + k - 17)) - 9 = nI k := by decide +kernel
      exact this k hk3
    have e16 : (16 : Int32) + nI k = nI (16 + k) := nI_add 16 k
    have hb := r2.2.2.2.2.2.2.2.1 k hk3
    have hNL : f_X10_lawLine M2 = f_X10_lawLine_30 M2 := by
      unfold f_X10_lawLine
      have rl : ¬ (nI (rfJ (tK b n (i + 1) - 17)) < 9 ∨ ¬ nI (rfJ (tK b n (i + 1) - 17)) ≤ 11) := fun q => by have := (rule_v _ (by omega)).mp q; omega
      rw [if_pos ((sort_M r2.1).2.1.mpr (by omega)), hv, if_neg (fun q => rl (Or.inl q)), if_pos (Decidable.byContradiction fun q => rl (Or.inr q))]
    unfold f_X10_lawLine_30 at hNL
    rw [if_pos r2.2.1, e9, e16] at hNL
    have haL : aL (21 + 3 * k) := by unfold aL; omega
    have d8 := hc1.2.2.2.1.2.2.2.2.2.2.2 k hk3
    have sh44 : ∀ j, (shC (sI C 3 5 (nI (i + 1)))).1 (44 + 3 * k) j = (sI C 3 5 (nI (i + 1))).1 (21 + 3 * k) j := fun j => by
      show (sI C 3 5 (nI (i + 1))).1 (44 + 3 * k - 23) j = _
      rw [show 44 + 3 * k - 23 = 21 + 3 * k by omega]
    cases hL : L k with
    | some l0 =>
      rw [hL] at hb
      have t0 : (sI C 3 5 (nI (i + 1))).1 (21 + 3 * k) 0 = 1 := by rw [← sh44]; exact (d8.2 l0 hL).1
      obtain ⟨C4, M4, q1, q2, q3, q4, q5⟩ := fl_at (f := 3) hn hc1.1 hc1.2.1 hc1.2.2.1 r2.1 r2.2.1 (by omega) (by omega)
      have q1 : f_X4_wrong 3 (sI C 3 5 (nI (i + 1))) = some (0, C4) := q1
      have q2 : f_X10_wrong 3 M2 = some M4 := q2
      rw [if_pos ((bt_test (by omega)).mpr hb), q2, Option.bind_some, law65_i q3.2.2] at hNL
      rw [hNL, Option.bind_some] at hM
      rw [t0, if_neg (by decide), bw q1 o0, bnd_some, if_pos o0] at hd
      exact ⟨M4, hM, mR_tr r3 q5, Or.inr ⟨C4, hd, cR_tr fC1 q4, q3⟩⟩
    | none =>
      rw [hL] at hb
      have t0 : (sI C 3 5 (nI (i + 1))).1 (21 + 3 * k) 0 = 0 := by rw [← sh44]; exact d8.1 hL
      rw [t0, if_pos rfl, nxt_eq, hc1.2.1, nI_1, nxt_eq, nxt_eq, nxt_eq, nxt_eq] at hd
      rw [if_neg (fun q => by have := (bt_test (by omega)).mp q; rw [hb] at this; cases this)] at hNL
      unfold f_X10_lawLine_65 at hNL
      rw [if_pos r2.2.1, nxt_eq, e16] at hNL
      have him1 := lt_m hc1.1 hc1.2.2.1 (by show tK b n (i + 1) ≠ 0; omega)
      generalize hQ2 : sI M2 0 15 (M2.1 0 15 ||| ((1 : Int32) <<< (nI (16 + k) &&& 31))) = Q2 at hNL
      have q2e : ∀ c j, ¬ (c = 0 ∧ j = 15) → Q2.1 c j = M2.1 c j := fun c j a => by rw [← hQ2, sI1, if_neg a]
      have q215 : Q2.1 0 15 = M2.1 0 15 ||| ((1 : Int32) <<< (nI (16 + k) &&& 31)) := by rw [← hQ2, sI1, if_pos ⟨rfl, rfl⟩]
      have tA2 : tkA Q2 b n (i + 1) := by rw [← hQ2]; exact tkA_s r2.1 (by omega)
      obtain ⟨M3, g1, g2, g3⟩ := step_M tA2 hb2 hn
      have g3e : ∀ c j, ¬ (c = 0 ∧ 18 ≤ j ∧ j ≤ 21) → M3.1 c j = Q2.1 c j := g3
      have m13 : M3.1 2 13 = nI kn := by rw [g3e _ _ (by omega), q2e _ _ (by omega), (RSm_00 r2).2.2]; exact hI.2.1
      rw [g1, Option.bind_some, fr6, bnd_some, m13, show (3 : Int32) + nI k = nI (3 + k) from nI_add 3 k, wrN (by omega) (by omega), Option.bind_some] at hNL
      generalize hQ3 : sI M3 10 (3 + k) (nI kn) = Q3 at hNL
      have q3e : ∀ c j, ¬ (c = 10 ∧ j = 3 + k) → Q3.1 c j = M3.1 c j := fun c j a => by rw [← hQ3, sI1, if_neg a]
      have q310 : Q3.1 10 (3 + k) = nI kn := by rw [← hQ3, sI1, if_pos ⟨rfl, rfl⟩]
      have fM3 : mR M Q3 := by rw [← hQ3]; exact mR_tr r3 (mR_tr (by rw [← hQ2] at g3; exact mR_tr (mR_s (mR_rf M2) (by unfold rM; omega)) (mR_q g3)) (mR_s (mR_rf M3) (by unfold rM; omega)))
      have qAll : ∀ c j, ¬ (c = 0 ∧ 18 ≤ j ∧ j ≤ 21) → ¬ (c = 0 ∧ j = 15) → ¬ (c = 10 ∧ j = 3 + k) → Q3.1 c j = M2.1 c j := fun c j a1 a2 a3 => by rw [q3e c j a3, g3e c j a1, q2e c j a2]
      have hMS : MSt Q3 b n kn (i + 1 + 1) [] 0 kn := by
        refine ⟨by rw [← hQ3]; exact tkA_s g2 (by omega), ?_, ?_, ?_, ?_, Nat.le_refl _, hI.2.2, by omega, fun j hj => absurd hj (Nat.not_lt_zero j), by rw [qAll _ _ (by omega) (by omega) (by omega)]; exact r2.2.2.1⟩
        · rw [qAll _ _ (by omega) (by omega) (by omega)]; exact r2.2.1
        · rw [qAll _ _ (by omega) (by omega) (by omega)]; exact r2.2.2.2.1
        · rw [qAll _ _ (by omega) (by omega) (by omega)]; exact r2.2.2.2.2.1
        · rw [q3e _ _ (by omega)]; exact m13
      obtain ⟨r, M5, s1, s2, s3, s4⟩ := expr_Mz hb2 hn hem (show i + 1 + 1 ≤ m by omega) hMS
      rw [s1, Option.bind_some, fr6, bnd_some, wrN (by omega) (by omega), Option.bind_some] at hNL
      rw [hNL, Option.bind_some] at hM
      generalize hC5 : sI (sI (sI (sI (sI (sI C 3 5 (nI (i + 1))) 3 5 (nI (i + 1 + 1))) (21 + 3 * k) 0 1) 3 6 0) 3 7 0) 3 8 1 = C5 at hd
      have c5e : ∀ c j, ¬ (c = 3 ∧ 5 ≤ j ∧ j ≤ 8) → ¬ (c = 21 + 3 * k ∧ j = 0) → C5.1 c j = C.1 c j := fun c j a1 a2 => by
        rw [← hC5, sI1, if_neg (by omega), sI1, if_neg (by omega), sI1, if_neg (by omega), sI1, if_neg (by omega), sI1, if_neg (by omega), sI1, if_neg (by omega)]
      have c50 : C5.1 (21 + 3 * k) 0 = 1 := by
        rw [← hC5, sI1, if_neg (by omega), sI1, if_neg (by omega), sI1, if_neg (by omega), sI1, if_pos ⟨rfl, rfl⟩]
      have fC5 : cR C C5 := by rw [← hC5]; exact cR_s (cR_s (cR_s (cR_s (cR_s fC1 (by omega)) (by omega)) (by omega)) (by omega)) (by omega)
      have hCS : CSt C5 b n m (21 + 3 * k) (i + 1 + 1) [] [] 0 kn true := by
        refine ⟨tkC_to hc.1 (fun c j hc => c5e c j (by omega) (by omega)), ?_, (show i + 1 + 1 ≤ m by omega), ⟨?_, fun j hj => absurd hj (Nat.not_lt_zero j), ?_, fun j hj => absurd hj (Nat.not_lt_zero j)⟩, ?_, ?_, ?_, ⟨rfl, Nat.zero_le _, hI.2.2, by omega, fun x hx => (by cases hx)⟩, by rw [c5e _ _ (by omega) (by omega)]; exact hc.2.2.2.2.2.2.1, by rw [c5e _ _ (by omega) (by omega)]; exact hc.2.2.2.2.2.2.2⟩
        · rw [← hC5, sI1, if_neg (by omega), sI1, if_neg (by omega), sI1, if_neg (by omega), sI1, if_neg (by omega), sI1, if_pos ⟨rfl, rfl⟩]
        · rw [c5e _ _ (by omega) (by omega)]; exact hc.2.2.2.2.1 k hk3 hL
        · rw [← hC5, sI1, if_neg (by omega), sI1, if_neg (by omega), sI1, if_pos ⟨rfl, rfl⟩]; rfl
        · rw [← hC5, sI1, if_neg (by omega), sI1, if_pos ⟨rfl, rfl⟩]; rfl
        · rw [c5e _ _ (by omega) (by omega), c82]; exact hI.2.1
        · rw [← hC5, sI1, if_pos ⟨rfl, rfl⟩]; rfl
      have hLaw := law_C88 haL hb2 hn hCS s2
      have cLR : ∀ Q, cL (21 + 3 * k) C5 Q → cR C5 Q := fun Q h => ⟨fun c j a1 a2 => h.1 c j a1 (by omega) (by omega) (by omega) (by omega), h.2⟩
      have mLR : mR Q3 M5 := fun c j a => s4 c j (fun z => a (by unfold rM; omega)) (fun z => a (by unfold rM; omega)) (fun z => a (by unfold rM; omega)) (fun z => a (by unfold rM; omega))
      have fM6 : mR M (sI M5 11 (3 + k) (M5.1 2 13)) := mR_tr fM3 (mR_tr mLR (mR_s (mR_rf M5) (by unfold rM; omega)))
      cases r with
      | error p =>
        obtain ⟨S', w1, w2, w3, w4⟩ := hLaw
        have w1 : f_X4_readLaw_88 FU (21 + 3 * k) 0 C5 = some (0, S') := w1
        rw [w1, bnd_some, if_pos o0] at hd
        refine ⟨_, hM, fM6, Or.inr ⟨S', hd, cR_tr fC5 (cLR S' w4), ?_, ?_, ?_⟩⟩
        · rw [sI1, if_neg (by omega), s3.1]; exact w2
        · rw [sI1, if_neg (by omega), s3.2.2]; exact w3
        · rw [sI1, if_neg (by omega)]; exact MFl_i s3
      | ok q =>
        obtain ⟨j, kn1, l⟩ := q
        obtain ⟨t1, t2, t3⟩ := s3
        have t1 : MSt M5 b n kn j l 0 kn1 := t1
        have ekn : kn1 = kn + l.length := s2.2.1
        obtain ⟨w4, w5⟩ := hLaw
        by_cases y : tK b n j = 4
        · obtain ⟨S', w1, w2, w3, w6, w7, w8, w9, f32⟩ := w4 y
          have w1 : f_X4_readLaw_88 FU (21 + 3 * k) 0 C5 = some (1, S') := w1
          rw [w1, bnd_some, if_pos o1] at hd
          obtain ⟨a1, a2, a3, a4, a5, a6, a7, a8, a9⟩ := t1
          refine ⟨_, hM, fM6, Or.inl ⟨S', j, N, wu T 9 0 (nI (kn + l.length)), LlU L k l, mk, kn1, hd, cR_tr fC5 (cLR S' w9), ?_, ?_, ?_, by omega⟩⟩
          · obtain ⟨x1, x2, x3, x4, x5, x6, x7, x8⟩ := hc
            have sE : ∀ c q, ¬ (c = 3 ∧ 2 ≤ q ∧ q ≤ 8) → c ≠ 30 → c ≠ 22 + 3 * k → ¬ (c = 21 + 3 * k ∧ (q = 0 ∨ q = 1)) → ¬ (c = 8 ∧ q = 2) → S'.1 c q = C.1 c q := fun c q b1 b2 b3 b4 b5 => by
              rw [w9.1 c q b1 b2 (by omega) (by omega) b5, c5e c q (by omega) (by omega)]
            have r33 : f_X4_readLaw_88 FU (21 + 3 * k) 0 C5 = some (1, S') := w1
            refine ⟨w3, w6, w7, TC_law x4 hk3 (fun c q b1 b2 b3 b4 b5 => sE c q (by omega) (by omega) b5 b4 b3) (by rw [w8, ekn]) ?_ w2.1 (fun q hq => ?_), fun q hq hLq => ?_, fun t ht => ?_, f32.1, f32.2⟩
            · rw [w9.1 _ _ (by omega) (by omega) (by omega) (by omega) (by omega)]; exact c50
            · rw [show 22 + 3 * k = 21 + 3 * k + 1 by omega]; exact w2.2.1 q hq
            · unfold LlU at hLq
              by_cases z : q = k
              · rw [if_pos z] at hLq; cases hLq
              · rw [if_neg z] at hLq
                rw [sE _ _ (by omega) (by omega) (by omega) (by omega) (by omega)]; exact x5 q hq hLq
            · rw [sE _ _ (by omega) (by omega) (by omega) (by omega) (by omega)]; exact x6 t ht
          · obtain ⟨h1, h2, h3, h4, h5, h6, h7, h8, h9, hx⟩ := r2
            have eM : ∀ c q, ¬ (c = 0 ∧ 15 ≤ q ∧ q ≤ 23 ∧ q ≠ 16 ∧ q ≠ 17) → ¬ (c = 0 ∧ (q = 26 ∨ q = 27)) → ¬ (c = 2 ∧ q = 13) → ¬ ((c = 10 ∨ c = 11) ∧ q = 3 + k) → ¬ ((c = 12 ∨ c = 13) ∧ 64 + kn ≤ q) → (sI M5 11 (3 + k) (M5.1 2 13)).1 c q = M2.1 c q := fun c q b1 b2 b3 b4 b5 => by
              rw [sI1, if_neg (by omega), s4 c q (by omega) b2 b3 b5, qAll c q (by omega) (by omega) (by omega)]
            have e15 : (sI M5 11 (3 + k) (M5.1 2 13)).1 0 15 = M2.1 0 15 ||| ((1 : Int32) <<< (nI (16 + k) &&& 31)) := by
              rw [sI1, if_neg (by omega), s4 0 15 (by omega) (by omega) (by omega) (by omega), q3e _ _ (by omega), g3e _ _ (by omega)]; exact q215
            have e23 : M5.1 0 23 = -1 := a9.2
            have m5 : M5.1 2 13 = nI (kn + l.length) := a5
            refine ⟨tkA_s a1 (by omega), by rw [sI1, if_neg (by omega)]; exact a2, by rw [sI1, if_neg (by omega)]; exact e23, by rw [sI1, if_neg (by omega)]; exact a3, by rw [sI1, if_neg (by omega)]; exact a4, TM_law h6 hk3 hx (by omega) (fun c q b1 b2 b3 b4 b5 => eM c q (by omega) (by omega) b3 b4 b5) ?_ ?_ ?_ (fun q hq => ?_), fun s hs => ?_, fun q hq => ?_, by rw [eM _ _ (by omega) (by omega) (by omega) (by omega) (by omega)]; exact h9, fun q hq l' hLq => ?_⟩
            · rw [sI1, if_neg (by omega)]; exact m5
            · rw [sI1, if_neg (by omega), s4 _ _ (by omega) (by omega) (by omega) (by omega)]; exact q310
            · rw [sI1, if_pos ⟨rfl, rfl⟩]; exact m5
            · rw [sI1, if_neg (by omega), sI1, if_neg (by omega)]; exact a9.1 q hq
            · rw [e15, bt_or1 (by omega), h7 s hs, show decide (2 + s = 16 + k) = false from decide_eq_false (by omega), Bool.or_false]
            · rw [e15, bt_or1 (by omega), h8 q hq]
              unfold LlU
              by_cases z : q = k
              · rw [if_pos z, z]; simp
              · rw [if_neg z, show decide (16 + q = 16 + k) = false from decide_eq_false (by omega), Bool.or_false]
            · unfold LlU at hLq
              by_cases z : q = k
              · exact ⟨kn1, Nat.le_refl _, by rw [z, sI1, if_pos ⟨rfl, rfl⟩, m5, ekn]⟩
              · rw [if_neg z] at hLq
                obtain ⟨a', y1, y2⟩ := hx q hq l' hLq
                exact ⟨a', by omega, by rw [eM _ _ (by omega) (by omega) (by omega) (by omega) (by omega)]; exact y2⟩
          · obtain ⟨⟨t1, t2, t3, t4, t5, t6, t7, t8, t9⟩, p1, p2⟩ := hI
            have t : ∀ r j, r ≠ 9 → wu T 9 0 (nI (kn + l.length)) r j = T r j := fun r j hr => by rw [wu1, if_neg (by omega)]
            refine ⟨⟨t1, t2, t3, fun d hd => by rw [t _ _ (by omega), t _ _ (by omega)]; exact t4 d hd, by rw [t _ _ (by omega)]; exact t5, by rw [t _ _ (by omega)]; exact t6, by rw [t _ _ (by omega)]; exact t7, by rw [t _ _ (by omega)]; exact t8, fun q hq l' hLq => ?_⟩, by rw [wu1, if_pos ⟨rfl, rfl⟩, ekn], a7⟩
            unfold LlU at hLq
            by_cases z : q = k
            · rw [if_pos z] at hLq
              cases hLq
              have := s2.2.2 [] 0 rfl
              rw [List.append_nil] at this
              exact ⟨this, by omega⟩
            · rw [if_neg z] at hLq
              exact t9 q hq l' hLq
        · obtain ⟨S', w1, w2, w3, w4⟩ := w5 y
          have w1 : f_X4_readLaw_88 FU (21 + 3 * k) 0 C5 = some (0, S') := w1
          rw [w1, bnd_some, if_pos o0] at hd
          have h22 : (sI M5 11 (3 + k) (M5.1 2 13)).1 0 22 = 0 := by rw [sI1, if_neg (by omega)]; exact t1.2.1
          have hA : tkA (sI M5 11 (3 + k) (M5.1 2 13)) b n j := tkA_s t1.1 (by omega)
          have is4 : f_X10_isSign 59 (sI M5 11 (3 + k) (M5.1 2 13)) = _ := isSign_M (k := 4) hA h22 (by omega) (by omega)
          have wr := wrongR_M hA h22 1
          have l226 : f_X10_line_226 (sI M5 11 (3 + k) (M5.1 2 13)) = some (sI (sI (sI (sI M5 11 (3 + k) (M5.1 2 13)) 0 22 1) 0 23 (nI (ps b n j))) 0 16 ((sI (sI (sI M5 11 (3 + k) (M5.1 2 13)) 0 22 1) 0 23 (nI (ps b n j))).1 0 16 + 1)) := by
            unfold f_X10_line_226
            rw [if_pos h22, is4, bnd_some, if_neg y, if_pos rfl, wr, Option.bind_some]
            unfold f_X10_line_255
            rw [nxt_eq]
          have h22' : (sI (sI (sI (sI M5 11 (3 + k) (M5.1 2 13)) 0 22 1) 0 23 (nI (ps b n j))) 0 16 ((sI (sI (sI M5 11 (3 + k) (M5.1 2 13)) 0 22 1) 0 23 (nI (ps b n j))).1 0 16 + 1)).1 0 22 = 1 := by
            rw [sI1, if_neg (by omega), sI1, if_neg (by omega), sI1, if_pos ⟨rfl, rfl⟩]
          rw [l226, ← l226_i (by rw [h22']; decide)] at hM
          refine ⟨_, hM, mR_tr fM6 (mR_s (mR_s (mR_s (mR_rf _) (by unfold rM; omega)) (by unfold rM; omega)) (by unfold rM; omega)), Or.inr ⟨S', hd, cR_tr fC5 (cLR S' w4), ?_, ?_, ?_⟩⟩
          · rw [h22']; exact w2
          · rw [sI1, if_neg (by omega), sI1, if_pos ⟨rfl, rfl⟩]; exact w3
          · rw [h22']; decide
  · obtain ⟨C4, M4, q1, q2, q3, q4, q5⟩ := fl_at (f := 1) hn hc1.1 hc1.2.1 hc1.2.2.1 r2.1 r2.2.1 (by omega) (by omega)
    have q1 : f_X4_wrong 1 (sI C 3 5 (nI (i + 1))) = some (0, C4) := q1
    have q2 : f_X10_wrong 1 M2 = some M4 := q2
    have l30 : f_X10_lawLine_25 M2 = some M4 := by
      unfold f_X10_lawLine_25
      rw [q2, Option.bind_some]
      unfold f_X10_lawLine_30
      rw [if_neg q3.2.2, law65_i q3.2.2]
    have hNL : f_X10_lawLine M2 = some M4 := by
      unfold f_X10_lawLine
      by_cases kw : 17 ≤ tK b n (i + 1)
      · have rl := (rule_v (tK b n (i + 1) - 17) (by omega)).mpr (by omega)
        rw [if_pos ((sort_M r2.1).2.1.mpr kw), val_w r2.1 kw]
        by_cases p : nI (rfJ (tK b n (i + 1) - 17)) < 9
        · rw [if_pos p, l30]
        · rw [if_neg p, if_neg (by rcases rl with q | q; exact absurd q p; exact q), l30]
      · rw [if_neg (fun q => kw ((sort_M r2.1).2.1.mp q)), l30]
    rw [hNL, Option.bind_some] at hM
    have lt0 : nI (tK b n (i + 1)) - 36 < 0 := by
      have : ∀ t, t < 36 → nI t - 36 < 0 := by decide +kernel
      exact this _ (by omega)
    rw [if_pos lt0, show f_X4_readLaw_27 (sI C 3 5 (nI (i + 1))) = some (0, C4) from bw q1 o0, bnd_some, if_pos o0] at hd
    exact ⟨M4, hM, mR_tr r3 q5, Or.inr ⟨C4, hd, cR_tr fC1 q4, q3⟩⟩
end LINL
