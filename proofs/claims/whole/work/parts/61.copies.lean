/-! PURE 12: the reference's copies; beginnings -/
def chC (t c i : Nat) : Prop := (16 ≤ c ∧ c ≤ 18 ∧ i = t) ∨ ((c = 19 ∨ c = 20) ∧ 2 * t ≤ i ∧ i < 2 * t + 2) ∨ (21 ≤ c ∧ c ≤ 24 ∧ 10 * t ≤ i ∧ i < 10 * t + 10)
def frC (t : Nat) (S S' : Mem) : Prop := ∀ c i, ¬ chC t c i → S'.1 c i = S.1 c i
theorem frC_rf (t : Nat) (S : Mem) : frC t S S := fun _ _ _ => rfl
theorem frC_tr {t : Nat} {S S1 S2 : Mem} (h : frC t S S1) (h' : frC t S1 S2) : frC t S S2 := fun c i q => (h' c i q).trans (h c i q)
theorem frC_sI {t k j : Nat} {v : Int32} {S : Mem} (h : chC t k j) : frC t S (sI S k j v) := fun c i q => by
  rw [sI1, if_neg]
  rintro ⟨rfl, rfl⟩
  exact q h
theorem RM_to {t : Nat} {S S' : Mem} {N : TN} {W : WS} {nu : Nat → Nat} (h : RM t S N W nu) (hN : N 0 1 ≤ 10) (e : ∀ c i, chC t c i → S'.1 c i = S.1 c i) : RM t S' N W nu := by
  obtain ⟨h0, h1, h2, h3, h4⟩ := h
  refine ⟨?_, ?_, ?_, fun d hd => ?_, fun c hc => ?_⟩
  · rw [e _ _ (by unfold chC; omega)]; exact h0
  · rw [e _ _ (by unfold chC; omega)]; exact h1
  · rw [e _ _ (by unfold chC; omega)]; exact h2
  · rw [e 21 _ (by unfold chC; omega), e 22 _ (by unfold chC; omega), e 23 _ (by unfold chC; omega), e 24 _ (by unfold chC; omega)]; exact h3 d hd
  · rw [e 19 _ (by unfold chC; omega), e 20 _ (by unfold chC; omega)]; exact h4 c hc
theorem RC_to {w : Nat} {S S' : Mem} {N : TN} {W : WS} {nu : Nat → Nat} {cf : Nat → Int32} (h : RC w S N W nu cf) (e : ∀ c i, w ≤ c → c ≤ w + 6 → ¬ (c = w ∧ i = 12) → S'.1 c i = S.1 c i) (e2 : S'.2 w 3 = S.2 w 3) : RC w S' N W nu cf := by
  obtain ⟨h0, h1, h2, h3, h4, h5, h6⟩ := h
  refine ⟨?_, ?_, ?_, ?_, fun d hd => ?_, fun c hc => ?_, fun i hi => ?_⟩
  · rw [e _ _ (by omega) (by omega) (by omega)]; exact h0
  · rw [e _ _ (by omega) (by omega) (by omega)]; exact h1
  · rw [e _ _ (by omega) (by omega) (by omega)]; exact h2
  · rw [e2]; exact h3
  · rw [e (w + 1) _ (by omega) (by omega) (by omega), e (w + 2) _ (by omega) (by omega) (by omega), e (w + 3) _ (by omega) (by omega) (by omega)]; exact h4 d hd
  · rw [e (w + 5) _ (by omega) (by omega) (by omega), e (w + 6) _ (by omega) (by omega) (by omega)]; exact h5 c hc
  · rw [e (w + 4) _ (by omega) (by omega) (by omega)]; exact h6 i hi
section CPS
variable {S : Mem} {N : TN} {T : WS} {L : LWS}
theorem cpA {a b : Nat} (ha : a < 23) (hb : b < 23) (hab : a ≠ b) {P : Mem → Prop}
    (k : ∀ S', frC a S S' → S'.1 16 a = S.1 16 a → S'.1 17 a = S.1 17 a → S'.1 18 a = S.1 18 a → (∀ c, c < 2 → S'.1 19 (2 * a + c) = S.1 19 (2 * a + c) ∧ S'.1 20 (2 * a + c) = S.1 20 (2 * a + c)) → (∀ d, d < 10 → S'.1 21 (10 * a + d) = S.1 21 (10 * b + d) ∧ S'.1 22 (10 * a + d) = S.1 22 (10 * b + d) ∧ S'.1 23 (10 * a + d) = S.1 23 (10 * b + d) ∧ S'.1 24 (10 * a + d) = S.1 24 (10 * b + d)) → P S') :
    wp (f_X10_copies_91 FU (nI a) (nI b) 0 S) P := by
  refine lp0 (fun fuel i M => f_X10_copies_91 fuel (nI a) (nI b) i M) 10 (fun j M => (∀ c i, ¬ (21 ≤ c ∧ c ≤ 24 ∧ 10 * a ≤ i ∧ i < 10 * a + 10) → M.1 c i = S.1 c i) ∧ (∀ d, d < j → M.1 21 (10 * a + d) = S.1 21 (10 * b + d) ∧ M.1 22 (10 * a + d) = S.1 22 (10 * b + d) ∧ M.1 23 (10 * a + d) = S.1 23 (10 * b + d) ∧ M.1 24 (10 * a + d) = S.1 24 (10 * b + d))) (by omega) S ⟨fun _ _ _ => rfl, fun d hd => absurd hd (Nat.not_lt_zero d)⟩ ?_ ?_
  · rintro fuel M ⟨h1, h2⟩
    refine wp_pos (by decide) (wp_some ?_)
    refine k M (fun c i q => h1 c i (fun e => q ?_)) (h1 _ _ (by omega)) (h1 _ _ (by omega)) (h1 _ _ (by omega)) (fun c hc => ⟨h1 _ _ (by omega), h1 _ _ (by omega)⟩) h2
    unfold chC; omega
  · rintro fuel j M hj ⟨h1, h2⟩ ih
    try simp only at ih
    show wp (f_X10_copies_91 (fuel + 1) (nI a) (nI b) (nI j) M) _
    unfold f_X10_copies_91
    refine wp_neg (nI_ge (b := 10) hj (by omega)) ?_
    refine wp_rd (10 * b + j) (ix10 b j) (by omega) (v := S.1 21 (10 * b + j)) (h1 _ _ (by omega)) ?_
    refine wp_wr (10 * a + j) (ix10 a j) (by omega) ?_
    refine wp_rd (10 * b + j) (ix10 b j) (by omega) (v := S.1 22 (10 * b + j)) (by rw [sI_off (by omega)]; exact h1 _ _ (by omega)) ?_
    refine wp_wr (10 * a + j) (ix10 a j) (by omega) ?_
    refine wp_rd (10 * b + j) (ix10 b j) (by omega) (v := S.1 23 (10 * b + j)) (by rw [sI_off (by omega), sI_off (by omega)]; exact h1 _ _ (by omega)) ?_
    refine wp_wr (10 * a + j) (ix10 a j) (by omega) ?_
    refine wp_rd (10 * b + j) (ix10 b j) (by omega) (v := S.1 24 (10 * b + j)) (by rw [sI_off (by omega), sI_off (by omega), sI_off (by omega)]; exact h1 _ _ (by omega)) ?_
    refine wp_wr (10 * a + j) (ix10 a j) (by omega) ?_
    rw [nI_1]
    refine ih _ ⟨fun c i q => ?_, fun d hd => ?_⟩
    · simp only [sI1]
      have := h1 c i q
      grind
    · simp only [sI1]
      have h2 := h2 d
      grind
def cpM (a b : Nat) (S S' : Mem) : Prop := S'.1 16 a = S.1 16 b ∧ S'.1 17 a = S.1 17 b ∧ S'.1 18 a = S.1 18 b ∧ (∀ c, c < 2 → S'.1 19 (2 * a + c) = S.1 19 (2 * b + c) ∧ S'.1 20 (2 * a + c) = S.1 20 (2 * b + c)) ∧ (∀ d, d < 10 → S'.1 21 (10 * a + d) = S.1 21 (10 * b + d) ∧ S'.1 22 (10 * a + d) = S.1 22 (10 * b + d) ∧ S'.1 23 (10 * a + d) = S.1 23 (10 * b + d) ∧ S'.1 24 (10 * a + d) = S.1 24 (10 * b + d))
theorem copies_M {a b : Nat} (ha : a < 23) (hb : b < 23) (hab : a ≠ b) : wp (f_X10_copies (nI a) (nI b) S) (fun S' => cpM a b S S' ∧ frC a S S') := by
  unfold f_X10_copies
  refine wp_rd b rfl hb rfl ?_
  refine wp_wr a rfl ha ?_
  refine wp_rd b rfl hb (v := S.1 17 b) (by rw [sI_off (by omega)]) ?_
  refine wp_wr a rfl ha ?_
  refine wp_rd b rfl hb (v := S.1 18 b) (by rw [sI_off (by omega), sI_off (by omega)]) ?_
  refine wp_wr a rfl ha ?_
  have f0 : frC a S (sI (sI (sI S 16 a (S.1 16 b)) 17 a (S.1 17 b)) 18 a (S.1 18 b)) := frC_tr (frC_sI (by unfold chC; omega)) (frC_tr (frC_sI (by unfold chC; omega)) (frC_sI (by unfold chC; omega)))
  have e16 : (sI (sI (sI S 16 a (S.1 16 b)) 17 a (S.1 17 b)) 18 a (S.1 18 b)).1 16 a = S.1 16 b := by simp [sI1]
  have e17 : (sI (sI (sI S 16 a (S.1 16 b)) 17 a (S.1 17 b)) 18 a (S.1 18 b)).1 17 a = S.1 17 b := by simp [sI1]
  have e18 : (sI (sI (sI S 16 a (S.1 16 b)) 17 a (S.1 17 b)) 18 a (S.1 18 b)).1 18 a = S.1 18 b := by simp [sI1]
  generalize sI (sI (sI S 16 a (S.1 16 b)) 17 a (S.1 17 b)) 18 a (S.1 18 b) = M0 at *
  refine lp0 (fun fuel i M => f_X10_copies_38 fuel (nI a) (nI b) i M) 2 (fun j M => frC a S M ∧ M.1 16 a = S.1 16 b ∧ M.1 17 a = S.1 17 b ∧ M.1 18 a = S.1 18 b ∧ ∀ c, c < j → M.1 19 (2 * a + c) = S.1 19 (2 * b + c) ∧ M.1 20 (2 * a + c) = S.1 20 (2 * b + c)) (by omega) M0 ⟨f0, e16, e17, e18, fun d hd => absurd hd (Nat.not_lt_zero d)⟩ ?_ ?_
  · rintro fuel M ⟨f, g16, g17, g18, g⟩
    show wp (f_X10_copies_38 (fuel + 1) (nI a) (nI b) (nI 2) M) _
    unfold f_X10_copies_38
    refine wp_pos (by decide) ?_
    refine cpA ha hb hab ?_
    intro S' f' a16 a17 a18 a19 a21
    refine ⟨⟨by rw [a16, g16], by rw [a17, g17], by rw [a18, g18], fun c hc => ?_, fun d hd => ?_⟩, frC_tr f f'⟩
    · rw [(a19 c hc).1, (a19 c hc).2]; exact g c hc
    · obtain ⟨b1, b2, b3, b4⟩ := a21 d hd
      rw [b1, b2, b3, b4, f 21 _ (by unfold chC; omega), f 22 _ (by unfold chC; omega), f 23 _ (by unfold chC; omega), f 24 _ (by unfold chC; omega)]
      exact ⟨rfl, rfl, rfl, rfl⟩
  · rintro fuel j M hj ⟨f, g16, g17, g18, g⟩ ih
    try simp only at ih
    show wp (f_X10_copies_38 (fuel + 1) (nI a) (nI b) (nI j) M) _
    unfold f_X10_copies_38
    refine wp_neg (nI_ge (b := 2) hj (by omega)) ?_
    refine wp_rd (2 * b + j) (ix2 b j) (by omega) (v := S.1 19 (2 * b + j)) (f _ _ (by unfold chC; omega)) ?_
    refine wp_wr (2 * a + j) (ix2 a j) (by omega) ?_
    refine wp_rd (2 * b + j) (ix2 b j) (by omega) (v := S.1 20 (2 * b + j)) (by rw [sI_off (by omega)]; exact f _ _ (by unfold chC; omega)) ?_
    refine wp_wr (2 * a + j) (ix2 a j) (by omega) ?_
    rw [nI_1]
    refine ih _ ⟨frC_tr f (frC_tr (frC_sI (by unfold chC; omega)) (frC_sI (by unfold chC; omega))), ?_, ?_, ?_, fun c hc => ?_⟩
    · rw [sI_off (by omega), sI_off (by omega)]; exact g16
    · rw [sI_off (by omega), sI_off (by omega)]; exact g17
    · rw [sI_off (by omega), sI_off (by omega)]; exact g18
    · have := g c
      simp only [sI1]
      grind
theorem cpM_R {a b : Nat} {S' : Mem} {W : WS} {nu : Nat → Nat} (h : cpM a b S S') (hN : N 0 1 ≤ 10) (hR : RM b S N W nu) : RM a S' N W nu := by
  obtain ⟨h0, h1, h2, h3, h4⟩ := h
  obtain ⟨r0, r1, r2, r3, r4⟩ := hR
  refine ⟨by rw [h0]; exact r0, by rw [h1]; exact r1, by rw [h2]; exact r2, fun d hd => ?_, fun c hc => ?_⟩
  · obtain ⟨a1, a2, a3, a4⟩ := h4 d (by omega)
    rw [a1, a2, a3, a4]; exact r3 d hd
  · rw [(h3 c hc).1, (h3 c hc).2]; exact r4 c hc
/-! beginnings -/
def W0 (N : TN) (T : WS) : WS := fun r i => if r = 0 then (if i = 1 then T 0 3 else if i = 3 then (1 <<< (nI (N 0 1) &&& 31)) - 1 else 0) else 0
theorem m0_bt {n : Nat} (hn : n ≤ 10) {d : Nat} (hd : d < 32) : bt ((1 <<< (nI n &&& 31)) - 1) d = decide (d < n) := by
  have : ∀ n, n < 11 → ∀ d, d < 32 → bt ((1 <<< (nI n &&& 31)) - 1) d = decide (d < n) := by decide +kernel
  exact this n (by omega) d hd
theorem W0_I (hI : TI N T L) : WI N (W0 N T) := by
  have z2 : ∀ d, W0 N T 2 d = 0 := fun _ => rfl
  have z5 : ∀ d, W0 N T 5 d = 0 := fun _ => rfl
  refine ⟨fun d _ => by rw [z2]; exact ⟨by decide, by decide⟩, fun c _ => by rw [z5]; exact ⟨by decide, by decide⟩, fun e he => ?_⟩
  by_cases h : e < 32
  · have he : bt ((1 <<< (nI (N 0 1) &&& 31)) - 1) e = true := he
    rw [m0_bt hI.2.1 h] at he
    exact of_decide_eq_true he
  · rw [bt_big _ (by omega)] at he
    cases he
theorem begin_C {w : Nat} (hw : w = 53 ∨ w = 69) (hT : TC S N T L) (hI : TI N T L) : wp (f_X8_begin w S) (fun S' => RC w S' N (W0 N T) (fun d => N 5 d) (caN N) ∧ frT w S S') := by
  have hnd := hI.2.1
  have hnn := hI.1
  obtain ⟨t0, t1, t2, t3, t4, t5, t6, t7⟩ := hT
  unfold f_X8_begin
  refine wp_nxt (wp_nxt (wp_nxt ?_))
  rw [show (sI S w 0 0).1 31 1 = nI (N 0 1) by rw [sI_off (by omega)]; exact t1]
  refine wp_rd 3 rfl (by decide) (v := T 0 3) (by rw [sI_off (by omega), sI_off (by omega), sI_off (by omega)]; exact t6 3 (by decide)) ?_
  refine wp_nxt ?_
  have g0 : ∀ c, c ≠ w → (sL (sI (sI (sI S w 0 0) w 1 ((1 <<< (nI (N 0 1) &&& 31)) - 1)) w 2 0) w 3 (T 0 3).toInt64).1 c = S.1 c := by
    intro c hc
    simp only [sL1, sI_off hc]
  have g1 : ∀ c, c ≠ w → (sL (sI (sI (sI S w 0 0) w 1 ((1 <<< (nI (N 0 1) &&& 31)) - 1)) w 2 0) w 3 (T 0 3).toInt64).2 c = S.2 c := by
    intro c hc
    rw [sL_off hc]
    rfl
  have w0 : (sL (sI (sI (sI S w 0 0) w 1 ((1 <<< (nI (N 0 1) &&& 31)) - 1)) w 2 0) w 3 (T 0 3).toInt64).1 w 0 = 0 := by simp [sL1, sI1]
  have w1' : (sL (sI (sI (sI S w 0 0) w 1 ((1 <<< (nI (N 0 1) &&& 31)) - 1)) w 2 0) w 3 (T 0 3).toInt64).1 w 1 = (1 <<< (nI (N 0 1) &&& 31)) - 1 := by simp [sL1, sI1]
  have w2 : (sL (sI (sI (sI S w 0 0) w 1 ((1 <<< (nI (N 0 1) &&& 31)) - 1)) w 2 0) w 3 (T 0 3).toInt64).1 w 2 = 0 := by simp [sL1, sI1]
  have w3 : (sL (sI (sI (sI S w 0 0) w 1 ((1 <<< (nI (N 0 1) &&& 31)) - 1)) w 2 0) w 3 (T 0 3).toInt64).2 w 3 = (T 0 3).toInt64 := by simp [sL2]
  generalize sL (sI (sI (sI S w 0 0) w 1 ((1 <<< (nI (N 0 1) &&& 31)) - 1)) w 2 0) w 3 (T 0 3).toInt64 = M at *
  refine wp_call (copy_C (by omega) (by omega)) ?_
  rintro M1 ⟨a1, b1, c1⟩
  refine wp_call (copy_C (by omega) (by omega)) ?_
  rintro M2 ⟨a2, b2, c2⟩
  have r1 : ∀ d, d < N 0 1 → M2.1 (w + 1) d = nI (N 5 d) := fun d hd => by
    rw [a2 _ (by omega), b1 d (by omega), g0 _ (by omega)]; exact (t4 d hd).2.1
  have r4 : ∀ i, i < N 0 0 → M2.1 (w + 4) i = nI (N 3 i) := fun i hi => by
    rw [b2 i (by omega), a1 _ (by omega), g0 _ (by omega)]; exact (t3 i hi).2.2
  have r0 : M2.1 w = M.1 w := by rw [a2 _ (by omega), a1 _ (by omega)]
  have eL : M2.2 = M.2 := by rw [c2, c1]
  have ro : ∀ c, c ≠ w → c ≠ w + 1 → c ≠ w + 4 → M2.1 c = S.1 c := fun c h1 h2 h3 => by rw [a2 _ h3, a1 _ h2, g0 _ h1]
  refine lp0 (fun fuel i M => f_X8_begin_69 w fuel i M) 10 (fun j M3 => (∀ c, c ≠ w + 2 → c ≠ w + 3 → M3.1 c = M2.1 c) ∧ M3.2 = M2.2 ∧ ∀ d, d < j → M3.1 (w + 2) d = 0 ∧ M3.1 (w + 3) d = 0) (by omega) M2 ⟨fun _ _ _ => rfl, rfl, fun d hd => absurd hd (Nat.not_lt_zero d)⟩ ?_ ?_
  · rintro fuel M3 ⟨k1, k2, k3⟩
    show wp (f_X8_begin_69 w (fuel + 1) (nI 10) M3) _
    unfold f_X8_begin_69
    refine wp_pos (by decide) ?_
    refine lp0 (fun fuel i M => f_X8_begin_97 w fuel i M) 2 (fun j M4 => (∀ c, c ≠ w + 5 → c ≠ w + 6 → M4.1 c = M3.1 c) ∧ M4.2 = M3.2 ∧ ∀ d, d < j → M4.1 (w + 5) d = 0 ∧ M4.1 (w + 6) d = 0) (by omega) M3 ⟨fun _ _ _ => rfl, rfl, fun d hd => absurd hd (Nat.not_lt_zero d)⟩ ?_ ?_
    · rintro fuel' M4 ⟨l1, l2, l3⟩
      refine wp_pos (by decide) (wp_some ⟨⟨?_, ?_, ?_, ?_, fun d hd => ?_, fun c hc => ?_, fun i hi => ?_⟩, fun c hc => ?_, fun c hc => ?_⟩)
      · rw [l1 _ (by omega) (by omega), k1 _ (by omega) (by omega), r0, w0]; rfl
      · rw [l1 _ (by omega) (by omega), k1 _ (by omega) (by omega), r0, w1']; rfl
      · rw [l1 _ (by omega) (by omega), k1 _ (by omega) (by omega), r0, w2]; rfl
      · rw [l2, k2, eL, w3]; rfl
      · rw [l1 _ (by omega) (by omega), k1 _ (by omega) (by omega), l1 _ (by omega) (by omega), (k3 d (by omega)).1, l1 _ (by omega) (by omega), (k3 d (by omega)).2]
        exact ⟨r1 d hd, rfl, rfl⟩
      · exact l3 c hc
      · rw [l1 _ (by omega) (by omega), k1 _ (by omega) (by omega)]; exact r4 i hi
      · rw [l1 _ (by omega) (by omega), k1 _ (by omega) (by omega)]; exact ro c (by omega) (by omega) (by omega)
      · rw [l2, k2, eL]; exact g1 c hc
    · rintro fuel' j M4 hj ⟨l1, l2, l3⟩ ih
      try simp only at ih
      show wp (f_X8_begin_97 w (fuel' + 1) (nI j) M4) _
      unfold f_X8_begin_97
      refine wp_neg (nI_ge (b := 2) hj (by omega)) ?_
      refine wp_wr j rfl hj ?_
      refine wp_wr j rfl hj ?_
      rw [nI_1]
      refine ih _ ⟨fun c q1 q2 => ?_, l2, fun d hd => ?_⟩
      · rw [sI_off q2, sI_off q1]; exact l1 c q1 q2
      · have := l3 d
        simp only [sI1]
        grind
  · rintro fuel j M3 hj ⟨k1, k2, k3⟩ ih
    try simp only at ih
    show wp (f_X8_begin_69 w (fuel + 1) (nI j) M3) _
    unfold f_X8_begin_69
    refine wp_neg (nI_ge (b := 10) hj (by omega)) ?_
    refine wp_wr j rfl hj ?_
    refine wp_wr j rfl hj ?_
    rw [nI_1]
    refine ih _ ⟨fun c q1 q2 => ?_, k2, fun d hd => ?_⟩
    · rw [sI_off q2, sI_off q1]; exact k1 c q1 q2
    · have := k3 d
      simp only [sI1]
      grind
theorem starts_M {t : Nat} (ht : t < 23) (hT : TM S N T L) (hI : TI N T L) : wp (f_X10_starts (nI t) S) (fun S' => RM t S' N (W0 N T) (fun d => N 5 d) ∧ frC t S S') := by
  have hnd := hI.2.1
  unfold f_X10_starts
  refine wp_wr t rfl ht ?_
  refine wp_rd 5 rfl (by decide) (v := T 0 3) (by rw [sI_off (by omega)]; exact hT.2.2.2.2.2.1 3 (by decide)) ?_
  refine wp_wr t rfl ht ?_
  refine wp_wr t rfl ht ?_
  have f0 : frC t S (sI (sI (sI S 16 t 0) 17 t (T 0 3)) 18 t 0) := frC_tr (frC_sI (by unfold chC; omega)) (frC_tr (frC_sI (by unfold chC; omega)) (frC_sI (by unfold chC; omega)))
  have e16 : (sI (sI (sI S 16 t 0) 17 t (T 0 3)) 18 t 0).1 16 t = 0 := by simp [sI1]
  have e17 : (sI (sI (sI S 16 t 0) 17 t (T 0 3)) 18 t 0).1 17 t = T 0 3 := by simp [sI1]
  have e18 : (sI (sI (sI S 16 t 0) 17 t (T 0 3)) 18 t 0).1 18 t = 0 := by simp [sI1]
  generalize sI (sI (sI S 16 t 0) 17 t (T 0 3)) 18 t 0 = M0 at *
  refine lp0 (fun fuel i M => f_X10_starts_28 fuel (nI t) i M) 2 (fun j M => frC t S M ∧ M.1 16 t = 0 ∧ M.1 17 t = T 0 3 ∧ M.1 18 t = 0 ∧ ∀ c, c < j → M.1 19 (2 * t + c) = 0 ∧ M.1 20 (2 * t + c) = 0) (by omega) M0 ⟨f0, e16, e17, e18, fun d hd => absurd hd (Nat.not_lt_zero d)⟩ ?_ ?_
  · rintro fuel M ⟨f, g16, g17, g18, g⟩
    show wp (f_X10_starts_28 (fuel + 1) (nI t) (nI 2) M) _
    unfold f_X10_starts_28
    refine wp_pos (by decide) ?_
    refine lp0 (fun fuel i M => f_X10_starts_63 fuel (nI t) i M) 10 (fun j M' => frC t S M' ∧ M'.1 16 t = 0 ∧ M'.1 17 t = T 0 3 ∧ M'.1 18 t = 0 ∧ (∀ c, c < 2 → M'.1 19 (2 * t + c) = 0 ∧ M'.1 20 (2 * t + c) = 0) ∧ ∀ d, d < j → (d < N 0 1 → M'.1 21 (10 * t + d) = nI (N 5 d)) ∧ M'.1 22 (10 * t + d) = 0 ∧ M'.1 23 (10 * t + d) = 0 ∧ M'.1 24 (10 * t + d) = if d < N 0 1 then 1 else 0) (by omega) M ⟨f, g16, g17, g18, g, fun d hd => absurd hd (Nat.not_lt_zero d)⟩ ?_ ?_
    · rintro fuel' M' ⟨f', h16, h17, h18, h19, hd'⟩
      refine wp_pos (by decide) (wp_some ⟨⟨h16, h17, h18, fun d hd => ?_, fun c hc => ?_⟩, f'⟩)
      · obtain ⟨a1, a2, a3, a4⟩ := hd' d (by omega)
        refine ⟨a1 hd, a2, a3, ?_⟩
        rw [a4, if_pos hd]
        have e : bt (W0 N T 0 3) d = true := by
          show bt ((1 <<< (nI (N 0 1) &&& 31)) - 1) d = true
          rw [m0_bt hnd (by omega)]
          exact decide_eq_true hd
        rw [if_pos e]
      · exact h19 c hc
    · rintro fuel' j M' hj ⟨f', h16, h17, h18, h19, hd'⟩ ih
      try simp only at ih
      show wp (f_X10_starts_63 (fuel' + 1) (nI t) (nI j) M') _
      unfold f_X10_starts_63
      refine wp_neg (nI_ge (b := 10) hj (by omega)) ?_
      have hT' : TM M' N T L := TM_to hT (fun c i h1 h2 => f' c i (by unfold chC; omega))
      refine wp_rd 1 rfl (by decide) hT'.2.1 ?_
      have last : ∀ (b : Bool) (v : Int32), (b = true ↔ j < N 0 1) → (j < N 0 1 → v = nI (N 5 j)) → wp (f_X10_starts_109 (f_X10_starts_63 fuel') (nI t) (nI j) (if b = true then 1 else 0) ((10 : Int32) * nI t + nI j) v M') (fun S' => RM t S' N (W0 N T) (fun d => N 5 d) ∧ frC t S S') := by
        intro b v hb hv
        unfold f_X10_starts_109
        refine wp_wr (10 * t + j) (ix10 t j) (by omega) ?_
        refine wp_wr (10 * t + j) (ix10 t j) (by omega) ?_
        refine wp_wr (10 * t + j) (ix10 t j) (by omega) ?_
        have end1 : ∀ u : Int32, (u = if j < N 0 1 then 1 else 0) → wp (f_X10_starts_153 (f_X10_starts_63 fuel') (nI t) (nI j) ((10 : Int32) * nI t + nI j) u (sI (sI (sI M' 21 (10 * t + j) v) 22 (10 * t + j) 0) 23 (10 * t + j) 0)) (fun S' => RM t S' N (W0 N T) (fun d => N 5 d) ∧ frC t S S') := by
          intro u hu
          unfold f_X10_starts_153
          refine wp_wr (10 * t + j) (ix10 t j) (by omega) ?_
          rw [nI_1]
          refine ih _ ⟨frC_tr f' (frC_tr (frC_sI (by unfold chC; omega)) (frC_tr (frC_sI (by unfold chC; omega)) (frC_tr (frC_sI (by unfold chC; omega)) (frC_sI (by unfold chC; omega))))), ?_, ?_, ?_, fun c hc => ?_, fun d hd => ?_⟩
          · rw [sI_off (by omega), sI_off (by omega), sI_off (by omega), sI_off (by omega)]; exact h16
          · rw [sI_off (by omega), sI_off (by omega), sI_off (by omega), sI_off (by omega)]; exact h17
          · rw [sI_off (by omega), sI_off (by omega), sI_off (by omega), sI_off (by omega)]; exact h18
          · have := h19 c hc
            simp only [sI1]
            grind
          · have := hd' d
            simp only [sI1]
            grind
        cases b with
        | true => exact wp_neg (by decide) (end1 1 (by rw [if_pos (hb.mp rfl)]))
        | false => exact wp_pos (by decide) (end1 0 (by rw [if_neg (fun e => by have := hb.mpr e; cases this)]))
      refine wp_if (fun q => ?_) (fun q => ?_)
      · rw [nI_leI (by omega) (by omega)] at q
        unfold f_X10_starts_84
        refine wp_pos rfl ?_
        exact last false 0 ⟨fun e => (by cases e), fun e => (by omega)⟩ (fun e => (by omega))
      · rw [nI_leI (by omega) (by omega)] at q
        unfold f_X10_starts_84
        refine wp_neg (by decide) ?_
        refine wp_rd j rfl (by omega) (hT'.2.2.2.2.1 j (by omega)).2.1 ?_
        exact last true _ ⟨fun _ => by omega, fun _ => rfl⟩ (fun _ => rfl)
  · rintro fuel j M hj ⟨f, g16, g17, g18, g⟩ ih
    try simp only at ih
    show wp (f_X10_starts_28 (fuel + 1) (nI t) (nI j) M) _
    unfold f_X10_starts_28
    refine wp_neg (nI_ge (b := 2) hj (by omega)) ?_
    refine wp_wr (2 * t + j) (ix2 t j) (by omega) ?_
    refine wp_wr (2 * t + j) (ix2 t j) (by omega) ?_
    rw [nI_1]
    refine ih _ ⟨frC_tr f (frC_tr (frC_sI (by unfold chC; omega)) (frC_sI (by unfold chC; omega))), ?_, ?_, ?_, fun c hc => ?_⟩
    · rw [sI_off (by omega), sI_off (by omega)]; exact g16
    · rw [sI_off (by omega), sI_off (by omega)]; exact g17
    · rw [sI_off (by omega), sI_off (by omega)]; exact g18
    · have := g c
      simp only [sI1]
      grind
end CPS
