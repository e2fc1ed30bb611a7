/-! PURE 4: the class's told and worlds -/
def TC (S : Mem) (N : TN) (T : WS) (L : LWS) : Prop :=
  S.1 31 0 = nI (N 0 0) ∧ S.1 31 1 = nI (N 0 1) ∧ S.1 31 2 = T 9 0 ∧
  (∀ i, i < N 0 0 → S.1 32 i = T 1 i ∧ S.1 33 i = nI (N 2 i) ∧ S.1 34 i = nI (N 3 i)) ∧
  (∀ d, d < N 0 1 → S.1 35 d = T 4 d ∧ S.1 36 d = nI (N 5 d) ∧ S.1 37 d = nI (ow N d) ∧ S.1 38 d = T 6 d ∧ S.1 39 d = T 7 d) ∧
  (∀ c, c < 2 → ∀ e, bt (S.1 40 c) e = true ↔ e < N 0 1 ∧ ow N e = c) ∧
  (∀ i, i < 4 → S.1 41 i = T 0 i) ∧
  (∀ k, k < 3 → (L k = none → S.1 (44 + 3 * k) 0 = 0) ∧ (∀ l, L k = some l → S.1 (44 + 3 * k) 0 = 1 ∧ S.1 (44 + 3 * k) 1 = nI l.length ∧ ∀ i, i < l.length → S.1 (45 + 3 * k) i = nI (l.getD i 0)))
def TI (N : TN) (T : WS) (L : LWS) : Prop :=
  N 0 0 ≤ 6 ∧ N 0 1 ≤ 10 ∧ (∀ i, i < N 0 0 → N 2 i ≤ 1 ∧ N 3 i ≤ 9) ∧
  (∀ d, d < N 0 1 → N 5 d < N 0 0 ∧ 0 ≤ T 6 d ∧ T 6 d ≤ 9 ∧ 0 ≤ T 7 d ∧ T 7 d ≤ 99) ∧ 0 ≤ T 0 0 ∧ T 0 0 ≤ 100 ∧ 0 ≤ T 0 2 ∧ 0 ≤ T 0 3 ∧ wfL L
theorem TC_to {S S' : Mem} {N : TN} {T : WS} {L : LWS} (h : TC S N T L) (e : ∀ k, 31 ≤ k → k < 53 → S'.1 k = S.1 k) : TC S' N T L := by
  obtain ⟨h1, h2, h3, h4, h5, h6, h7, h8⟩ := h
  have e31 := e 31 (by omega) (by omega)
  have e32 := e 32 (by omega) (by omega)
  have e33 := e 33 (by omega) (by omega)
  have e34 := e 34 (by omega) (by omega)
  have e35 := e 35 (by omega) (by omega)
  have e36 := e 36 (by omega) (by omega)
  have e37 := e 37 (by omega) (by omega)
  have e38 := e 38 (by omega) (by omega)
  have e39 := e 39 (by omega) (by omega)
  have e40 := e 40 (by omega) (by omega)
  have e41 := e 41 (by omega) (by omega)
  refine ⟨by rw [e31]; exact h1, by rw [e31]; exact h2, by rw [e31]; exact h3, by rw [e32, e33, e34]; exact h4, by rw [e35, e36, e37, e38, e39]; exact h5, by rw [e40]; exact h6, by rw [e41]; exact h7, ?_⟩
  intro k hk
  rw [e (44 + 3 * k) (by omega) (by omega), e (45 + 3 * k) (by omega) (by omega)]
  exact h8 k hk
/-- the class's world w, while it runs: cd the care for a doll -/
def WC (w : Nat) (S : Mem) (N : TN) (W : WS) (cd : Nat → Int32) : Prop :=
  S.1 w 0 = W 0 0 ∧ S.1 w 1 = W 0 3 ∧ S.1 w 2 = W 0 2 ∧ S.1 w 12 = W 0 4 ∧ S.2 w 3 = (W 0 1).toInt64 ∧
  (∀ d, d < N 0 1 → (∃ j, j < 6 ∧ S.1 (w + 1) d = nI j ∧ S.1 (w + 4) j = cd d) ∧ S.1 (w + 2) d = W 2 d ∧ S.1 (w + 3) d = W 3 d) ∧
  (∀ c, c < 2 → S.1 (w + 5) c = W 5 c ∧ S.1 (w + 6) c = W 6 c)
/-- nothing but the names and what the laws work with has changed -/
def frN (w : Nat) (S S' : Mem) : Prop := (∀ c, c ≠ w + 7 → S'.1 c = S.1 c) ∧ ∀ c, c ≠ 46 → c ≠ 49 → c ≠ 52 → S'.2 c = S.2 c
/-- nothing but the world w and what the laws work with has changed -/
def fr (w : Nat) (S S' : Mem) : Prop := (∀ c, c < w ∨ w + 7 < c ∨ c = w + 1 ∨ c = w + 4 → S'.1 c = S.1 c) ∧ ∀ c, c ≠ w → c ≠ 46 → c ≠ 49 → c ≠ 52 → S'.2 c = S.2 c
theorem fr_rf (w : Nat) (S : Mem) : fr w S S := ⟨fun _ _ => rfl, fun _ _ _ _ _ => rfl⟩
theorem fr_tr {w : Nat} {S S1 S2 : Mem} (h : fr w S S1) (h' : fr w S1 S2) : fr w S S2 :=
  ⟨fun c hc => (h'.1 c hc).trans (h.1 c hc), fun c a b d e => (h'.2 c a b d e).trans (h.2 c a b d e)⟩
theorem fr_n {w : Nat} {S S1 : Mem} (h : frN w S S1) : fr w S S1 := ⟨fun c hc => h.1 c (by omega), fun c _ b d e => h.2 c b d e⟩
theorem fr_sI {w k i : Nat} {v : Int32} {S : Mem} (h1 : w ≤ k) (h2 : k ≤ w + 7 ∧ k ≠ w + 1 ∧ k ≠ w + 4) : fr w S (sI S k i v) := ⟨fun c hc => sI_off (by omega), fun _ _ _ _ _ => rfl⟩
theorem fr_sL {w i : Nat} {v : Int64} {S : Mem} : fr w S (sL S w i v) := ⟨fun c hc => rfl, fun c hc _ _ _ => sL_off hc⟩
theorem TC_fr {w : Nat} (hw : 53 ≤ w) {S S' : Mem} {N : TN} {T : WS} {L : LWS} (h : TC S N T L) (e : fr w S S') : TC S' N T L := TC_to h (fun k _ h2 => e.1 k (by omega))
section WCS
variable {w : Nat} {S S' : Mem} {N : TN} {W : WS} {cd : Nat → Int32}
theorem WC_n (h : WC w S N W cd) (e : frN w S S') (hw : w = 53 ∨ w = 61 ∨ w = 69) : WC w S' N W cd := by
  obtain ⟨h0, h1, h2, h3, h4, h5, h6⟩ := h
  have a0 := e.1 w (by omega)
  have a1 := e.1 (w + 1) (by omega)
  have a2 := e.1 (w + 2) (by omega)
  have a3 := e.1 (w + 3) (by omega)
  have a4 := e.1 (w + 4) (by omega)
  have a5 := e.1 (w + 5) (by omega)
  have a6 := e.1 (w + 6) (by omega)
  have b := e.2 w (by omega) (by omega) (by omega)
  unfold WC
  rw [a0, a1, a2, a3, a4, a5, a6, b]
  exact ⟨h0, h1, h2, h3, h4, h5, h6⟩
theorem WC_2 (h : WC w S N W cd) (d : Nat) (v : Int32) : WC w (sI S (w + 2) d v) N (wu W 2 d v) cd := by
  unfold WC at *
  simp only [sI1, sI2, wu1]
  grind
theorem WC_3 (h : WC w S N W cd) (d : Nat) (v : Int32) : WC w (sI S (w + 3) d v) N (wu W 3 d v) cd := by
  unfold WC at *
  simp only [sI1, sI2, wu1]
  grind
theorem WC_5 (h : WC w S N W cd) (d : Nat) (v : Int32) : WC w (sI S (w + 5) d v) N (wu W 5 d v) cd := by
  unfold WC at *
  simp only [sI1, sI2, wu1]
  grind
theorem WC_6 (h : WC w S N W cd) (d : Nat) (v : Int32) : WC w (sI S (w + 6) d v) N (wu W 6 d v) cd := by
  unfold WC at *
  simp only [sI1, sI2, wu1]
  grind
theorem WC_wk (h : WC w S N W cd) (v : Int32) : WC w (sI S w 0 v) N (wu W 0 0 v) cd := by
  unfold WC at *
  simp only [sI1, sI2, wu1]
  grind
theorem WC_mo (h : WC w S N W cd) (v : Int32) : WC w (sI S w 2 v) N (wu W 0 2 v) cd := by
  unfold WC at *
  simp only [sI1, sI2, wu1]
  grind
theorem WC_hm (h : WC w S N W cd) (v : Int32) : WC w (sI S w 12 v) N (wu W 0 4 v) cd := by
  unfold WC at *
  simp only [sI1, sI2, wu1]
  grind
theorem WC_he (h : WC w S N W cd) (v : Int32) : WC w (sI S w 1 v) N (wu W 0 3 v) cd := by
  unfold WC at *
  simp only [sI1, sI2, wu1]
  grind
theorem WC_nu (h : WC w S N W cd) {v : Int64} {x : Int32} (hv : v = x.toInt64) : WC w (sL S w 3 v) N (wu W 0 1 x) cd := by
  unfold WC at *
  simp only [sL1, sL2, wu1]
  grind
end WCS
theorem care_C {w : Nat} {S : Mem} {N : TN} {W : WS} {cd : Nat → Int32} (h : WC w S N W cd) (hN : N 0 1 ≤ 10) {d : Nat} (hd : d < N 0 1) : f_X8_careFor w (nI d) S = some (cd d, S) := by
  obtain ⟨j, hj, e1, e2⟩ := (h.2.2.2.2.2.1 d hd).1
  unfold f_X8_careFor
  rw [rdN (by omega) (by decide)]
  show ((rd S (w + 4) 6 (S.1 (w + 1) d)).bind _) = _
  rw [e1, rdN hj (by decide), e2]
  rfl
set_option maxHeartbeats 2000000 in
theorem dollLaw_C {w : Nat} {S : Mem} {N : TN} {T : WS} {L : LWS} {W : WS} {cd : Nat → Int32} (hw : w = 53 ∨ w = 69) (hT : TC S N T L) (hI : TI N T L) (h : WC w S N W cd) {k d : Nat} (hk : k < 3) (hd : d < N 0 1) (cv : Int32) :
    wp (f_X8_dollLaw w (nI k) (nI d) cv S) (fun q => q.1 = er (lawV (L k) (nmD N T W cv d)) ∧ frN w S q.2) := by
  obtain ⟨t1, t2, t3, t4, t5, t6, t7, t8⟩ := hT
  obtain ⟨h0, h1, h2, h3, h4, h5, h6⟩ := h
  have hnd : N 0 1 ≤ 10 := hI.2.1
  unfold f_X8_dollLaw
  rw [clN (n := 3) hk (by decide)]
  refine wp_pos (inbN hk (by decide)) ?_
  have ecell : 31 + 13 + 3 * k = 44 + 3 * k := rfl
  rw [ecell]
  obtain ⟨tn, ts⟩ := t8 k hk
  cases hL : L k with
  | none =>
    rw [tn hL]
    exact wp_pos rfl (wp_some ⟨rfl, fun _ _ => rfl, fun _ _ _ _ => rfl⟩)
  | some l =>
    obtain ⟨s0, s1, s2⟩ := ts l hL
    rw [s0]
    refine wp_neg (by decide) ?_
    obtain ⟨d1, d2, d3, d4, d5⟩ := t5 d hd
    have a38 : 38 ≠ w + 7 := by omega
    have a39 : 39 ≠ w + 7 := by omega
    have a37 : 37 ≠ w + 7 := by omega
    have aw : w ≠ w + 7 := by omega
    have aw2 : w + 2 ≠ w + 7 := by omega
    have aw3 : w + 3 ≠ w + 7 := by omega
    have aw5 : w + 5 ≠ w + 7 := by omega
    have how : ow N d < 2 := by unfold ow; omega
    refine wp_rd d rfl (by omega) d4 ?_
    refine wp_wr 0 rfl (by decide) ?_
    refine wp_rd d rfl (by omega) (by simp only [sI_off a39]; exact d5) ?_
    refine wp_wr 1 rfl (by decide) ?_
    refine wp_rd d rfl (by omega) (by simp only [sI_off aw2]; exact (h5 d hd).2.1) ?_
    refine wp_wr 2 rfl (by decide) ?_
    refine wp_wr 3 rfl (by decide) ?_
    refine wp_rd d rfl (by omega) (by simp only [sI_off a37]; exact d3) ?_
    refine wp_rd (ow N d) rfl (by omega) (by simp only [sI_off aw5]; exact (h6 _ how).1) ?_
    refine wp_wr 4 rfl (by decide) ?_
    refine wp_rd d rfl (by omega) (by simp only [sI_off aw3]; exact (h5 d hd).2.2) ?_
    refine wp_wr 5 rfl (by decide) ?_
    refine wp_wr 6 rfl (by decide) ?_
    simp only [sI_off aw]
    rw [h0]
    have ac : 44 + 3 * k ≠ w + 7 := by omega
    have ac1 : 44 + 3 * k + 1 ≠ w + 7 := by omega
    refine wp_bnd (valC (l := l) (nm := nmD N T W cv d) ?_ ?_ ?_ ?_ ?_) ?_
    · simp only [sI_off ac]; exact s1
    · exact (hI.2.2.2.2.2.2.2.2 k hk l hL).2
    · intro i hi
      simp only [sI_off ac1]
      rw [show 44 + 3 * k + 1 = 45 + 3 * k by omega]
      exact s2 i hi
    · exact okL l 0 (hI.2.2.2.2.2.2.2.2 k hk l hL).1
    · intro i hi
      rcases (by omega : i = 0 ∨ i = 1 ∨ i = 2 ∨ i = 3 ∨ i = 4 ∨ i = 5 ∨ i = 6) with rfl | rfl | rfl | rfl | rfl | rfl | rfl <;> simp [sI1, nmD]
    · rintro r S' ⟨q1, q2, q3⟩
      refine wp_some ⟨q1, fun c hc => ?_, fun c c1 c2 c3 => ?_⟩
      · simp only at q2
        rw [q2]
        simp only [sI_off hc]
      · exact q3 c (by omega)
