/-! PURE 46: the text: the reading state -/
section RDS
variable {C M S S' : Mem} {b : Nat → Nat} {n p q i m : Nat}
/-- the tokens in the class's cells; m of them before the end -/
def tkC (S : Mem) (b : Nat → Nat) (n m : Nat) : Prop := m ≤ n ∧ ps b n m = n ∧ (∀ i, i < m → ps b n i < n) ∧ ∀ i, i ≤ m → S.1 5 i = nI (tkd b n (ps b n i)) ∧ S.1 6 i = nI (ps b n i) ∧ (i < m → S.1 7 i = nI (tvC b n (ps b n i)))
theorem tkC_of (h : cutR C S b n) : ∃ m, tkC S b n m := by
  obtain ⟨m, h1, h2, h3, h4, h5, h6, h7⟩ := h
  refine ⟨m, h1, h2, fun i hi => (h4 i hi).1, fun i hi => ?_⟩
  by_cases e : i = m
  · subst e
    rw [h2]
    have e0 : tkd b n n = 0 := by unfold tkd; rw [if_neg (Nat.lt_irrefl _)]
    exact ⟨by rw [e0]; exact h5, h6, fun z => absurd z (Nat.lt_irrefl _)⟩
  · obtain ⟨a1, a2, a3, a4⟩ := h4 i (by omega)
    exact ⟨a2, a3, fun _ => a4⟩
theorem tkC_to (h : tkC S b n m) (e : ∀ c i, c = 5 ∨ c = 6 ∨ c = 7 → S'.1 c i = S.1 c i) : tkC S' b n m := by
  obtain ⟨h1, h2, h3, h4⟩ := h
  refine ⟨h1, h2, h3, fun i hi => ?_⟩
  rw [e 5 i (by omega), e 6 i (by omega), e 7 i (by omega)]
  exact h4 i hi
theorem kindR_C (h : tkC S b n m) (hn : n ≤ 700) (h5 : S.1 3 5 = nI i) (hi : i ≤ m) : f_X4_kind S = some (nI (tkd b n (ps b n i)), S) := by
  have := h.1
  unfold f_X4_kind
  rw [h5, if_neg (show ¬ 700 < nI i from Int32.not_lt.mpr (nI_le (b := 700) (by omega) (by omega))), rdN (by omega) (by omega), (h.2.2.2 i hi).1]
  rfl
theorem valR_C (h : tkC S b n m) (hn : n ≤ 700) (h5 : S.1 3 5 = nI i) (hi : i < m) : f_X4_value S = some (nI (tvC b n (ps b n i)), S) := by
  have := h.1
  unfold f_X4_value
  rw [h5, if_neg (show ¬ 700 < nI i from Int32.not_lt.mpr (nI_le (b := 700) (by omega) (by omega))), rdN (by omega) (by omega), (h.2.2.2 i (by omega)).2.2 hi]
  rfl
theorem wrongR_C (h : tkC S b n m) (hn : n ≤ 700) (h5 : S.1 3 5 = nI i) (hi : i ≤ m) (v : Int32) : f_X4_wrong v S = some (0, sI (sI S 3 2 v) 3 3 (nI (ps b n i))) := by
  have := h.1
  have e5 : (sI S 3 2 v).1 3 5 = nI i := by rw [sI1, if_neg (by omega)]; exact h5
  unfold f_X4_wrong
  rw [nxt_eq, e5, if_neg (show ¬ 700 < nI i from Int32.not_lt.mpr (nI_le (b := 700) (by omega) (by omega))), rdN (by omega) (by omega), Option.bind_some, sI_off (by omega), (h.2.2.2 i hi).2.1]
  rfl
theorem tkd_0 (h : tkd b n p = 0) : ¬ p < n := by
  intro hp
  unfold tkd at h
  rw [if_pos hp] at h
  by_cases h1 : isLt (b p) = true
  · rw [if_pos h1] at h
    by_cases h2 : eLt b n p - p ≤ 6
    · rw [if_pos h2] at h
      unfold wkN at h
      split at h <;> omega
    · rw [if_neg h2] at h; omega
  · rw [if_neg h1] at h
    by_cases h2 : isDg (b p) = true
    · rw [if_pos h2] at h; omega
    · rw [if_neg h2] at h
      unfold sgK at h
      rcases pk_cases (b p) (yAt b n p) with ⟨c1, -⟩ | ⟨c1, -, c3, -⟩
      · rw [if_pos c1] at h
        unfold skN at h
        repeat' split at h
        all_goals omega
      · rw [if_neg c1] at h; omega
/-- the reference stands at token i -/
def tkA (M : Mem) (b : Nat → Nat) (n i : Nat) : Prop := TP M b n ∧ M.1 0 18 = nI (tnx b n (ps b n i)) ∧ M.1 0 19 = nI (ps b n i) ∧ tkM M b n (ps b n i)
theorem tkM_to {M M' : Mem} (h : tkM M b n p) (e1 : M'.1 0 20 = M.1 0 20) (e2 : M'.1 0 21 = M.1 0 21) : tkM M' b n p := by
  unfold tkM
  rw [e1, e2]
  exact h
theorem tkA_to {M M' : Mem} (h : tkA M b n i) (e : ∀ c j, c = 1 ∨ (c = 0 ∧ 17 ≤ j ∧ j ≤ 21) → M'.1 c j = M.1 c j) : tkA M' b n i := by
  obtain ⟨⟨h1, h2⟩, h3, h4, h5⟩ := h
  exact ⟨⟨by rw [e 0 17 (by omega)]; exact h1, fun j hj => by rw [e 1 j (by omega)]; exact h2 j hj⟩, by rw [e 0 18 (by omega)]; exact h3, by rw [e 0 19 (by omega)]; exact h4, tkM_to h5 (e 0 20 (by omega)) (e 0 21 (by omega))⟩
theorem step_M (h : tkA M b n i) (hb2 : ∀ i, i < n → b i < 256) (hn : n ≤ 700) : wp (f_X10_token M) (fun M' => tkA M' b n (i + 1) ∧ frQ M M') := by
  obtain ⟨hT, h3, h4, h5⟩ := h
  have hx : tnx b n (ps b n i) ≤ n := by
    by_cases z : ps b n i < n
    · exact (tnx_lt z).2
    · unfold tnx; rw [if_neg z]; exact ps_le i
  refine wp_mono (token_M hT hb2 hn hx h3) ?_
  rintro M' ⟨e1, e2, e3, e4⟩
  exact ⟨⟨TP_q hT e4, e1, e2, e3⟩, e4⟩
theorem goOn_M (h : tkA M b n i) (h22 : M.1 0 22 = 0) (hb2 : ∀ i, i < n → b i < 256) (hn : n ≤ 700) : wp (f_X10_goOn M) (fun M' => tkA M' b n (i + 1) ∧ frQ M M') := by
  unfold f_X10_goOn
  refine wp_pos h22 ?_
  refine wp_call (step_M h hb2 hn) ?_
  rintro M' h'
  exact wp_some h'
theorem goOn_i (h22 : M.1 0 22 ≠ 0) : f_X10_goOn M = some M := by
  unfold f_X10_goOn
  rw [if_neg h22]
theorem wrongR_M (h : tkA M b n i) (h22 : M.1 0 22 = 0) (v : Int32) : f_X10_wrong v M = some (sI (sI M 0 22 v) 0 23 (nI (ps b n i))) := by
  unfold f_X10_wrong
  rw [if_pos h22, nxt_eq, nxt_eq, sI1, if_neg (by omega), h.2.2.1]
theorem wrongR_i (h22 : M.1 0 22 ≠ 0) (v : Int32) : f_X10_wrong v M = some M := by
  unfold f_X10_wrong
  rw [if_neg h22]
end RDS
