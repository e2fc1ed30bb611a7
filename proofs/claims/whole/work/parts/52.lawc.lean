/-! PURE 3: the class works a law out -/
theorem chk_c (v : Int64) : (chk v = none ∧ ¬ bd v) ∨ (chk v = some v ∧ bd v) := by
  unfold chk bd
  by_cases h1 : (1000000000000 : Int64) < v
  · rw [if_pos h1]; exact Or.inl ⟨rfl, fun h => h.1 h1⟩
  · rw [if_neg h1]
    by_cases h2 : v < (-1000000000000 : Int64)
    · rw [if_pos h2]; exact Or.inl ⟨rfl, fun h => h.2 h2⟩
    · rw [if_neg h2]; exact Or.inr ⟨rfl, h1, h2⟩
theorem bd_0 : bd 0 := by unfold bd; decide
theorem bd_1 : bd 1 := by unfold bd; decide
theorem bd_e : ¬ bd (-9223372036854775808) := by unfold bd; decide
theorem f_225 {x y a b : Int64} {S : Mem} (hb : b ≠ 0) : f_X1_joined_225 x y a b S = some ((if a / b < y then -9223372036854775808 else if -(a / b) ≤ y then x * y else -9223372036854775808), S) := by
  unfold f_X1_joined_225 dvL
  rw [if_neg hb]
  show (if a / b < y then _ else _) = _
  by_cases h1 : a / b < y
  · rw [if_pos h1, if_pos h1]
  · rw [if_neg h1, if_neg h1]
    by_cases h2 : -(a / b) ≤ y
    · rw [if_pos h2, if_pos h2]
    · rw [if_neg h2, if_neg h2]
theorem neg0 {x : Int64} (h : x ≠ 0) : -x ≠ 0 := by
  intro e
  apply h
  have := congrArg (fun z => -z) e
  simpa using this
theorem jc_7 (x y : Int64) (S : Mem) : ∃ v, f_X1_joined (nI 7) x y S = some (v, S) ∧ ((jn 7 x y = none ∧ ¬ bd v) ∨ (jn 7 x y = some v ∧ bd v)) := by
  unfold f_X1_joined
  rw [if_pos (by decide)]
  by_cases h : y ≤ x
  · rw [if_pos h]; exact ⟨0, rfl, Or.inr ⟨by simp [jn, h], bd_0⟩⟩
  · rw [if_neg h]; exact ⟨1, rfl, Or.inr ⟨by simp [jn, h], bd_1⟩⟩
theorem jc_8 (x y : Int64) (S : Mem) : ∃ v, f_X1_joined (nI 8) x y S = some (v, S) ∧ ((jn 8 x y = none ∧ ¬ bd v) ∨ (jn 8 x y = some v ∧ bd v)) := by
  unfold f_X1_joined
  rw [if_neg (by decide), if_pos (by decide)]
  by_cases h : y < x
  · rw [if_pos h]; exact ⟨0, rfl, Or.inr ⟨by simp [jn, h], bd_0⟩⟩
  · rw [if_neg h]; exact ⟨1, rfl, Or.inr ⟨by simp [jn, h], bd_1⟩⟩
theorem jc_9 (x y : Int64) (S : Mem) : ∃ v, f_X1_joined (nI 9) x y S = some (v, S) ∧ ((jn 9 x y = none ∧ ¬ bd v) ∨ (jn 9 x y = some v ∧ bd v)) := by
  unfold f_X1_joined
  rw [if_neg (by decide), if_neg (by decide), if_pos (by decide)]
  by_cases h : x = y
  · rw [if_pos h]; exact ⟨1, rfl, Or.inr ⟨by simp [jn, h], bd_1⟩⟩
  · rw [if_neg h]; exact ⟨0, rfl, Or.inr ⟨by simp [jn, h], bd_0⟩⟩
theorem jc_10 (x y : Int64) (S : Mem) : ∃ v, f_X1_joined (nI 10) x y S = some (v, S) ∧ ((jn 10 x y = none ∧ ¬ bd v) ∨ (jn 10 x y = some v ∧ bd v)) := by
  unfold f_X1_joined
  rw [if_neg (by decide), if_neg (by decide), if_neg (by decide), if_pos (by decide)]
  by_cases h : x = y
  · rw [if_pos h]; exact ⟨0, rfl, Or.inr ⟨by simp [jn, h], bd_0⟩⟩
  · rw [if_neg h]; exact ⟨1, rfl, Or.inr ⟨by simp [jn, h], bd_1⟩⟩
theorem jc_11 (x y : Int64) (S : Mem) : ∃ v, f_X1_joined (nI 11) x y S = some (v, S) ∧ ((jn 11 x y = none ∧ ¬ bd v) ∨ (jn 11 x y = some v ∧ bd v)) := by
  unfold f_X1_joined
  rw [if_neg (by decide), if_neg (by decide), if_neg (by decide), if_neg (by decide), if_pos (by decide)]
  by_cases h : x < y
  · rw [if_pos h]; exact ⟨0, rfl, Or.inr ⟨by simp [jn, h], bd_0⟩⟩
  · rw [if_neg h]; exact ⟨1, rfl, Or.inr ⟨by simp [jn, h], bd_1⟩⟩
theorem jc_12 (x y : Int64) (S : Mem) : ∃ v, f_X1_joined (nI 12) x y S = some (v, S) ∧ ((jn 12 x y = none ∧ ¬ bd v) ∨ (jn 12 x y = some v ∧ bd v)) := by
  unfold f_X1_joined
  rw [if_neg (by decide), if_neg (by decide), if_neg (by decide), if_neg (by decide), if_neg (by decide), if_pos (by decide)]
  by_cases h : x ≤ y
  · rw [if_pos h]; exact ⟨0, rfl, Or.inr ⟨by simp [jn, h], bd_0⟩⟩
  · rw [if_neg h]; exact ⟨1, rfl, Or.inr ⟨by simp [jn, h], bd_1⟩⟩
theorem jc_13 (x y : Int64) (S : Mem) : ∃ v, f_X1_joined (nI 13) x y S = some (v, S) ∧ ((jn 13 x y = none ∧ ¬ bd v) ∨ (jn 13 x y = some v ∧ bd v)) := by
  unfold f_X1_joined
  rw [if_neg (by decide), if_neg (by decide), if_neg (by decide), if_neg (by decide), if_neg (by decide), if_neg (by decide), if_pos (by decide)]
  refine ⟨x + y, rfl, ?_⟩
  rw [show jn 13 x y = chk (x + y) by simp [jn]]
  exact chk_c _
theorem jc_14 (x y : Int64) (S : Mem) : ∃ v, f_X1_joined (nI 14) x y S = some (v, S) ∧ ((jn 14 x y = none ∧ ¬ bd v) ∨ (jn 14 x y = some v ∧ bd v)) := by
  unfold f_X1_joined
  rw [if_neg (by decide), if_neg (by decide), if_neg (by decide), if_neg (by decide), if_neg (by decide), if_neg (by decide), if_neg (by decide), if_pos (by decide)]
  refine ⟨x - y, rfl, ?_⟩
  rw [show jn 14 x y = chk (x - y) by simp [jn]]
  exact chk_c _
theorem jc_15 (x y : Int64) (S : Mem) : ∃ v, f_X1_joined (nI 15) x y S = some (v, S) ∧ ((jn 15 x y = none ∧ ¬ bd v) ∨ (jn 15 x y = some v ∧ bd v)) := by
  unfold f_X1_joined
  rw [if_neg (by decide), if_neg (by decide), if_neg (by decide), if_neg (by decide), if_neg (by decide), if_neg (by decide), if_neg (by decide), if_neg (by decide), if_pos (by decide)]
  show ∃ v, _ ∧ ((jmul x y = none ∧ ¬ bd v) ∨ (jmul x y = some v ∧ bd v))
  unfold jmul
  by_cases hx : x = 0
  · rw [if_pos hx, if_pos hx]; exact ⟨0, rfl, Or.inr ⟨rfl, bd_0⟩⟩
  · rw [if_neg hx, if_neg hx]
    by_cases hy : y = 0
    · rw [if_pos hy, if_pos hy]; exact ⟨0, rfl, Or.inr ⟨rfl, bd_0⟩⟩
    · rw [if_neg hy, if_neg hy]
      have key : ∀ b : Int64, b ≠ 0 → ∃ v, f_X1_joined_225 x y 1000000000000 b S = some (v, S) ∧ (((if (1000000000000 : Int64) / b < y then none else if -((1000000000000 : Int64) / b) ≤ y then chk (x * y) else none) = none ∧ ¬ bd v) ∨ ((if (1000000000000 : Int64) / b < y then none else if -((1000000000000 : Int64) / b) ≤ y then chk (x * y) else none) = some v ∧ bd v)) := by
        intro b hb
        refine ⟨_, f_225 hb, ?_⟩
        by_cases h1 : (1000000000000 : Int64) / b < y
        · rw [if_pos h1, if_pos h1]; exact Or.inl ⟨rfl, bd_e⟩
        · rw [if_neg h1, if_neg h1]
          by_cases h2 : -((1000000000000 : Int64) / b) ≤ y
          · rw [if_pos h2, if_pos h2]; exact chk_c _
          · rw [if_neg h2, if_neg h2]; exact Or.inl ⟨rfl, bd_e⟩
      by_cases h0 : (0 : Int64) ≤ x
      · rw [if_pos h0]; simp only [if_pos h0]; exact key x hx
      · rw [if_neg h0]; simp only [if_neg h0]; exact key (-x) (neg0 hx)
theorem jc_16 (x y : Int64) (S : Mem) : ∃ v, f_X1_joined (nI 16) x y S = some (v, S) ∧ ((jn 16 x y = none ∧ ¬ bd v) ∨ (jn 16 x y = some v ∧ bd v)) := by
  unfold f_X1_joined
  rw [if_neg (by decide), if_neg (by decide), if_neg (by decide), if_neg (by decide), if_neg (by decide), if_neg (by decide), if_neg (by decide), if_neg (by decide), if_neg (by decide), if_pos (by decide)]
  show ∃ v, _ ∧ (((if y = 0 then none else chk (x / y)) = none ∧ ¬ bd v) ∨ ((if y = 0 then none else chk (x / y)) = some v ∧ bd v))
  by_cases hy : y = 0
  · rw [if_pos hy, if_pos hy]; exact ⟨_, rfl, Or.inl ⟨rfl, bd_e⟩⟩
  · rw [if_neg hy, if_neg hy]
    refine ⟨x / y, ?_, chk_c _⟩
    unfold dvL
    rw [if_neg hy]
    rfl
theorem jc_17 (x y : Int64) (S : Mem) : ∃ v, f_X1_joined (nI 17) x y S = some (v, S) ∧ ((jn 17 x y = none ∧ ¬ bd v) ∨ (jn 17 x y = some v ∧ bd v)) := by
  unfold f_X1_joined
  rw [if_neg (by decide), if_neg (by decide), if_neg (by decide), if_neg (by decide), if_neg (by decide), if_neg (by decide), if_neg (by decide), if_neg (by decide), if_neg (by decide), if_neg (by decide), if_pos (by decide)]
  by_cases hx : x = 0
  · rw [if_pos hx]
    by_cases hy : y = 0
    · rw [if_pos hy]; exact ⟨0, rfl, Or.inr ⟨by simp [jn, hx, hy], bd_0⟩⟩
    · rw [if_neg hy]; exact ⟨1, rfl, Or.inr ⟨by simp [jn, hx, hy], bd_1⟩⟩
  · rw [if_neg hx]; exact ⟨1, rfl, Or.inr ⟨by simp [jn, hx], bd_1⟩⟩
theorem jc_18 (x y : Int64) (S : Mem) : ∃ v, f_X1_joined (nI 18) x y S = some (v, S) ∧ ((jn 18 x y = none ∧ ¬ bd v) ∨ (jn 18 x y = some v ∧ bd v)) := by
  unfold f_X1_joined
  rw [if_neg (by decide), if_neg (by decide), if_neg (by decide), if_neg (by decide), if_neg (by decide), if_neg (by decide), if_neg (by decide), if_neg (by decide), if_neg (by decide), if_neg (by decide), if_neg (by decide), if_pos (by decide)]
  by_cases hx : x = 0
  · rw [if_pos hx]; exact ⟨0, rfl, Or.inr ⟨by simp [jn, hx], bd_0⟩⟩
  · rw [if_neg hx]
    by_cases hy : y = 0
    · rw [if_pos hy]; exact ⟨0, rfl, Or.inr ⟨by simp [jn, hy], bd_0⟩⟩
    · rw [if_neg hy]; exact ⟨1, rfl, Or.inr ⟨by simp [jn, hx, hy], bd_1⟩⟩
theorem joinC (k : Nat) (h7 : 7 ≤ k) (h18 : k ≤ 18) (x y : Int64) (S : Mem) : ∃ v, f_X1_joined (nI k) x y S = some (v, S) ∧ ((jn k x y = none ∧ ¬ bd v) ∨ (jn k x y = some v ∧ bd v)) := by
  rcases (by omega : k = 7 ∨ k = 8 ∨ k = 9 ∨ k = 10 ∨ k = 11 ∨ k = 12 ∨ k = 13 ∨ k = 14 ∨ k = 15 ∨ k = 16 ∨ k = 17 ∨ k = 18) with rfl | rfl | rfl | rfl | rfl | rfl | rfl | rfl | rfl | rfl | rfl | rfl
  · exact jc_7 x y S
  · exact jc_8 x y S
  · exact jc_9 x y S
  · exact jc_10 x y S
  · exact jc_11 x y S
  · exact jc_12 x y S
  · exact jc_13 x y S
  · exact jc_14 x y S
  · exact jc_15 x y S
  · exact jc_16 x y S
  · exact jc_17 x y S
  · exact jc_18 x y S
def stkC (S : Mem) (k : Nat) : List Int64 → Prop
  | [] => True
  | v :: s => S.2 k s.length = v ∧ stkC S k s
theorem stk_sL {S : Mem} {k j : Nat} {v : Int64} : ∀ {s : List Int64}, stkC S k s → s.length ≤ j → stkC (sL S k j v) k s := by
  intro s
  induction s with
  | nil => intro _ _; trivial
  | cons a s ih =>
    intro h hj
    simp only [List.length_cons] at hj
    refine ⟨?_, ih h.2 (by omega)⟩
    rw [sL2, if_neg (by omega)]
    exact h.1
theorem stk_push {S : Mem} {k : Nat} {v : Int64} {s : List Int64} (h : stkC S k s) : stkC (sL S k s.length v) k (v :: s) :=
  ⟨by rw [sL2, if_pos ⟨rfl, rfl⟩], stk_sL h (Nat.le_refl _)⟩
theorem okK {k : Nat} {l : List Nat} {n : Nat} (h : wfK (k :: l) n) : 7 ≤ k ∧ k ≤ 10099 ∧ ¬ (26 < k ∧ k < 100) := by
  unfold wfK at h
  split at h
  · split at h <;> omega
  · split at h <;> omega
theorem okL : ∀ (l : List Nat) (n : Nat), wfK l n → ∀ k ∈ l, 7 ≤ k ∧ k ≤ 10099 ∧ ¬ (26 < k ∧ k < 100) := by
  intro l
  induction l with
  | nil => intro n _ k hk; cases hk
  | cons a l ih =>
    intro n h k hk
    rcases List.mem_cons.mp hk with rfl | hk
    · exact okK h
    · unfold wfK at h
      split at h
      · split at h
        · exact ih _ h.2.2 k hk
        · exact ih _ h.2.2 k hk
      · split at h
        · exact ih _ h.2 k hk
        · exact ih _ h.2 k hk
set_option maxHeartbeats 4000000 in
theorem valC {a a1 : Nat} {S : Mem} {l : List Nat} {nm : Nat → Int32} (hsz : S.1 a 1 = nI l.length) (hl : l.length ≤ 64) (hrow : ∀ i, i < l.length → S.1 (a + 1) i = nI (l.getD i 0))
    (hc : ∀ k ∈ l, 7 ≤ k ∧ k ≤ 10099 ∧ ¬ (26 < k ∧ k < 100)) (hnm : ∀ i, i < 7 → S.1 a1 i = nm i) :
    wp (f_X1_valueFor a a1 7 S) (fun q => q.1 = er (fin1 (evL nm l [])) ∧ q.2.1 = S.1 ∧ ∀ k, k ≠ a + 2 → q.2.2 k = S.2 k) := by
  unfold f_X1_valueFor
  refine lp0 (fun fuel i (s : List Int64 × Mem) => f_X1_valueFor_4 a a1 7 fuel (nI s.1.length) i s.2) l.length (fun i s => s.2.1 = S.1 ∧ (∀ k, k ≠ a + 2 → s.2.2 k = S.2 k) ∧ stkC s.2 (a + 2) s.1 ∧ s.1.length ≤ i ∧ evL nm l [] = evL nm (l.drop i) s.1) (by omega) ([], S) ⟨rfl, fun _ _ => rfl, trivial, Nat.le_refl _, by rw [List.drop_zero]⟩ ?_ ?_
  · rintro fuel ⟨st, M⟩ ⟨h1, h2, h3, h4, h5⟩
    simp only at h1 h2 h3 h4 h5
    show wp (f_X1_valueFor_4 a a1 7 (fuel + 1) (nI st.length) (nI l.length) M) _
    unfold f_X1_valueFor_4
    rw [h1, hsz]
    refine wp_pos (Int32.le_refl _) ?_
    rw [List.drop_length] at h5
    refine wp_if (fun c => ?_) (fun c => ?_)
    · have hs : st.length = 1 := by
        rw [show (1 : Int32) = nI 1 from rfl, nI_eq (by omega) (by omega)] at c
        exact c
      obtain ⟨v, rfl⟩ := List.length_eq_one_iff.mp hs
      refine wp_rdL 0 rfl (by decide) h3.1 (wp_some ⟨?_, h1, h2⟩)
      rw [h5]; rfl
    · refine wp_some ⟨?_, h1, h2⟩
      rw [h5]
      have : st.length ≠ 1 := fun e => c (by rw [e]; rfl)
      rcases st with _ | ⟨v, _ | ⟨u, st⟩⟩
      · rfl
      · exact absurd rfl this
      · rfl
  · rintro fuel i ⟨st, M⟩ hi ⟨h1, h2, h3, h4, h5⟩ ih
    simp only at h1 h2 h3 h4 h5 ih
    show wp (f_X1_valueFor_4 a a1 7 (fuel + 1) (nI st.length) (nI i) M) _
    unfold f_X1_valueFor_4
    rw [h1, hsz]
    refine wp_neg (nI_ge hi (by omega)) ?_
    have hgd : l.getD i 0 = l[i] := by simp [List.getD, hi]
    have hk := hc l[i] (List.getElem_mem hi)
    rw [List.drop_eq_getElem_cons hi] at h5
    generalize hkk : l[i] = k at *
    refine wp_rd i rfl (by omega) (by rw [h1, hrow i hi, hgd]) ?_
    have h5' : evL nm l [] = (evK nm k st).bind (evL nm (l.drop (i + 1))) := h5
    rw [show (100 : Int32) = nI 100 from rfl, show (20 : Int32) = nI 20 from rfl, show (26 : Int32) = nI 26 from rfl]
    have push : ∀ (v : Int64), evK nm k st = some (v :: st) → wp ((wrL M (a + 2) 64 (nI st.length) v).bind fun S' => f_X1_valueFor_4 a a1 7 fuel (nI st.length + 1) (nI i + 1) S') (fun q => q.1 = er (fin1 (evL nm l [])) ∧ q.2.1 = S.1 ∧ ∀ k, k ≠ a + 2 → q.2.2 k = S.2 k) := by
      intro v hv
      refine wp_wrL st.length rfl (by omega) ?_
      rw [nI_1, nI_1]
      refine ih (v :: st, _) ⟨h1, fun k' hk' => ?_, stk_push h3, by simp only [List.length_cons]; omega, by rw [h5', hv]; rfl⟩
      rw [← h2 k' hk']
      funext j
      simp [sL2, hk']
    have sgn : k < 20 → evK nm k st = evS k st → wp (f_X1_valueFor_79 a a1 7 (f_X1_valueFor_4 a a1 7 fuel) (nI st.length) (nI i) (nI k) M) (fun q => q.1 = er (fin1 (evL nm l [])) ∧ q.2.1 = S.1 ∧ ∀ k, k ≠ a + 2 → q.2.2 k = S.2 k) := by
      intro hk2 hv
      rw [hv] at h5'
      unfold f_X1_valueFor_79
      refine wp_if (fun c => ?_) (fun c => ?_)
      · have c : k = 19 := (nI_eq (by omega) (by omega)).mp (show nI k = nI 19 from c)
        subst c
        rcases st with _ | ⟨x, st⟩
        · refine wp_neg (by decide) (wp_some ⟨by rw [h5']; rfl, h1, h2⟩)
        · have e1 : nI (x :: st).length - 1 = nI st.length := nI_pred _
          refine wp_pos ?_ ?_
          · rw [show (1 : Int32) = nI 1 from rfl, nI_leI (by omega) (by simp only [List.length_cons] at h4 ⊢; omega)]
            simp
          have hlt : st.length < 64 := by simp only [List.length_cons] at h4; omega
          have fin : ∀ v : Int64, v = (if x = 0 then 1 else 0) → wp (f_X1_valueFor_120 a a1 7 (f_X1_valueFor_4 a a1 7 fuel) (nI (x :: st).length) (nI i) (nI (x :: st).length - 1) v M) (fun q => q.1 = er (fin1 (evL nm l [])) ∧ q.2.1 = S.1 ∧ ∀ k, k ≠ a + 2 → q.2.2 k = S.2 k) := by
            intro v hv'
            unfold f_X1_valueFor_120
            refine wp_wrL st.length e1 hlt ?_
            rw [nI_1]
            refine ih (v :: st, _) ⟨h1, fun k' hk' => ?_, stk_push h3.2, by simp only [List.length_cons] at h4 ⊢; omega, by rw [h5', hv']; rfl⟩
            rw [← h2 k' hk']
            funext j
            simp [sL2, hk']
          refine wp_rdL st.length e1 hlt h3.1 ?_
          refine wp_if (fun c => ?_) (fun c => ?_)
          · exact fin 1 (by rw [if_pos c])
          · exact fin 0 (by rw [if_neg c])
      · have c : ¬ k = 19 := fun e => c (by rw [e]; rfl)
        rcases st with _ | ⟨y, _ | ⟨x, st⟩⟩
        · refine wp_neg (by decide) (wp_some ⟨by rw [h5', evS, if_neg c]; rfl, h1, h2⟩)
        · refine wp_neg (show ¬ (2 : Int32) ≤ nI 1 by decide) (wp_some ⟨by rw [h5', evS, if_neg c]; rfl, h1, h2⟩)
        · have hlen : st.length + 2 ≤ i := h4
          have e2 : nI (y :: x :: st).length + (-1) = nI (st.length + 1) := pk_m1 _
          have e3 : nI (st.length + 1) - 1 = nI st.length := nI_pred _
          refine wp_pos ?_ ?_
          · rw [show (2 : Int32) = nI 2 from rfl, nI_leI (by omega) (by simp only [List.length_cons]; omega)]
            simp
          rw [e2, e3]
          refine wp_rdL st.length rfl (by omega) h3.2.1 ?_
          refine wp_rdL (st.length + 1) rfl (by omega) h3.1 ?_
          obtain ⟨v, hj, hv'⟩ := joinC k hk.1 (by omega) x y M
          refine wp_bnde hj ?_
          rcases hv' with ⟨hn, hb⟩ | ⟨hs, hb⟩
          · have : (1000000000000 : Int64) < v ∨ v < (-1000000000000 : Int64) := by
              by_cases q : (1000000000000 : Int64) < v
              · exact Or.inl q
              · by_cases q2 : v < (-1000000000000 : Int64)
                · exact Or.inr q2
                · exact absurd ⟨q, q2⟩ hb
            have e0 : er (fin1 (evL nm l [])) = -9223372036854775808 := by
              rw [h5', evS, if_neg c]
              simp [hn, fin1, er]
            refine wp_if (fun q => wp_some ⟨e0.symm, h1, h2⟩) (fun q => ?_)
            rcases this with q' | q'
            · exact absurd q' q
            · exact wp_neg (Int64.not_le.mpr q') (wp_some ⟨e0.symm, h1, h2⟩)
          · refine wp_neg hb.1 (wp_pos (Int64.not_lt.mp hb.2) ?_)
            refine wp_wrL st.length rfl (by omega) ?_
            rw [nI_1]
            refine ih (v :: st, _) ⟨h1, fun k' hk' => ?_, stk_push h3.2.2, by simp only [List.length_cons]; omega, by rw [h5', evS, if_neg c]; simp [hs]⟩
            rw [← h2 k' hk']
            funext j
            simp [sL2, hk']
    refine wp_if (fun c => ?_) (fun c => ?_)
    · rw [nI_ltI (by omega) (by omega)] at c
      refine wp_if (fun c2 => ?_) (fun c2 => ?_)
      · rw [nI_ltI (by omega) (by omega)] at c2
        exact sgn c2 (by rw [evK, if_pos c, if_pos c2])
      · rw [nI_ltI (by omega) (by omega)] at c2
        refine wp_if (fun c3 => ?_) (fun c3 => ?_)
        · rw [nI_ltI (by omega) (by omega)] at c3
          omega
        · rw [nI_ltI (by omega) (by omega)] at c3
          refine wp_rd (k - 20) (pk_sub (by omega)) (by omega) (by rw [h1, hnm (k - 20) (by omega)]) ?_
          exact push _ (by rw [evK, if_pos c, if_neg c2, if_neg c3])
    · rw [nI_ltI (by omega) (by omega)] at c
      rw [pk_sub (by omega), nI_l (by omega)]
      exact push _ (by rw [evK, if_neg c])
