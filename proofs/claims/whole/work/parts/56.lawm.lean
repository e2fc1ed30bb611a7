/-! PURE 7: the reference works a law out -/
def ks (k : Nat) : Nat := if k < 20 then 2 else if k < 100 then 1 else 0
def rv (k : Nat) : Nat := if k = 7 then 60 else if k = 8 then 256 else if k = 9 then 61 else if k = 10 then 257 else if k = 11 then 258 else if k = 12 then 62 else if k = 13 then 43 else if k = 14 then 45 else if k = 15 then 42 else if k = 16 then 47 else if k = 17 then 262 else if k = 18 then 261 else 260
def kv (k : Nat) : Nat := if k < 20 then rv k else if k < 100 then k - 20 else k - 100
def frS (S S' : Mem) : Prop := ∀ c i, ¬ (c = 0 ∧ i = 30) → S'.1 c i = S.1 c i
theorem frS_rf (S : Mem) : frS S S := fun _ _ _ => rfl
theorem frS_tr {S S1 S2 : Mem} (h : frS S S1) (h' : frS S1 S2) : frS S S2 := fun c i q => (h' c i q).trans (h c i q)
theorem frS_sL {S : Mem} {k i : Nat} {v : Int64} : frS S (sL S k i v) := fun _ _ _ => rfl
theorem frS_30 {S : Mem} {v : Int32} : frS S (sI S 0 30 v) := fun c i q => by rw [sI1, if_neg q]
theorem stk_to {S S' : Mem} {k : Nat} : ∀ {s : List Int64}, stkC S k s → (∀ i, S'.2 k i = S.2 k i) → stkC S' k s := by
  intro s
  induction s with
  | nil => intro _ _; trivial
  | cons a s ih => intro h e; exact ⟨by rw [e]; exact h.1, ih h.2 e⟩
theorem negT {b : Nat} (h : b < 2 ^ 62) : (-lN b).toInt = -(b : Int) := by
  rw [Int64.toInt_neg, pk_lT (by omega), Int.bmod_eq_of_le (by omega) (by omega)]
theorem bd_pn {y : Int64} (h : bd y) : ∃ b : Nat, b ≤ 1000000000000 ∧ ((0 ≤ y ∧ y = lN b) ∨ (¬ 0 ≤ y ∧ y = -lN b ∧ 0 < b)) := by
  obtain ⟨h1, h2⟩ := h
  rw [Int64.lt_iff_toInt_lt] at h1 h2
  have e1 : (1000000000000 : Int64).toInt = 1000000000000 := rfl
  have e2 : (-1000000000000 : Int64).toInt = -1000000000000 := rfl
  rw [e1] at h1
  rw [e2] at h2
  by_cases h0 : 0 ≤ y
  · obtain ⟨b, hb, rfl⟩ := pk_lOf (Int64.not_lt.mpr h0)
    rw [pk_lT hb] at h1
    exact ⟨b, by omega, Or.inl ⟨h0, rfl⟩⟩
  · have h0' := h0
    rw [Int64.le_iff_toInt_le] at h0
    have e0 : (0 : Int64).toInt = 0 := rfl
    rw [e0] at h0
    refine ⟨(-y.toInt).toNat, by omega, Or.inr ⟨h0', ?_, by omega⟩⟩
    apply Int64.toInt_inj.mp
    rw [negT (by omega)]
    omega
theorem mul_M {x y : Int64} (hx : bd x) (hy : bd y) (hx0 : x ≠ 0) : ((if 0 ≤ y then y else -y) ≤ (1000000000000 : Int64) / (if 0 ≤ x then x else -x)) ↔ (¬ (1000000000000 : Int64) / (if 0 ≤ x then x else -x) < y ∧ -((1000000000000 : Int64) / (if 0 ≤ x then x else -x)) ≤ y) := by
  obtain ⟨a, ha, hxa⟩ := bd_pn hx
  obtain ⟨b, hb, hyb⟩ := bd_pn hy
  have hax : (if 0 ≤ x then x else -x) = lN a := by
    rcases hxa with ⟨h, e⟩ | ⟨h, e, -⟩
    · rw [if_pos h, e]
    · rw [if_neg h, e, Int64.neg_neg]
  have ha0 : 0 < a := by
    rcases Nat.eq_zero_or_pos a with h | h
    · subst h
      exfalso
      rcases hxa with ⟨_, e⟩ | ⟨_, e, h⟩
      · exact hx0 e
      · omega
    · exact h
  rw [hax, show (1000000000000 : Int64) = lN 1000000000000 from rfl, pk_lDiv (by omega) ha0 (by omega)]
  have hm : 1000000000000 / a ≤ 1000000000000 := Nat.div_le_self _ _
  generalize 1000000000000 / a = m at *
  rcases hyb with ⟨h, e⟩ | ⟨h, e, hp⟩
  · rw [if_pos h, e, pk_lLE (by omega) (by omega), pk_lLT (by omega) (by omega), Int64.le_iff_toInt_le, negT (by omega), pk_lT (by omega)]
    omega
  · rw [if_neg h, e, Int64.neg_neg, pk_lLE (by omega) (by omega), Int64.lt_iff_toInt_lt, Int64.le_iff_toInt_le, negT (by omega), negT (by omega), pk_lT (by omega)]
    omega
theorem abs_M (y : Int64) (S : Mem) : f_J9_abs_067f4 y S = some (if 0 ≤ y then y else -y, S) := by
  unfold f_J9_abs_067f4
  by_cases h : 0 ≤ y
  · rw [if_pos h, if_pos h]
  · rw [if_neg h, if_neg h]
theorem chk0 : chk 0 = some 0 := by decide
/-- what works() says of the new stack -/
def wkQ (S : Mem) (r : Option (List Int64)) (q : Int32 × Mem) : Prop := frS S q.2 ∧ (∀ i, q.2.2 14 i = S.2 14 i) ∧ match r with
  | none => q.1 = 0
  | some st => q.1 = 1 ∧ stkC q.2 15 st ∧ q.2.1 0 30 = nI st.length
theorem w407 {S S0 : Mem} {v : Int64} {s : List Int64} (h0 : frS S0 S) (h14 : ∀ i, S.2 14 i = S0.2 14 i) (h1 : S.1 0 30 = nI (s.length + 1)) (hl : s.length < 64) (hs : stkC S 15 s) : wp (f_X10_works_407 v S) (wkQ S0 ((chk v).map (fun u => u :: s))) := by
  unfold f_X10_works_407
  rw [h1, nI_pred]
  refine wp_wrL s.length rfl hl ?_
  have hf : frS S0 (sL S 15 s.length v) := frS_tr h0 frS_sL
  have h14' : ∀ i, (sL S 15 s.length v).2 14 i = S0.2 14 i := fun i => by rw [sL2, if_neg (by omega)]; exact h14 i
  rcases chk_c v with ⟨e, hb⟩ | ⟨e, hb⟩
  · rw [e]
    refine wp_if (fun q => wp_some ⟨hf, h14', rfl⟩) (fun q => ?_)
    refine wp_if (fun q2 => wp_some ⟨hf, h14', rfl⟩) (fun q2 => ?_)
    exact absurd ⟨q, q2⟩ hb
  · rw [e]
    exact wp_neg hb.1 (wp_neg hb.2 (wp_some ⟨hf, h14', rfl, stk_push hs, h1⟩))
theorem wis {S S0 : Mem} {z : Int32} {s : List Int64} (h0 : frS S0 S) (h14 : ∀ i, S.2 14 i = S0.2 14 i) (h1 : S.1 0 30 = nI (s.length + 1)) (hl : s.length < 64) (hs : stkC S 15 s) {v : Int64} (hv : v = if z = 0 then 0 else 1) : wp (bnd (f_X10_is z S) fun r M => f_X10_works_407 r M) (wkQ S0 (some (v :: s))) := by
  have key : ∀ u : Int64, chk u = some u → wp (f_X10_works_407 u S) (wkQ S0 (some (u :: s))) := by
    intro u hu
    have := w407 (v := u) h0 h14 h1 hl hs
    rw [hu] at this
    exact this
  unfold f_X10_is
  by_cases c : z = 0
  · rw [if_pos c] at hv ⊢
    subst hv
    exact key 0 (by decide)
  · rw [if_neg c] at hv ⊢
    subst hv
    exact key 1 (by decide)
set_option maxHeartbeats 2000000 in
theorem works_M {k : Nat} (h7 : 7 ≤ k) (h19 : k ≤ 19) {S : Mem} {st : List Int64} (hs : stkC S 15 st) (h30 : S.1 0 30 = nI st.length) (hb : ∀ v ∈ st, bd v) (hl : st.length ≤ 64) (hn : if k = 19 then 1 ≤ st.length else 2 ≤ st.length) :
    wp (f_X10_works (nI (rv k)) S) (wkQ S (evS k st)) := by
  unfold f_X10_works
  rw [h30]
  by_cases c : k = 19
  · subst c
    rcases st with _ | ⟨x, st⟩
    · exact absurd hn (by decide)
    · have e1 : nI (x :: st).length - 1 = nI st.length := nI_pred _
      have hlt : st.length < 64 := hl
      refine wp_rdL st.length e1 hlt hs.1 ?_
      refine wp_pos (by decide) ?_
      have fin : ∀ z : Int32, (z = 0 ∨ z = 1) → (z = 1 ↔ x = 0) → wp (f_X10_works_40 (nI (x :: st).length - 1) z S) (wkQ S (evS 19 (x :: st))) := by
        intro z hz hx
        unfold f_X10_works_40
        refine wp_bnde (a := if x = 0 then 1 else 0) (S := S) ?_ ?_
        · unfold f_X10_is
          rcases hz with rfl | rfl
          · rw [if_pos rfl, if_neg (fun e => by have := hx.mpr e; exact absurd this (by decide))]
          · rw [if_neg (by decide), if_pos (hx.mp rfl)]
        · refine wp_wrL st.length e1 hlt (wp_some ⟨frS_sL, fun i => by rw [sL2, if_neg (by omega)], rfl, stk_push hs.2, h30⟩)
      refine wp_if (fun q => ?_) (fun q => ?_)
      · exact fin 1 (Or.inr rfl) ⟨fun _ => q, fun _ => rfl⟩
      · exact fin 0 (Or.inl rfl) ⟨fun e => absurd e (by decide), fun e => absurd e q⟩
  · rw [if_neg c] at hn
    rcases st with _ | ⟨y, _ | ⟨x, st⟩⟩
    · exact absurd hn (by simp)
    · exact absurd hn (by simp)
    · have hlt : st.length + 1 < 64 := hl
      have e1 : nI (y :: x :: st).length - 1 = nI (st.length + 1) := nI_pred _
      have e2 : nI (y :: x :: st).length - 2 = nI st.length := by
        rw [show (2 : Int32) = nI 2 from rfl, pk_sub (by simp)]; rfl
      have hx := hb x (by simp)
      have hy := hb y (by simp)
      refine wp_rdL (st.length + 1) e1 (by omega) hs.1 ?_
      have hrv : rv k ≠ 260 := by unfold rv; (repeat' split) <;> omega
      refine wp_neg (fun e => hrv ((nI_eq (by unfold rv; (repeat' split) <;> omega) (by omega)).mp (show nI (rv k) = nI 260 from e))) ?_
      refine wp_rdL st.length e2 (by omega) hs.2.1 ?_
      refine wp_nxt ?_
      rw [e1]
      have f0 : frS S (sI S 0 30 (nI (st.length + 1))) := frS_30
      have s0 : stkC (sI S 0 30 (nI (st.length + 1))) 15 st := stk_to hs.2.2 (fun _ => rfl)
      have h14 : ∀ i, (sI S 0 30 (nI (st.length + 1))).2 14 i = S.2 14 i := fun _ => rfl
      have h30' : (sI S 0 30 (nI (st.length + 1))).1 0 30 = nI (st.length + 1) := rfl
      generalize sI S 0 30 (nI (st.length + 1)) = M at *
      have hev : evS k (y :: x :: st) = (jn k x y).map (fun v => v :: st) := by rw [evS, if_neg c]
      rw [hev]
      rcases (by omega : k = 7 ∨ k = 8 ∨ k = 9 ∨ k = 10 ∨ k = 11 ∨ k = 12 ∨ k = 13 ∨ k = 14 ∨ k = 15 ∨ k = 16 ∨ k = 17 ∨ k = 18) with rfl | rfl | rfl | rfl | rfl | rfl | rfl | rfl | rfl | rfl | rfl | rfl
      · rw [if_neg (by decide), if_neg (by decide), if_neg (by decide), if_neg (by decide), if_pos (by decide)]
        refine wp_if (fun q => ?_) (fun q => ?_)
        · simpa [jn, q, f_X10_works_250, f_X10_works_290, f_X10_works_270, f_X10_works_310, f_X10_works_350, f_X10_works_330, f_X10_works_376, f_X10_works_375, f_X10_works_402, f_X10_works_397] using wis (z := 0) f0 h14 h30' (by omega) s0 rfl
        · simpa [jn, q, f_X10_works_250, f_X10_works_290, f_X10_works_270, f_X10_works_310, f_X10_works_350, f_X10_works_330, f_X10_works_376, f_X10_works_375, f_X10_works_402, f_X10_works_397] using wis (z := 1) f0 h14 h30' (by omega) s0 rfl
      · rw [if_neg (by decide), if_neg (by decide), if_neg (by decide), if_neg (by decide), if_neg (by decide), if_neg (by decide), if_neg (by decide), if_pos (by decide)]
        refine wp_if (fun q => ?_) (fun q => ?_)
        · simpa [jn, q, f_X10_works_250, f_X10_works_290, f_X10_works_270, f_X10_works_310, f_X10_works_350, f_X10_works_330, f_X10_works_376, f_X10_works_375, f_X10_works_402, f_X10_works_397] using wis (z := 0) f0 h14 h30' (by omega) s0 rfl
        · simpa [jn, q, f_X10_works_250, f_X10_works_290, f_X10_works_270, f_X10_works_310, f_X10_works_350, f_X10_works_330, f_X10_works_376, f_X10_works_375, f_X10_works_402, f_X10_works_397] using wis (z := 1) f0 h14 h30' (by omega) s0 rfl
      · rw [if_neg (by decide), if_neg (by decide), if_neg (by decide), if_neg (by decide), if_neg (by decide), if_pos (by decide)]
        refine wp_if (fun q => ?_) (fun q => ?_)
        · simpa [jn, q, f_X10_works_250, f_X10_works_290, f_X10_works_270, f_X10_works_310, f_X10_works_350, f_X10_works_330, f_X10_works_376, f_X10_works_375, f_X10_works_402, f_X10_works_397] using wis (z := 1) f0 h14 h30' (by omega) s0 rfl
        · simpa [jn, q, f_X10_works_250, f_X10_works_290, f_X10_works_270, f_X10_works_310, f_X10_works_350, f_X10_works_330, f_X10_works_376, f_X10_works_375, f_X10_works_402, f_X10_works_397] using wis (z := 0) f0 h14 h30' (by omega) s0 rfl
      · rw [if_neg (by decide), if_neg (by decide), if_neg (by decide), if_neg (by decide), if_neg (by decide), if_neg (by decide), if_neg (by decide), if_neg (by decide), if_pos (by decide)]
        refine wp_if (fun q => ?_) (fun q => ?_)
        · simpa [jn, q, f_X10_works_250, f_X10_works_290, f_X10_works_270, f_X10_works_310, f_X10_works_350, f_X10_works_330, f_X10_works_376, f_X10_works_375, f_X10_works_402, f_X10_works_397] using wis (z := 0) f0 h14 h30' (by omega) s0 rfl
        · simpa [jn, q, f_X10_works_250, f_X10_works_290, f_X10_works_270, f_X10_works_310, f_X10_works_350, f_X10_works_330, f_X10_works_376, f_X10_works_375, f_X10_works_402, f_X10_works_397] using wis (z := 1) f0 h14 h30' (by omega) s0 rfl
      · rw [if_neg (by decide), if_neg (by decide), if_neg (by decide), if_neg (by decide), if_neg (by decide), if_neg (by decide), if_neg (by decide), if_neg (by decide), if_neg (by decide), if_pos (by decide)]
        refine wp_if (fun q => ?_) (fun q => ?_)
        · simpa [jn, q, f_X10_works_250, f_X10_works_290, f_X10_works_270, f_X10_works_310, f_X10_works_350, f_X10_works_330, f_X10_works_376, f_X10_works_375, f_X10_works_402, f_X10_works_397] using wis (z := 0) f0 h14 h30' (by omega) s0 rfl
        · simpa [jn, q, f_X10_works_250, f_X10_works_290, f_X10_works_270, f_X10_works_310, f_X10_works_350, f_X10_works_330, f_X10_works_376, f_X10_works_375, f_X10_works_402, f_X10_works_397] using wis (z := 1) f0 h14 h30' (by omega) s0 rfl
      · rw [if_neg (by decide), if_neg (by decide), if_neg (by decide), if_neg (by decide), if_neg (by decide), if_neg (by decide), if_pos (by decide)]
        refine wp_if (fun q => ?_) (fun q => ?_)
        · simpa [jn, q, f_X10_works_250, f_X10_works_290, f_X10_works_270, f_X10_works_310, f_X10_works_350, f_X10_works_330, f_X10_works_376, f_X10_works_375, f_X10_works_402, f_X10_works_397] using wis (z := 0) f0 h14 h30' (by omega) s0 rfl
        · simpa [jn, q, f_X10_works_250, f_X10_works_290, f_X10_works_270, f_X10_works_310, f_X10_works_350, f_X10_works_330, f_X10_works_376, f_X10_works_375, f_X10_works_402, f_X10_works_397] using wis (z := 1) f0 h14 h30' (by omega) s0 rfl
      · rw [if_neg (by decide), if_pos (by decide), show jn 13 x y = chk (x + y) by simp [jn]]
        exact w407 f0 h14 h30' (by omega) s0
      · rw [if_neg (by decide), if_neg (by decide), if_pos (by decide), show jn 14 x y = chk (x - y) by simp [jn]]
        exact w407 f0 h14 h30' (by omega) s0
      · rw [if_pos (by decide), show jn 15 x y = jmul x y by simp [jn]]
        have hm := w407 (v := x * y) f0 h14 h30' (by omega) s0
        refine wp_if (fun q => ?_) (fun q => ?_)
        · unfold f_X10_works_212
          subst q
          have e0 : (0 : Int64) * y = 0 := Int64.zero_mul
          rw [e0] at hm ⊢
          simpa [jmul, chk0] using hm
        · refine wp_bnde (abs_M _ _) ?_
          refine wp_bnde (abs_M _ _) ?_
          have hx1 : (if 0 ≤ x then x else -x) ≠ 0 := by
            split
            · exact q
            · exact neg0 q
          have hM := mul_M hx hy q
          unfold dvL
          rw [if_neg hx1]
          rw [Option.bind_some]
          refine wp_if (fun q2 => ?_) (fun q2 => ?_)
          · unfold f_X10_works_212
            have q3 := hM.mp q2
            by_cases hy0 : y = 0
            · subst hy0
              have e0 : x * (0 : Int64) = 0 := Int64.mul_zero
              rw [e0] at hm ⊢
              simpa [jmul, q, chk0] using hm
            · have : jmul x y = chk (x * y) := by
                rw [jmul, if_neg q, if_neg hy0, if_neg q3.1, if_pos q3.2]
              rw [this]
              exact hm
          · have q3 := fun e => q2 (hM.mpr e)
            have hy0 : y ≠ 0 := by
              intro e
              subst e
              apply q3
              obtain ⟨a, ha, hxa⟩ := bd_pn hx
              have hax : (if 0 ≤ x then x else -x) = lN a := by
                rcases hxa with ⟨h, e⟩ | ⟨h, e, -⟩
                · rw [if_pos h, e]
                · rw [if_neg h, e, Int64.neg_neg]
              have ha0 : 0 < a := by
                rcases Nat.eq_zero_or_pos a with h | h
                · subst h; exact absurd hax hx1
                · exact h
              have hm1 := Nat.div_le_self 1000000000000 a
              rw [hax, show (1000000000000 : Int64) = lN 1000000000000 from rfl, pk_lDiv (by omega) ha0 (by omega)]
              generalize 1000000000000 / a = m1 at hm1 ⊢
              rw [show (0 : Int64) = lN 0 from rfl, pk_lLT (by omega) (by omega), Int64.le_iff_toInt_le, negT (by omega), pk_lT (by omega)]
              omega
            have : jmul x y = none := by
              rw [jmul, if_neg q, if_neg hy0]
              by_cases h1 : (1000000000000 : Int64) / (if 0 ≤ x then x else -x) < y
              · rw [if_pos h1]
              · rw [if_neg h1, if_neg (fun h2 => q3 ⟨h1, h2⟩)]
            rw [this]
            exact wp_some ⟨f0, h14, rfl⟩
      · rw [if_neg (by decide), if_neg (by decide), if_neg (by decide), if_pos (by decide)]
        refine wp_if (fun q => ?_) (fun q => ?_)
        · simpa [jn, q] using wp_some (P := wkQ S none) (a := ((0 : Int32), M)) ⟨f0, h14, rfl⟩
        · unfold dvL
          rw [if_neg q]
          have := w407 (v := x / y) f0 h14 h30' (by omega) s0
          simpa [jn, q] using this
      · rw [if_neg (by decide), if_neg (by decide), if_neg (by decide), if_neg (by decide), if_neg (by decide), if_neg (by decide), if_neg (by decide), if_neg (by decide), if_neg (by decide), if_neg (by decide), if_neg (by decide)]
        refine wp_if (fun q => ?_) (fun q => ?_)
        · refine wp_if (fun q2 => ?_) (fun q2 => ?_)
          · simpa [jn, q, q2, f_X10_works_250, f_X10_works_290, f_X10_works_270, f_X10_works_310, f_X10_works_350, f_X10_works_330, f_X10_works_376, f_X10_works_375, f_X10_works_402, f_X10_works_397] using wis (z := 0) f0 h14 h30' (by omega) s0 rfl
          · simpa [jn, q, q2, f_X10_works_250, f_X10_works_290, f_X10_works_270, f_X10_works_310, f_X10_works_350, f_X10_works_330, f_X10_works_376, f_X10_works_375, f_X10_works_402, f_X10_works_397] using wis (z := 1) f0 h14 h30' (by omega) s0 rfl
        · simpa [jn, q, f_X10_works_250, f_X10_works_290, f_X10_works_270, f_X10_works_310, f_X10_works_350, f_X10_works_330, f_X10_works_376, f_X10_works_375, f_X10_works_402, f_X10_works_397] using wis (z := 1) f0 h14 h30' (by omega) s0 rfl
      · rw [if_neg (by decide), if_neg (by decide), if_neg (by decide), if_neg (by decide), if_neg (by decide), if_neg (by decide), if_neg (by decide), if_neg (by decide), if_neg (by decide), if_neg (by decide), if_pos (by decide)]
        refine wp_if (fun q => ?_) (fun q => ?_)
        · simpa [jn, q, f_X10_works_250, f_X10_works_290, f_X10_works_270, f_X10_works_310, f_X10_works_350, f_X10_works_330, f_X10_works_376, f_X10_works_375, f_X10_works_402, f_X10_works_397] using wis (z := 0) f0 h14 h30' (by omega) s0 rfl
        · refine wp_if (fun q2 => ?_) (fun q2 => ?_)
          · simpa [jn, q, q2, f_X10_works_250, f_X10_works_290, f_X10_works_270, f_X10_works_310, f_X10_works_350, f_X10_works_330, f_X10_works_376, f_X10_works_375, f_X10_works_402, f_X10_works_397] using wis (z := 0) f0 h14 h30' (by omega) s0 rfl
          · simpa [jn, q, q2, f_X10_works_250, f_X10_works_290, f_X10_works_270, f_X10_works_310, f_X10_works_350, f_X10_works_330, f_X10_works_376, f_X10_works_375, f_X10_works_402, f_X10_works_397] using wis (z := 1) f0 h14 h30' (by omega) s0 rfl
