/-! PURE 52: a law's E: what waits, by the class -/
section LAWI
variable {S S' : Mem} {b : Nat → Nat} {n m i a x k : Nat} {out st : List Nat}
def stP (v : Int32) : Int32 := if v < 7 then (if v = 13 then 5 else if v = 14 then 5 else if v = 15 then 6 else if v = 16 then 6 else if v = 17 then 1 else if v = 18 then 2 else if v = 19 then 3 else 0) else if 12 < v then (if v = 13 then 5 else if v = 14 then 5 else if v = 15 then 6 else if v = 16 then 6 else if v = 17 then 1 else if v = 18 then 2 else if v = 19 then 3 else 0) else 4
theorem f_st14 (v : Int32) (S : Mem) : f_X4_strengthOf_14 v S = some ((if v = 13 then 5 else if v = 14 then 5 else if v = 15 then 6 else if v = 16 then 6 else if v = 17 then 1 else if v = 18 then 2 else if v = 19 then 3 else 0), S) := by
  unfold f_X4_strengthOf_14
  repeat' split
  all_goals rfl
theorem f_stP (v : Int32) (S : Mem) : f_X4_strengthOf v S = some (stP v, S) := by
  unfold f_X4_strengthOf stP
  by_cases h : v < 7
  · rw [if_pos h, if_pos h, f_st14]
  · rw [if_neg h, if_neg h]
    by_cases h2 : 12 < v
    · rw [if_pos h2, if_pos h2, f_st14]
    · rw [if_neg h2, if_neg h2]
theorem stP_n : ∀ k, k < 40 → stP (nI k) = nI (sg k) := by decide +kernel
theorem f_sg (hk : k < 40) (S : Mem) : f_X4_strengthOf (nI k) S = some (nI (sg k), S) := by
  rw [f_stP, stP_n k hk]
def SO (a : Nat) (S : Mem) (out st : List Nat) : Prop := S.1 a 1 = nI out.length ∧ (∀ j, j < out.length → S.1 (a + 1) j = nI (out.getD j 0)) ∧ S.1 3 6 = nI st.length ∧ (∀ j, j < st.length → S.1 30 (st.length - 1 - j) = nI (st.getD j 0))
theorem SO_to (h : SO a S out st) (e1 : S'.1 a 1 = S.1 a 1) (e2 : S'.1 (a + 1) = S.1 (a + 1)) (e3 : S'.1 3 6 = S.1 3 6) (e4 : S'.1 30 = S.1 30) : SO a S' out st := by
  unfold SO
  rw [e1, e2, e3, e4]
  exact h
def aL (a : Nat) : Prop := a = 21 ∨ a = 24 ∨ a = 27
theorem SO_push (ha : aL a) (h : SO a S out st) : SO a (sI (sI S 30 st.length (nI x)) 3 6 (nI (st.length + 1))) out (x :: st) := by
  unfold aL at ha
  obtain ⟨h1, h2, h3, h4⟩ := h
  refine ⟨?_, fun j hj => ?_, ?_, fun j hj => ?_⟩
  · rw [sI1, if_neg (by omega), sI1, if_neg (by omega)]; exact h1
  · rw [sI1, if_neg (by omega), sI1, if_neg (by omega)]; exact h2 j hj
  · rw [sI1, if_pos ⟨rfl, rfl⟩]; rfl
  · rw [List.length_cons] at hj ⊢
    rw [sI1, if_neg (by omega), sI1]
    cases j with
    | zero => rw [if_pos ⟨rfl, by omega⟩]; rfl
    | succ j =>
      rw [if_neg (by omega), show st.length + 1 - 1 - (j + 1) = st.length - 1 - j by omega]
      exact h4 j (by omega)
theorem SO_add (ha : aL a) (h : SO a S out st) : SO a (sI (sI S (a + 1) out.length (nI x)) a 1 (nI (out.length + 1))) (out ++ [x]) st := by
  unfold aL at ha
  obtain ⟨h1, h2, h3, h4⟩ := h
  refine ⟨?_, fun j hj => ?_, ?_, fun j hj => ?_⟩
  · rw [sI1, if_pos ⟨rfl, rfl⟩, List.length_append]; rfl
  · rw [sI1, if_neg (by omega), sI1]
    by_cases z : j = out.length
    · rw [if_pos ⟨rfl, z⟩, z]
      simp
    · rw [List.length_append, List.length_singleton] at hj
      rw [if_neg (by omega), h2 j (by omega)]
      simp only [List.getD_eq_getElem?_getD]
      rw [List.getElem?_append_left (by omega)]
  · rw [sI1, if_neg (by omega), sI1, if_neg (by omega)]; exact h3
  · rw [sI1, if_neg (by omega), sI1, if_neg (by omega)]; exact h4 j hj
theorem SO_pop (ha : aL a) (h : SO a S out (x :: st)) : SO a (sI S 3 6 (nI st.length)) out st ∧ S.1 30 st.length = nI x := by
  unfold aL at ha
  obtain ⟨h1, h2, h3, h4⟩ := h
  refine ⟨⟨?_, fun j hj => ?_, ?_, fun j hj => ?_⟩, ?_⟩
  · rw [sI1, if_neg (by omega)]; exact h1
  · rw [sI1, if_neg (by omega)]; exact h2 j hj
  · rw [sI1, if_pos ⟨rfl, rfl⟩]
  · have := h4 (j + 1) (by rw [List.length_cons]; omega)
    rw [List.length_cons, show st.length + 1 - 1 - (j + 1) = st.length - 1 - j by omega] at this
    rw [sI1, if_neg (by omega)]
    exact this
  · have := h4 0 (by rw [List.length_cons]; omega)
    rw [List.length_cons] at this
    exact this
theorem nI_m1 {k : Nat} : nI (k + 1) - 1 = nI k := by
  rw [← nI_1]
  exact Int32.add_sub_cancel _ _
theorem nI_ps1 {k : Nat} (hk : k < 1000) : ¬ nI (k + 1) ≤ 0 := nI_ge (a := 0) (by omega) (by omega)
theorem lwAdd_C (ha : aL a) (h : SO a S out st) (ho : out.length < 64) : f_X1_add a (nI x) S = some (1, sI (sI S (a + 1) out.length (nI x)) a 1 (nI (out.length + 1))) := by
  unfold aL at ha
  unfold f_X1_add
  rw [h.1, if_neg (show ¬ (64 : Int32) ≤ nI out.length from (nI_ge ho (by omega) : ¬ nI 64 ≤ nI out.length)), wrN ho (by omega), Option.bind_some, nxt_eq, sI1, if_neg (by omega), h.1, nI_1]
/-- what a law's reading may change in the class -/
def cL (a : Nat) (S S' : Mem) : Prop := (∀ c i, ¬ (c = 3 ∧ 2 ≤ i ∧ i ≤ 8) → c ≠ 30 → c ≠ a + 1 → ¬ (c = a ∧ i = 1) → ¬ (c = 8 ∧ i = 2) → S'.1 c i = S.1 c i) ∧ S'.2 = S.2
theorem cL_rf (a : Nat) (S : Mem) : cL a S S := ⟨fun _ _ _ _ _ _ _ => rfl, rfl⟩
theorem cL_tr {S1 S2 : Mem} (h : cL a S S1) (h' : cL a S1 S2) : cL a S S2 := ⟨fun c i h1 h2 h3 h4 h5 => (h'.1 c i h1 h2 h3 h4 h5).trans (h.1 c i h1 h2 h3 h4 h5), h'.2.trans h.2⟩
theorem cL_s (h : cL a S S') {c i : Nat} {v : Int32} (e : (c = 3 ∧ 2 ≤ i ∧ i ≤ 8) ∨ c = 30 ∨ c = a + 1 ∨ (c = a ∧ i = 1) ∨ (c = 8 ∧ i = 2)) : cL a S (sI S' c i v) :=
  ⟨fun c' i' h1 h2 h3 h4 h5 => by rw [sI1, if_neg (fun z => by obtain ⟨rfl, rfl⟩ := z; omega)]; exact h.1 c' i' h1 h2 h3 h4 h5, h.2⟩
theorem lwWait_C (h : SO a S out st) (hl : st.length ≤ 72) (hx : ∀ x, x ∈ st → x < 40) : f_X4_strengthWaiting S = some (nI (sgT st), S) := by
  unfold f_X4_strengthWaiting
  cases st with
  | nil =>
    have : S.1 3 6 = 0 := h.2.2.1
    rw [this, if_pos (by decide)]
    rfl
  | cons y st =>
    have e := h.2.2.1
    have e2 := h.2.2.2 0 (by rw [List.length_cons]; omega)
    rw [List.length_cons] at e e2 hl
    rw [e, if_neg (nI_ps1 (by omega)), nI_m1, rdN (by omega) (by omega), Option.bind_some]
    have e3 : S.1 30 st.length = nI y := e2
    rw [e3, f_sg (hx y List.mem_cons_self), bnd_some]
    rfl
theorem lwSet_C (ha : aL a) {s : Nat} (hs : 1 ≤ s) (hs6 : s ≤ 6) : ∀ (st out : List Nat) (S : Mem) (g : Nat), SO a S out st → st.length ≤ 72 → st.length < g → (∀ x, x ∈ st → x < 40) → out.length + st.length ≤ 64 + st.count 5 →
    ∃ S', f_X4_settleStronger_0 a g (nI s) S = some S' ∧ SO a S' (setl s st out).2 (setl s st out).1 ∧ cL a S S' ∧ ∀ i, i ≠ 6 → S'.1 3 i = S.1 3 i := by
  intro st
  induction st with
  | nil =>
    intro out S g h hl hg hx hc
    obtain ⟨g, rfl⟩ : ∃ q, g = q + 1 := ⟨g - 1, by omega⟩
    refine ⟨S, ?_, h, cL_rf a S, fun _ _ => rfl⟩
    unfold f_X4_settleStronger_0
    rw [h.2.2.1, if_pos (show nI ([] : List Nat).length ≤ 0 by decide)]
  | cons y st ih =>
    intro out S g h hl hg hx hc
    obtain ⟨g, rfl⟩ : ∃ q, g = q + 1 := ⟨g - 1, by omega⟩
    rw [List.length_cons] at hl hg hc
    have e : S.1 3 6 = nI (st.length + 1) := h.2.2.1
    obtain ⟨p1, p2⟩ := SO_pop ha h
    have hy := hx y List.mem_cons_self
    unfold f_X4_settleStronger_0
    rw [e, if_neg (nI_ps1 (by omega)), nI_m1, rdN (by omega) (by omega), Option.bind_some, p2, f_sg hy, bnd_some]
    have hsg := (sg_c y).1
    unfold setl
    by_cases z : s ≤ sg y
    · rw [if_pos z, if_neg (Int32.not_lt.mpr (nI_le z (by omega))), nxt_eq, e, nI_m1]
      have hc5 : (y :: st).count 5 = st.count 5 := by
        rw [List.count_cons, if_neg (by
          intro q
          have q : y = 5 := by simpa using q
          rw [q] at z
          have : sg 5 = 0 := by decide
          omega)]
        rfl
      rw [hc5] at hc
      have hcl : st.count 5 ≤ st.length := List.count_le_length
      have r1 : (sI S 3 6 (nI st.length)).1 3 6 = nI st.length := by rw [sI1, if_pos ⟨rfl, rfl⟩]
      have r2 : (sI S 3 6 (nI st.length)).1 30 st.length = nI y := by rw [sI1, if_neg (by omega)]; exact p2
      rw [r1, rdN (by omega) (by omega), Option.bind_some, r2, lwAdd_C ha p1 (by omega), bnd_some]
      obtain ⟨S', q1, q2, q3, q4⟩ := ih (out ++ [y]) _ g (SO_add (x := y) ha p1) (by omega) (by omega) (fun x hx' => hx x (List.mem_cons_of_mem y hx')) (by rw [List.length_append, List.length_singleton]; omega)
      refine ⟨S', q1, q2, cL_tr (cL_s (cL_s (cL_s (cL_rf a S) (by omega)) (by omega)) (by omega)) q3, fun i hi => ?_⟩
      unfold aL at ha
      rw [q4 i hi, sI1, if_neg (by omega), sI1, if_neg (by omega), sI1, if_neg (by omega)]
    · rw [if_pos (nI_lt (by omega) (by omega))]
      refine ⟨S, rfl, ?_, cL_rf a S, fun _ _ => rfl⟩
      rw [if_neg z]
      exact h
end LAWI
