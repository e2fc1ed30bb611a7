/-! PURE 54: a law's E: a step of the class behind a part; the whole row -/
section LAWK
variable {S S' : Mem} {b : Nat → Nat} {n m i a x k op kn : Nat} {out st : List Nat} {wt : Bool}
theorem setl_I {s : Nat} (hs : 1 ≤ s) : ∀ (st out : List Nat), (setl s st out).1.count 5 = st.count 5 ∧ (setl s st out).2.length + (setl s st out).1.length = out.length + st.length ∧ (∀ x, x ∈ (setl s st out).1 → x ∈ st) ∧ sgT (setl s st out).1 < s := by
  intro st
  induction st with
  | nil => intro out; exact ⟨rfl, rfl, fun x h => h, by show 0 < s; omega⟩
  | cons y st ih =>
    intro out
    unfold setl
    by_cases z : s ≤ sg y
    · rw [if_pos z]
      obtain ⟨a1, a2, a3, a4⟩ := ih (out ++ [y])
      refine ⟨?_, ?_, fun x hx => List.mem_cons_of_mem y (a3 x hx), a4⟩
      · rw [a1, List.count_cons, if_neg (by
          intro q
          have q : y = 5 := by simpa using q
          rw [q] at z
          have : sg 5 = 0 := by decide
          omega)]
        rfl
      · rw [a2]
        simp only [List.length_append, List.length_cons, List.length_nil]
        omega
    · rw [if_neg z]
      exact ⟨rfl, rfl, fun x hx => hx, by show sg y < s; omega⟩
theorem b104_C (ha : aL a) (hn : n ≤ 700) {S0 : Mem} (hk : k < 20) (hk7 : sg k ≠ 0) (h1 : tkC S b n m) (h2 : S.1 3 5 = nI i) (h3 : i < m) (h4 : SO a S out st) (h5 : S.1 3 7 = nI op) (h6 : S.1 8 2 = nI kn) (hI : lwI st out op kn) (hc : cL a S0 S) (hz2 : S.1 3 2 = 0) (hz3 : S.1 3 3 = -1) :
    PRc S0 b n m a i (f_X4_readBehindPart_104 a (nI k) S) (if kn < 64 then some (.ok (i + 1, out, k :: st, op, kn + 1, true)) else some (.error 2)) := by
  obtain ⟨b1, b2, b3⟩ := lwI_b hI
  obtain ⟨i1, i2, i3, i4, i5⟩ := hI
  have ha' := ha
  unfold aL at ha'
  have g8 : (sI S 3 8 1).1 8 2 = nI kn := by rw [sI1, if_neg (by omega)]; exact h6
  have g5 : (sI S 3 8 1).1 3 5 = nI i := by rw [sI1, if_neg (by omega)]; exact h2
  have gt : tkC (sI S 3 8 1) b n m := tkC_to h1 (fun c j hc => by rw [sI1, if_neg (by omega)])
  have gS : SO a (sI S 3 8 1) out st := so5 h4 ha 3 8 (by omega)
  unfold f_X4_readBehindPart_104
  rw [nxt_eq]
  by_cases z : kn < 64
  · have gS' : SO a (sI (sI S 3 8 1) 8 2 (nI (kn + 1))) out st := so5 gS ha 8 2 (by omega)
    rw [if_pos z, lwKn_C g8 z, bnd_some, if_neg (by decide), letW_C gS' (by omega), bnd_some, if_neg (by decide)]
    refine ⟨_, rfl, ⟨?_, by rw [sI1, if_pos ⟨rfl, rfl⟩], (show i + 1 ≤ m by omega), so5 (SO_push ha gS') ha 3 5 (by omega), ?_, ?_, ?_, ?_, by simp only [sI1]; simp; exact hz2, by simp only [sI1]; simp; exact hz3⟩, ?_, ?_⟩
    · exact tkC_to h1 (fun c j hc => by simp only [sI1]; grind)
    · simp only [sI1]; simp; exact h5
    · simp only [sI1]; simp
    · simp only [sI1]; simp
    · refine ⟨?_, by simp only [List.length_cons]; omega, (show kn + 1 ≤ 64 by omega), i4, fun x hx => ?_⟩
      · show (k :: st).count 5 = op
        rw [List.count_cons, if_neg (by
          intro q
          have q : k = 5 := by simpa using q
          rw [q] at hk7
          exact hk7 (by decide))]
        exact i1
      · rcases List.mem_cons.mp hx with z | z
        · rw [z]; exact Or.inr hk7
        · exact i5 x z
    · exact cL_s (cL_s (cL_s (cL_s hc (by omega)) (by omega)) (by omega)) (by omega)
    · simp only [sI1]; simp; exact h2
  · rw [if_neg z, lwKn_w g8 z i3 gt hn g5 (by omega), bnd_some, if_pos rfl]
    exact ⟨_, rfl, by rw [sI1, if_neg (by omega), sI1, if_pos ⟨rfl, rfl⟩]; rfl, by rw [sI1, if_pos ⟨rfl, rfl⟩], cL_s (cL_s (cL_s hc (by omega)) (by omega)) (by omega)⟩
theorem setl_w {s : Nat} (hs : 1 ≤ s) (h : lwI st out op kn) : lwI (setl s st out).1 (setl s st out).2 op kn := by
  obtain ⟨a1, a2, a3, a4⟩ := setl_I hs st out
  obtain ⟨i1, i2, i3, i4, i5⟩ := h
  exact ⟨by rw [a1]; exact i1, by omega, i3, i4, fun x hx => i5 x (a3 x hx)⟩
theorem setS_C (ha : aL a) {s : Nat} (hs : 1 ≤ s) (hs6 : s ≤ 6) (h1 : tkC S b n m) (h2 : S.1 3 5 = nI i) (h4 : SO a S out st) (h5 : S.1 3 7 = nI op) (h6 : S.1 8 2 = nI kn) (hI : lwI st out op kn) :
    ∃ S', f_X4_settleStronger a (nI s) S = some S' ∧ tkC S' b n m ∧ S'.1 3 5 = nI i ∧ SO a S' (setl s st out).2 (setl s st out).1 ∧ S'.1 3 7 = nI op ∧ S'.1 8 2 = nI kn ∧ lwI (setl s st out).1 (setl s st out).2 op kn ∧ cL a S S' ∧ S'.1 3 8 = S.1 3 8 ∧ S'.1 3 2 = S.1 3 2 ∧ S'.1 3 3 = S.1 3 3 := by
  obtain ⟨b1, b2, b3⟩ := lwI_b hI
  have hs8 : ∀ (st out : List Nat) (S : Mem) (g : Nat), SO a S out st → st.length ≤ 72 → st.length < g → (∀ x, x ∈ st → x < 40) → out.length + st.length ≤ 64 + st.count 5 → ∃ S', f_X4_settleStronger_0 a g (nI s) S = some S' ∧ S'.1 8 2 = S.1 8 2 := by
    intro st
    induction st with
    | nil =>
      intro out S g h hl hg hx hc
      obtain ⟨g, rfl⟩ : ∃ q, g = q + 1 := ⟨g - 1, by omega⟩
      refine ⟨S, ?_, rfl⟩
      unfold f_X4_settleStronger_0
      rw [h.2.2.1, if_pos (show nI ([] : List Nat).length ≤ 0 by decide)]
    | cons y st ih =>
      intro out S g h hl hg hx hc
      obtain ⟨g, rfl⟩ : ∃ q, g = q + 1 := ⟨g - 1, by omega⟩
      rw [List.length_cons] at hl hg hc
      have e : S.1 3 6 = nI (st.length + 1) := h.2.2.1
      obtain ⟨p1, p2⟩ := SO_pop ha h
      have hy := hx y List.mem_cons_self
      unfold f_X4_settleStronger_0
      rw [e, if_neg (nI_ps1 (by omega)), nI_m1, rdN (by omega) (by omega), Option.bind_some, p2, f_sg hy, bnd_some]
      have hsg := (sg_c y).1
      by_cases z : s ≤ sg y
      · rw [if_neg (Int32.not_lt.mpr (nI_le z (by omega))), nxt_eq, e, nI_m1]
        have hc5 : (y :: st).count 5 = st.count 5 := by
          rw [List.count_cons, if_neg (by
            intro q
            have q : y = 5 := by simpa using q
            rw [q] at z
            have : sg 5 = 0 := by decide
            omega)]
          rfl
        rw [hc5] at hc
        have hcl : st.count 5 ≤ st.length := List.count_le_length
        have r1 : (sI S 3 6 (nI st.length)).1 3 6 = nI st.length := by rw [sI1, if_pos ⟨rfl, rfl⟩]
        have r2 : (sI S 3 6 (nI st.length)).1 30 st.length = nI y := by rw [sI1, if_neg (by omega)]; exact p2
        rw [r1, rdN (by omega) (by omega), Option.bind_some, r2, lwAdd_C ha p1 (by omega), bnd_some]
        obtain ⟨S', q1, q2⟩ := ih (out ++ [y]) _ g (SO_add (x := y) ha p1) (by omega) (by omega) (fun x hx' => hx x (List.mem_cons_of_mem y hx')) (by rw [List.length_append, List.length_singleton]; omega)
        refine ⟨S', q1, ?_⟩
        unfold aL at ha
        rw [q2, sI1, if_neg (by omega), sI1, if_neg (by omega), sI1, if_neg (by omega)]
      · rw [if_pos (nI_lt (by omega) (by omega))]
        exact ⟨S, rfl, rfl⟩
  obtain ⟨S', q1, q2, q3, q4⟩ := lwSet_C ha hs hs6 st out S 2000 h4 b1 (by omega) b2 b3
  obtain ⟨S1, q5, q6⟩ := hs8 st out S 2000 h4 b1 (by omega) b2 b3
  rw [q1] at q5
  cases q5
  exact ⟨S', q1, tk_cL ha h1 q3, by rw [q4 5 (by omega)]; exact h2, q2, by rw [q4 7 (by omega)]; exact h5, by rw [q6]; exact h6, setl_w hs hI, q3, q4 8 (by omega), q4 2 (by omega), q4 3 (by omega)⟩
theorem behind_C (ha : aL a) (hb2 : ∀ i, i < n → b i < 256) (hn : n ≤ 700) (h : CSt S b n m a i out st op kn false) : PRc S b n m a i (f_X4_readBehindPart a S) (lx1 (tK b n) (tV b n) i out st op kn false) := by
  obtain ⟨h1, h2, h3, h4, h5, h6, h7, hI, hz2, hz3⟩ := h
  have hI' := hI
  obtain ⟨i1, i2, i3, i4, i5⟩ := hI'
  have hk := tkd_b hb2 (ps b n i)
  have hne : ∀ v, v < 40 → tK b n i ≠ v → nI (tkd b n (ps b n i)) ≠ nI v := fun v hv z e => z ((nI_eq (a := tkd b n (ps b n i)) (by omega) (by omega)).mp e)
  have o0 : okz 0 = true := by decide
  have bad : ∃ S1, f_X4_readBehindPart_67 a S = some (0, S1) ∧ S1.1 3 2 = nI 1 ∧ S1.1 3 3 = nI (ps b n i) ∧ cL a S S1 := by
    obtain ⟨S1, q1, q2⟩ := wr_ok (a := a) h1 hn h2 h3 (cL_rf a S) 1
    exact ⟨S1, bw q1 o0, q2⟩
  unfold f_X4_readBehindPart lx1
  rw [kindR_C h1 hn h2 h3, bnd_some, if_neg (show ¬ false = true from Bool.noConfusion)]
  by_cases k4 : op = 0 ∧ tK b n i = 4
  · rw [if_pos k4]; exact True.intro
  rw [if_neg k4]
  by_cases k6 : tK b n i = 6
  · have e6 : tkd b n (ps b n i) = 6 := k6
    have him := lt_m h1 h3 (by omega)
    rw [if_pos k6, e6, if_pos (show nI 6 = (6 : Int32) from rfl), h5]
    by_cases z : op = 0
    · rw [if_pos z, if_pos (show nI op = 0 by rw [z]; rfl)]
      obtain ⟨S1, q1, q2⟩ := wr_ok (a := a) h1 hn h2 h3 (cL_rf a S) 1
      exact ⟨S1, bw q1 o0, q2⟩
    · rw [if_neg z, if_neg (show ¬ nI op = 0 from fun e => z ((nI_eq (b := 0) (by omega) (by omega)).mp e))]
      obtain ⟨S1, q1, q2, q3, q4, q5, q6, q7, q8, q9, q10, q11⟩ := setS_C (s := 1) ha (by omega) (by omega) h1 h2 h4 h5 h6 hI
      have q1 : f_X4_settleStronger a 1 S = some S1 := q1
      obtain ⟨t1, t2, t3, t4⟩ := setl_I (s := 1) (by omega) st out
      rw [q1, Option.bind_some]
      cases hst : (setl 1 st out).1 with
      | nil =>
        rw [hst] at t1
        have : ([] : List Nat).count 5 = 0 := rfl
        omega
      | cons y st' =>
        rw [hst] at q4 q7 t1 t4 t3
        have y5 : y = 5 := by
          rcases i5 y (t3 y List.mem_cons_self) with w | w
          · exact w
          · have : sg y < 1 := t4
            omega
        subst y5
        have e3 : S1.1 3 6 = nI (st'.length + 1) := q4.2.2.1
        obtain ⟨p1, p2⟩ := SO_pop ha q4
        have ha' := ha
        unfold aL at ha'
        have r7 : (sI S1 3 6 (nI st'.length)).1 3 7 = nI (op - 1 + 1) := by rw [sI1, if_neg (by omega), q5]; congr 1; omega
        rw [nxt_eq, e3, nI_m1, nxt_eq, r7, nI_m1]
        obtain ⟨j1, j2, j3, j4, j5⟩ := q7
        rw [List.length_cons] at j2
        rw [List.count_cons, if_pos (by decide)] at j1
        refine ⟨_, rfl, ⟨?_, by rw [sI1, if_pos ⟨rfl, rfl⟩], (show i + 1 ≤ m by omega), so5 (so5 p1 ha 3 7 (by omega)) ha 3 5 (by omega), ?_, ?_, ?_, ?_, by simp only [sI1]; simp; rw [q10]; exact hz2, by simp only [sI1]; simp; rw [q11]; exact hz3⟩, ?_, ?_⟩
        · exact tkC_to q2 (fun c j hc => by simp only [sI1]; grind)
        · simp only [sI1]; simp
        · simp only [sI1]; simp; exact q6
        · simp only [sI1]; simp; rw [q9, h7]; simp
        · exact ⟨(show st'.count 5 = op - 1 by omega), (show (setl 1 st out).2.length + st'.length ≤ kn + (op - 1) by omega), j3, (show op - 1 ≤ 8 by omega), fun x hx => j5 x (List.mem_cons_of_mem 5 hx)⟩
        · exact cL_s (cL_s q8 (by omega)) (by omega)
        · simp only [sI1]; simp; exact q3
  · rw [if_neg k6, if_neg (show ¬ nI (tkd b n (ps b n i)) = 6 from hne 6 (by omega) k6), f_sg hk, bnd_some]
    have hsg := (sg_c (tK b n i)).1
    by_cases z : sg (tK b n i) = 0
    · rw [if_pos z, if_pos (show nI (sg (tkd b n (ps b n i))) = 0 from (show nI (sg (tK b n i)) = 0 by rw [z]; rfl))]
      exact bad
    · rw [if_neg z, if_neg (show ¬ nI (sg (tkd b n (ps b n i))) = 0 from fun e => z ((nI_eq (a := sg (tK b n i)) (b := 0) (by omega) (by omega)).mp e))]
      have hk20 := (sg_b z).2
      have him := lt_m h1 h3 (by show tK b n i ≠ 0; intro e; rw [e] at z; exact z (by decide))
      by_cases k19 : tK b n i = 19
      · rw [if_pos k19, if_pos (show nI (tkd b n (ps b n i)) = 19 from (show nI (tK b n i) = 19 by rw [k19]; rfl))]
        exact bad
      · rw [if_neg k19, if_neg (show ¬ nI (tkd b n (ps b n i)) = 19 from hne 19 (by omega) k19)]
        by_cases s4 : sg (tK b n i) = 4
        · rw [if_pos s4, if_pos (show nI (sg (tkd b n (ps b n i))) = 4 from (show nI (sg (tK b n i)) = 4 by rw [s4]; rfl))]
          obtain ⟨S1, q1, q2, q3, q4, q5, q6, q7, q8, q9, q10, q11⟩ := setS_C (s := 5) ha (by omega) (by omega) h1 h2 h4 h5 h6 hI
          have q1 : f_X4_settleStronger a 5 S = some S1 := q1
          obtain ⟨b1, b2, b3⟩ := lwI_b q7
          rw [q1, Option.bind_some, lwWait_C q4 b1 b2, bnd_some]
          have t4 := (setl_I (s := 5) (by omega) st out).2.2.2
          by_cases w : sgT (setl 5 st out).1 = 4
          · rw [if_pos w, if_pos (show nI (sgT (setl 5 st out).1) = 4 by rw [w]; rfl)]
            obtain ⟨S2, r1, r2⟩ := wr_ok (a := a) q2 hn q3 h3 q8 1
            exact ⟨S2, bw r1 o0, r2⟩
          · rw [if_neg w, if_neg (show ¬ nI (sgT (setl 5 st out).1) = 4 from fun e => w ((nI_eq (b := 4) (by omega) (by omega)).mp e))]
            exact b104_C ha hn hk20 z q2 q3 him q4 q5 q6 q7 q8 (q10.trans hz2) (q11.trans hz3)
        · rw [if_neg s4, if_neg (show ¬ nI (sg (tkd b n (ps b n i))) = 4 from fun e => s4 ((nI_eq (a := sg (tK b n i)) (b := 4) (by omega) (by omega)).mp e))]
          obtain ⟨S1, q1, q2, q3, q4, q5, q6, q7, q8, q9, q10, q11⟩ := setS_C (s := sg (tK b n i)) ha (by omega) (by omega) h1 h2 h4 h5 h6 hI
          have q1 : f_X4_settleStronger a (nI (sg (tkd b n (ps b n i)))) S = some S1 := q1
          rw [q1, Option.bind_some]
          exact b104_C ha hn hk20 z q2 q3 him q4 q5 q6 q7 q8 (q10.trans hz2) (q11.trans hz3)
end LAWK
