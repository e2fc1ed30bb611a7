/-! PURE 55: a law's E: the class's whole row -/
section LAWL
variable {S S' : Mem} {b : Nat → Nat} {n m i a x k op kn : Nat} {out st : List Nat} {wt : Bool}
theorem r88_s (g a : Nat) (v : Int32) (S : Mem) : f_X4_readLaw_88 (g + 1) a v S = (if (700 : Int32) < v then
  (bnd (f_X4_wrong (1 : Int32) S) fun r171 S171 =>
  if okz r171 = true then some (r171, S171) else none)
  else
  (if (S.1 3 8) = 0 then
  (if (S.1 3 7) = 0 then
  (bnd (f_X4_kind S) fun r110 S110 =>
  if r110 = (4 : Int32) then
  ((f_X4_settleStronger a (1 : Int32) S110).bind fun S120 =>
  some ((1 : Int32), S120))
  else
  (f_X4_readLaw_125 (f_X4_readLaw_88 g) a v S110))
  else
  (f_X4_readLaw_125 (f_X4_readLaw_88 g) a v S))
  else
  (f_X4_readLaw_125 (f_X4_readLaw_88 g) a v S))) := rfl
theorem step_C (ha : aL a) (hb2 : ∀ i, i < n → b i < 256) (hn : n ≤ 700) (h : CSt S b n m a i out st op kn wt) {v g : Nat} (hv : v ≤ 700) :
    (∀ s, lx1 (tK b n) (tV b n) i out st op kn wt = some (.ok s) → ∃ S', f_X4_readLaw_88 (g + 1) a (nI v) S = f_X4_readLaw_88 g a (nI (v + 1)) S' ∧ CSl S' b n m a s ∧ cL a S S') ∧
    (∀ f, lx1 (tK b n) (tV b n) i out st op kn wt = some (.error f) → ∃ S', f_X4_readLaw_88 (g + 1) a (nI v) S = some (0, S') ∧ S'.1 3 2 = nI f ∧ S'.1 3 3 = nI (ps b n i) ∧ cL a S S') := by
  have hk := tkd_b hb2 (ps b n i)
  have h0 := h
  obtain ⟨h1, h2, h3, h4, h5, h6, h7, hI, hz2, hz3⟩ := h0
  have hop := hI.2.2.2.1
  have go : ∀ y, PRc S b n m a i y (lx1 (tK b n) (tV b n) i out st op kn wt) → ∀ z : Option (Int32 × Mem),
      (∀ S1, y = some (1, S1) → S1.1 3 5 = nI i → z = f_X4_readLaw_88 g a (nI (v + 1)) (sI S1 3 5 (nI (i + 1)))) → (∀ S1, y = some (0, S1) → z = some (0, S1)) →
      (∀ s, lx1 (tK b n) (tV b n) i out st op kn wt = some (.ok s) → ∃ S', z = f_X4_readLaw_88 g a (nI (v + 1)) S' ∧ CSl S' b n m a s ∧ cL a S S') ∧
      (∀ f, lx1 (tK b n) (tV b n) i out st op kn wt = some (.error f) → ∃ S', z = some (0, S') ∧ S'.1 3 2 = nI f ∧ S'.1 3 3 = nI (ps b n i) ∧ cL a S S') := by
    intro y hy z e1 e0
    refine ⟨fun s es => ?_, fun f ef => ?_⟩
    · rw [es] at hy
      obtain ⟨S1, q1, q2, q3, q4⟩ := hy
      exact ⟨_, e1 S1 q1 q4, q2, cL_s q3 (by omega)⟩
    · rw [ef] at hy
      obtain ⟨S1, q1, q2⟩ := hy
      exact ⟨S1, e0 S1 q1, q2⟩
  by_cases hf : lx1 (tK b n) (tV b n) i out st op kn wt = none
  · rw [hf]
    exact ⟨fun s e => (by cases e), fun f e => (by cases e)⟩
  rw [r88_s, if_neg (show ¬ 700 < nI v from Int32.not_lt.mpr (nI_le (b := 700) hv (by omega)))]
  cases wt with
  | true =>
    have h8 : S.1 3 8 = 1 := h7
    rw [h8, if_neg (by decide)]
    refine go _ (part_C ha hb2 hn h) _ (fun S1 e es => ?_) (fun S1 e => ?_)
    · unfold f_X4_readLaw_125
      rw [h8, if_neg (by decide), e, bnd_some, if_neg (by decide)]
      unfold f_X4_readLaw_153
      rw [nxt_eq, es, nI_1, nI_1]
    · unfold f_X4_readLaw_125
      rw [h8, if_neg (by decide), e, bnd_some, if_pos rfl]
  | false =>
    have h8 : S.1 3 8 = 0 := h7
    have key : (∀ S1, f_X4_readBehindPart a S = some (1, S1) → S1.1 3 5 = nI i → f_X4_readLaw_125 (f_X4_readLaw_88 g) a (nI v) S = f_X4_readLaw_88 g a (nI (v + 1)) (sI S1 3 5 (nI (i + 1)))) ∧ (∀ S1, f_X4_readBehindPart a S = some (0, S1) → f_X4_readLaw_125 (f_X4_readLaw_88 g) a (nI v) S = some (0, S1)) := by
      refine ⟨fun S1 e es => ?_, fun S1 e => ?_⟩
      · unfold f_X4_readLaw_125
        rw [h8, if_pos rfl, e, bnd_some, if_neg (by decide)]
        unfold f_X4_readLaw_153
        rw [nxt_eq, es, nI_1, nI_1]
      · unfold f_X4_readLaw_125
        rw [h8, if_pos rfl, e, bnd_some, if_pos rfl]
    rw [h8, if_pos rfl, h5]
    by_cases z : op = 0
    · have k4 : tK b n i ≠ 4 := by
        intro e
        apply hf
        unfold lx1
        rw [if_neg (show ¬ false = true from Bool.noConfusion), if_pos ⟨z, e⟩]
      rw [if_pos (show nI op = 0 by rw [z]; rfl), kindR_C h1 hn h2 h3, bnd_some, if_neg (show ¬ nI (tkd b n (ps b n i)) = 4 from fun e => k4 ((nI_eq (a := tkd b n (ps b n i)) (b := 4) (by omega) (by omega)).mp e))]
      exact go _ (behind_C ha hb2 hn h) _ key.1 key.2
    · rw [if_neg (show ¬ nI op = 0 from fun e => z ((nI_eq (b := 0) (by omega) (by omega)).mp e))]
      exact go _ (behind_C ha hb2 hn h) _ key.1 key.2
theorem fin_C (ha : aL a) (hb2 : ∀ i, i < n → b i < 256) (hn : n ≤ 700) (h : CSt S b n m a i out st 0 kn false) (h4 : tK b n i = 4) {v g : Nat} (hv : v ≤ 700) :
    ∃ S', f_X4_readLaw_88 (g + 1) a (nI v) S = some (1, S') ∧ SO a S' (setl 1 st out).2 (setl 1 st out).1 ∧ tkC S' b n m ∧ S'.1 3 5 = nI i ∧ S'.1 8 2 = nI kn ∧ cL a S S' ∧ S'.1 3 2 = 0 ∧ S'.1 3 3 = -1 := by
  obtain ⟨h1, h2, h3, h4', h5, h6, h7, hI, hz2, hz3⟩ := h
  obtain ⟨S1, q1, q2, q3, q4, q5, q6, q7, q8, q9, q10, q11⟩ := setS_C (s := 1) ha (by omega) (by omega) h1 h2 h4' h5 h6 hI
  have q1 : f_X4_settleStronger a 1 S = some S1 := q1
  have h8 : S.1 3 8 = 0 := h7
  have h5 : S.1 3 7 = 0 := h5
  have e4 : tkd b n (ps b n i) = 4 := h4
  refine ⟨S1, ?_, q4, q2, q3, q6, q8, q10.trans hz2, q11.trans hz3⟩
  rw [r88_s, if_neg (show ¬ 700 < nI v from Int32.not_lt.mpr (nI_le (b := 700) hv (by omega))), h8, if_pos rfl, h5, if_pos rfl, kindR_C h1 hn h2 h3, bnd_some, e4, if_pos (show nI 4 = (4 : Int32) from rfl), q1, Option.bind_some]
def runR (S : Mem) (b : Nat → Nat) (n m a i0 : Nat) (y : Option (Int32 × Mem)) : RR → Prop
  | .ok s => ∃ S' v g, y = f_X4_readLaw_88 g a (nI v) S' ∧ CSl S' b n m a s ∧ v + i0 = s.1 ∧ m + 2 ≤ g + s.1 ∧ cL a S S'
  | .error p => ∃ S', y = some (0, S') ∧ S'.1 3 2 = nI p.1 ∧ S'.1 3 3 = nI (ps b n p.2) ∧ cL a S S'
theorem run_C8 (ha : aL a) (hb2 : ∀ i, i < n → b i < 256) (hn : n ≤ 700) (hm : m ≤ n) {i0 : Nat} : ∀ k (s : LX) (r : RR), rcN (tK b n) (tV b n) k s r → ∀ S v g, CSl S b n m a s → v + i0 = s.1 → m + 2 ≤ g + s.1 → runR S b n m a i0 (f_X4_readLaw_88 g a (nI v) S) r := by
  intro k
  induction k with
  | zero =>
    intro s r h S v g hS hv hg
    cases h
    exact ⟨S, v, g, rfl, hS, hv, hg, cL_rf a S⟩
  | succ k ih =>
    intro s r h S v g hS hv hg
    have him : s.1 ≤ m := hS.2.2.1
    obtain ⟨g, rfl⟩ : ∃ q, g = q + 1 := ⟨g - 1, by omega⟩
    obtain ⟨c1, c2⟩ := step_C ha hb2 hn hS (v := v) (g := g) (by omega)
    unfold rcN at h
    split at h
    · rename_i s1 e
      obtain ⟨S1, q1, q2, q3⟩ := c1 s1 e
      have e1 : s1.1 = s.1 + 1 := by
        obtain ⟨i, out, st, op, kn, wt⟩ := s
        have e : lx1 (tK b n) (tV b n) i out st op kn wt = some (.ok s1) := e
        unfold lx1 at e
        repeat' split at e
        all_goals first | (cases e; rfl) | cases e
      have := ih s1 r h S1 (v + 1) g q2 (by omega) (by omega)
      rw [q1]
      cases r with
      | ok s2 =>
        obtain ⟨S2, v2, g2, w1, w2, w3, w4, w5⟩ := this
        exact ⟨S2, v2, g2, w1, w2, w3, w4, cL_tr q3 w5⟩
      | error p =>
        obtain ⟨S2, w1, w2, w3, w4⟩ := this
        exact ⟨S2, w1, w2, w3, cL_tr q3 w4⟩
    · rename_i f e
      obtain ⟨S1, q⟩ := c2 f e
      rw [h]
      exact ⟨S1, q⟩
    · exact absurd h id
/-- what the class's row is, by the grammar -/
def lawR (S : Mem) (b : Nat → Nat) (n m a : Nat) (y : Option (Int32 × Mem)) : GR → Prop
  | .ok (j, kn, l) => (tK b n j = 4 → ∃ S', y = some (1, S') ∧ SO a S' l [] ∧ tkC S' b n m ∧ S'.1 3 5 = nI j ∧ j ≤ m ∧ S'.1 8 2 = nI kn ∧ cL a S S' ∧ S'.1 3 2 = 0 ∧ S'.1 3 3 = -1) ∧
      (tK b n j ≠ 4 → ∃ S', y = some (0, S') ∧ S'.1 3 2 = nI 1 ∧ S'.1 3 3 = nI (ps b n j) ∧ cL a S S')
  | .error p => ∃ S', y = some (0, S') ∧ S'.1 3 2 = nI p.1 ∧ S'.1 3 3 = nI (ps b n p.2) ∧ cL a S S'
theorem law_C88 (ha : aL a) (hb2 : ∀ i, i < n → b i < 256) (hn : n ≤ 700) (h : CSt S b n m a i [] [] 0 kn true) {r : GR} (g : Glv (tK b n) (tV b n) 0 i kn 0 r) : lawR S b n m a (f_X4_readLaw_88 FU a 0 S) r := by
  have hm : m ≤ n := h.1.1
  have him : i ≤ m := h.2.2.1
  have hg := g.1 [] [] ⟨by decide, fun x => absurd x (by omega)⟩
  have fu : FU = 2000 := rfl
  cases r with
  | error p =>
    obtain ⟨k, hk⟩ := hg
    exact run_C8 ha hb2 hn hm k _ _ hk S 0 FU h (Nat.zero_add i) (by show m + 2 ≤ FU + i; omega)
  | ok q =>
    obtain ⟨j, kn1, l⟩ := q
    obtain ⟨out2, pend, ⟨k, hk⟩, e, hpd, hf⟩ := hg
    obtain ⟨S1, v, g1, w1, w2, w3, w4, w5⟩ := run_C8 ha hb2 hn hm k _ _ hk S 0 FU h (Nat.zero_add i) (by show m + 2 ≤ FU + i; omega)
    have w1 : f_X4_readLaw_88 FU a 0 S = _ := w1
    rw [List.append_nil] at w2
    have w2 : CSt S1 b n m a j out2 pend 0 kn1 false := w2
    have hjm : j ≤ m := w2.2.2.1
    have w3 : v + i = j := w3
    have w4 : m + 2 ≤ g1 + j := w4
    obtain ⟨g1, rfl⟩ : ∃ q, g1 = q + 1 := ⟨g1 - 1, by omega⟩
    refine ⟨fun k4 => ?_, fun k4 => ?_⟩
    · obtain ⟨S2, x1, x2, x3, x4, x5, x6, x7⟩ := fin_C (v := v) (g := g1) ha hb2 hn w2 k4 (by omega)
      have es : setl 1 pend out2 = ([], out2 ++ pend) := by
        have := setl_app (s := 1) (st := []) (by decide) pend out2 hpd
        rw [List.append_nil] at this
        exact this
      rw [es] at x2
      have e : out2 ++ pend = l := e
      rw [e] at x2
      exact ⟨S2, by rw [w1, x1], x2, x3, x4, hjm, x5, cL_tr w5 x6, x7⟩
    · have ebad : lx1 (tK b n) (tV b n) j out2 pend 0 kn1 false = some (.error 1) := by
        by_cases k6 : tK b n j = 6
        · unfold lx1
          rw [if_neg (show ¬ false = true from Bool.noConfusion), if_neg (fun z => k4 z.2), if_pos k6, if_pos rfl]
        · have := lx_end (V := tV b n) (out := out2) (st := []) (kn := kn1) (op := 0) hf k6 (fun z => k4 z.2)
          rw [List.append_nil] at this
          exact this
      obtain ⟨S2, x1, x2, x3, x4⟩ := (step_C ha hb2 hn w2 (v := v) (g := g1) (by omega)).2 1 ebad
      exact ⟨S2, by rw [w1, x1], x2, x3, cL_tr w5 x4⟩
end LAWL
