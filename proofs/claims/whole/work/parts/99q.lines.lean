/-! PURE 66: the text: all lines, by both -/
section LINQ
variable {C C' M M' S S' : Mem} {b : Nat → Nat} {n m i kn ln : Nat} {N : TN} {T : WS} {L : LWS} {mk : Nat → Bool}
theorem ln_all (hb2 : ∀ i, i < n → b i < 256) (hn : n ≤ 700) (hc : RSc C b n m i N T L mk) (hm : RSm M b n i N T L mk kn ln) (hI : RSp N T L kn) : lnR C M b n m i ln := by
  by_cases z : 27 ≤ tK b n i ∧ tK b n i ≤ 33
  · by_cases a : tK b n i = 27
    · exact ln_nurse hb2 hn hc hm hI a
    · by_cases d : tK b n i = 28
      · exact ln_doll hb2 hn hc hm hI d
      · by_cases e : tK b n i = 33
        · exact ln_law hb2 hn hc hm hI e
        · exact ln_set (s := tK b n i - 29) hb2 hn hc hm hI (by omega) (by omega)
  · exact ln_bad hb2 hn hc hm z
theorem RSm_ln (h : RSm M b n i N T L mk kn ln) : RSm (sI M 0 16 (nI (ln + 1))) b n i N T L mk kn (ln + 1) := by
  obtain ⟨h1, h2, h3, h4, h5, h6, h7, h8, h9, hx⟩ := h
  refine ⟨tkA_s h1 (by omega), by rw [sI1, if_neg (by omega)]; exact h2, by rw [sI1, if_neg (by omega)]; exact h3, by rw [sI1, if_neg (by omega)]; exact h4, by rw [sI1, if_neg (by omega)]; exact h5, TM_to h6 (fun c j a1 a2 => ?_), fun s hs => by rw [sI1, if_neg (by omega)]; exact h7 s hs, fun k hk => by rw [sI1, if_neg (by omega)]; exact h8 k hk, by rw [sI1, if_pos ⟨rfl, rfl⟩], fun q hq l hL => by rw [sI1, if_neg (by omega)]; exact hx q hq l hL⟩
  show (sI M 0 16 _).1 c _ = M.1 c _
  rw [sI1, if_neg (by omega)]
theorem ln_end (hb2 : ∀ i, i < n → b i < 256) (hn : n ≤ 700) (hc : RSc C b n m i N T L mk) (hm : RSm M b n i N T L mk kn ln) :
    (∃ C' M', f_X4_pass 4 C = some (1, C') ∧ f_X10_line_226 M = some M' ∧ RSc C' b n m (i + 1) N T L mk ∧ RSm M' b n (i + 1) N T L mk kn (ln + 1) ∧ cR C C' ∧ mR M M') ∨
    (∃ C' M', f_X4_pass 4 C = some (0, C') ∧ f_X10_line_226 M = some M' ∧ FL C' M' ∧ cR C C' ∧ mR M M') := by
  obtain ⟨e1, e2⟩ := kd_C hb2 hc hn
  have is4 : f_X10_isSign 59 M = _ := isSign_M (k := 4) hm.1 hm.2.1 (by omega) (by omega)
  by_cases z : tK b n i = 4
  · have him := lt_m hc.1 hc.2.2.1 (by show tK b n i ≠ 0; omega)
    obtain ⟨M1, q1, q2, q3⟩ := step_M hm.1 hb2 hn
    have hm1 := RSm_q hm q3 q2
    refine Or.inl ⟨sI C 3 5 (nI (i + 1)), sI M1 0 16 (nI (ln + 1)), ?_, ?_, RSc_n hc him, RSm_ln hm1, cR_s (cR_rf C) (by omega), mR_tr (mR_q q3) (mR_s (mR_rf M1) (by unfold rM; omega))⟩
    · unfold f_X4_pass
      rw [e1, bnd_some, z, if_pos (show nI 4 = (4 : Int32) from rfl), nxt_eq, hc.2.1, nI_1]
    · unfold f_X10_line_226
      rw [if_pos hm.2.1, is4, bnd_some, if_pos z, if_neg (by decide), q1, Option.bind_some]
      unfold f_X10_line_255
      rw [nxt_eq, hm1.2.2.2.2.2.2.2.2.1, nI_1]
  · obtain ⟨C1, M1, q1, q2, q3, q4, q5⟩ := fl_at (f := 1) hn hc.1 hc.2.1 hc.2.2.1 hm.1 hm.2.1 (by omega) (by omega)
    have q1 : f_X4_wrong 1 C = some (0, C1) := q1
    have q2 : f_X10_wrong 1 M = some M1 := q2
    refine Or.inr ⟨C1, sI M1 0 16 (M1.1 0 16 + 1), ?_, ?_, FL_to q3 (by rw [sI1, if_neg (by omega)]) (by rw [sI1, if_neg (by omega)]), q4, mR_tr q5 (mR_s (mR_rf M1) (by unfold rM; omega))⟩
    · unfold f_X4_pass
      rw [e1, bnd_some, if_neg (show ¬ nI (tK b n i) = 4 from fun e => z ((nI_eq (b := 4) (by omega) (by omega)).mp e)), bw q1 o0]
    · unfold f_X10_line_226
      rw [if_pos hm.2.1, is4, bnd_some, if_neg z, if_pos rfl, q2, Option.bind_some]
      unfold f_X10_line_255
      rw [nxt_eq]
def linR (C M : Mem) (b : Nat → Nat) (n m : Nat) (x y : Option (Int32 × Mem)) : Prop :=
  (∃ C' M' i ln N T L mk kn, x = some (nI ln, C') ∧ ln ≤ 700 ∧ y = f_X10_text_163 M' ∧ RSc C' b n m i N T L mk ∧ RSm M' b n i N T L mk kn ln ∧ RSp N T L kn ∧ cR C C' ∧ mR M M') ∨
  (∃ C' M', x = some (-1, C') ∧ y = f_X10_text_163 M' ∧ FL C' M' ∧ cR C C' ∧ mR M M')
theorem r24_s (g : Nat) (v : Int32) (S : Mem) : f_X4_readLines_24 (g + 1) v S = (if (700 : Int32) < v then
  (some ((-1 : Int32), S))
  else
  (bnd (f_X4_kind S) fun r32 S32 =>
  if r32 = 0 then
  (some (v, S32))
  else
  (bnd (f_X4_readLine S32) fun r41 S41 =>
  if r41 = 0 then
  (some ((-1 : Int32), S41))
  else
  (bnd (f_X4_pass (4 : Int32) S41) fun r49 S49 =>
  if r49 = 0 then
  (some ((-1 : Int32), S49))
  else
  (f_X4_readLines_24 g (v + 1) S49))))) := rfl
theorem t141_s (g : Nat) (S : Mem) : f_X10_text_141 (g + 1) S = (if (S.1 0 22) = 0 then
  (if (S.1 0 20) = (4 : Int32) then
  (f_X10_text_163 S)
  else
  ((f_X10_line S).bind fun S157 =>
  f_X10_text_141 g S157))
  else
  (f_X10_text_163 S)) := rfl
theorem lines_R (hb2 : ∀ i, i < n → b i < 256) (hn : n ≤ 700) (hmn : m ≤ n) : ∀ D i C M ln N T L mk kn g g', i + D = m → RSc C b n m i N T L mk → RSm M b n i N T L mk kn ln → RSp N T L kn → ln ≤ i → D + 1 < g → D + 1 < g' →
    linR C M b n m (f_X4_readLines_24 g (nI ln) C) (f_X10_text_141 g' M) := by
  intro D
  induction D using Nat.strongRecOn with
  | ind D IH =>
    intro i C M ln N T L mk kn g g' hD hc hm hI hl hg hg'
    obtain ⟨g, rfl⟩ : ∃ q, g = q + 1 := ⟨g - 1, by omega⟩
    obtain ⟨g', rfl⟩ : ∃ q, g' = q + 1 := ⟨g' - 1, by omega⟩
    obtain ⟨e1, e2⟩ := kd_C hb2 hc hn
    rw [r24_s, t141_s, if_neg (show ¬ 700 < nI ln from Int32.not_lt.mpr (nI_le (b := 700) (by omega) (by omega))), e1, bnd_some, if_pos hm.2.1]
    by_cases z : tK b n i = 0
    · rw [z, if_pos (show nI 0 = 0 from rfl), if_pos ((sort_M hm.1).2.2.2.2.mpr z)]
      exact Or.inl ⟨C, M, i, ln, N, T, L, mk, kn, rfl, by omega, rfl, hc, hm, hI, cR_rf C, mR_rf M⟩
    · have him := lt_m hc.1 hc.2.2.1 z
      rw [if_neg (show ¬ nI (tK b n i) = 0 from fun e => z ((nI_eq (b := 0) (by omega) (by omega)).mp e)), if_neg (fun e => z ((sort_M hm.1).2.2.2.2.mp e))]
      obtain ⟨M1, q1, q2, q3⟩ := ln_all hb2 hn hc hm hI
      obtain ⟨g'', rfl⟩ : ∃ q, g' = q + 1 := ⟨g' - 1, by omega⟩
      rcases q3 with ⟨C1, i1, N1, T1, L1, mk1, kn1, w1, w2, w3, w4, w5, w6⟩ | ⟨C1, w1, w2, w3⟩
      · rw [w1, bnd_some, if_neg (by decide)]
        have hi1 : i1 ≤ m := w3.2.2.1
        rcases ln_end hb2 hn w3 w4 with ⟨C2, M2, x1, x2, x3, x4, x5, x6⟩ | ⟨C2, M2, x1, x2, x3, x5, x6⟩
        · have hi2 : i1 + 1 ≤ m := x3.2.2.1
          rw [x1, bnd_some, if_neg (by decide), q1, x2, Option.bind_some, nI_1]
          have := IH (m - (i1 + 1)) (by omega) (i1 + 1) C2 M2 (ln + 1) N1 T1 L1 mk1 kn1 g (g'' + 1) (by omega) x3 x4 w5 (by omega) (by omega) (by omega)
          rcases this with ⟨C3, M3, i3, l3, N3, T3, L3, mk3, kn3, y1, y2, y3, y4, y5, y6, y7, y8⟩ | ⟨C3, M3, y1, y2, y3, y4, y5⟩
          · exact Or.inl ⟨C3, M3, i3, l3, N3, T3, L3, mk3, kn3, y1, y2, y3, y4, y5, y6, cR_tr w2 (cR_tr x5 y7), mR_tr q2 (mR_tr x6 y8)⟩
          · exact Or.inr ⟨C3, M3, y1, y2, y3, cR_tr w2 (cR_tr x5 y4), mR_tr q2 (mR_tr x6 y5)⟩
        · rw [x1, bnd_some, if_pos rfl, q1, x2, Option.bind_some, t141_s, if_neg x3.2.2]
          exact Or.inr ⟨C2, M2, rfl, rfl, x3, cR_tr w2 x5, mR_tr q2 x6⟩
      · rw [w1, bnd_some, if_pos rfl, q1, l226_i w3.2.2, Option.bind_some, t141_s, if_neg w3.2.2]
        exact Or.inr ⟨C1, M1, rfl, rfl, w3, w2, q2⟩
/-! the reference's beginning -/
def inV (k : Nat) : Int32 := if k = 2 then 20 else if k = 3 then 20 else if k = 4 then 5 else 0
theorem t47_s {k g : Nat} (hk : k < 7) : f_X10_text_47 (g + 1) (nI k) S = f_X10_text_47 g (nI (k + 1)) (sI S 2 (7 + k) (inV k)) := by
  have r : ∀ v : Int32, f_X10_text_80 (f_X10_text_47 g) (nI k) (nI k) v S = f_X10_text_47 g (nI (k + 1)) (sI S 2 (7 + k) v) := by
    intro v
    unfold f_X10_text_80
    rw [reads_k hk, Option.bind_some, nI_1]
  show (if (7 : Int32) ≤ nI k then (f_X10_text_91 FU (3 : Int32) S) else (if nI k = (2 : Int32) then (f_X10_text_65 (f_X10_text_47 g) (nI k) (nI k) S) else (if nI k = (3 : Int32) then (f_X10_text_65 (f_X10_text_47 g) (nI k) (nI k) S) else (if nI k = (4 : Int32) then (f_X10_text_80 (f_X10_text_47 g) (nI k) (nI k) (5 : Int32) S) else (f_X10_text_80 (f_X10_text_47 g) (nI k) (nI k) (0 : Int32) S))))) = _
  rw [if_neg (show ¬ (7 : Int32) ≤ nI k from (nI_ge hk (by omega) : ¬ nI 7 ≤ nI k))]
  unfold inV f_X10_text_65
  have ne : ∀ v, v < 10 → k ≠ v → nI k ≠ nI v := fun v hv z e => z ((nI_eq (by omega) (by omega)).mp e)
  by_cases a : k = 2
  · rw [if_pos (show nI k = 2 by rw [a]; rfl), if_pos a, r]
  · rw [if_neg (show ¬ nI k = 2 from ne 2 (by omega) a), if_neg a]
    by_cases c : k = 3
    · rw [if_pos (show nI k = 3 by rw [c]; rfl), if_pos c, r]
    · rw [if_neg (show ¬ nI k = 3 from ne 3 (by omega) c), if_neg c]
      by_cases d : k = 4
      · rw [if_pos (show nI k = 4 by rw [d]; rfl), if_pos d, r]
      · rw [if_neg (show ¬ nI k = 4 from ne 4 (by omega) d), if_neg d, r]
theorem t47_e {g : Nat} : f_X10_text_47 (g + 1) (nI 7) S = f_X10_text_91 FU 3 S := by
  show (if (7 : Int32) ≤ nI 7 then (f_X10_text_91 FU (3 : Int32) S) else _) = _
  rw [if_pos (by decide)]
theorem t91_s {k g : Nat} (hk : k < 6) : f_X10_text_91 (g + 1) (nI k) S = f_X10_text_91 g (nI (k + 1)) (sI (sI S 10 k 0) 11 k 0) := by
  show (if (6 : Int32) ≤ nI k then _ else ((wr S 10 6 (nI k) (0 : Int32)).bind fun S103 => (wr S103 11 6 (nI k) (0 : Int32)).bind fun S110 => f_X10_text_91 g (nI k + 1) S110)) = _
  rw [if_neg (show ¬ (6 : Int32) ≤ nI k from (nI_ge hk (by omega) : ¬ nI 6 ≤ nI k)), wrN hk (by omega), Option.bind_some, wrN hk (by omega), Option.bind_some, nI_1]
theorem t91_e {g : Nat} : f_X10_text_91 (g + 1) (nI 6) S = (f_X10_token (sI (sI (sI (sI S 0 15 0) 0 16 0) 0 26 0) 0 27 0)).bind fun S138 => f_X10_text_141 FU S138 := by
  show (if (6 : Int32) ≤ nI 6 then _ else _) = _
  rw [if_pos (by decide), nxt_eq, nxt_eq, nxt_eq, nxt_eq]
def iniM (S : Mem) : Mem := sI (sI (sI (sI (sI (sI (sI (sI (sI (sI (sI (sI (sI (sI (sI (sI (sI S 2 7 0) 2 8 0) 2 9 20) 2 10 20) 2 11 5) 2 12 0) 2 13 0) 10 3 0) 11 3 0) 10 4 0) 11 4 0) 10 5 0) 11 5 0) 0 15 0) 0 16 0) 0 26 0) 0 27 0
theorem t47_all : f_X10_text_47 FU 0 S = (f_X10_token (iniM S)).bind fun S138 => f_X10_text_141 FU S138 := by
  have f1 : FU = 1992 + 1 + 1 + 1 + 1 + 1 + 1 + 1 + 1 := rfl
  have f2 : FU = 1996 + 1 + 1 + 1 + 1 := rfl
  have h : f_X10_text_47 (1992 + 1 + 1 + 1 + 1 + 1 + 1 + 1 + 1) (nI 0) S = f_X10_text_91 FU 3 (sI (sI (sI (sI (sI (sI (sI S 2 7 0) 2 8 0) 2 9 20) 2 10 20) 2 11 5) 2 12 0) 2 13 0) := by
    rw [t47_s (by omega), t47_s (by omega), t47_s (by omega), t47_s (by omega), t47_s (by omega), t47_s (by omega), t47_s (by omega), t47_e]
    rfl
  have h2 : ∀ Q, f_X10_text_91 (1996 + 1 + 1 + 1 + 1) (nI 3) Q = (f_X10_token (sI (sI (sI (sI (sI (sI (sI (sI (sI (sI Q 10 3 0) 11 3 0) 10 4 0) 11 4 0) 10 5 0) 11 5 0) 0 15 0) 0 16 0) 0 26 0) 0 27 0)).bind fun S138 => f_X10_text_141 FU S138 := by
    intro Q
    rw [t91_s (by omega), t91_s (by omega), t91_s (by omega), t91_e]
  have h3 : ∀ Q, f_X10_text_91 FU 3 Q = f_X10_text_91 (1996 + 1 + 1 + 1 + 1) (nI 3) Q := fun _ => rfl
  have h4 : f_X10_text_47 FU 0 S = f_X10_text_47 (1992 + 1 + 1 + 1 + 1 + 1 + 1 + 1 + 1) (nI 0) S := rfl
  rw [h4, h, h3, h2]
  rfl
theorem iniM_o {c j : Nat} (h : ¬ (c = 2 ∧ 7 ≤ j ∧ j ≤ 13)) (h2 : ¬ ((c = 10 ∨ c = 11) ∧ 3 ≤ j ∧ j ≤ 5)) (h3 : ¬ (c = 0 ∧ (j = 15 ∨ j = 16 ∨ j = 26 ∨ j = 27))) : (iniM S).1 c j = S.1 c j := by
  unfold iniM
  simp only [sI1]
  repeat rw [if_neg (by omega)]
theorem ini_TM : TM (shM (iniM S)) N00 T00 L00 := by
  refine ⟨?_, ?_, ?_, fun i hi => absurd hi (Nat.not_lt_zero i), fun i hi => absurd hi (Nat.not_lt_zero i), fun j hj => ?_, fun k hk => ⟨fun _ => ?_, fun l h => (by cases h)⟩⟩
  · show (iniM S).1 2 7 = _
    unfold iniM; simp only [sI1]; simp; rfl
  · show (iniM S).1 2 8 = _
    unfold iniM; simp only [sI1]; simp; rfl
  · show (iniM S).1 2 13 = _
    unfold iniM; simp only [sI1]; simp; rfl
  · show (iniM S).1 2 (7 + (2 + j)) = _
    have : j = 0 ∨ j = 1 ∨ j = 2 ∨ j = 3 := by omega
    rcases this with rfl | rfl | rfl | rfl <;> (unfold iniM; simp only [sI1]; simp [T00])
  · show (iniM S).1 11 (3 + k) ≤ (iniM S).1 10 (3 + k)
    have : k = 0 ∨ k = 1 ∨ k = 2 := by omega
    rcases this with rfl | rfl | rfl <;> (unfold iniM; simp only [sI1]; simp)
theorem clr_TC : TC (shC (clrS 8 S)) N00 T00 L00 := by
  refine ⟨?_, ?_, ?_, fun i hi => absurd hi (Nat.not_lt_zero i), fun i hi => absurd hi (Nat.not_lt_zero i), fun c hc e' => ?_, fun i hi => ?_, fun k hk => ⟨fun _ => ?_, fun l h => (by cases h)⟩⟩
  · show (clrS 8 S).1 8 0 = _
    simp [clrS, sI1]; rfl
  · show (clrS 8 S).1 8 1 = _
    simp [clrS, sI1]; rfl
  · show (clrS 8 S).1 8 2 = _
    simp [clrS, sI1]; rfl
  · have z : (shC (clrS 8 S)).1 40 c = 0 := by
      show (clrS 8 S).1 17 c = 0
      have : c = 0 ∨ c = 1 := by omega
      rcases this with rfl | rfl <;> simp [clrS, sI1]
    rw [z]
    constructor
    · intro h
      rw [bt_z] at h
      cases h
    · intro h
      exact absurd h.1 (Nat.not_lt_zero _)
  · show (clrS 8 S).1 18 i = _
    have : i = 0 ∨ i = 1 ∨ i = 2 ∨ i = 3 := by omega
    rcases this with rfl | rfl | rfl | rfl <;> simp [clrS, sI1, T00]
  · show (clrS 8 S).1 (44 + 3 * k - 23) 0 = 0
    have : k = 0 ∨ k = 1 ∨ k = 2 := by omega
    rcases this with rfl | rfl | rfl <;> simp [clrS, sI1]
end LINQ
