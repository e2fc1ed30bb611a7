/-! PURE 11: worlds at rest; copies of them -/
def RC (w : Nat) (S : Mem) (N : TN) (W : WS) (nu : Nat → Nat) (cf : Nat → Int32) : Prop :=
  S.1 w 0 = W 0 0 ∧ S.1 w 1 = W 0 3 ∧ S.1 w 2 = W 0 2 ∧ S.2 w 3 = (W 0 1).toInt64 ∧
  (∀ d, d < N 0 1 → S.1 (w + 1) d = nI (nu d) ∧ S.1 (w + 2) d = W 2 d ∧ S.1 (w + 3) d = W 3 d) ∧
  (∀ c, c < 2 → S.1 (w + 5) c = W 5 c ∧ S.1 (w + 6) c = W 6 c) ∧ (∀ i, i < N 0 0 → S.1 (w + 4) i = cf i)
def RM (t : Nat) (S : Mem) (N : TN) (W : WS) (nu : Nat → Nat) : Prop :=
  S.1 16 t = W 0 0 ∧ S.1 17 t = W 0 1 ∧ S.1 18 t = W 0 2 ∧
  (∀ d, d < N 0 1 → S.1 21 (10 * t + d) = nI (nu d) ∧ S.1 22 (10 * t + d) = W 2 d ∧ S.1 23 (10 * t + d) = W 3 d ∧ S.1 24 (10 * t + d) = (if bt (W 0 3) d = true then 1 else 0)) ∧
  (∀ c, c < 2 → S.1 19 (2 * t + c) = W 5 c ∧ S.1 20 (2 * t + c) = W 6 c)
def caN (N : TN) : Nat → Int32 := fun i => nI (N 3 i)
def nuI (N : TN) (nu : Nat → Nat) : Prop := ∀ d, d < N 0 1 → nu d < N 0 0
def WI (N : TN) (W : WS) : Prop :=
  (∀ d, d < N 0 1 → 0 ≤ W 2 d ∧ W 2 d ≤ 9) ∧ (∀ c, c < 2 → 0 ≤ W 5 c ∧ W 5 c ≤ 999) ∧ (∀ e, bt (W 0 3) e = true → e < N 0 1)
section RST
variable {w t : Nat} {S S' : Mem} {N : TN} {T : WS} {L : LWS} {W : WS} {nu : Nat → Nat} {cf : Nat → Int32}
theorem wu_wu (x y : Int32) (r i : Nat) : wu (wu W r i x) r i y = wu W r i y := by
  funext r' i'
  simp only [wu1]
  split <;> rfl
theorem week_hm {cd : Nat → Int32} {how : Nat} (x : Int32) : sWeek N T L cd how (wu W 0 4 x) = sWeek N T L cd how W := by
  unfold sWeek
  rw [wu_wu]
theorem run_hm {cd : Nat → Int32} {how : Nat} (x : Int32) : ∀ n, sRun N T L cd how (n + 1) (wu W 0 4 x) = sRun N T L cd how (n + 1) W := by
  intro n
  induction n with
  | zero => exact week_hm x
  | succ n ih =>
    unfold sRun at *
    rw [itN_s, ih]
    rfl
theorem run_at {cd : Nat → Int32} {how : Nat} (x : Int32) (n : Nat) {r i : Nat} (h : ¬ (r = 0 ∧ i = 4)) : sRun N T L cd how n (wu W 0 4 x) r i = sRun N T L cd how n W r i := by
  cases n with
  | zero => show wu W 0 4 x r i = W r i; rw [wu1, if_neg h]
  | succ n => rw [run_hm]
theorem WC_of (h : RC w S N W nu cf) (hn : nuI N nu) (hI : TI N T L) : WC w S N (wu W 0 4 (S.1 w 12)) (fun d => cf (nu d)) := by
  obtain ⟨h0, h1, h2, h3, h4, h5, h6⟩ := h
  have hnn := hI.1
  refine ⟨h0, h1, h2, rfl, h3, fun d hd => ?_, fun c hc => ?_⟩
  · obtain ⟨a, b, c⟩ := h4 d hd
    have := hn d hd
    exact ⟨⟨nu d, by omega, a, h6 _ this⟩, b, c⟩
  · exact h5 c hc
theorem RC_of {cd : Nat → Int32} (h : WC w S' N W cd) (f : fr w S S') (h0 : RC w S N T nu cf) : RC w S' N W nu cf := by
  obtain ⟨a0, a1, a2, a3, a4, a5, a6⟩ := h
  obtain ⟨-, -, -, -, h4, -, h6⟩ := h0
  refine ⟨a0, a1, a2, a4, fun d hd => ⟨?_, (a5 d hd).2.1, (a5 d hd).2.2⟩, a6, fun i hi => ?_⟩
  · rw [f.1 (w + 1) (by omega)]; exact (h4 d hd).1
  · rw [f.1 (w + 4) (by omega)]; exact h6 i hi
theorem RC_eq {W' : WS} (h : RC w S N W nu cf) (e : ∀ r i, ¬ (r = 0 ∧ i = 4) → W r i = W' r i) : RC w S N W' nu cf := by
  unfold RC at *
  rw [← e 0 0 (by omega), ← e 0 3 (by omega), ← e 0 2 (by omega), ← e 0 1 (by omega)]
  refine ⟨h.1, h.2.1, h.2.2.1, h.2.2.2.1, fun d hd => ?_, fun c hc => ?_, h.2.2.2.2.2.2⟩
  · rw [← e 2 d (by omega), ← e 3 d (by omega)]; exact h.2.2.2.2.1 d hd
  · rw [← e 5 c (by omega), ← e 6 c (by omega)]; exact h.2.2.2.2.2.1 c hc
theorem run_RC (hw : w = 53 ∨ w = 69) (hT : TC S N T L) (hI : TI N T L) (h : RC w S N W nu cf) (hn : nuI N nu) {how n : Nat} (hh : how = 0 ∨ how = 1 ∨ how = 2 ∨ how = 4 ∨ how = 8) (hnn : n < 1000) :
    wp (f_X8_run w (nI n) (nI how) S) (fun S' => RC w S' N (sRun N T L (fun d => cf (nu d)) how n W) nu cf ∧ fr w S S') := by
  refine wp_mono (run_C hw hT hI (WC_of h hn hI) hh hnn) ?_
  rintro S' ⟨h1, f1⟩
  exact ⟨RC_eq (RC_of h1 f1 h) (fun r i q => run_at _ _ q), f1⟩
theorem WM_of (h : RM t S N W nu) (hn : nuI N nu) (hI : TI N T L) (hc : ∀ i, i < N 0 0 → cin S i = cf i) : WM t S N (wu W 0 4 (S.1 0 40)) (fun d => cf (nu d)) := by
  obtain ⟨h0, h1, h2, h4, h5⟩ := h
  have hnn := hI.1
  refine ⟨h0, h1, h2, rfl, fun d hd => ?_, fun c hc => ?_⟩
  · obtain ⟨a, b, c, e⟩ := h4 d hd
    have := hn d hd
    exact ⟨⟨nu d, by omega, a, hc _ this⟩, b, c, e⟩
  · exact h5 c hc
theorem RM_of {cd : Nat → Int32} (h : WM t S' N W cd) (f : frM t S S') (h0 : RM t S N T nu) : RM t S' N W nu := by
  obtain ⟨a0, a1, a2, a3, a4, a5⟩ := h
  obtain ⟨-, -, -, h4, -⟩ := h0
  refine ⟨a0, a1, a2, fun d hd => ⟨?_, (a4 d hd).2⟩, a5⟩
  rw [f 21 _ (by unfold chM; omega)]; exact (h4 d hd).1
theorem RM_eq {W' : WS} (h : RM t S N W nu) (e : ∀ r i, ¬ (r = 0 ∧ i = 4) → W r i = W' r i) : RM t S N W' nu := by
  unfold RM at *
  rw [← e 0 0 (by omega), ← e 0 3 (by omega), ← e 0 2 (by omega), ← e 0 1 (by omega)]
  refine ⟨h.1, h.2.1, h.2.2.1, fun d hd => ?_, fun c hc => ?_⟩
  · rw [← e 2 d (by omega), ← e 3 d (by omega)]; exact h.2.2.2.1 d hd
  · rw [← e 5 c (by omega), ← e 6 c (by omega)]; exact h.2.2.2.2 c hc
theorem pass_RM (hT : TM S N T L) (hI : TI N T L) (h : RM t S N W nu) (hn : nuI N nu) (hc : ∀ i, i < N 0 0 → cin S i = cf i) (ht : t < 23) {bn : Bool} {how : Nat} (hh : howM (S.1 0 43) bn how) :
    wp (f_X10_passes (nI t) (if bn = true then 1 else 0) S) (fun S' => RM t S' N (sWeek N T L (fun d => cf (nu d)) how W) nu ∧ frM t S S') := by
  refine wp_mono (passes_M hT hI (WM_of h hn hI hc) ht hh) ?_
  rintro S' ⟨h1, f1⟩
  rw [week_hm] at h1
  exact ⟨RM_of h1 f1 h, f1⟩
theorem cin_M (f : frM t S S') (j : Nat) : cin S' j = cin S j := by
  unfold cin
  rw [f 0 43 (by unfold chM; omega), f 0 44 (by unfold chM; omega), f 0 45 (by unfold chM; omega), f 5 j (by unfold chM; omega)]
theorem goes_RM (hT : TM S N T L) (hI : TI N T L) (h : RM 1 S N W nu) (hn : nuI N nu) (hc : ∀ i, i < N 0 0 → cin S i = cf i) {how n : Nat} (hh : howM (S.1 0 43) false how) (hnn : n < 1000) :
    wp (f_X10_goesOn (nI n) S) (fun S' => RM 1 S' N (sRun N T L (fun d => cf (nu d)) how n W) nu ∧ frM 1 S S') := by
  refine wp_mono (goesOn_M hT hI (WM_of h hn hI hc) hh hnn) ?_
  rintro S' ⟨h1, f1⟩
  exact ⟨RM_eq (RM_of h1 f1 h) (fun r i q => run_at _ _ q), f1⟩
/-! copies -/
theorem copy_C {a b n : Nat} (hab : a ≠ b) (hn : n ≤ 700) : wp (f_X9_copy a n b n S) (fun S' => (∀ c, c ≠ b → S'.1 c = S.1 c) ∧ (∀ i, i < n → S'.1 b i = S.1 a i) ∧ S'.2 = S.2) := by
  unfold f_X9_copy
  refine lp0 (fun fuel i M => f_X9_copy_2 a n b n fuel i M) n (fun j M => (∀ c, c ≠ b → M.1 c = S.1 c) ∧ (∀ i, i < j → M.1 b i = S.1 a i) ∧ M.2 = S.2) (by omega) S ⟨fun _ _ => rfl, fun i hi => absurd hi (Nat.not_lt_zero i), rfl⟩ ?_ ?_
  · rintro fuel M hM
    show wp (f_X9_copy_2 a n b n (fuel + 1) (nI n) M) _
    unfold f_X9_copy_2
    exact wp_pos (Int32.le_refl _) (wp_some hM)
  · rintro fuel j M hj ⟨h1, h2, h3⟩ ih
    try simp only at ih
    show wp (f_X9_copy_2 a n b n (fuel + 1) (nI j) M) _
    unfold f_X9_copy_2
    refine wp_neg (nI_ge hj (by omega)) (wp_neg (nI_ge hj (by omega)) ?_)
    refine wp_rd j rfl hj (v := S.1 a j) (by rw [h1 a hab]) ?_ (by omega)
    refine wp_wr j rfl hj ?_ (by omega)
    rw [nI_1]
    refine ih _ ⟨fun c hc => ?_, fun i hi => ?_, h3⟩
    · rw [sI_off hc]; exact h1 c hc
    · rw [sI1]
      split
      · rename_i q; rw [q.2]
      · exact h2 i (by omega)
/-- nothing but the world w has changed -/
def frT (w : Nat) (S S' : Mem) : Prop := (∀ c, c < w ∨ w + 7 < c → S'.1 c = S.1 c) ∧ ∀ c, c ≠ w → S'.2 c = S.2 c
theorem take_C {w1 : Nat} (hw : (w = 69 ∧ w1 = 53) ∨ (w = 61 ∧ w1 = 53) ∨ (w = 53 ∧ w1 = 61)) (hI : TI N T L) (h : RC w1 S N W nu cf) :
    wp (f_X8_take w w1 S) (fun S' => RC w S' N W nu cf ∧ frT w S S') := by
  have hnd := hI.2.1
  have hnn := hI.1
  unfold f_X8_take
  refine wp_nxt (wp_nxt (wp_nxt (wp_nxt ?_)))
  have g0 : ∀ c, c ≠ w → (sL (sI (sI (sI S w 0 (S.1 w1 0)) w 1 ((sI S w 0 (S.1 w1 0)).1 w1 1)) w 2 ((sI (sI S w 0 (S.1 w1 0)) w 1 ((sI S w 0 (S.1 w1 0)).1 w1 1)).1 w1 2)) w 3 ((sI (sI (sI S w 0 (S.1 w1 0)) w 1 ((sI S w 0 (S.1 w1 0)).1 w1 1)) w 2 ((sI (sI S w 0 (S.1 w1 0)) w 1 ((sI S w 0 (S.1 w1 0)).1 w1 1)).1 w1 2)).2 w1 3)).1 c = S.1 c := by
    intro c hc
    simp only [sL1, sI_off hc]
  have g1 : ∀ c, c ≠ w → (sL (sI (sI (sI S w 0 (S.1 w1 0)) w 1 ((sI S w 0 (S.1 w1 0)).1 w1 1)) w 2 ((sI (sI S w 0 (S.1 w1 0)) w 1 ((sI S w 0 (S.1 w1 0)).1 w1 1)).1 w1 2)) w 3 ((sI (sI (sI S w 0 (S.1 w1 0)) w 1 ((sI S w 0 (S.1 w1 0)).1 w1 1)) w 2 ((sI (sI S w 0 (S.1 w1 0)) w 1 ((sI S w 0 (S.1 w1 0)).1 w1 1)).1 w1 2)).2 w1 3)).2 c = S.2 c := by
    intro c hc
    rw [sL_off hc]
    rfl
  have w0 : (sL (sI (sI (sI S w 0 (S.1 w1 0)) w 1 ((sI S w 0 (S.1 w1 0)).1 w1 1)) w 2 ((sI (sI S w 0 (S.1 w1 0)) w 1 ((sI S w 0 (S.1 w1 0)).1 w1 1)).1 w1 2)) w 3 ((sI (sI (sI S w 0 (S.1 w1 0)) w 1 ((sI S w 0 (S.1 w1 0)).1 w1 1)) w 2 ((sI (sI S w 0 (S.1 w1 0)) w 1 ((sI S w 0 (S.1 w1 0)).1 w1 1)).1 w1 2)).2 w1 3)).1 w 0 = S.1 w1 0 := by
    simp [sL1, sI1]
  have w1' : (sL (sI (sI (sI S w 0 (S.1 w1 0)) w 1 ((sI S w 0 (S.1 w1 0)).1 w1 1)) w 2 ((sI (sI S w 0 (S.1 w1 0)) w 1 ((sI S w 0 (S.1 w1 0)).1 w1 1)).1 w1 2)) w 3 ((sI (sI (sI S w 0 (S.1 w1 0)) w 1 ((sI S w 0 (S.1 w1 0)).1 w1 1)) w 2 ((sI (sI S w 0 (S.1 w1 0)) w 1 ((sI S w 0 (S.1 w1 0)).1 w1 1)).1 w1 2)).2 w1 3)).1 w 1 = S.1 w1 1 := by
    simp [sL1, sI1]
  have w2 : (sL (sI (sI (sI S w 0 (S.1 w1 0)) w 1 ((sI S w 0 (S.1 w1 0)).1 w1 1)) w 2 ((sI (sI S w 0 (S.1 w1 0)) w 1 ((sI S w 0 (S.1 w1 0)).1 w1 1)).1 w1 2)) w 3 ((sI (sI (sI S w 0 (S.1 w1 0)) w 1 ((sI S w 0 (S.1 w1 0)).1 w1 1)) w 2 ((sI (sI S w 0 (S.1 w1 0)) w 1 ((sI S w 0 (S.1 w1 0)).1 w1 1)).1 w1 2)).2 w1 3)).1 w 2 = S.1 w1 2 := by
    simp [sL1, sI1]
  have w3 : (sL (sI (sI (sI S w 0 (S.1 w1 0)) w 1 ((sI S w 0 (S.1 w1 0)).1 w1 1)) w 2 ((sI (sI S w 0 (S.1 w1 0)) w 1 ((sI S w 0 (S.1 w1 0)).1 w1 1)).1 w1 2)) w 3 ((sI (sI (sI S w 0 (S.1 w1 0)) w 1 ((sI S w 0 (S.1 w1 0)).1 w1 1)) w 2 ((sI (sI S w 0 (S.1 w1 0)) w 1 ((sI S w 0 (S.1 w1 0)).1 w1 1)).1 w1 2)).2 w1 3)).2 w 3 = S.2 w1 3 := by
    simp [sL2, sI2]
  generalize sL (sI (sI (sI S w 0 (S.1 w1 0)) w 1 ((sI S w 0 (S.1 w1 0)).1 w1 1)) w 2 ((sI (sI S w 0 (S.1 w1 0)) w 1 ((sI S w 0 (S.1 w1 0)).1 w1 1)).1 w1 2)) w 3 ((sI (sI (sI S w 0 (S.1 w1 0)) w 1 ((sI S w 0 (S.1 w1 0)).1 w1 1)) w 2 ((sI (sI S w 0 (S.1 w1 0)) w 1 ((sI S w 0 (S.1 w1 0)).1 w1 1)).1 w1 2)).2 w1 3) = M at *
  refine wp_call (copy_C (by omega) (by omega)) ?_
  rintro M1 ⟨a1, b1, c1⟩
  refine wp_call (copy_C (by omega) (by omega)) ?_
  rintro M2 ⟨a2, b2, c2⟩
  refine wp_call (copy_C (by omega) (by omega)) ?_
  rintro M3 ⟨a3, b3, c3⟩
  refine wp_call (copy_C (by omega) (by omega)) ?_
  rintro M4 ⟨a4, b4, c4⟩
  refine wp_call (copy_C (by omega) (by omega)) ?_
  rintro M5 ⟨a5, b5, c5⟩
  refine wp_call (copy_C (by omega) (by omega)) ?_
  rintro M6 ⟨a6, b6, c6⟩
  obtain ⟨h0, h1, h2, h3, h4, h5, h6⟩ := h
  have eL : M6.2 = M.2 := by rw [c6, c5, c4, c3, c2, c1]
  have r1 : ∀ i, i < 10 → M6.1 (w + 1) i = S.1 (w1 + 1) i := fun i hi => by
    rw [a6 _ (by omega), a5 _ (by omega), a4 _ (by omega), a3 _ (by omega), a2 _ (by omega), b1 i hi, g0 _ (by omega)]
  have r2 : ∀ i, i < 10 → M6.1 (w + 2) i = S.1 (w1 + 2) i := fun i hi => by
    rw [a6 _ (by omega), a5 _ (by omega), a4 _ (by omega), a3 _ (by omega), b2 i hi, a1 _ (by omega), g0 _ (by omega)]
  have r3 : ∀ i, i < 10 → M6.1 (w + 3) i = S.1 (w1 + 3) i := fun i hi => by
    rw [a6 _ (by omega), a5 _ (by omega), a4 _ (by omega), b3 i hi, a2 _ (by omega), a1 _ (by omega), g0 _ (by omega)]
  have r4 : ∀ i, i < 6 → M6.1 (w + 4) i = S.1 (w1 + 4) i := fun i hi => by
    rw [a6 _ (by omega), a5 _ (by omega), b4 i hi, a3 _ (by omega), a2 _ (by omega), a1 _ (by omega), g0 _ (by omega)]
  have r5 : ∀ i, i < 2 → M6.1 (w + 5) i = S.1 (w1 + 5) i := fun i hi => by
    rw [a6 _ (by omega), b5 i hi, a4 _ (by omega), a3 _ (by omega), a2 _ (by omega), a1 _ (by omega), g0 _ (by omega)]
  have r6 : ∀ i, i < 2 → M6.1 (w + 6) i = S.1 (w1 + 6) i := fun i hi => by
    rw [b6 i hi, a5 _ (by omega), a4 _ (by omega), a3 _ (by omega), a2 _ (by omega), a1 _ (by omega), g0 _ (by omega)]
  have r0 : M6.1 w = M.1 w := by
    rw [a6 _ (by omega), a5 _ (by omega), a4 _ (by omega), a3 _ (by omega), a2 _ (by omega), a1 _ (by omega)]
  refine wp_some ⟨⟨by rw [r0, w0]; exact h0, by rw [r0, w1']; exact h1, by rw [r0, w2]; exact h2, by rw [eL, w3]; exact h3, fun d hd => ?_, fun c hc => ?_, fun i hi => ?_⟩, fun c hc => ?_, fun c hc => ?_⟩
  · rw [r1 d (by omega), r2 d (by omega), r3 d (by omega)]; exact h4 d hd
  · rw [r5 c hc, r6 c hc]; exact h5 c hc
  · rw [r4 i (by omega)]; exact h6 i hi
  · rw [a6 _ (by omega), a5 _ (by omega), a4 _ (by omega), a3 _ (by omega), a2 _ (by omega), a1 _ (by omega), g0 _ (by omega)]
  · rw [eL]; exact g1 c hc
end RST
