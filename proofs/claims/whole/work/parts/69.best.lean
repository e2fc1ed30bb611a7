/-! PURE 20: best, enough -/
section BST
variable {C M S : Mem} {N : TN} {T : WS} {L : LWS} {W : WS} {nu : Nat → Nat} {cf : Nat → Int32}
theorem sumB_b {r : Nat} {m : Int32} (h : ∀ d, d < N 0 1 → ∃ k, k ≤ 99 ∧ T r d = nI k) : ∀ n, n ≤ N 0 1 → ∃ k, k ≤ 99 * n ∧ itN (sStep T r m) n 0 = nI k := by
  intro n
  induction n with
  | zero => intro _; exact ⟨0, by omega, rfl⟩
  | succ n ih =>
    intro hn
    obtain ⟨k, hk, e⟩ := ih (by omega)
    obtain ⟨j, hj, ej⟩ := h n (by omega)
    rw [itN_s, e]
    unfold sStep
    split
    · rw [ej, nI_add]; exact ⟨k + j, by omega, rfl⟩
    · exact ⟨k, by omega, rfl⟩
theorem love_b (hI : TI N T L) (m : Int32) : ∃ k, k ≤ 1000 ∧ sumB N T 6 m = nI k := by
  have hnd := hI.2.1
  obtain ⟨k, hk, e⟩ := sumB_b (N := N) (T := T) (r := 6) (m := m) (fun d hd => by
    obtain ⟨j, hj, e⟩ := nI_of2 (M := 9) (n := 9) rfl (Int32.not_lt.mpr (hI.2.2.2.1 d hd).2.1) (hI.2.2.2.1 d hd).2.2.1
    exact ⟨j, by omega, e⟩) (N 0 1) (Nat.le_refl _)
  exact ⟨k, by omega, e⟩
theorem pw_t : ∀ n, n < 11 → (1 : Int32) <<< (nI n &&& 31) = nI (2 ^ n) := by decide +kernel
theorem pw_le : ∀ n, n < 11 → 2 ^ n ≤ 1024 := by decide
def mE (N : TN) (m : Int32) (s : Nat) : Int32 := nI s &&& hMask N m 1
def mW (N : TN) (m : Int32) (s : Nat) : Int32 := nI s &&& hMask N m 0
def okS (N : TN) (T : WS) (m : Int32) (k b : Int32) (s : Nat) : Prop :=
  nI s &&& m = nI s ∧ bc (mE N m s) = k ∧ bc (mW N m s) = k ∧ (if 0 ≤ sumB N T 7 (mE N m s) - sumB N T 7 (mW N m s) then sumB N T 7 (mE N m s) - sumB N T 7 (mW N m s) else -(sumB N T 7 (mE N m s) - sumB N T 7 (mW N m s))) ≤ b
theorem abs_32 (y : Int32) : f_J9_abs_0f7a4 y S = some (if 0 ≤ y then y else -y, S) := by
  unfold f_J9_abs_0f7a4
  by_cases h : 0 ≤ y
  · rw [if_pos h, if_pos h]
  · rw [if_neg h, if_neg h]
theorem mEW (hW : WI N W) (hnd : N 0 1 ≤ 10) (s : Nat) : mE N (W 0 3) s ||| mW N (W 0 3) s = nI s &&& W 0 3 := by
  apply bt_ext2
  intro e
  unfold mE mW
  rw [bt_or, Bool.or_eq_true, bt_and, Bool.and_eq_true, bt_and, Bool.and_eq_true, bt_and, Bool.and_eq_true, hMask_bt hnd, hMask_bt hnd]
  constructor
  · rintro (⟨a, b, -⟩ | ⟨a, b, -⟩)
    · exact ⟨a, b⟩
    · exact ⟨a, b⟩
  · rintro ⟨a, b⟩
    have := hW.2.2 e b
    by_cases o : ow N e = 1
    · exact Or.inr ⟨a, b, this, by omega⟩
    · exact Or.inl ⟨a, b, this, o⟩
theorem mE_C (hT : TC C N T L) (hI : TI N T L) (hW : WI N W) {s : Nat} (h : nI s &&& W 0 3 = nI s) : nI s &&& C.1 40 0 = mE N (W 0 3) s ∧ nI s &&& C.1 40 1 = mW N (W 0 3) s := by
  have hb : ∀ e, bt (nI s) e = true → bt (W 0 3) e = true := by
    intro e he
    rw [← h, bt_and, Bool.and_eq_true] at he
    exact he.2
  have how : ∀ e, ow N e < 2 := fun e => by unfold ow; omega
  constructor
  · apply bt_ext2
    intro e
    unfold mE
    rw [bt_and, Bool.and_eq_true, bt_and, Bool.and_eq_true, hMask_bt hI.2.1, hT.2.2.2.2.2.1 0 (by omega) e]
    have := how e
    constructor
    · rintro ⟨a, b, c⟩; exact ⟨a, hb e a, b, by omega⟩
    · rintro ⟨a, b, c, d⟩; exact ⟨a, c, by omega⟩
  · apply bt_ext2
    intro e
    unfold mW
    rw [bt_and, Bool.and_eq_true, bt_and, Bool.and_eq_true, hMask_bt hI.2.1, hT.2.2.2.2.2.1 1 (by omega) e]
    have := how e
    constructor
    · rintro ⟨a, b, c⟩; exact ⟨a, hb e a, b, by omega⟩
    · rintro ⟨a, b, c, d⟩; exact ⟨a, c, by omega⟩
theorem and_10 (hI : TI N T L) {x m : Int32} {c : Nat} : ∀ e, bt (x &&& hMask N m c) e = true → e < 10 := fun e h => by
  rw [bt_and, Bool.and_eq_true] at h
  exact hMask_10 hI e h.2
theorem can_C (hT : TC C N T L) (hI : TI N T L) (hR : RC 53 C N W nu cf) (hW : WI N W) (s : Nat) (k b : Int32) : ∃ z, f_X9_canBeExchanged (nI s) k b C = some (z, C) ∧ ((z = 1 ∧ okS N T (W 0 3) k b s) ∨ (z = 0 ∧ ¬ okS N T (W 0 3) k b s)) := by
  unfold f_X9_canBeExchanged okS
  rw [show rd C 40 2 (0 : Int32) = some (C.1 40 0) from rdN (j := 0) (by decide) (by decide), show rd C 40 2 (1 : Int32) = some (C.1 40 1) from rdN (j := 1) (by decide) (by decide), Option.bind_some, Option.bind_some, hR.2.1]
  by_cases q1 : nI s &&& W 0 3 = nI s
  · obtain ⟨e1, e2⟩ := mE_C hT hI hW q1
    rw [if_pos q1, e1, e2, bits_Cx (x := mE N (W 0 3) s) (and_10 hI), bnd_some]
    by_cases q2 : bc (mE N (W 0 3) s) = k
    · rw [if_pos q2, bits_Cx (x := mW N (W 0 3) s) (and_10 hI), bnd_some]
      by_cases q3 : bc (mW N (W 0 3) s) = k
      · rw [if_pos q3, sum7_C hT hI, bnd_some, sum7_C hT hI, bnd_some, abs_32, bnd_some]
        by_cases q4 : b < (if 0 ≤ sumB N T 7 (mE N (W 0 3) s) - sumB N T 7 (mW N (W 0 3) s) then sumB N T 7 (mE N (W 0 3) s) - sumB N T 7 (mW N (W 0 3) s) else -(sumB N T 7 (mE N (W 0 3) s) - sumB N T 7 (mW N (W 0 3) s)))
        · rw [if_pos q4]; exact ⟨0, rfl, Or.inr ⟨rfl, fun e => Int32.not_le.mpr q4 e.2.2.2⟩⟩
        · rw [if_neg q4]; exact ⟨1, rfl, Or.inl ⟨rfl, q1, q2, q3, Int32.not_lt.mp q4⟩⟩
      · rw [if_neg q3]; exact ⟨0, rfl, Or.inr ⟨rfl, fun e => q3 e.2.2.1⟩⟩
    · rw [if_neg q2]; exact ⟨0, rfl, Or.inr ⟨rfl, fun e => q2 e.2.1⟩⟩
  · rw [if_neg q1]; exact ⟨0, rfl, Or.inr ⟨rfl, fun e => q1 e.1⟩⟩
noncomputable def bStep (N : TN) (T : WS) (m : Int32) (k b : Int32) (s : Nat) (x : Option Nat) : Option Nat :=
  have : Decidable (okS N T m k b s) := Classical.propDecidable _
  if okS N T m k b s then (match x with
    | none => some s
    | some e => if sumB N T 6 (nI s) ≤ sumB N T 6 (nI e) then some e else some s) else x
theorem bStep_n {m k b : Int32} {s : Nat} {x : Option Nat} (h : ¬ okS N T m k b s) : bStep N T m k b s x = x := by
  unfold bStep; rw [if_neg h]
theorem bStep_0 {m k b : Int32} {s : Nat} (h : okS N T m k b s) : bStep N T m k b s none = some s := by
  unfold bStep; rw [if_pos h]
theorem bStep_1 {m k b : Int32} {s e : Nat} (h : okS N T m k b s) : bStep N T m k b s (some e) = if sumB N T 6 (nI s) ≤ sumB N T 6 (nI e) then some e else some s := by
  unfold bStep; rw [if_pos h]
def eS (N : TN) (T : WS) (z : Int32) (x : Option Nat) : Int32 := match x with
  | none => z
  | some e => sumB N T 6 (nI e)
theorem q_best (h : Cp C M) (v x y : Int32) : both C M (f_X9_best v x y C) (f_X10_best v x y M) := by
  unfold f_X10_best
  refine both_m h ?_
  intro N T L W nu M' hq
  unfold f_X9_best
  obtain ⟨-, -, ⟨hT, hM, hI⟩, ⟨hR, hR', ⟨hW, -⟩⟩, -⟩ := hq
  have hnd := hI.2.1
  by_cases a1 : v < 0
  · rw [if_pos a1, if_pos a1]; exact bq _ rfl rfl
  rw [if_neg a1, if_neg a1]
  by_cases a2 : 5 < v
  · rw [if_pos a2, if_pos a2]; exact bq _ rfl rfl
  rw [if_neg a2, if_neg a2]
  by_cases a3 : x < 0
  · rw [if_pos a3, if_pos a3]; exact bq _ rfl rfl
  rw [if_neg a3, if_neg a3]
  by_cases a4 : 999 < x
  · rw [if_pos a4, if_pos a4]; exact bq _ rfl rfl
  rw [if_neg a4, if_neg a4]
  by_cases a5 : y < 0
  · rw [if_pos a5, if_pos a5]; exact bq _ rfl rfl
  rw [if_neg a5, if_neg a5]
  by_cases a6 : y ≤ 1
  · rw [if_pos a6, if_pos a6]
    have hp := pw_t (N 0 1) (by omega)
    have hpl := pw_le (N 0 1) (by omega)
    refine ⟨if y = 0 then eD (itN (bStep N T (W 0 3) v x) (2 ^ N 0 1) none) else eS N T (-2) (itN (bStep N T (W 0 3) v x) (2 ^ N 0 1) none), ?_, ?_⟩
    · refine lp0 (fun fuel i (b : Option Nat) => f_X9_best_42 fuel v x y (eD b) (eS N T (-2) b) i C) (2 ^ N 0 1) (fun j b => b = itN (bStep N T (W 0 3) v x) j none) (by omega) none rfl ?_ ?_
      · rintro fuel b hb
        show wp (f_X9_best_42 (fuel + 1) v x y (eD b) (eS N T (-2) b) (nI (2 ^ N 0 1)) C) _
        unfold f_X9_best_42
        rw [hT.2.1, hp]
        refine wp_pos (Int32.le_refl _) ?_
        refine wp_if (fun q => wp_some ⟨by rw [if_pos q, hb], cQ_rf _⟩) (fun q => wp_some ⟨by rw [if_neg q, hb], cQ_rf _⟩)
      · rintro fuel s b hs hb ih
        try simp only at ih
        show wp (f_X9_best_42 (fuel + 1) v x y (eD b) (eS N T (-2) b) (nI s) C) _
        unfold f_X9_best_42
        rw [hT.2.1, hp]
        refine wp_neg (nI_ge hs (by omega)) ?_
        rw [itN_s, ← hb] at ih
        obtain ⟨z, ez, hz⟩ := can_C hT hI hR hW s v x
        refine wp_bnde ez ?_
        rcases hz with ⟨rfl, hok⟩ | ⟨rfl, hok⟩
        · refine wp_neg n10 ?_
          refine wp_bnde (sum6_C hT hI _) ?_
          cases b with
          | none =>
            rw [bStep_0 hok] at ih
            obtain ⟨k, hk, ek⟩ := love_b hI (nI s)
            refine wp_neg ?_ ?_
            · rw [ek]
              intro e
              have h0 : (0 : Int32) ≤ nI k := nI_pos' (by omega)
              exact absurd (Int32.le_trans h0 e) (by show ¬ (0 : Int32) ≤ -2; decide)
            · rw [nI_1]; exact ih (some s) rfl
          | some e =>
            rw [bStep_1 hok] at ih
            refine wp_if (fun q => ?_) (fun q => ?_)
            · have q : sumB N T 6 (nI s) ≤ sumB N T 6 (nI e) := q
              rw [nI_1]; exact ih (some e) (by rw [if_pos q])
            · have q : ¬ sumB N T 6 (nI s) ≤ sumB N T 6 (nI e) := q
              rw [nI_1]; exact ih (some s) (by rw [if_neg q])
        · rw [bStep_n hok] at ih
          refine wp_pos rfl ?_
          rw [nI_1]; exact ih b rfl
    · refine lp0 (fun fuel i (b : Option Nat) => f_X10_best_45 fuel v x y (eM b) (eS N T 0 b) i M') (2 ^ N 0 1) (fun j b => b = itN (bStep N T (W 0 3) v x) j none ∧ ∀ e, b = some e → e < j) (by omega) none ⟨rfl, fun e he => by cases he⟩ ?_ ?_
      · rintro fuel b ⟨hb, hlt⟩
        show wp (f_X10_best_45 (fuel + 1) v x y (eM b) (eS N T 0 b) (nI (2 ^ N 0 1)) M') _
        unfold f_X10_best_45
        refine wp_rd 1 rfl (by decide) hM.2.1 ?_
        rw [hp]
        refine wp_pos (Int32.le_refl _) ?_
        rw [← hb]
        cases b with
        | none =>
          refine wp_pos rfl (wp_some ⟨?_, mQ_rf _⟩)
          show (-2 : Int32) = if y = 0 then -2 else -2
          split <;> rfl
        | some e =>
          have := hlt e rfl
          refine wp_neg (nI_n1 (by omega)) ?_
          refine wp_if (fun q => wp_some ⟨by rw [if_pos q]; rfl, mQ_rf _⟩) (fun q => wp_some ⟨by rw [if_neg q]; rfl, mQ_rf _⟩)
      · rintro fuel s b hs ⟨hb, hlt⟩ ih
        try simp only at ih
        show wp (f_X10_best_45 (fuel + 1) v x y (eM b) (eS N T 0 b) (nI s) M') _
        unfold f_X10_best_45
        refine wp_rd 1 rfl (by decide) hM.2.1 ?_
        rw [hp]
        refine wp_neg (nI_ge hs (by omega)) ?_
        rw [itN_s, ← hb] at ih
        have e1 : f_X10_heldBy 1 M' = some (hMask N (W 0 3) 1, M') := heldBy_M (c := 1) hM hI hR' (by decide)
        have e0 : f_X10_heldBy 0 M' = some (hMask N (W 0 3) 0, M') := heldBy_M (c := 0) hM hI hR' (by decide)
        refine wp_bnde e1 ?_
        refine wp_bnde e0 ?_
        show wp (if mE N (W 0 3) s ||| mW N (W 0 3) s = nI s then _ else _) _
        rw [mEW hW hnd]
        have hno : ¬ okS N T (W 0 3) v x s → wp (f_X10_best_45 fuel v x y (eM b) (eS N T 0 b) (nI s + 1) M') (fun q => q.1 = (if y = 0 then eD (itN (bStep N T (W 0 3) v x) (2 ^ N 0 1) none) else eS N T (-2) (itN (bStep N T (W 0 3) v x) (2 ^ N 0 1) none)) ∧ mQ M' q.2) := by
          intro hok
          rw [bStep_n hok] at ih
          rw [nI_1]; exact ih b ⟨rfl, fun e he => by have := hlt e he; omega⟩
        refine wp_if (fun q1 => ?_) (fun q1 => hno (fun e => q1 e.1))
        refine wp_bnde (bits_M _) ?_
        refine wp_if (fun q2 => ?_) (fun q2 => hno (fun e => q2 e.2.1))
        refine wp_bnde (bits_M _) ?_
        refine wp_if (fun q3 => ?_) (fun q3 => hno (fun e => q3 e.2.2.1))
        refine wp_bnde (sum7_M hM hI _) ?_
        refine wp_bnde (sum7_M hM hI _) ?_
        refine wp_bnde (abs_32 _) ?_
        refine wp_if (fun q4 => ?_) (fun q4 => hno (fun e => q4 e.2.2.2))
        have hok : okS N T (W 0 3) v x s := ⟨q1, q2, q3, q4⟩
        refine wp_bnde (sum6_M hM hI _) ?_
        unfold f_X10_best_168
        cases b with
        | none =>
          rw [bStep_0 hok] at ih
          refine wp_pos rfl ?_
          rw [nI_1]; exact ih (some s) ⟨rfl, fun e he => by cases he; omega⟩
        | some e =>
          have := hlt e rfl
          rw [bStep_1 hok] at ih
          refine wp_neg (nI_n1 (by omega)) ?_
          refine wp_if (fun q => ?_) (fun q => ?_)
          · have q : ¬ sumB N T 6 (nI s) ≤ sumB N T 6 (nI e) := Int32.not_le.mpr q
            rw [nI_1]; exact ih (some s) ⟨by rw [if_neg q], fun e he => by cases he; omega⟩
          · have q : sumB N T 6 (nI s) ≤ sumB N T 6 (nI e) := Int32.not_lt.mp q
            rw [nI_1]; exact ih (some e) ⟨by rw [if_pos q], fun e' he => by cases he; omega⟩
  · rw [if_neg a6, if_neg a6]; exact bq _ rfl rfl
/-! enough -/
theorem bc_n : ∀ s, s < 1024 → bc (nI s) < 11 := by decide +kernel
def nStepE (N : TN) (T : WS) (a : Int32) (l : Int32) (s : Nat) (x : Option Nat) : Option Nat :=
  if nI s &&& a = nI s ∧ ¬ sumB N T 6 (nI s) < l then (match x with
    | none => some s
    | some e => if bc (nI e) ≤ bc (nI s) then some e else some s) else x
theorem e_n {a l : Int32} {s : Nat} {x : Option Nat} (h : ¬ (nI s &&& a = nI s ∧ ¬ sumB N T 6 (nI s) < l)) : nStepE N T a l s x = x := by
  unfold nStepE; rw [if_neg h]
theorem e_0 {a l : Int32} {s : Nat} (h : nI s &&& a = nI s ∧ ¬ sumB N T 6 (nI s) < l) : nStepE N T a l s none = some s := by
  unfold nStepE; rw [if_pos h]
theorem e_1 {a l : Int32} {s e : Nat} (h : nI s &&& a = nI s ∧ ¬ sumB N T 6 (nI s) < l) : nStepE N T a l s (some e) = if bc (nI e) ≤ bc (nI s) then some e else some s := by
  unfold nStepE; rw [if_pos h]
def eB (x : Option Nat) : Int32 := match x with
  | none => 11
  | some e => bc (nI e)
theorem itN_id {α : Type} {f : Nat → α → α} {a : α} {n : Nat} : ∀ m, (∀ i x, n ≤ i → i < n + m → f i x = x) → itN f (n + m) a = itN f n a := by
  intro m
  induction m with
  | zero => intro _; rfl
  | succ m ih =>
    intro h
    rw [show n + (m + 1) = (n + m) + 1 from rfl, itN_s, h _ _ (by omega) (by omega)]
    exact ih (fun i x h1 h2 => h i x h1 (by omega))
theorem sub_le {s a : Nat} (hs : s < 1024) (ha : a < 1024) (h : nI s &&& nI a = nI s) : s ≤ a := by
  have : ∀ e, s.testBit e = true → a.testBit e = true := by
    intro e he
    have h32 : e < 32 := by
      rcases Nat.lt_or_ge e 32 with q | q
      · exact q
      · have h1 := Nat.ge_two_pow_of_testBit he
        have h2 : 2 ^ 32 ≤ 2 ^ e := Nat.pow_le_pow_right (by omega) q
        omega
    have hb := congrArg (fun z => bt z e) h
    simp only [bt_and, bt_nI _ _ h32, he, Bool.true_and] at hb
    exact hb
  have hand : s &&& a = s := by
    apply Nat.eq_of_testBit_eq
    intro e
    rw [Nat.testBit_and]
    cases hq : s.testBit e with
    | false => rfl
    | true => rw [this e hq]; rfl
  rw [← hand]
  exact Nat.and_le_right
theorem and_not {x a : Int32} : x &&& (a ^^^ (-1)) = 0 ↔ x &&& a = x := by
  rw [bt_and0]
  constructor
  · intro h
    apply bt_ext
    intro d hd
    have := h d hd
    rw [bt_xor, bt_m1 hd] at this
    rw [bt_and]
    cases h1 : bt x d <;> cases h2 : bt a d <;> simp_all
  · intro h d hd e
    rw [← h, bt_and, bt_xor, bt_m1 hd] at e
    cases h2 : bt a d <;> simp_all
theorem q_enough (h : Cp C M) (v x : Int32) : both C M (f_X9_enough v x C) (f_X10_enough v x M) := by
  unfold f_X10_enough
  refine both_m h ?_
  intro N T L W nu M' hq
  unfold f_X9_enough
  obtain ⟨-, -, ⟨hT, hM, hI⟩, ⟨hR, hR', ⟨hW, -⟩⟩, -⟩ := hq
  have hnd := hI.2.1
  rcases ix_c v with ⟨c, hc, rfl⟩ | hv
  · rw [city_C1 hc, bnd_some, city_M1 hc, bnd_some, if_neg n10, if_neg n10]
    by_cases a1 : x < 0
    · rw [if_pos a1, if_pos a1]; exact bq _ rfl rfl
    rw [if_neg a1, if_neg a1]
    by_cases a2 : x ≤ 99
    · rw [if_pos a2, if_pos a2, holdsR_C hT hI hR hc, bnd_some, heldBy_M hM hI hR' hc, bnd_some]
      have hp := pw_t (N 0 1) (by omega)
      have hpl := pw_le (N 0 1) (by omega)
      obtain ⟨a, ha, ea⟩ := small_n (hMask_10 hI (m := W 0 3) (c := c))
      have hap : a < 2 ^ N 0 1 := by
        apply Nat.lt_pow_two_of_testBit
        intro i hi
        rw [← Bool.not_eq_true]
        intro ht
        have h32 : i < 32 := by
          rcases Nat.lt_or_ge i 32 with q | q
          · exact q
          · have h1 := Nat.ge_two_pow_of_testBit ht
            have h2 : 2 ^ 32 ≤ 2 ^ i := Nat.pow_le_pow_right (by omega) q
            omega
        rw [← bt_nI _ _ h32, ← ea, hMask_bt hnd] at ht
        omega
      rw [ea]
      have hid : itN (nStepE N T (nI a) x) (2 ^ N 0 1) none = itN (nStepE N T (nI a) x) (a + 1) none := by
        have := itN_id (f := nStepE N T (nI a) x) (a := none) (n := a + 1) (2 ^ N 0 1 - (a + 1)) (fun i y h1 h2 => e_n (fun e => by have := sub_le (s := i) (a := a) (by omega) ha e.1; omega))
        rw [← this]
        congr 1
        omega
      refine ⟨eD (itN (nStepE N T (nI a) x) (a + 1) none), ?_, ?_⟩
      · rw [← hid]
        refine lp0 (fun fuel i (b : Option Nat) => f_X9_enough_39 fuel x (nI a) (eD b) (eB b) i C) (2 ^ N 0 1) (fun j b => b = itN (nStepE N T (nI a) x) j none) (by omega) none rfl ?_ ?_
        · rintro fuel b hb
          show wp (f_X9_enough_39 (fuel + 1) x (nI a) (eD b) (eB b) (nI (2 ^ N 0 1)) C) _
          unfold f_X9_enough_39
          rw [hT.2.1, hp]
          exact wp_pos (Int32.le_refl _) (wp_some ⟨by rw [hb], cQ_rf _⟩)
        · rintro fuel s b hs hb ih
          try simp only at ih
          show wp (f_X9_enough_39 (fuel + 1) x (nI a) (eD b) (eB b) (nI s) C) _
          unfold f_X9_enough_39
          rw [hT.2.1, hp]
          refine wp_neg (nI_ge hs (by omega)) ?_
          rw [itN_s, ← hb] at ih
          refine wp_if (fun q1 => ?_) (fun q1 => ?_)
          · refine wp_bnde (bits_C (by omega)) ?_
            refine wp_if (fun q2 => ?_) (fun q2 => ?_)
            · rw [nI_1]
              refine ih b ?_
              cases b with
              | none =>
                have := bc_n s (by omega)
                exact absurd this (Int32.not_lt.mpr q2)
              | some e =>
                by_cases q3 : sumB N T 6 (nI s) < x
                · rw [e_n (fun e => e.2 q3)]
                · rw [e_1 ⟨q1, q3⟩, if_pos (show bc (nI e) ≤ bc (nI s) from q2)]
            · refine wp_bnde (sum6_C hT hI _) ?_
              refine wp_if (fun q3 => ?_) (fun q3 => ?_)
              · rw [nI_1]; exact ih b (by rw [e_n (fun e => e.2 q3)])
              · refine wp_bnde (bits_C (by omega)) ?_
                rw [nI_1]
                refine ih (some s) ?_
                cases b with
                | none => rw [e_0 ⟨q1, q3⟩]
                | some e => rw [e_1 ⟨q1, q3⟩, if_neg (show ¬ bc (nI e) ≤ bc (nI s) from q2)]
          · rw [nI_1]; exact ih b (by rw [e_n (fun e => q1 e.1)])
      · refine lp0 (fun fuel i (b : Option Nat) => f_X10_enough_37 fuel x (nI a) (eD b) i M') (a + 1) (fun j b => b = itN (nStepE N T (nI a) x) j none ∧ ∀ e, b = some e → e < 1024) (by omega) none ⟨rfl, fun e he => by cases he⟩ ?_ ?_
        · rintro fuel b ⟨hb, -⟩
          show wp (f_X10_enough_37 (fuel + 1) x (nI a) (eD b) (nI (a + 1)) M') _
          unfold f_X10_enough_37
          exact wp_pos (nI_lt (by omega) (by omega)) (wp_some ⟨by rw [hb], mQ_rf _⟩)
        · rintro fuel s b hs ⟨hb, hlt⟩ ih
          try simp only at ih
          show wp (f_X10_enough_37 (fuel + 1) x (nI a) (eD b) (nI s) M') _
          unfold f_X10_enough_37
          refine wp_neg (nI_nlt (by omega) (by omega)) ?_
          rw [itN_s, ← hb] at ih
          refine wp_if (fun q1 => ?_) (fun q1 => ?_)
          · rw [and_not] at q1
            refine wp_bnde (sum6_M hM hI _) ?_
            refine wp_if (fun q3 => ?_) (fun q3 => ?_)
            · have q3 := Int32.not_lt.mpr q3
              cases b with
              | none =>
                refine wp_pos rfl ?_
                rw [nI_1]; exact ih (some s) ⟨by rw [e_0 ⟨q1, q3⟩], fun e he => by cases he; omega⟩
              | some e =>
                have := hlt e rfl
                refine wp_neg (nI_n2 (by omega)) ?_
                refine wp_bnde (bits_M _) ?_
                refine wp_bnde (bits_M _) ?_
                refine wp_if (fun q2 => ?_) (fun q2 => ?_)
                · have q2 : bc (nI e) ≤ bc (nI s) := q2
                  rw [nI_1]; exact ih (some e) ⟨by rw [e_1 ⟨q1, q3⟩, if_pos q2], hlt⟩
                · have q2 : ¬ bc (nI e) ≤ bc (nI s) := q2
                  rw [nI_1]; exact ih (some s) ⟨by rw [e_1 ⟨q1, q3⟩, if_neg q2], fun e he => by cases he; omega⟩
            · rw [nI_1]; exact ih b ⟨by rw [e_n (fun e => e.2 (Int32.not_le.mp q3))], hlt⟩
          · rw [and_not] at q1
            rw [nI_1]; exact ih b ⟨by rw [e_n (fun e => q1 e.1)], hlt⟩
    · rw [if_neg a2, if_neg a2]; exact bq _ rfl rfl
  · rw [city_C0 hv, bnd_some, city_M0 hv, bnd_some]
    exact bq _ rfl rfl
end BST
