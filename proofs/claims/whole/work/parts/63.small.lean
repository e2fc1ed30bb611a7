/-! PURE 14: small pieces of both -/
section SML
variable {w t : Nat} {C M S : Mem} {N : TN} {T : WS} {L : LWS} {W : WS} {nu : Nat → Nat} {cf : Nat → Int32}
theorem ix_c (v : Int32) : (∃ c, c < 2 ∧ v = nI c) ∨ (v ≠ 0 ∧ v ≠ 1) := by
  by_cases h0 : v = 0
  · exact Or.inl ⟨0, by omega, h0⟩
  · by_cases h1 : v = 1
    · exact Or.inl ⟨1, by omega, h1⟩
    · exact Or.inr ⟨h0, h1⟩
theorem ix_d (v : Int32) {n : Nat} (hn : n ≤ 1000) : (∃ d, d < n ∧ v = nI d) ∨ (v < 0 ∨ nI n ≤ v) := by
  rcases pk_ix v (n := n) (by omega) with h | h | h
  · exact Or.inr (Or.inl h)
  · exact Or.inr (Or.inr h)
  · exact Or.inl h
theorem city_C1 {c : Nat} (hc : c < 2) : f_X9_isCity (nI c) S = some (1, S) := by
  unfold f_X9_isCity
  rcases (by omega : c = 0 ∨ c = 1) with rfl | rfl
  · rw [if_pos (by decide)]
  · rw [if_neg (by decide), if_pos (by decide)]
theorem city_C0 {v : Int32} (h : v ≠ 0 ∧ v ≠ 1) : f_X9_isCity v S = some (0, S) := by
  unfold f_X9_isCity
  rw [if_neg h.1, if_neg h.2]
theorem city_M1 {c : Nat} (hc : c < 2) : f_X10_isCity (nI c) S = some (1, S) := by
  unfold f_X10_isCity
  rcases (by omega : c = 0 ∨ c = 1) with rfl | rfl
  · rw [if_pos (by decide)]
  · rw [if_neg (by decide), if_pos (by decide)]
theorem city_M0 {v : Int32} (h : v ≠ 0 ∧ v ≠ 1) : f_X10_isCity v S = some (0, S) := by
  unfold f_X10_isCity
  rw [if_neg h.1, if_neg h.2]
theorem doll_C1 (hT : TC C N T L) (hI : TI N T L) {d : Nat} (hd : d < N 0 1) : f_X9_isDoll (nI d) C = some (1, C) := by
  have := hI.2.1
  unfold f_X9_isDoll
  rw [if_neg (nI_pos (by omega)), hT.2.1, if_neg (nI_ge hd (by omega))]
theorem doll_C0 (hT : TC C N T L) {v : Int32} (h : v < 0 ∨ nI (N 0 1) ≤ v) : f_X9_isDoll v C = some (0, C) := by
  unfold f_X9_isDoll
  by_cases q : v < 0
  · rw [if_pos q]
  · rw [if_neg q, hT.2.1, if_pos (h.resolve_left q)]
theorem doll_M1 (hT : TM M N T L) (hI : TI N T L) {d : Nat} (hd : d < N 0 1) : f_X10_isDoll (nI d) M = some (1, M) := by
  have := hI.2.1
  unfold f_X10_isDoll
  rw [if_neg (nI_pos (by omega)), show rd M 2 14 (1 : Int32) = some (M.1 2 1) from rdN (j := 1) (by decide) (by decide), Option.bind_some, hT.2.1, if_neg (nI_ge hd (by omega))]
theorem doll_M0 (hT : TM M N T L) {v : Int32} (h : v < 0 ∨ nI (N 0 1) ≤ v) : f_X10_isDoll v M = some (0, M) := by
  unfold f_X10_isDoll
  by_cases q : v < 0
  · rw [if_pos q]
  · rw [if_neg q, show rd M 2 14 (1 : Int32) = some (M.1 2 1) from rdN (j := 1) (by decide) (by decide), Option.bind_some, hT.2.1, if_pos (h.resolve_left q)]
theorem nurse_C1 (hT : TC C N T L) (hI : TI N T L) {d : Nat} (hd : d < N 0 0) : f_X9_isNurse (nI d) C = some (1, C) := by
  have := hI.1
  unfold f_X9_isNurse
  rw [if_neg (nI_pos (by omega)), hT.1, if_neg (nI_ge hd (by omega))]
theorem nurse_C0 (hT : TC C N T L) {v : Int32} (h : v < 0 ∨ nI (N 0 0) ≤ v) : f_X9_isNurse v C = some (0, C) := by
  unfold f_X9_isNurse
  by_cases q : v < 0
  · rw [if_pos q]
  · rw [if_neg q, hT.1, if_pos (h.resolve_left q)]
theorem nurse_M1 (hT : TM M N T L) (hI : TI N T L) {d : Nat} (hd : d < N 0 0) : f_X10_isNurse (nI d) M = some (1, M) := by
  have := hI.1
  unfold f_X10_isNurse
  rw [if_neg (nI_pos (by omega)), show rd M 2 14 (0 : Int32) = some (M.1 2 0) from rdN (j := 0) (by decide) (by decide), Option.bind_some, hT.1, if_neg (nI_ge hd (by omega))]
theorem nurse_M0 (hT : TM M N T L) {v : Int32} (h : v < 0 ∨ nI (N 0 0) ≤ v) : f_X10_isNurse v M = some (0, M) := by
  unfold f_X10_isNurse
  by_cases q : v < 0
  · rw [if_pos q]
  · rw [if_neg q, show rd M 2 14 (0 : Int32) = some (M.1 2 0) from rdN (j := 0) (by decide) (by decide), Option.bind_some, hT.1, if_pos (h.resolve_left q)]
def b01 (b : Bool) : Int32 := if b = true then 1 else 0
theorem heldR_C (h : RC w C N W nu cf) {d : Nat} (hd : d < 32) : f_X8_isHeld w (nI d) C = some (b01 (bt (W 0 3) d), C) := by
  unfold f_X8_isHeld b01
  rw [h.2.1]
  by_cases c : bt (W 0 3) d = true
  · rw [if_pos ((bt_test hd).mpr c), if_pos c]
  · rw [if_neg (fun q => c ((bt_test hd).mp q)), if_neg c]
theorem heldD_C (hT : TC C N T L) (hI : TI N T L) (h : RC 53 C N W nu cf) {d : Nat} (hd : d < N 0 1) : f_X9_isHeldDoll (nI d) C = some (b01 (bt (W 0 3) d), C) := by
  have := hI.2.1
  unfold f_X9_isHeldDoll
  rw [doll_C1 hT hI hd, bnd_some, if_neg (by decide), heldR_C h (by omega), bnd_some]
  unfold b01
  by_cases c : bt (W 0 3) d = true
  · rw [if_pos c, if_neg (by decide)]
  · rw [if_neg c, if_pos rfl]
theorem heldD_C0 (hT : TC C N T L) {v : Int32} (h : v < 0 ∨ nI (N 0 1) ≤ v) : f_X9_isHeldDoll v C = some (0, C) := by
  unfold f_X9_isHeldDoll
  rw [doll_C0 hT h, bnd_some, if_pos rfl]
theorem RM0 (h : RM 0 M N W nu) : M.1 16 0 = W 0 0 ∧ M.1 17 0 = W 0 1 ∧ M.1 18 0 = W 0 2 ∧ (∀ d, d < N 0 1 → M.1 21 d = nI (nu d) ∧ M.1 22 d = W 2 d ∧ M.1 23 d = W 3 d ∧ M.1 24 d = b01 (bt (W 0 3) d)) ∧ (∀ c, c < 2 → M.1 19 c = W 5 c ∧ M.1 20 c = W 6 c) := by
  obtain ⟨h0, h1, h2, h3, h4⟩ := h
  refine ⟨h0, h1, h2, fun d hd => ?_, fun c hc => ?_⟩
  · have := h3 d hd
    simpa [b01] using this
  · have := h4 c hc
    simpa using this
theorem heldR_M (h : RM t M N W nu) (ht : t < 23) (hnd : N 0 1 ≤ 10) {d : Nat} (hd : d < N 0 1) : f_X10_isHeld (nI t) (nI d) M = some (b01 (bt (W 0 3) d), M) := by
  unfold f_X10_isHeld b01
  rw [ix10, rdN (by omega) (by decide), Option.bind_some, (h.2.2.2.1 d hd).2.2.2]
  by_cases c : bt (W 0 3) d = true
  · rw [if_pos c, if_pos rfl]
  · rw [if_neg c, if_neg (by decide)]
theorem holdsR_M (hT : TM M N T L) (hI : TI N T L) (h : RM t M N W nu) (ht : t < 23) {d c : Nat} (hd : d < N 0 1) (hc : c < 2) : f_X10_holds (nI t) (nI c) (nI d) M = some (if bt (W 0 3) d = true ∧ ow N d ≠ c then 1 else 0, M) := by
  have how : ow N d < 2 := by unfold ow; omega
  unfold f_X10_holds
  rw [heldR_M h ht hI.2.1 hd]
  unfold b01
  by_cases c1 : bt (W 0 3) d = true
  · rw [if_pos c1]
    rw [bnd_some, if_neg (by decide), owner_M hT hI hd, bnd_some]
    by_cases c2 : ow N d = c
    · rw [if_pos (by rw [c2]), if_neg (fun e => e.2 c2)]
    · rw [if_neg (fun e => c2 ((nI_eq (by omega) (by omega)).mp e)), if_pos ⟨c1, c2⟩]
  · rw [if_neg c1, if_neg (fun e => c1 e.1)]
    rfl
/-! masks -/
def hStep (N : TN) (m : Int32) (c d : Nat) (x : Int32) : Int32 := if bt m d = true ∧ ow N d ≠ c then x ||| (1 <<< (nI d &&& 31)) else x
def hMask (N : TN) (m : Int32) (c : Nat) : Int32 := itN (hStep N m c) (N 0 1) 0
theorem hM_bt {m : Int32} {c : Nat} : ∀ n, n ≤ 31 → ∀ e, bt (itN (hStep N m c) n 0) e = true ↔ e < n ∧ bt m e = true ∧ ow N e ≠ c := by
  intro n
  induction n with
  | zero => intro _ e; rw [itN_0, bt_z]; simp
  | succ n ih =>
    intro hn e
    have ih := ih (by omega) e
    rw [itN_s]
    unfold hStep at *
    by_cases q : bt m n = true ∧ ow N n ≠ c
    · rw [if_pos q, bt_or, Bool.or_eq_true, bt_shl (by omega), ih]
      constructor
      · rintro (⟨a, b⟩ | a)
        · exact ⟨by omega, b⟩
        · have : e = n := of_decide_eq_true a
          subst this
          exact ⟨by omega, q⟩
      · rintro ⟨a, b⟩
        by_cases he : e = n
        · exact Or.inr (decide_eq_true he)
        · exact Or.inl ⟨by omega, b⟩
    · rw [if_neg q, ih]
      constructor
      · rintro ⟨a, b⟩; exact ⟨by omega, b⟩
      · rintro ⟨a, b⟩
        refine ⟨?_, b⟩
        rcases Nat.lt_or_ge e n with h | h
        · exact h
        · have : e = n := by omega
          subst this
          exact absurd b q
theorem hMask_bt (hnd : N 0 1 ≤ 10) {m : Int32} {c : Nat} (e : Nat) : bt (hMask N m c) e = true ↔ bt m e = true ∧ e < N 0 1 ∧ ow N e ≠ c := by
  unfold hMask
  rw [hM_bt _ (by omega)]
  exact ⟨fun h => ⟨h.2.1, h.1, h.2.2⟩, fun h => ⟨h.2.1, h.1, h.2.2⟩⟩
theorem bt_ext2 {x y : Int32} (h : ∀ d, bt x d = true ↔ bt y d = true) : x = y := bt_ext (fun d _ => by
  have := h d
  cases h1 : bt x d <;> cases h2 : bt y d <;> simp_all)
theorem heldBy_M (hT : TM M N T L) (hI : TI N T L) (h : RM 0 M N W nu) {c : Nat} (hc : c < 2) : f_X10_heldBy (nI c) M = some (hMask N (W 0 3) c, M) := by
  have hnd := hI.2.1
  unfold f_X10_heldBy
  suffices hh : wp (f_X10_heldBy_4 FU (nI c) 0 0 M) (fun q => q = (hMask N (W 0 3) c, M)) by
    obtain ⟨y, hy, rfl⟩ := hh
    exact hy
  refine lp0 (fun fuel i (x : Int32) => f_X10_heldBy_4 fuel (nI c) x i M) (N 0 1) (fun j x => x = itN (hStep N (W 0 3) c) j 0) (by omega) 0 rfl ?_ ?_
  · rintro fuel x hx
    show wp (f_X10_heldBy_4 (fuel + 1) (nI c) x (nI (N 0 1)) M) _
    unfold f_X10_heldBy_4
    refine wp_rd 1 rfl (by decide) hT.2.1 ?_
    exact wp_pos (Int32.le_refl _) (wp_some (by rw [hx]; rfl))
  · rintro fuel j x hj hx ih
    try simp only at ih
    show wp (f_X10_heldBy_4 (fuel + 1) (nI c) x (nI j) M) _
    unfold f_X10_heldBy_4
    refine wp_rd 1 rfl (by decide) hT.2.1 ?_
    refine wp_neg (nI_ge hj (by omega)) ?_
    refine wp_bnde (holdsR_M (t := 0) hT hI h (by omega) hj hc) ?_
    rw [itN_s, ← hx] at ih
    unfold hStep at ih
    by_cases q : bt (W 0 3) j = true ∧ ow N j ≠ c
    · rw [if_pos q]
      rw [if_pos q] at ih
      refine wp_neg (by decide) ?_
      rw [nI_1]
      exact ih _ rfl
    · rw [if_neg q]
      rw [if_neg q] at ih
      refine wp_pos rfl ?_
      rw [nI_1]
      exact ih _ (by rw [Int32.or_zero])
theorem holdsR_C (hT : TC C N T L) (hI : TI N T L) (h : RC 53 C N W nu cf) {c : Nat} (hc : c < 2) : f_X8_holds 53 (nI c) C = some (hMask N (W 0 3) c, C) := by
  unfold f_X8_holds
  rw [sub1 hc, rdN (by omega) (by decide), Option.bind_some, h.2.1]
  have : W 0 3 &&& C.1 40 (1 - c) = hMask N (W 0 3) c := by
    apply bt_ext2
    intro e
    have how : ow N e < 2 := by unfold ow; omega
    rw [hMask_bt hI.2.1, bt_and, Bool.and_eq_true, hT.2.2.2.2.2.1 (1 - c) (by omega) e]
    constructor
    · rintro ⟨a, b, d⟩; exact ⟨a, b, by omega⟩
    · rintro ⟨a, b, d⟩; exact ⟨a, b, by omega⟩
  rw [this]
theorem ownR_C (hT : TC C N T L) (hI : TI N T L) (h : RC 53 C N W nu cf) {c : Nat} (hc : c < 2) : f_X8_ownHeld 53 (nI c) C = some (hMask N (W 0 3) (1 - c), C) := by
  unfold f_X8_ownHeld
  rw [rdN (by omega) (by decide), Option.bind_some, h.2.1]
  have : W 0 3 &&& C.1 40 c = hMask N (W 0 3) (1 - c) := by
    apply bt_ext2
    intro e
    have how : ow N e < 2 := by unfold ow; omega
    rw [hMask_bt hI.2.1, bt_and, Bool.and_eq_true, hT.2.2.2.2.2.1 c (by omega) e]
    constructor
    · rintro ⟨a, b, d⟩; exact ⟨a, b, by omega⟩
    · rintro ⟨a, b, d⟩; exact ⟨a, b, by omega⟩
  rw [this]
def sStep (T : WS) (r : Nat) (m : Int32) (d : Nat) (s : Int32) : Int32 := if bt m d = true then s + T r d else s
def sumB (N : TN) (T : WS) (r : Nat) (m : Int32) : Int32 := itN (sStep T r m) (N 0 1) 0
theorem sum_C (hT : TC C N T L) (hnd : N 0 1 ≤ 10) {k r : Nat} (hr : ∀ d, d < N 0 1 → C.1 k d = T r d) (m : Int32) : f_X7_sumOf 31 k 10 m C = some (sumB N T r m, C) := by
  unfold f_X7_sumOf
  suffices hh : wp (f_X7_sumOf_5 31 k 10 FU m 0 0 C) (fun q => q = (sumB N T r m, C)) by
    obtain ⟨y, hy, rfl⟩ := hh
    exact hy
  refine lp0 (fun fuel i (x : Int32) => f_X7_sumOf_5 31 k 10 fuel m x i C) (N 0 1) (fun j x => x = itN (sStep T r m) j 0) (by omega) 0 rfl ?_ ?_
  · rintro fuel x hx
    show wp (f_X7_sumOf_5 31 k 10 (fuel + 1) m x (nI (N 0 1)) C) _
    unfold f_X7_sumOf_5
    rw [hT.2.1]
    exact wp_pos (Int32.le_refl _) (wp_some (by rw [hx]; rfl))
  · rintro fuel j x hj hx ih
    try simp only at ih
    show wp (f_X7_sumOf_5 31 k 10 (fuel + 1) m x (nI j) C) _
    unfold f_X7_sumOf_5
    rw [hT.2.1]
    refine wp_neg (nI_ge hj (by omega)) ?_
    rw [itN_s, ← hx] at ih
    unfold sStep at ih
    refine wp_if (fun q => ?_) (fun q => ?_)
    · have q := (bt_test (by omega)).mp q
      refine wp_rd j rfl (by omega) (hr j hj) ?_
      rw [nI_1]
      exact ih _ (by rw [if_pos q])
    · have q : ¬ bt m j = true := fun e => q ((bt_test (by omega)).mpr e)
      rw [nI_1]
      exact ih _ (by rw [if_neg q])
theorem sum_M (hT : TM M N T L) (hnd : N 0 1 ≤ 10) {k r : Nat} (hr : ∀ d, d < N 0 1 → M.1 k d = T r d) (m : Int32) : f_X10_sumOf k 20 m M = some (sumB N T r m, M) := by
  unfold f_X10_sumOf
  suffices hh : wp (f_X10_sumOf_5 k 20 FU m 0 0 M) (fun q => q = (sumB N T r m, M)) by
    obtain ⟨y, hy, rfl⟩ := hh
    exact hy
  refine lp0 (fun fuel i (x : Int32) => f_X10_sumOf_5 k 20 fuel m x i M) (N 0 1) (fun j x => x = itN (sStep T r m) j 0) (by omega) 0 rfl ?_ ?_
  · rintro fuel x hx
    show wp (f_X10_sumOf_5 k 20 (fuel + 1) m x (nI (N 0 1)) M) _
    unfold f_X10_sumOf_5
    refine wp_rd 1 rfl (by decide) hT.2.1 ?_
    exact wp_pos (Int32.le_refl _) (wp_some (by rw [hx]; rfl))
  · rintro fuel j x hj hx ih
    try simp only at ih
    show wp (f_X10_sumOf_5 k 20 (fuel + 1) m x (nI j) M) _
    unfold f_X10_sumOf_5
    refine wp_rd 1 rfl (by decide) hT.2.1 ?_
    refine wp_neg (nI_ge hj (by omega)) ?_
    rw [itN_s, ← hx] at ih
    unfold sStep at ih
    refine wp_if (fun q => ?_) (fun q => ?_)
    · have q := (bt_test (by omega)).mp q
      refine wp_rd j rfl (by omega) (hr j hj) ?_
      rw [nI_1]
      exact ih _ (by rw [if_pos q])
    · have q : ¬ bt m j = true := fun e => q ((bt_test (by omega)).mpr e)
      rw [nI_1]
      exact ih _ (by rw [if_neg q, Int32.add_zero])
theorem sum6_C (hT : TC C N T L) (hI : TI N T L) (m : Int32) : f_X7_sumOf 31 38 10 m C = some (sumB N T 6 m, C) := sum_C hT hI.2.1 (fun d hd => (hT.2.2.2.2.1 d hd).2.2.2.1) m
theorem sum7_C (hT : TC C N T L) (hI : TI N T L) (m : Int32) : f_X7_sumOf 31 39 10 m C = some (sumB N T 7 m, C) := sum_C hT hI.2.1 (fun d hd => (hT.2.2.2.2.1 d hd).2.2.2.2) m
theorem sum6_M (hT : TM M N T L) (hI : TI N T L) (m : Int32) : f_X10_sumOf 8 20 m M = some (sumB N T 6 m, M) := sum_M hT hI.2.1 (fun d hd => (hT.2.2.2.2.1 d hd).2.2.1) m
theorem sum7_M (hT : TM M N T L) (hI : TI N T L) (m : Int32) : f_X10_sumOf 9 20 m M = some (sumB N T 7 m, M) := sum_M hT hI.2.1 (fun d hd => (hT.2.2.2.2.1 d hd).2.2.2) m
/-! how many bits -/
def bc (x : Int32) : Int32 := itN (fun d s => s + ((x >>> (nI d &&& 31)) &&& 1)) 10 0
theorem bits_M (x : Int32) : f_X10_bitsOf x S = some (bc x, S) := by
  unfold f_X10_bitsOf
  suffices hh : wp (f_X10_bitsOf_4 FU x 0 0 S) (fun q => q = (bc x, S)) by
    obtain ⟨y, hy, rfl⟩ := hh
    exact hy
  refine lp0 (fun fuel i (s : Int32) => f_X10_bitsOf_4 fuel x s i S) 10 (fun j s => s = itN (fun d s => s + ((x >>> (nI d &&& 31)) &&& 1)) j 0) (by omega) 0 rfl ?_ ?_
  · rintro fuel s hs
    exact wp_pos (by decide) (wp_some (by rw [hs]; rfl))
  · rintro fuel j s hj hs ih
    try simp only at ih
    show wp (f_X10_bitsOf_4 (fuel + 1) x s (nI j) S) _
    unfold f_X10_bitsOf_4
    refine wp_neg (nI_ge (b := 10) hj (by omega)) ?_
    rw [nI_1]
    exact ih _ (by rw [itN_s, ← hs])
theorem bc_tab : ∀ s, s < 1024 → (f_J6_bitCount_0f7a4 (nI s) ((fun _ _ => 0), (fun _ _ => 0))).map (fun q => q.1) = some (bc (nI s)) := by decide +kernel
theorem bits_C {s : Nat} (hs : s < 1024) : f_J6_bitCount_0f7a4 (nI s) S = some (bc (nI s), S) := by
  have h := bc_tab s hs
  unfold f_J6_bitCount_0f7a4 at h ⊢
  rw [Option.map_some] at h
  exact congrArg (fun v => some (v, S)) (Option.some.inj h)
theorem small_n {x : Int32} (h : ∀ e, bt x e = true → e < 10) : ∃ s, s < 1024 ∧ x = nI s := by
  refine ⟨x.toBitVec.toNat % 1024, Nat.mod_lt _ (by decide), ?_⟩
  apply bt_ext
  intro d hd
  rw [bt_nI _ _ hd, show (1024 : Nat) = 2 ^ 10 from rfl, Nat.testBit_mod_two_pow]
  show bt x d = (decide (d < 10) && x.toBitVec.toNat.testBit d)
  have hb : x.toBitVec.toNat.testBit d = bt x d := rfl
  rw [hb]
  by_cases q : bt x d = true
  · rw [q, decide_eq_true (h d q)]; rfl
  · rw [Bool.not_eq_true] at q
    rw [q, Bool.and_false]
theorem bits_Cx {x : Int32} (h : ∀ e, bt x e = true → e < 10) : f_J6_bitCount_0f7a4 x S = some (bc x, S) := by
  obtain ⟨s, hs, rfl⟩ := small_n h
  exact bits_C hs
theorem hMask_10 (hI : TI N T L) {m : Int32} {c : Nat} : ∀ e, bt (hMask N m c) e = true → e < 10 := fun e h => by
  have := hI.2.1
  have := ((hMask_bt hI.2.1 e).mp h).2.1
  omega
/-! laws of a world at rest -/
theorem nmD_hm {cv x : Int32} {d : Nat} : nmD N T (wu W 0 4 x) cv d = nmD N T W cv d := by
  funext i
  simp [nmD, wu1]
theorem nmC_hm {x : Int32} {c : Nat} : nmC (wu W 0 4 x) c = nmC W c := by
  funext i
  simp [nmC, wu1]
theorem odds_hm {cv x : Int32} {d : Nat} : sOdds N T L (wu W 0 4 x) cv d = sOdds N T L W cv d := by
  unfold sOdds
  rw [nmD_hm]
theorem oddsR_C (hT : TC C N T L) (hI : TI N T L) (h : RC 53 C N W nu cf) (hn : nuI N nu) {d : Nat} (hd : d < N 0 1) (cv : Int32) :
    wp (f_X8_oddsFor 53 (nI d) cv C) (fun q => q.1 = sOdds N T L W cv d ∧ frN 53 C q.2) := by
  have := odds_C (w := 53) (Or.inl rfl) hT hI (WC_of h hn hI) hd cv
  rw [odds_hm] at this
  exact this
theorem lawR_C (hT : TC C N T L) (hI : TI N T L) (h : RC 53 C N W nu cf) (hn : nuI N nu) {k d : Nat} (hk : k < 3) (hd : d < N 0 1) (cv : Int32) :
    wp (f_X8_dollLaw 53 (nI k) (nI d) cv C) (fun q => q.1 = er (lawV (L k) (nmD N T W cv d)) ∧ frN 53 C q.2) := by
  have := dollLaw_C (w := 53) (Or.inl rfl) hT hI (WC_of h hn hI) hk hd cv
  rw [nmD_hm] at this
  exact this
theorem calmR_C (hT : TC C N T L) (hI : TI N T L) (h : RC 53 C N W nu cf) (hn : nuI N nu) {c : Nat} (hc : c < 2) :
    wp (f_X8_calmLaw 53 (nI c) C) (fun q => q.1 = er (lawV (L 2) (nmC W c)) ∧ frN 53 C q.2) := by
  have := calm_C (w := 53) (Or.inl rfl) hT hI (WC_of h hn hI) hc
  rw [nmC_hm] at this
  exact this
theorem careR_C (h : RC w C N W nu cf) (hn : nuI N nu) (hI : TI N T L) {d : Nat} (hd : d < N 0 1) : f_X8_careFor w (nI d) C = some (cf (nu d), C) :=
  care_C (WC_of h hn hI) hI.2.1 hd
theorem cin0 (hT : TM M N T L) (h43 : M.1 0 43 = 0) (h44 : M.1 0 44 = -1) {j : Nat} (hj : j < N 0 0) (hI : TI N T L) : cin M j = caN N j := by
  have := hI.1
  unfold cin
  rw [h43, h44, if_neg (by decide), if_neg (nI_n1 (by omega)), (hT.2.2.2.1 j hj).2.2]
  rfl
theorem mothsR_M (hT : TM M N T L) (hI : TI N T L) (h : RM 0 M N W nu) (hn : nuI N nu) (h43 : M.1 0 43 = 0) (h44 : M.1 0 44 = -1) {d j : Nat} (hd : d < N 0 1) (hj : j < N 0 0) :
    wp (f_X10_mothsBy 0 (nI d) (nI j) M) (fun q => q.1 = sOdds N T L W (caN N j) d ∧ frS M q.2) := by
  have hnn := hI.1
  have := mothsBy_M (t := 0) (j := j) hT hI (WM_of h hn hI (cf := caN N) (fun i hi => cin0 hT h43 h44 hi hI)) (by omega) hd (by omega)
  rw [odds_hm, cin0 hT h43 h44 hj hI] at this
  exact this
end SML
