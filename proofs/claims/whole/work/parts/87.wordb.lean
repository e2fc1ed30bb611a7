/-! PURE 38: the text: the words known, by both -/
section WRB
variable {C M S : Mem} {b b' : Nat → Nat} {n p q p' q' : Nat}
def dgW (b : Nat → Nat) (p q k : Nat) : Nat := if p + k < q then b (p + k) - 96 else 0
theorem dg_lt (hl : ∀ i, p ≤ i → i < q → isLt (b i) = true) (k : Nat) : dgW b p q k < 32 := by
  unfold dgW
  by_cases h : p + k < q
  · rw [if_pos h]; have := ltr (hl (p + k) (by omega) h); omega
  · rw [if_neg h]; omega
theorem cd_inj (hl : ∀ i, p ≤ i → i < q → isLt (b i) = true) (hl' : ∀ i, p' ≤ i → i < q' → isLt (b' i) = true) : ∀ m, cdW b p q m = cdW b' p' q' m → ∀ k, k < m → dgW b p q k = dgW b' p' q' k := by
  intro m
  induction m with
  | zero => intro _ k hk; exact absurd hk (Nat.not_lt_zero k)
  | succ m ih =>
    intro h k hk
    have h : cdW b p q m * 32 + dgW b p q m = cdW b' p' q' m * 32 + dgW b' p' q' m := h
    have a := dg_lt hl m
    have a' := dg_lt hl' m
    by_cases e : k = m
    · subst e; omega
    · exact ih (by omega) k (by omega)
theorem cd_inj2 (hl : ∀ i, p ≤ i → i < q → isLt (b i) = true) (hl' : ∀ i, p' ≤ i → i < q' → isLt (b' i) = true) (hq : p ≤ q) (hq' : p' ≤ q') (h6 : q - p ≤ 6) (h6' : q' - p' ≤ 6) (h : cdW b p q 6 = cdW b' p' q' 6) : q - p = q' - p' ∧ ∀ j, j < q - p → b (p + j) = b' (p' + j) := by
  have dd := cd_inj hl hl' 6 h
  have key : ∀ k, k < 6 → (p + k < q ↔ p' + k < q') := by
    intro k hk
    have := dd k hk
    unfold dgW at this
    constructor
    · intro z
      rw [if_pos z] at this
      have := ltr (hl (p + k) (by omega) z)
      rcases Nat.lt_or_ge (p' + k) q' with y | y
      · exact y
      · rw [if_neg (by omega)] at *; omega
    · intro z
      rw [if_pos z] at this
      have := ltr (hl' (p' + k) (by omega) z)
      rcases Nat.lt_or_ge (p + k) q with y | y
      · exact y
      · rw [if_neg (by omega)] at *; omega
  have el : q - p = q' - p' := by
    rcases Nat.lt_trichotomy (q - p) (q' - p') with z | z | z
    · have := (key (q - p) (by omega)).mpr (by omega); omega
    · exact z
    · have := (key (q' - p') (by omega)).mp (by omega); omega
  refine ⟨el, fun j hj => ?_⟩
  have := dd j (by omega)
  unfold dgW at this
  rw [if_pos (by omega), if_pos (by omega)] at this
  have a := ltr (hl (p + j) (by omega) (by omega))
  have a' := ltr (hl' (p' + j) (by omega) (by omega))
  omega
theorem cd_cg (h : q - p = q' - p') (hq : p ≤ q) (hq' : p' ≤ q') (e : ∀ j, j < q - p → b (p + j) = b' (p' + j)) : ∀ m, cdW b p q m = cdW b' p' q' m := by
  intro m
  induction m with
  | zero => rfl
  | succ m ih =>
    show cdW b p q m * 32 + (if p + m < q then b (p + m) - 96 else 0) = cdW b' p' q' m * 32 + (if p' + m < q' then b' (p' + m) - 96 else 0)
    rw [ih]
    by_cases z : p + m < q
    · rw [if_pos z, if_pos (by omega), e m (by omega)]
    · rw [if_neg z, if_neg (by omega)]
/-- the class's place of the reference's word k -/
def rfI (k : Nat) : Nat := if k < 12 then k + 10 else k - 12
theorem rfI_lt : ∀ k, k < 22 → rfI k < 22 := by decide
theorem eqR_cd (hl : ∀ i, p ≤ i → i < q → isLt (b i) = true) (hpq : p ≤ q) (h6 : q - p ≤ 6) {k : Nat} (hk : k < 22) : eqR b p q k ↔ tbC (rfI k) = cdW b p q 6 := by
  obtain ⟨a1, a2⟩ := rf_len k hk
  have et : tbC (rfI k) = cdW (fun i => (rfW k).getD i 0) 0 (rfW k).length 6 := rfl
  have hl' : ∀ i, 0 ≤ i → i < (rfW k).length → isLt ((fun i => (rfW k).getD i 0) i) = true := by
    intro i _ hi
    have := rf_l k hk i (by omega) hi
    unfold isLt
    simpa using this
  rw [et]
  constructor
  · intro e
    refine (cd_cg (by have := e.1; omega) hpq (by omega) (fun j hj => ?_) 6).symm
    rw [e.2 j (by have := e.1; omega), Nat.zero_add]
  · intro e
    obtain ⟨e1, e2⟩ := cd_inj2 hl hl' hpq (by omega) h6 (by omega) e.symm
    refine ⟨by omega, fun j hj => ?_⟩
    have := e2 j (by omega)
    rw [Nat.zero_add] at this
    exact this
theorem eqR_long {k : Nat} (hk : k < 22) (h6 : 6 < q - p) : ¬ eqR b p q k := fun e => by
  have := (rf_len k hk).1
  have := e.1
  omega
/-- a word's kind, as a number -/
def wkN (code : Nat) : Nat := match (List.range 22).find? (fun k => tbC k == code) with
  | some k => 17 + k
  | none => 3
theorem tb_inj : ∀ i, i < 22 → ∀ j, j < 22 → tbC i = tbC j → i = j := by decide +kernel
theorem wk_at {k : Nat} (hk : k < 22) : wkN (tbC k) = 17 + k := by
  have : ∀ k, k < 22 → wkN (tbC k) = 17 + k := by decide +kernel
  exact this k hk
theorem wk_no {code : Nat} (h : ∀ k, k < 22 → tbC k ≠ code) : wkN code = 3 := by
  unfold wkN
  have : (List.range 22).find? (fun k => tbC k == code) = none := by
    rw [List.find?_eq_none]
    intro k hk
    have := h k (List.mem_range.mp hk)
    simpa using this
  rw [this]
theorem wkP_e {code kind : Nat} (h : wkP code kind) : kind = wkN code := by
  rcases h with ⟨k, hk, rfl, rfl⟩ | ⟨rfl, h⟩
  · exact (wk_at hk).symm
  · exact (wk_no h).symm
/-- the reference's word agrees -/
theorem wordR (hl : ∀ i, p ≤ i → i < q → isLt (b i) = true) (hpq : p ≤ q) (h6 : q - p ≤ 6) {r : Int32} (h : (∃ k, k < 22 ∧ r = nI k ∧ eqR b p q k) ∨ (r = -1 ∧ ∀ k, k < 22 → ¬ eqR b p q k)) :
    (∃ k, k < 22 ∧ r = nI k ∧ wkN (cdW b p q 6) = 17 + rfI k) ∨ (r = -1 ∧ wkN (cdW b p q 6) = 3) := by
  rcases h with ⟨k, hk, e1, e2⟩ | ⟨e1, e2⟩
  · refine Or.inl ⟨k, hk, e1, ?_⟩
    rw [← (eqR_cd hl hpq h6 hk).mp e2]
    exact wk_at (rfI_lt k hk)
  · refine Or.inr ⟨e1, wk_no (fun k hk e => ?_)⟩
    have s : ∀ k, k < 22 → ∃ j, j < 22 ∧ rfI j = k := by decide
    obtain ⟨j, hj, rfl⟩ := s k hk
    exact e2 j hj ((eqR_cd hl hpq h6 hj).mpr e)
end WRB
