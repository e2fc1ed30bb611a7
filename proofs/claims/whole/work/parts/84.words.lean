/-! PURE 35: the text: words' letters as a number -/
section WRD
variable {C M S : Mem} {b : Nat → Nat} {n p q : Nat}
theorem nI_or (x y : Nat) : nI x ||| nI y = nI (x ||| y) := bt_ext fun d hd => by
  rw [bt_or, bt_nI _ _ hd, bt_nI _ _ hd, bt_nI _ _ hd, Nat.testBit_or]
theorem nI_shl (d : Nat) {s : Nat} (hs : s < 32) : nI d <<< (nI s &&& 31) = nI (d * 2 ^ s) := by
  apply Int32.toBitVec_inj.mp
  show (nI d).toBitVec <<< ((nI s &&& 31).toBitVec.smod 32).toNat = BitVec.ofNat 32 (d * 2 ^ s)
  rw [sm32 s hs, show (nI d).toBitVec = BitVec.ofNat 32 d from rfl]
  apply BitVec.eq_of_toNat_eq
  simp [Nat.shiftLeft_eq]
theorem or_sh (a : Nat) {d : Nat} (hd : d < 32) (s : Nat) : nI (a * 2 ^ (s + 5)) ||| nI (d * 2 ^ s) = nI ((a * 32 + d) * 2 ^ s) := by
  rw [nI_or]
  have h : d * 2 ^ s < 2 ^ (s + 5) := by
    rw [Nat.pow_add, Nat.mul_comm]
    exact Nat.mul_lt_mul_of_pos_left hd (Nat.two_pow_pos s)
  have e := Nat.shiftLeft_add_eq_or_of_lt h a
  rw [Nat.shiftLeft_eq] at e
  rw [← e]
  congr 1
  rw [Nat.add_mul, Nat.pow_add, Nat.mul_comm (2 ^ s) (2 ^ 5), ← Nat.mul_assoc]
/-- the end of a row of like signs -/
def spn (P : Nat → Bool) (b : Nat → Nat) : Nat → Nat → Nat
  | 0, p => p
  | f + 1, p => if P (b p) = true then spn P b f (p + 1) else p
def isLt (x : Nat) : Bool := decide (97 ≤ x ∧ x ≤ 122)
def isDg (x : Nat) : Bool := decide (48 ≤ x ∧ x ≤ 57)
def isBl (x : Nat) : Bool := decide (x = 10 ∨ x = 32)
theorem spn_le (P : Nat → Bool) (b : Nat → Nat) : ∀ f p, p ≤ spn P b f p ∧ spn P b f p ≤ p + f ∧ ∀ i, p ≤ i → i < spn P b f p → P (b i) = true := by
  intro f
  induction f with
  | zero => intro p; exact ⟨Nat.le_refl _, Nat.le_refl _, fun i h1 h2 => absurd (Nat.lt_of_le_of_lt h1 h2) (Nat.lt_irrefl _)⟩
  | succ f ih =>
    intro p
    unfold spn
    by_cases h : P (b p) = true
    · rw [if_pos h]
      obtain ⟨a1, a2, a3⟩ := ih (p + 1)
      refine ⟨by omega, by omega, fun i h1 h2 => ?_⟩
      by_cases e : i = p
      · rw [e]; exact h
      · exact a3 i (by omega) h2
    · rw [if_neg h]
      exact ⟨Nat.le_refl _, by omega, fun i h1 h2 => by omega⟩
/-- the first k of six letters, base 32 -/
def cdW (b : Nat → Nat) (p q : Nat) : Nat → Nat
  | 0 => 0
  | k + 1 => cdW b p q k * 32 + (if p + k < q then b (p + k) - 96 else 0)
theorem ltr {x : Nat} (h : isLt x = true) : 97 ≤ x ∧ x ≤ 122 := by unfold isLt at h; simpa using h
theorem ltr_n {x : Nat} (h : isLt x = true) : nI x - 97 + 1 = nI (x - 96) := by
  have h := ltr h
  have : ∀ x, x < 123 → 97 ≤ x → nI x - 97 + 1 = nI (x - 96) := by decide +kernel
  exact this x (by omega) h.1
theorem name_M (h18 : S.1 0 18 = nI q) (h19 : S.1 0 19 = nI p) (hpq : p ≤ q) (hq : q ≤ 700) (hb : ∀ i, i < q → S.1 1 i = nI (b i)) (hl : ∀ i, p ≤ i → i < q → isLt (b i) = true) :
    wp (f_X10_name S) (fun S' => S' = sI S 0 21 (nI (cdW b p q 6))) := by
  unfold f_X10_name
  refine wp_nxt ?_
  have ss : ∀ v w : Int32, sI (sI S 0 21 v) 0 21 w = sI S 0 21 w := by
    intro v w
    unfold sI
    congr 1
    funext c i
    by_cases h : c = 0 ∧ i = 21
    · simp [h]
    · simp [h]
  refine lp0 (fun fuel i S => f_X10_name_7 fuel i S) 6 (fun j S' => S' = sI S 0 21 (nI (cdW b p q j))) (by omega) (sI S 0 21 0) rfl ?_ ?_
  · rintro fuel S' rfl
    show wp (f_X10_name_7 (fuel + 1) (nI 6) _) _
    unfold f_X10_name_7
    exact wp_pos (by decide) (wp_some rfl)
  · rintro fuel j S' hj rfl ih
    try simp only at ih
    show wp (f_X10_name_7 (fuel + 1) (nI j) (sI S 0 21 (nI (cdW b p q j)))) _
    unfold f_X10_name_7
    refine wp_neg (nI_ge (b := 6) hj (by omega)) ?_
    have e18 : (sI S 0 21 (nI (cdW b p q j))).1 0 18 = nI q := by rw [sI1, if_neg (by omega)]; exact h18
    have e19 : (sI S 0 21 (nI (cdW b p q j))).1 0 19 = nI p := by rw [sI1, if_neg (by omega)]; exact h19
    have e21 : (sI S 0 21 (nI (cdW b p q j))).1 0 21 = nI (cdW b p q j) := by rw [sI1, if_pos ⟨rfl, rfl⟩]
    rw [e18, e19, e21, nI_add, show (5 : Int32) = nI 5 from rfl, nI_shl _ (by omega)]
    have go : ∀ d, d < 32 → d = (if p + j < q then b (p + j) - 96 else 0) → wp (f_X10_name_53 (f_X10_name_7 fuel) (nI j) (nI (cdW b p q j * 2 ^ 5)) (nI d) (sI S 0 21 (nI (cdW b p q j)))) (fun S' => S' = sI S 0 21 (nI (cdW b p q 6))) := by
      intro d hd ed
      unfold f_X10_name_53
      refine wp_nxt ?_
      have := or_sh (cdW b p q j) hd 0
      rw [show d * 2 ^ 0 = d by omega, show (cdW b p q j * 32 + d) * 2 ^ 0 = cdW b p q j * 32 + d by omega] at this
      rw [this, ss, nI_1]
      refine ih _ ?_
      rw [ed]
      rfl
    refine wp_if (fun h => ?_) (fun h => ?_)
    · have h : q ≤ p + j := (nI_leI (by omega) (by omega)).mp h
      exact go 0 (by omega) (by rw [if_neg (by omega)])
    · have h : p + j < q := by
        rcases Nat.lt_or_ge (p + j) q with z | z
        · exact z
        · exact absurd (nI_le z (by omega)) h
      have hlt := hl (p + j) (by omega) h
      have hr := ltr hlt
      refine wp_rd (p + j) rfl (by omega) (v := nI (b (p + j))) (by rw [sI_off (by omega)]; exact hb _ h) ?_
      rw [ltr_n hlt]
      exact go _ (by omega) (by rw [if_pos h])
end WRD
