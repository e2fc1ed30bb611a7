/-! PURE 39: the text: what a token is -/
section TOK
variable {C M S : Mem} {b : Nat → Nat} {n p q : Nat}
def skB (b : Nat → Nat) (n p : Nat) : Nat := spn isBl b (n - p) p
def eLt (b : Nat → Nat) (n p : Nat) : Nat := spn isLt b (n - p) p
def eDg (b : Nat → Nat) (n p : Nat) : Nat := spn isDg b (n - p) p
def pkN (x y : Nat) : Nat := if x = 60 then (if y = 61 then 8 else if y = 62 then 10 else 1) else if x = 62 then (if y = 61 then 11 else 1) else 1
def skN (x : Nat) : Nat := if x = 40 then 5 else if x = 41 then 6 else if x = 42 then 15 else if x = 43 then 13 else if x = 45 then 14 else if x = 47 then 16 else if x = 59 then 4 else if x = 60 then 7 else if x = 61 then 9 else if x = 62 then 12 else 1
def yAt (b : Nat → Nat) (n p : Nat) : Nat := if p + 1 < n then b (p + 1) else 0
def sgK (b : Nat → Nat) (n p : Nat) : Nat := if pkN (b p) (yAt b n p) = 1 then skN (b p) else pkN (b p) (yAt b n p)
def sgE (b : Nat → Nat) (n p : Nat) : Nat := if pkN (b p) (yAt b n p) = 1 then p + 1 else p + 2
/-- the token at p: its kind, its end -/
def tkd (b : Nat → Nat) (n p : Nat) : Nat := if p < n then (if isLt (b p) = true then (if eLt b n p - p ≤ 6 then wkN (cdW b p (eLt b n p) 6) else 1) else if isDg (b p) = true then 2 else sgK b n p) else 0
def tnx (b : Nat → Nat) (n p : Nat) : Nat := if p < n then (if isLt (b p) = true then eLt b n p else if isDg (b p) = true then eDg b n p else sgE b n p) else p
/-- the numbers, by class and reference -/
def nvC (b : Nat → Nat) (p : Nat) : Nat → Nat
  | 0 => 0
  | k + 1 => if nvC b p k * 10 + (b (p + k) - 48) < 1000000 then nvC b p k * 10 + (b (p + k) - 48) else 1000000
def nvM (b : Nat → Nat) (p : Nat) : Nat → Nat
  | 0 => 0
  | k + 1 => if nvM b p k ≤ 99999 then nvM b p k * 10 + (b (p + k) - 48) else nvM b p k
theorem nv_C (b : Nat → Nat) (p : Nat) : ∀ k, nvC b p k ≤ 1000000 := by
  intro k
  induction k with
  | zero => show 0 ≤ _; omega
  | succ k ih =>
    unfold nvC
    by_cases h : nvC b p k * 10 + (b (p + k) - 48) < 1000000
    · rw [if_pos h]; omega
    · rw [if_neg h]; omega
theorem nv_R (hd : ∀ i, p ≤ i → i < q → isDg (b i) = true) : ∀ k, p + k ≤ q → nvM b p k ≤ 999999 ∧ (nvC b p k = nvM b p k ∨ (99999 < nvC b p k ∧ 99999 < nvM b p k)) := by
  intro k
  induction k with
  | zero => intro _; exact ⟨by show 0 ≤ _; omega, Or.inl rfl⟩
  | succ k ih =>
    intro hk
    obtain ⟨h1, h2⟩ := ih (by omega)
    have hdd := hd (p + k) (by omega) (by omega)
    unfold isDg at hdd
    simp only [decide_eq_true_eq] at hdd
    unfold nvC nvM
    by_cases h : nvC b p k * 10 + (b (p + k) - 48) < 1000000
    · rw [if_pos h]
      by_cases z : nvM b p k ≤ 99999
      · rw [if_pos z]
        have : nvC b p k = nvM b p k := by omega
        exact ⟨by omega, Or.inl (by rw [this])⟩
      · rw [if_neg z]
        exact ⟨h1, Or.inr ⟨by omega, by omega⟩⟩
    · rw [if_neg h]
      by_cases z : nvM b p k ≤ 99999
      · rw [if_pos z]
        exfalso
        omega
      · rw [if_neg z]
        exact ⟨h1, Or.inr ⟨by omega, by omega⟩⟩
/-- where the i-th token stands -/
def ps (b : Nat → Nat) (n : Nat) : Nat → Nat
  | 0 => skB b n 0
  | i + 1 => skB b n (tnx b n (ps b n i))
theorem skB_le (hp : p ≤ n) : p ≤ skB b n p ∧ skB b n p ≤ n := by
  obtain ⟨a1, a2, -⟩ := spn_le isBl b (n - p) p
  exact ⟨a1, by unfold skB; omega⟩
theorem tnx_lt (hp : p < n) : p < tnx b n p ∧ tnx b n p ≤ n := by
  unfold tnx
  rw [if_pos hp]
  have st : ∀ P : Nat → Bool, P (b p) = true → p < spn P b (n - p) p ∧ spn P b (n - p) p ≤ n := by
    intro P hP
    obtain ⟨a1, a2, -⟩ := spn_le P b (n - p) p
    refine ⟨?_, by omega⟩
    rw [show n - p = (n - p - 1) + 1 by omega]
    unfold spn
    rw [if_pos hP]
    have := (spn_le P b (n - p - 1) (p + 1)).1
    omega
  by_cases h1 : isLt (b p) = true
  · rw [if_pos h1]; exact st isLt h1
  · rw [if_neg h1]
    by_cases h2 : isDg (b p) = true
    · rw [if_pos h2]; exact st isDg h2
    · rw [if_neg h2]
      unfold sgE
      by_cases h3 : pkN (b p) (yAt b n p) = 1
      · rw [if_pos h3]; omega
      · rw [if_neg h3]
        have : p + 1 < n := by
          rcases Nat.lt_or_ge (p + 1) n with z | z
          · exact z
          · exfalso
            apply h3
            unfold yAt
            rw [if_neg (by omega)]
            unfold pkN
            by_cases y : b p = 60
            · rw [if_pos y]; rfl
            · rw [if_neg y]
              by_cases y2 : b p = 62
              · rw [if_pos y2]; rfl
              · rw [if_neg y2]
        omega
theorem ps_le : ∀ i, ps b n i ≤ n := by
  intro i
  induction i with
  | zero => exact (skB_le (Nat.zero_le n)).2
  | succ i ih =>
    show skB b n (tnx b n (ps b n i)) ≤ n
    by_cases h : ps b n i < n
    · exact (skB_le (tnx_lt h).2).2
    · unfold tnx
      rw [if_neg h]
      exact (skB_le ih).2
end TOK
