/-! PURE 36: the text: the words known, by the class -/
section WRC
variable {C M S : Mem} {b : Nat → Nat} {n p q : Nat}
/-- or and not love worth hurt care anger fond week nurse doll moth breach tea seed law east west moths angry calm -/
def tbW : List (List Nat) := [[111, 114], [97, 110, 100], [110, 111, 116], [108, 111, 118, 101], [119, 111, 114, 116, 104], [104, 117, 114, 116], [99, 97, 114, 101], [97, 110, 103, 101, 114], [102, 111, 110, 100], [119, 101, 101, 107], [110, 117, 114, 115, 101], [100, 111, 108, 108], [109, 111, 116, 104], [98, 114, 101, 97, 99, 104], [116, 101, 97], [115, 101, 101, 100], [108, 97, 119], [101, 97, 115, 116], [119, 101, 115, 116], [109, 111, 116, 104, 115], [97, 110, 103, 114, 121], [99, 97, 108, 109]]
def cdL (l : List Nat) : Nat := cdW (fun i => l.getD i 0) 0 l.length 6
def tbC (k : Nat) : Nat := cdL (tbW.getD k [])
theorem tbC_lt : ∀ k, k < 22 → tbC k < 2 ^ 30 := by decide +kernel
def lettersP : Nat → Int32 → Int32 → Int32 → Option Int32
  | 0, _, _, _ => none
  | n + 1, v0, v1, v2 => if (v0 + (6 : Int32)) ≤ v2 then some v1 else (if (132 : Int32) ≤ v2 then some v1 else ((chr0 v2).bind fun x => if x = (32 : Int32) then lettersP n v0 ((v1 <<< ((5 : Int32) &&& 31)) ||| (0 : Int32)) (v2 + 1) else lettersP n v0 ((v1 <<< ((5 : Int32) &&& 31)) ||| ((x - (97 : Int32)) + (1 : Int32))) (v2 + 1)))
theorem letters_P : ∀ (n : Nat) (v0 v1 v2 r : Int32), lettersP n v0 v1 v2 = some r → f_X6_lettersOf_4 n v0 v1 v2 S = some (r, S) := by
  intro n
  induction n with
  | zero => intro v0 v1 v2 r h; cases h
  | succ n ih =>
    intro v0 v1 v2 r h
    unfold lettersP at h
    unfold f_X6_lettersOf_4
    by_cases h1 : v0 + 6 ≤ v2
    · rw [if_pos h1] at h ⊢; cases h; rfl
    · rw [if_neg h1] at h ⊢
      by_cases h2 : 132 ≤ v2
      · rw [if_pos h2] at h ⊢; cases h; rfl
      · rw [if_neg h2] at h ⊢
        cases hc : chr0 v2 with
        | none => rw [hc] at h; cases h
        | some x =>
          rw [hc, Option.bind_some] at h
          rw [Option.bind_some]
          by_cases h3 : x = 32
          · rw [if_pos h3] at h ⊢; exact ih _ _ _ _ h
          · rw [if_neg h3] at h ⊢; exact ih _ _ _ _ h
theorem letters_T : ∀ k, k < 22 → lettersP FU (nI k * 6) 0 (nI k * 6) = some (nI (tbC k)) := by decide +kernel
theorem letters_C {k : Nat} (hk : k < 22) : f_X6_lettersOf (nI k * 6) S = some (nI (tbC k), S) := letters_P _ _ _ _ _ (letters_T k hk)
/-- a word's kind -/
def wkP (code kind : Nat) : Prop := (∃ k, k < 22 ∧ kind = 17 + k ∧ tbC k = code) ∨ (kind = 3 ∧ ∀ k, k < 22 → tbC k ≠ code)
theorem kind_C {code : Nat} (hc : code < 2 ^ 30) : wp (f_X6_wordKind (nI code) S) (fun r => r.2 = S ∧ ∃ kind, r.1 = nI kind ∧ wkP code kind) := by
  unfold f_X6_wordKind
  refine lp0 (fun fuel i (S' : Mem) => f_X6_wordKind_2 fuel (nI code) i S') 22 (fun j S' => S' = S ∧ ∀ k, k < j → tbC k ≠ code) (by omega) S ⟨rfl, fun k hk => absurd hk (Nat.not_lt_zero k)⟩ ?_ ?_
  · rintro fuel S' ⟨rfl, h⟩
    show wp (f_X6_wordKind_2 (fuel + 1) (nI code) (nI 22) S') _
    unfold f_X6_wordKind_2
    exact wp_pos (by decide) (wp_some ⟨rfl, 3, rfl, Or.inr ⟨rfl, h⟩⟩)
  · rintro fuel j S' hj ⟨rfl, h⟩ ih
    try simp only at ih
    show wp (f_X6_wordKind_2 (fuel + 1) (nI code) (nI j) S') _
    unfold f_X6_wordKind_2
    refine wp_neg (Int32.not_lt.mpr (show nI j ≤ nI 21 from nI_le (by omega) (by omega))) ?_
    refine wp_bnde (letters_C hj) ?_
    have hl := tbC_lt j hj
    refine wp_if (fun e => ?_) (fun e => ?_)
    · have e : tbC j = code := (nI_eq (by omega) (by omega)).mp e
      exact wp_some ⟨rfl, 17 + j, nI_add 17 j, Or.inl ⟨j, hj, rfl, e⟩⟩
    · rw [nI_1]
      refine ih S' ⟨rfl, fun k hk => ?_⟩
      by_cases z : k = j
      · rw [z]; exact fun e' => e (by rw [e'])
      · exact h k (by omega)
theorem isL_C {x : Nat} (hx : x < 256) : f_X6_isLetter (nI x) S = some (if isLt x = true then 1 else 0, S) := by
  unfold f_X6_isLetter
  by_cases h1 : x < 97
  · rw [if_pos (show nI x < 97 from nI_lt (b := 97) h1 (by omega)), if_neg (by unfold isLt; simp; omega)]
  · rw [if_neg (show ¬ nI x < 97 from Int32.not_lt.mpr (nI_le (a := 97) (by omega) (by omega)))]
    by_cases h2 : 122 < x
    · rw [if_pos (show 122 < nI x from nI_lt (a := 122) h2 (by omega)), if_neg (by unfold isLt; simp; omega)]
    · rw [if_neg (show ¬ 122 < nI x from Int32.not_lt.mpr (nI_le (b := 122) (by omega) (by omega))), if_pos (by unfold isLt; simp; omega)]
theorem spn_end (P : Nat → Bool) (b : Nat → Nat) : ∀ f p, spn P b f p < p + f → P (b (spn P b f p)) = false := by
  intro f
  induction f with
  | zero => intro p h; exact absurd h (Nat.lt_irrefl _)
  | succ f ih =>
    intro p
    unfold spn
    by_cases h : P (b p) = true
    · rw [if_pos h]; intro h2; exact ih (p + 1) (by omega)
    · rw [if_neg h]; intro _; exact Bool.eq_false_iff.mpr h
theorem cd_small (hl : ∀ i, p ≤ i → i < q → isLt (b i) = true) : ∀ k, cdW b p q k < 32 ^ k := by
  intro k
  induction k with
  | zero => exact Nat.one_pos
  | succ k ih =>
    show cdW b p q k * 32 + (if p + k < q then b (p + k) - 96 else 0) < 32 ^ (k + 1)
    have : (if p + k < q then b (p + k) - 96 else 0) < 32 := by
      by_cases h : p + k < q
      · rw [if_pos h]; have := ltr (hl (p + k) (by omega) h); omega
      · rw [if_neg h]; omega
    rw [Nat.pow_succ]
    omega
theorem cd_past : ∀ k j, q ≤ p + k → cdW b p q (k + j) = cdW b p q k * 32 ^ j := by
  intro k j h
  induction j with
  | zero => simp
  | succ j ih =>
    show cdW b p q (k + j) * 32 + (if p + (k + j) < q then b (p + (k + j)) - 96 else 0) = _
    rw [if_neg (by omega), ih, Nat.pow_succ, Nat.add_zero, Nat.mul_assoc]
def cdV (b : Nat → Nat) (p q i : Nat) : Nat := if i - p ≤ 6 then cdW b p q (i - p) * 2 ^ (30 - 5 * (i - p)) else cdW b p q 6
theorem p2_32 : ∀ k, k ≤ 6 → 2 ^ (30 - 5 * k) = 32 ^ (6 - k) := by decide
theorem cutWord_C (hb : ∀ i, i < n → S.1 2 i = nI (b i)) (hb2 : ∀ i, i < n → b i < 256) (hn : n ≤ 700) (hp : p ≤ n) {P : Int32 × Mem → Prop} (hq : q = spn isLt b (n - p) p) (h : wp (f_X6_cutWord_60 2 700 (nI p) (nI q) (nI (cdW b p q 6)) S) P) : wp (f_X6_cutWord 2 700 (nI p) (nI n) S) P := by
  unfold f_X6_cutWord
  obtain ⟨l1, l2, l3⟩ := spn_le isLt b (n - p) p
  have he : q < n → isLt (b q) = false := fun z => by rw [hq]; exact spn_end isLt b (n - p) p (by omega)
  rw [← hq] at l1 l2 l3
  refine lpF (fun fuel i (v5 : Int32) => f_X6_cutWord_6 2 700 fuel (nI p) (nI n) i v5 S) p q (fun i v5 => p ≤ i ∧ v5 = nI (cdV b p q i)) l1 (by omega) 0 ⟨Nat.le_refl _, ?_⟩ ?_ ?_
  · unfold cdV
    rw [if_pos (by omega), Nat.sub_self]
    show (0 : Int32) = nI (0 * _)
    rw [Nat.zero_mul]
    rfl
  · rintro fuel v5 ⟨-, rfl⟩
    show wp (f_X6_cutWord_6 2 700 (fuel + 1) (nI p) (nI n) (nI q) (nI (cdV b p q q)) S) P
    have e : cdV b p q q = cdW b p q 6 := by
      unfold cdV
      by_cases z : q - p ≤ 6
      · rw [if_pos z, p2_32 _ z, ← cd_past (q - p) (6 - (q - p)) (by omega)]
        congr 1
        omega
      · rw [if_neg z]
    rw [e]
    unfold f_X6_cutWord_6
    refine wp_if (fun _ => h) (fun z => ?_)
    have z : q < n := by
      rcases Nat.lt_or_ge q n with y | y
      · exact y
      · exact absurd (nI_le y (by omega)) z
    refine wp_rd q rfl (by omega) (hb q z) ?_
    refine wp_bnde (isL_C (hb2 q z)) ?_
    rw [he z]
    exact wp_pos rfl h
  · rintro fuel i v5 hi ⟨hpi, rfl⟩ ih
    try simp only at ih
    show wp (f_X6_cutWord_6 2 700 (fuel + 1) (nI p) (nI n) (nI i) (nI (cdV b p q i)) S) P
    unfold f_X6_cutWord_6
    have hin : i < n := by omega
    have hlt := l3 i hpi hi
    refine wp_neg (nI_ge hin (by omega)) ?_
    refine wp_rd i rfl (by omega) (hb i hin) ?_
    refine wp_bnde (isL_C (hb2 i hin)) ?_
    rw [if_pos hlt]
    refine wp_neg n10 ?_
    rw [pk_sub hpi, nI_1]
    refine wp_if (fun z => ?_) (fun z => ?_)
    · have z : 6 ≤ i - p := (nI_leI (by omega) (by omega)).mp (show nI 6 ≤ nI (i - p) from z)
      refine ih _ ⟨by omega, ?_⟩
      unfold cdV
      rw [if_neg (by omega : ¬ i + 1 - p ≤ 6)]
      by_cases y : i - p ≤ 6
      · rw [if_pos y, show i - p = 6 by omega, show 30 - 5 * 6 = 0 from rfl, Nat.pow_zero, Nat.mul_one]
      · rw [if_neg y]
    · have z : i - p < 6 := by
        rcases Nat.lt_or_ge (i - p) 6 with y | y
        · exact y
        · exact absurd (show nI 6 ≤ nI (i - p) from nI_le y (by omega)) z
      refine wp_rd i rfl (by omega) (hb i hin) ?_
      have hr := ltr hlt
      rw [ltr_n hlt, show (5 : Int32) = nI 5 from rfl, pk_sub (by omega), pk_mul, nI_shl _ (by omega)]
      have e1 : cdV b p q i = cdW b p q (i - p) * 2 ^ (5 * (5 - (i - p)) + 5) := by
        unfold cdV
        rw [if_pos (by omega), show 30 - 5 * (i - p) = 5 * (5 - (i - p)) + 5 by omega]
      have e2 : cdV b p q (i + 1) = (cdW b p q (i - p) * 32 + (b i - 96)) * 2 ^ (5 * (5 - (i - p))) := by
        unfold cdV
        rw [if_pos (by omega), show i + 1 - p = (i - p) + 1 by omega, show 30 - 5 * (i - p + 1) = 5 * (5 - (i - p)) by omega]
        show (cdW b p q (i - p) * 32 + (if p + (i - p) < q then b (p + (i - p)) - 96 else 0)) * _ = _
        rw [show p + (i - p) = i by omega, if_pos hi]
      rw [e1, or_sh _ (by omega), ← e2]
      exact ih _ ⟨by omega, rfl⟩
end WRC
