/-! PURE 37: the text: the words known, by the reference -/
section WRM
variable {C M S : Mem} {b : Nat → Nat} {n p q : Nat}
/-- the reference's order of the words -/
def rfW (k : Nat) : List Nat := tbW.getD (if k < 12 then k + 10 else k - 12) []
def rfO : Nat → Nat
  | 0 => 0
  | k + 1 => rfO k + (rfW k).length + 1
theorem rf_len : ∀ k, k < 22 → (rfW k).length ≤ 6 ∧ rfO k + (rfW k).length < 111 := by decide +kernel
theorem rf_22 : rfO 22 = 111 := by decide +kernel
theorem rf_ch : ∀ k, k < 22 → ∀ j, j < 7 → j ≤ (rfW k).length → chr1 (nI (rfO k) + nI j) = some (if j < (rfW k).length then nI ((rfW k).getD j 0) else 32) := by decide +kernel
theorem rf_l : ∀ k, k < 22 → ∀ j, j < 7 → j < (rfW k).length → 97 ≤ (rfW k).getD j 0 ∧ (rfW k).getD j 0 ≤ 122 := by decide +kernel
def eqR (b : Nat → Nat) (p q k : Nat) : Prop := q = p + (rfW k).length ∧ ∀ j, j < (rfW k).length → b (p + j) = (rfW k).getD j 0
theorem w97_M {k : Nat} (hk : k < 22) {R : Int32 → Int32 → Mem → Option (Int32 × Mem)} {P : Int32 × Mem → Prop} (h : wp (R (nI (k + 1)) (nI (rfO (k + 1))) S) P) : ∀ m j fuel, j + m = (rfW k).length → m < fuel → wp (f_X10_word_97 R fuel (nI k) (nI (rfO k + j)) S) P := by
  obtain ⟨a1, a2⟩ := rf_len k hk
  intro m
  induction m with
  | zero =>
    intro j fuel hj hf
    obtain ⟨f, rfl⟩ : ∃ f, fuel = f + 1 := ⟨fuel - 1, by omega⟩
    unfold f_X10_word_97
    have e := rf_ch k hk j (by omega) (by omega)
    rw [if_neg (by omega), nI_add] at e
    refine wp_bde e (wp_pos rfl ?_)
    rw [nI_1, nI_1, show rfO k + j + 1 = rfO (k + 1) by show _ = rfO k + (rfW k).length + 1; omega]
    exact h
  | succ m ih =>
    intro j fuel hj hf
    obtain ⟨f, rfl⟩ : ∃ f, fuel = f + 1 := ⟨fuel - 1, by omega⟩
    unfold f_X10_word_97
    have e := rf_ch k hk j (by omega) (by omega)
    rw [if_pos (by omega), nI_add] at e
    have hl := rf_l k hk j (by omega) (by omega)
    refine wp_bde e (wp_neg ?_ ?_)
    · intro z
      have := (nI_eq (b := 32) (by omega) (by omega)).mp z
      omega
    · rw [nI_1]
      exact ih (j + 1) f (by omega) (by omega)
theorem w15_M {k : Nat} (hk : k < 22) (h18 : S.1 0 18 = nI q) (h19 : S.1 0 19 = nI p) (hq : q ≤ 700) (hb : ∀ i, i < q → S.1 1 i = nI (b i)) (hb2 : ∀ i, i < q → b i < 256) {R : Int32 → Int32 → Mem → Option (Int32 × Mem)} {P : Int32 × Mem → Prop}
    (hy : eqR b p q k → P (nI k, S)) (hn : ¬ eqR b p q k → wp (R (nI (k + 1)) (nI (rfO (k + 1))) S) P) : ∀ m j fuel, j + m = (rfW k).length → m < fuel → p + j ≤ q → (∀ i, i < j → b (p + i) = (rfW k).getD i 0) → wp (f_X10_word_15 R fuel (nI k) (nI (rfO k)) (nI j) S) P := by
  obtain ⟨a1, a2⟩ := rf_len k hk
  have no : ¬ eqR b p q k → wp (f_X10_word_97 R FU (nI k) (nI (rfO k)) S) P := fun z => w97_M hk (hn z) (rfW k).length 0 FU (by omega) (by show _ < 2000; omega)
  have at69 : ∀ j, j ≤ (rfW k).length → p + j ≤ q → (∀ i, i < j → b (p + i) = (rfW k).getD i 0) → (j < (rfW k).length → ¬ eqR b p q k) → wp (f_X10_word_69 R (nI k) (nI (rfO k)) (nI j) S) P := by
    intro j hj hpj hm hne
    unfold f_X10_word_69
    refine wp_bde (rf_ch k hk j (by omega) hj) ?_
    refine wp_if (fun z => ?_) (fun z => ?_)
    · have hjl : ¬ j < (rfW k).length := by
        intro y
        rw [if_pos y] at z
        have hl := rf_l k hk j (by omega) y
        have := (nI_eq (b := 32) (by omega) (by omega)).mp z
        omega
      rw [h18, h19, nI_add]
      refine wp_if (fun y => ?_) (fun y => ?_)
      · have y : p + j = q := (nI_eq (by omega) (by omega)).mp y
        exact wp_some (hy ⟨by omega, fun i hi => hm i (by omega)⟩)
      · exact no (fun e => y (by rw [e.1]; congr 1; omega))
    · have hjl : j < (rfW k).length := by
        rcases Nat.lt_or_ge j (rfW k).length with y | y
        · exact y
        · rw [if_neg (by omega)] at z; exact absurd rfl z
      exact no (hne hjl)
  intro m
  induction m with
  | zero =>
    intro j fuel hj hf hpj hm
    obtain ⟨f, rfl⟩ : ∃ f, fuel = f + 1 := ⟨fuel - 1, by omega⟩
    unfold f_X10_word_15
    have e := rf_ch k hk j (by omega) (by omega)
    rw [if_neg (by omega)] at e
    refine wp_bde e (wp_pos rfl ?_)
    exact at69 j (by omega) hpj hm (fun y => by omega)
  | succ m ih =>
    intro j fuel hj hf hpj hm
    obtain ⟨f, rfl⟩ : ∃ f, fuel = f + 1 := ⟨fuel - 1, by omega⟩
    unfold f_X10_word_15
    have e := rf_ch k hk j (by omega) (by omega)
    have hl := rf_l k hk j (by omega) (by omega)
    rw [if_pos (by omega)] at e
    refine wp_bde e (wp_neg ?_ ?_)
    · intro z
      have := (nI_eq (b := 32) (by omega) (by omega)).mp z
      omega
    · rw [h18, h19, nI_add]
      refine wp_if (fun y => ?_) (fun y => ?_)
      · have y : q ≤ p + j := (nI_leI (by omega) (by omega)).mp y
        exact at69 j (by omega) hpj hm (fun _ e => by have := e.1; omega)
      · have y : p + j < q := by
          rcases Nat.lt_or_ge (p + j) q with z | z
          · exact z
          · exact absurd (nI_le z (by omega)) y
        refine wp_rd (p + j) rfl (by omega) (hb _ y) ?_
        refine wp_bde e ?_
        have hbb := hb2 _ y
        refine wp_if (fun x => ?_) (fun x => ?_)
        · have x : b (p + j) = (rfW k).getD j 0 := (nI_eq (by omega) (by omega)).mp x
          rw [nI_1]
          refine ih (j + 1) f (by omega) (by omega) (by omega) (fun i hi => ?_)
          by_cases z : i = j
          · rw [z]; exact x
          · exact hm i (by omega)
        · exact at69 j (by omega) hpj hm (fun z e => x (by rw [e.2 j z]))
theorem word_M (h18 : S.1 0 18 = nI q) (h19 : S.1 0 19 = nI p) (hpq : p ≤ q) (hq : q ≤ 700) (hb : ∀ i, i < q → S.1 1 i = nI (b i)) (hb2 : ∀ i, i < q → b i < 256) :
    wp (f_X10_word S) (fun r => r.2 = S ∧ ((∃ k, k < 22 ∧ r.1 = nI k ∧ eqR b p q k) ∨ (r.1 = -1 ∧ ∀ k, k < 22 → ¬ eqR b p q k))) := by
  unfold f_X10_word
  refine lp0 (fun fuel i (v2 : Int32) => f_X10_word_4 fuel i v2 S) 22 (fun k v2 => v2 = nI (rfO k) ∧ ∀ i, i < k → ¬ eqR b p q i) (by omega) 0 ⟨rfl, fun i hi => absurd hi (Nat.not_lt_zero i)⟩ ?_ ?_
  · rintro fuel v2 ⟨rfl, h⟩
    show wp (f_X10_word_4 (fuel + 1) (nI 22) (nI (rfO 22)) S) _
    unfold f_X10_word_4
    rw [rf_22]
    exact wp_pos (by decide) (wp_some ⟨rfl, Or.inr ⟨rfl, h⟩⟩)
  · rintro fuel k v2 hk ⟨rfl, h⟩ ih
    try simp only at ih
    show wp (f_X10_word_4 (fuel + 1) (nI k) (nI (rfO k)) S) _
    unfold f_X10_word_4
    obtain ⟨a1, a2⟩ := rf_len k hk
    refine wp_neg (nI_ge (b := 111) (by omega) (by omega)) ?_
    refine w15_M hk h18 h19 hq hb hb2 (fun e => ⟨rfl, Or.inl ⟨k, hk, rfl, e⟩⟩) (fun e => ?_) (rfW k).length 0 FU (by omega) (by show _ < 2000; omega) (by omega) (fun i hi => absurd hi (Nat.not_lt_zero i))
    refine ih _ ⟨rfl, fun i hi => ?_⟩
    by_cases z : i = k
    · rw [z]; exact e
    · exact h i (by omega)
end WRM
