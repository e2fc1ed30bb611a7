/-! PURE 48: the text: a number asked for, by both -/
section NMR
variable {C M S : Mem} {b : Nat → Nat} {n p i m : Nat}
theorem wkN_b (code : Nat) : wkN code = 3 ∨ 17 ≤ wkN code := by
  unfold wkN
  split
  · exact Or.inr (by omega)
  · exact Or.inl rfl
theorem sgK_b (hx : b p < 256) : sgK b n p = 1 ∨ (4 ≤ sgK b n p ∧ sgK b n p < 17) := by
  unfold sgK
  rcases pk_cases (b p) (yAt b n p) with ⟨c1, -⟩ | ⟨c1, -, c3, c4, -⟩
  · rw [if_pos c1]
    by_cases w : skN (b p) = 1
    · exact Or.inl w
    · exact Or.inr ((sk_in (b p) hx).2 w).2
  · rw [if_neg c1]; exact Or.inr ⟨c3, c4⟩
theorem tkd_2 (hb2 : ∀ i, i < n → b i < 256) (h : tkd b n p = 2) : p < n ∧ ¬ isLt (b p) = true ∧ isDg (b p) = true := by
  unfold tkd at h
  by_cases hp : p < n
  · rw [if_pos hp] at h
    by_cases h1 : isLt (b p) = true
    · rw [if_pos h1] at h
      by_cases h2 : eLt b n p - p ≤ 6
      · rw [if_pos h2] at h
        rcases wkN_b (cdW b p (eLt b n p) 6) with z | z <;> omega
      · rw [if_neg h2] at h; omega
    · rw [if_neg h1] at h
      by_cases h2 : isDg (b p) = true
      · exact ⟨hp, h1, h2⟩
      · rw [if_neg h2] at h
        rcases sgK_b (n := n) (hb2 p hp) with z | z <;> omega
  · rw [if_neg hp] at h; omega
/-- the numbers of both: like, or above all that is asked -/
theorem num_like (hb2 : ∀ i, i < n → b i < 256) (h : tkd b n p = 2) : tvC b n p ≤ 1000000 ∧ nvM b p (eDg b n p - p) ≤ 999999 ∧ (tvC b n p = nvM b p (eDg b n p - p) ∨ (99999 < tvC b n p ∧ 99999 < nvM b p (eDg b n p - p))) := by
  obtain ⟨h1, h2, h3⟩ := tkd_2 hb2 h
  obtain ⟨l1, l2, l3⟩ := spn_le isDg b (n - p) p
  have e : tvC b n p = nvC b p (eDg b n p - p) := by unfold tvC; rw [if_neg h2, if_pos h3]
  have l1 : p ≤ eDg b n p := l1
  have r := nv_R (q := eDg b n p) (p := p) (b := b) l3 (eDg b n p - p) (by omega)
  rw [e]
  exact ⟨nv_C _ _ _, r.1, r.2⟩
def numOk (b : Nat → Nat) (n p lo hi : Nat) : Prop := tkd b n p = 2 ∧ lo ≤ tvC b n p ∧ tvC b n p ≤ hi
theorem tk20_2 (h : tkM M b n p) : M.1 0 20 = 2 ↔ tkd b n p = 2 := by
  obtain ⟨h0, h1, h2, h3, h4, h5⟩ := h
  constructor
  · intro e
    have : tkd b n p = 0 ∨ tkd b n p = 1 ∨ tkd b n p = 2 ∨ tkd b n p = 3 ∨ (4 ≤ tkd b n p ∧ tkd b n p < 17) ∨ 17 ≤ tkd b n p := by omega
    rcases this with z | z | z | z | z | z
    · rw [h0 z] at e; exact absurd e (by decide)
    · rw [h1 z] at e; exact absurd e (by decide)
    · exact z
    · rw [(h3 z).1] at e; exact absurd e (by decide)
    · rw [(h4 z.1 z.2).1] at e; exact absurd e (by decide)
    · rw [(h5 z).1] at e; exact absurd e (by decide)
  · intro e; exact (h2 e).1
theorem numeral_M (h : tkA M b n i) (h22 : M.1 0 22 = 0) (hb2 : ∀ i, i < n → b i < 256) (hn : n ≤ 700) {lo hi : Nat} (hl : lo ≤ hi) (hh : hi ≤ 99999) (hok : numOk b n (ps b n i) lo hi) :
    wp (f_X10_numeral (nI lo) (nI hi) M) (fun r => r.1 = nI (tvC b n (ps b n i)) ∧ tkA r.2 b n (i + 1) ∧ frQ M r.2) := by
  obtain ⟨k1, k2, k3⟩ := hok
  obtain ⟨c1, c2, c3⟩ := num_like hb2 k1
  have e : nvM b (ps b n i) (eDg b n (ps b n i) - ps b n i) = tvC b n (ps b n i) := by omega
  have h21 := (h.2.2.2.2.2.1 k1).2
  rw [e] at h21
  unfold f_X10_numeral
  refine wp_pos h22 (wp_pos ((tk20_2 h.2.2.2).mpr k1) ?_)
  rw [h21]
  refine wp_neg (Int32.not_lt.mpr (nI_le k2 (by omega))) (wp_pos (nI_le k3 (by omega)) ?_)
  unfold f_X10_numeral_46
  refine wp_pos h22 ?_
  refine wp_call (step_M h hb2 hn) ?_
  rintro M' ⟨g1, g2⟩
  exact wp_some ⟨h21, g1, g2⟩
theorem numeral_w (h : tkA M b n i) (h22 : M.1 0 22 = 0) (hb2 : ∀ i, i < n → b i < 256) {lo hi : Nat} (hl : lo ≤ hi) (hh : hi ≤ 99999) (hok : ¬ numOk b n (ps b n i) lo hi) :
    f_X10_numeral (nI lo) (nI hi) M = some (nI lo, sI (sI M 0 22 (if tkd b n (ps b n i) = 2 then 2 else 1)) 0 23 (nI (ps b n i))) := by
  have idle : ∀ v : Int32, v ≠ 0 → f_X10_numeral_46 (nI lo) (sI (sI M 0 22 v) 0 23 (nI (ps b n i))) = some (nI lo, sI (sI M 0 22 v) 0 23 (nI (ps b n i))) := by
    intro v hv
    unfold f_X10_numeral_46
    rw [if_neg (by rw [sI1, if_neg (by omega), sI1, if_pos ⟨rfl, rfl⟩]; exact hv)]
  unfold f_X10_numeral
  rw [if_pos h22]
  by_cases k1 : tkd b n (ps b n i) = 2
  · obtain ⟨c1, c2, c3⟩ := num_like hb2 k1
    have h21 := (h.2.2.2.2.2.1 k1).2
    have go41 : f_X10_numeral_41 (nI lo) M = some (nI lo, sI (sI M 0 22 2) 0 23 (nI (ps b n i))) := by
      unfold f_X10_numeral_41
      rw [wrongR_M h h22, Option.bind_some, idle 2 (by decide)]
    rw [if_pos ((tk20_2 h.2.2.2).mpr k1), if_pos k1, h21]
    by_cases y : nvM b (ps b n i) (eDg b n (ps b n i) - ps b n i) < lo
    · rw [if_pos (nI_lt y (by omega))]; exact go41
    · rw [if_neg (Int32.not_lt.mpr (nI_le (by omega) (by omega)))]
      have z : ¬ nvM b (ps b n i) (eDg b n (ps b n i) - ps b n i) ≤ hi := fun z => hok ⟨k1, by omega, by omega⟩
      rw [if_neg (nI_ge (by omega) (by omega))]; exact go41
  · rw [if_neg (fun e => k1 ((tk20_2 h.2.2.2).mp e)), if_neg k1, wrongR_M h h22, Option.bind_some, idle 1 (by decide)]
end NMR
