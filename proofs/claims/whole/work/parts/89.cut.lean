/-! PURE 40: the text cut into tokens, by the class -/
section CUT
variable {C M S : Mem} {b : Nat → Nat} {n p q m : Nat}
def tvC (b : Nat → Nat) (n p : Nat) : Nat := if isLt (b p) = true then cdW b p (eLt b n p) 6 else if isDg (b p) = true then nvC b p (eDg b n p - p) else 0
def frK (S S' : Mem) : Prop := (∀ c i, ¬ (c = 4 ∧ i = 3) → c ≠ 5 → c ≠ 6 → c ≠ 7 → S'.1 c i = S.1 c i) ∧ S'.2 = S.2
theorem frK_rf (S : Mem) : frK S S := ⟨fun _ _ _ _ _ _ => rfl, rfl⟩
theorem frK_tr {S S1 S2 : Mem} (h : frK S S1) (h' : frK S1 S2) : frK S S2 := ⟨fun c i a1 a2 a3 a4 => (h'.1 c i a1 a2 a3 a4).trans (h.1 c i a1 a2 a3 a4), h'.2.trans h.2⟩
def stC (S : Mem) (b : Nat → Nat) (n m : Nat) : Prop := S.1 4 3 = nI m ∧ ∀ i, i < m → ps b n i < n ∧ S.1 5 i = nI (tkd b n (ps b n i)) ∧ S.1 6 i = nI (ps b n i) ∧ S.1 7 i = nI (tvC b n (ps b n i))
theorem addK_C (h3 : S.1 4 3 = nI m) (hm : m ≤ 700) (k v w : Int32) : wp (f_X6_add k v w S) (fun S' => S'.1 4 3 = nI (m + 1) ∧ S'.1 5 m = k ∧ S'.1 6 m = v ∧ S'.1 7 m = w ∧ (∀ i, i ≠ m → S'.1 5 i = S.1 5 i ∧ S'.1 6 i = S.1 6 i ∧ S'.1 7 i = S.1 7 i) ∧ frK S S') := by
  unfold f_X6_add
  refine wp_neg (by rw [h3]; exact Int32.not_lt.mpr (nI_le (b := 700) hm (by omega))) ?_
  refine wp_wr m h3 (by omega) ?_
  refine wp_wr m (by rw [sI_off (by omega)]; exact h3) (by omega) ?_
  refine wp_wr m (by rw [sI_off (by omega), sI_off (by omega)]; exact h3) (by omega) ?_
  refine wp_nxt (wp_some ⟨?_, ?_, ?_, ?_, fun i hi => ⟨?_, ?_, ?_⟩, fun c i a1 a2 a3 a4 => ?_, rfl⟩)
  · rw [sI1, if_pos ⟨rfl, rfl⟩, sI_off (by omega), sI_off (by omega), sI_off (by omega), h3, nI_1]
  · rw [sI_off (by omega), sI_off (by omega), sI_off (by omega), sI1, if_pos ⟨rfl, rfl⟩]
  · rw [sI_off (by omega), sI_off (by omega), sI1, if_pos ⟨rfl, rfl⟩]
  · rw [sI_off (by omega), sI1, if_pos ⟨rfl, rfl⟩]
  · rw [sI_off (by omega), sI_off (by omega), sI_off (by omega), sI1, if_neg (by omega)]
  · rw [sI_off (by omega), sI_off (by omega), sI1, if_neg (by omega), sI_off (by omega)]
  · rw [sI_off (by omega), sI1, if_neg (by omega), sI_off (by omega), sI_off (by omega)]
  · rw [sI1, if_neg a1, sI_off a4, sI_off a3, sI_off a2]
theorem addT_C (h : stC S b n m) (hp : ps b n m = p) (hpn : p < n) (hm : m ≤ 700) {k w : Nat} (ek : k = tkd b n p) (ew : w = tvC b n p) : wp (f_X6_add (nI k) (nI p) (nI w) S) (fun S' => stC S' b n (m + 1) ∧ frK S S') := by
  refine wp_mono (addK_C h.1 hm _ _ _) ?_
  rintro S' ⟨a1, a2, a3, a4, a5, a6⟩
  refine ⟨⟨a1, fun i hi => ?_⟩, a6⟩
  by_cases e : i = m
  · subst e
    rw [hp]
    exact ⟨hpn, by rw [a2, ek], a3, by rw [a4, ew]⟩
  · obtain ⟨b1, b2, b3⟩ := a5 i e
    rw [b1, b2, b3]
    exact h.2 i (by omega)
theorem isD_C {x : Nat} (hx : x < 256) : f_X6_isDigit (nI x) S = some (if isDg x = true then 1 else 0, S) := by
  unfold f_X6_isDigit
  by_cases h1 : x < 48
  · rw [if_pos (show nI x < 48 from nI_lt (b := 48) h1 (by omega)), if_neg (by unfold isDg; simp; omega)]
  · rw [if_neg (show ¬ nI x < 48 from Int32.not_lt.mpr (nI_le (a := 48) (by omega) (by omega)))]
    by_cases h2 : 57 < x
    · rw [if_pos (show 57 < nI x from nI_lt (a := 57) h2 (by omega)), if_neg (by unfold isDg; simp; omega)]
    · rw [if_neg (show ¬ 57 < nI x from Int32.not_lt.mpr (nI_le (b := 57) (by omega) (by omega))), if_pos (by unfold isDg; simp; omega)]
theorem cutNum_C (hb : ∀ i, i < n → S.1 2 i = nI (b i)) (hb2 : ∀ i, i < n → b i < 256) (hn : n ≤ 700) (hp : p ≤ n) {P : Int32 × Mem → Prop} (hq : q = eDg b n p) (h : wp (f_X6_cutNumber_48 2 700 (nI p) (nI q) (nI (nvC b p (q - p))) S) P) : wp (f_X6_cutNumber 2 700 (nI p) (nI n) S) P := by
  unfold f_X6_cutNumber
  unfold eDg at hq
  obtain ⟨l1, l2, l3⟩ := spn_le isDg b (n - p) p
  have he : q < n → isDg (b q) = false := fun z => by rw [hq]; exact spn_end isDg b (n - p) p (by omega)
  rw [← hq] at l1 l2 l3
  refine lpF (fun fuel i (v5 : Int32) => f_X6_cutNumber_6 2 700 fuel (nI p) (nI n) i v5 S) p q (fun i v5 => p ≤ i ∧ v5 = nI (nvC b p (i - p))) l1 (by omega) 0 ⟨Nat.le_refl _, by rw [Nat.sub_self]; rfl⟩ ?_ ?_
  · rintro fuel v5 ⟨-, rfl⟩
    show wp (f_X6_cutNumber_6 2 700 (fuel + 1) (nI p) (nI n) (nI q) (nI (nvC b p (q - p))) S) P
    unfold f_X6_cutNumber_6
    refine wp_if (fun _ => h) (fun z => ?_)
    have z : q < n := by
      rcases Nat.lt_or_ge q n with y | y
      · exact y
      · exact absurd (nI_le y (by omega)) z
    refine wp_rd q rfl (by omega) (hb q z) ?_
    refine wp_bnde (isD_C (hb2 q z)) ?_
    rw [he z]
    exact wp_pos rfl h
  · rintro fuel i v5 hi ⟨hpi, rfl⟩ ih
    try simp only at ih
    show wp (f_X6_cutNumber_6 2 700 (fuel + 1) (nI p) (nI n) (nI i) (nI (nvC b p (i - p))) S) P
    unfold f_X6_cutNumber_6
    have hin : i < n := by omega
    have hdg := l3 i hpi hi
    have hd2 := hdg
    unfold isDg at hd2
    simp only [decide_eq_true_eq] at hd2
    refine wp_neg (nI_ge hin (by omega)) ?_
    refine wp_rd i rfl (by omega) (hb i hin) ?_
    refine wp_bnde (isD_C (hb2 i hin)) ?_
    rw [if_pos hdg]
    refine wp_neg n10 ?_
    refine wp_rd i rfl (by omega) (hb i hin) ?_
    have hc := nv_C b p (i - p)
    have e : nI (nvC b p (i - p)) * 10 + nI (b i) - 48 = nI (nvC b p (i - p) * 10 + (b i - 48)) := by
      rw [show (10 : Int32) = nI 10 from rfl, pk_mul, nI_add, show (48 : Int32) = nI 48 from rfl, pk_sub (by omega)]
      congr 1
      omega
    rw [e]
    have em : f_J9_min_7cf53 1000000 (nI (nvC b p (i - p) * 10 + (b i - 48))) S = some (nI (nvC b p (i + 1 - p)), S) := by
      unfold f_J9_min_7cf53
      rw [show i + 1 - p = (i - p) + 1 by omega]
      show _ = some (nI (if nvC b p (i - p) * 10 + (b (p + (i - p)) - 48) < 1000000 then nvC b p (i - p) * 10 + (b (p + (i - p)) - 48) else 1000000), S)
      rw [show p + (i - p) = i by omega]
      by_cases z : nvC b p (i - p) * 10 + (b i - 48) < 1000000
      · rw [if_pos z, if_pos (show nI (nvC b p (i - p) * 10 + (b i - 48)) < 1000000 from nI_lt (b := 1000000) z (by omega))]
      · rw [if_neg z, if_neg (show ¬ nI (nvC b p (i - p) * 10 + (b i - 48)) < 1000000 from Int32.not_lt.mpr (nI_le (a := 1000000) (by omega) (by omega)))]
        rfl
    refine wp_bnde em ?_
    rw [nI_1]
    exact ih _ ⟨by omega, rfl⟩
end CUT
