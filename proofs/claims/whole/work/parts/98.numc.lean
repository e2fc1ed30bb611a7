/-! PURE 49: the text: a number asked for, by the class -/
section NMC
variable {C M S : Mem} {b : Nat → Nat} {n p i m : Nat}
theorem lt_m (h : tkC S b n m) (hi : i ≤ m) (hk : tkd b n (ps b n i) ≠ 0) : i < m := by
  rcases Nat.lt_or_ge i m with z | z
  · exact z
  · exfalso
    have : i = m := by omega
    subst this
    apply hk
    rw [h.2.1]
    unfold tkd
    rw [if_neg (Nat.lt_irrefl _)]
theorem readNum_C (h : tkC S b n m) (hn : n ≤ 700) (hb2 : ∀ i, i < n → b i < 256) (h5 : S.1 3 5 = nI i) (hi : i ≤ m) {a1 n1 j lo hi' : Nat} (hj : j < n1) (hn1 : n1 ≤ 1000) (ha : a1 ≠ 3) (hh : hi' ≤ 99999) (hl : lo ≤ hi') (hok : numOk b n (ps b n i) lo hi') :
    f_X4_readNumber a1 n1 (nI j) (nI lo) (nI hi') S = some (1, sI (sI S a1 j (nI (tvC b n (ps b n i)))) 3 5 (nI (i + 1))) := by
  obtain ⟨k1, k2, k3⟩ := hok
  have him := lt_m h hi (by omega)
  have c1 := (num_like hb2 k1).1
  have hv := valR_C h hn h5 him
  have e5 : (sI S a1 j (nI (tvC b n (ps b n i)))).1 3 5 = nI i := by rw [sI1, if_neg (by omega)]; exact h5
  unfold f_X4_readNumber
  rw [kindR_C h hn h5 hi, bnd_some, k1, if_pos (show nI 2 = (2 : Int32) from rfl), hv, bnd_some, if_neg (Int32.not_lt.mpr (nI_le k2 (by omega))), hv, bnd_some, if_pos (nI_le k3 (by omega)), hv, bnd_some, wrN hj hn1, Option.bind_some, nxt_eq, e5, nI_1]
theorem readNum_w (h : tkC S b n m) (hn : n ≤ 700) (hb2 : ∀ i, i < n → b i < 256) (h5 : S.1 3 5 = nI i) (hi : i ≤ m) {a1 n1 : Nat} {v2 : Int32} {lo hi' : Nat} (hh : hi' ≤ 99999) (hl : lo ≤ hi') (hok : ¬ numOk b n (ps b n i) lo hi') :
    f_X4_readNumber a1 n1 v2 (nI lo) (nI hi') S = some (0, sI (sI S 3 2 (if tkd b n (ps b n i) = 2 then 2 else 1)) 3 3 (nI (ps b n i))) := by
  have hw := fun v => wrongR_C h hn h5 hi v
  unfold f_X4_readNumber
  rw [kindR_C h hn h5 hi, bnd_some]
  by_cases k1 : tkd b n (ps b n i) = 2
  · have him := lt_m h hi (by omega)
    have c1 := (num_like hb2 k1).1
    have hv := valR_C h hn h5 him
    have go : f_X4_readNumber_31 a1 n1 S = some (0, sI (sI S 3 2 2) 3 3 (nI (ps b n i))) := by
      unfold f_X4_readNumber_31
      rw [hw, bnd_some]
      rfl
    rw [if_pos k1, k1, if_pos (show nI 2 = (2 : Int32) from rfl), hv, bnd_some]
    by_cases y : tvC b n (ps b n i) < lo
    · rw [if_pos (nI_lt y (by omega))]; exact go
    · rw [if_neg (Int32.not_lt.mpr (nI_le (by omega) (by omega))), hv, bnd_some]
      have z : ¬ tvC b n (ps b n i) ≤ hi' := fun z => hok ⟨k1, by omega, z⟩
      rw [if_neg (nI_ge (by omega) (by omega))]; exact go
  · have hk : tkd b n (ps b n i) < 2 ^ 31 := by
      unfold tkd
      by_cases hp : ps b n i < n
      · rw [if_pos hp]
        by_cases h1 : isLt (b (ps b n i)) = true
        · rw [if_pos h1]
          by_cases h2 : eLt b n (ps b n i) - ps b n i ≤ 6
          · rw [if_pos h2]
            unfold wkN
            split
            · rename_i k hk
              have := List.mem_range.mp (List.mem_of_find?_eq_some hk)
              omega
            · omega
          · rw [if_neg h2]; omega
        · rw [if_neg h1]
          by_cases h2 : isDg (b (ps b n i)) = true
          · rw [if_pos h2]; omega
          · rw [if_neg h2]
            rcases sgK_b (n := n) (hb2 _ hp) with z | z <;> omega
      · rw [if_neg hp]; omega
    rw [if_neg (show ¬ nI (tkd b n (ps b n i)) = 2 from fun e => k1 ((nI_eq (b := 2) hk (by omega)).mp e)), if_neg k1, hw, bnd_some]
    rfl
end NMC
