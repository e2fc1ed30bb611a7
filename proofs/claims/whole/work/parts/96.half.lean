/-! PURE 47: the text: the second halves taken, by the reference -/
section HLF
variable {S : Mem} {a h n0 : Nat}
theorem half_M (hd : dv (nI n0) 2 = some (nI h)) (hh : h ≤ 64) (hn : n0 = 2 * h) : wp (f_X10_half a n0 S) (fun S' => ∀ c i, S'.1 c i = if c = a ∧ i < h then S.1 a (h + i) else S.1 c i) := by
  unfold f_X10_half
  refine wp_bde hd ?_
  refine lp0 (fun fuel i S => f_X10_half_7 a n0 fuel (nI h) i S) h (fun j S' => ∀ c i, S'.1 c i = if c = a ∧ i < j then S.1 a (h + i) else S.1 c i) (by omega) S (fun c i => by rw [if_neg (by omega)]) ?_ ?_
  · rintro fuel S' hS
    show wp (f_X10_half_7 a n0 (fuel + 1) (nI h) (nI h) S') _
    unfold f_X10_half_7
    exact wp_pos (Int32.le_refl _) (wp_some hS)
  · rintro fuel j S' hj hS ih
    try simp only at ih
    show wp (f_X10_half_7 a n0 (fuel + 1) (nI h) (nI j) S') _
    unfold f_X10_half_7
    refine wp_neg (nI_ge hj (by omega)) ?_
    refine wp_rd (h + j) (nI_add h j) (by omega) (v := S.1 a (h + j)) (by rw [hS, if_neg (by omega)]) ?_ (by omega)
    refine wp_wr j rfl (by omega) ?_ (by omega)
    rw [nI_1]
    refine ih _ (fun c i => ?_)
    rw [sI1]
    by_cases z : c = a ∧ i = j
    · rw [if_pos z, if_pos ⟨z.1, by omega⟩, z.2]
    · rw [if_neg z, hS]
      by_cases y : c = a ∧ i < j
      · rw [if_pos y, if_pos ⟨y.1, by omega⟩]
      · rw [if_neg y, if_neg (by omega)]
theorem dv_14 : dv (nI 14) 2 = some (nI 7) := by decide +kernel
theorem dv_12 : dv (nI 12) 2 = some (nI 6) := by decide +kernel
theorem dv_20 : dv (nI 20) 2 = some (nI 10) := by decide +kernel
theorem dv_6 : dv (nI 6) 2 = some (nI 3) := by decide +kernel
theorem dv_128 : dv (nI 128) 2 = some (nI 64) := by decide +kernel
end HLF
