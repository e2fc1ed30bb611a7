/-! PURE 56: a law's E: the reference's pieces -/
section LAWN
variable {M M' : Mem} {b : Nat → Nat} {n m i a0 k op kn : Nat} {o : List Nat}
def MSt (M : Mem) (b : Nat → Nat) (n a0 i : Nat) (o : List Nat) (op kn : Nat) : Prop :=
  tkA M b n i ∧ M.1 0 22 = 0 ∧ M.1 0 26 = nI op ∧ M.1 0 27 = nI kn ∧ M.1 2 13 = nI (a0 + o.length) ∧ a0 + o.length ≤ kn ∧ kn ≤ 64 ∧ op ≤ 8 ∧ (∀ j, j < o.length → M.1 12 (64 + a0 + j) = nI (ks (o.getD j 0)) ∧ M.1 13 (64 + a0 + j) = nI (kv (o.getD j 0))) ∧ M.1 0 23 = -1
def mL (a0 : Nat) (M M' : Mem) : Prop := ∀ c i, ¬ (c = 0 ∧ 18 ≤ i ∧ i ≤ 23) → ¬ (c = 0 ∧ (i = 26 ∨ i = 27)) → ¬ (c = 2 ∧ i = 13) → ¬ ((c = 12 ∨ c = 13) ∧ 64 + a0 ≤ i) → M'.1 c i = M.1 c i
theorem mL_rf (a0 : Nat) (M : Mem) : mL a0 M M := fun _ _ _ _ _ _ => rfl
theorem mL_tr {M1 M2 : Mem} (h : mL a0 M M1) (h' : mL a0 M1 M2) : mL a0 M M2 := fun c i h1 h2 h3 h4 => (h' c i h1 h2 h3 h4).trans (h c i h1 h2 h3 h4)
theorem mL_q (h : frQ M M') : mL a0 M M' := fun c i h1 _ _ _ => h c i (by omega)
theorem mL_s (h : mL a0 M M') {c i : Nat} {v : Int32} (e : (c = 0 ∧ 18 ≤ i ∧ i ≤ 23) ∨ (c = 0 ∧ (i = 26 ∨ i = 27)) ∨ (c = 2 ∧ i = 13) ∨ ((c = 12 ∨ c = 13) ∧ 64 + a0 ≤ i)) : mL a0 M (sI M' c i v) :=
  fun c' i' h1 h2 h3 h4 => by rw [sI1, if_neg (fun z => by obtain ⟨rfl, rfl⟩ := z; omega)]; exact h c' i' h1 h2 h3 h4
def eMk (b : Nat → Nat) (n m : Nat) : Prop := ps b n m = n ∧ m ≤ n
theorem eMk_lt (h : eMk b n m) (hi : i ≤ m) (hk : tK b n i ≠ 0) : i < m := by
  rcases Nat.lt_or_ge i m with z | z
  · exact z
  · exfalso
    have : i = m := by omega
    subst this
    apply hk
    unfold tK
    rw [h.1]
    unfold tkd
    rw [if_neg (Nat.lt_irrefl _)]
theorem sgM_i : ∀ k, k < 17 → 4 ≤ k → ∀ j, j < 17 → 4 ≤ j → (nI (sgM k) = nI (sgM j) ↔ k = j) := by decide +kernel
theorem rfJ_i : ∀ k, k < 22 → ∀ j, j < 22 → (nI (rfJ k) = nI (rfJ j) ↔ k = j) := by decide +kernel
theorem sgM_r : ∀ k, k < 17 → 7 ≤ k → nI (sgM k) = nI (rv k) := by decide +kernel
/-- the token's sort -/
theorem sort_M (h : tkA M b n i) : (M.1 0 20 = 3 ↔ 4 ≤ tK b n i ∧ tK b n i < 17) ∧ (M.1 0 20 = 0 ↔ 17 ≤ tK b n i) ∧ (M.1 0 20 = 2 ↔ tK b n i = 2) ∧ (M.1 0 20 = 1 ↔ tK b n i = 3) ∧ (M.1 0 20 = 4 ↔ tK b n i = 0) := by
  obtain ⟨h0, h1, h2, h3, h4, h5⟩ := h.2.2.2
  have : tK b n i = 0 ∨ tK b n i = 1 ∨ tK b n i = 2 ∨ tK b n i = 3 ∨ (4 ≤ tK b n i ∧ tK b n i < 17) ∨ 17 ≤ tK b n i := by omega
  rcases this with z | z | z | z | z | z
  · rw [h0 z, z]; decide
  · rw [h1 z, z]; decide
  · rw [(h2 z).1, z]; decide
  · rw [(h3 z).1, z]; decide
  · rw [(h4 z.1 z.2).1]
    refine ⟨⟨fun _ => z, fun _ => rfl⟩, ⟨fun e => absurd e (by decide), fun e => by omega⟩, ⟨fun e => absurd e (by decide), fun e => by omega⟩, ⟨fun e => absurd e (by decide), fun e => by omega⟩, ⟨fun e => absurd e (by decide), fun e => by omega⟩⟩
  · rw [(h5 z).1]
    refine ⟨⟨fun e => absurd e (by decide), fun e => by omega⟩, ⟨fun _ => z, fun _ => rfl⟩, ⟨fun e => absurd e (by decide), fun e => by omega⟩, ⟨fun e => absurd e (by decide), fun e => by omega⟩, ⟨fun e => absurd e (by decide), fun e => by omega⟩⟩
theorem val_s (h : tkA M b n i) (h1 : 4 ≤ tK b n i) (h2 : tK b n i < 17) : M.1 0 21 = nI (sgM (tK b n i)) := (h.2.2.2.2.2.2.2.1 h1 h2).2
theorem val_w (h : tkA M b n i) (h1 : 17 ≤ tK b n i) : M.1 0 21 = nI (rfJ (tK b n i - 17)) := (h.2.2.2.2.2.2.2.2 h1).2
theorem isSign_M (h : tkA M b n i) (h22 : M.1 0 22 = 0) (hk : 4 ≤ k) (hk2 : k < 17) : f_X10_isSign (nI (sgM k)) M = some (if tK b n i = k then 1 else 0, M) := by
  unfold f_X10_isSign
  rw [if_pos h22]
  by_cases z : 4 ≤ tK b n i ∧ tK b n i < 17
  · rw [if_pos ((sort_M h).1.mpr z), val_s h z.1 z.2]
    by_cases y : tK b n i = k
    · rw [y, if_pos rfl, if_pos rfl]
    · rw [if_neg y, if_neg (fun e => y ((sgM_i _ z.2 z.1 k hk2 hk).mp e))]
  · rw [if_neg (fun e => z ((sort_M h).1.mp e)), if_neg (by omega)]
theorem isWord_M (h : tkA M b n i) (hb2 : ∀ i, i < n → b i < 256) (h22 : M.1 0 22 = 0) (hk : k < 22) : f_X10_isWord (nI (rfJ k)) M = some (if tK b n i = k + 17 then 1 else 0, M) := by
  have hb : tK b n i < 39 := by
    have := wkN_b
    unfold tK tkd
    by_cases hp : ps b n i < n
    · rw [if_pos hp]
      by_cases h1 : isLt (b (ps b n i)) = true
      · rw [if_pos h1]
        by_cases h2 : eLt b n (ps b n i) - ps b n i ≤ 6
        · rw [if_pos h2]
          unfold wkN
          split
          · rename_i k hk
            have := List.mem_range.mp (List.mem_of_find?_eq_some hk)
            omega
          · omega
        · rw [if_neg h2]; omega
      · rw [if_neg h1]
        by_cases h2 : isDg (b (ps b n i)) = true
        · rw [if_pos h2]; omega
        · rw [if_neg h2]
          rcases sgK_b (n := n) (hb2 _ hp) with z | z <;> omega
    · rw [if_neg hp]; omega
  unfold f_X10_isWord
  rw [if_pos h22]
  by_cases z : 17 ≤ tK b n i
  · rw [if_pos ((sort_M h).2.1.mpr z), val_w h z]
    by_cases y : tK b n i = k + 17
    · rw [if_pos y, if_pos (by rw [y, show k + 17 - 17 = k by omega])]
    · rw [if_neg y, if_neg (fun e => y (by have := (rfJ_i _ (by omega) k hk).mp e; omega))]
  · rw [if_neg (fun e => z ((sort_M h).2.1.mp e)), if_neg (by omega)]
theorem isSign_i {v : Int32} (h22 : M.1 0 22 ≠ 0) : f_X10_isSign v M = some (0, M) := by
  unfold f_X10_isSign
  rw [if_neg h22]
theorem isWord_i {v : Int32} (h22 : M.1 0 22 ≠ 0) : f_X10_isWord v M = some (0, M) := by
  unfold f_X10_isWord
  rw [if_neg h22]
theorem knot_i (h22 : M.1 0 22 ≠ 0) : f_X10_knot M = some M := by
  unfold f_X10_knot
  rw [if_neg h22]
theorem puts_i {v w : Int32} (h22 : M.1 0 22 ≠ 0) : f_X10_puts v w M = some M := by
  unfold f_X10_puts
  rw [if_neg h22]
theorem tkA_s (h : tkA M b n i) {c j : Nat} {v : Int32} (e : c ≠ 1 ∧ ¬ (c = 0 ∧ 17 ≤ j ∧ j ≤ 21)) : tkA (sI M c j v) b n i :=
  tkA_to h (fun c' j' q => by rw [sI1, if_neg (fun z => by obtain ⟨rfl, rfl⟩ := z; omega)])
theorem knot_M (h : MSt M b n a0 i o op kn) (hk : kn < 64) : ∃ M', f_X10_knot M = some M' ∧ MSt M' b n a0 i o op (kn + 1) ∧ mL a0 M M' := by
  obtain ⟨h1, h2, h3, h4, h5, h6, h7, h8, h9, hx⟩ := h
  refine ⟨sI M 0 27 (nI (kn + 1)), ?_, ⟨tkA_s h1 (by omega), ?_, ?_, ?_, ?_, by omega, by omega, h8, fun j hj => ?_, by rw [sI1, if_neg (by omega)]; exact hx⟩, mL_s (mL_rf a0 M) (by omega)⟩
  · unfold f_X10_knot
    rw [if_pos h2, h4, if_neg (show ¬ nI kn = 64 from fun e => by have := (nI_eq (b := 64) (by omega) (by omega)).mp e; omega), nxt_eq, nI_1]
  · rw [sI1, if_neg (by omega)]; exact h2
  · rw [sI1, if_neg (by omega)]; exact h3
  · rw [sI1, if_pos ⟨rfl, rfl⟩]
  · rw [sI1, if_neg (by omega)]; exact h5
  · rw [sI1, if_neg (by omega), sI1, if_neg (by omega)]; exact h9 j hj
/-- a fault -/
def MFl (M : Mem) (b : Nat → Nat) (n : Nat) (p : Nat × Nat) : Prop := M.1 0 22 = nI p.1 ∧ (1 ≤ p.1 ∧ p.1 ≤ 4) ∧ M.1 0 23 = nI (ps b n p.2)
theorem MFl_i {p : Nat × Nat} (h : MFl M b n p) : M.1 0 22 ≠ 0 := by
  rw [h.1]
  intro e
  have := (nI_eq (b := 0) (by have := h.2.1.2; omega) (by omega)).mp e
  have := h.2.1.1
  omega
theorem wrong_M (h : tkA M b n i) (h22 : M.1 0 22 = 0) {f : Nat} (h1 : 1 ≤ f) (h2 : f ≤ 4) : ∃ M', f_X10_wrong (nI f) M = some M' ∧ MFl M' b n (f, i) ∧ mL a0 M M' :=
  ⟨_, wrongR_M h h22 _, ⟨by rw [sI1, if_neg (by omega), sI1, if_pos ⟨rfl, rfl⟩], ⟨h1, h2⟩, by rw [sI1, if_pos ⟨rfl, rfl⟩]⟩, mL_s (mL_s (mL_rf a0 M) (by omega)) (by omega)⟩
theorem knot_w (h : MSt M b n a0 i o op kn) (hk : ¬ kn < 64) : ∃ M', f_X10_knot M = some M' ∧ MFl M' b n (2, i) ∧ mL a0 M M' := by
  obtain ⟨h1, h2, h3, h4, h5, h6, h7, h8, h9, hx⟩ := h
  obtain ⟨M', q1, q2, q3⟩ := wrong_M (a0 := a0) h1 h2 (f := 2) (by omega) (by omega)
  refine ⟨M', ?_, q2, q3⟩
  have q1 : f_X10_wrong 2 M = some M' := q1
  have : kn = 64 := by omega
  unfold f_X10_knot
  rw [if_pos h2, h4, this, if_pos (show nI 64 = (64 : Int32) from rfl), q1, Option.bind_some]
theorem goOn_S (h : MSt M b n a0 i o op kn) (hb2 : ∀ i, i < n → b i < 256) (hn : n ≤ 700) : ∃ M', f_X10_goOn M = some M' ∧ MSt M' b n a0 (i + 1) o op kn ∧ mL a0 M M' := by
  obtain ⟨h1, h2, h3, h4, h5, h6, h7, h8, h9, hx⟩ := h
  obtain ⟨M', q1, q2, q3⟩ := goOn_M h1 h2 hb2 hn
  have e : ∀ c j, ¬ (c = 0 ∧ 18 ≤ j ∧ j ≤ 21) → M'.1 c j = M.1 c j := q3
  exact ⟨M', q1, ⟨q2, by rw [e 0 22 (by omega)]; exact h2, by rw [e 0 26 (by omega)]; exact h3, by rw [e 0 27 (by omega)]; exact h4, by rw [e 2 13 (by omega)]; exact h5, h6, h7, h8, fun j hj => by rw [e 12 _ (by omega), e 13 _ (by omega)]; exact h9 j hj, by rw [e 0 23 (by omega)]; exact hx⟩, mL_q q3⟩
theorem puts_M (h : MSt M b n a0 i o op kn) (ho : a0 + o.length < kn) (k : Nat) : ∃ M', f_X10_puts (nI (ks k)) (nI (kv k)) M = some M' ∧ MSt M' b n a0 i (o ++ [k]) op kn ∧ mL a0 M M' := by
  obtain ⟨h1, h2, h3, h4, h5, h6, h7, h8, h9, hx⟩ := h
  have fr : ∀ Q : Mem, Q.1 2 13 = nI (a0 + o.length) → f_X10_fresher 6 Q = some (nI (a0 + o.length), Q) := by
    intro Q hQ
    unfold f_X10_fresher
    rw [show (7 : Int32) + 6 = nI 13 from by decide, rdN (by omega) (by omega), Option.bind_some, hQ]
  have ix : (64 : Int32) + nI (a0 + o.length) = nI (64 + a0 + o.length) := by
    rw [show (64 : Int32) = nI 64 from rfl, nI_add]
    congr 1
    omega
  have e1 : (sI M 12 (64 + a0 + o.length) (nI (ks k))).1 2 13 = nI (a0 + o.length) := by rw [sI1, if_neg (by omega)]; exact h5
  have e2 : (sI (sI M 12 (64 + a0 + o.length) (nI (ks k))) 13 (64 + a0 + o.length) (nI (kv k))).1 2 13 = nI (a0 + o.length) := by rw [sI1, if_neg (by omega)]; exact e1
  refine ⟨sI (sI (sI M 12 (64 + a0 + o.length) (nI (ks k))) 13 (64 + a0 + o.length) (nI (kv k))) 2 13 (nI (a0 + o.length + 1)), ?_, ⟨tkA_s (tkA_s (tkA_s h1 (by omega)) (by omega)) (by omega), ?_, ?_, ?_, ?_, ?_, h7, h8, fun j hj => ?_, by simp only [sI1]; simp; exact hx⟩, mL_s (mL_s (mL_s (mL_rf a0 M) (by omega)) (by omega)) (by omega)⟩
  · unfold f_X10_puts
    rw [if_pos h2, fr M h5, bnd_some, ix, wrN (by omega) (by omega), Option.bind_some, fr _ e1, bnd_some, ix, wrN (by omega) (by omega), Option.bind_some, fr _ e2, bnd_some]
    unfold f_X10_reads
    rw [show (7 : Int32) + 6 = nI 13 from by decide, wrN (by omega) (by omega), Option.bind_some, Option.bind_some, nI_1]
  · simp only [sI1]; simp; exact h2
  · simp only [sI1]; simp; exact h3
  · simp only [sI1]; simp; exact h4
  · rw [sI1, if_pos ⟨rfl, rfl⟩, List.length_append]; rfl
  · rw [List.length_append, List.length_singleton]; omega
  · rw [List.length_append, List.length_singleton] at hj
    have g : (o ++ [k]).getD j 0 = if j = o.length then k else o.getD j 0 := by
      by_cases z : j = o.length
      · rw [if_pos z, z]; simp
      · rw [if_neg z]
        simp only [List.getD_eq_getElem?_getD]
        rw [List.getElem?_append_left (by omega)]
    rw [g]
    refine ⟨?_, ?_⟩
    · rw [sI1, if_neg (by omega), sI1, if_neg (by omega), sI1]
      by_cases z : j = o.length
      · rw [if_pos ⟨rfl, by omega⟩, if_pos z]
      · rw [if_neg (by omega), if_neg z]; exact (h9 j (by omega)).1
    · rw [sI1, if_neg (by omega), sI1]
      by_cases z : j = o.length
      · rw [if_pos ⟨rfl, by omega⟩, if_pos z]
      · rw [if_neg (by omega), if_neg z, sI1, if_neg (by omega)]; exact (h9 j (by omega)).2
end LAWN
