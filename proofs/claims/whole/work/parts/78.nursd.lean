/-! PURE 29: nursing by the class, its search -/
section NUD
variable {C M S : Mem} {N : TN} {T : WS} {L : LWS} {W : WS} {nu : Nat → Nat} {cf : Nat → Int32} {ds ns : List Nat}
theorem gd_e {l : List Nat} {j : Nat} (h : j < l.length) : l.getD j 0 = l[j] := by simp [List.getD, h]
theorem nuSet_d {row : List Nat} {j d : Nat} (h1 : j < ds.length) (h2 : j < row.length) : nuSet nu (ds.drop j) (row.drop j) d = if d = ds.getD j 0 then row.getD j 0 else nuSet nu (ds.drop (j + 1)) (row.drop (j + 1)) d := by
  rw [List.drop_eq_getElem_cons h1, List.drop_eq_getElem_cons h2, gd_e h1, gd_e h2]
  rfl
theorem nuSet_n : ∀ (ds row : List Nat) (d : Nat), d ∉ ds → nuSet nu ds row d = nu d := by
  intro ds
  induction ds with
  | nil => intro row d _; rfl
  | cons e ds ih =>
    intro row d h
    cases row with
    | nil => rfl
    | cons a row =>
      show (if d = e then a else nuSet nu ds row d) = nu d
      rw [if_neg (fun q => h (by rw [q]; exact List.mem_cons_self))]
      exact ih row d (fun q => h (List.mem_cons_of_mem _ q))
theorem nuSet_at : ∀ (ds row : List Nat), ds.Nodup → row.length = ds.length → ∀ i, i < ds.length → nuSet nu ds row (ds.getD i 0) = row.getD i 0 := by
  intro ds
  induction ds with
  | nil => intro row _ _ i hi; cases hi
  | cons e ds ih =>
    intro row hd hl i hi
    cases row with
    | nil => cases hl
    | cons a row =>
      rw [List.nodup_cons] at hd
      cases i with
      | zero =>
        show (if e = e then a else _) = a
        rw [if_pos rfl]
      | succ i =>
        have hi : i < ds.length := by simpa using hi
        show (if ds.getD i 0 = e then a else nuSet nu ds row (ds.getD i 0)) = row.getD i 0
        rw [if_neg]
        · exact ih row hd.2 (by simpa using hl) i hi
        · intro q
          apply hd.1
          rw [← q, gd_e hi]
          exact List.getElem_mem hi
/-- what the search has found out, and keeps -/
def nsW (S : Mem) (ds ns : List Nat) : Prop := S.1 88 0 = nI ds.length ∧ S.1 88 5 = nI ns.length ∧ (∀ j, j < ds.length → S.1 90 j = nI (ds.getD j 0)) ∧ (∀ j, j < ns.length → S.1 91 j = nI (ns.getD j 0))
theorem nsW_to {S' : Mem} (h : nsW S ds ns) (e : ∀ c i, (c = 88 ∧ (i = 0 ∨ i = 5)) ∨ c = 90 ∨ c = 91 → S'.1 c i = S.1 c i) : nsW S' ds ns := by
  obtain ⟨h1, h2, h3, h4⟩ := h
  exact ⟨by rw [e _ _ (by omega)]; exact h1, by rw [e _ _ (by omega)]; exact h2, fun j hj => by rw [e _ _ (by omega)]; exact h3 j hj, fun j hj => by rw [e _ _ (by omega)]; exact h4 j hj⟩
theorem give_C (hnd : N 0 1 ≤ 10) (hns : nsW S ds ns) (hk : ds.length ≤ 4) (hm : ns.length ≤ 6) (hds : ∀ d ∈ ds, d < N 0 1) (hkm : ds.length = 0 ∨ 0 < ns.length) (hR : RC 69 S N W nu cf) {w : Nat} (hw : w < ns.length ^ ds.length) (hw2 : w < 2000) :
    wp (f_X3_giveBy 69 (nI w) S) (fun Z => RC 69 Z N W (nuSet nu ds (digs ns ds.length w)) cf ∧ (∀ c i, c ≠ 70 → Z.1 c i = S.1 c i) ∧ Z.2 = S.2) := by
  unfold f_X3_giveBy
  rw [hns.1, sub1']
  have hrl := digs_len ns ds.length w
  refine lpD (fun fuel i (s : Nat × Mem) => f_X3_giveBy_10 69 fuel (nI s.1) i s.2) (fun j s => j ≤ ds.length ∧ s.1 = w / ns.length ^ (ds.length - j) ∧ RC 69 s.2 N W (nuSet nu (ds.drop j) ((digs ns ds.length w).drop j)) cf ∧ (∀ c i, c ≠ 70 → s.2.1 c i = S.1 c i) ∧ s.2.2 = S.2) ?_ ?_ ds.length FU (w, S) (by show _ < 2000; omega) ⟨Nat.le_refl _, by rw [Nat.sub_self, Nat.pow_zero, Nat.div_one], by
      have e1 : ds.drop ds.length = [] := List.drop_length
      rw [e1]
      exact hR, fun _ _ _ => rfl, rfl⟩
  · rintro fuel ⟨l, Z⟩ ⟨-, z1, z2, z3, z4⟩
    simp only at z1 z2 z3 z4
    show wp (f_X3_giveBy_10 69 (fuel + 1) (nI l) (-1) Z) _
    unfold f_X3_giveBy_10
    rw [List.drop_zero, List.drop_zero] at z2
    exact wp_pos (by decide) (wp_some ⟨z2, z3, z4⟩)
  · rintro fuel j ⟨l, Z⟩ ⟨hj, z1, z2, z3, z4⟩ ih
    simp only at z1 z2 z3 z4 ih
    show wp (f_X3_giveBy_10 69 (fuel + 1) (nI l) (nI j) Z) _
    unfold f_X3_giveBy_10
    have hm0 : 0 < ns.length := by omega
    have hpos : ∀ e, 0 < ns.length ^ e := fun e => Nat.pow_pos hm0
    have hl : l ≤ w := by rw [z1]; exact Nat.div_le_self _ _
    refine wp_neg (nI_pos (by omega)) ?_
    rw [z3 88 5 (by omega), hns.2.1]
    refine wp_neg (nI_nle hm0 (by omega)) ?_
    have hdj : ds.getD j 0 < N 0 1 := hds _ (by rw [gd_e (by omega)]; exact List.getElem_mem _)
    refine wp_rd j rfl (by omega) (v := nI (ds.getD j 0)) (by rw [z3 _ _ (by omega)]; exact hns.2.2.1 j (by omega)) ?_
    have erm : rm (nI l) (nI ns.length) = some (nI (l % ns.length)) := by
      unfold rm
      rw [if_neg (nI_ne0 hm0 (by omega)), pk_rem (by omega) hm0 (by omega)]
    refine wp_bde erm ?_
    have hlm : l % ns.length < ns.length := Nat.mod_lt _ hm0
    refine wp_rd (l % ns.length) rfl (by omega) (v := nI (ns.getD (l % ns.length) 0)) (by rw [z3 _ _ (by omega)]; exact hns.2.2.2 _ hlm) ?_
    refine wp_wr (ds.getD j 0) rfl (by omega) ?_
    have edv : dv (nI l) ((sI Z (69 + 1) (ds.getD j 0) (nI (ns.getD (l % ns.length) 0))).1 88 5) = some (nI (l / ns.length)) := by
      rw [sI_off (by omega), z3 88 5 (by omega), hns.2.1]
      unfold dv
      rw [if_neg (nI_ne0 hm0 (by omega)), pk_div (by omega) hm0 (by omega)]
    refine wp_bde edv ?_
    have edig : (digs ns ds.length w).getD j 0 = ns.getD (l % ns.length) 0 := by
      rw [digs_at ns hm0 _ _ _ hw (by omega), z1]
      congr 4
      omega
    refine ih (l / ns.length, sI Z 70 (ds.getD j 0) (nI (ns.getD (l % ns.length) 0))) ⟨by omega, ?_, ?_, fun c i q => ?_, z4⟩
    · show l / ns.length = _
      rw [z1, Nat.div_div_eq_div_mul, ← Nat.pow_succ]
      congr 2
      omega
    · show RC 69 (sI Z 70 (ds.getD j 0) (nI (ns.getD (l % ns.length) 0))) N W _ cf
      obtain ⟨a0, a1, a2, a3, a4, a5, a6⟩ := z2
      refine ⟨by rw [sI_off (by omega)]; exact a0, by rw [sI_off (by omega)]; exact a1, by rw [sI_off (by omega)]; exact a2, a3, fun d hd => ⟨?_, by rw [sI_off (by omega)]; exact (a4 d hd).2.1, by rw [sI_off (by omega)]; exact (a4 d hd).2.2⟩, fun c hc => by rw [sI_off (by omega), sI_off (by omega)]; exact a5 c hc, fun i hi => by rw [sI_off (by omega)]; exact a6 i hi⟩
      rw [nuSet_d (by omega) (by omega), edig, sI1]
      by_cases q : d = ds.getD j 0
      · rw [if_pos ⟨rfl, q⟩, if_pos q]
      · rw [if_neg (fun e => q e.2), if_neg q]; exact (a4 d hd).1
    · show (sI Z 70 (ds.getD j 0) (nI (ns.getD (l % ns.length) 0))).1 c i = S.1 c i
      rw [sI_off q]; exact z3 c i q
theorem choose_C (hnd : N 0 1 ≤ 10) (hk : ds.length ≤ 4) (hns : nsW S ds ns) (hds : ∀ d ∈ ds, d < N 0 1) (hdd : ds.Nodup) {row : List Nat} (hr : row.length = ds.length) (hR : RC 69 S N W (nuSet nu ds row) cf) :
    wp (f_X3_choose 69 S) (fun Z => (∀ i, i < row.length → Z.1 89 i = nI (row.getD i 0)) ∧ (∀ c i, c ≠ 89 → Z.1 c i = S.1 c i) ∧ Z.2 = S.2) := by
  unfold f_X3_choose
  refine lp0 (fun fuel i Z => f_X3_choose_2 69 fuel i Z) ds.length (fun j Z => (∀ i, i < j → Z.1 89 i = nI (row.getD i 0)) ∧ (∀ c i, c ≠ 89 → Z.1 c i = S.1 c i) ∧ Z.2 = S.2) (by omega) S ⟨fun i hi => absurd hi (Nat.not_lt_zero i), fun _ _ _ => rfl, rfl⟩ ?_ ?_
  · rintro fuel Z ⟨z1, z2, z3⟩
    show wp (f_X3_choose_2 69 (fuel + 1) (nI ds.length) Z) _
    unfold f_X3_choose_2
    rw [z2 88 0 (by omega), hns.1]
    exact wp_pos (Int32.le_refl _) (wp_some ⟨fun i hi => z1 i (by omega), z2, z3⟩)
  · rintro fuel j Z hj ⟨z1, z2, z3⟩ ih
    try simp only at ih
    show wp (f_X3_choose_2 69 (fuel + 1) (nI j) Z) _
    unfold f_X3_choose_2
    rw [z2 88 0 (by omega), hns.1]
    refine wp_neg (nI_ge hj (by omega)) ?_
    have hdj : ds.getD j 0 < N 0 1 := hds _ (by rw [gd_e hj]; exact List.getElem_mem _)
    refine wp_rd j rfl (by omega) (v := nI (ds.getD j 0)) (by rw [z2 _ _ (by omega)]; exact hns.2.2.1 j hj) ?_
    refine wp_rd (ds.getD j 0) rfl (by omega) (v := nI (row.getD j 0)) (by rw [z2 _ _ (by omega), (hR.2.2.2.2.1 _ hdj).1, nuSet_at ds row hdd hr j hj]) ?_
    refine wp_wr j rfl (by omega) ?_
    rw [nI_1]
    refine ih _ ⟨fun i hi => ?_, fun c i q => ?_, z3⟩
    · rw [sI1]
      by_cases q : i = j
      · rw [if_pos ⟨rfl, q⟩, q]
      · rw [if_neg (fun e => q e.2)]; exact z1 i (by omega)
    · rw [sI_off q]; exact z2 c i q
theorem dH_l {m : Int32} {c : Nat} : (dHeld N m c).length ≤ 4 := by unfold dHeld; rw [List.length_take]; omega
theorem dH_m {m : Int32} {c d : Nat} (h : d ∈ dHeld N m c) : d < N 0 1 ∧ bt m d = true ∧ ow N d ≠ c := by
  unfold dHeld at h
  have := List.mem_of_mem_take h
  rw [List.mem_filter, List.mem_range] at this
  simp only [Bool.and_eq_true, decide_eq_true_eq] at this
  exact this
theorem dH_n {m : Int32} {c : Nat} : (dHeld N m c).Nodup := by
  unfold dHeld
  exact List.Nodup.sublist ((List.take_sublist _ _).trans List.filter_sublist) List.nodup_range
theorem ns_ne (hI : TI N T L) {m : Int32} {c : Nat} (hc : c < 2) : (dHeld N m c).length = 0 ∨ 0 < (ddp N [] (nsOf N c)).length := by
  rcases Nat.eq_zero_or_pos (dHeld N m c).length with h | h
  · exact Or.inl h
  · right
    obtain ⟨d, hd⟩ := List.exists_mem_of_length_pos h
    obtain ⟨h1, -, h3⟩ := dH_m hd
    have h5 := (hI.2.2.2.1 d h1).1
    have h2 := (hI.2.2.1 _ h5).1
    have : N 5 d ∈ nsOf N c := by
      unfold nsOf
      rw [List.mem_filter, List.mem_range]
      refine ⟨h5, decide_eq_true ?_⟩
      unfold ow at h3
      omega
    cases hl : nsOf N c with
    | nil => rw [hl] at this; cases this
    | cons j l =>
      unfold ddp
      rw [if_neg (fun e => by cases e)]
      simp
theorem ddp_len : ∀ (l seen : List Nat), (ddp N seen l).length ≤ l.length := by
  intro l
  induction l with
  | nil => intro _; exact Nat.le_refl _
  | cons j l ih =>
    intro seen
    unfold ddp
    split
    · have := ih seen; simp only [List.length_cons]; omega
    · have := ih (N 3 j :: seen); simp only [List.length_cons]; omega
theorem ns_l (hI : TI N T L) {c : Nat} : (ddp N [] (nsOf N c)).length ≤ 6 := by
  have h1 := ddp_len (N := N) (nsOf N c) []
  have h2 : (nsOf N c).length ≤ N 0 0 := by
    unfold nsOf
    have := List.length_filter_le (fun i => decide (N 2 i = c)) (List.range (N 0 0))
    rw [List.length_range] at this
    exact this
  have := hI.1
  omega
theorem ddp_m : ∀ (l seen : List Nat) (j : Nat), j ∈ ddp N seen l → j ∈ l := by
  intro l
  induction l with
  | nil => intro _ j h; exact h
  | cons a l ih =>
    intro seen j h
    unfold ddp at h
    split at h
    · exact List.mem_cons_of_mem _ (ih _ j h)
    · rcases List.mem_cons.mp h with rfl | h
      · exact List.mem_cons_self
      · exact List.mem_cons_of_mem _ (ih _ j h)
theorem ns_m {c j : Nat} (h : j ∈ nsOf N c) : j < N 0 0 := by
  unfold nsOf at h
  rw [List.mem_filter, List.mem_range] at h
  exact h.1
theorem digs_m {l : List Nat} (hl : 0 < l.length) : ∀ k w, w < l.length ^ k → ∀ j ∈ digs l k w, j ∈ l := by
  intro k
  induction k with
  | zero => intro w _ j h; cases h
  | succ k ih =>
    intro w hw j h
    have hpos : 0 < l.length ^ k := Nat.pow_pos hl
    rcases List.mem_cons.mp h with rfl | h
    · have : w / l.length ^ k < l.length := Nat.div_lt_of_lt_mul (by rw [Nat.pow_succ] at hw; exact hw)
      rw [gd_e this]
      exact List.getElem_mem _
    · exact ih _ (Nat.mod_lt _ hpos) j h
theorem nuSet_I {P : Nat → Prop} {row : List Nat} (hr : ∀ j ∈ row, P j) {d : Nat} (hd : P (nu d)) : ∀ (ds : List Nat), P (nuSet nu ds row d) := by
  intro ds
  induction ds generalizing row with
  | nil => exact hd
  | cons e ds ih =>
    cases row with
    | nil => exact hd
    | cons a row =>
      show P (if d = e then a else nuSet nu ds row d)
      split
      · exact hr a List.mem_cons_self
      · exact ih (fun j hj => hr j (List.mem_cons_of_mem _ hj))
end NUD
