/-! PURE 25: cares -/
theorem lpD {σ α : Type} {P : α → Prop} (f : Nat → Int32 → σ → Option α) (Inv : Nat → σ → Prop) (he : ∀ fuel s, Inv 0 s → wp (f (fuel + 1) (-1) s) P)
    (hs : ∀ fuel j s, Inv (j + 1) s → (∀ s', Inv j s' → wp (f fuel (nI j + (-1)) s') P) → wp (f (fuel + 1) (nI j) s) P) :
    ∀ (j fuel : Nat) (s : σ), j < fuel → Inv j s → wp (f fuel (nI j + (-1)) s) P := by
  intro j
  induction j with
  | zero =>
    intro fuel s hf hI
    obtain ⟨g, rfl⟩ : ∃ g, fuel = g + 1 := ⟨fuel - 1, by omega⟩
    exact he g s hI
  | succ j ih =>
    intro fuel s hf hI
    obtain ⟨g, rfl⟩ : ∃ g, fuel = g + 1 := ⟨fuel - 1, by omega⟩
    rw [pk_m1]
    exact hs g j s hI (fun s' h' => ih g s' (by omega) h')
section CAR
variable {C M S : Mem} {N : TN} {T : WS} {L : LWS} {W : WS} {nu : Nat → Nat} {cf : Nat → Int32}
/-- struck: o what each strikes, from the n-th down -/
def sK (o : Nat → Int32) : Nat → (Nat → Bool) → (Nat → Bool)
  | 0, f => f
  | n + 1, f => sK o n (if f n = false ∧ ¬ o n < 0 then (fun i => if i = (o n).toNatClampNeg then true else f i) else f)
theorem sub1' (x : Int32) : x - 1 = x + (-1) := by rw [Int32.sub_eq_add_neg]
/-- what the notes say, by class and reference -/
def ntR (C M : Mem) (N : TN) (kn : Nat) (o wk ht al : Nat → Int32) (dl : Nat → Nat) : Prop := kn ≤ 24 ∧ ∀ i, i < kn → C.1 78 i = o i ∧ M.1 32 i = o i ∧ ((∃ j, j < i ∧ o i = nI j) ∨ (o i = -1 ∧ C.1 79 i = wk i ∧ M.1 28 i = wk i ∧ (∃ k, k ≤ 40 ∧ wk i = nI k) ∧ dl i < N 0 1 ∧ C.1 80 i = nI (dl i) ∧ M.1 29 i = nI (dl i) ∧ C.1 81 i = ht i ∧ M.1 30 i = ht i ∧ C.1 82 i = al i ∧ M.1 31 i = al i))
theorem ntR_of (hnd : N 0 1 ≤ 10) (h : pNotes C M N) : ∃ kn o wk ht al dl, ntR C M N kn o wk ht al dl ∧ f_X2_knownSize C = some (nI kn, C) ∧ f_X10_knownMany M = some (nI kn, M) ∧ (∀ S, (∀ i, S.1 77 i = C.1 77 i) → f_X2_knownSize S = some (nI kn, S)) ∧ (∀ S, S.1 0 50 = M.1 0 50 → S.1 0 51 = M.1 0 51 → f_X10_knownMany S = some (nI kn, S)) := by
  obtain ⟨z, a, b, c, d, e, f⟩ := h
  have key : ∃ kn, kn ≤ z ∧ (if C.1 77 1 = -1 then C.1 77 0 else C.1 77 1) = nI kn := by
    rcases e with e | ⟨k, hk, e⟩
    · exact ⟨z, Nat.le_refl _, by rw [if_pos e]; exact b⟩
    · exact ⟨k, hk, by rw [if_neg (by rw [e]; exact nI_n1 (by omega))]; exact e⟩
  obtain ⟨kn, hk, ek⟩ := key
  have kc : ∀ S : Mem, (∀ i, S.1 77 i = C.1 77 i) → f_X2_knownSize S = some (nI kn, S) := by
    intro S hS
    unfold f_X2_knownSize
    rw [hS, hS]
    by_cases q : C.1 77 1 = -1
    · rw [if_pos q] at ek ⊢; rw [ek]
    · rw [if_neg q] at ek ⊢; rw [ek]
  have km : ∀ S : Mem, S.1 0 50 = M.1 0 50 → S.1 0 51 = M.1 0 51 → f_X10_knownMany S = some (nI kn, S) := by
    intro S h1 h2
    unfold f_X10_knownMany
    rw [h1, h2, ← d, c, ← b]
    by_cases q : C.1 77 1 = -1
    · rw [if_pos q] at ek ⊢; rw [ek]
    · rw [if_neg q] at ek ⊢; rw [ek]
  refine ⟨kn, fun i => C.1 78 i, fun i => C.1 79 i, fun i => C.1 81 i, fun i => C.1 82 i, fun i => (C.1 80 i).toNatClampNeg, ⟨by omega, fun i hi => ?_⟩, kc C (fun _ => rfl), km M rfl rfl, kc, km⟩
  obtain ⟨g1, g2⟩ := f i (by omega)
  refine ⟨rfl, g1.symm, ?_⟩
  rcases g2 with g | ⟨g2, g3, ⟨k, k1, k2, g4⟩, ⟨d', hd', g5, g6⟩, g7, g8⟩
  · exact Or.inl g
  · have ed : (C.1 80 i).toNatClampNeg = d' := by rw [g5]; exact nI_clamp (by omega)
    refine Or.inr ⟨g2, rfl, g3.symm, ⟨k, k2, g4⟩, ?_, ?_, ?_, rfl, g7.symm, rfl, g8.symm⟩
    · show (C.1 80 i).toNatClampNeg < N 0 1
      rw [ed]; exact hd'
    · show C.1 80 i = nI (C.1 80 i).toNatClampNeg
      rw [ed]; exact g5
    · show M.1 29 i = nI (C.1 80 i).toNatClampNeg
      rw [ed]; exact g6
theorem strike_C {kn : Nat} {o : Nat → Int32} (hk : kn ≤ 24) (hks : ∀ S : Mem, (∀ i, S.1 77 i = C.1 77 i) → f_X2_knownSize S = some (nI kn, S)) (ho : ∀ i, i < kn → C.1 78 i = o i ∧ ((∃ j, j < i ∧ o i = nI j) ∨ o i = -1)) :
    wp (f_X2_strike C) (fun S => (∀ i, i < 24 → S.1 83 i = b01 (sK o kn (fun _ => false) i)) ∧ cQ C S ∧ ∀ c i, c ≠ 83 → S.1 c i = C.1 c i) := by
  unfold f_X2_strike
  refine lp0 (fun fuel i S => f_X2_strike_2 fuel i S) 24 (fun j S => (∀ i, i < j → S.1 83 i = 0) ∧ (∀ c i, c ≠ 83 → S.1 c i = C.1 c i) ∧ S.2 = C.2) (by omega) C ⟨fun i hi => absurd hi (Nat.not_lt_zero i), fun _ _ _ => rfl, rfl⟩ ?_ ?_
  · rintro fuel S ⟨h1, h2, h3⟩
    show wp (f_X2_strike_2 (fuel + 1) (nI 24) S) _
    unfold f_X2_strike_2
    refine wp_pos (by decide) ?_
    refine wp_bnde (hks S (fun i => h2 77 i (by omega))) ?_
    rw [sub1']
    refine lpD (fun fuel i (s : (Nat → Bool) × Mem) => f_X2_strike_28 fuel i s.2) (fun j s => j ≤ kn ∧ (∀ i, i < 24 → s.2.1 83 i = b01 (s.1 i)) ∧ (∀ c i, c ≠ 83 → s.2.1 c i = C.1 c i) ∧ s.2.2 = C.2 ∧ sK o j s.1 = sK o kn (fun _ => false)) ?_ ?_ kn FU (fun _ => false, S) (by show kn < 2000; omega) ⟨Nat.le_refl _, fun i hi => h1 i hi, h2, h3, rfl⟩
    · rintro fuel ⟨g, Z⟩ ⟨-, z1, z2, z3, z4⟩
      simp only at z1 z2 z3 z4
      show wp (f_X2_strike_28 (fuel + 1) (-1) Z) _
      unfold f_X2_strike_28
      refine wp_pos (by decide) (wp_some ⟨fun i hi => ?_, ⟨fun c i a _ => z2 c i (by omega), fun c _ _ _ _ => by rw [z3]⟩, z2⟩)
      rw [z1 i hi, ← z4]; rfl
    · rintro fuel j ⟨g, Z⟩ ⟨hj, z1, z2, z3, z4⟩ ih
      simp only at z1 z2 z3 z4 ih
      show wp (f_X2_strike_28 (fuel + 1) (nI j) Z) _
      unfold f_X2_strike_28
      refine wp_neg (nI_pos (by omega)) ?_
      refine wp_rd j rfl (by omega) (z1 j (by omega)) ?_
      have o1 := (ho j (by omega)).1
      have z4' : sK o j (if g j = false ∧ ¬ o j < 0 then (fun i => if i = (o j).toNatClampNeg then true else g i) else g) = sK o kn (fun _ => false) := z4
      unfold b01
      by_cases q : g j = true
      · rw [if_pos q]
        refine wp_neg n10 ?_
        rw [if_neg (fun e => by rw [e.1] at q; cases q)] at z4'
        exact ih (g, Z) ⟨by omega, z1, z2, z3, z4'⟩
      · have qf : g j = false := by rw [Bool.not_eq_true] at q; exact q
        rw [if_neg q]
        refine wp_pos rfl ?_
        refine wp_rd j rfl (by omega) (v := o j) (by rw [z2 _ _ (by omega)]; exact o1) ?_
        refine wp_if (fun q2 => ?_) (fun q2 => ?_)
        · rw [if_neg (fun e => e.2 q2)] at z4'
          exact ih (g, Z) ⟨by omega, z1, z2, z3, z4'⟩
        · rw [if_pos ⟨qf, q2⟩] at z4'
          obtain ⟨t, ht, et⟩ : ∃ t, t < j ∧ o j = nI t := by
            rcases (ho j (by omega)).2 with e | e
            · exact e
            · rw [e] at q2; exact absurd (by decide) q2
          refine wp_rd j rfl (by omega) (v := o j) (by rw [z2 _ _ (by omega)]; exact o1) ?_
          refine wp_wrZ t et (by omega) ?_
          rw [et, nI_clamp (by omega)] at z4'
          refine ih (fun i => if i = t then true else g i, sI Z 83 t (vp_nar .boolean 1)) ⟨by omega, fun i hi => ?_, fun c i q => ?_, z3, z4'⟩
          · show (sI Z 83 t (vp_nar .boolean 1)).1 83 i = b01 (if i = t then true else g i)
            rw [sI1, nar1]
            by_cases q3 : i = t
            · rw [if_pos ⟨rfl, q3⟩]
              rw [if_pos q3]; rfl
            · rw [if_neg (by omega)]
              rw [if_neg q3]; exact z1 i hi
          · show (sI Z 83 t (vp_nar .boolean 1)).1 c i = C.1 c i
            rw [sI_off q]; exact z2 c i q
  · rintro fuel j S hj ⟨h1, h2, h3⟩ ih
    try simp only at ih
    show wp (f_X2_strike_2 (fuel + 1) (nI j) S) _
    unfold f_X2_strike_2
    refine wp_neg (nI_ge (b := 24) hj (by omega)) ?_
    refine wp_wrZ j rfl hj ?_
    rw [nI_1, nar0]
    refine ih _ ⟨fun i hi => ?_, fun c i q => ?_, h3⟩
    · rw [sI1]
      split
      · rfl
      · exact h1 i (by omega)
    · rw [sI_off q]; exact h2 c i q
/-! what fits -/
def lwS (st : Nat → Bool) (o wk : Nat → Int32) (i : Nat) (s : Int32) : Int32 := if st i = false ∧ o i < 0 then mx s (wk i) else s
theorem lw_b {st : Nat → Bool} {o wk : Nat → Int32} : ∀ n, (∀ i, i < n → o i < 0 → ∃ k, k ≤ 40 ∧ wk i = nI k) → ∃ k, k ≤ 40 ∧ itN (lwS st o wk) n 0 = nI k := by
  intro n
  induction n with
  | zero => intro _; exact ⟨0, by omega, rfl⟩
  | succ n ih =>
    intro h
    obtain ⟨k, hk, e⟩ := ih (fun i hi => h i (by omega))
    rw [itN_s, e]
    unfold lwS
    split
    · rename_i q
      obtain ⟨j, hj, ej⟩ := h n (by omega) q.2
      rw [ej]
      unfold mx
      split
      · exact ⟨j, hj, rfl⟩
      · exact ⟨k, hk, rfl⟩
    · exact ⟨k, hk, rfl⟩
def soN (st : Nat → Bool) (o wk ht al : Nat → Int32) (dl : Nat → Nat) (V : WS) (t i : Nat) : Bool := st i || decide (¬ o i < 0) || decide (¬ wk i = nI t) || decide ((if V 2 (dl i) < ht i then (0 : Int32) else 1) = al i)
def soB (st : Nat → Bool) (o wk ht al : Nat → Int32) (dl : Nat → Nat) (kn : Nat) (V : WS) (t : Nat) : Bool := (List.range kn).all (fun i => soN st o wk ht al dl V t i)
theorem soB_t {st : Nat → Bool} {o wk ht al : Nat → Int32} {dl : Nat → Nat} {kn : Nat} {V : WS} {t : Nat} (h : ∀ i, i < kn → soN st o wk ht al dl V t i = true) : soB st o wk ht al dl kn V t = true := by
  unfold soB
  rw [List.all_eq_true]
  exact fun i hi => h i (List.mem_range.mp hi)
theorem soB_f {st : Nat → Bool} {o wk ht al : Nat → Int32} {dl : Nat → Nat} {kn : Nat} {V : WS} {t i : Nat} (hi : i < kn) (h : soN st o wk ht al dl V t i = false) : soB st o wk ht al dl kn V t = false := by
  unfold soB
  rw [List.all_eq_false]
  exact ⟨i, List.mem_range.mpr hi, by rw [h]; decide⟩
section FIT
variable {kn : Nat} {o wk ht al : Nat → Int32} {dl : Nat → Nat} {st : Nat → Bool}
theorem seen_C (hk : kn ≤ 24) (h83 : ∀ i, i < 24 → S.1 83 i = b01 (st i)) (h78 : ∀ i, i < kn → S.1 78 i = o i) {i : Nat} (hi : i < kn) : f_X2_isSeenAndKnown (nI i) S = some (if st i = false ∧ o i < 0 then 1 else 0, S) := by
  unfold f_X2_isSeenAndKnown
  rw [rdN (by omega) (by decide), h83 i (by omega), Option.bind_some, rdN (by omega) (by decide), h78 i hi, Option.bind_some]
  unfold b01
  by_cases q : st i = true
  · rw [if_pos q, if_neg n10, if_neg (fun e => by rw [e.1] at q; cases q)]
  · have qf : st i = false := by rw [Bool.not_eq_true] at q; exact q
    rw [if_neg q, if_pos rfl]
    by_cases q2 : o i < 0
    · rw [if_neg (Int32.not_le.mpr q2), if_pos ⟨qf, q2⟩]
    · rw [if_pos (Int32.not_lt.mp q2), if_neg (fun e => q2 e.2)]
theorem last_C (hk : kn ≤ 24) (hks : f_X2_knownSize S = some (nI kn, S)) (h83 : ∀ i, i < 24 → S.1 83 i = b01 (st i)) (h78 : ∀ i, i < kn → S.1 78 i = o i) (h79 : ∀ i, i < kn → o i < 0 → S.1 79 i = wk i) : f_X2_lastWeekKnown S = some (itN (lwS st o wk) kn 0, S) := by
  unfold f_X2_lastWeekKnown
  suffices hh : wp (f_X2_lastWeekKnown_4 FU 0 0 S) (fun q => q = (itN (lwS st o wk) kn 0, S)) by
    obtain ⟨y, hy, rfl⟩ := hh
    exact hy
  refine lp0 (fun fuel i (x : Int32) => f_X2_lastWeekKnown_4 fuel x i S) kn (fun j x => x = itN (lwS st o wk) j 0) (by omega) 0 rfl ?_ ?_
  · rintro fuel x hx
    show wp (f_X2_lastWeekKnown_4 (fuel + 1) x (nI kn) S) _
    unfold f_X2_lastWeekKnown_4
    rw [hks]
    exact wp_bnde rfl (wp_pos (Int32.le_refl _) (wp_some (by rw [hx])))
  · rintro fuel j x hj hx ih
    try simp only at ih
    show wp (f_X2_lastWeekKnown_4 (fuel + 1) x (nI j) S) _
    unfold f_X2_lastWeekKnown_4
    rw [hks]
    refine wp_bnde rfl (wp_neg (nI_ge hj (by omega)) ?_)
    refine wp_bnde (seen_C hk h83 h78 hj) ?_
    rw [itN_s, ← hx] at ih
    unfold lwS at ih
    by_cases q : st j = false ∧ o j < 0
    · rw [if_pos q] at ih ⊢
      refine wp_neg n10 ?_
      refine wp_rd j rfl (by omega) (h79 j hj q.2) ?_
      refine wp_bnde (f_mx _ _ _) ?_
      rw [nI_1]; exact ih _ rfl
    · rw [if_neg q] at ih ⊢
      refine wp_pos rfl ?_
      rw [nI_1]; exact ih _ rfl
theorem so_C (hnd : N 0 1 ≤ 10) (hk : kn ≤ 24) (hks : f_X2_knownSize S = some (nI kn, S)) (h83 : ∀ i, i < 24 → S.1 83 i = b01 (st i)) (h78 : ∀ i, i < kn → S.1 78 i = o i) (hn : ∀ i, i < kn → o i < 0 → S.1 79 i = wk i ∧ dl i < N 0 1 ∧ S.1 80 i = nI (dl i) ∧ S.1 81 i = ht i ∧ S.1 82 i = al i) (hR : RC 69 S N W nu cf) {t : Nat} : f_X2_areSoBehind 69 (nI t) S = some (b01 (soB st o wk ht al dl kn W t), S) := by
  unfold f_X2_areSoBehind
  suffices hh : wp (f_X2_areSoBehind_2 69 FU (nI t) 0 S) (fun q => q = (b01 (soB st o wk ht al dl kn W t), S)) by
    obtain ⟨y, hy, rfl⟩ := hh
    exact hy
  refine lp0 (fun fuel i (_ : Unit) => f_X2_areSoBehind_2 69 fuel (nI t) i S) kn (fun j _ => ∀ i, i < j → soN st o wk ht al dl W t i = true) (by omega) () (fun i hi => absurd hi (Nat.not_lt_zero i)) ?_ ?_
  · rintro fuel _ hb
    show wp (f_X2_areSoBehind_2 69 (fuel + 1) (nI t) (nI kn) S) _
    unfold f_X2_areSoBehind_2
    rw [hks]
    refine wp_bnde rfl (wp_pos (Int32.le_refl _) (wp_some ?_))
    rw [soB_t hb]; rfl
  · rintro fuel j _ hj hb ih
    try simp only at ih
    have nx : soN st o wk ht al dl W t j = true → wp (f_X2_areSoBehind_2 69 fuel (nI t) (nI j + 1) S) (fun q => q = (b01 (soB st o wk ht al dl kn W t), S)) := by
      intro e
      rw [nI_1]
      refine ih () (fun i hi => ?_)
      rcases (by omega : i < j ∨ i = j) with h | rfl
      · exact hb i h
      · exact e
    show wp (f_X2_areSoBehind_2 69 (fuel + 1) (nI t) (nI j) S) _
    unfold f_X2_areSoBehind_2
    rw [hks]
    refine wp_bnde rfl (wp_neg (nI_ge hj (by omega)) ?_)
    refine wp_bnde (seen_C hk h83 h78 hj) ?_
    by_cases q : st j = false ∧ o j < 0
    · rw [if_pos q]
      refine wp_neg n10 ?_
      obtain ⟨n1, n2, n3, n4, n5⟩ := hn j hj q.2
      refine wp_rd j rfl (by omega) n1 ?_
      refine wp_if (fun q2 => ?_) (fun q2 => nx ?_)
      · refine wp_rd j rfl (by omega) n3 ?_
        refine wp_rd (dl j) rfl (by omega) (hR.2.2.2.2.1 _ n2).2.1 ?_
        refine wp_rd j rfl (by omega) n4 ?_
        have lst : ∀ t0 : Int32, t0 = (if W 2 (dl j) < ht j then (0 : Int32) else 1) → wp (f_X2_areSoBehind_53 69 (f_X2_areSoBehind_2 69 fuel) (nI t) (nI j) t0 S) (fun q => q = (b01 (soB st o wk ht al dl kn W t), S)) := by
          intro t0 e0
          unfold f_X2_areSoBehind_53
          refine wp_rd j rfl (by omega) n5 ?_
          refine wp_if (fun q3 => nx ?_) (fun q3 => wp_some ?_)
          · unfold soN
            rw [← e0, q3]; simp
          · rw [soB_f hj]
            · rfl
            · unfold soN
              rw [← e0]
              simp [q.1, q.2, q2, q3]
        refine wp_if (fun q3 => lst 0 (by rw [if_pos q3])) (fun q3 => lst 1 (by rw [if_neg q3]))
      · unfold soN
        simp [q2]
    · rw [if_neg q]
      refine wp_pos rfl (nx ?_)
      unfold soN
      by_cases q1 : st j = true
      · simp [q1]
      · have qf : st j = false := by rw [Bool.not_eq_true] at q1; exact q1
        have : ¬ o j < 0 := fun e => q ⟨qf, e⟩
        simp [this]
theorem so_M (hnd : N 0 1 ≤ 10) (hk : kn ≤ 24) (hks : f_X10_knownMany S = some (nI kn, S)) (h33 : ∀ i, i < kn → S.1 33 i = b01 (st i)) (h32 : ∀ i, i < kn → S.1 32 i = o i ∧ (o i = -1 ∨ ¬ o i < 0)) (hn : ∀ i, i < kn → o i < 0 → S.1 28 i = wk i ∧ dl i < N 0 1 ∧ S.1 29 i = nI (dl i) ∧ S.1 30 i = ht i ∧ S.1 31 i = al i) (hR : RM 1 S N W nu) {t : Nat} : f_X10_isSo (nI t) S = some (b01 (soB st o wk ht al dl kn W t), S) := by
  unfold f_X10_isSo
  suffices hh : wp (f_X10_isSo_2 FU (nI t) 0 S) (fun q => q = (b01 (soB st o wk ht al dl kn W t), S)) by
    obtain ⟨y, hy, rfl⟩ := hh
    exact hy
  refine lp0 (fun fuel i (_ : Unit) => f_X10_isSo_2 fuel (nI t) i S) kn (fun j _ => ∀ i, i < j → soN st o wk ht al dl W t i = true) (by omega) () (fun i hi => absurd hi (Nat.not_lt_zero i)) ?_ ?_
  · rintro fuel _ hb
    show wp (f_X10_isSo_2 (fuel + 1) (nI t) (nI kn) S) _
    unfold f_X10_isSo_2
    rw [hks]
    refine wp_bnde rfl (wp_pos (Int32.le_refl _) (wp_some ?_))
    rw [soB_t hb]; rfl
  · rintro fuel j _ hj hb ih
    try simp only at ih
    have nx : soN st o wk ht al dl W t j = true → wp (f_X10_isSo_2 fuel (nI t) (nI j + 1) S) (fun q => q = (b01 (soB st o wk ht al dl kn W t), S)) := by
      intro e
      rw [nI_1]
      refine ih () (fun i hi => ?_)
      rcases (by omega : i < j ∨ i = j) with h | rfl
      · exact hb i h
      · exact e
    show wp (f_X10_isSo_2 (fuel + 1) (nI t) (nI j) S) _
    unfold f_X10_isSo_2
    rw [hks]
    refine wp_bnde rfl (wp_neg (nI_ge hj (by omega)) ?_)
    refine wp_rd j rfl (by omega) (h33 j hj) ?_
    unfold b01
    by_cases q1 : st j = true
    · rw [if_pos q1]
      refine wp_neg n10 (nx ?_)
      unfold soN
      simp [q1]
    · have qf : st j = false := by rw [Bool.not_eq_true] at q1; exact q1
      rw [if_neg q1]
      refine wp_pos rfl ?_
      refine wp_rd j rfl (by omega) (h32 j hj).1 ?_
      refine wp_if (fun qo => ?_) (fun qo => nx ?_)
      · have ho : o j < 0 := by rw [qo]; decide
        obtain ⟨n1, n2, n3, n4, n5⟩ := hn j hj ho
        refine wp_rd j rfl (by omega) n1 ?_
        refine wp_if (fun q2 => ?_) (fun q2 => nx ?_)
        · refine wp_rd j rfl (by omega) n3 ?_
          refine wp_rd (10 * 1 + dl j) (nI_add 10 (dl j)) (by omega) (hR.2.2.2.1 _ n2).2.1 ?_
          refine wp_rd j rfl (by omega) n4 ?_
          have lst : ∀ t0 : Int32, t0 = (if W 2 (dl j) < ht j then (0 : Int32) else 1) → wp (f_X10_isSo_70 (f_X10_isSo_2 fuel) (nI t) (nI j) t0 S) (fun q => q = (b01 (soB st o wk ht al dl kn W t), S)) := by
            intro t0 e0
            unfold f_X10_isSo_70
            refine wp_rd j rfl (by omega) n5 ?_
            refine wp_if (fun q3 => nx ?_) (fun q3 => wp_some ?_)
            · unfold soN
              rw [← e0, q3]; simp
            · rw [soB_f hj]
              · rfl
              · unfold soN
                rw [← e0]
                simp [qf, ho, q2, q3]
          refine wp_if (fun q3 => lst 0 (by rw [if_pos q3])) (fun q3 => lst 1 (by rw [if_neg q3]))
        · unfold soN
          simp [q2]
      · have : ¬ o j < 0 := (h32 j hj).2.resolve_left qo
        unfold soN
        simp [this]
end FIT
end CAR
