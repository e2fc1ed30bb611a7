/-! PURE 15: questions, the smaller ones -/
theorem both_m {α : Type} {C M : Mem} {x : Option (α × Mem)} {g : Mem → Option (α × Mem)} (h : Cp C M)
    (k : ∀ N T L W nu M', Cq C M' N T L W nu → ∃ r, wp x (fun q => q.1 = r ∧ cQ C q.2) ∧ wp (g M') (fun q => q.1 = r ∧ mQ M' q.2)) : both C M x (nxt (sI M 0 0 0) g) := by
  obtain ⟨N, T, L, W, nu, hq⟩ := h
  obtain ⟨r, hx, hy⟩ := k N T L W nu (sI M 0 0 0) (Cq_q hq (cQ_rf _) mQ_0)
  refine both_q ⟨N, T, L, W, nu, hq⟩ r hx (wp_nxt (wp_mono hy ?_))
  rintro ⟨a, S⟩ ⟨h1, h2⟩
  exact ⟨h1, mQ_tr mQ_0 h2⟩
theorem bq {α : Type} {C M : Mem} {x y : Option (α × Mem)} (r : α) (hx : x = some (r, C)) (hy : y = some (r, M)) : ∃ r, wp x (fun q => q.1 = r ∧ cQ C q.2) ∧ wp y (fun q => q.1 = r ∧ mQ M q.2) :=
  ⟨r, wp_of hx ⟨rfl, cQ_rf _⟩, wp_of hy ⟨rfl, mQ_rf _⟩⟩
theorem n10 : ¬ (1 : Int32) = 0 := by decide
section ASK
variable {C M : Mem}
theorem q_fault (h : Cp C M) (v : Int32) : both C M (f_X9_fault v C) (f_X10_fault v M) := by
  unfold f_X10_fault
  refine both_m h ?_
  intro N T L W nu M' hq
  unfold f_X9_fault
  obtain ⟨-, ⟨e1, e2⟩, -⟩ := hq
  by_cases c0 : v = 0
  · rw [if_pos c0, if_pos c0]; exact bq _ rfl (by rw [e1])
  · rw [if_neg c0, if_neg c0]
    by_cases c1 : v = 1
    · rw [if_pos c1, if_pos c1]; exact bq _ rfl (by rw [e2])
    · rw [if_neg c1, if_neg c1]; exact bq _ rfl rfl
/-- r is the first place of x among the first n of f -/
def isPl (f : Nat → Int32) (n : Nat) (x r : Int32) : Prop := (∃ j, j < n ∧ f j = x ∧ (∀ i, i < j → f i ≠ x) ∧ r = nI j) ∨ ((∀ i, i < n → f i ≠ x) ∧ r = -1)
theorem isPl_u {f : Nat → Int32} {n : Nat} {x r r' : Int32} (h : isPl f n x r) (h' : isPl f n x r') : r = r' := by
  rcases h with ⟨j, a, b, c, rfl⟩ | ⟨a, rfl⟩
  · rcases h' with ⟨j', a', b', c', rfl⟩ | ⟨a', rfl⟩
    · have : j = j' := by
        rcases Nat.lt_trichotomy j j' with q | q | q
        · exact absurd b (c' j q)
        · exact q
        · exact absurd b' (c j' q)
      rw [this]
    · exact absurd b (a' j a)
  · rcases h' with ⟨j', a', b', c', rfl⟩ | ⟨a', rfl⟩
    · exact absurd b' (a j' a')
    · rfl
theorem isPl_f {f g : Nat → Int32} {n : Nat} {x r : Int32} (e : ∀ i, i < n → f i = g i) (h : isPl f n x r) : isPl g n x r := by
  rcases h with ⟨j, a, b, c, d⟩ | ⟨a, d⟩
  · exact Or.inl ⟨j, a, by rw [← e j a]; exact b, fun i hi => by rw [← e i (by omega)]; exact c i hi, d⟩
  · exact Or.inr ⟨fun i hi => by rw [← e i hi]; exact a i hi, d⟩
theorem place_C {S : Mem} {a m n : Nat} (hn : n ≤ m) (hm : m ≤ 100) (x : Int32) : wp (f_X9_placeOf a m x (nI n) S) (fun q => isPl (S.1 a) n x q.1 ∧ q.2 = S) := by
  unfold f_X9_placeOf
  refine lp0 (fun fuel i (_ : Unit) => f_X9_placeOf_2 a m fuel x (nI n) i S) n (fun j _ => ∀ i, i < j → S.1 a i ≠ x) (by omega) () (fun i hi => absurd hi (Nat.not_lt_zero i)) ?_ ?_
  · rintro fuel _ hb
    show wp (f_X9_placeOf_2 a m (fuel + 1) x (nI n) (nI n) S) _
    unfold f_X9_placeOf_2
    exact wp_pos (Int32.le_refl _) (wp_some ⟨Or.inr ⟨hb, rfl⟩, rfl⟩)
  · rintro fuel j _ hj hb ih
    try simp only at ih
    show wp (f_X9_placeOf_2 a m (fuel + 1) x (nI n) (nI j) S) _
    unfold f_X9_placeOf_2
    refine wp_neg (nI_ge hj (by omega)) ?_
    refine wp_rd j rfl (by omega) rfl ?_ (by omega)
    refine wp_if (fun q => ?_) (fun q => ?_)
    · exact wp_some ⟨Or.inl ⟨j, hj, q, hb, rfl⟩, rfl⟩
    · rw [nI_1]
      refine ih () (fun i hi => ?_)
      rcases (by omega : i < j ∨ i = j) with h | rfl
      · exact hb i h
      · exact q
theorem found_M {S : Mem} {a m n o : Nat} (hn : o + n ≤ m) (hm : m ≤ 100) (x : Int32) : wp (f_X10_found a m (nI o) (nI n) x S) (fun q => isPl (fun i => S.1 a (o + i)) n x q.1 ∧ q.2 = S) := by
  unfold f_X10_found
  refine lp0 (fun fuel i (_ : Unit) => f_X10_found_3 a m fuel (nI o) (nI n) x i S) n (fun j _ => ∀ i, i < j → S.1 a (o + i) ≠ x) (by omega) () (fun i hi => absurd hi (Nat.not_lt_zero i)) ?_ ?_
  · rintro fuel _ hb
    show wp (f_X10_found_3 a m (fuel + 1) (nI o) (nI n) x (nI n) S) _
    unfold f_X10_found_3
    exact wp_pos (Int32.le_refl _) (wp_some ⟨Or.inr ⟨hb, rfl⟩, rfl⟩)
  · rintro fuel j _ hj hb ih
    try simp only at ih
    show wp (f_X10_found_3 a m (fuel + 1) (nI o) (nI n) x (nI j) S) _
    unfold f_X10_found_3
    refine wp_neg (nI_ge hj (by omega)) ?_
    refine wp_rd (o + j) (nI_add o j) (by omega) rfl ?_ (by omega)
    refine wp_if (fun q => ?_) (fun q => ?_)
    · exact wp_some ⟨Or.inl ⟨j, hj, q, hb, rfl⟩, rfl⟩
    · rw [nI_1]
      refine ih () (fun i hi => ?_)
      rcases (by omega : i < j ∨ i = j) with h | rfl
      · exact hb i h
      · exact q
theorem q_named (h : Cp C M) (v x : Int32) : both C M (f_X9_named v x C) (f_X10_named v x M) := by
  unfold f_X10_named
  refine both_m h ?_
  intro N T L W nu M' hq
  unfold f_X9_named
  obtain ⟨-, -, ⟨hT, hM, hI⟩, -⟩ := hq
  have hnd := hI.2.1
  have hnn := hI.1
  by_cases c0 : v = 0
  · rw [if_pos c0, if_pos c0, hT.1]
    obtain ⟨⟨r, S1⟩, e1, h1, e2⟩ := place_C (S := C) (a := 32) (m := 6) (n := N 0 0) hnn (by omega) x
    simp only at h1 e2
    subst e2
    refine ⟨r, wp_bnde e1 (wp_some ⟨rfl, cQ_rf _⟩), ?_⟩
    refine wp_rd 0 rfl (by decide) hM.1 ?_
    refine wp_bnd (found_M (S := M') (a := 3) (m := 12) (n := N 0 0) (o := 0) (by omega) (by omega) x) ?_
    rintro r' S2 ⟨h2, e3⟩
    simp only at h2 e3
    subst e3
    refine wp_some ⟨(isPl_u (isPl_f (fun i hi => ?_) h1) h2).symm, mQ_rf _⟩
    rw [Nat.zero_add, (hT.2.2.2.1 i hi).1, (hM.2.2.2.1 i hi).1]
  · rw [if_neg c0, if_neg c0]
    by_cases c1 : v = 1
    · rw [if_pos c1, if_pos c1, hT.2.1]
      obtain ⟨⟨r, S1⟩, e1, h1, e2⟩ := place_C (S := C) (a := 35) (m := 10) (n := N 0 1) hnd (by omega) x
      simp only at h1 e2
      subst e2
      refine ⟨r, wp_bnde e1 (wp_some ⟨rfl, cQ_rf _⟩), ?_⟩
      refine wp_rd 1 rfl (by decide) hM.2.1 ?_
      refine wp_bnd (found_M (S := M') (a := 6) (m := 20) (n := N 0 1) (o := 0) (by omega) (by omega) x) ?_
      rintro r' S2 ⟨h2, e3⟩
      simp only at h2 e3
      subst e3
      refine wp_some ⟨(isPl_u (isPl_f (fun i hi => ?_) h1) h2).symm, mQ_rf _⟩
      rw [Nat.zero_add, (hT.2.2.2.2.1 i hi).1, (hM.2.2.2.2.1 i hi).1]
    · rw [if_neg c1, if_neg c1]; exact bq _ rfl rfl
def nStep (m : Int32) (nu : Nat → Nat) (i d : Nat) (s : Int32) : Int32 := if bt m d = true ∧ nu d = i then s + 1 else s
theorem heldBy_C {N : TN} {T : WS} {L : LWS} {W : WS} {nu : Nat → Nat} (hT : TC C N T L) (hI : TI N T L) (h : RC 53 C N W nu (caN N)) (hn : nuI N nu) {i : Nat} (hi : i < N 0 0) : f_X8_heldBy 53 (nI i) C = some (itN (nStep (W 0 3) nu i) (N 0 1) 0, C) := by
  have hnd := hI.2.1
  have hnn := hI.1
  unfold f_X8_heldBy
  suffices hh : wp (f_X8_heldBy_4 53 FU (nI i) 0 0 C) (fun q => q = (itN (nStep (W 0 3) nu i) (N 0 1) 0, C)) by
    obtain ⟨y, hy, rfl⟩ := hh
    exact hy
  refine lp0 (fun fuel k (x : Int32) => f_X8_heldBy_4 53 fuel (nI i) x k C) (N 0 1) (fun j x => x = itN (nStep (W 0 3) nu i) j 0) (by omega) 0 rfl ?_ ?_
  · rintro fuel x hx
    show wp (f_X8_heldBy_4 53 (fuel + 1) (nI i) x (nI (N 0 1)) C) _
    unfold f_X8_heldBy_4
    rw [hT.2.1]
    exact wp_pos (Int32.le_refl _) (wp_some (by rw [hx]))
  · rintro fuel j x hj hx ih
    try simp only at ih
    show wp (f_X8_heldBy_4 53 (fuel + 1) (nI i) x (nI j) C) _
    unfold f_X8_heldBy_4
    rw [hT.2.1]
    refine wp_neg (nI_ge hj (by omega)) ?_
    refine wp_bnde (heldR_C h (by omega)) ?_
    rw [itN_s, ← hx] at ih
    unfold nStep at ih
    unfold b01
    by_cases q : bt (W 0 3) j = true
    · rw [if_pos q]
      refine wp_neg (by decide) ?_
      refine wp_rd j rfl (by omega) (h.2.2.2.2.1 j hj).1 ?_
      have := hn j hj
      refine wp_if (fun q2 => ?_) (fun q2 => ?_)
      · rw [nI_eq (by omega) (by omega)] at q2
        rw [nI_1]; exact ih _ (by rw [if_pos ⟨q, q2⟩])
      · rw [nI_eq (by omega) (by omega)] at q2
        rw [nI_1]; exact ih _ (by rw [if_neg (fun e => q2 e.2)])
    · rw [if_neg q]
      refine wp_pos rfl ?_
      rw [nI_1]; exact ih _ (by rw [if_neg (fun e => q e.1)])
theorem q_nurse (h : Cp C M) (v x : Int32) : both C M (f_X9_nurse v x C) (f_X10_nurse v x M) := by
  unfold f_X10_nurse
  refine both_m h ?_
  intro N T L W nu M' hq
  unfold f_X9_nurse
  obtain ⟨-, -, ⟨hT, hM, hI⟩, ⟨hR, hR', ⟨-, hn⟩⟩, -⟩ := hq
  have hnd := hI.2.1
  have hnn := hI.1
  rcases ix_d v (n := N 0 0) (by omega) with ⟨i, hi, rfl⟩ | hv
  · rw [nurse_C1 hT hI hi, bnd_some, nurse_M1 hM hI hi, bnd_some, if_neg n10, if_neg n10]
    by_cases c0 : x = 0
    · subst c0
      refine bq (nI (N 2 i)) ?_ ?_
      · rw [if_pos rfl, rdN (by omega) (by decide), (hT.2.2.2.1 i hi).2.1]; rfl
      · rw [if_neg (by decide), if_pos (by decide), if_neg (by decide), if_pos rfl, rdN (by omega) (by decide), (hM.2.2.2.1 i hi).2.1]; rfl
    · rw [if_neg c0]
      by_cases c1 : x = 1
      · subst c1
        refine bq (nI (N 3 i)) ?_ ?_
        · rw [if_pos rfl, rdN (by omega) (by decide), (hT.2.2.2.1 i hi).2.2]; rfl
        · rw [if_neg (by decide), if_pos (by decide), if_neg (by decide), if_neg (by decide), rdN (by omega) (by decide), (hM.2.2.2.1 i hi).2.2]; rfl
      · rw [if_neg c1]
        by_cases c2 : x = 2
        · subst c2
          rw [if_pos rfl, heldBy_C hT hI hR hn hi]
          refine ⟨_, wp_bnde rfl (wp_some ⟨rfl, cQ_rf _⟩), ?_⟩
          refine wp_neg (by decide) (wp_pos (by decide) (wp_pos (by decide) ?_))
          obtain ⟨-, -, -, r0, -⟩ := RM0 hR'
          refine lp0 (fun fuel k (y : Int32) => f_X10_nurse_54 fuel (nI i) y k M') (N 0 1) (fun j y => y = itN (nStep (W 0 3) nu i) j 0) (by omega) 0 rfl ?_ ?_
          · rintro fuel y hy
            show wp (f_X10_nurse_54 (fuel + 1) (nI i) y (nI (N 0 1)) M') _
            unfold f_X10_nurse_54
            refine wp_rd 1 rfl (by decide) hM.2.1 ?_
            exact wp_pos (Int32.le_refl _) (wp_some ⟨hy, mQ_rf _⟩)
          · rintro fuel j y hj hy ih
            try simp only at ih
            show wp (f_X10_nurse_54 (fuel + 1) (nI i) y (nI j) M') _
            unfold f_X10_nurse_54
            refine wp_rd 1 rfl (by decide) hM.2.1 ?_
            refine wp_neg (nI_ge hj (by omega)) ?_
            refine wp_bnde (heldR_M (t := 0) hR' (by omega) hnd hj) ?_
            rw [itN_s, ← hy] at ih
            unfold nStep at ih
            unfold b01
            by_cases q : bt (W 0 3) j = true
            · rw [if_pos q]
              refine wp_neg (by decide) ?_
              refine wp_rd j rfl (by omega) (r0 j hj).1 ?_
              have := hn j hj
              refine wp_if (fun q2 => ?_) (fun q2 => ?_)
              · rw [nI_eq (by omega) (by omega)] at q2
                rw [nI_1]; exact ih _ (by rw [if_pos ⟨q, q2⟩])
              · rw [nI_eq (by omega) (by omega)] at q2
                rw [nI_1]; exact ih _ (by rw [if_neg (fun e => q2 e.2), Int32.add_zero])
            · rw [if_neg q]
              refine wp_pos rfl ?_
              rw [nI_1]; exact ih _ (by rw [if_neg (fun e => q e.1), Int32.add_zero])
        · rw [if_neg c2]
          refine ⟨-1, wp_some ⟨rfl, cQ_rf _⟩, ?_⟩
          refine wp_if (fun _ => wp_some ⟨rfl, mQ_rf _⟩) (fun q => ?_)
          refine wp_if (fun q2 => ?_) (fun _ => wp_some ⟨rfl, mQ_rf _⟩)
          obtain ⟨j, hj, rfl⟩ := nI_of2 (M := 2) (n := 2) rfl q q2
          rcases (by omega : j = 0 ∨ j = 1 ∨ j = 2) with rfl | rfl | rfl
          · exact absurd rfl c0
          · exact absurd rfl c1
          · exact absurd rfl c2
  · rw [nurse_C0 hT hv, bnd_some, nurse_M0 hM hv, bnd_some]
    exact bq _ rfl rfl
theorem q_city (h : Cp C M) (v x : Int32) : both C M (f_X9_city v x C) (f_X10_city v x M) := by
  unfold f_X10_city
  refine both_m h ?_
  intro N T L W nu M' hq
  unfold f_X9_city
  obtain ⟨-, -, ⟨hT, hM, hI⟩, ⟨hR, hR', -⟩, -⟩ := hq
  rcases ix_c v with ⟨c, hc, rfl⟩ | hv
  · rw [city_C1 hc, bnd_some, city_M1 hc, bnd_some, if_neg n10, if_neg n10]
    obtain ⟨-, -, -, -, r0⟩ := RM0 hR'
    by_cases c0 : x = 0
    · rw [if_pos c0, if_pos c0, rdN hc (by decide), rdN (by omega) (by decide), (hR.2.2.2.2.2.1 c hc).1, (r0 c hc).1]
      exact bq _ rfl rfl
    rw [if_neg c0, if_neg c0]
    by_cases c1 : x = 1
    · rw [if_pos c1, if_pos c1, rdN hc (by decide), rdN (by omega) (by decide), (hR.2.2.2.2.2.1 c hc).2, (r0 c hc).2]
      exact bq _ rfl rfl
    rw [if_neg c1, if_neg c1]
    by_cases c2 : x = 2
    · rw [if_pos c2, if_pos c2, holdsR_C hT hI hR hc, heldBy_M hM hI hR' hc]
      exact bq _ rfl rfl
    rw [if_neg c2, if_neg c2]
    by_cases c3 : x = 3
    · rw [if_pos c3, if_pos c3, ownR_C hT hI hR hc, sub1 hc, heldBy_M hM hI hR' (by omega)]
      exact bq _ rfl rfl
    rw [if_neg c3, if_neg c3]
    by_cases c4 : x = 4
    · rw [if_pos c4, if_pos c4, ownR_C hT hI hR hc, sub1 hc, heldBy_M hM hI hR' (by omega), bnd_some, bnd_some, sum6_C hT hI, sum6_M hM hI]
      exact bq _ rfl rfl
    rw [if_neg c4, if_neg c4]
    exact bq _ rfl rfl
  · rw [city_C0 hv, bnd_some, city_M0 hv, bnd_some]
    exact bq _ rfl rfl
theorem q_moths (h : Cp C M) (v : Int32) : both C M (f_X9_moths v C) (f_X10_moths v M) := by
  unfold f_X10_moths
  refine both_m h ?_
  intro N T L W nu M' hq
  unfold f_X9_moths
  obtain ⟨-, -, ⟨hT, hM, hI⟩, ⟨hR, hR', ⟨-, hn⟩⟩, -, -, -, -, h43, h44⟩ := hq
  have hnd := hI.2.1
  rcases ix_d v (n := N 0 1) (by omega) with ⟨d, hd, rfl⟩ | hv
  · have eh : f_X10_isHeld 0 (nI d) M' = some (b01 (bt (W 0 3) d), M') := heldR_M (t := 0) hR' (by omega) hnd hd
    rw [heldD_C hT hI hR hd, bnd_some, doll_M1 hM hI hd, bnd_some, if_neg n10, eh, bnd_some]
    unfold b01
    by_cases q : bt (W 0 3) d = true
    · rw [if_pos q, if_neg n10, if_neg n10, careR_C hR hn hI hd, bnd_some]
      obtain ⟨-, -, -, r0, -⟩ := RM0 hR'
      rw [rdN (by omega) (by decide), (r0 d hd).1, Option.bind_some]
      refine ⟨sOdds N T L W (caN N (nu d)) d, wp_bnd (oddsR_C hT hI hR hn hd _) ?_, wp_bnd (mothsR_M hM hI hR' hn h43 h44 hd (hn d hd)) ?_⟩
      · rintro r S ⟨e, f⟩
        exact wp_some ⟨e, cQ_n f⟩
      · rintro r S ⟨e, f⟩
        exact wp_some ⟨e, mQ_S f⟩
    · rw [if_neg q]
      exact bq _ rfl rfl
  · rw [heldD_C0 hT hv, bnd_some, doll_M0 hM hv, bnd_some]
    exact bq _ rfl rfl
theorem hasLaw_M {N : TN} {T : WS} {L : LWS} (hM : TM M N T L) (hI : TI N T L) {k : Nat} (hk : k < 3) : f_X10_hasLaw (nI k) M = some (match L k with | none => 0 | some _ => 1, M) := by
  obtain ⟨tn, ts⟩ := hM.2.2.2.2.2.2 k hk
  unfold f_X10_hasLaw
  rw [rdN (by omega) (by decide), rdN (by omega) (by decide), Option.bind_some, Option.bind_some]
  cases hL : L k with
  | none => rw [if_pos (tn hL)]
  | some l =>
    obtain ⟨a, ea, eb, hab, hrow⟩ := ts l hL
    have hl := wf_ne (hI.2.2.2.2.2.2.2.2 k hk l hL).1
    rw [ea, eb, if_neg (nI_ge (by omega) (by omega))]
theorem law75_M {N : TN} {T : WS} {L : LWS} (hM : TM M N T L) (hI : TI N T L) {k : Nat} (hk : k < 3) {l : List Nat} (hL : L k = some l) {nm : Nat → Int32} (hnm : ∀ i, i < 7 → M.2 14 i = (nm i).toInt64) : wp (f_X10_law_75 (nI k) M) (fun q => q.1 = er (lawV (L k) nm) ∧ frS M q.2) := by
  unfold f_X10_law_75
  refine wp_bnd (goes_M hM hI hk hL hnm) ?_
  rintro r S ⟨f, hm⟩
  simp only at f hm
  rw [hL]
  show wp _ (fun q : Int64 × Mem => q.1 = er (fin1 (evL nm l [])) ∧ frS M q.2)
  cases hv : fin1 (evL nm l []) with
  | none =>
    rw [hv] at hm
    exact wp_pos hm (wp_some ⟨rfl, f⟩)
  | some v =>
    rw [hv] at hm
    refine wp_neg (by rw [hm.1]; decide) ?_
    exact wp_rdL 0 rfl (by decide) hm.2 (wp_some ⟨rfl, f⟩)
theorem q_law (h : Cp C M) (v x : Int32) : both C M (f_X9_law v x C) (f_X10_law v x M) := by
  unfold f_X10_law
  refine both_m h ?_
  intro N T L W nu M' hq
  unfold f_X9_law
  obtain ⟨-, -, ⟨hT, hM, hI⟩, ⟨hR, hR', ⟨-, hn⟩⟩, -, -, -, -, h43, h44⟩ := hq
  have hnd := hI.2.1
  have hnn := hI.1
  have hWM := WM_of (cf := caN N) hR' hn hI (fun i hi => cin0 hM h43 h44 hi hI)
  obtain ⟨-, -, -, r0, -⟩ := RM0 hR'
  by_cases c2 : v = 2
  · subst c2
    have eL : f_X10_hasLaw 2 M' = some (match L 2 with | none => 0 | some _ => 1, M') := hasLaw_M (k := 2) hM hI (by omega)
    rw [if_pos rfl, if_neg (show ¬ (2 : Int32) < 0 by decide), if_neg (show ¬ (2 : Int32) < 2 by decide), eL, bnd_some]
    rcases ix_c x with ⟨c, hc, rfl⟩ | hx
    · rw [city_C1 hc, bnd_some, if_neg n10]
      refine ⟨_, wp_bnd (calmR_C hT hI hR hn hc) (fun r S e => wp_some ⟨e.1, cQ_n e.2⟩), ?_⟩
      cases hL : L 2 with
      | none => exact wp_pos rfl (wp_some ⟨rfl, mQ_rf _⟩)
      | some l =>
        refine wp_neg n10 (wp_pos rfl ?_)
        rw [city_M1 hc, bnd_some]
        refine wp_neg (by decide) ?_
        unfold f_X10_law_49
        refine wp_pos rfl ?_
        refine wp_call (callsCity_M (t := 0) hWM (by omega) hc) ?_
        rintro S ⟨e1, hnm⟩
        rw [nmC_hm] at hnm
        refine wp_mono (law75_M (TM_S hM (frS_1 e1)) hI (by omega) hL hnm) ?_
        rintro ⟨a, b⟩ ⟨e, f⟩
        rw [hL] at e
        exact ⟨e, mQ_S (frS_tr (frS_1 e1) f)⟩
    · rw [city_C0 hx, bnd_some, if_pos rfl]
      refine ⟨_, wp_some ⟨rfl, cQ_rf _⟩, ?_⟩
      cases hL : L 2 with
      | none => exact wp_pos rfl (wp_some ⟨rfl, mQ_rf _⟩)
      | some l =>
        refine wp_neg n10 (wp_pos rfl ?_)
        rw [city_M0 hx, bnd_some]
        exact wp_pos rfl (wp_some ⟨rfl, mQ_rf _⟩)
  · rw [if_neg c2]
    by_cases ck : ∃ k, k < 2 ∧ v = nI k
    · obtain ⟨k, hk, rfl⟩ := ck
      have e40 : (if nI k = 0 then f_X9_law_40 (nI k) x C else if nI k = 1 then f_X9_law_40 (nI k) x C else some (-9223372036854775808, C)) = f_X9_law_40 (nI k) x C := by
        rcases (by omega : k = 0 ∨ k = 1) with rfl | rfl
        · rw [if_pos (by decide)]
        · rw [if_neg (by decide), if_pos (by decide)]
      rw [e40]
      rw [if_neg (nI_pos (by omega)), if_neg (show ¬ (2 : Int32) < nI k from nI_nlt (a := 2) (b := k) (by omega) (by omega)), hasLaw_M hM hI (by omega), bnd_some]
      unfold f_X9_law_40
      rcases ix_d x (n := N 0 1) (by omega) with ⟨d, hd, rfl⟩ | hx
      · rw [doll_C1 hT hI hd, bnd_some, if_neg n10, careR_C hR hn hI hd, bnd_some]
        refine ⟨_, wp_bnd (lawR_C hT hI hR hn (by omega) hd _) (fun r S e => wp_some ⟨e.1, cQ_n e.2⟩), ?_⟩
        cases hL : L k with
        | none => exact wp_pos rfl (wp_some ⟨rfl, mQ_rf _⟩)
        | some l =>
          refine wp_neg n10 (wp_neg c2 ?_)
          rw [doll_M1 hM hI hd, bnd_some]
          refine wp_neg (by decide) ?_
          unfold f_X10_law_49
          refine wp_neg c2 ?_
          refine wp_rd d rfl (by omega) (r0 d hd).1 ?_
          have hnu := hn d hd
          refine wp_call (calls_M (t := 0) hM hI hWM (by omega) hd (j := nu d) (by omega)) ?_
          rintro S ⟨e1, hnm⟩
          rw [nmD_hm, cin0 hM h43 h44 hnu hI] at hnm
          refine wp_mono (law75_M (TM_S hM (frS_1 e1)) hI (by omega) hL hnm) ?_
          rintro ⟨a, b⟩ ⟨e, f⟩
          rw [hL] at e
          exact ⟨e, mQ_S (frS_tr (frS_1 e1) f)⟩
      · rw [doll_C0 hT hx, bnd_some, if_pos rfl]
        refine ⟨_, wp_some ⟨rfl, cQ_rf _⟩, ?_⟩
        cases hL : L k with
        | none => exact wp_pos rfl (wp_some ⟨rfl, mQ_rf _⟩)
        | some l =>
          refine wp_neg n10 (wp_neg c2 ?_)
          rw [doll_M0 hM hx, bnd_some]
          exact wp_pos rfl (wp_some ⟨rfl, mQ_rf _⟩)
    · rw [if_neg (show ¬ v = 0 from fun e => ck ⟨0, by omega, e⟩), if_neg (show ¬ v = 1 from fun e => ck ⟨1, by omega, e⟩)]
      refine ⟨_, wp_some ⟨rfl, cQ_rf _⟩, ?_⟩
      refine wp_if (fun _ => wp_some ⟨rfl, mQ_rf _⟩) (fun q => ?_)
      refine wp_if (fun _ => wp_some ⟨rfl, mQ_rf _⟩) (fun q2 => ?_)
      obtain ⟨j, hj, rfl⟩ := nI_of2 (M := 2) (n := 2) rfl q (Int32.not_lt.mp q2)
      rcases (by omega : j < 2 ∨ j = 2) with hj2 | rfl
      · exact absurd ⟨j, hj2, rfl⟩ ck
      · exact absurd rfl c2
theorem q_answersOn (h : Cp C M) (v : Int32) : both C M (f_X9_answersOn v C) (f_X10_answersOn v M) := by
  unfold f_X10_answersOn
  refine both_m h ?_
  intro N T L W nu M' hq
  unfold f_X9_answersOn
  obtain ⟨-, -, ⟨hT, hM, hI⟩, ⟨hR, hR', ⟨-, hn⟩⟩, -, -, -, -, h43, h44⟩ := hq
  have hnd := hI.2.1
  rcases ix_c v with ⟨c, hc, rfl⟩ | hv
  · have e1 := most_C (w := 53) hT hI (WC_of hR hn hI) hc
    have e2 := answerOf_M (t := 0) hM hI (WM_of (cf := caN N) hR' hn hI (fun i hi => cin0 hM h43 h44 hi hI)) (by omega) hc
    rw [show wu W 0 4 (C.1 53 12) 0 3 = W 0 3 from rfl] at e1
    rw [show wu W 0 4 (M'.1 0 40) 0 3 = W 0 3 from rfl] at e2
    rw [city_C1 hc, bnd_some, city_M1 hc, bnd_some, if_neg n10, if_neg n10, e1, bnd_some, show f_X10_answerOf 0 (nI c) M' = _ from e2, bnd_some]
    cases hb : sMost N T (W 0 3) c with
    | none => exact bq (-2) rfl rfl
    | some d =>
      have hd : d < N 0 1 := most_in _ _ hb
      refine bq (nI d) rfl ?_
      show (if nI d = -1 then _ else some (nI d, M')) = _
      rw [if_neg (nI_n1 (by omega))]
  · rw [city_C0 hv, bnd_some, city_M0 hv, bnd_some]
    exact bq _ rfl rfl
theorem q_lists (h : Cp C M) (v x y : Int32) : both C M (f_X9_lists v x y C) (f_X10_lists v x y M) := by
  unfold f_X10_lists
  refine both_m h ?_
  intro N T L W nu M' hq
  unfold f_X9_lists
  obtain ⟨-, -, ⟨hT, hM, hI⟩, ⟨hR, hR', -⟩, -⟩ := hq
  rcases ix_c v with ⟨c, hc, rfl⟩ | hv
  · rw [city_C1 hc, bnd_some, city_M1 hc, bnd_some, if_neg n10, if_neg n10]
    by_cases a1 : x < 1
    · rw [if_pos a1, if_pos a1]; exact bq _ rfl rfl
    rw [if_neg a1, if_neg a1]
    by_cases a2 : 9 < x
    · rw [if_pos a2, if_pos a2]; exact bq _ rfl rfl
    rw [if_neg a2, if_neg a2]
    by_cases a3 : y < 1
    · rw [if_pos a3, if_pos a3]; exact bq _ rfl rfl
    rw [if_neg a3, if_neg a3]
    by_cases a4 : y ≤ 9
    · rw [if_pos a4, if_pos a4, ownR_C hT hI hR hc, sub1 hc, heldBy_M hM hI hR' (by omega), bnd_some, bnd_some, bits_Cx (hMask_10 hI), bits_M, bnd_some, bnd_some]
      have hx : ∃ j, 1 ≤ j ∧ j ≤ 9 ∧ x = nI j := by
        obtain ⟨j, hj, rfl⟩ := nI_of2 (M := 9) (n := 9) rfl (fun e => a1 (Int32.lt_trans e (by decide))) (Int32.not_lt.mp a2)
        refine ⟨j, ?_, hj, rfl⟩
        rcases Nat.eq_zero_or_pos j with rfl | h
        · exact absurd (by decide) a1
        · exact h
      have hy : ∃ j, 1 ≤ j ∧ j ≤ 9 ∧ y = nI j := by
        obtain ⟨j, hj, rfl⟩ := nI_of2 (M := 9) (n := 9) rfl (fun e => a3 (Int32.lt_trans e (by decide))) a4
        refine ⟨j, ?_, hj, rfl⟩
        rcases Nat.eq_zero_or_pos j with rfl | h
        · exact absurd (by decide) a3
        · exact h
      obtain ⟨j, j1, j2, rfl⟩ := hx
      obtain ⟨k, k1, k2, rfl⟩ := hy
      have hne : nI j * nI k ≠ 0 := by
        rw [pk_mul, show (0 : Int32) = nI 0 from rfl]
        intro e
        have hp : 0 < j * k := Nat.mul_pos j1 k1
        have hb : j * k ≤ 9 * 9 := Nat.mul_le_mul j2 k2
        have := (nI_eq (by omega) (by omega)).mp e
        omega
      unfold dv
      rw [if_neg hne]
      exact bq _ rfl rfl
    · rw [if_neg a4, if_neg a4]; exact bq _ rfl rfl
  · rw [city_C0 hv, bnd_some, city_M0 hv, bnd_some]
    exact bq _ rfl rfl
end ASK
