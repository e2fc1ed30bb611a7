/-! PURE 28: nursing by the class -/
section NUC
variable {C M S : Mem} {N : TN} {T : WS} {L : LWS} {W : WS} {nu : Nat → Nat} {cf : Nat → Int32}
def cN (S S' : Mem) : Prop := (∀ c i, c < 60 ∨ (60 < c ∧ c < 69) ∨ (76 < c ∧ c < 88) → ¬ (c = 53 ∧ i = 12) → S'.1 c i = S.1 c i) ∧ ∀ c, c ≠ 69 → c ≠ 46 → c ≠ 49 → c ≠ 52 → S'.2 c = S.2 c
theorem cN_rf (S : Mem) : cN S S := ⟨fun _ _ _ _ => rfl, fun _ _ _ _ _ => rfl⟩
theorem cN_tr {S S1 S2 : Mem} (h : cN S S1) (h' : cN S1 S2) : cN S S2 := ⟨fun c i a b => (h'.1 c i a b).trans (h.1 c i a b), fun c a b d e => (h'.2 c a b d e).trans (h.2 c a b d e)⟩
theorem cN_s {k i : Nat} {v : Int32} (h : (69 ≤ k ∧ k ≤ 76) ∨ 88 ≤ k) : cN S (sI S k i v) := ⟨fun c j a _ => by rw [sI1, if_neg (by omega)], fun _ _ _ _ _ => rfl⟩
theorem cN_69 {S S' : Mem} (h : fr 69 S S') : cN S S' := ⟨fun c i a _ => by rw [h.1 c (by omega)], fun c a b d e => h.2 c a b d e⟩
theorem cN_t {S S' : Mem} (h : frT 69 S S') : cN S S' := ⟨fun c i a _ => by rw [h.1 c (by omega)], fun c a b d e => h.2 c a⟩
theorem TC_N (h : TC C N T L) (f : cN C S) : TC S N T L := TC_to h (fun k a b => funext fun i => f.1 k i (by omega) (by omega))
theorem RC53_N (h : RC 53 C N W nu cf) (f : cN C S) : RC 53 S N W nu cf := RC_to h (fun c i a b q => f.1 c i (by omega) (by omega)) (by rw [f.2 53 (by omega) (by omega) (by omega) (by omega)])
theorem bt_test0 {x : Int32} {d : Nat} (hd : d < 32) : ((x >>> (nI d &&& 31)) &&& 1 = 0) ↔ bt x d = false := by
  have h1 := bt_test (x := x) hd
  obtain ⟨j, hj, e⟩ := pk_andE (x >>> (nI d &&& 31)) (m := 1) 1 rfl
  rw [e] at h1 ⊢
  rcases (by omega : j = 0 ∨ j = 1) with rfl | rfl
  · constructor
    · intro _
      rw [← Bool.not_eq_true]
      exact fun q => absurd (h1.mpr q) (by decide)
    · intro _; rfl
  · constructor
    · intro q; exact absurd q (by decide)
    · intro q
      have := h1.mp rfl
      rw [q] at this; cases this
theorem gd_l {l r : List Nat} {j : Nat} (h : j < l.length) : (l ++ r).getD j 0 = l.getD j 0 := by
  rw [List.getD_eq_getElem?_getD, List.getD_eq_getElem?_getD, List.getElem?_append_left h]
theorem gd_r {l : List Nat} {x : Nat} : (l ++ [x]).getD l.length 0 = x := by
  rw [List.getD_eq_getElem?_getD, List.getElem?_append_right (Nat.le_refl _), Nat.sub_self]
  rfl
def qH (N : TN) (m : Int32) (c : Nat) : Nat → Bool := fun d => bt (hMask N m c) d
def preH (N : TN) (m : Int32) (c i : Nat) : List Nat := (List.range i).filter (qH N m c)
theorem preH_s {m : Int32} {c i : Nat} : preH N m c (i + 1) = preH N m c i ++ (if qH N m c i = true then [i] else []) := by
  unfold preH
  rw [List.range_succ, List.filter_append]
  congr 1
  simp only [List.filter_cons, List.filter_nil]
theorem preH_up {m : Int32} {c : Nat} : ∀ k i, ∃ r, preH N m c (i + k) = preH N m c i ++ r := by
  intro k
  induction k with
  | zero => intro i; exact ⟨[], by simp⟩
  | succ k ih =>
    intro i
    obtain ⟨r, e⟩ := ih i
    rw [show i + (k + 1) = (i + k) + 1 from rfl, preH_s, e, List.append_assoc]
    exact ⟨_, rfl⟩
theorem dHeld_e (hnd : N 0 1 ≤ 10) {m : Int32} {c : Nat} : (preH N m c 10).take 4 = dHeld N m c := by
  unfold dHeld
  congr 1
  have h1 : preH N m c (N 0 1) = (List.range (N 0 1)).filter (fun d => bt m d && decide (ow N d ≠ c)) := by
    unfold preH
    apply List.filter_congr
    intro d hd
    rw [List.mem_range] at hd
    unfold qH
    have := hMask_bt (N := N) (m := m) (c := c) hnd d
    by_cases q : bt (hMask N m c) d = true
    · rw [q]
      have := this.mp q
      simp [this.1, this.2.2]
    · have q' : bt (hMask N m c) d = false := by rw [Bool.not_eq_true] at q; exact q
      rw [q']
      symm
      rw [← Bool.not_eq_true]
      intro e
      simp only [Bool.and_eq_true, decide_eq_true_eq] at e
      exact q (this.mpr ⟨e.1, hd, e.2⟩)
  rw [← h1]
  have h2 : ∀ k, preH N m c (N 0 1 + k) = preH N m c (N 0 1) := by
    intro k
    induction k with
    | zero => rfl
    | succ k ih =>
      rw [show N 0 1 + (k + 1) = (N 0 1 + k) + 1 from rfl, preH_s, ih]
      have : ¬ qH N m c (N 0 1 + k) = true := fun e => by have := ((hMask_bt hnd _).mp e).2.1; omega
      rw [if_neg this, List.append_nil]
  have := h2 (10 - N 0 1)
  rw [show N 0 1 + (10 - N 0 1) = 10 by omega] at this
  exact this
theorem dolls_C (hT : TC C N T L) (hI : TI N T L) (hR : RC 53 C N W nu cf) {c : Nat} (hc : c < 2) : wp (f_X3_findDolls 53 (nI c) C) (fun S => S.1 88 0 = nI (dHeld N (W 0 3) c).length ∧ (∀ j, j < (dHeld N (W 0 3) c).length → S.1 90 j = nI ((dHeld N (W 0 3) c).getD j 0)) ∧ (∀ k i, ¬ (k = 88 ∧ i = 0) → k ≠ 90 → S.1 k i = C.1 k i) ∧ S.2 = C.2) := by
  have hnd := hI.2.1
  unfold f_X3_findDolls
  refine wp_bnde (holdsR_C hT hI hR hc) (wp_nxt ?_)
  rw [← dHeld_e hnd]
  have fin : ∀ (i : Nat) (S : Mem), i ≤ 10 → (preH N (W 0 3) c i).length ≤ 4 → (i = 10 ∨ (preH N (W 0 3) c i).length = 4) → S.1 88 0 = nI (preH N (W 0 3) c i).length → (∀ j, j < (preH N (W 0 3) c i).length → S.1 90 j = nI ((preH N (W 0 3) c i).getD j 0)) → S.1 88 0 = nI ((preH N (W 0 3) c 10).take 4).length ∧ (∀ j, j < ((preH N (W 0 3) c 10).take 4).length → S.1 90 j = nI (((preH N (W 0 3) c 10).take 4).getD j 0)) := by
    intro i S hi hl he h1 h2
    have : (preH N (W 0 3) c 10).take 4 = preH N (W 0 3) c i := by
      obtain ⟨r, e⟩ := preH_up (N := N) (m := W 0 3) (c := c) (10 - i) i
      rw [show i + (10 - i) = 10 by omega] at e
      rcases he with he | he
      · subst he
        exact List.take_of_length_le hl
      · rw [e, ← he, List.take_left']
        rfl
    rw [this]
    exact ⟨h1, h2⟩
  refine lp0 (fun fuel i S => f_X3_findDolls_14 53 fuel (hMask N (W 0 3) c) i S) 10 (fun i S => (preH N (W 0 3) c i).length ≤ 4 ∧ S.1 88 0 = nI (preH N (W 0 3) c i).length ∧ (∀ j, j < (preH N (W 0 3) c i).length → S.1 90 j = nI ((preH N (W 0 3) c i).getD j 0)) ∧ (∀ k i, ¬ (k = 88 ∧ i = 0) → k ≠ 90 → S.1 k i = C.1 k i) ∧ S.2 = C.2) (by omega) (sI C 88 0 0) ⟨by show 0 ≤ 4; omega, by rw [sI1, if_pos ⟨rfl, rfl⟩]; rfl, fun j hj => absurd hj (Nat.not_lt_zero j), fun k i q1 q2 => by rw [sI1, if_neg q1], rfl⟩ ?_ ?_
  · rintro fuel S ⟨h1, h2, h3, h4, h5⟩
    obtain ⟨a, b⟩ := fin 10 S (by omega) h1 (Or.inl rfl) h2 h3
    exact wp_pos (by decide) (wp_some ⟨a, b, h4, h5⟩)
  · rintro fuel i S hi ⟨h1, h2, h3, h4, h5⟩ ih
    try simp only at ih
    show wp (f_X3_findDolls_14 53 (fuel + 1) (hMask N (W 0 3) c) (nI i) S) _
    unfold f_X3_findDolls_14
    refine wp_neg (nI_ge (b := 10) hi (by omega)) ?_
    rw [h2]
    refine wp_if (fun q => ?_) (fun q => ?_)
    · have q : 4 ≤ (preH N (W 0 3) c i).length := (nI_leI (by omega) (by omega)).mp (show nI 4 ≤ nI _ from q)
      obtain ⟨a, b⟩ := fin i S (by omega) h1 (Or.inr (by omega)) h2 h3
      exact wp_some ⟨a, b, h4, h5⟩
    · have q : (preH N (W 0 3) c i).length < 4 := by
        rcases Nat.lt_or_ge (preH N (W 0 3) c i).length 4 with z | z
        · exact z
        · exact absurd (show nI 4 ≤ nI _ from nI_le z (by omega)) q
      rw [preH_s] at ih
      refine wp_if (fun qb => ?_) (fun qb => ?_)
      · have qb : qH N (W 0 3) c i = true := (bt_test (by omega)).mp qb
        rw [if_pos qb] at ih
        refine wp_wr (preH N (W 0 3) c i).length rfl q ?_
        refine wp_nxt ?_
        rw [nI_1, show (sI S 90 (preH N (W 0 3) c i).length (nI i)).1 88 0 + 1 = nI (preH N (W 0 3) c i ++ [i]).length by rw [sI_off (by omega), h2, nI_1, List.length_append]; rfl]
        refine ih _ ⟨by rw [List.length_append]; show _ + 1 ≤ 4; omega, by rw [sI1, if_pos ⟨rfl, rfl⟩], fun j hj => ?_, fun k i' q1 q2 => ?_, h5⟩
        · rw [List.length_append] at hj
          have hj : j < (preH N (W 0 3) c i).length + 1 := hj
          rw [sI_off (by omega), sI1]
          by_cases qj : j = (preH N (W 0 3) c i).length
          · rw [if_pos ⟨rfl, qj⟩, qj, gd_r]
          · rw [if_neg (by omega), gd_l (by omega)]; exact h3 j (by omega)
        · rw [sI1, if_neg q1, sI_off q2]; exact h4 k i' q1 q2
      · have qb : ¬ qH N (W 0 3) c i = true := fun e => qb ((bt_test (by omega)).mpr e)
        rw [if_neg qb, List.append_nil] at ih
        rw [nI_1]
        exact ih S ⟨h1, h2, h3, h4, h5⟩
/-! nurses -/
theorem dd_snoc : ∀ (A seen : List Nat) (j : Nat), ddp N seen (A ++ [j]) = ddp N seen A ++ (if N 3 j ∈ seen ∨ ∃ a ∈ A, N 3 a = N 3 j then [] else [j]) := by
  intro A
  induction A with
  | nil =>
    intro seen j
    show ddp N seen [j] = [] ++ _
    unfold ddp
    by_cases q : N 3 j ∈ seen
    · rw [if_pos q, if_pos (Or.inl q)]; rfl
    · rw [if_neg q, if_neg (fun e => by rcases e with e | ⟨a, ha, -⟩; exact q e; cases ha)]; rfl
  | cons a A ih =>
    intro seen j
    show ddp N seen (a :: (A ++ [j])) = _
    unfold ddp
    by_cases q : N 3 a ∈ seen
    · rw [if_pos q, if_pos q, ih]
      congr 1
      by_cases e : N 3 j ∈ seen ∨ ∃ x ∈ A, N 3 x = N 3 j
      · rw [if_pos e, if_pos]
        rcases e with e | ⟨x, hx, e⟩
        · exact Or.inl e
        · exact Or.inr ⟨x, List.mem_cons_of_mem _ hx, e⟩
      · rw [if_neg e, if_neg]
        intro e2
        rcases e2 with e2 | ⟨x, hx, e2⟩
        · exact e (Or.inl e2)
        · rcases List.mem_cons.mp hx with rfl | hx
          · exact e (Or.inl (by rw [← e2]; exact q))
          · exact e (Or.inr ⟨x, hx, e2⟩)
    · rw [if_neg q, if_neg q, ih, List.cons_append]
      congr 2
      by_cases e : N 3 j ∈ N 3 a :: seen ∨ ∃ x ∈ A, N 3 x = N 3 j
      · rw [if_pos e, if_pos]
        rcases e with e | ⟨x, hx, e⟩
        · rcases List.mem_cons.mp e with e | e
          · exact Or.inr ⟨a, List.mem_cons_self, e.symm⟩
          · exact Or.inl e
        · exact Or.inr ⟨x, List.mem_cons_of_mem _ hx, e⟩
      · rw [if_neg e, if_neg]
        intro e2
        rcases e2 with e2 | ⟨x, hx, e2⟩
        · exact e (Or.inl (List.mem_cons_of_mem _ e2))
        · rcases List.mem_cons.mp hx with rfl | hx
          · exact e (Or.inl (by rw [e2]; exact List.mem_cons_self))
          · exact e (Or.inr ⟨x, hx, e2⟩)
def preN (N : TN) (c i : Nat) : List Nat := (List.range i).filter (fun j => decide (N 2 j = c))
theorem preN_s {c i : Nat} : preN N c (i + 1) = preN N c i ++ (if N 2 i = c then [i] else []) := by
  unfold preN
  rw [List.range_succ, List.filter_append]
  congr 1
  simp only [List.filter_cons, List.filter_nil, decide_eq_true_eq]
theorem preN_len {c : Nat} : ∀ i, (ddp N [] (preN N c i)).length ≤ i := by
  intro i
  induction i with
  | zero => exact Nat.le_refl _
  | succ i ih =>
    rw [preN_s]
    by_cases q : N 2 i = c
    · rw [if_pos q, dd_snoc, List.length_append]
      split
      · show _ + 0 ≤ _; omega
      · show _ + 1 ≤ _; omega
    · rw [if_neg q, List.append_nil]; omega
theorem nurses_C (hT : TC C N T L) (hI : TI N T L) (hR : RC 53 C N W nu (caN N)) {c : Nat} (hc : c < 2) : wp (f_X3_findNurses 53 (nI c) C) (fun S => S.1 88 5 = nI (ddp N [] (nsOf N c)).length ∧ (∀ j, j < (ddp N [] (nsOf N c)).length → S.1 91 j = nI ((ddp N [] (nsOf N c)).getD j 0)) ∧ (∀ k i, ¬ (k = 88 ∧ i = 5) → k ≠ 91 → S.1 k i = C.1 k i) ∧ S.2 = C.2) := by
  have hnn := hI.1
  unfold f_X3_findNurses
  refine wp_nxt ?_
  refine lp0 (fun fuel i (s : Int32 × Mem) => f_X3_findNurses_10 53 fuel (nI c) s.1 i s.2) (N 0 0) (fun i s => (∀ e, e < 32 → (bt s.1 e = true ↔ ∃ a ∈ preN N c i, N 3 a = e)) ∧ s.2.1 88 5 = nI (ddp N [] (preN N c i)).length ∧ (∀ j, j < (ddp N [] (preN N c i)).length → s.2.1 91 j = nI ((ddp N [] (preN N c i)).getD j 0)) ∧ (∀ k i, ¬ (k = 88 ∧ i = 5) → k ≠ 91 → s.2.1 k i = C.1 k i) ∧ s.2.2 = C.2) (by omega) (0, sI C 88 5 0) ⟨fun e _ => by rw [bt_z]; exact ⟨fun h => (by cases h), fun ⟨a, ha, _⟩ => (by cases ha)⟩, by rw [sI1, if_pos ⟨rfl, rfl⟩]; rfl, fun j hj => absurd hj (Nat.not_lt_zero j), fun k i q1 q2 => by rw [sI1, if_neg q1], rfl⟩ ?_ ?_
  · rintro fuel ⟨x, S⟩ ⟨h0, h1, h2, h3, h4⟩
    simp only at h0 h1 h2 h3 h4
    show wp (f_X3_findNurses_10 53 (fuel + 1) (nI c) x (nI (N 0 0)) S) _
    unfold f_X3_findNurses_10
    rw [h3 31 0 (by omega) (by omega), hT.1]
    exact wp_pos (Int32.le_refl _) (wp_some ⟨h1, h2, h3, h4⟩)
  · rintro fuel i ⟨x, S⟩ hi ⟨h0, h1, h2, h3, h4⟩ ih
    simp only at h0 h1 h2 h3 h4 ih
    show wp (f_X3_findNurses_10 53 (fuel + 1) (nI c) x (nI i) S) _
    unfold f_X3_findNurses_10
    rw [h3 31 0 (by omega) (by omega), hT.1]
    refine wp_neg (nI_ge hi (by omega)) ?_
    have hi2 := hI.2.2.1 i hi
    refine wp_rd i rfl (by omega) (v := nI (N 3 i)) (by rw [h3 _ _ (by omega) (by omega)]; exact hR.2.2.2.2.2.2 i hi) ?_
    refine wp_rd i rfl (by omega) (v := nI (N 2 i)) (by rw [h3 _ _ (by omega) (by omega)]; exact (hT.2.2.2.1 i hi).2.1) ?_
    rw [preN_s] at ih
    have hlen := preN_len (N := N) (c := c) i
    refine wp_if (fun q => ?_) (fun q => ?_)
    · have q : N 2 i = c := (nI_eq (by omega) (by omega)).mp q
      rw [if_pos q, dd_snoc] at ih
      have hb := h0 (N 3 i) (by omega)
      refine wp_if (fun qb => ?_) (fun qb => ?_)
      · have qb : ¬ ∃ a ∈ preN N c i, N 3 a = N 3 i := fun e => by
          have := hb.mpr e
          rw [(bt_test0 (by omega)).mp qb] at this; cases this
        rw [if_neg (show ¬ (N 3 i ∈ ([] : List Nat) ∨ ∃ a ∈ preN N c i, N 3 a = N 3 i) from fun e => by rcases e with e | e; cases e; exact qb e)] at ih
        rw [h1]
        refine wp_wr (ddp N [] (preN N c i)).length rfl (by omega) ?_
        refine wp_nxt ?_
        rw [nI_1, show (sI S 91 (ddp N [] (preN N c i)).length (nI i)).1 88 5 + 1 = nI (ddp N [] (preN N c i) ++ [i]).length by rw [sI_off (by omega), h1, nI_1, List.length_append]; rfl]
        refine ih (_, sI (sI S 91 (ddp N [] (preN N c i)).length (nI i)) 88 5 (nI (ddp N [] (preN N c i) ++ [i]).length)) ⟨fun e he => ?_, ?_, fun j hj => ?_, fun k i' q1 q2 => ?_, h4⟩
        · rw [bt_or, Bool.or_eq_true, bt_shl (by omega), h0 e he]
          constructor
          · rintro (⟨a, ha, e2⟩ | e2)
            · exact ⟨a, List.mem_append_left _ ha, e2⟩
            · exact ⟨i, List.mem_append_right _ List.mem_cons_self, (of_decide_eq_true e2).symm⟩
          · rintro ⟨a, ha, e2⟩
            rcases List.mem_append.mp ha with ha | ha
            · exact Or.inl ⟨a, ha, e2⟩
            · rw [List.mem_singleton] at ha
              subst ha
              exact Or.inr (decide_eq_true e2.symm)
        · show (sI _ 88 5 _).1 88 5 = _
          rw [sI1, if_pos ⟨rfl, rfl⟩]
        · show (sI (sI S 91 (ddp N [] (preN N c i)).length (nI i)) 88 5 _).1 91 j = _
          rw [List.length_append] at hj
          have hj : j < (ddp N [] (preN N c i)).length + 1 := hj
          rw [sI_off (by omega), sI1]
          by_cases qj : j = (ddp N [] (preN N c i)).length
          · rw [if_pos ⟨rfl, qj⟩, qj, gd_r]
          · rw [if_neg (by omega), gd_l (by omega)]; exact h2 j (by omega)
        · show (sI (sI S 91 (ddp N [] (preN N c i)).length (nI i)) 88 5 _).1 k i' = _
          rw [sI1, if_neg q1, sI_off q2]; exact h3 k i' q1 q2
      · have qb : ∃ a ∈ preN N c i, N 3 a = N 3 i := by
          apply hb.mp
          have : ¬ bt x (N 3 i) = false := fun e => qb ((bt_test0 (by omega)).mpr e)
          rw [Bool.not_eq_false] at this
          exact this
        rw [if_pos (Or.inr qb), List.append_nil] at ih
        rw [nI_1]
        refine ih (x, S) ⟨fun e he => ?_, h1, h2, h3, h4⟩
        rw [h0 e he]
        constructor
        · rintro ⟨a, ha, e2⟩; exact ⟨a, List.mem_append_left _ ha, e2⟩
        · rintro ⟨a, ha, e2⟩
          rcases List.mem_append.mp ha with ha | ha
          · exact ⟨a, ha, e2⟩
          · rw [List.mem_singleton] at ha
            subst ha
            obtain ⟨a', ha', e3⟩ := qb
            exact ⟨a', ha', by rw [e3, e2]⟩
    · have q : ¬ N 2 i = c := fun e => q (by rw [e])
      rw [if_neg q, List.append_nil] at ih
      rw [nI_1]
      exact ih (x, S) ⟨h0, h1, h2, h3, h4⟩
end NUC
