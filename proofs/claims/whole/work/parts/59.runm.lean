/-! PURE 10: the reference's weeks -/
section RNM
variable {t : Nat} {S : Mem} {N : TN} {T : WS} {L : LWS} {W : WS} {cd : Nat → Int32}
theorem fond_M (hT : TM S N T L) (hI : TI N T L) (h : WM t S N W cd) (ht : t < 23) :
    wp (f_X10_passes_146 FU (nI t) 0 S) (fun S' => WM t S' N (wu (itN sFond (N 0 1) W) 0 0 (itN sFond (N 0 1) W 0 0 + 1)) cd ∧ frM t S S') := by
  have hnd : N 0 1 ≤ 10 := hI.2.1
  refine lp0 (fun fuel i M => f_X10_passes_146 fuel (nI t) i M) (N 0 1) (fun j M => WM t M N (itN sFond j W) cd ∧ frM t S M) (by omega) S ⟨h, frM_rf _ _⟩ ?_ ?_
  · rintro fuel M ⟨h1, f1⟩
    show wp (f_X10_passes_146 (fuel + 1) (nI t) (nI (N 0 1)) M) _
    unfold f_X10_passes_146
    refine wp_rd 1 rfl (by decide) (TM_M hT f1).2.1 ?_
    refine wp_pos (Int32.le_refl _) ?_
    refine wp_rd t rfl ht h1.1 ?_
    refine wp_wr t rfl ht ?_
    exact wp_some ⟨WM_wk h1 _, frM_tr f1 (frM_sI (by unfold chM; omega))⟩
  · rintro fuel j M hj ⟨h1, f1⟩ ih
    try simp only at ih
    show wp (f_X10_passes_146 (fuel + 1) (nI t) (nI j) M) _
    unfold f_X10_passes_146
    refine wp_rd 1 rfl (by decide) (TM_M hT f1).2.1 ?_
    refine wp_neg (nI_ge hj (by omega)) ?_
    refine wp_bnde (held_M h1 ht hnd hj) ?_
    rw [itN_s] at ih
    generalize itN sFond j W = V at *
    unfold sFond at ih
    by_cases c : bt (V 0 3) j = true
    · rw [if_pos c]
      simp only [if_pos c] at ih
      refine wp_neg (by decide) ?_
      rw [h1.2.2.2.1]
      have e3 := (h1.2.2.2.2.1 j hj).2.2.1
      refine wp_if (fun q => ?_) (fun q => ?_)
      · have q := (bt_test (by omega)).mp q
        refine wp_rd (10 * t + j) (ix10 t j) (by omega) e3 ?_
        refine wp_bnde (f_mx _ _ _) ?_
        unfold f_X10_passes_224
        refine wp_wr (10 * t + j) (ix10 t j) (by omega) ?_
        rw [nI_1]
        refine ih _ ⟨?_, frM_tr f1 (frM_sI (by unfold chM; omega))⟩
        rw [if_pos q]
        exact WM_3 h1 (by omega) hnd _
      · have q : ¬ bt (V 0 4) j = true := fun e => q ((bt_test (by omega)).mpr e)
        refine wp_rd (10 * t + j) (ix10 t j) (by omega) e3 ?_
        refine wp_bnde (f_mn _ _ _) ?_
        unfold f_X10_passes_224
        refine wp_wr (10 * t + j) (ix10 t j) (by omega) ?_
        rw [nI_1]
        refine ih _ ⟨?_, frM_tr f1 (frM_sI (by unfold chM; omega))⟩
        rw [if_neg q]
        exact WM_3 h1 (by omega) hnd _
    · rw [if_neg c]
      simp only [if_neg c] at ih
      refine wp_pos rfl ?_
      rw [nI_1]; exact ih _ ⟨h1, f1⟩
theorem fr43 {S' : Mem} (f : frM t S S') : S'.1 0 43 = S.1 0 43 := f 0 43 (by unfold chM; omega)
theorem forg_M (hT : TM S N T L) (hI : TI N T L) (h : WM t S N W cd) (ht : t < 23) :
    wp (f_X10_passes_75 FU (nI t) 0 S) (fun S' => WM t S' N (let W3 := if S.1 0 43 = 5 then W else sForg N L (sForg N L W 0) 1; wu (itN sFond (N 0 1) W3) 0 0 (itN sFond (N 0 1) W3 0 0 + 1)) cd ∧ frM t S S') := by
  have hnd : N 0 1 ≤ 10 := hI.2.1
  refine lp0 (fun fuel i M => f_X10_passes_75 fuel (nI t) i M) 2 (fun j M => WM t M N (if S.1 0 43 = 5 then W else itN (fun c V => sForg N L V c) j W) cd ∧ frM t S M) (by omega) S ⟨by split <;> exact h, frM_rf _ _⟩ ?_ ?_
  · rintro fuel M ⟨h1, f1⟩
    show wp (f_X10_passes_75 (fuel + 1) (nI t) (nI 2) M) _
    unfold f_X10_passes_75
    refine wp_pos (by decide) ?_
    refine wp_mono (fond_M (TM_M hT f1) hI h1 ht) ?_
    rintro S' ⟨h2, f2⟩
    exact ⟨h2, frM_tr f1 f2⟩
  · rintro fuel j M hj ⟨h1, f1⟩ ih
    try simp only at ih
    show wp (f_X10_passes_75 (fuel + 1) (nI t) (nI j) M) _
    unfold f_X10_passes_75
    refine wp_neg (nI_ge (b := 2) hj (by omega)) ?_
    have hT1 := TM_M hT f1
    refine wp_bnde (wasHurt_M hT1 hI h1 hj) ?_
    by_cases c5 : S.1 0 43 = 5
    · simp only [if_pos c5] at ih h1 ⊢
      by_cases q : sHit N (W 0 4) j = true
      · rw [if_pos q]
        refine wp_neg (by decide) ?_
        rw [nI_1]; exact ih _ ⟨h1, f1⟩
      · rw [if_neg q]
        refine wp_pos rfl ?_
        rw [fr43 f1]
        refine wp_pos c5 ?_
        rw [nI_1]; exact ih _ ⟨h1, f1⟩
    · simp only [if_neg c5] at ih h1 ⊢
      rw [itN_s] at ih
      generalize itN (fun c V => sForg N L V c) j W = V at *
      unfold sForg at ih
      by_cases q : sHit N (V 0 4) j = true
      · rw [if_pos q]
        simp only [if_pos q] at ih
        refine wp_neg (by decide) ?_
        rw [nI_1]; exact ih _ ⟨h1, f1⟩
      · rw [if_neg q]
        simp only [if_neg q] at ih
        refine wp_pos rfl ?_
        rw [fr43 f1]
        refine wp_neg c5 ?_
        refine wp_call (callsCity_M h1 ht hj) ?_
        rintro M2 ⟨e2, hn⟩
        have h2 := WM_S h1 (frS_1 e2)
        refine wp_rd (2 * t + j) (ix2 t j) (by omega) (h2.2.2.2.2.2 j hj).1 ?_
        refine wp_bnd (within_M (k := 2) (TM_S hT1 (frS_1 e2)) hI (by omega) hn 99 1) ?_
        rintro r M3 ⟨hr, f3⟩
        simp only at hr f3
        refine wp_bnde (f_mx _ _ _) ?_
        refine wp_wr (2 * t + j) (ix2 t j) (by omega) ?_
        rw [nI_1]
        refine ih _ ⟨?_, frM_tr f1 (frM_tr (frM_S (frS_tr (frS_1 e2) f3)) (frM_sI (by unfold chM; omega)))⟩
        rw [hr]
        exact WM_5 (WM_S h2 f3) hj _
/-- what how is, of the reference's tryWhat and its byNumbers -/
def howM (tw : Int32) (bn : Bool) (how : Nat) : Prop := (bn = decide (how = 1)) ∧ (tw = 1 ↔ how = 2) ∧ (tw = 3 ↔ how = 4) ∧ (tw = 5 ↔ how = 8)
theorem come_M (hT : TM S N T L) (hI : TI N T L) (h : WM t S N W cd) (ht : t < 23) {d : Nat} (hd : d < N 0 1) {f : Mem → Option Mem} {P : Mem → Prop}
    (k : ∀ S', WM t S' N (sCome N T L cd W d) cd → frM t S S' → wp (f S') P) : wp ((rd S 18 23 (nI t)).bind fun x45 => (wr S 18 23 (nI t) (x45 + (1 : Int32))).bind fun S48 => (f_X10_hurts (nI t) (nI d) S48).bind f) P := by
  refine wp_rd t rfl ht h.2.2.1 ?_
  refine wp_wr t rfl ht ?_
  have h1 := WM_mo h (W 0 2 + 1)
  have f1 : frM t S (sI S 18 t (W 0 2 + 1)) := frM_sI (by unfold chM; omega)
  refine wp_call (hurts_M (TM_M hT f1) hI h1 ht hd) ?_
  rintro S' ⟨h2, f2⟩
  exact k S' h2 (frM_tr f1 f2)
theorem draw_M {x : Int32} (h : S.1 17 t = x) (ht : t < 23) : f_X10_draw (nI t) 100 S = some (numD (numN x), sI S 17 t (numN x)) := by
  unfold f_X10_draw
  rw [rdN ht (by decide), h]
  have e1 : wr S 17 23 (nI t) (numN x) = some (sI S 17 t (numN x)) := wrN ht (by decide)
  have e2 : rd (sI S 17 t (numN x)) 17 23 (nI t) = some (numN x) := by
    rw [rdN ht (by decide), sI1, if_pos ⟨rfl, rfl⟩]
  have e3 : rm (numN x >>> ((16 : Int32) &&& 31)) 100 = some (numD (numN x)) := by
    unfold rm numD
    rw [if_neg (by decide)]
  rw [Option.bind_some]
  have e0 : (x * 1103515245 + 12345) &&& 2147483647 = numN x := rfl
  rw [e0, e1, Option.bind_some, e2, Option.bind_some, e3, Option.bind_some]
theorem come65 {o : Int32} : f_X10_comeMoths_65 o S = some (if o < 50 then 0 else 1, S) := by
  unfold f_X10_comeMoths_65
  by_cases q : o < 50
  · rw [if_pos q, if_pos q]
  · rw [if_neg q, if_neg q]
theorem moths_M (hT : TM S N T L) (hI : TI N T L) (h : WM t S N W cd) (ht : t < 23) {bn : Bool} {how : Nat} (hh : howM (S.1 0 43) bn how) {P : Mem → Prop}
    (k : ∀ S', WM t S' N (if how = 2 then W else itN (sMoth N T L cd bn) (N 0 1) W) cd → frM t S S' → wp ((f_X10_answers (nI t) (0 : Int32) S').bind fun S64 => (f_X10_answers (nI t) (1 : Int32) S64).bind fun S70 => f_X10_passes_75 FU (nI t) (0 : Int32) S70) P) :
    wp (f_X10_passes_7 FU (nI t) (if bn = true then 1 else 0) 0 S) P := by
  have hnd : N 0 1 ≤ 10 := hI.2.1
  refine lp0 (fun fuel i M => f_X10_passes_7 fuel (nI t) (if bn = true then 1 else 0) i M) (N 0 1) (fun j M => WM t M N (if how = 2 then W else itN (sMoth N T L cd bn) j W) cd ∧ frM t S M) (by omega) S ⟨by split <;> exact h, frM_rf _ _⟩ ?_ ?_
  · rintro fuel M ⟨h1, f1⟩
    show wp (f_X10_passes_7 (fuel + 1) (nI t) (if bn = true then 1 else 0) (nI (N 0 1)) M) _
    unfold f_X10_passes_7
    refine wp_rd 1 rfl (by decide) (TM_M hT f1).2.1 ?_
    exact wp_pos (Int32.le_refl _) (k M h1 f1)
  · rintro fuel j M hj ⟨h1, f1⟩ ih
    try simp only at ih
    show wp (f_X10_passes_7 (fuel + 1) (nI t) (if bn = true then 1 else 0) (nI j) M) _
    unfold f_X10_passes_7
    have hT1 := TM_M hT f1
    refine wp_rd 1 rfl (by decide) hT1.2.1 ?_
    refine wp_neg (nI_ge hj (by omega)) ?_
    refine wp_bnde (held_M h1 ht hnd hj) ?_
    by_cases c2 : how = 2
    · simp only [if_pos c2] at ih h1 ⊢
      by_cases c : bt (W 0 3) j = true
      · rw [if_pos c]
        refine wp_neg (by decide) ?_
        refine wp_bnde (a := 0) (S := M) ?_ (wp_pos rfl ?_)
        · unfold f_X10_comeMoths
          rw [fr43 f1, if_pos (hh.2.1.mpr c2)]
        · rw [nI_1]; exact ih _ ⟨h1, f1⟩
      · rw [if_neg c]
        refine wp_pos rfl ?_
        rw [nI_1]; exact ih _ ⟨h1, f1⟩
    · simp only [if_neg c2] at ih h1 ⊢
      rw [itN_s] at ih
      generalize itN (sMoth N T L cd bn) j W = V at h1 ih ⊢
      by_cases c : bt (V 0 3) j = true
      · rw [if_pos c]
        refine wp_neg (by decide) ?_
        obtain ⟨i, hi, ei, ec⟩ := (h1.2.2.2.2.1 j hj).1
        have hO := mothsBy_M hT1 hI h1 ht hj hi
        rw [ec] at hO
        obtain ⟨⟨r, M2⟩, e2, hr, f2⟩ := hO
        simp only at hr f2
        have h2 := WM_S h1 f2
        have f3 := frM_tr f1 (frM_S f2)
        have hT2 := TM_M hT f3
        have hcm : f_X10_comeMoths (nI t) (nI j) (if bn = true then 1 else 0) M = if (if bn = true then (1 : Int32) else 0) = 0 then f_X10_comeMoths_65 r M2 else if r ≤ 0 then f_X10_comeMoths_65 r M2 else if 100 ≤ r then f_X10_comeMoths_65 r M2 else bnd (f_X10_draw (nI t) 100 M2) fun r49 S49 => if r ≤ r49 then some ((0 : Int32), S49) else some ((1 : Int32), S49) := by
          unfold f_X10_comeMoths
          rw [fr43 f1, if_neg (fun e => c2 (hh.2.1.mp e)), ix10, rdN (by omega) (by decide), ei, Option.bind_some, e2, bnd_some]
        rw [hcm]
        have yes : ∀ V' M', WM t M' N V' cd → frM t S M' → sMoth N T L cd bn j V = sCome N T L cd V' j →
            wp ((rd M' 18 23 (nI t)).bind fun x45 => (wr M' 18 23 (nI t) (x45 + (1 : Int32))).bind fun S48 => (f_X10_hurts (nI t) (nI j) S48).bind fun S52 => f_X10_passes_7 fuel (nI t) (if bn = true then 1 else 0) (nI j + 1) S52) P := by
          intro V' M' h' f' e'
          refine come_M (TM_M hT f') hI h' ht hj ?_
          intro S' h4 f4
          rw [nI_1]
          rw [e'] at ih
          exact ih S' ⟨h4, frM_tr f' f4⟩
        have no : ∀ V' M', WM t M' N V' cd → frM t S M' → sMoth N T L cd bn j V = V' → wp (f_X10_passes_7 fuel (nI t) (if bn = true then 1 else 0) (nI j + 1) M') P := by
          intro V' M' h' f' e'
          rw [nI_1]
          rw [e'] at ih
          exact ih M' ⟨h', f'⟩
        cases bn with
        | false =>
          have e0 := moth_f (N := N) (T := T) (L := L) (cd := cd) c
          rw [← hr] at e0
          rw [if_pos (by decide), come65]
          by_cases q : r < 50
          · rw [if_pos q]
            exact wp_bnde rfl (wp_pos rfl (no V M2 h2 f3 (by rw [e0, if_pos q])))
          · rw [if_neg q]
            exact wp_bnde rfl (wp_neg (by decide) (yes V M2 h2 f3 (by rw [e0, if_neg q])))
        | true =>
          have e0 := moth_t (N := N) (T := T) (L := L) (cd := cd) c
          rw [← hr] at e0
          rw [if_neg (by decide), come65]
          by_cases q : r ≤ 0
          · have q50 : r < 50 := Int32.lt_of_le_of_lt q (by decide)
            rw [if_pos q, if_pos q50]
            exact wp_bnde rfl (wp_pos rfl (no V M2 h2 f3 (by rw [e0, if_pos q])))
          · rw [if_neg q]
            rw [if_neg q] at e0
            by_cases q3 : (100 : Int32) ≤ r
            · have q50 : ¬ r < 50 := Int32.not_lt.mpr (Int32.le_trans (by decide) q3)
              rw [if_pos q3, if_neg q50]
              exact wp_bnde rfl (wp_neg (by decide) (yes V M2 h2 f3 (by rw [e0, if_pos q3])))
            · rw [if_neg q3]
              rw [if_neg q3] at e0
              rw [draw_M h2.2.1 ht, bnd_some]
              have h4 : WM t (sI M2 17 t (numN (V 0 1))) N (wu V 0 1 (numN (V 0 1))) cd := WM_nu h2 _
              have f4 : frM t S (sI M2 17 t (numN (V 0 1))) := frM_tr f3 (frM_sI (by unfold chM; omega))
              generalize sI M2 17 t (numN (V 0 1)) = M4 at h4 f4 ⊢
              by_cases q4 : r ≤ numD (numN (V 0 1))
              · rw [if_pos q4]
                refine wp_bnde rfl ?_
                exact wp_pos rfl (no _ M4 h4 f4 (by rw [e0, if_pos q4]))
              · rw [if_neg q4]
                refine wp_bnde rfl ?_
                exact wp_neg (by decide) (yes _ M4 h4 f4 (by rw [e0, if_neg q4]))
      · rw [if_neg c]
        rw [moth_n c] at ih
        refine wp_pos rfl ?_
        rw [nI_1]; exact ih _ ⟨h1, f1⟩
theorem passes_M (hT : TM S N T L) (hI : TI N T L) (h : WM t S N W cd) (ht : t < 23) {bn : Bool} {how : Nat} (hh : howM (S.1 0 43) bn how) :
    wp (f_X10_passes (nI t) (if bn = true then 1 else 0) S) (fun S' => WM t S' N (sWeek N T L cd how W) cd ∧ frM t S S') := by
  unfold f_X10_passes
  refine wp_nxt ?_
  have h0 := WM_hm h 0
  have f0 : frM t S (sI S 0 40 0) := frM_sI (by unfold chM; omega)
  have e43 := fr43 f0
  refine moths_M (TM_M hT f0) hI h0 ht (by rw [e43]; exact hh) ?_
  intro M h1 f1
  have f01 := frM_tr f0 f1
  refine wp_call (answers_M (c := 0) (TM_M hT f01) hI h1 ht (by decide)) ?_
  rintro M2 ⟨h2, f2⟩
  have f02 := frM_tr f01 f2
  refine wp_call (answers_M (c := 1) (TM_M hT f02) hI h2 ht (by decide)) ?_
  rintro M3 ⟨h3, f3⟩
  have f03 := frM_tr f02 f3
  refine wp_mono (forg_M (TM_M hT f03) hI h3 ht) ?_
  rintro S' ⟨h4, f4⟩
  refine ⟨?_, frM_tr f03 f4⟩
  rw [fr43 f01, fr43 f02, fr43 f03] at h4
  obtain ⟨b1, b2, b3, b4⟩ := hh
  unfold sWeek
  rw [← b1]
  by_cases c3 : S.1 0 43 = 3
  · have c4 := b3.mp c3
    subst c4
    simp only [if_pos c3, if_neg (show ¬ S.1 0 43 = 5 from fun e => by have := b4.mp e; omega)] at h4
    simpa using h4
  · have c4 : how ≠ 4 := fun e => c3 (b3.mpr e)
    simp only [if_neg c3] at h4
    simp only [if_neg c4]
    by_cases c5 : S.1 0 43 = 5
    · have c8 := b4.mp c5
      simp only [if_pos c5] at h4
      simp only [if_pos c8]
      exact h4
    · have c8 : how ≠ 8 := fun e => c5 (b4.mpr e)
      simp only [if_neg c5] at h4
      simp only [if_neg c8]
      exact h4
theorem goesOn_M (hT : TM S N T L) (hI : TI N T L) (h : WM 1 S N W cd) {how n : Nat} (hh : howM (S.1 0 43) false how) (hn : n < 1000) :
    wp (f_X10_goesOn (nI n) S) (fun S' => WM 1 S' N (sRun N T L cd how n W) cd ∧ frM 1 S S') := by
  unfold f_X10_goesOn
  refine lp0 (fun fuel i M => f_X10_goesOn_2 fuel (nI n) i M) n (fun j M => WM 1 M N (sRun N T L cd how j W) cd ∧ frM 1 S M) (by omega) S ⟨h, frM_rf _ _⟩ ?_ ?_
  · rintro fuel M ⟨h1, f1⟩
    show wp (f_X10_goesOn_2 (fuel + 1) (nI n) (nI n) M) _
    unfold f_X10_goesOn_2
    exact wp_pos (Int32.le_refl _) (wp_some ⟨h1, f1⟩)
  · rintro fuel j M hj ⟨h1, f1⟩ ih
    try simp only at ih
    show wp (f_X10_goesOn_2 (fuel + 1) (nI n) (nI j) M) _
    unfold f_X10_goesOn_2
    refine wp_neg (nI_ge hj (by omega)) ?_
    refine wp_call (passes_M (t := 1) (bn := false) (TM_M hT f1) hI h1 (by omega) (by rw [fr43 f1]; exact hh)) ?_
    rintro M2 ⟨h2, f2⟩
    rw [nI_1]
    exact ih M2 ⟨h2, frM_tr f1 f2⟩
end RNM
