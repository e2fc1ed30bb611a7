/-! PURE 57: a law's E: the reference's levels -/
section LAWO
variable {M M' : Mem} {b : Nat → Nat} {n m i a0 k op kn w : Nat} {o : List Nat}
/-- what a level of the reference leaves -/
def MRs (M' : Mem) (b : Nat → Nat) (n m a0 i : Nat) (o : List Nat) (op : Nat) : GR → Prop
  | .ok (j, kn1, l) => MSt M' b n a0 j (o ++ l) op kn1 ∧ i ≤ j ∧ j ≤ m
  | .error p => MFl M' b n p
def lvOk (b : Nat → Nat) (n m a0 w N : Nat) (F : Mem → Option Mem) : Prop :=
  (∀ M, M.1 0 22 ≠ 0 → F M = some M) ∧
  ∀ M i kn op o, (8 - op) * 6 + (64 - kn) + (6 - w) + 6 ≤ N → i ≤ m → MSt M b n a0 i o op kn → ∃ r M', F M = some M' ∧ Glv (tK b n) (tV b n) w i kn op r ∧ MRs M' b n m a0 i o op r ∧ mL a0 M M'
theorem ks_s (hk : k < 20) : ks k = 2 := by unfold ks; rw [if_pos hk]
theorem kv_s (hk : k < 20) : kv k = rv k := by unfold kv; rw [if_pos hk]
/-- a loop of the reference over signs of one strength -/
theorem loop_M (hb2 : ∀ i, i < n → b i < 256) (hn : n ≤ 700) (hm : eMk b n m) (hw : isLp w) {N : Nat} {L : Mem → Option Mem} (hL : lvOk b n m a0 (w + 1) N L) (F : Nat → Mem → Option Mem)
    (hi : ∀ g M, M.1 0 22 ≠ 0 → F (g + 1) M = some M)
    (he : ∀ g M i, tkA M b n i → M.1 0 22 = 0 → sg (tK b n i) ≠ lv w → F (g + 1) M = some M)
    (hs : ∀ g M i, tkA M b n i → M.1 0 22 = 0 → sg (tK b n i) = lv w → F (g + 1) M = (f_X10_knot M).bind fun S14 => (f_X10_goOn S14).bind fun S18 => (L S18).bind fun S22 => (f_X10_puts 2 (nI (rv (tK b n i))) S22).bind fun S30 => F g S30) :
    ∀ g M i kn op o, (8 - op) * 6 + (64 - kn) + (6 - w) + 6 ≤ N + 1 → i ≤ m → m < g + i → MSt M b n a0 i o op kn → ∃ r M', F g M = some M' ∧ Glp (tK b n) (tV b n) w i kn op r ∧ MRs M' b n m a0 i o op r ∧ mL a0 M M' := by
  intro g
  induction g with
  | zero => intro M i kn op o _ h1 h2; omega
  | succ g ih =>
    intro M i kn op o hB him hg hS
    have hw4 : w ≤ 4 := by unfold isLp at hw; omega
    by_cases z : sg (tK b n i) = lv w
    · have hz : sg (tK b n i) ≠ 0 := by
        rw [z]
        rcases hw with rfl | rfl | rfl | rfl <;> decide
      have hk20 := (sg_b hz).2
      have hlt := eMk_lt hm him (by intro e; rw [e] at hz; exact hz (by decide))
      rw [hs g M i hS.1 hS.2.1 z]
      by_cases y : kn < 64
      · obtain ⟨M1, q1, q2, q3⟩ := knot_M hS y
        obtain ⟨M2, r1, r2, r3⟩ := goOn_S q2 hb2 hn
        obtain ⟨rr, M3, s1, s2, s3, s4⟩ := hL.2 M2 (i + 1) (kn + 1) op o (by omega) (by omega) r2
        rw [q1, Option.bind_some, r1, Option.bind_some, s1, Option.bind_some]
        have fr := mL_tr (mL_tr q3 r3) s4
        cases rr with
        | error p =>
          have hne := MFl_i s3
          rw [puts_i hne, Option.bind_some]
          obtain ⟨g, rfl⟩ : ∃ q, g = q + 1 := ⟨g - 1, by omega⟩
          exact ⟨.error p, M3, hi g M3 hne, g_lpb hw z y s2, s3, fr⟩
        | ok q =>
          obtain ⟨j, kn1, l⟩ := q
          obtain ⟨t1, t2, t3⟩ := s3
          have e1 : kn1 = kn + 1 + l.length := s2.2.1
          have hle := hS.2.2.2.2.2.1
          obtain ⟨M4, u1, u2, u3⟩ := puts_M t1 (by rw [List.length_append]; omega) (tK b n i)
          rw [ks_s hk20, kv_s hk20] at u1
          have u1 : f_X10_puts 2 (nI (rv (tK b n i))) M3 = some M4 := u1
          rw [u1, Option.bind_some]
          obtain ⟨r2, M5, v1, v2, v3, v4⟩ := ih M4 j kn1 op ((o ++ l) ++ [tK b n i]) (by omega) t3 (by omega) u2
          refine ⟨gapp (l ++ [tK b n i]) r2, M5, v1, g_lp hw z y s2 v2, ?_, mL_tr (mL_tr fr u3) v4⟩
          cases r2 with
          | error p => exact v3
          | ok q =>
            obtain ⟨j2, kn2, l2⟩ := q
            obtain ⟨v3, v5, v6⟩ := v3
            refine ⟨?_, by omega, v6⟩
            rw [← List.append_assoc, ← List.append_assoc]
            exact v3
      · obtain ⟨M1, q1, q2, q3⟩ := knot_w hS y
        have hne := MFl_i q2
        rw [q1, Option.bind_some, goOn_i hne, Option.bind_some, hL.1 M1 hne, Option.bind_some, puts_i hne, Option.bind_some]
        obtain ⟨g, rfl⟩ : ∃ q, g = q + 1 := ⟨g - 1, by omega⟩
        exact ⟨.error (2, i), M1, hi g M1 hne, g_lpk hw z y, q2, q3⟩
    · exact ⟨.ok (i, kn, []), M, he g M i hS.1 hS.2.1 z, g_lpe hw z, ⟨by rw [List.append_nil]; exact hS, Nat.le_refl _, him⟩, mL_rf a0 M⟩
/-- a level that has a loop -/
theorem level_M (hm : eMk b n m) (hn : n ≤ 700) (hw : isLp w) {N : Nat} {L : Mem → Option Mem} (hL : lvOk b n m a0 (w + 1) N L) {F : Nat → Mem → Option Mem} (hi : ∀ g M, M.1 0 22 ≠ 0 → F (g + 1) M = some M)
    (hF : ∀ g M i kn op o, (8 - op) * 6 + (64 - kn) + (6 - w) + 6 ≤ N + 1 → i ≤ m → m < g + i → MSt M b n a0 i o op kn → ∃ r M', F g M = some M' ∧ Glp (tK b n) (tV b n) w i kn op r ∧ MRs M' b n m a0 i o op r ∧ mL a0 M M') :
    lvOk b n m a0 w (N + 1) (fun M => (L M).bind fun S1 => F FU S1) := by
  have fu : FU = 2000 := rfl
  have hw4 : w ≤ 4 := by unfold isLp at hw; omega
  refine ⟨fun M hne => ?_, fun M i kn op o hB him hS => ?_⟩
  · show (L M).bind _ = _
    rw [hL.1 M hne, Option.bind_some]
    exact hi 1999 M hne
  · show ∃ r M', (L M).bind _ = _ ∧ _
    obtain ⟨rr, M3, s1, s2, s3, s4⟩ := hL.2 M i kn op o (by omega) him hS
    rw [s1, Option.bind_some]
    cases rr with
    | error p =>
      have hne := MFl_i s3
      exact ⟨.error p, M3, hi 1999 M3 hne, g_lvb hw s2, s3, s4⟩
    | ok q =>
      obtain ⟨j, kn1, l⟩ := q
      obtain ⟨t1, t2, t3⟩ := s3
      have e1 : kn1 = kn + l.length := s2.2.1
      have hm2 := hm.2
      obtain ⟨r2, M5, v1, v2, v3, v4⟩ := hF FU M3 j kn1 op (o ++ l) (by omega) t3 (by omega) t1
      refine ⟨gapp l r2, M5, v1, g_lv hw s2 v2, ?_, mL_tr s4 v4⟩
      cases r2 with
      | error p => exact v3
      | ok q =>
        obtain ⟨j2, kn2, l2⟩ := q
        obtain ⟨v3, v5, v6⟩ := v3
        exact ⟨by rw [← List.append_assoc]; exact v3, by omega, v6⟩
theorem sg_or : sg k = lv 0 ↔ k = 17 := by
  rw [show lv 0 = 1 from rfl]
  unfold sg
  repeat' split
  all_goals omega
theorem sg_and : sg k = lv 1 ↔ k = 18 := by
  rw [show lv 1 = 2 from rfl]
  unfold sg
  repeat' split
  all_goals omega
theorem sg_sum : sg k = lv 3 ↔ k = 13 ∨ k = 14 := by
  rw [show lv 3 = 5 from rfl]
  unfold sg
  repeat' split
  all_goals omega
theorem sg_prod : sg k = lv 4 ↔ k = 15 ∨ k = 16 := by
  rw [show lv 4 = 6 from rfl]
  unfold sg
  repeat' split
  all_goals omega
theorem lwExpr_M (hb2 : ∀ i, i < n → b i < 256) (hn : n ≤ 700) (hm : eMk b n m) {N : Nat} {L : Mem → Option Mem} (hL : lvOk b n m a0 1 N L) : lvOk b n m a0 0 (N + 1) (f_X10_expressionG L) := by
  have hi : ∀ g M, M.1 0 22 ≠ 0 → f_X10_expression_4 L (g + 1) M = some M := by
    intro g M hne
    unfold f_X10_expression_4
    rw [isWord_i hne, bnd_some, if_pos rfl]
  refine level_M hm hn (Or.inl rfl) hL hi (loop_M hb2 hn hm (Or.inl rfl) hL _ hi ?_ ?_)
  · intro g M i h1 h2 h3
    have e : f_X10_isWord 12 M = _ := isWord_M (k := 0) h1 hb2 h2 (by omega)
    unfold f_X10_expression_4
    rw [e, bnd_some, if_neg (fun z => h3 (sg_or.mpr z)), if_pos rfl]
  · intro g M i h1 h2 h3
    have e : f_X10_isWord 12 M = _ := isWord_M (k := 0) h1 hb2 h2 (by omega)
    have z := sg_or.mp h3
    rw [z]
    show f_X10_expression_4 L (g + 1) M = _
    conv => lhs; unfold f_X10_expression_4
    rw [e, bnd_some, if_pos z, if_neg (by decide)]
    rfl
theorem lwConj_M (hb2 : ∀ i, i < n → b i < 256) (hn : n ≤ 700) (hm : eMk b n m) {N : Nat} {L : Mem → Option Mem} (hL : lvOk b n m a0 2 N L) : lvOk b n m a0 1 (N + 1) (f_X10_conjunctionG L) := by
  have hi : ∀ g M, M.1 0 22 ≠ 0 → f_X10_conjunction_4 L (g + 1) M = some M := by
    intro g M hne
    unfold f_X10_conjunction_4
    rw [isWord_i hne, bnd_some, if_pos rfl]
  refine level_M hm hn (Or.inr (Or.inl rfl)) hL hi (loop_M hb2 hn hm (Or.inr (Or.inl rfl)) hL _ hi ?_ ?_)
  · intro g M i h1 h2 h3
    have e : f_X10_isWord 13 M = _ := isWord_M (k := 1) h1 hb2 h2 (by omega)
    unfold f_X10_conjunction_4
    rw [e, bnd_some, if_neg (fun z => h3 (sg_and.mpr z)), if_pos rfl]
  · intro g M i h1 h2 h3
    have e : f_X10_isWord 13 M = _ := isWord_M (k := 1) h1 hb2 h2 (by omega)
    have z := sg_and.mp h3
    rw [z]
    show f_X10_conjunction_4 L (g + 1) M = _
    conv => lhs; unfold f_X10_conjunction_4
    rw [e, bnd_some, if_pos z, if_neg (by decide)]
    rfl
theorem lwSum_M (hb2 : ∀ i, i < n → b i < 256) (hn : n ≤ 700) (hm : eMk b n m) {N : Nat} {L : Mem → Option Mem} (hL : lvOk b n m a0 4 N L) : lvOk b n m a0 3 (N + 1) (f_X10_sumG L) := by
  have hi : ∀ g M, M.1 0 22 ≠ 0 → f_X10_sum_4 L (g + 1) M = some M := by
    intro g M hne
    unfold f_X10_sum_4
    rw [isSign_i hne, bnd_some, if_pos rfl, isSign_i hne, bnd_some, if_pos rfl]
  refine level_M hm hn (Or.inr (Or.inr (Or.inl rfl))) hL hi (loop_M hb2 hn hm (Or.inr (Or.inr (Or.inl rfl))) hL _ hi ?_ ?_)
  · intro g M i h1 h2 h3
    have e : f_X10_isSign 43 M = _ := isSign_M (k := 13) h1 h2 (by omega) (by omega)
    have e2 : f_X10_isSign 45 M = _ := isSign_M (k := 14) h1 h2 (by omega) (by omega)
    unfold f_X10_sum_4
    rw [e, bnd_some, if_neg (fun z => h3 (sg_sum.mpr (Or.inl z))), if_pos rfl, e2, bnd_some, if_neg (fun z => h3 (sg_sum.mpr (Or.inr z))), if_pos rfl]
  · intro g M i h1 h2 h3
    have e : f_X10_isSign 43 M = _ := isSign_M (k := 13) h1 h2 (by omega) (by omega)
    have e2 : f_X10_isSign 45 M = _ := isSign_M (k := 14) h1 h2 (by omega) (by omega)
    have z := sg_sum.mp h3
    have hv : M.1 0 21 = nI (rv (tK b n i)) := by rw [val_s h1 (by omega) (by omega)]; exact sgM_r _ (by omega) (by omega)
    have go : f_X10_sum_22 L (f_X10_sum_4 L g) M = (f_X10_knot M).bind fun S14 => (f_X10_goOn S14).bind fun S18 => (L S18).bind fun S22 => (f_X10_puts 2 (nI (rv (tK b n i))) S22).bind fun S30 => f_X10_sum_4 L g S30 := by
      unfold f_X10_sum_22
      rw [hv]
    rw [← go]
    show f_X10_sum_4 L (g + 1) M = _
    by_cases y : tK b n i = 13
    · conv => lhs; unfold f_X10_sum_4
      rw [e, bnd_some, if_pos y, if_neg (by decide)]
    · conv => lhs; unfold f_X10_sum_4
      rw [e, bnd_some, if_neg y, if_pos rfl, e2, bnd_some, if_pos (show tK b n i = 14 by omega), if_neg (by decide)]
theorem lwProd_M (hb2 : ∀ i, i < n → b i < 256) (hn : n ≤ 700) (hm : eMk b n m) {N : Nat} {L : Mem → Option Mem} (hL : lvOk b n m a0 5 N L) : lvOk b n m a0 4 (N + 1) (f_X10_productG L) := by
  have hi : ∀ g M, M.1 0 22 ≠ 0 → f_X10_product_4 L (g + 1) M = some M := by
    intro g M hne
    unfold f_X10_product_4
    rw [isSign_i hne, bnd_some, if_pos rfl, isSign_i hne, bnd_some, if_pos rfl]
  refine level_M hm hn (Or.inr (Or.inr (Or.inr rfl))) hL hi (loop_M hb2 hn hm (Or.inr (Or.inr (Or.inr rfl))) hL _ hi ?_ ?_)
  · intro g M i h1 h2 h3
    have e : f_X10_isSign 42 M = _ := isSign_M (k := 15) h1 h2 (by omega) (by omega)
    have e2 : f_X10_isSign 47 M = _ := isSign_M (k := 16) h1 h2 (by omega) (by omega)
    unfold f_X10_product_4
    rw [e, bnd_some, if_neg (fun z => h3 (sg_prod.mpr (Or.inl z))), if_pos rfl, e2, bnd_some, if_neg (fun z => h3 (sg_prod.mpr (Or.inr z))), if_pos rfl]
  · intro g M i h1 h2 h3
    have e : f_X10_isSign 42 M = _ := isSign_M (k := 15) h1 h2 (by omega) (by omega)
    have e2 : f_X10_isSign 47 M = _ := isSign_M (k := 16) h1 h2 (by omega) (by omega)
    have z := sg_prod.mp h3
    have hv : M.1 0 21 = nI (rv (tK b n i)) := by rw [val_s h1 (by omega) (by omega)]; exact sgM_r _ (by omega) (by omega)
    have go : f_X10_product_22 L (f_X10_product_4 L g) M = (f_X10_knot M).bind fun S14 => (f_X10_goOn S14).bind fun S18 => (L S18).bind fun S22 => (f_X10_puts 2 (nI (rv (tK b n i))) S22).bind fun S30 => f_X10_product_4 L g S30 := by
      unfold f_X10_product_22
      rw [hv]
    rw [← go]
    show f_X10_product_4 L (g + 1) M = _
    by_cases y : tK b n i = 15
    · conv => lhs; unfold f_X10_product_4
      rw [e, bnd_some, if_pos y, if_neg (by decide)]
    · conv => lhs; unfold f_X10_product_4
      rw [e, bnd_some, if_neg y, if_pos rfl, e2, bnd_some, if_pos (show tK b n i = 16 by omega), if_neg (by decide)]
end LAWO
