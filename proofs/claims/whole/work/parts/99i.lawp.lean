/-! PURE 58: a law's E: the reference's not, comparisons, parts; all of it -/
section LAWP
variable {M M' : Mem} {b : Nat → Nat} {n m i a0 k op kn w : Nat} {o : List Nat}
theorem sgM_c : ∀ k, k < 17 → 4 ≤ k → ((nI (sgM k) = 60 ∨ nI (sgM k) = 62 ∨ nI (sgM k) = 61 ∨ 256 ≤ nI (sgM k)) ↔ sg k = 4) := by decide +kernel
theorem neg_M (hb2 : ∀ i, i < n → b i < 256) (hn : n ≤ 700) (hm : eMk b n m) {N : Nat} {L2 L3 : Mem → Option Mem} (h2 : lvOk b n m a0 2 N L2) (h3 : lvOk b n m a0 3 N L3) : lvOk b n m a0 2 (N + 1) (f_X10_negationG L2 L3) := by
  refine ⟨fun M hne => ?_, fun M i kn op o hB him hS => ?_⟩
  · unfold f_X10_negationG
    rw [isWord_i hne, bnd_some, if_pos rfl, h3.1 M hne, Option.bind_some, if_neg hne]
  · have e : f_X10_isWord 14 M = _ := isWord_M (k := 2) hS.1 hb2 hS.2.1 (by omega)
    unfold f_X10_negationG
    rw [e, bnd_some]
    by_cases z : tK b n i = 19
    · rw [if_pos z, if_neg (by decide)]
      have hlt := eMk_lt hm him (by omega)
      by_cases y : kn < 64
      · obtain ⟨M1, q1, q2, q3⟩ := knot_M hS y
        obtain ⟨M2, r1, r2, r3⟩ := goOn_S q2 hb2 hn
        obtain ⟨rr, M3, s1, s2, s3, s4⟩ := h2.2 M2 (i + 1) (kn + 1) op o (by omega) (by omega) r2
        rw [q1, Option.bind_some, r1, Option.bind_some, s1, Option.bind_some]
        have fr := mL_tr (mL_tr q3 r3) s4
        have g := g_n z y s2
        cases rr with
        | error p =>
          have hne := MFl_i s3
          rw [puts_i hne, Option.bind_some]
          exact ⟨.error p, M3, rfl, g, s3, fr⟩
        | ok q =>
          obtain ⟨j, kn1, l⟩ := q
          obtain ⟨t1, t2, t3⟩ := s3
          have e1 : kn1 = kn + 1 + l.length := s2.2.1
          have hle := hS.2.2.2.2.2.1
          obtain ⟨M4, u1, u2, u3⟩ := puts_M t1 (by rw [List.length_append]; omega) 19
          have u1 : f_X10_puts 2 260 M3 = some M4 := u1
          rw [u1, Option.bind_some]
          exact ⟨_, M4, rfl, g, ⟨by rw [← List.append_assoc]; exact u2, by omega, t3⟩, mL_tr fr u3⟩
      · obtain ⟨M1, q1, q2, q3⟩ := knot_w hS y
        have hne := MFl_i q2
        rw [q1, Option.bind_some, goOn_i hne, Option.bind_some, h2.1 M1 hne, Option.bind_some, puts_i hne, Option.bind_some]
        exact ⟨.error (2, i), M1, rfl, g_nk z y, q2, q3⟩
    · rw [if_neg z, if_pos rfl]
      obtain ⟨rr, M3, s1, s2, s3, s4⟩ := h3.2 M i kn op o (by omega) him hS
      rw [s1, Option.bind_some]
      cases rr with
      | error p =>
        have hne := MFl_i s3
        rw [if_neg hne]
        exact ⟨.error p, M3, rfl, g_cb z s2, s3, s4⟩
      | ok q =>
        obtain ⟨j, kn1, l⟩ := q
        obtain ⟨t1, t2, t3⟩ := s3
        have e1 : kn1 = kn + l.length := s2.2.1
        have hle := hS.2.2.2.2.2.1
        rw [if_pos t1.2.1]
        by_cases x : sg (tK b n j) = 4
        · have x7 := (sg_c (tK b n j)).2.2.1.mp x
          have hlt := eMk_lt hm t3 (by omega)
          have hv : M3.1 0 21 = nI (sgM (tK b n j)) := val_s t1.1 (by omega) (by omega)
          have hr : M3.1 0 21 = nI (rv (tK b n j)) := by rw [hv]; exact sgM_r _ (by omega) (by omega)
          have hc := (sgM_c (tK b n j) (by omega) (by omega)).mpr x
          rw [← hv] at hc
          have key : ∃ r M', f_X10_negation_87 L2 L3 M3 = some M' ∧ Glv (tK b n) (tV b n) 2 i kn op r ∧ MRs M' b n m a0 i o op r ∧ mL a0 M M' := by
            unfold f_X10_negation_87
            rw [hr]
            by_cases y : kn1 < 64
            · obtain ⟨M4, q1, q2, q3⟩ := knot_M t1 y
              obtain ⟨M5, r1, r2, r3⟩ := goOn_S q2 hb2 hn
              obtain ⟨rr, M6, s1', s2', s3', s4'⟩ := h3.2 M5 (j + 1) (kn1 + 1) op (o ++ l) (by omega) (by omega) r2
              rw [q1, Option.bind_some, r1, Option.bind_some, s1', Option.bind_some]
              have fr := mL_tr (mL_tr (mL_tr s4 q3) r3) s4'
              have g := g_c z s2 x y s2'
              cases rr with
              | error p =>
                have hne := MFl_i s3'
                rw [puts_i hne, Option.bind_some]
                exact ⟨.error p, M6, rfl, g, s3', fr⟩
              | ok q =>
                obtain ⟨j2, kn2, l2⟩ := q
                obtain ⟨t1', t2', t3'⟩ := s3'
                have e2 : kn2 = kn1 + 1 + l2.length := s2'.2.1
                obtain ⟨M7, u1, u2, u3⟩ := puts_M t1' (by simp only [List.length_append]; omega) (tK b n j)
                rw [ks_s (by omega), kv_s (by omega)] at u1
                have u1 : f_X10_puts 2 (nI (rv (tK b n j))) M6 = some M7 := u1
                rw [u1, Option.bind_some]
                exact ⟨_, M7, rfl, g, ⟨by rw [← List.append_assoc, ← List.append_assoc]; exact u2, by omega, t3'⟩, mL_tr fr u3⟩
            · obtain ⟨M4, q1, q2, q3⟩ := knot_w t1 y
              have hne := MFl_i q2
              rw [q1, Option.bind_some, goOn_i hne, Option.bind_some, h3.1 M4 hne, Option.bind_some, puts_i hne, Option.bind_some]
              exact ⟨.error (2, j), M4, rfl, g_ck z s2 x y, q2, mL_tr s4 q3⟩
          rw [if_pos ((sort_M t1.1).1.mpr (by omega))]
          by_cases c1 : M3.1 0 21 = 60
          · rw [if_pos c1]; exact key
          · rw [if_neg c1]
            by_cases c2 : M3.1 0 21 = 62
            · rw [if_pos c2]; exact key
            · rw [if_neg c2]
              by_cases c3 : M3.1 0 21 = 61
              · rw [if_pos c3]; exact key
              · rw [if_neg c3, if_pos (by rcases hc with c | c | c | c; exact absurd c c1; exact absurd c c2; exact absurd c c3; exact c)]
                exact key
        · have fin : ∃ r M', (some M3 : Option Mem) = some M' ∧ Glv (tK b n) (tV b n) 2 i kn op r ∧ MRs M' b n m a0 i o op r ∧ mL a0 M M' := ⟨_, M3, rfl, g_ce z s2 x, ⟨t1, t2, t3⟩, s4⟩
          by_cases y : 4 ≤ tK b n j ∧ tK b n j < 17
          · have hv : M3.1 0 21 = nI (sgM (tK b n j)) := val_s t1.1 y.1 y.2
            have hc : ¬ _ := fun h => x ((sgM_c (tK b n j) y.2 y.1).mp h)
            rw [← hv] at hc
            rw [if_pos ((sort_M t1.1).1.mpr y), if_neg (fun c => hc (Or.inl c)), if_neg (fun c => hc (Or.inr (Or.inl c))), if_neg (fun c => hc (Or.inr (Or.inr (Or.inl c)))), if_neg (fun c => hc (Or.inr (Or.inr (Or.inr c))))]
            exact fin
          · rw [if_neg (fun c => y ((sort_M t1.1).1.mp c))]
            exact fin
theorem rfJ_b : ∀ k, k < 22 → (15 ≤ nI (rfJ k) ↔ 3 ≤ k ∧ k ≤ 9) := by decide +kernel
theorem tK_b (hb2 : ∀ i, i < n → b i < 256) (i : Nat) : tK b n i < 39 := by
  unfold tK tkd
  by_cases hp : ps b n i < n
  · rw [if_pos hp]
    by_cases h1 : isLt (b (ps b n i)) = true
    · rw [if_pos h1]
      by_cases h2 : eLt b n (ps b n i) - ps b n i ≤ 6
      · rw [if_pos h2]
        unfold wkN
        split
        · rename_i k hk
          have := List.mem_range.mp (List.mem_of_find?_eq_some hk)
          omega
        · omega
      · rw [if_neg h2]; omega
    · rw [if_neg h1]
      by_cases h2 : isDg (b (ps b n i)) = true
      · rw [if_pos h2]; omega
      · rw [if_neg h2]
        rcases sgK_b (n := n) (hb2 _ hp) with z | z <;> omega
  · rw [if_neg hp]; omega
theorem prim_M (hb2 : ∀ i, i < n → b i < 256) (hn : n ≤ 700) (hm : eMk b n m) {N : Nat} {L : Mem → Option Mem} (h0 : lvOk b n m a0 0 N L) : lvOk b n m a0 5 (N + 1) (f_X10_primaryG L) := by
  refine ⟨fun M hne => ?_, fun M i kn op o hB him hS => ?_⟩
  · unfold f_X10_primaryG
    rw [if_neg hne]
  · have hb := tK_b hb2 i
    have e : f_X10_isSign 40 M = _ := isSign_M (k := 5) hS.1 hS.2.1 (by omega) (by omega)
    obtain ⟨h1, h2, h3, h4, h5, h6, h7, h8, h9⟩ := hS
    have hS : MSt M b n a0 i o op kn := ⟨h1, h2, h3, h4, h5, h6, h7, h8, h9⟩
    -- the end of a part that is a number or a name
    have fin : ∀ (Q : Mem) (t1 t2 : Int32) (p : Nat × Nat), MFl Q b n p → f_X10_primary_194 L t1 t2 Q = some Q := by
      intro Q t1 t2 p hq
      have hne := MFl_i hq
      unfold f_X10_primary_194
      rw [puts_i hne, Option.bind_some, goOn_i hne, Option.bind_some]
    have fin2 : ∀ (Q : Mem) (v : Int32) (p : Nat × Nat), MFl Q b n p → f_X10_primary_162 L v Q = some Q := by
      intro Q v p hq
      have hne := MFl_i hq
      unfold f_X10_primary_162
      rw [knot_i hne, Option.bind_some]
      unfold f_X10_primary_176
      by_cases z : v = 0
      · rw [if_pos z, if_pos z, fin Q _ _ p hq]
      · rw [if_neg z, if_neg z, fin Q _ _ p hq]
    have part : ∀ (v : Int32) (kk : Nat), (if v = 0 then (M.1 0 21 - 15) else M.1 0 21) = nI (kv kk) → (if v = 0 then (1 : Int32) else 0) = nI (ks kk) → kn < 64 → i < m → ∃ M', f_X10_primary_162 L v M = some M' ∧ MSt M' b n a0 (i + 1) (o ++ [kk]) op (kn + 1) ∧ mL a0 M M' := by
      intro v kk hv hk y hlt
      obtain ⟨M1, q1, q2, q3⟩ := knot_M hS y
      have e21 : M1.1 0 21 = M.1 0 21 := by
        unfold f_X10_knot at q1
        rw [if_pos h2, h4, if_neg (show ¬ nI kn = 64 from fun e => by have := (nI_eq (b := 64) (by omega) (by omega)).mp e; omega), nxt_eq] at q1
        have q1 := Option.some.inj q1
        rw [← q1, sI1, if_neg (by omega)]
      obtain ⟨M2, u1, u2, u3⟩ := puts_M q2 (by omega) kk
      obtain ⟨M3, r1, r2, r3⟩ := goOn_S u2 hb2 hn
      refine ⟨M3, ?_, r2, mL_tr (mL_tr q3 u3) r3⟩
      unfold f_X10_primary_162
      rw [q1, Option.bind_some]
      unfold f_X10_primary_176 f_X10_primary_194
      by_cases z : v = 0
      · rw [if_pos z] at hv hk
        rw [if_pos z, if_pos z, e21, hv, hk, u1, Option.bind_some, r1, Option.bind_some]
      · rw [if_neg z] at hv hk
        rw [if_neg z, if_neg z, e21, hv, hk, u1, Option.bind_some, r1, Option.bind_some]
    have partw : ∀ v : Int32, ¬ kn < 64 → ∃ M', f_X10_primary_162 L v M = some M' ∧ MFl M' b n (2, i) ∧ mL a0 M M' := by
      intro v y
      obtain ⟨M1, q1, q2, q3⟩ := knot_w hS y
      refine ⟨M1, ?_, q2, q3⟩
      unfold f_X10_primary_162
      rw [q1, Option.bind_some]
      unfold f_X10_primary_176
      by_cases z : v = 0
      · rw [if_pos z, if_pos z, fin M1 _ _ _ q2]
      · rw [if_neg z, if_neg z, fin M1 _ _ _ q2]
    unfold f_X10_primaryG
    rw [if_pos h2, e, bnd_some]
    by_cases k5 : tK b n i = 5
    · have hlt := eMk_lt hm him (by omega)
      rw [if_pos k5, if_neg (by decide), h3]
      by_cases z : op < 8
      · rw [if_neg (show ¬ nI op = 8 from fun e => by have := (nI_eq (b := 8) (by omega) (by omega)).mp e; omega)]
        unfold f_X10_primary_31
        rw [if_pos h2, nxt_eq, h3, nI_1]
        have hS1 : MSt (sI M 0 26 (nI (op + 1))) b n a0 i o (op + 1) kn := by
          refine ⟨tkA_s h1 (by omega), ?_, ?_, ?_, ?_, h6, h7, by omega, fun j hj => ?_, by rw [sI1, if_neg (by omega)]; exact h9.2⟩
          · rw [sI1, if_neg (by omega)]; exact h2
          · rw [sI1, if_pos ⟨rfl, rfl⟩]
          · rw [sI1, if_neg (by omega)]; exact h4
          · rw [sI1, if_neg (by omega)]; exact h5
          · rw [sI1, if_neg (by omega), sI1, if_neg (by omega)]; exact h9.1 j hj
        obtain ⟨M2, r1, r2, r3⟩ := goOn_S hS1 hb2 hn
        have r1' : f_X10_token (sI M 0 26 (nI (op + 1))) = some M2 := by
          unfold f_X10_goOn at r1
          rw [if_pos hS1.2.1] at r1
          cases ht : f_X10_token (sI M 0 26 (nI (op + 1))) with
          | none => rw [ht] at r1; cases r1
          | some Q => rw [ht] at r1; exact r1
        obtain ⟨rr, M3, s1, s2, s3, s4⟩ := h0.2 M2 (i + 1) kn (op + 1) o (by omega) (by omega) r2
        rw [r1', Option.bind_some, s1, Option.bind_some]
        have fr := mL_tr (mL_tr (mL_s (mL_rf a0 M) (by omega)) r3) s4
        cases rr with
        | error p =>
          have hne := MFl_i s3
          rw [if_neg hne]
          refine ⟨.error p, M3, ?_, g_pb k5 z s2, s3, fr⟩
          unfold f_X10_primary_78
          rw [if_neg hne]
        | ok q =>
          obtain ⟨j, kn1, l⟩ := q
          obtain ⟨t1, t2, t3⟩ := s3
          have e6 : f_X10_isSign 41 M3 = _ := isSign_M (k := 6) t1.1 t1.2.1 (by omega) (by omega)
          rw [if_pos t1.2.1, e6, bnd_some]
          by_cases y : tK b n j = 6
          · have hlt2 := eMk_lt hm t3 (by omega)
            rw [if_pos y, if_neg (by decide)]
            unfold f_X10_primary_78
            obtain ⟨a1, a2, a3, a4, a5, a6, a7, a8, a9⟩ := t1
            rw [if_pos a2, nxt_eq, a3, nI_m1]
            have hS2 : MSt (sI M3 0 26 (nI op)) b n a0 j (o ++ l) op kn1 := by
              refine ⟨tkA_s a1 (by omega), ?_, ?_, ?_, ?_, a6, a7, h8, fun j hj => ?_, by rw [sI1, if_neg (by omega)]; exact a9.2⟩
              · rw [sI1, if_neg (by omega)]; exact a2
              · rw [sI1, if_pos ⟨rfl, rfl⟩]
              · rw [sI1, if_neg (by omega)]; exact a4
              · rw [sI1, if_neg (by omega)]; exact a5
              · rw [sI1, if_neg (by omega), sI1, if_neg (by omega)]; exact a9.1 j hj
            obtain ⟨M5, c1, c2, c3⟩ := goOn_S hS2 hb2 hn
            have c1' : f_X10_token (sI M3 0 26 (nI op)) = some M5 := by
              unfold f_X10_goOn at c1
              rw [if_pos hS2.2.1] at c1
              cases ht : f_X10_token (sI M3 0 26 (nI op)) with
              | none => rw [ht] at c1; cases c1
              | some Q => rw [ht] at c1; exact c1
            rw [c1', Option.bind_some]
            exact ⟨_, M5, rfl, g_po k5 z s2 y, ⟨c2, by omega, by omega⟩, mL_tr (mL_tr fr (mL_s (mL_rf a0 M3) (by omega))) c3⟩
          · rw [if_neg y, if_pos rfl]
            obtain ⟨M4, q1, q2, q3⟩ := wrong_M (a0 := a0) t1.1 t1.2.1 (f := 1) (by omega) (by omega)
            have q1 : f_X10_wrong 1 M3 = some M4 := q1
            rw [q1, Option.bind_some]
            refine ⟨.error (1, j), M4, ?_, g_px k5 z s2 y, q2, mL_tr fr q3⟩
            unfold f_X10_primary_78
            rw [if_neg (MFl_i q2)]
      · have : op = 8 := by omega
        rw [this, if_pos (show nI 8 = (8 : Int32) from rfl)]
        obtain ⟨M4, q1, q2, q3⟩ := wrong_M (a0 := a0) h1 h2 (f := 2) (by omega) (by omega)
        have q1 : f_X10_wrong 2 M = some M4 := q1
        rw [q1, Option.bind_some]
        refine ⟨.error (2, i), M4, ?_, g_pk k5 (by omega), q2, q3⟩
        unfold f_X10_primary_31
        rw [if_neg (MFl_i q2)]
    · rw [if_neg k5, if_pos rfl]
      by_cases k2 : tK b n i = 2
      · have hlt := eMk_lt hm him (by omega)
        rw [if_pos ((sort_M h1).2.2.1.mpr k2)]
        have e2 : tkd b n (ps b n i) = 2 := k2
        obtain ⟨c1, c2, c3⟩ := num_like hb2 e2
        have h21 := (h1.2.2.2.2.2.1 e2).2
        unfold f_X10_primary_114
        rw [if_neg (by decide), h21]
        by_cases y : tV b n i ≤ 9999
        · have e3 : nvM b (ps b n i) (eDg b n (ps b n i) - ps b n i) = tV b n i := by
            rcases c3 with c | c
            · exact c.symm
            · have : tvC b n (ps b n i) ≤ 9999 := y
              omega
          rw [e3] at h21 ⊢
          rw [if_pos (show nI (tV b n i) ≤ 9999 from (nI_le y (by omega) : _ ≤ nI 9999))]
          unfold f_X10_primary_137
          rw [if_neg (by decide)]
          by_cases x : kn < 64
          · obtain ⟨M', w1, w2, w3⟩ := part 1 (100 + tV b n i) (by rw [if_neg (by decide), h21]; unfold kv; rw [if_neg (by omega), if_neg (by omega)]; congr 1; omega) (by rw [if_neg (by decide)]; unfold ks; rw [if_neg (by omega), if_neg (by omega)]; rfl) x hlt
            exact ⟨_, M', w1, g_n1 k2 y x, ⟨w2, by omega, by omega⟩, w3⟩
          · obtain ⟨M', w1, w2, w3⟩ := partw 1 x
            exact ⟨.error (2, i), M', w1, g_n2 k2 (fun z => x z.2), w2, w3⟩
        · have : ¬ nI (nvM b (ps b n i) (eDg b n (ps b n i) - ps b n i)) ≤ 9999 := by
            refine nI_ge (a := 9999) ?_ (by omega)
            have : ¬ tvC b n (ps b n i) ≤ 9999 := y
            omega
          rw [if_neg this]
          obtain ⟨M4, q1, q2, q3⟩ := wrong_M (a0 := a0) h1 h2 (f := 2) (by omega) (by omega)
          have q1 : f_X10_wrong 2 M = some M4 := q1
          rw [q1, Option.bind_some]
          exact ⟨.error (2, i), M4, fin2 M4 _ _ q2, g_n2 k2 (fun z => y z.1), q2, q3⟩
      · rw [if_neg (fun c => k2 ((sort_M h1).2.2.1.mp c))]
        unfold f_X10_primary_114
        rw [if_pos rfl]
        unfold f_X10_primary_137
        rw [if_pos rfl]
        have bad : ¬ (20 ≤ tK b n i ∧ tK b n i ≤ 26) → ∃ r M', f_X10_primary_157 L 0 M = some M' ∧ Glv (tK b n) (tV b n) 5 i kn op r ∧ MRs M' b n m a0 i o op r ∧ mL a0 M M' := by
          intro x
          obtain ⟨M4, q1, q2, q3⟩ := wrong_M (a0 := a0) h1 h2 (f := 1) (by omega) (by omega)
          have q1 : f_X10_wrong 1 M = some M4 := q1
          refine ⟨.error (1, i), M4, ?_, g_a0 k5 k2 x, q2, q3⟩
          unfold f_X10_primary_157
          rw [q1, Option.bind_some]
          exact fin2 M4 _ _ q2
        by_cases kw : 17 ≤ tK b n i
        · have h21 := val_w h1 kw
          rw [if_pos ((sort_M h1).2.1.mpr kw)]
          by_cases x : 20 ≤ tK b n i ∧ tK b n i ≤ 26
          · have hlt := eMk_lt hm him (by omega)
            rw [if_pos (by rw [h21]; exact (rfJ_b _ (by omega)).mpr (by omega))]
            by_cases y : kn < 64
            · obtain ⟨M', w1, w2, w3⟩ := part 0 (tK b n i) (by
                rw [if_pos rfl, h21]
                unfold kv
                rw [if_neg (by omega), if_pos (by omega)]
                have : ∀ t, t < 7 → nI (rfJ (t + 20 - 17)) - 15 = nI (t + 20 - 20) := by decide +kernel
                have := this (tK b n i - 20) (by omega)
                rw [show tK b n i - 20 + 20 = tK b n i by omega] at this
                exact this) (by rw [if_pos rfl]; unfold ks; rw [if_neg (by omega), if_pos (by omega)]; rfl) y hlt
              exact ⟨_, M', w1, g_a1 x.1 x.2 y, ⟨w2, by omega, by omega⟩, w3⟩
            · obtain ⟨M', w1, w2, w3⟩ := partw 0 y
              exact ⟨.error (2, i), M', w1, g_a2 x.1 x.2 y, w2, w3⟩
          · rw [if_neg (by rw [h21]; exact fun c => x (by have := (rfJ_b _ (by omega)).mp c; omega))]
            exact bad x
        · rw [if_neg (fun c => kw ((sort_M h1).2.1.mp c))]
          exact bad (by omega)
theorem lvOk_le {F : Mem → Option Mem} {N N' : Nat} (h : lvOk b n m a0 w N F) (hN : N' ≤ N) : lvOk b n m a0 w N' F := ⟨h.1, fun M i kn op o hB => h.2 M i kn op o (by omega)⟩
/-- all levels of the reference -/
theorem pz_M (hb2 : ∀ i, i < n → b i < 256) (hn : n ≤ 700) (hm : eMk b n m) : ∀ N w, w ≤ 5 → 6 ≤ N + w → 1 ≤ N → lvOk b n m a0 w N (pz N w) := by
  have idle : ∀ N w M, w ≤ 5 → 6 ≤ N + w → M.1 0 22 ≠ 0 → pz N w M = some M := by
    intro N
    induction N with
    | zero => intro w M h1 h2; omega
    | succ N ih =>
      intro w M h1 h2 hne
      unfold pz
      have fu : FU = 1999 + 1 := rfl
      by_cases w0 : w = 0
      · rw [if_pos w0]
        unfold f_X10_expressionG
        rw [ih 1 M (by omega) (by omega) hne, Option.bind_some, fu]
        unfold f_X10_expression_4
        rw [isWord_i hne, bnd_some, if_pos rfl]
      · rw [if_neg w0]
        by_cases w1 : w = 1
        · rw [if_pos w1]
          unfold f_X10_conjunctionG
          rw [ih 2 M (by omega) (by omega) hne, Option.bind_some, fu]
          unfold f_X10_conjunction_4
          rw [isWord_i hne, bnd_some, if_pos rfl]
        · rw [if_neg w1]
          by_cases w2 : w = 2
          · rw [if_pos w2]
            unfold f_X10_negationG
            rw [isWord_i hne, bnd_some, if_pos rfl, ih 3 M (by omega) (by omega) hne, Option.bind_some, if_neg hne]
          · rw [if_neg w2]
            by_cases w3 : w = 3
            · rw [if_pos w3]
              unfold f_X10_sumG
              rw [ih 4 M (by omega) (by omega) hne, Option.bind_some, fu]
              unfold f_X10_sum_4
              rw [isSign_i hne, bnd_some, if_pos rfl, isSign_i hne, bnd_some, if_pos rfl]
            · rw [if_neg w3]
              by_cases w4 : w = 4
              · rw [if_pos w4]
                unfold f_X10_productG
                rw [ih 5 M (by omega) (by omega) hne, Option.bind_some, fu]
                unfold f_X10_product_4
                rw [isSign_i hne, bnd_some, if_pos rfl, isSign_i hne, bnd_some, if_pos rfl]
              · rw [if_neg w4]
                unfold f_X10_primaryG
                rw [if_neg hne]
  intro N
  induction N with
  | zero => intro w h1 h2 h3; omega
  | succ N ih =>
    intro w h1 h2 h3
    refine ⟨fun M hne => idle (N + 1) w M h1 (by omega) hne, ?_⟩
    intro M i kn op o hB
    have sub : ∀ w', w' ≤ 5 → lvOk b n m a0 w' N (pz N w') := fun w' h => ih w' h (by omega) (by omega)
    by_cases w0 : w = 0
    · subst w0
      exact (lwExpr_M hb2 hn hm (sub 1 (by omega))).2 M i kn op o hB
    · by_cases w1 : w = 1
      · subst w1
        exact (lwConj_M hb2 hn hm (sub 2 (by omega))).2 M i kn op o hB
      · by_cases w2 : w = 2
        · subst w2
          exact (neg_M hb2 hn hm (sub 2 (by omega)) (sub 3 (by omega))).2 M i kn op o hB
        · by_cases w3 : w = 3
          · subst w3
            exact (lwSum_M hb2 hn hm (sub 4 (by omega))).2 M i kn op o hB
          · by_cases w4 : w = 4
            · subst w4
              exact (lwProd_M hb2 hn hm (sub 5 (by omega))).2 M i kn op o hB
            · have w5 : w = 5 := by omega
              subst w5
              exact (prim_M hb2 hn hm (sub 0 (by omega))).2 M i kn op o hB
/-- the reference's E -/
theorem expr_Mz (hb2 : ∀ i, i < n → b i < 256) (hn : n ≤ 700) (hm : eMk b n m) (hi : i ≤ m) (h : MSt M b n a0 i [] 0 kn) : ∃ r M', f_X10_expression M = some M' ∧ Glv (tK b n) (tV b n) 0 i kn 0 r ∧ MRs M' b n m a0 i [] 0 r ∧ mL a0 M M' :=
  (pz_M hb2 hn hm 200 0 (by omega) (by omega) (by omega)).2 M i kn 0 [] (by omega) hi h
end LAWP
