/-! PURE 62: the text: a nurse's line -/
section LINO
variable {C C' M M' S S' : Mem} {b : Nat → Nat} {n m i kn ln f w s : Nat} {N : TN} {T : WS} {L : LWS} {mk : Nat → Bool}
theorem FL_to (h : FL C M) (e1 : M'.1 0 22 = M.1 0 22) (e2 : M'.1 0 23 = M.1 0 23) : FL C M' := ⟨by rw [e1]; exact h.1, by rw [e2]; exact h.2.1, by rw [e1]; exact h.2.2⟩
theorem l58_i {k : Nat} (hk : k < 6) (h : M.1 0 22 ≠ 0) : ∃ M', f_X10_nurseLine_58 (nI (6 + k)) M = some M' ∧ mR M M' ∧ M'.1 0 22 = M.1 0 22 ∧ M'.1 0 23 = M.1 0 23 := by
  unfold f_X10_nurseLine_58
  have h1 : (sI M 4 (6 + k) (M.1 0 21 - 7)).1 0 22 ≠ 0 := by rw [sI1, if_neg (by omega)]; exact h
  rw [wrN (by omega) (by omega), Option.bind_some, goOn_i h1, Option.bind_some, numeral_i h1, bnd_some, wrN (by omega) (by omega), Option.bind_some]
  have e : ∀ Q : Mem, f_X10_fresher 0 Q = some (Q.1 2 7, Q) := fun Q => fresh_k (k := 0) (by omega)
  have e2 : ∀ (Q : Mem) v, f_X10_reads 0 v Q = some (sI Q 2 7 v) := fun Q v => reads_k (k := 0) (by omega) v
  rw [e, bnd_some, e2, Option.bind_some]
  refine ⟨_, rfl, mR_s (mR_s (mR_s (mR_rf M) (by unfold rM; omega)) (by unfold rM; omega)) (by unfold rM; omega), ?_, ?_⟩ <;> simp only [sI1] <;> simp
theorem side_v : ∀ k, k < 22 → ((nI (rfJ k) < 7 ∨ ¬ nI (rfJ k) ≤ 8) ↔ k ≠ 17 ∧ k ≠ 18) := by decide +kernel
theorem ln_nurse (hb2 : ∀ i, i < n → b i < 256) (hn : n ≤ 700) (hc : RSc C b n m i N T L mk) (hm : RSm M b n i N T L mk kn ln) (hI : RSp N T L kn) (hk : tK b n i = 27) : lnR C M b n m i ln := by
  obtain ⟨e1, e2⟩ := kd_C hb2 hc hn
  have him := lt_m hc.1 hc.2.2.1 (by show tK b n i ≠ 0; omega)
  obtain ⟨c80, c81, c82⟩ := RSc_00 hc
  have h6 := hI.1.1
  have hd : f_X4_readLine C = (bnd (f_X4_readNurse C) fun r22 S22 => if okz r22 = true then some (r22, S22) else none) := by
    unfold f_X4_readLine
    rw [e1, bnd_some, hk, if_pos (by decide)]
    unfold f_X4_readLine_26
    rw [if_pos (by decide)]
  have hM := head_M (w := 0) hm hI (by omega) (by omega)
  by_cases full : N 0 0 = 6
  · rw [if_pos (Or.inl ⟨rfl, full⟩)] at hM
    obtain ⟨C1, M1, q1, q2, q3, q4, q5⟩ := fl_at (f := 2) hn hc.1 hc.2.1 hc.2.2.1 hm.1 hm.2.1 (by omega) (by omega)
    have q1 : f_X4_wrong 2 C = some (0, C1) := q1
    have q2 : f_X10_wrong 2 M = some M1 := q2
    refine ⟨M1, ?_, q5, Or.inr ⟨C1, ?_, q4, q3⟩⟩
    · rw [hM, q2, Option.bind_some, l70_i q3.2.2, l226_i q3.2.2]
    · rw [hd]
      refine bw ?_ o0
      unfold f_X4_readNurse
      rw [c80, full, if_neg (by decide)]
      exact bw q1 o0
  have hnn : N 0 0 < 6 := by omega
  rw [if_neg (by omega), if_neg (by omega)] at hM
  obtain ⟨M2, r1, r2, r3⟩ := l70_M (w := 0) hm hb2 hn (by omega)
  have r2 : RSm M2 b n (i + 1) N T L mk kn ln := RSm_mk r2 (fun s hs => by rw [show decide (2 + s = 0) = false from decide_eq_false (by omega), Bool.or_false])
  have fr0 : ∀ Q : Mem, f_X10_fresher 0 Q = some (Q.1 2 7, Q) := fun Q => fresh_k (k := 0) (by omega)
  have rd0 : ∀ (Q : Mem) v, f_X10_reads 0 v Q = some (sI Q 2 7 v) := fun Q v => reads_k (k := 0) (by omega) v
  obtain ⟨m7, m8, m13⟩ := RSm_00 r2
  have hM : f_X10_line M = (f_X10_nurseLine (nI (6 + N 0 0)) M2).bind fun S => f_X10_line_226 S := by
    rw [hM]
    unfold f_X10_line_70
    rw [if_pos hm.2.1, nxt_eq, r1, Option.bind_some, if_pos (by decide), fr0, bnd_some, m7, show (6 : Int32) + nI (N 0 0) = nI (6 + N 0 0) from nI_add 6 _]
  have hc1 := RSc_n hc (i' := i + 1) him
  have hd : f_X4_readLine C = (bnd (bnd (f_X4_readNewName 9 6 (nI (N 0 0)) (sI C 3 5 (nI (i + 1)))) fun r39 S39 =>
      if r39 = 0 then
      (some ((0 : Int32), S39))
      else
      (bnd (f_X4_kind S39) fun r48 S48 =>
      if r48 = (34 : Int32) then
      (f_X4_readNurse_71 (nI (N 0 0)) S48)
      else
      (bnd (f_X4_kind S48) fun r57 S57 =>
      if r57 = (35 : Int32) then
      (f_X4_readNurse_71 (nI (N 0 0)) S57)
      else
      (bnd (f_X4_wrong (1 : Int32) S57) fun r67 S67 =>
      if okz r67 = true then some (r67, S67) else none)))) fun r22 S22 => if okz r22 = true then some (r22, S22) else none) := by
    rw [hd]
    unfold f_X4_readNurse
    rw [c80, if_pos (show nI (N 0 0) < 6 from (nI_lt (b := 6) hnn (by omega))), nxt_eq, hc.2.1, nI_1]
  obtain ⟨nc1, nc2⟩ := newN_C (a := 9) (n1 := 6) (k := N 0 0) hb2 hn hc1.1 hc1.2.1 hc1.2.2.1 hnn (by omega) (by omega)
  obtain ⟨nm1, nm2⟩ := newN_M (a := 3) (n1 := 12) (o := 6) (k := N 0 0) hb2 hn r2.1 r2.2.1 (by omega) (by omega)
  have same : (nmN ((sI C 3 5 (nI (i + 1))).1 9) (N 0 0) (nI (tV b n (i + 1)))) ↔ (nmN (fun j => M2.1 3 (6 + j)) (N 0 0) (nI (tV b n (i + 1)))) := by
    unfold nmN
    have : ∀ j, j < N 0 0 → (sI C 3 5 (nI (i + 1))).1 9 j = M2.1 3 (6 + j) := fun j hj => ((hc1.2.2.2.1.2.2.2.1 j hj).1).trans ((r2.2.2.2.2.2.1.2.2.2.1 j hj).1).symm
    exact ⟨fun h j hj => by show M2.1 3 (6 + j) ≠ _; rw [← this j hj]; exact h j hj, fun h j hj => by rw [this j hj]; exact h j hj⟩
  have hNL : f_X10_nurseLine (nI (6 + N 0 0)) M2 = bnd (f_X10_fresh 3 12 (nI 6) (nI (N 0 0)) M2) fun r17 S17 => (wr S17 3 12 (nI (6 + N 0 0)) r17).bind fun S20 =>
      if (S20.1 0 22) = 0 then
      (if (S20.1 0 20) = 0 then
      (if (S20.1 0 21) < (7 : Int32) then
      (f_X10_nurseLine_53 (nI (6 + N 0 0)) S20)
      else
      (if (S20.1 0 21) ≤ (8 : Int32) then
      (f_X10_nurseLine_58 (nI (6 + N 0 0)) S20)
      else
      (f_X10_nurseLine_53 (nI (6 + N 0 0)) S20)))
      else
      (f_X10_nurseLine_53 (nI (6 + N 0 0)) S20))
      else
      (f_X10_nurseLine_58 (nI (6 + N 0 0)) S20) := by
    unfold f_X10_nurseLine
    rw [fr0, bnd_some, m7]
    rfl
  by_cases y : tK b n (i + 1) = 3 ∧ nmN ((sI C 3 5 (nI (i + 1))).1 9) (N 0 0) (nI (tV b n (i + 1)))
  · obtain ⟨him1, cc⟩ := nc1 y
    obtain ⟨M3, s1, s2, s3⟩ := nm1 ⟨y.1, same.mp y.2⟩
    have hm3 := RSm_q r2 s3 s2
    rw [cc, bnd_some, if_neg (by decide)] at hd
    rw [s1, bnd_some, wrN (by omega) (by omega), Option.bind_some] at hNL
    have t22 : (sI M3 3 (6 + N 0 0) (nI (tV b n (i + 1)))).1 0 22 = 0 := by rw [sI1, if_neg (by omega)]; exact hm3.2.1
    have tA : tkA (sI M3 3 (6 + N 0 0) (nI (tV b n (i + 1)))) b n (i + 1 + 1) := tkA_s s2 (by omega)
    rw [if_pos t22] at hNL
    have ht2 : tkC (sI (sI (sI C 3 5 (nI (i + 1))) 9 (N 0 0) (nI (tV b n (i + 1)))) 3 5 (nI (i + 1 + 1))) b n m := tkC_to hc.1 (fun c j hc => by simp only [sI1]; grind)
    have h52 : (sI (sI (sI C 3 5 (nI (i + 1))) 9 (N 0 0) (nI (tV b n (i + 1)))) 3 5 (nI (i + 1 + 1))).1 3 5 = nI (i + 1 + 1) := by rw [sI1, if_pos ⟨rfl, rfl⟩]
    have him2 : i + 1 + 1 ≤ m := him1
    have kd2 : f_X4_kind (sI (sI (sI C 3 5 (nI (i + 1))) 9 (N 0 0) (nI (tV b n (i + 1)))) 3 5 (nI (i + 1 + 1))) = some (nI (tK b n (i + 1 + 1)), _) := kindR_C ht2 hn h52 him2
    have hkb := tK_b hb2 (i + 1 + 1)
    have fC : cR C (sI (sI (sI C 3 5 (nI (i + 1))) 9 (N 0 0) (nI (tV b n (i + 1)))) 3 5 (nI (i + 1 + 1))) := cR_s (cR_s (cR_s (cR_rf C) (by omega)) (by omega)) (by omega)
    have fM : mR M (sI M3 3 (6 + N 0 0) (nI (tV b n (i + 1)))) := mR_tr r3 (mR_tr (mR_q s3) (mR_s (mR_rf M3) (by unfold rM; omega)))
    rw [kd2, bnd_some] at hd
    by_cases x : tK b n (i + 1 + 1) = 34 ∨ tK b n (i + 1 + 1) = 35
    · have him3 := lt_m ht2 him2 (by show tK b n (i + 1 + 1) ≠ 0; omega)
      have hv := val_w tA (by omega)
      have hNL : f_X10_nurseLine (nI (6 + N 0 0)) M2 = f_X10_nurseLine_58 (nI (6 + N 0 0)) (sI M3 3 (6 + N 0 0) (nI (tV b n (i + 1)))) := by
        rw [hNL, if_pos ((sort_M tA).2.1.mpr (by omega)), hv]
        have sv := side_v (tK b n (i + 1 + 1) - 17) (by omega)
        have sv' : ¬ (nI (rfJ (tK b n (i + 1 + 1) - 17)) < 7 ∨ ¬ nI (rfJ (tK b n (i + 1 + 1) - 17)) ≤ 8) := fun q => by have := sv.mp q; omega
        rw [if_neg (fun q => sv' (Or.inl q)), if_pos (Decidable.byContradiction fun q => sv' (Or.inr q))]
      obtain ⟨sd, hsd⟩ : ∃ sd, sd ≤ 1 ∧ tK b n (i + 1 + 1) = 34 + sd := by
        rcases x with x | x
        · exact ⟨0, by omega, by omega⟩
        · exact ⟨1, by omega, by omega⟩
      have hv7 : (sI M3 3 (6 + N 0 0) (nI (tV b n (i + 1)))).1 0 21 - 7 = nI sd := by
        rw [hv, hsd.2]
        have : ∀ sd, sd < 2 → nI (rfJ (34 + sd - 17)) - 7 = nI sd := by decide +kernel
        exact this sd (by omega)
      have hk34 : nI (tK b n (i + 1 + 1)) - 34 = nI sd := by
        rw [hsd.2]
        have : ∀ sd, sd < 2 → nI (34 + sd) - 34 = nI sd := by decide +kernel
        exact this sd (by omega)
      have hd : f_X4_readLine C = (bnd (f_X4_readNurse_71 (nI (N 0 0)) (sI (sI (sI C 3 5 (nI (i + 1))) 9 (N 0 0) (nI (tV b n (i + 1)))) 3 5 (nI (i + 1 + 1)))) fun r22 S22 => if okz r22 = true then some (r22, S22) else none) := by
        rw [hd]
        rcases x with x | x
        · rw [x, if_pos (show nI 34 = 34 from rfl)]
        · rw [x, if_neg (by decide), kd2, bnd_some, x, if_pos (show nI 35 = 35 from rfl)]
      unfold f_X4_readNurse_71 at hd
      unfold f_X10_nurseLine_58 at hNL
      rw [hv7, wrN (by omega) (by omega), Option.bind_some] at hNL
      rw [kd2, bnd_some, hk34, wrN hnn (by omega), Option.bind_some, nxt_eq, sI1 _ 10, if_neg (by omega), h52, nI_1] at hd
      have hmA : tkA (sI (sI M3 3 (6 + N 0 0) (nI (tV b n (i + 1)))) 4 (6 + N 0 0) (nI sd)) b n (i + 1 + 1) := tkA_s tA (by omega)
      have t22' : (sI (sI M3 3 (6 + N 0 0) (nI (tV b n (i + 1)))) 4 (6 + N 0 0) (nI sd)).1 0 22 = 0 := by rw [sI1, if_neg (by omega)]; exact t22
      obtain ⟨M4, g1, g2, g3⟩ := goOn_M hmA t22' hb2 hn
      rw [g1, Option.bind_some] at hNL
      have g3e : ∀ c j, ¬ (c = 0 ∧ 18 ≤ j ∧ j ≤ 21) → M4.1 c j = (sI (sI M3 3 (6 + N 0 0) (nI (tV b n (i + 1)))) 4 (6 + N 0 0) (nI sd)).1 c j := g3
      have g22 : M4.1 0 22 = 0 := by rw [g3e 0 22 (by omega)]; exact t22'
      have fM4 : mR M M4 := mR_tr fM (mR_tr (mR_s (mR_rf _) (by unfold rM; omega)) (mR_q g3))
      generalize hC3 : sI (sI (sI (sI (sI C 3 5 (nI (i + 1))) 9 (N 0 0) (nI (tV b n (i + 1)))) 3 5 (nI (i + 1 + 1))) 10 (N 0 0) (nI sd)) 3 5 (nI (i + 1 + 1 + 1)) = C3 at hd
      have ht3 : tkC C3 b n m := by rw [← hC3]; exact tkC_to hc.1 (fun c j hc => by simp only [sI1]; grind)
      have h53 : C3.1 3 5 = nI (i + 1 + 1 + 1) := by rw [← hC3, sI1, if_pos ⟨rfl, rfl⟩]
      have fC3 : cR C C3 := by rw [← hC3]; exact cR_s (cR_s fC (by omega)) (by omega)
      have e3 : ∀ c j, ¬ (c = 3 ∧ j = 5) → ¬ ((c = 9 ∨ c = 10) ∧ j = N 0 0) → C3.1 c j = C.1 c j := by
        intro c j a1 a2
        rw [← hC3, sI1, if_neg (by omega), sI1, if_neg (by omega), sI1, if_neg (by omega), sI1, if_neg (by omega), sI1, if_neg (by omega)]
      have e39 : C3.1 9 (N 0 0) = nI (tV b n (i + 1)) := by
        rw [← hC3, sI1, if_neg (by omega), sI1, if_neg (by omega), sI1, if_neg (by omega), sI1, if_pos ⟨rfl, rfl⟩]
      have e310 : C3.1 10 (N 0 0) = nI sd := by
        rw [← hC3, sI1, if_neg (by omega), sI1, if_pos ⟨rfl, rfl⟩]
      have hNu : f_X10_numeral 0 9 = f_X10_numeral (nI 0) (nI 9) := rfl
      have hRn : f_X4_readNumber 11 6 (nI (N 0 0)) 0 9 C3 = f_X4_readNumber 11 6 (nI (N 0 0)) (nI 0) (nI 9) C3 := rfl
      rw [hNu] at hNL
      rw [hRn] at hd
      by_cases v : numOk b n (ps b n (i + 1 + 1 + 1)) 0 9
      · obtain ⟨⟨rv, M5⟩, u1, u2, u3, u4⟩ := numeral_M g2 g22 hb2 hn (by omega) (by omega) v
        have u2 : rv = nI (tV b n (i + 1 + 1 + 1)) := u2
        have u4e : ∀ c j, ¬ (c = 0 ∧ 18 ≤ j ∧ j ≤ 21) → M5.1 c j = M4.1 c j := u4
        have hR := readNum_C ht3 hn hb2 h53 him3 hnn (by omega) (by omega : (11 : Nat) ≠ 3) (by omega : (9 : Nat) ≤ 99999) (by omega) v
        have him4 := lt_m ht3 him3 (by show tkd b n (ps b n (i + 1 + 1 + 1)) ≠ 0; rw [v.1]; decide)
        rw [u1, bnd_some, wrN (by omega) (by omega), Option.bind_some, fr0, bnd_some, rd0, Option.bind_some, u2] at hNL
        rw [hR, bnd_some, if_neg (by decide), nxt_eq] at hd
        have m57 : (sI M5 5 (6 + N 0 0) (nI (tV b n (i + 1 + 1 + 1)))).1 2 7 = nI (N 0 0) := by
          rw [sI1, if_neg (by omega), u4e 2 7 (by omega), g3e 2 7 (by omega), sI1, if_neg (by omega), sI1, if_neg (by omega)]
          exact (RSm_00 hm3).1
        rw [m57, nI_1] at hNL
        have c84 : (sI (sI C3 11 (N 0 0) (nI (tvC b n (ps b n (i + 1 + 1 + 1))))) 3 5 (nI (i + 1 + 1 + 1 + 1))).1 8 0 = nI (N 0 0) := by
          rw [sI1, if_neg (by omega), sI1, if_neg (by omega), e3 8 0 (by omega) (by omega)]; exact c80
        rw [c84, nI_1, bnd_some, if_pos o1] at hd
        rw [hNL, Option.bind_some] at hM
        have hcare : tV b n (i + 1 + 1 + 1) ≤ 9 := v.2.2
        refine ⟨_, hM, mR_tr fM4 (mR_tr (mR_q u4) (mR_s (mR_s (mR_rf M5) (by unfold rM; omega)) (by unfold rM; omega))), Or.inl ⟨_, i + 1 + 1 + 1 + 1, NnU N sd (tV b n (i + 1 + 1 + 1)), wu T 1 (N 0 0) (nI (tV b n (i + 1))), L, mk, kn, hd, cR_s (cR_s (cR_s fC3 (by omega)) (by omega)) (by omega), ?_, ?_, RSp_nurse hI hnn hsd.1 hcare, by omega⟩⟩
        · obtain ⟨x1, x2, x3, x4, x5, x6, x7, x8⟩ := hc
          refine ⟨tkC_to ht3 (fun c j hc => by simp only [sI1]; grind), ?_, him4, TC_nurse x4 hI.1 (fun c j a1 a2 a3 a4 => ?_) ?_ ?_ ?_ ?_, fun k hk hL => ?_, fun t ht => ?_, ?_, ?_⟩
          · rw [sI1, if_neg (by omega), sI1, if_pos ⟨rfl, rfl⟩]
          · rw [sI1, if_neg (by omega), sI1, if_neg (by omega), sI1, if_neg (by omega)]; exact e3 c j (by omega) (by omega)
          · rw [sI1, if_pos ⟨rfl, rfl⟩]
          · rw [sI1, if_neg (by omega), sI1, if_neg (by omega), sI1, if_neg (by omega)]; exact e39
          · rw [sI1, if_neg (by omega), sI1, if_neg (by omega), sI1, if_neg (by omega)]; exact e310
          · rw [sI1, if_neg (by omega), sI1, if_neg (by omega), sI1, if_pos ⟨rfl, rfl⟩]; rfl
          · rw [sI1, if_neg (by omega), sI1, if_neg (by omega), sI1, if_neg (by omega), e3 _ _ (by omega) (by omega)]; exact x5 k hk hL
          · rw [sI1, if_neg (by omega), sI1, if_neg (by omega), sI1, if_neg (by omega), e3 _ _ (by omega) (by omega)]; exact x6 t ht
          · rw [sI1, if_neg (by omega), sI1, if_neg (by omega), sI1, if_neg (by omega), e3 _ _ (by omega) (by omega)]; exact x7
          · rw [sI1, if_neg (by omega), sI1, if_neg (by omega), sI1, if_neg (by omega), e3 _ _ (by omega) (by omega)]; exact x8
        · obtain ⟨h1, h2, h3, h4, h5, h6', h7, h8, h9, hx⟩ := hm3
          have eM : ∀ c j, ¬ (c = 0 ∧ 18 ≤ j ∧ j ≤ 21) → ¬ (c = 2 ∧ j = 7) → ¬ ((c = 3 ∨ c = 4 ∨ c = 5) ∧ j = 6 + N 0 0) → (sI (sI M5 5 (6 + N 0 0) (nI (tV b n (i + 1 + 1 + 1)))) 2 7 (nI (N 0 0 + 1))).1 c j = M3.1 c j := by
            intro c j a1 a2 a3
            rw [sI1, if_neg (by omega), sI1, if_neg (by omega), u4e c j a1, g3e c j a1, sI1, if_neg (by omega), sI1, if_neg (by omega)]
          refine ⟨tkA_s (tkA_s u3 (by omega)) (by omega), by rw [eM _ _ (by omega) (by omega) (by omega)]; exact h2, by rw [eM _ _ (by omega) (by omega) (by omega)]; exact h3, by rw [eM _ _ (by omega) (by omega) (by omega)]; exact h4, by rw [eM _ _ (by omega) (by omega) (by omega)]; exact h5, TM_nurse h6' (fun c j a1 a2 a3 a4 => eM c j (by omega) a3 a4) ?_ ?_ ?_ ?_, fun s hs => by rw [eM _ _ (by omega) (by omega) (by omega)]; exact h7 s hs, fun k hk => by rw [eM _ _ (by omega) (by omega) (by omega)]; exact h8 k hk, by rw [eM _ _ (by omega) (by omega) (by omega)]; exact h9, fun q hq l hL => by rw [eM _ _ (by omega) (by omega) (by omega)]; exact hx q hq l hL⟩
          · rw [sI1, if_pos ⟨rfl, rfl⟩]
          · rw [sI1, if_neg (by omega), sI1, if_neg (by omega), u4e _ _ (by omega), g3e _ _ (by omega), sI1, if_neg (by omega), sI1, if_pos ⟨rfl, rfl⟩]
          · rw [sI1, if_neg (by omega), sI1, if_neg (by omega), u4e _ _ (by omega), g3e _ _ (by omega), sI1, if_pos ⟨rfl, rfl⟩]
          · rw [sI1, if_neg (by omega), sI1, if_pos ⟨rfl, rfl⟩]
      · have hR := readNum_w (a1 := 11) (n1 := 6) (v2 := nI (N 0 0)) ht3 hn hb2 h53 him3 (by omega : (9 : Nat) ≤ 99999) (by omega) v
        have hN := numeral_w g2 g22 hb2 (by omega) (by omega : (9 : Nat) ≤ 99999) v
        rw [hN, bnd_some, wrN (by omega) (by omega), Option.bind_some, fr0, bnd_some, rd0, Option.bind_some] at hNL
        rw [hR, bnd_some, if_pos rfl, bnd_some, if_pos o0] at hd
        rw [hNL, Option.bind_some] at hM
        refine ⟨_, hM, mR_tr fM4 (mR_s (mR_s (mR_s (mR_s (mR_rf M4) (by unfold rM; omega)) (by unfold rM; omega)) (by unfold rM; omega)) (by unfold rM; omega)), Or.inr ⟨_, hd, cR_s (cR_s fC3 (by omega)) (by omega), ?_, ?_, ?_⟩⟩
        · simp only [sI1]; simp
        · simp only [sI1]; simp
        · simp only [sI1]; simp
          split <;> decide
    · obtain ⟨C4, M4, q1, q2, q3, q4, q5⟩ := fl_at (f := 1) hn ht2 h52 him2 tA t22 (by omega) (by omega)
      have q1 : f_X4_wrong 1 _ = some (0, C4) := q1
      have q2 : f_X10_wrong 1 _ = some M4 := q2
      have g53 : f_X10_nurseLine_53 (nI (6 + N 0 0)) (sI M3 3 (6 + N 0 0) (nI (tV b n (i + 1)))) = f_X10_nurseLine_58 (nI (6 + N 0 0)) M4 := by
        unfold f_X10_nurseLine_53
        rw [q2, Option.bind_some]
      obtain ⟨M6, w1, w2, w3, w4⟩ := l58_i (k := N 0 0) hnn q3.2.2
      have hNL : f_X10_nurseLine (nI (6 + N 0 0)) M2 = some M6 := by
        rw [hNL, g53, w1]
        by_cases kw : 17 ≤ tK b n (i + 1 + 1)
        · have sv := side_v (tK b n (i + 1 + 1) - 17) (by omega)
          have sv' := sv.mpr (by omega)
          rw [if_pos ((sort_M tA).2.1.mpr kw), val_w tA kw]
          by_cases p : nI (rfJ (tK b n (i + 1 + 1) - 17)) < 7
          · rw [if_pos p]
          · rw [if_neg p, if_neg (by rcases sv' with q | q; exact absurd q p; exact q)]
        · rw [if_neg (fun q => kw ((sort_M tA).2.1.mp q))]
      rw [if_neg (show ¬ nI (tK b n (i + 1 + 1)) = 34 from fun e => x (Or.inl ((nI_eq (b := 34) (by omega) (by omega)).mp e))), kd2, bnd_some, if_neg (show ¬ nI (tK b n (i + 1 + 1)) = 35 from fun e => x (Or.inr ((nI_eq (b := 35) (by omega) (by omega)).mp e))), bw q1 o0, bnd_some, if_pos o0] at hd
      rw [hNL, Option.bind_some] at hM
      exact ⟨M6, hM, mR_tr fM (mR_tr q5 w2), Or.inr ⟨C4, hd, cR_tr fC q4, FL_to q3 w3 w4⟩⟩
  · obtain ⟨C1, M1, q1, q2, q3, q4, q5⟩ := fl_at (f := 1) hn hc1.1 hc1.2.1 hc1.2.2.1 r2.1 r2.2.1 (by omega) (by omega)
    obtain ⟨C3, M3, p1, p2, p3, p4, p5⟩ := fl_at (f := 3) hn hc1.1 hc1.2.1 hc1.2.2.1 r2.1 r2.2.1 (by omega) (by omega)
    have cc := nc2 y C1 C3 q1 p1
    have mm := nm2 (fun z => y ⟨z.1, same.mpr z.2⟩) M1 M3 q2 p2 q3.2.2 p3.2.2
    have key : ∀ C4 M4, f_X4_readNewName 9 6 (nI (N 0 0)) (sI C 3 5 (nI (i + 1))) = some (0, C4) → f_X10_fresh 3 12 (nI 6) (nI (N 0 0)) M2 = some (0, M4) → FL C4 M4 → cR (sI C 3 5 (nI (i + 1))) C4 → mR M2 M4 → lnR C M b n m i ln := by
      intro C4 M4 a1 a2 a3 a4 a5
      rw [a2, bnd_some, wrN (by omega) (by omega), Option.bind_some] at hNL
      have t22 : (sI M4 3 (6 + N 0 0) 0).1 0 22 ≠ 0 := by rw [sI1, if_neg (by omega)]; exact a3.2.2
      obtain ⟨M6, w1, w2, w3, w4⟩ := l58_i (k := N 0 0) hnn t22
      rw [if_neg t22, w1] at hNL
      rw [a1, bnd_some, if_pos rfl, bnd_some, if_pos o0] at hd
      refine ⟨M6, by rw [hM, hNL, Option.bind_some], mR_tr r3 (mR_tr a5 (mR_tr (mR_s (mR_rf M4) (by unfold rM; omega)) w2)), Or.inr ⟨C4, hd, cR_tr (cR_s (cR_rf C) (by omega)) a4, FL_to a3 ?_ ?_⟩⟩
      · rw [w3, sI1, if_neg (by omega)]
      · rw [w4, sI1, if_neg (by omega)]
    by_cases z : tK b n (i + 1) = 3
    · rw [if_pos z] at cc mm
      exact key C3 M3 cc mm p3 p4 p5
    · rw [if_neg z] at cc mm
      exact key C1 M1 cc mm q3 q4 q5
end LINO
