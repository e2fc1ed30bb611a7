/-! PURE 64: the text: a doll's line -/
section LINE
variable {C C' M M' S S' : Mem} {b : Nat → Nat} {n m i kn ln f w s : Nat} {N : TN} {T : WS} {L : LWS} {mk : Nat → Bool}
theorem ln_doll (hb2 : ∀ i, i < n → b i < 256) (hn : n ≤ 700) (hc : RSc C b n m i N T L mk) (hm : RSm M b n i N T L mk kn ln) (hI : RSp N T L kn) (hk : tK b n i = 28) : lnR C M b n m i ln := by
  obtain ⟨e1, e2⟩ := kd_C hb2 hc hn
  have him := lt_m hc.1 hc.2.2.1 (by show tK b n i ≠ 0; omega)
  obtain ⟨c80, c81, c82⟩ := RSc_00 hc
  have h6 := hI.1.1
  have h10 := hI.1.2.1
  have hd : f_X4_readLine C = (bnd (f_X4_readDoll C) fun r22 S22 => if okz r22 = true then some (r22, S22) else none) := by
    unfold f_X4_readLine
    rw [e1, bnd_some, hk, if_pos (by decide)]
    unfold f_X4_readLine_26
    rw [if_neg (by decide), if_pos (by decide)]
  have hM := head_M (w := 1) hm hI (by omega) (by omega)
  by_cases full : N 0 1 = 10
  · rw [if_pos (Or.inr ⟨rfl, full⟩)] at hM
    obtain ⟨C1, M1, q1, q2, q3, q4, q5⟩ := fl_at (f := 2) hn hc.1 hc.2.1 hc.2.2.1 hm.1 hm.2.1 (by omega) (by omega)
    have q1 : f_X4_wrong 2 C = some (0, C1) := q1
    have q2 : f_X10_wrong 2 M = some M1 := q2
    refine ⟨M1, ?_, q5, Or.inr ⟨C1, ?_, q4, q3⟩⟩
    · rw [hM, q2, Option.bind_some, l70_i q3.2.2, l226_i q3.2.2]
    · rw [hd]
      refine bw ?_ o0
      unfold f_X4_readDoll
      rw [c81, full, if_neg (by decide)]
      exact bw q1 o0
  have hdd : N 0 1 < 10 := by omega
  rw [if_neg (by omega), if_neg (by omega)] at hM
  obtain ⟨M2, r1, r2, r3⟩ := l70_M (w := 1) hm hb2 hn (by omega)
  have r2 : RSm M2 b n (i + 1) N T L mk kn ln := RSm_mk r2 (fun s hs => by rw [show decide (2 + s = 1) = false from decide_eq_false (by omega), Bool.or_false])
  have fr0 : ∀ Q : Mem, f_X10_fresher 0 Q = some (Q.1 2 7, Q) := fun Q => fresh_k (k := 0) (by omega)
  have fr1 : ∀ Q : Mem, f_X10_fresher 1 Q = some (Q.1 2 8, Q) := fun Q => fresh_k (k := 1) (by omega)
  have rd1 : ∀ (Q : Mem) v, f_X10_reads 1 v Q = some (sI Q 2 8 v) := fun Q v => reads_k (k := 1) (by omega) v
  obtain ⟨m7, m8, m13⟩ := RSm_00 r2
  have hM : f_X10_line M = (f_X10_dollLine (nI (10 + N 0 1)) M2).bind fun S => f_X10_line_226 S := by
    rw [hM]
    unfold f_X10_line_70
    rw [if_pos hm.2.1, nxt_eq, r1, Option.bind_some, if_neg (by decide), if_pos (by decide), fr1, bnd_some, m8, show (10 : Int32) + nI (N 0 1) = nI (10 + N 0 1) from nI_add 10 _]
  have hc1 := RSc_n hc (i' := i + 1) him
  have hd : f_X4_readLine C = (bnd (bnd (f_X4_readNewName 12 10 (nI (N 0 1)) (sI C 3 5 (nI (i + 1)))) fun r39 S39 =>
      if r39 = 0 then
      (some ((0 : Int32), S39))
      else
      (bnd (f_X4_kind S39) fun r48 S48 =>
      if r48 = (3 : Int32) then
      (bnd (f_X4_value S48) fun r62 S62 =>
      bnd (f_X9_placeOf 9 6 r62 (S62.1 8 0) S62) fun r79 S79 =>
      if 0 ≤ r79 then
      (nxt (sI S79 3 5 ((S79.1 3 5) + (1 : Int32))) fun S100 =>
      bnd (f_X4_readNumber 15 10 (nI (N 0 1)) (0 : Int32) (9 : Int32) S100) fun r115 S115 =>
      if r115 = 0 then
      (some ((0 : Int32), S115))
      else
      (bnd (f_X4_readNumber 16 10 (nI (N 0 1)) (0 : Int32) (99 : Int32) S115) fun r133 S133 =>
      if r133 = 0 then
      (some ((0 : Int32), S133))
      else
      ((f_X7_addDoll 8 r79 S133).bind fun S146 =>
      some ((1 : Int32), S146))))
      else
      (bnd (f_X4_wrong (4 : Int32) S79) fun r89 S89 =>
      if okz r89 = true then some (r89, S89) else none))
      else
      (bnd (f_X4_wrong (1 : Int32) S48) fun r57 S57 =>
      if okz r57 = true then some (r57, S57) else none))) fun r22 S22 => if okz r22 = true then some (r22, S22) else none) := by
    rw [hd]
    unfold f_X4_readDoll
    rw [c81, if_pos (show nI (N 0 1) < 10 from (nI_lt (b := 10) hdd (by omega))), nxt_eq, hc.2.1, nI_1]
  obtain ⟨nc1, nc2⟩ := newN_C (a := 12) (n1 := 10) (k := N 0 1) hb2 hn hc1.1 hc1.2.1 hc1.2.2.1 hdd (by omega) (by omega)
  obtain ⟨nm1, nm2⟩ := newN_M (a := 6) (n1 := 20) (o := 10) (k := N 0 1) hb2 hn r2.1 r2.2.1 (by omega) (by omega)
  have same : (nmN ((sI C 3 5 (nI (i + 1))).1 12) (N 0 1) (nI (tV b n (i + 1)))) ↔ (nmN (fun j => M2.1 6 (10 + j)) (N 0 1) (nI (tV b n (i + 1)))) :=
    nmN_c (fun j hj => ((hc1.2.2.2.1.2.2.2.2.1 j hj).1).trans ((r2.2.2.2.2.2.1.2.2.2.2.1 j hj).1).symm)
  have hNL : f_X10_dollLine (nI (10 + N 0 1)) M2 = bnd (f_X10_fresh 6 20 (nI 10) (nI (N 0 1)) M2) fun r17 S17 => (wr S17 6 20 (nI (10 + N 0 1)) r17).bind fun S20 =>
      if (S20.1 0 22) = 0 then
      (if (S20.1 0 20) = (1 : Int32) then
      (f_X10_dollLine_41 (nI (10 + N 0 1)) S20)
      else
      ((f_X10_wrong (1 : Int32) S20).bind fun S38 =>
      f_X10_dollLine_41 (nI (10 + N 0 1)) S38))
      else
      (f_X10_dollLine_41 (nI (10 + N 0 1)) S20) := by
    unfold f_X10_dollLine
    rw [fr1, bnd_some, m8]
    rfl
  by_cases y : tK b n (i + 1) = 3 ∧ nmN ((sI C 3 5 (nI (i + 1))).1 12) (N 0 1) (nI (tV b n (i + 1)))
  · obtain ⟨him1, cc⟩ := nc1 y
    obtain ⟨M3, s1, s2, s3⟩ := nm1 ⟨y.1, same.mp y.2⟩
    have hm3 := RSm_q r2 s3 s2
    rw [cc, bnd_some, if_neg (by decide)] at hd
    rw [s1, bnd_some, wrN (by omega) (by omega), Option.bind_some] at hNL
    generalize hQ3 : sI M3 6 (10 + N 0 1) (nI (tV b n (i + 1))) = Q3 at hNL
    have q3e : ∀ c j, ¬ (c = 6 ∧ j = 10 + N 0 1) → Q3.1 c j = M3.1 c j := fun c j a => by rw [← hQ3, sI1, if_neg a]
    have q36 : Q3.1 6 (10 + N 0 1) = nI (tV b n (i + 1)) := by rw [← hQ3, sI1, if_pos ⟨rfl, rfl⟩]
    have t22 : Q3.1 0 22 = 0 := by rw [q3e 0 22 (by omega)]; exact hm3.2.1
    have tA : tkA Q3 b n (i + 1 + 1) := by rw [← hQ3]; exact tkA_s s2 (by omega)
    rw [if_pos t22] at hNL
    generalize hC2 : sI (sI (sI C 3 5 (nI (i + 1))) 12 (N 0 1) (nI (tV b n (i + 1)))) 3 5 (nI (i + 1 + 1)) = C2 at hd
    have ht2 : tkC C2 b n m := by rw [← hC2]; exact tkC_to hc.1 (fun c j hc => by simp only [sI1]; grind)
    have h52 : C2.1 3 5 = nI (i + 1 + 1) := by rw [← hC2, sI1, if_pos ⟨rfl, rfl⟩]
    have c2e : ∀ c j, ¬ (c = 3 ∧ j = 5) → ¬ (c = 12 ∧ j = N 0 1) → C2.1 c j = C.1 c j := fun c j a1 a2 => by
      rw [← hC2, sI1, if_neg a1, sI1, if_neg a2, sI1, if_neg a1]
    have c212 : C2.1 12 (N 0 1) = nI (tV b n (i + 1)) := by rw [← hC2, sI1, if_neg (by omega), sI1, if_pos ⟨rfl, rfl⟩]
    have him2 : i + 1 + 1 ≤ m := him1
    have kd2 : f_X4_kind C2 = some (nI (tK b n (i + 1 + 1)), C2) := kindR_C ht2 hn h52 him2
    have hkb := tK_b hb2 (i + 1 + 1)
    have fC : cR C C2 := by rw [← hC2]; exact cR_s (cR_s (cR_s (cR_rf C) (by omega)) (by omega)) (by omega)
    have fM : mR M Q3 := by rw [← hQ3]; exact mR_tr r3 (mR_tr (mR_q s3) (mR_s (mR_rf M3) (by unfold rM; omega)))
    rw [kd2, bnd_some] at hd
    by_cases x : tK b n (i + 1 + 1) = 3
    · have him3 := lt_m ht2 him2 (by show tK b n (i + 1 + 1) ≠ 0; omega)
      have vl2 : f_X4_value C2 = some (nI (tV b n (i + 1 + 1)), C2) := valR_C ht2 hn h52 him3
      have hv : Q3.1 0 21 = nI (tV b n (i + 1 + 1)) := (tA.2.2.2.2.2.2.1 x).2
      have c280 : C2.1 8 0 = nI (N 0 0) := by rw [c2e 8 0 (by omega) (by omega)]; exact c80
      have q37 : Q3.1 2 7 = nI (N 0 0) := by rw [q3e 2 7 (by omega)]; exact (RSm_00 hm3).1
      obtain ⟨⟨rr, S1⟩, pc1, pc2, pc3⟩ := place_C (S := C2) (a := 9) (m := 6) (n := N 0 0) (by omega) (by omega) (nI (tV b n (i + 1 + 1)))
      have pc3 : S1 = C2 := pc3
      subst pc3
      obtain ⟨⟨rm, S2⟩, pm1, pm2, pm3⟩ := found_M (S := Q3) (a := 3) (m := 12) (n := N 0 0) (o := 6) (by omega) (by omega) (nI (tV b n (i + 1 + 1)))
      have pm3 : S2 = Q3 := pm3
      subst pm3
      have e9 : ∀ j, j < N 0 0 → S1.1 9 j = S2.1 3 (6 + j) := fun j hj => by
        rw [c2e 9 j (by omega) (by omega), q3e 3 _ (by omega)]
        exact ((hc.2.2.2.1.2.2.2.1 j hj).1).trans ((hm3.2.2.2.2.2.1.2.2.2.1 j hj).1).symm
      have er : rm = rr := isPl_u pm2 (isPl_f e9 pc2)
      subst er
      have hNL : f_X10_dollLine (nI (10 + N 0 1)) M2 = f_X10_dollLine_70 (nI (10 + N 0 1)) rm S2 := by
        rw [hNL, if_pos ((sort_M tA).2.2.2.1.mpr x)]
        unfold f_X10_dollLine_41
        rw [if_pos t22, fr0, bnd_some, q37, hv, show f_X10_found 3 12 6 (nI (N 0 0)) (nI (tV b n (i + 1 + 1))) S2 = some (rm, S2) from pm1, bnd_some]
      rw [x, if_pos (show nI 3 = (3 : Int32) from rfl), vl2, bnd_some, c280, pc1, bnd_some] at hd
      unfold f_X10_dollLine_70 at hNL
      rw [if_pos t22] at hNL
      rcases pc2 with ⟨j, hj, pj, -, erj⟩ | ⟨pj, erj⟩
      · have erj : rm = nI j := erj
        rw [erj, if_neg (show ¬ nI j = -1 from fun e => by
          have : ¬ nI j < 0 := Int32.not_lt.mpr (nI_le (a := 0) (by omega) (by omega))
          exact this (by rw [e]; decide))] at hNL
        rw [erj, if_pos (show 0 ≤ nI j from nI_le (a := 0) (by omega) (by omega)), nxt_eq, h52, nI_1] at hd
        unfold f_X10_dollLine_88 at hNL
        obtain ⟨M4, g1, g2, g3⟩ := goOn_M tA t22 hb2 hn
        have g3e : ∀ c j, ¬ (c = 0 ∧ 18 ≤ j ∧ j ≤ 21) → M4.1 c j = S2.1 c j := g3
        rw [g1, Option.bind_some, wrN (by omega) (by omega), Option.bind_some] at hNL
        generalize hQ4 : sI M4 7 (10 + N 0 1) (nI j) = Q4 at hNL
        have q4e : ∀ c k, ¬ (c = 7 ∧ k = 10 + N 0 1) → Q4.1 c k = M4.1 c k := fun c k a => by rw [← hQ4, sI1, if_neg a]
        have q47 : Q4.1 7 (10 + N 0 1) = nI j := by rw [← hQ4, sI1, if_pos ⟨rfl, rfl⟩]
        have tA4 : tkA Q4 b n (i + 1 + 1 + 1) := by rw [← hQ4]; exact tkA_s g2 (by omega)
        have t224 : Q4.1 0 22 = 0 := by rw [q4e _ _ (by omega), g3e _ _ (by omega)]; exact t22
        have fM4 : mR M Q4 := by rw [← hQ4]; exact mR_tr fM (mR_tr (mR_q g3) (mR_s (mR_rf M4) (by unfold rM; omega)))
        generalize hC3 : sI S1 3 5 (nI (i + 1 + 1 + 1)) = C3 at hd
        have ht3 : tkC C3 b n m := by rw [← hC3]; exact tkC_to ht2 (fun c j hc => by rw [sI1, if_neg (by omega)])
        have h53 : C3.1 3 5 = nI (i + 1 + 1 + 1) := by rw [← hC3, sI1, if_pos ⟨rfl, rfl⟩]
        have c3e : ∀ c k, ¬ (c = 3 ∧ k = 5) → C3.1 c k = S1.1 c k := fun c k a => by rw [← hC3, sI1, if_neg a]
        have fC3 : cR C C3 := by rw [← hC3]; exact cR_s fC (by omega)
        have hNu : f_X10_numeral 0 9 = f_X10_numeral (nI 0) (nI 9) := rfl
        have hNv : f_X10_numeral 0 99 = f_X10_numeral (nI 0) (nI 99) := rfl
        have hRn : ∀ Q, f_X4_readNumber 15 10 (nI (N 0 1)) 0 9 Q = f_X4_readNumber 15 10 (nI (N 0 1)) (nI 0) (nI 9) Q := fun _ => rfl
        have hRv : ∀ Q, f_X4_readNumber 16 10 (nI (N 0 1)) 0 99 Q = f_X4_readNumber 16 10 (nI (N 0 1)) (nI 0) (nI 99) Q := fun _ => rfl
        rw [hNu] at hNL
        rw [hRn] at hd
        by_cases v : numOk b n (ps b n (i + 1 + 1 + 1)) 0 9
        · obtain ⟨⟨rv, M5⟩, u1, u2, u3, u4⟩ := numeral_M tA4 t224 hb2 hn (by omega) (by omega) v
          have u2 : rv = nI (tV b n (i + 1 + 1 + 1)) := u2
          have u3 : tkA M5 b n (i + 1 + 1 + 1 + 1) := u3
          have u4 : frQ Q4 M5 := u4
          have u4e : ∀ c j, ¬ (c = 0 ∧ 18 ≤ j ∧ j ≤ 21) → M5.1 c j = Q4.1 c j := u4
          have hR := readNum_C ht3 hn hb2 h53 him3 hdd (by omega) (by omega : (15 : Nat) ≠ 3) (by omega : (9 : Nat) ≤ 99999) (by omega) v
          have him4 := lt_m ht3 him3 (by show tkd b n (ps b n (i + 1 + 1 + 1)) ≠ 0; rw [v.1]; decide)
          rw [u1, bnd_some, wrN (by omega) (by omega), Option.bind_some, u2] at hNL
          rw [hR, bnd_some, if_neg (by decide)] at hd
          generalize hQ5 : sI M5 8 (10 + N 0 1) (nI (tV b n (i + 1 + 1 + 1))) = Q5 at hNL
          have q5e : ∀ c k, ¬ (c = 8 ∧ k = 10 + N 0 1) → Q5.1 c k = M5.1 c k := fun c k a => by rw [← hQ5, sI1, if_neg a]
          have q58 : Q5.1 8 (10 + N 0 1) = nI (tV b n (i + 1 + 1 + 1)) := by rw [← hQ5, sI1, if_pos ⟨rfl, rfl⟩]
          have tA5 : tkA Q5 b n (i + 1 + 1 + 1 + 1) := by rw [← hQ5]; exact tkA_s u3 (by omega)
          have t225 : Q5.1 0 22 = 0 := by rw [q5e _ _ (by omega), u4e _ _ (by omega)]; exact t224
          have fM5 : mR M Q5 := by rw [← hQ5]; exact mR_tr fM4 (mR_tr (mR_q u4) (mR_s (mR_rf M5) (by unfold rM; omega)))
          generalize hC4 : sI (sI C3 15 (N 0 1) (nI (tvC b n (ps b n (i + 1 + 1 + 1))))) 3 5 (nI (i + 1 + 1 + 1 + 1)) = C4 at hd
          have ht4 : tkC C4 b n m := by rw [← hC4]; exact tkC_to ht3 (fun c j hc => by rw [sI1, if_neg (by omega), sI1, if_neg (by omega)])
          have h54 : C4.1 3 5 = nI (i + 1 + 1 + 1 + 1) := by rw [← hC4, sI1, if_pos ⟨rfl, rfl⟩]
          have c4e : ∀ c k, ¬ (c = 3 ∧ k = 5) → ¬ (c = 15 ∧ k = N 0 1) → C4.1 c k = C3.1 c k := fun c k a1 a2 => by rw [← hC4, sI1, if_neg a1, sI1, if_neg a2]
          have c415 : C4.1 15 (N 0 1) = nI (tV b n (i + 1 + 1 + 1)) := by rw [← hC4, sI1, if_neg (by omega), sI1, if_pos ⟨rfl, rfl⟩]; rfl
          have fC4 : cR C C4 := by rw [← hC4]; exact cR_s (cR_s fC3 (by omega)) (by omega)
          rw [hNv] at hNL
          rw [hRv] at hd
          by_cases v2 : numOk b n (ps b n (i + 1 + 1 + 1 + 1)) 0 99
          · obtain ⟨⟨rv2, M6⟩, w1, w2, w3, w4⟩ := numeral_M tA5 t225 hb2 hn (by omega) (by omega) v2
            have w2 : rv2 = nI (tV b n (i + 1 + 1 + 1 + 1)) := w2
            have w3 : tkA M6 b n (i + 1 + 1 + 1 + 1 + 1) := w3
            have w4 : frQ Q5 M6 := w4
            have w4e : ∀ c j, ¬ (c = 0 ∧ 18 ≤ j ∧ j ≤ 21) → M6.1 c j = Q5.1 c j := w4
            have hR2 := readNum_C ht4 hn hb2 h54 him4 hdd (by omega) (by omega : (16 : Nat) ≠ 3) (by omega : (99 : Nat) ≤ 99999) (by omega) v2
            have him5 := lt_m ht4 him4 (by show tkd b n (ps b n (i + 1 + 1 + 1 + 1)) ≠ 0; rw [v2.1]; decide)
            rw [w1, bnd_some, wrN (by omega) (by omega), Option.bind_some, fr1, bnd_some, rd1, Option.bind_some, w2] at hNL
            rw [hR2, bnd_some, if_neg (by decide)] at hd
            have mAll : ∀ c k, ¬ (c = 0 ∧ 18 ≤ k ∧ k ≤ 21) → ¬ ((6 ≤ c ∧ c ≤ 9) ∧ k = 10 + N 0 1) → M6.1 c k = M3.1 c k := fun c k a1 a2 => by
              rw [w4e c k a1, q5e c k (by omega), u4e c k a1, q4e c k (by omega), g3e c k a1, q3e c k (by omega)]
            have m28 : (sI M6 9 (10 + N 0 1) (nI (tV b n (i + 1 + 1 + 1 + 1)))).1 2 8 = nI (N 0 1) := by
              rw [sI1, if_neg (by omega), mAll 2 8 (by omega) (by omega)]; exact (RSm_00 hm3).2.1
            rw [m28, nI_1] at hNL
            rw [hNL, Option.bind_some] at hM
            generalize hC5 : sI (sI C4 16 (N 0 1) (nI (tvC b n (ps b n (i + 1 + 1 + 1 + 1))))) 3 5 (nI (i + 1 + 1 + 1 + 1 + 1)) = C5 at hd
            have c5e : ∀ c k, ¬ (c = 3 ∧ k = 5) → ¬ (c = 16 ∧ k = N 0 1) → C5.1 c k = C4.1 c k := fun c k a1 a2 => by rw [← hC5, sI1, if_neg a1, sI1, if_neg a2]
            have c516 : C5.1 16 (N 0 1) = nI (tV b n (i + 1 + 1 + 1 + 1)) := by rw [← hC5, sI1, if_neg (by omega), sI1, if_pos ⟨rfl, rfl⟩]; rfl
            have cAll : ∀ c k, ¬ (c = 3 ∧ k = 5) → ¬ ((12 ≤ c ∧ c ≤ 16) ∧ k = N 0 1) → C5.1 c k = C.1 c k := fun c k a1 a2 => by
              rw [c5e c k a1 (by omega), c4e c k a1 (by omega), c3e c k a1, c2e c k a1 (by omega)]
            have h55 : C5.1 3 5 = nI (i + 1 + 1 + 1 + 1 + 1) := by rw [← hC5, sI1, if_pos ⟨rfl, rfl⟩]
            have ht5 : tkC C5 b n m := by rw [← hC5]; exact tkC_to ht4 (fun c j hc => by rw [sI1, if_neg (by omega), sI1, if_neg (by omega)])
            have fC5 : cR C C5 := by rw [← hC5]; exact cR_s (cR_s fC4 (by omega)) (by omega)
            have n2j := (hI.1.2.2.1 j hj).1
            have hAD := addD_C (S := C5) (d := N 0 1) (s := N 2 j) (j := j) (by rw [cAll 8 1 (by omega) (by omega)]; exact c81) hdd (by omega) (by rw [cAll 10 j (by omega) (by omega)]; exact (hc.2.2.2.1.2.2.2.1 j hj).2.1) n2j
            rw [hAD, Option.bind_some, bnd_some, if_pos o1] at hd
            have hlo : tV b n (i + 1 + 1 + 1) ≤ 9 := v.2.2
            have hwo : tV b n (i + 1 + 1 + 1 + 1) ≤ 99 := v2.2.2
            refine ⟨_, hM, mR_tr fM5 (mR_tr (mR_q w4) (mR_s (mR_s (mR_rf M6) (by unfold rM; omega)) (by unfold rM; omega))), Or.inl ⟨_, i + 1 + 1 + 1 + 1 + 1, NdU N j, TdU N T (nI (tV b n (i + 1))) (nI (tV b n (i + 1 + 1 + 1))) (nI (tV b n (i + 1 + 1 + 1 + 1))), L, mk, kn, hd, cR_s (cR_s (cR_s (cR_s fC5 (by omega)) (by omega)) (by omega)) (by omega), ?_, ?_, RSp_doll hI hdd hj hlo hwo, by omega⟩⟩
            · obtain ⟨x1, x2, x3, x4, x5, x6, x7, x8⟩ := hc
              have cF : ∀ c k, ¬ (c = 8 ∧ k = 1) → ¬ ((c = 13 ∨ c = 14) ∧ k = N 0 1) → c ≠ 17 → (sI (sI (sI (sI C5 13 (N 0 1) (nI j)) 14 (N 0 1) (nI (1 - N 2 j))) 17 (1 - N 2 j) (C5.1 17 (1 - N 2 j) ||| ((1 : Int32) <<< (nI (N 0 1) &&& 31)))) 8 1 (nI (N 0 1 + 1))).1 c k = C5.1 c k := fun c k a1 a2 a3 => by
                rw [sI1, if_neg a1, sI1, if_neg (by omega), sI1, if_neg (by omega), sI1, if_neg (by omega)]
              refine ⟨tkC_to ht5 (fun c k hc => cF c k (by omega) (by omega) (by omega)), ?_, him5, TC_doll x4 hI.1 n2j hdd (fun c k a1 a2 a3 a4 a5 => ?_) ?_ ?_ ?_ ?_ ?_ ?_ ?_ (fun c hc => ?_), fun k hk hL => ?_, fun t ht => ?_, ?_, ?_⟩
              · rw [cF _ _ (by omega) (by omega) (by omega)]; exact h55
              · rw [cF _ _ (by omega) (by omega) (by omega)]; exact cAll c k (by omega) (by omega)
              · rw [sI1, if_pos ⟨rfl, rfl⟩]
              · rw [cF _ _ (by omega) (by omega) (by omega), c5e _ _ (by omega) (by omega), c4e _ _ (by omega) (by omega), c3e _ _ (by omega)]; exact c212
              · rw [sI1, if_neg (by omega), sI1, if_neg (by omega), sI1, if_neg (by omega), sI1, if_pos ⟨rfl, rfl⟩]
              · rw [sI1, if_neg (by omega), sI1, if_neg (by omega), sI1, if_pos ⟨rfl, rfl⟩]
              · rw [cF _ _ (by omega) (by omega) (by omega), c5e _ _ (by omega) (by omega)]; exact c415
              · rw [cF _ _ (by omega) (by omega) (by omega)]; exact c516
              · rw [sI1, if_neg (by omega), sI1, if_pos ⟨rfl, rfl⟩, cAll _ _ (by omega) (by omega)]
              · rw [sI1, if_neg (by omega), sI1, if_neg (by omega), sI1, if_neg (by omega), sI1, if_neg (by omega), cAll _ _ (by omega) (by omega)]
              · rw [cF _ _ (by omega) (by omega) (by omega), cAll _ _ (by omega) (by omega)]; exact x5 k hk hL
              · rw [cF _ _ (by omega) (by omega) (by omega), cAll _ _ (by omega) (by omega)]; exact x6 t ht
              · rw [cF _ _ (by omega) (by omega) (by omega), cAll _ _ (by omega) (by omega)]; exact x7
              · rw [cF _ _ (by omega) (by omega) (by omega), cAll _ _ (by omega) (by omega)]; exact x8
            · obtain ⟨h1, h2, h3, h4, h5, h6', h7, h8, h9, hx⟩ := hm3
              have eM : ∀ c k, ¬ (c = 0 ∧ 18 ≤ k ∧ k ≤ 21) → ¬ (c = 2 ∧ k = 8) → ¬ ((6 ≤ c ∧ c ≤ 9) ∧ k = 10 + N 0 1) → (sI (sI M6 9 (10 + N 0 1) (nI (tV b n (i + 1 + 1 + 1 + 1)))) 2 8 (nI (N 0 1 + 1))).1 c k = M3.1 c k := by
                intro c k a1 a2 a3
                rw [sI1, if_neg (by omega), sI1, if_neg (by omega), mAll c k a1 a3]
              refine ⟨tkA_s (tkA_s w3 (by omega)) (by omega), by rw [eM _ _ (by omega) (by omega) (by omega)]; exact h2, by rw [eM _ _ (by omega) (by omega) (by omega)]; exact h3, by rw [eM _ _ (by omega) (by omega) (by omega)]; exact h4, by rw [eM _ _ (by omega) (by omega) (by omega)]; exact h5, TM_doll h6' (fun c j a1 a2 a3 a4 => eM c j (by omega) a3 a4) ?_ ?_ ?_ ?_ ?_, fun s hs => by rw [eM _ _ (by omega) (by omega) (by omega)]; exact h7 s hs, fun k hk => by rw [eM _ _ (by omega) (by omega) (by omega)]; exact h8 k hk, by rw [eM _ _ (by omega) (by omega) (by omega)]; exact h9, fun q hq l hL => by rw [eM _ _ (by omega) (by omega) (by omega)]; exact hx q hq l hL⟩
              · rw [sI1, if_pos ⟨rfl, rfl⟩]
              · rw [sI1, if_neg (by omega), sI1, if_neg (by omega), w4e _ _ (by omega), q5e _ _ (by omega), u4e _ _ (by omega), q4e _ _ (by omega), g3e _ _ (by omega)]; exact q36
              · rw [sI1, if_neg (by omega), sI1, if_neg (by omega), w4e _ _ (by omega), q5e _ _ (by omega), u4e _ _ (by omega)]; exact q47
              · rw [sI1, if_neg (by omega), sI1, if_neg (by omega), w4e _ _ (by omega)]; exact q58
              · rw [sI1, if_neg (by omega), sI1, if_pos ⟨rfl, rfl⟩]
          · have hR2 := readNum_w (a1 := 16) (n1 := 10) (v2 := nI (N 0 1)) ht4 hn hb2 h54 him4 (by omega : (99 : Nat) ≤ 99999) (by omega) v2
            have hN := numeral_w tA5 t225 hb2 (by omega) (by omega : (99 : Nat) ≤ 99999) v2
            rw [hN, bnd_some, wrN (by omega) (by omega), Option.bind_some, fr1, bnd_some, rd1, Option.bind_some] at hNL
            rw [hR2, bnd_some, if_pos rfl, bnd_some, if_pos o0] at hd
            rw [hNL, Option.bind_some] at hM
            refine ⟨_, hM, mR_tr fM5 (mR_s (mR_s (mR_s (mR_s (mR_rf Q5) (by unfold rM; omega)) (by unfold rM; omega)) (by unfold rM; omega)) (by unfold rM; omega)), Or.inr ⟨_, hd, cR_s (cR_s fC4 (by omega)) (by omega), ?_, ?_, ?_⟩⟩
            · simp only [sI1]; simp
            · simp only [sI1]; simp
            · simp only [sI1]; simp
              split <;> decide
        · have hR := readNum_w (a1 := 15) (n1 := 10) (v2 := nI (N 0 1)) ht3 hn hb2 h53 him3 (by omega : (9 : Nat) ≤ 99999) (by omega) v
          have hN := numeral_w tA4 t224 hb2 (by omega) (by omega : (9 : Nat) ≤ 99999) v
          rw [hN, bnd_some, wrN (by omega) (by omega), Option.bind_some] at hNL
          rw [hR, bnd_some, if_pos rfl, bnd_some, if_pos o0] at hd
          have ne : ∀ z : Int32, z ≠ 0 → (sI (sI (sI Q4 0 22 z) 0 23 (nI (ps b n (i + 1 + 1 + 1)))) 8 (10 + N 0 1) (nI 0)).1 0 22 ≠ 0 := by
            intro z hz
            rw [sI1, if_neg (by omega), sI1, if_neg (by omega), sI1, if_pos ⟨rfl, rfl⟩]
            exact hz
          rw [numeral_i (ne _ (by split <;> decide)), bnd_some, wrN (by omega) (by omega), Option.bind_some, fr1, bnd_some, rd1, Option.bind_some] at hNL
          rw [hNL, Option.bind_some] at hM
          refine ⟨_, hM, mR_tr fM4 (mR_s (mR_s (mR_s (mR_s (mR_s (mR_rf Q4) (by unfold rM; omega)) (by unfold rM; omega)) (by unfold rM; omega)) (by unfold rM; omega)) (by unfold rM; omega)), Or.inr ⟨_, hd, cR_s (cR_s fC3 (by omega)) (by omega), ?_, ?_, ?_⟩⟩
          · simp only [sI1]; simp
          · simp only [sI1]; simp
          · simp only [sI1]; simp
            split <;> decide
      · have erj : rm = -1 := erj
        obtain ⟨C4, M4, q1, q2, q3, q4, q5⟩ := fl_at (f := 4) hn ht2 h52 him2 tA t22 (by omega) (by omega)
        have q1 : f_X4_wrong 4 S1 = some (0, C4) := q1
        have q2 : f_X10_wrong 4 S2 = some M4 := q2
        rw [erj, if_pos rfl, q2, Option.bind_some] at hNL
        obtain ⟨M6, w1, w2, w3, w4⟩ := l88_i (k := N 0 1) (v := -1) hdd q3.2.2
        rw [w1] at hNL
        rw [hNL, Option.bind_some] at hM
        rw [erj, if_neg (by decide), bw q1 o0, bnd_some, if_pos o0] at hd
        exact ⟨M6, hM, mR_tr fM (mR_tr q5 w2), Or.inr ⟨C4, hd, cR_tr fC q4, FL_to q3 w3 w4⟩⟩
    · obtain ⟨C4, M4, q1, q2, q3, q4, q5⟩ := fl_at (f := 1) hn ht2 h52 him2 tA t22 (by omega) (by omega)
      have q1 : f_X4_wrong 1 C2 = some (0, C4) := q1
      have q2 : f_X10_wrong 1 Q3 = some M4 := q2
      obtain ⟨M6, w1, w2, w3, w4⟩ := l41_i (k := N 0 1) hdd q3.2.2
      rw [if_neg (fun q => x ((sort_M tA).2.2.2.1.mp q)), q2, Option.bind_some, w1] at hNL
      rw [hNL, Option.bind_some] at hM
      rw [if_neg (show ¬ nI (tK b n (i + 1 + 1)) = 3 from fun e => x ((nI_eq (b := 3) (by omega) (by omega)).mp e)), bw q1 o0, bnd_some, if_pos o0] at hd
      exact ⟨M6, hM, mR_tr fM (mR_tr q5 w2), Or.inr ⟨C4, hd, cR_tr fC q4, FL_to q3 w3 w4⟩⟩
  · obtain ⟨C1, M1, q1, q2, q3, q4, q5⟩ := fl_at (f := 1) hn hc1.1 hc1.2.1 hc1.2.2.1 r2.1 r2.2.1 (by omega) (by omega)
    obtain ⟨C3, M3, p1, p2, p3, p4, p5⟩ := fl_at (f := 3) hn hc1.1 hc1.2.1 hc1.2.2.1 r2.1 r2.2.1 (by omega) (by omega)
    have cc := nc2 y C1 C3 q1 p1
    have mm := nm2 (fun z => y ⟨z.1, same.mpr z.2⟩) M1 M3 q2 p2 q3.2.2 p3.2.2
    have key : ∀ C4 M4, f_X4_readNewName 12 10 (nI (N 0 1)) (sI C 3 5 (nI (i + 1))) = some (0, C4) → f_X10_fresh 6 20 (nI 10) (nI (N 0 1)) M2 = some (0, M4) → FL C4 M4 → cR (sI C 3 5 (nI (i + 1))) C4 → mR M2 M4 → lnR C M b n m i ln := by
      intro C4 M4 a1 a2 a3 a4 a5
      rw [a2, bnd_some, wrN (by omega) (by omega), Option.bind_some] at hNL
      have t22 : (sI M4 6 (10 + N 0 1) 0).1 0 22 ≠ 0 := by rw [sI1, if_neg (by omega)]; exact a3.2.2
      obtain ⟨M6, w1, w2, w3, w4⟩ := l41_i (k := N 0 1) hdd t22
      rw [if_neg t22, w1] at hNL
      rw [a1, bnd_some, if_pos rfl, bnd_some, if_pos o0] at hd
      refine ⟨M6, by rw [hM, hNL, Option.bind_some], mR_tr r3 (mR_tr a5 (mR_tr (mR_s (mR_rf M4) (by unfold rM; omega)) w2)), Or.inr ⟨C4, hd, cR_tr (cR_s (cR_rf C) (by omega)) a4, FL_to a3 ?_ ?_⟩⟩
      · rw [w3, sI1, if_neg (by omega)]
      · rw [w4, sI1, if_neg (by omega)]
    by_cases z : tK b n (i + 1) = 3
    · rw [if_pos z] at cc mm
      exact key C3 M3 cc mm p3 p4 p5
    · rw [if_neg z] at cc mm
      exact key C1 M1 cc mm q3 q4 q5
end LINE
