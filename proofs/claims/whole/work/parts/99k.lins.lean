/-! PURE 60: the text: a line's head; settings -/
section LINS
variable {C C' M M' S S' : Mem} {b : Nat → Nat} {n m i kn ln f w s : Nat} {N : TN} {T : WS} {L : LWS} {mk : Nat → Bool}
theorem fresh_k {k : Nat} (hk : k < 7) : f_X10_fresher (nI k) M = some (M.1 2 (7 + k), M) := by
  unfold f_X10_fresher
  rw [show (7 : Int32) = nI 7 from rfl, nI_add, rdN (by omega) (by omega), Option.bind_some]
theorem reads_k {k : Nat} (hk : k < 7) (v : Int32) : f_X10_reads (nI k) v M = some (sI M 2 (7 + k) v) := by
  unfold f_X10_reads
  rw [show (7 : Int32) = nI 7 from rfl, nI_add, wrN (by omega) (by omega), Option.bind_some]
theorem RSm_00 (h : RSm M b n i N T L mk kn ln) : M.1 2 7 = nI (N 0 0) ∧ M.1 2 8 = nI (N 0 1) ∧ M.1 2 13 = T 9 0 := ⟨h.2.2.2.2.2.1.1, h.2.2.2.2.2.1.2.1, h.2.2.2.2.2.1.2.2.1⟩
theorem RSc_00 (h : RSc C b n m i N T L mk) : C.1 8 0 = nI (N 0 0) ∧ C.1 8 1 = nI (N 0 1) ∧ C.1 8 2 = T 9 0 := ⟨h.2.2.2.1.1, h.2.2.2.1.2.1, h.2.2.2.1.2.2.1⟩
theorem full_M (h : RSm M b n i N T L mk kn ln) (hI : RSp N T L kn) (hw : w < 7) : f_X10_isFull (nI w) M = some (if (w = 0 ∧ N 0 0 = 6) ∨ (w = 1 ∧ N 0 1 = 10) then 1 else 0, M) := by
  obtain ⟨e1, e2, -⟩ := RSm_00 h
  have h6 := hI.1.1
  have h10 := hI.1.2.1
  have z : ∀ v, v < 10 → w ≠ v → nI w ≠ nI v := fun v hv z e => z ((nI_eq (by omega) (by omega)).mp e)
  unfold f_X10_isFull
  by_cases w0 : w = 0
  · subst w0
    have e : f_X10_fresher 0 M = some (M.1 2 7, M) := fresh_k (k := 0) (by omega)
    rw [if_pos (show nI 0 = 0 from rfl), e, bnd_some, e1]
    by_cases y : N 0 0 = 6
    · rw [y, if_pos (show nI 6 = 6 from rfl), if_pos (Or.inl ⟨rfl, rfl⟩)]
    · rw [if_neg (show ¬ nI (N 0 0) = 6 from fun q => y ((nI_eq (b := 6) (by omega) (by omega)).mp q)), if_neg (by omega)]
      unfold f_X10_isFull_14
      rw [if_neg (by decide)]
  · rw [if_neg (show ¬ nI w = 0 from z 0 (by omega) w0)]
    unfold f_X10_isFull_14
    by_cases w1 : w = 1
    · subst w1
      have e : f_X10_fresher 1 M = some (M.1 2 8, M) := fresh_k (k := 1) (by omega)
      rw [if_pos (show nI 1 = 1 from rfl), e, bnd_some, e2]
      by_cases y : N 0 1 = 10
      · rw [y, if_pos (show nI 10 = 10 from rfl), if_pos (Or.inr ⟨rfl, rfl⟩)]
      · rw [if_neg (show ¬ nI (N 0 1) = 10 from fun q => y ((nI_eq (b := 10) (by omega) (by omega)).mp q)), if_neg (by omega)]
    · rw [if_neg (show ¬ nI w = 1 from z 1 (by omega) w1), if_neg (by omega)]
/-- a line's head: the reference -/
theorem head_M (h : RSm M b n i N T L mk kn ln) (hI : RSp N T L kn) (hk : tK b n i = 27 + w) (hw : w < 7) :
    f_X10_line M = if (w = 0 ∧ N 0 0 = 6) ∨ (w = 1 ∧ N 0 1 = 10) then (f_X10_wrong 2 M).bind fun S37 => f_X10_line_70 (nI w) S37
      else if (2 ≤ w ∧ w ≤ 5) ∧ mk (w - 2) = true then (f_X10_wrong 3 M).bind fun S67 => f_X10_line_70 (nI w) S67 else f_X10_line_70 (nI w) M := by
  have e21 : M.1 0 21 = nI w := by
    rw [val_w h.1 (by omega), hk]
    unfold rfJ
    rw [if_neg (by omega)]
    congr 1
    omega
  unfold f_X10_line
  rw [if_pos ((sort_M h.1).2.1.mpr (by omega)), e21, if_pos (show nI w ≤ 6 from (nI_le (b := 6) (by omega) (by omega))), full_M h hI hw, bnd_some]
  by_cases z : (w = 0 ∧ N 0 0 = 6) ∨ (w = 1 ∧ N 0 1 = 10)
  · rw [if_pos z, if_pos z, if_neg (by decide)]
  · rw [if_neg z, if_neg z, if_pos rfl]
    by_cases y : 2 ≤ w ∧ w ≤ 5
    · rw [if_neg (show ¬ nI w < 2 from Int32.not_lt.mpr (nI_le (a := 2) y.1 (by omega))), if_neg (show ¬ 5 < nI w from Int32.not_lt.mpr (nI_le (b := 5) y.2 (by omega)))]
      have hb := h.2.2.2.2.2.2.1 (w - 2) (by omega)
      rw [show 2 + (w - 2) = w by omega] at hb
      by_cases x : mk (w - 2) = true
      · rw [if_pos ((bt_test (by omega)).mpr (hb.trans x)), if_pos ⟨y, x⟩]
      · rw [if_neg (fun q => x (hb ▸ (bt_test (by omega)).mp q)), if_neg (fun q => x q.2)]
    · rw [if_neg (show ¬ ((2 ≤ w ∧ w ≤ 5) ∧ mk (w - 2) = true) from fun q => y q.1)]
      by_cases x : w < 2
      · rw [if_pos (show nI w < 2 from (nI_lt (b := 2) x (by omega)))]
      · rw [if_neg (show ¬ nI w < 2 from Int32.not_lt.mpr (nI_le (a := 2) (by omega) (by omega))), if_pos (show 5 < nI w from (nI_lt (a := 5) (by omega) (by omega)))]
theorem bt_or1 {x : Int32} {d e : Nat} (he : e < 32) : bt (x ||| ((1 : Int32) <<< (nI e &&& 31))) d = (bt x d || decide (d = e)) := by
  rw [bt_or, bt_shl he]
theorem RSm_t (h : RSm M b n i N T L mk kn ln) (hw : w < 7) : RSm (sI M 0 15 (M.1 0 15 ||| ((1 : Int32) <<< (nI w &&& 31)))) b n i N T L (fun s => mk s || decide (2 + s = w)) kn ln := by
  obtain ⟨h1, h2, h3, h4, h5, h6, h7, h8, h9, hx⟩ := h
  refine ⟨tkA_s h1 (by omega), by rw [sI1, if_neg (by omega)]; exact h2, by rw [sI1, if_neg (by omega)]; exact h3, by rw [sI1, if_neg (by omega)]; exact h4, by rw [sI1, if_neg (by omega)]; exact h5, TM_to h6 (fun c j a1 a2 => ?_), fun s hs => ?_, fun k hk => ?_, by rw [sI1, if_neg (by omega)]; exact h9, fun q hq l hL => by rw [sI1, if_neg (by omega)]; exact hx q hq l hL⟩
  · show (sI M 0 15 _).1 c _ = M.1 c _
    rw [sI1, if_neg (by omega)]
  · rw [sI1, if_pos ⟨rfl, rfl⟩, bt_or1 (by omega), h7 s hs]
  · rw [sI1, if_pos ⟨rfl, rfl⟩, bt_or1 (by omega), h8 k hk, show decide (16 + k = w) = false from decide_eq_false (by omega), Bool.or_false]
theorem RSm_mk {mk' : Nat → Bool} (h : RSm M b n i N T L mk kn ln) (e : ∀ s, s < 4 → mk' s = mk s) : RSm M b n i N T L mk' kn ln := by
  obtain ⟨h1, h2, h3, h4, h5, h6, h7, h8, h9, hx⟩ := h
  exact ⟨h1, h2, h3, h4, h5, h6, fun s hs => by rw [e s hs]; exact h7 s hs, h8, h9, hx⟩
def stLo (s : Nat) : Nat := if s = 1 then 1 else 0
def stHi (s : Nat) : Nat := if s = 0 then 100 else if s = 3 then 99999 else 99
theorem st_b : ∀ s, s < 4 → rdT stLeast (nI s) = some (nI (stLo s)) ∧ rdT stMost (nI s) = some (nI (stHi s)) ∧ stLo s ≤ stHi s ∧ stHi s ≤ 99999 ∧ (s = 0 → stHi s = 100) := by decide +kernel
/-- told, a token on -/
theorem l70_M (h : RSm M b n i N T L mk kn ln) (hb2 : ∀ i, i < n → b i < 256) (hn : n ≤ 700) (hw : w < 7) : ∃ M', f_X10_token (sI M 0 15 (M.1 0 15 ||| ((1 : Int32) <<< (nI w &&& 31)))) = some M' ∧ RSm M' b n (i + 1) N T L (fun s => mk s || decide (2 + s = w)) kn ln ∧ mR M M' := by
  have h1 := RSm_t h hw
  obtain ⟨M', q1, q2, q3⟩ := step_M h1.1 hb2 hn
  exact ⟨M', q1, RSm_q h1 q3 q2, mR_tr (mR_s (mR_rf M) (by unfold rM; omega)) (mR_q q3)⟩
theorem l70_set (h22 : M.1 0 22 = 0) (hs : s < 4) : f_X10_line_70 (nI (2 + s)) M = (f_X10_token (sI M 0 15 (M.1 0 15 ||| ((1 : Int32) <<< (nI (2 + s) &&& 31))))).bind fun S91 => bnd (f_X10_numeral (nI (stLo s)) (nI (stHi s)) S91) fun r S => (f_X10_reads (nI (2 + s)) r S).bind fun S1 => f_X10_line_226 S1 := by
  unfold f_X10_line_70
  rw [if_pos h22, nxt_eq]
  congr 1
  funext S91
  have : s = 0 ∨ s = 1 ∨ s = 2 ∨ s = 3 := by omega
  rcases this with rfl | rfl | rfl | rfl
  · rw [if_neg (by decide), if_neg (by decide), if_pos (by decide)]; rfl
  · rw [if_neg (by decide), if_neg (by decide), if_neg (by decide), if_pos (by decide)]; rfl
  · rw [if_neg (by decide), if_neg (by decide), if_neg (by decide), if_neg (by decide), if_pos (by decide)]; rfl
  · rw [if_neg (by decide), if_neg (by decide), if_neg (by decide), if_neg (by decide), if_neg (by decide), if_pos (by decide)]; rfl
theorem ln_set (hb2 : ∀ i, i < n → b i < 256) (hn : n ≤ 700) (hc : RSc C b n m i N T L mk) (hm : RSm M b n i N T L mk kn ln) (hI : RSp N T L kn) (hs : s < 4) (hk : tK b n i = 29 + s) : lnR C M b n m i ln := by
  obtain ⟨e1, e2⟩ := kd_C hb2 hc hn
  obtain ⟨b1, b2, b3, b4, b5⟩ := st_b s hs
  have him := lt_m hc.1 hc.2.2.1 (by show tK b n i ≠ 0; omega)
  have hd : f_X4_readLine C = (bnd (f_X4_readSetting (nI s) C) fun r22 S22 => if okz r22 = true then some (r22, S22) else none) := by
    unfold f_X4_readLine
    rw [e1, bnd_some, hk, if_neg (show ¬ nI (29 + s) < 29 from Int32.not_lt.mpr (nI_le (a := 29) (by omega) (by omega))), if_neg (show ¬ 32 < nI (29 + s) from Int32.not_lt.mpr (nI_le (b := 32) (by omega) (by omega))), show nI (29 + s) - 29 = nI s from by
      rw [show (29 : Int32) = nI 29 from rfl, ← nI_add, show nI 29 + nI s - nI 29 = nI s from by rw [Int32.add_comm]; exact Int32.add_sub_cancel _ _]]
  have hM := head_M (w := 2 + s) hm hI (by omega) (by omega)
  rw [if_neg (by omega), show 2 + s - 2 = s by omega] at hM
  have hC := hc.2.2.2.2.2.1 s hs
  unfold f_X4_readSetting at hd
  rw [rdN hs (by omega), Option.bind_some, hC] at hd
  by_cases z : mk s = true
  · rw [if_pos ⟨by omega, z⟩] at hM
    rw [if_pos z, if_neg (by decide)] at hd
    obtain ⟨C1, M1, q1, q2, q3, q4, q5⟩ := fl_at (f := 3) hn hc.1 hc.2.1 hc.2.2.1 hm.1 hm.2.1 (by omega) (by omega)
    have q1 : f_X4_wrong 3 C = some (0, C1) := q1
    have q2 : f_X10_wrong 3 M = some M1 := q2
    refine ⟨M1, ?_, q5, Or.inr ⟨C1, ?_, q4, q3⟩⟩
    · rw [hM, q2, Option.bind_some, l70_i q3.2.2, l226_i q3.2.2]
    · rw [hd]
      exact bw (bw q1 o0) o0
  · rw [if_neg (fun q => z q.2), l70_set hm.2.1 hs] at hM
    obtain ⟨M2, r1, r2, r3⟩ := l70_M (w := 2 + s) hm hb2 hn (by omega)
    rw [r1, Option.bind_some] at hM
    rw [if_neg z, if_pos rfl, nxt_eq, hc.2.1, nI_1] at hd
    have hc1 := RSc_n hc (i' := i + 1) him
    rw [wrZN hs (by omega), Option.bind_some, b1, Option.bind_some, b2, Option.bind_some] at hd
    have ht : tkC (sI (sI C 3 5 (nI (i + 1))) 19 s (vp_nar .boolean 1)) b n m := tkC_to hc1.1 (fun c j hc => by rw [sI1, if_neg (by omega)])
    have h5 : (sI (sI C 3 5 (nI (i + 1))) 19 s (vp_nar .boolean 1)).1 3 5 = nI (i + 1) := by rw [sI1, if_neg (by omega)]; exact hc1.2.1
    have fC : cR C (sI (sI C 3 5 (nI (i + 1))) 19 s (vp_nar .boolean 1)) := cR_s (cR_s (cR_rf C) (by omega)) (by omega)
    by_cases y : numOk b n (ps b n (i + 1)) (stLo s) (stHi s)
    · obtain ⟨⟨rv, M3⟩, u1, u2, u3, u4⟩ := numeral_M r2.1 r2.2.1 hb2 hn b3 b4 y
      have u2 : rv = nI (tvC b n (ps b n (i + 1))) := u2
      have hR := readNum_C ht hn hb2 h5 him hs (by omega) (by omega : (18 : Nat) ≠ 3) b4 b3 y
      rw [u1, bnd_some, reads_k (by omega), Option.bind_some, u2] at hM
      rw [bw hR o1, bnd_some, if_pos o1] at hd
      have hm3 := RSm_q r2 u4 u3
      have him2 := lt_m ht him (by show tkd b n (ps b n (i + 1)) ≠ 0; rw [y.1]; decide)
      have hv : tvC b n (ps b n (i + 1)) ≤ 99999 := Nat.le_trans y.2.2 b4
      refine ⟨_, hM, mR_tr r3 (mR_tr (mR_q u4) (mR_s (mR_rf M3) (by unfold rM; omega))), Or.inl ⟨_, i + 1 + 1, N, wu T 0 s (nI (tvC b n (ps b n (i + 1)))), L, (fun t => mk t || decide (2 + t = 2 + s)), kn, hd, cR_s (cR_s fC (by omega)) (by omega), ?_, ?_, ?_, by omega⟩⟩
      · obtain ⟨c1, c2, c3, c4, c5, c6, c7, c8⟩ := hc
        refine ⟨?_, by rw [sI1, if_pos ⟨rfl, rfl⟩], him2, ?_, fun k hk hL => ?_, fun t ht => ?_, ?_, ?_⟩
        · exact tkC_to c1 (fun c j hc => by simp only [sI1]; grind)
        · obtain ⟨d1, d2, d3, d4, d5, d6, d7, d8⟩ := c4
          have ee : ∀ c j, 31 ≤ c → c < 53 → ¬ (c = 41 ∧ j = s) → ¬ (c = 42) → (shC (sI (sI (sI (sI C 3 5 (nI (i + 1))) 19 s (vp_nar .boolean 1)) 18 s (nI (tvC b n (ps b n (i + 1))))) 3 5 (nI (i + 1 + 1)))).1 c j = (shC C).1 c j := by
            intro c j a1 a2 a3 a4
            show (sI (sI (sI (sI C 3 5 (nI (i + 1))) 19 s (vp_nar .boolean 1)) 18 s (nI (tvC b n (ps b n (i + 1))))) 3 5 (nI (i + 1 + 1))).1 (c - 23) j = C.1 (c - 23) j
            rw [sI1, if_neg (by omega), sI1, if_neg (by omega), sI1, if_neg (by omega), sI1, if_neg (by omega)]
          refine ⟨by rw [ee _ _ (by omega) (by omega) (by omega) (by omega)]; exact d1, by rw [ee _ _ (by omega) (by omega) (by omega) (by omega)]; exact d2, by rw [ee _ _ (by omega) (by omega) (by omega) (by omega)]; exact d3, fun j hj => ?_, fun j hj => ?_, fun c hc e => ?_, fun j hj => ?_, fun k hk => ?_⟩
          · rw [ee _ _ (by omega) (by omega) (by omega) (by omega), ee _ _ (by omega) (by omega) (by omega) (by omega), ee _ _ (by omega) (by omega) (by omega) (by omega)]; exact d4 j hj
          · rw [ee _ _ (by omega) (by omega) (by omega) (by omega), ee _ _ (by omega) (by omega) (by omega) (by omega), ee _ _ (by omega) (by omega) (by omega) (by omega), ee _ _ (by omega) (by omega) (by omega) (by omega), ee _ _ (by omega) (by omega) (by omega) (by omega)]; exact d5 j hj
          · rw [ee _ _ (by omega) (by omega) (by omega) (by omega)]; exact d6 c hc e
          · rw [wu1]
            by_cases q : j = s
            · rw [if_pos ⟨rfl, q⟩, q]
              show (sI (sI (sI (sI C 3 5 (nI (i + 1))) 19 s (vp_nar .boolean 1)) 18 s (nI (tvC b n (ps b n (i + 1))))) 3 5 (nI (i + 1 + 1))).1 18 s = _
              rw [sI1, if_neg (by omega), sI1, if_pos ⟨rfl, rfl⟩]
            · rw [if_neg (by omega), ee _ _ (by omega) (by omega) (by omega) (by omega)]; exact d7 j hj
          · refine ⟨fun hL => ?_, fun l hL => ?_⟩
            · rw [ee _ _ (by omega) (by omega) (by omega) (by omega)]; exact (d8 k hk).1 hL
            · obtain ⟨x1, x2, x3⟩ := (d8 k hk).2 l hL
              refine ⟨by rw [ee _ _ (by omega) (by omega) (by omega) (by omega)]; exact x1, by rw [ee _ _ (by omega) (by omega) (by omega) (by omega)]; exact x2, fun j hj => ?_⟩
              rw [ee _ _ (by omega) (by omega) (by omega) (by omega)]; exact x3 j hj
        · rw [sI1, if_neg (by omega), sI1, if_neg (by omega), sI1, if_neg (by omega), sI1, if_neg (by omega)]; exact c5 k hk hL
        · rw [sI1, if_neg (by omega), sI1, if_neg (by omega), sI1]
          by_cases q : t = s
          · rw [if_pos ⟨rfl, q⟩, q]; simp; rfl
          · rw [if_neg (by omega), sI1, if_neg (by omega), c6 t ht]
            simp [q]
        · rw [sI1, if_neg (by omega), sI1, if_neg (by omega), sI1, if_neg (by omega), sI1, if_neg (by omega)]; exact c7
        · rw [sI1, if_neg (by omega), sI1, if_neg (by omega), sI1, if_neg (by omega), sI1, if_neg (by omega)]; exact c8
      · obtain ⟨h1, h2, h3, h4, h5, h6, h7, h8, h9, hx⟩ := hm3
        refine ⟨tkA_s h1 (by omega), by rw [sI1, if_neg (by omega)]; exact h2, by rw [sI1, if_neg (by omega)]; exact h3, by rw [sI1, if_neg (by omega)]; exact h4, by rw [sI1, if_neg (by omega)]; exact h5, ?_, fun s hs => by rw [sI1, if_neg (by omega)]; exact h7 s hs, fun k hk => by rw [sI1, if_neg (by omega)]; exact h8 k hk, by rw [sI1, if_neg (by omega)]; exact h9, fun q hq l hL => by rw [sI1, if_neg (by omega)]; exact hx q hq l hL⟩
        obtain ⟨d1, d2, d3, d4, d5, d6, d7⟩ := h6
        have ee : ∀ c j, 2 ≤ c → ¬ (c = 2 ∧ j = 2 + s) → (shM (sI M3 2 (7 + (2 + s)) (nI (tvC b n (ps b n (i + 1)))))).1 c j = (shM M3).1 c j := by
          intro c j a1 a2
          show (sI M3 2 (7 + (2 + s)) (nI (tvC b n (ps b n (i + 1))))).1 c (shI c j) = M3.1 c (shI c j)
          rw [sI1, if_neg (fun q => a2 ⟨q.1, by have q2 := q.2; unfold shI at q2; rw [if_pos q.1] at q2; omega⟩)]
        refine ⟨by rw [ee _ _ (by omega) (by omega)]; exact d1, by rw [ee _ _ (by omega) (by omega)]; exact d2, by rw [ee _ _ (by omega) (by omega)]; exact d3, fun j hj => ?_, fun j hj => ?_, fun j hj => ?_, fun k hk => ⟨fun hL => ?_, fun l hL => ?_⟩⟩
        · rw [ee _ _ (by omega) (by omega), ee _ _ (by omega) (by omega), ee _ _ (by omega) (by omega)]; exact d4 j hj
        · rw [ee _ _ (by omega) (by omega), ee _ _ (by omega) (by omega), ee _ _ (by omega) (by omega), ee _ _ (by omega) (by omega)]; exact d5 j hj
        · rw [wu1]
          by_cases q : j = s
          · rw [if_pos ⟨rfl, q⟩, q]
            show (sI M3 2 (7 + (2 + s)) (nI (tvC b n (ps b n (i + 1))))).1 2 (7 + (2 + s)) = _
            rw [sI1, if_pos ⟨rfl, rfl⟩]
          · rw [if_neg (by omega), ee _ _ (by omega) (by omega)]; exact d6 j hj
        · rw [ee _ _ (by omega) (by omega), ee _ _ (by omega) (by omega)]; exact (d7 k hk).1 hL
        · obtain ⟨a, x1, x2, x3, x4⟩ := (d7 k hk).2 l hL
          refine ⟨a, by rw [ee _ _ (by omega) (by omega)]; exact x1, by rw [ee _ _ (by omega) (by omega)]; exact x2, x3, fun j hj => ?_⟩
          rw [ee _ _ (by omega) (by omega), ee _ _ (by omega) (by omega)]; exact x4 j hj
      · obtain ⟨⟨t1, t2, t3, t4, t5, t6, t7, t8, t9⟩, p1, p2⟩ := hI
        have g0 : (0 : Int32) ≤ nI (tvC b n (ps b n (i + 1))) := nI_le (a := 0) (by omega) (by omega)
        refine ⟨⟨t1, t2, t3, fun d hd => ?_, ?_, ?_, ?_, ?_, t9⟩, ?_, p2⟩
        · rw [wu1, wu1, if_neg (by omega), if_neg (by omega)]; exact t4 d hd
        · rw [wu1]; split
          · exact g0
          · exact t5
        · rw [wu1]
          by_cases q : 0 = s
          · rw [if_pos ⟨rfl, q⟩]
            have := b5 q.symm
            exact nI_le (b := 100) (by have := y.2.2; omega) (by omega)
          · rw [if_neg (by omega)]; exact t6
        · rw [wu1]; split
          · exact g0
          · exact t7
        · rw [wu1]; split
          · exact g0
          · exact t8
        · rw [wu1, if_neg (by omega)]; exact p1
    · have hR := readNum_w (a1 := 18) (n1 := 4) (v2 := nI s) ht hn hb2 h5 him b4 b3 y
      have hN := numeral_w r2.1 r2.2.1 hb2 b3 b4 y
      rw [hN, bnd_some, reads_k (by omega), Option.bind_some] at hM
      rw [bw hR o0, bnd_some, if_pos o0] at hd
      refine ⟨_, hM, mR_tr r3 (mR_s (mR_s (mR_s (mR_rf M2) (by unfold rM; omega)) (by unfold rM; omega)) (by unfold rM; omega)), Or.inr ⟨_, hd, cR_s (cR_s fC (by omega)) (by omega), ?_, ?_, ?_⟩⟩
      · simp only [sI1]; simp
      · simp only [sI1]; simp
      · simp only [sI1]; simp
        split <;> decide
end LINS
