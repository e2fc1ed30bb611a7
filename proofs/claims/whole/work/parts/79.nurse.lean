/-! PURE 30: nursing by the class, found -/
section NUE
variable {C M S : Mem} {N : TN} {T : WS} {L : LWS} {W : WS} {nu : Nat → Nat} {cf : Nat → Int32}
/-- what is found, in the class's cells -/
def nuF (S : Mem) (N : TN) (T : WS) (L : LWS) (W : WS) (nu : Nat → Nat) (c n : Nat) : Prop := ∃ b, S.1 88 3 = nI c ∧ S.1 88 4 = nI n ∧ nurB N T L W nu c n = some b ∧
  S.1 88 0 = nI (dHeld N (W 0 3) c).length ∧ b.length = (dHeld N (W 0 3) c).length ∧ S.1 88 1 = angOf N T L W nu n (dHeld N (W 0 3) c) b ∧ ∀ i, i < b.length → S.1 89 i = nI (b.getD i 0)
theorem rows_ne (l : List Nat) (k : Nat) (h : k = 0 ∨ 0 < l.length) : 0 < l.length ^ k := by
  rcases h with rfl | h
  · exact Nat.one_pos
  · exact Nat.pow_pos h
theorem pow_b {m k : Nat} (hm : m ≤ 6) (hk : k ≤ 4) : m ^ k ≤ 1296 := by
  have h1 : m ^ k ≤ 6 ^ k := Nat.pow_le_pow_left hm k
  have h2 : 6 ^ k ≤ 6 ^ 4 := Nat.pow_le_pow_right (by omega) hk
  have h3 : 6 ^ 4 = 1296 := by decide
  omega
theorem search_C (hT : TC C N T L) (hI : TI N T L) (hR : RC 53 C N W nu (caN N)) (hn : nuI N nu) (hW : WI N W) (hNu : pNurs C N T L W nu) {c n : Nat} (hc : c < 2) (hn1 : 1 ≤ n) (hn20 : n ≤ 20) :
    wp (f_X3_search 53 69 (nI c) (nI n) C) (fun S => cN C S ∧ nuF S N T L W nu c n) := by
  have hnd := hI.2.1
  have hnn := hI.1
  have go18 : wp (f_X3_search_18 53 69 (nI c) (nI n) C) (fun S => cN C S ∧ nuF S N T L W nu c n) := by
    unfold f_X3_search_18
    refine wp_nxt (wp_nxt ?_)
    have f0 : cN C (sI (sI C 88 3 (nI c)) 88 4 (nI n)) := cN_tr (cN_s (by omega)) (cN_s (by omega))
    have k3 : (sI (sI C 88 3 (nI c)) 88 4 (nI n)).1 88 3 = nI c := by simp [sI1]
    have k4 : (sI (sI C 88 3 (nI c)) 88 4 (nI n)).1 88 4 = nI n := by simp [sI1]
    generalize sI (sI C 88 3 (nI c)) 88 4 (nI n) = S0 at *
    refine wp_call (dolls_C (TC_N hT f0) hI (RC53_N hR f0) hc) ?_
    rintro S1 ⟨a1, a2, a3, a4⟩
    have f1 : cN C S1 := cN_tr f0 ⟨fun c i q _ => a3 c i (by omega) (by omega), fun c _ _ _ _ => by rw [a4]⟩
    refine wp_call (nurses_C (TC_N hT f1) hI (RC53_N hR f1) hc) ?_
    rintro S2 ⟨b1, b2, b3, b4⟩
    have f2 : cN C S2 := cN_tr f1 ⟨fun c i q _ => b3 c i (by omega) (by omega), fun c _ _ _ _ => by rw [b4]⟩
    have hns : nsW S2 (dHeld N (W 0 3) c) (ddp N [] (nsOf N c)) := ⟨by rw [b3 _ _ (by omega) (by omega)]; exact a1, b1, fun j hj => by rw [b3 _ _ (by omega) (by omega)]; exact a2 j hj, b2⟩
    have j3 : S2.1 88 3 = nI c := by rw [b3 _ _ (by omega) (by omega), a3 _ _ (by omega) (by omega)]; exact k3
    have j4 : S2.1 88 4 = nI n := by rw [b3 _ _ (by omega) (by omega), a3 _ _ (by omega) (by omega)]; exact k4
    have hkm := ns_ne (N := N) (m := W 0 3) hI hc
    have hk : (dHeld N (W 0 3) c).length ≤ 4 := dH_l
    have hm : (ddp N [] (nsOf N c)).length ≤ 6 := ns_l hI
    have hB := nurB_d (N := N) (T := T) (L := L) (W := W) (nu := nu) (c := c) (n := n)
    have hds : ∀ d ∈ dHeld N (W 0 3) c, d < N 0 1 := fun d hd => (dH_m hd).1
    have hdd : (dHeld N (W 0 3) c).Nodup := dH_n
    have hnsm : ∀ j ∈ ddp N [] (nsOf N c), j < N 0 0 := fun j hj => ns_m (ddp_m _ _ j hj)
    have hab : ∀ r, ∃ k, k ≤ 1998 ∧ angOf N T L W nu n (dHeld N (W 0 3) c) r = nI k := fun r => ang_b hI hW
    generalize hfd : angOf N T L W nu n (dHeld N (W 0 3) c) = f at *
    have hpw := pow_b (m := (ddp N [] (nsOf N c)).length) (k := (dHeld N (W 0 3) c).length) hm hk
    have hp0 := rows_ne (ddp N [] (nsOf N c)) (dHeld N (W 0 3) c).length hkm
    have hrl := rows_len (ddp N [] (nsOf N c)) (dHeld N (W 0 3) c).length
    have hra := rows_at (ddp N [] (nsOf N c)) (dHeld N (W 0 3) c).length
    -- how many ways
    refine lp0 (fun fuel i (v5 : Nat) => f_X3_search_47 53 69 fuel (nI n) (nI v5) i S2) (dHeld N (W 0 3) c).length (fun j v5 => v5 = (ddp N [] (nsOf N c)).length ^ j) (by omega) 1 (by rw [Nat.pow_zero]) ?_ ?_
    · rintro fuel v5 hv5
      show wp (f_X3_search_47 53 69 (fuel + 1) (nI n) (nI v5) (nI (dHeld N (W 0 3) c).length) S2) _
      unfold f_X3_search_47
      rw [hns.1]
      refine wp_pos (Int32.le_refl _) (wp_nxt ?_)
      rw [hv5]
      -- the ways
      refine lp0 (fun fuel i Z => f_X3_search_81 53 69 fuel (nI n) (nI ((ddp N [] (nsOf N c)).length ^ (dHeld N (W 0 3) c).length)) i Z) ((ddp N [] (nsOf N c)).length ^ (dHeld N (W 0 3) c).length)
        (fun w Z => cN C Z ∧ nsW Z (dHeld N (W 0 3) c) (ddp N [] (nsOf N c)) ∧ Z.1 88 3 = nI c ∧ Z.1 88 4 = nI n ∧ ((w = 0 ∧ Z.1 88 1 = 1999) ∨ ∃ b, ((rowsOf (ddp N [] (nsOf N c)) (dHeld N (W 0 3) c).length).take w).foldl (lb1 f) none = some b ∧ b.length = (dHeld N (W 0 3) c).length ∧ Z.1 88 1 = f b ∧ ∀ i, i < b.length → Z.1 89 i = nI (b.getD i 0))) (by omega) (sI S2 88 1 1999) ⟨cN_tr f2 (cN_s (by omega)), nsW_to hns (fun c i q => by rw [sI1, if_neg (by omega)]), by rw [sI1, if_neg (by omega)]; exact j3, by rw [sI1, if_neg (by omega)]; exact j4, Or.inl ⟨rfl, by rw [sI1, if_pos ⟨rfl, rfl⟩]⟩⟩ ?_ ?_
      · rintro fuel2 Z ⟨z1, z2, z3, z4, z5⟩
        show wp (f_X3_search_81 53 69 (fuel2 + 1) (nI n) _ (nI ((ddp N [] (nsOf N c)).length ^ (dHeld N (W 0 3) c).length)) Z) _
        unfold f_X3_search_81
        refine wp_pos (Int32.le_refl _) (wp_some ⟨z1, ?_⟩)
        rcases z5 with ⟨e, -⟩ | ⟨b, e1, e2, e3, e4⟩
        · omega
        · rw [← hrl, List.take_length, ← hB] at e1
          exact ⟨b, z3, z4, e1, z2.1, e2, by rw [hfd]; exact e3, e4⟩
      · rintro fuel2 w Z hw ⟨z1, z2, z3, z4, z5⟩ ih
        try simp only at ih
        show wp (f_X3_search_81 53 69 (fuel2 + 1) (nI n) _ (nI w) Z) _
        unfold f_X3_search_81
        refine wp_neg (nI_ge hw (by omega)) ?_
        have hrow := hra w hw
        have htk : (rowsOf (ddp N [] (nsOf N c)) (dHeld N (W 0 3) c).length).take (w + 1) = (rowsOf (ddp N [] (nsOf N c)) (dHeld N (W 0 3) c).length).take w ++ [digs (ddp N [] (nsOf N c)) (dHeld N (W 0 3) c).length w] := by
          rw [List.take_succ, hrow]; rfl
        rw [htk, List.foldl_append] at ih
        refine wp_if (fun q => ?_) (fun q => ?_)
        · -- nothing below 0 can come
          rcases z5 with ⟨-, e⟩ | ⟨b, e1, e2, e3, e4⟩
          · rw [e] at q; exact absurd q (by decide)
          · refine wp_some ⟨z1, b, z3, z4, ?_, z2.1, e2, by rw [hfd]; exact e3, e4⟩
            rw [hB]
            have hsplit := List.take_append_drop w (rowsOf (ddp N [] (nsOf N c)) (dHeld N (W 0 3) c).length)
            rw [← hsplit, List.foldl_append, e1]
            refine low_no _ _ (fun x _ => ⟨b, rfl, fun hlt => ?_⟩)
            rw [e3] at q
            obtain ⟨kx, hkx, ex⟩ := hab x
            rw [ex] at hlt
            exact absurd (Int32.lt_of_lt_of_le hlt q) (nI_pos (by omega))
        · refine wp_call (take_C (w := 69) (w1 := 53) (Or.inl ⟨rfl, rfl⟩) hI (RC53_N hR z1)) ?_
          rintro S3 ⟨r3, f3⟩
          have n3 : nsW S3 (dHeld N (W 0 3) c) (ddp N [] (nsOf N c)) := nsW_to z2 (fun c i q => by rw [f3.1 c (by omega)])
          refine wp_call (give_C hnd n3 hk hm hds hkm r3 hw (by omega)) ?_
          rintro S4 ⟨r4, o4, l4⟩
          have f4 : cN C S4 := cN_tr z1 (cN_tr (cN_t f3) ⟨fun c i q _ => o4 c i (by omega), fun c _ _ _ _ => by rw [l4]⟩)
          have hdl := digs_len (ddp N [] (nsOf N c)) (dHeld N (W 0 3) c).length w
          generalize hrw : digs (ddp N [] (nsOf N c)) (dHeld N (W 0 3) c).length w = row at *
          have hn4 : nuI N (nuSet nu (dHeld N (W 0 3) c) row) := fun d hd => nuSet_I (P := fun x => x < N 0 0) (fun j hj => by
            rcases hkm with h0 | h0
            · rw [h0] at hdl
              rw [List.length_eq_zero_iff.mp hdl] at hj
              cases hj
            · rw [← hrw] at hj
              exact hnsm j (digs_m h0 _ _ hw j hj)) (hn d hd) _
          refine wp_call (run_RC (w := 69) (how := 0) (Or.inr rfl) (TC_N hT f4) hI r4 hn4 (Or.inl rfl) (by omega)) ?_
          rintro S5 ⟨r5, f5⟩
          have ea := ang_C r5
          have eang : (sRun N T L (fun d => caN N (nuSet nu (dHeld N (W 0 3) c) row d)) 0 n W 5 0 + sRun N T L (fun d => caN N (nuSet nu (dHeld N (W 0 3) c) row d)) 0 n W 5 1) = f row := by rw [← hfd]; rfl
          rw [eang] at ea
          refine wp_bnde ea ?_
          have g5 : cN C S5 := cN_tr f4 (cN_69 f5)
          have o5 : ∀ c i, 88 ≤ c → S5.1 c i = Z.1 c i := fun c i q => by rw [f5.1 c (by omega), o4 c i (by omega), f3.1 c (by omega)]
          have n5 : nsW S5 (dHeld N (W 0 3) c) (ddp N [] (nsOf N c)) := nsW_to z2 (fun c i q => o5 c i (by omega))
          rw [o5 88 1 (by omega)]
          have upd : ∀ x, ((rowsOf (ddp N [] (nsOf N c)) (dHeld N (W 0 3) c).length).take w).foldl (lb1 f) none = x → lb1 f x row = some row → wp (bnd (f_X8_angerOfBoth 69 S5) fun r127 S127 => nxt (sI S127 88 1 r127) fun S130 => (f_X3_choose 69 S130).bind fun S135 => f_X3_search_81 53 69 fuel2 (nI n) (nI ((ddp N [] (nsOf N c)).length ^ (dHeld N (W 0 3) c).length)) (nI w + 1) S135) (fun S => cN C S ∧ nuF S N T L W nu c n) := by
            intro x hx hl
            refine wp_bnde ea (wp_nxt ?_)
            have n6 : nsW (sI S5 88 1 (f row)) (dHeld N (W 0 3) c) (ddp N [] (nsOf N c)) := nsW_to n5 (fun c i q => by rw [sI1, if_neg (by omega)])
            have r6 : RC 69 (sI S5 88 1 (f row)) N (sRun N T L (fun d => caN N (nuSet nu (dHeld N (W 0 3) c) row d)) 0 n W) (nuSet nu (dHeld N (W 0 3) c) row) (caN N) := RC_to r5 (fun c i a b _ => by rw [sI_off (by omega)]) rfl
            refine wp_call (choose_C hnd hk n6 hds hdd hdl r6) ?_
            rintro S7 ⟨c1, c2, c3⟩
            rw [nI_1]
            refine ih S7 ⟨cN_tr g5 (cN_tr (cN_s (by omega)) ⟨fun c i q _ => c2 c i (by omega), fun c _ _ _ _ => by rw [c3]⟩), nsW_to n6 (fun c i q => c2 c i (by omega)), ?_, ?_, Or.inr ⟨row, ?_, hdl, ?_, c1⟩⟩
            · rw [c2 _ _ (by omega), sI1, if_neg (by omega), o5 _ _ (by omega)]; exact z3
            · rw [c2 _ _ (by omega), sI1, if_neg (by omega), o5 _ _ (by omega)]; exact z4
            · rw [hx]; exact hl
            · rw [c2 _ _ (by omega), sI1, if_pos ⟨rfl, rfl⟩]
          rcases z5 with ⟨e0, e⟩ | ⟨b, e1, e2, e3, e4⟩
          · obtain ⟨kx, hkx, ex⟩ := hab row
            rw [e]
            refine wp_neg (by rw [ex]; exact nI_ge (b := 1999) (by omega) (by omega)) ?_
            exact upd none (by rw [e0]; rfl) rfl
          · rw [e3]
            refine wp_if (fun q2 => ?_) (fun q2 => ?_)
            · rw [nI_1]
              refine ih S5 ⟨g5, n5, by rw [o5 _ _ (by omega)]; exact z3, by rw [o5 _ _ (by omega)]; exact z4, Or.inr ⟨b, ?_, e2, by rw [o5 _ _ (by omega)]; exact e3, fun i hi => by rw [o5 _ _ (by omega)]; exact e4 i hi⟩⟩
              rw [e1]
              show (if f row < f b then some row else some b) = some b
              rw [if_neg (Int32.not_lt.mpr q2)]
            · refine upd (some b) e1 ?_
              show (if f row < f b then some row else some b) = some row
              rw [if_pos (Int32.not_le.mp q2)]
    · rintro fuel j v5 hj hv5 ih
      try simp only at ih
      show wp (f_X3_search_47 53 69 (fuel + 1) (nI n) (nI v5) (nI j) S2) _
      unfold f_X3_search_47
      rw [hns.1]
      refine wp_neg (nI_ge hj (by omega)) ?_
      rw [hns.2.1, pk_mul, nI_1]
      exact ih _ (by rw [hv5, Nat.pow_succ])
  unfold f_X3_search
  refine wp_if (fun q1 => ?_) (fun _ => go18)
  refine wp_if (fun q2 => ?_) (fun _ => go18)
  rcases hNu with e | ⟨c', n', b, e1, e2, e3, e4, e5, e6, e7, e8, e9, e10⟩
  · rw [e] at q1
    exact absurd q1.symm (nI_n1 (by omega))
  · have hcc : c' = c := (nI_eq (by omega) (by omega)).mp (e4.symm.trans q1)
    have hnn' : n' = n := (nI_eq (by omega) (by omega)).mp (e5.symm.trans q2)
    subst hcc
    subst hnn'
    exact wp_some ⟨cN_rf _, b, e4, e5, e6, e7, e8, e9, e10⟩
end NUE
