/-! PURE 18: chance, tried, rests, whole -/
section RU2
variable {C M S : Mem} {N : TN} {T : WS} {L : LWS} {W : WS} {nu : Nat → Nat} {cf : Nat → Int32}
theorem cQ_s {k i : Nat} {v : Int32} (h : 69 ≤ k) (h2 : k ≤ 76) : cQ S (sI S k i v) := ⟨fun c j a _ => by rw [sI1, if_neg (by omega)], fun _ _ _ _ _ => rfl⟩
theorem cQ_l {i : Nat} {v : Int64} : cQ S (sL S 69 i v) := ⟨fun c j a _ => rfl, fun c a _ _ _ => sL_off a⟩
theorem mQ_c {k i : Nat} {v : Int32} (h : chC 1 k i) : mQ S (sI S k i v) := fun c j a => by rw [sI1, if_neg (fun e => a (by rw [e.1, e.2]; exact Or.inr (Or.inl h)))]
theorem RC_nu {x : Int32} (h : RC 69 S N W nu cf) : RC 69 (sL S 69 3 x.toInt64) N (wu W 0 1 x) nu cf := by
  unfold RC at *
  simp only [sL1, sL2, wu1]
  grind
theorem RM_nu {x : Int32} (h : RM 1 S N W nu) : RM 1 (sI S 17 1 x) N (wu W 0 1 x) nu := by
  unfold RM at *
  simp only [sI1, wu1]
  grind
theorem RC_he {x : Int32} (h : RC 69 S N W nu cf) : RC 69 (sI S 69 1 x) N (wu W 0 3 x) nu cf := by
  unfold RC at *
  simp only [sI1, sI2, wu1]
  grind
def chS (N : TN) (T : WS) (L : LWS) (W : WS) (cd : Nat → Int32) (n : Nat) (b : Int32) (s : Int32 × Int32) : Int32 × Int32 :=
  (sRun N T L cd 1 n (wu W 0 1 s.1) 0 1, if (sRun N T L cd 1 n (wu W 0 1 s.1) 6 0 + sRun N T L cd 1 n (wu W 0 1 s.1) 6 1) - (W 6 0 + W 6 1) < b then s.2 else s.2 + 1)
theorem q_chance (h : Cp C M) (v x y : Int32) : both C M (f_X9_chance v x y C) (f_X10_chance v x y M) := by
  unfold f_X10_chance
  refine both_m h ?_
  intro N T L W nu M' hq
  unfold f_X9_chance
  obtain ⟨-, -, ⟨hT, hM, hI⟩, ⟨hR, hR', ⟨-, hn⟩⟩, -, -, -, -, h43, h44⟩ := hq
  have hnd := hI.2.1
  by_cases a1 : v < 0
  · rw [if_pos a1, if_pos a1]; exact bq _ rfl rfl
  rw [if_neg a1, if_neg a1]
  by_cases a2 : x < 1
  · rw [if_pos a2, if_pos a2]; exact bq _ rfl rfl
  rw [if_neg a2, if_neg a2]
  by_cases a3 : 60 < x
  · rw [if_pos a3, if_pos a3]; exact bq _ rfl rfl
  rw [if_neg a3, if_neg a3]
  by_cases a4 : y < 0
  · rw [if_pos a4, if_pos a4]; exact bq _ rfl rfl
  rw [if_neg a4, if_neg a4]
  by_cases a5 : y ≤ 99
  · rw [if_pos a5, if_pos a5]
    obtain ⟨n, hn60, rfl⟩ := nI_of2 (M := 60) (n := 60) rfl (fun e => a2 (Int32.lt_trans e (by decide))) (Int32.not_lt.mp a3)
    refine ⟨(itN (fun _ => chS N T L W (fun d => caN N (nu d)) n y) 10 (v, 0)).2, ?_, ?_⟩
    · refine lp0 (fun fuel i (s : (Int32 × Int32) × Mem) => f_X9_chance_37 fuel (nI n) y s.1.2 s.1.1.toInt64 i s.2) 10 (fun j s => s.1 = itN (fun _ => chS N T L W (fun d => caN N (nu d)) n y) j (v, 0) ∧ cQ C s.2) (by omega) ((v, 0), C) ⟨rfl, cQ_rf _⟩ ?_ ?_
      · rintro fuel ⟨⟨u, k⟩, S⟩ ⟨hs, f⟩
        simp only at hs f
        exact wp_pos (by decide) (wp_some ⟨by rw [← hs], f⟩)
      · rintro fuel j ⟨⟨u, k⟩, S⟩ hj ⟨hs, f⟩ ih
        simp only at hs f ih
        show wp (f_X9_chance_37 (fuel + 1) (nI n) y k u.toInt64 (nI j) S) _
        unfold f_X9_chance_37
        refine wp_neg (nI_ge (b := 10) hj (by omega)) ?_
        refine wp_call (take_q (TC_q hT f) hI (RC53_q hR f)) ?_
        rintro S1 ⟨h1, f1⟩
        refine wp_nxt ?_
        have f2 := cQ_tr f (cQ_tr f1 (cQ_l (i := 3) (v := u.toInt64)))
        refine wp_call (run_q (how := 1) hT hI hn f2 (RC_nu h1) (Or.inr (Or.inl rfl)) (by omega)) ?_
        rintro S2 ⟨h2, f2⟩
        refine wp_bnde (bre_C h2) ?_
        refine wp_bnde (bre_C (RC53_q hR f2)) ?_
        rw [itN_s, ← hs] at ih
        rw [h2.2.2.2.1]
        refine wp_if (fun q => ?_) (fun q => ?_)
        · rw [nI_1]; exact ih ((_, k), S2) ⟨(by unfold chS; rw [if_pos q]; rfl), f2⟩
        · rw [nI_1]; exact ih ((_, k + 1), S2) ⟨(by unfold chS; rw [if_neg q]; rfl), f2⟩
    · refine lp0 (fun fuel i (s : (Int32 × Int32) × Mem) => f_X10_chance_41 fuel (nI n) y s.1.1 s.1.2 i s.2) 10 (fun j s => s.1 = itN (fun _ => chS N T L W (fun d => caN N (nu d)) n y) j (v, 0) ∧ mQ M' s.2) (by omega) ((v, 0), M') ⟨rfl, mQ_rf _⟩ ?_ ?_
      · rintro fuel ⟨⟨u, k⟩, S⟩ ⟨hs, f⟩
        simp only at hs f
        exact wp_pos (by decide) (wp_some ⟨by rw [← hs], f⟩)
      · rintro fuel j ⟨⟨u, k⟩, S⟩ hj ⟨hs, f⟩ ih
        simp only at hs f ih
        show wp (f_X10_chance_41 (fuel + 1) (nI n) y u k (nI j) S) _
        unfold f_X10_chance_41
        refine wp_neg (nI_ge (b := 10) hj (by omega)) ?_
        refine wp_call (copies_q hI (RM0_q hR' hnd f)) ?_
        rintro S1 ⟨h1, f1⟩
        refine wp_wr 1 rfl (by decide) ?_
        have f2 := mQ_tr f (mQ_tr f1 (mQ_c (k := 17) (i := 1) (v := u) (by unfold chC; omega)))
        refine lp0 (fun fuel' i S => f_X10_chance_65 (f_X10_chance_41 fuel) fuel' (nI n) y k (nI j) i S) n (fun i S => RM 1 S N (sRun N T L (fun d => caN N (nu d)) 1 i (wu W 0 1 u)) nu ∧ mQ M' S) (by omega) _ ⟨RM_nu h1, f2⟩ ?_ ?_
        · rintro fuel' S3 ⟨h3, f3⟩
          show wp (f_X10_chance_65 (f_X10_chance_41 fuel) (fuel' + 1) (nI n) y k (nI j) (nI n) S3) _
          unfold f_X10_chance_65
          refine wp_pos (Int32.le_refl _) ?_
          refine wp_rd 1 rfl (by decide) h3.2.1 ?_
          refine wp_bnde (bre_M (t := 1) (by omega) h3) ?_
          refine wp_bnde (bre_M (t := 0) (by omega) (RM0_q hR' hnd f3)) ?_
          rw [itN_s, ← hs] at ih
          refine wp_if (fun q => ?_) (fun q => ?_)
          · rw [nI_1]; exact ih ((_, _), S3) ⟨(by unfold chS; rw [if_pos q, Int32.add_zero]; rfl), f3⟩
          · rw [nI_1]; exact ih ((_, k + 1), S3) ⟨(by unfold chS; rw [if_neg q]; rfl), f3⟩
        · rintro fuel' i S3 hi ⟨h3, f3⟩ ih'
          try simp only at ih'
          show wp (f_X10_chance_65 (f_X10_chance_41 fuel) (fuel' + 1) (nI n) y k (nI j) (nI i) S3) _
          unfold f_X10_chance_65
          refine wp_neg (nI_ge hi (by omega)) ?_
          refine wp_call (pass_q hM hI hn h43 h44 f3 h3 true) ?_
          rintro S4 ⟨h4, f4⟩
          rw [nI_1]
          exact ih' S4 ⟨h4, f4⟩
  · rw [if_neg a5, if_neg a5]; exact bq _ rfl rfl
/-! tried -/
theorem careAll_C (hT : TC C N T L) (hI : TI N T L) (f : cQ C S) (h : RC 69 S N W nu cf) : wp (f_X8_careForAll 69 9 S) (fun S' => RC 69 S' N W nu (fun _ => 9) ∧ cQ C S') := by
  have hnn := hI.1
  unfold f_X8_careForAll
  refine lp0 (fun fuel i M => f_X8_careForAll_2 69 fuel 9 i M) 6 (fun j M => (∀ c i, ¬ (c = 73 ∧ i < 6) → M.1 c i = S.1 c i) ∧ M.2 = S.2 ∧ (∀ i, i < j → M.1 73 i = 9)) (by omega) S ⟨fun _ _ _ => rfl, rfl, fun i hi => absurd hi (Nat.not_lt_zero i)⟩ ?_ ?_
  · rintro fuel M ⟨h1, h2, h3⟩
    refine wp_pos (by decide) (wp_some ⟨?_, cQ_tr f ⟨fun c i a _ => h1 c i (by omega), fun c _ _ _ _ => by rw [h2]⟩⟩)
    obtain ⟨a0, a1, a2, a3, a4, a5, a6⟩ := h
    refine ⟨?_, ?_, ?_, ?_, fun d hd => ?_, fun c hc => ?_, fun i hi => h3 i (by omega)⟩
    · rw [h1 _ _ (by omega)]; exact a0
    · rw [h1 _ _ (by omega)]; exact a1
    · rw [h1 _ _ (by omega)]; exact a2
    · rw [h2]; exact a3
    · rw [h1 _ _ (by omega), h1 _ _ (by omega), h1 _ _ (by omega)]; exact a4 d hd
    · rw [h1 _ _ (by omega), h1 _ _ (by omega)]; exact a5 c hc
  · rintro fuel j M hj ⟨h1, h2, h3⟩ ih
    try simp only at ih
    show wp (f_X8_careForAll_2 69 (fuel + 1) 9 (nI j) M) _
    unfold f_X8_careForAll_2
    refine wp_neg (nI_ge (b := 6) hj (by omega)) ?_
    refine wp_wr j rfl hj ?_
    rw [nI_1]
    refine ih _ ⟨fun c i q => ?_, h2, fun i hi => ?_⟩
    · rw [sI1, if_neg (by omega)]; exact h1 c i q
    · have := h3 i
      simp only [sI1]
      grind
theorem bt_home {m : Int32} {d e : Nat} (hd : d < 32) (he : e < 32) : bt (m &&& ((1 <<< (nI d &&& 31)) ^^^ (-1))) e = (bt m e && !decide (e = d)) := by
  rw [bt_and, bt_xor, bt_shl hd, bt_m1 he]
  cases decide (e = d) <;> simp
def hurtR (N : TN) (T : WS) (L : LWS) (V : WS) (nu : Nat → Nat) (cg : Nat → Int32) (how n : Nat) : Int32 := itN (fun d s => s + sRun N T L (fun d => cg (nu d)) how n V 2 d) (N 0 1) 0
theorem tri_M (hM : TM M N T L) (hI : TI N T L) (hn : nuI N nu) {S : Mem} {k : Nat} {cg : Nat → Int32} (hc : ∀ i, i < N 0 0 → cin S i = cg i) (f : mQ M (sI S 0 43 (M.1 0 43))) (h43 : M.1 0 43 = 0) (hS : TM S N T L) (h : RM 1 S N W nu) (hh : howM (S.1 0 43) false k) {n : Nat} (hnn : n < 1000) :
    wp (f_X10_tried_81 (nI n) S) (fun q => q.1 = hurtR N T L W nu cg k n ∧ mQ M q.2) := by
  have hnd := hI.2.1
  unfold f_X10_tried_81
  refine wp_call (goes_RM hS hI h hn hc hh hnn) ?_
  rintro S2 ⟨h2, f2⟩
  refine wp_nxt ?_
  have h3 : RM 1 (sI S2 0 43 0) N (sRun N T L (fun d => cg (nu d)) k n W) nu := RM_to h2 hnd (fun c i q => by rw [sI1, if_neg (by unfold chC at q; omega)])
  have hT3 : TM (sI S2 0 43 0) N T L := TM_to hS (fun c i a b => by rw [sI1, if_neg (by omega)]; exact f2 c i (by unfold chM; omega))
  refine wp_bnde (hurtAll_M (t := 1) (by omega) hT3 hI h3) ?_
  refine wp_some ⟨rfl, fun c i a => ?_⟩
  have := f c i a
  rw [sI1] at this ⊢
  by_cases q : c = 0 ∧ i = 43
  · rw [if_pos q, q.1, q.2, h43]
  · rw [if_neg q] at this ⊢
    rw [f2 c i (fun e => a (by unfold chM at e; unfold mX chC; omega))]
    exact this
theorem q_tried (h : Cp C M) (v x y : Int32) : both C M (f_X9_tried v x y C) (f_X10_tried v x y M) := by
  unfold f_X10_tried
  refine both_m h ?_
  intro N T L W nu M' hq
  unfold f_X9_tried
  obtain ⟨-, -, ⟨hT, hM, hI⟩, ⟨hR, hR', ⟨-, hn⟩⟩, -, -, -, -, h43, h44⟩ := hq
  have hnd := hI.2.1
  have hnn := hI.1
  by_cases a1 : y < 0
  · rw [if_pos a1]
    refine ⟨-1, wp_some ⟨rfl, cQ_rf _⟩, ?_⟩
    have key : ∀ t0, wp (f_X10_tried_36 v x y t0 M') (fun q => q.1 = -1 ∧ mQ M' q.2) := fun t0 => by
      unfold f_X10_tried_36
      refine wp_if (fun _ => wp_some ⟨rfl, mQ_rf _⟩) (fun _ => wp_pos a1 (wp_some ⟨rfl, mQ_rf _⟩))
    refine wp_if (fun _ => ?_) (fun _ => ?_)
    · rcases ix_d x (n := N 0 1) (by omega) with ⟨d, hd, rfl⟩ | hx
      · rw [doll_M1 hM hI hd, bnd_some]; exact key _
      · rw [doll_M0 hM hx, bnd_some]; exact key _
    · refine wp_if (fun _ => key 0) (fun _ => wp_if (fun _ => key 0) (fun _ => wp_if (fun _ => key 1) (fun _ => key 0)))
  rw [if_neg a1]
  by_cases a2 : 60 < y
  · rw [if_pos a2]
    refine ⟨-1, wp_some ⟨rfl, cQ_rf _⟩, ?_⟩
    have key : ∀ t0, wp (f_X10_tried_36 v x y t0 M') (fun q => q.1 = -1 ∧ mQ M' q.2) := fun t0 => by
      unfold f_X10_tried_36
      refine wp_if (fun _ => wp_some ⟨rfl, mQ_rf _⟩) (fun _ => wp_neg a1 (wp_neg (Int32.not_le.mpr a2) (wp_some ⟨rfl, mQ_rf _⟩)))
    refine wp_if (fun _ => ?_) (fun _ => ?_)
    · rcases ix_d x (n := N 0 1) (by omega) with ⟨d, hd, rfl⟩ | hx
      · rw [doll_M1 hM hI hd, bnd_some]; exact key _
      · rw [doll_M0 hM hx, bnd_some]; exact key _
    · refine wp_if (fun _ => key 0) (fun _ => wp_if (fun _ => key 0) (fun _ => wp_if (fun _ => key 1) (fun _ => key 0)))
  rw [if_neg a2]
  obtain ⟨n, hn60, rfl⟩ := nI_of2 (M := 60) (n := 60) rfl a1 (Int32.not_lt.mp a2)
  -- the reference's part that all share
  have ref : ∀ (z : Int32) (k : Nat) (cg : Nat → Int32), v = z → z ≠ 2 → howM z false k → (∀ i, i < N 0 0 → (if z = 4 then 9 else caN N i) = cg i) → wp (f_X10_tried_36 v x (nI n) 1 M') (fun q => q.1 = hurtR N T L W nu cg k n ∧ mQ M' q.2) := by
    intro z k cg hz hz2 hh hcg
    subst hz
    unfold f_X10_tried_36
    refine wp_neg n10 (wp_neg a1 (wp_pos (Int32.not_lt.mp a2) ?_))
    refine wp_nxt ?_
    have hR2 : RM 0 (sI M' 0 43 v) N W nu := RM_to hR' hnd (fun c i q => by rw [sI1, if_neg (by unfold chC at q; omega)])
    refine wp_call (copies_q hI hR2) ?_
    rintro S1 ⟨h1, f1⟩
    refine wp_neg hz2 ?_
    have e43 : S1.1 0 43 = v := by rw [f1 0 43 (by unfold mX chC; omega), sI1, if_pos ⟨rfl, rfl⟩]
    have e44 : S1.1 0 44 = -1 := by rw [f1 0 44 (by unfold mX chC; omega), sI1, if_neg (by omega)]; exact h44
    have hS1 : TM S1 N T L := TM_to hM (fun c i a b => by rw [f1 c i (by unfold mX chC; omega), sI1, if_neg (by omega)])
    refine tri_M hM hI hn (fun i hi => ?_) (fun c i a => ?_) h43 hS1 h1 (by rw [e43]; exact hh) (by omega)
    · rw [← hcg i hi]
      unfold cin
      rw [e43, e44]
      by_cases q4 : v = 4
      · rw [if_pos q4, if_pos q4]
      · rw [if_neg q4, if_neg q4, if_neg (nI_n1 (by omega)), (hS1.2.2.2.1 i hi).2.2]; rfl
    · rw [sI1]
      by_cases q : c = 0 ∧ i = 43
      · rw [if_pos q, q.1, q.2]
      · rw [if_neg q, f1 c i a, sI1, if_neg q]
  have cls : ∀ (how : Nat) {S : Mem}, (how = 0 ∨ how = 1 ∨ how = 2 ∨ how = 4 ∨ how = 8) → ∀ (V : WS) (cg : Nat → Int32), RC 69 S N V nu cg → cQ C S → wp (f_X9_tried_131 (nI n) (nI how) S) (fun q => q.1 = hurtR N T L V nu cg how n ∧ cQ C q.2) := by
    intro how S hh V cg hS f
    unfold f_X9_tried_131
    refine wp_call (run_q hT hI hn f hS hh (by omega)) ?_
    rintro S2 ⟨h2, f2⟩
    refine wp_bnde (hurtAll_C (TC_q hT f2) hI h2) ?_
    exact wp_some ⟨rfl, f2⟩
  by_cases c2 : v = 2
  · subst c2
    rw [if_pos rfl, if_pos rfl]
    rcases ix_d x (n := N 0 1) (by omega) with ⟨d, hd, rfl⟩ | hx
    · rw [doll_C1 hT hI hd, bnd_some, doll_M1 hM hI hd, bnd_some, if_neg n10]
      refine ⟨hurtR N T L (wu W 0 3 (W 0 3 &&& ((1 <<< (nI d &&& 31)) ^^^ (-1)))) nu (caN N) 0 n, ?_, ?_⟩
      · unfold f_X9_tried_32
        refine wp_call (take_q hT hI hR) ?_
        rintro S1 ⟨h1, f1⟩
        refine wp_neg (by decide) (wp_neg (by decide) (wp_pos rfl ?_))
        unfold f_X8_sendHome
        refine wp_bde (by rw [nxt_eq]) ?_
        rw [h1.2.1]
        exact cls 0 (Or.inl rfl) _ _ (RC_he h1) (cQ_tr f1 (cQ_s (by omega) (by omega)))
      · unfold f_X10_tried_36
        refine wp_neg n10 (wp_neg a1 (wp_pos (Int32.not_lt.mp a2) ?_))
        refine wp_nxt ?_
        have hR2 : RM 0 (sI M' 0 43 2) N W nu := RM_to hR' hnd (fun c i q => by rw [sI1, if_neg (by unfold chC at q; omega)])
        refine wp_call (copies_q hI hR2) ?_
        rintro S1 ⟨h1, f1⟩
        refine wp_pos rfl ?_
        refine wp_wr (10 * 1 + d) (nI_add 10 d) (by omega) ?_
        have e44 : S1.1 0 44 = -1 := by rw [f1 0 44 (by unfold mX chC; omega), sI1, if_neg (by omega)]; exact h44
        have e43 : S1.1 0 43 = 2 := by rw [f1 0 43 (by unfold mX chC; omega), sI1, if_pos ⟨rfl, rfl⟩]
        have hS1 : TM (sI S1 24 (10 * 1 + d) 0) N T L := TM_to hM (fun c i a b => by rw [sI1, if_neg (by omega), f1 c i (by unfold mX chC; omega), sI1, if_neg (by omega)])
        have g1 : RM 1 (sI S1 24 (10 * 1 + d) 0) N (wu W 0 3 (W 0 3 &&& ((1 <<< (nI d &&& 31)) ^^^ (-1)))) nu := by
          obtain ⟨b0, b1, b2, b3, b4⟩ := h1
          refine ⟨by rw [sI_off (by omega)]; exact b0, by rw [sI_off (by omega)]; exact b1, by rw [sI_off (by omega)]; exact b2, fun e he => ?_, fun c hc => ?_⟩
          · obtain ⟨d1, d2, d3, d4⟩ := b3 e he
            refine ⟨by rw [sI_off (by omega)]; exact d1, by rw [sI_off (by omega)]; exact d2, by rw [sI_off (by omega)]; exact d3, ?_⟩
            rw [show wu W 0 3 (W 0 3 &&& ((1 <<< (nI d &&& 31)) ^^^ (-1))) 0 3 = W 0 3 &&& ((1 <<< (nI d &&& 31)) ^^^ (-1)) from rfl, bt_home (by omega) (by omega), sI1]
            by_cases q : e = d
            · subst q
              rw [if_pos ⟨rfl, rfl⟩]
              simp
            · rw [if_neg (by omega), d4]
              simp [q]
          · rw [sI_off (by omega), sI_off (by omega)]; exact b4 c hc
        refine tri_M (cg := caN N) (k := 0) hM hI hn (fun i hi => ?_) (fun c i a => ?_) h43 hS1 g1 ?_ (by omega)
        · unfold cin
          rw [sI_off (j := 0) (by omega), e43, e44, if_neg (by decide), if_neg (nI_n1 (by omega)), (hS1.2.2.2.1 i hi).2.2]; rfl
        · rw [sI1]
          by_cases q : c = 0 ∧ i = 43
          · rw [if_pos q, q.1, q.2]
          · rw [if_neg q, sI1, if_neg (fun e => a (by rw [e.1, e.2]; unfold mX chC; omega)), f1 c i a, sI1, if_neg q]
        · rw [sI_off (by omega), e43]
          exact ⟨rfl, by decide, by decide, by decide⟩
    · rw [doll_C0 hT hx, bnd_some, doll_M0 hM hx, bnd_some, if_pos rfl]
      exact bq _ rfl (by unfold f_X10_tried_36; rw [if_pos rfl])
  rw [if_neg c2, if_neg c2]
  by_cases cx : x = 0
  · rw [if_pos cx, if_pos cx]
    have tk := take_q hT hI hR
    by_cases c0 : v = 0
    · refine ⟨hurtR N T L W nu (caN N) 0 n, ?_, wp_neg (by rw [c0]; decide) (wp_neg (by rw [c0]; decide) (ref 0 0 (caN N) c0 (by decide) (how0 rfl) (fun i _ => by rw [if_neg (by decide)])))⟩
      unfold f_X9_tried_32
      refine wp_call tk ?_
      rintro S1 ⟨h1, f1⟩
      exact wp_pos c0 (cls 0 (Or.inl rfl) W _ h1 f1)
    by_cases c1 : v = 1
    · refine ⟨hurtR N T L W nu (caN N) 2 n, ?_, wp_neg (by rw [c1]; decide) (wp_neg (by rw [c1]; decide) (ref 1 2 (caN N) c1 (by decide) ⟨rfl, by decide, by decide, by decide⟩ (fun i _ => by rw [if_neg (by decide)])))⟩
      unfold f_X9_tried_32
      refine wp_call tk ?_
      rintro S1 ⟨h1, f1⟩
      exact wp_neg c0 (wp_pos c1 (cls 2 (by omega) W _ h1 f1))
    by_cases c3 : v = 3
    · refine ⟨hurtR N T L W nu (caN N) 4 n, ?_, wp_neg (by rw [c3]; decide) (wp_neg (by rw [c3]; decide) (ref 3 4 (caN N) c3 (by decide) ⟨rfl, by decide, by decide, by decide⟩ (fun i _ => by rw [if_neg (by decide)])))⟩
      unfold f_X9_tried_32
      refine wp_call tk ?_
      rintro S1 ⟨h1, f1⟩
      exact wp_neg c0 (wp_neg c1 (wp_neg c2 (wp_pos c3 (cls 4 (by omega) W _ h1 f1))))
    by_cases c4 : v = 4
    · refine ⟨hurtR N T L W nu (fun _ => 9) 0 n, ?_, wp_neg (by rw [c4]; decide) (wp_neg (by rw [c4]; decide) (ref 4 0 (fun _ => 9) c4 (by decide) ⟨rfl, by decide, by decide, by decide⟩ (fun i _ => by rw [if_pos rfl])))⟩
      unfold f_X9_tried_32
      refine wp_call tk ?_
      rintro S1 ⟨h1, f1⟩
      refine wp_neg c0 (wp_neg c1 (wp_neg c2 (wp_neg c3 (wp_pos c4 ?_))))
      refine wp_call (careAll_C hT hI f1 h1) ?_
      rintro S2 ⟨h2, f2⟩
      exact cls 0 (Or.inl rfl) W _ h2 f2
    by_cases c5 : v = 5
    · refine ⟨hurtR N T L W nu (caN N) 8 n, ?_, wp_neg (by rw [c5]; decide) (wp_neg (by rw [c5]; decide) (ref 5 8 (caN N) c5 (by decide) ⟨rfl, by decide, by decide, by decide⟩ (fun i _ => by rw [if_neg (by decide)])))⟩
      unfold f_X9_tried_32
      refine wp_call tk ?_
      rintro S1 ⟨h1, f1⟩
      exact wp_neg c0 (wp_neg c1 (wp_neg c2 (wp_neg c3 (wp_neg c4 (wp_pos c5 (cls 8 (by omega) W _ h1 f1))))))
    refine ⟨-1, ?_, ?_⟩
    · unfold f_X9_tried_32
      refine wp_call tk ?_
      rintro S1 ⟨h1, f1⟩
      exact wp_neg c0 (wp_neg c1 (wp_neg c2 (wp_neg c3 (wp_neg c4 (wp_neg c5 (wp_some ⟨rfl, f1⟩))))))
    · have k0 : wp (f_X10_tried_35 v x (nI n) M') (fun q => q.1 = -1 ∧ mQ M' q.2) := by
        unfold f_X10_tried_35 f_X10_tried_36
        exact wp_pos rfl (wp_some ⟨rfl, mQ_rf _⟩)
      refine wp_if (fun _ => k0) (fun q => wp_if (fun _ => k0) (fun q2 => ?_))
      obtain ⟨j, hj, rfl⟩ := nI_of2 (M := 5) (n := 5) rfl q (Int32.not_lt.mp q2)
      rcases (by omega : j = 0 ∨ j = 1 ∨ j = 2 ∨ j = 3 ∨ j = 4 ∨ j = 5) with rfl | rfl | rfl | rfl | rfl | rfl
      · exact absurd rfl c0
      · exact absurd rfl c1
      · exact absurd rfl c2
      · exact absurd rfl c3
      · exact absurd rfl c4
      · exact absurd rfl c5
  · rw [if_neg cx, if_neg cx]
    have k0 : wp (f_X10_tried_35 v x (nI n) M') (fun q => q.1 = -1 ∧ mQ M' q.2) := by
      unfold f_X10_tried_35 f_X10_tried_36
      exact wp_pos rfl (wp_some ⟨rfl, mQ_rf _⟩)
    exact ⟨-1, wp_some ⟨rfl, cQ_rf _⟩, wp_if (fun _ => k0) (fun q => wp_if (fun _ => k0) (fun q2 => k0))⟩
end RU2
