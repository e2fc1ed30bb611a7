/-! PURE 17: questions of weeks to come -/
section RUN
variable {C M S : Mem} {N : TN} {T : WS} {L : LWS} {W : WS} {nu : Nat → Nat} {cf : Nat → Int32}
theorem clL_b (v : Int64) {m : Nat} (hm : m ≤ 1000) : ∃ k, k ≤ m ∧ clL v (nI m) = nI k := by
  unfold clL mnL mxL
  rw [nI_l (by omega)]
  by_cases h : v < lN m
  · rw [if_pos h]
    by_cases h0 : (0 : Int64) < v
    · rw [if_pos h0]
      obtain ⟨k, hk, rfl⟩ := pk_lOf (x := v) (Int64.not_lt.mpr (Int64.le_of_lt h0))
      rw [pk_lLT hk (by omega)] at h
      exact ⟨k, by omega, lN_i k⟩
    · rw [if_neg h0]
      exact ⟨0, by omega, rfl⟩
  · rw [if_neg h]
    by_cases h0 : (0 : Int64) < lN m
    · rw [if_pos h0]
      exact ⟨m, by omega, lN_i m⟩
    · rw [if_neg h0]
      exact ⟨0, by omega, rfl⟩
theorem odds_b (hI : TI N T L) {k d : Nat} (hk : k ≤ 9) : ∃ o, o ≤ 100 ∧ sOdds N T L W (nI k) d = nI o := by
  unfold sOdds byL
  cases lawV (L 0) (nmD N T W (nI k) d) with
  | some v => exact clL_b v (m := 100) (by omega)
  | none =>
    obtain ⟨m, hm, e⟩ := nI_of2 (M := 100) (n := 100) rfl (Int32.not_lt.mpr hI.2.2.2.2.1) hI.2.2.2.2.2.1
    show ∃ o, o ≤ 100 ∧ mx 0 (T 0 0 - 10 * nI k) = nI o
    rw [e, show (10 : Int32) = nI 10 from rfl, pk_mul]
    unfold mx
    rcases Nat.lt_or_ge m (10 * k) with h | h
    · rw [if_neg (Int32.not_lt.mpr (Int32.le_of_lt (pk_sneg (by omega) h)))]
      exact ⟨0, by omega, rfl⟩
    · rw [pk_sub h]
      by_cases q : (0 : Int32) < nI (m - 10 * k)
      · rw [if_pos q]; exact ⟨m - 10 * k, by omega, rfl⟩
      · rw [if_neg q]; exact ⟨0, by omega, rfl⟩
def fStep (N : TN) (T : WS) (L : LWS) (W : WS) (d i : Nat) (b : Option Nat) : Option Nat :=
  if N 2 i ≠ ow N d then (match b with
    | none => some i
    | some e => if sOdds N T L W (caN N e) d ≤ sOdds N T L W (caN N i) d then some e else some i) else b
def eO (N : TN) (T : WS) (L : LWS) (W : WS) (d : Nat) (z : Int32) (b : Option Nat) : Int32 := match b with
  | none => z
  | some e => sOdds N T L W (caN N e) d
theorem q_safest (h : Cp C M) (v : Int32) : both C M (f_X9_safest v C) (f_X10_safest v M) := by
  unfold f_X10_safest
  refine both_m h ?_
  intro N T L W nu M' hq
  unfold f_X9_safest
  obtain ⟨-, -, ⟨hT, hM, hI⟩, ⟨hR, hR', ⟨-, hn⟩⟩, -, -, -, -, h43, h44⟩ := hq
  have hnd := hI.2.1
  have hnn := hI.1
  rcases ix_d v (n := N 0 1) (by omega) with ⟨d, hd, rfl⟩ | hv
  · have eh : f_X10_isHeld 0 (nI d) M' = some (b01 (bt (W 0 3) d), M') := heldR_M (t := 0) hR' (by omega) hnd hd
    rw [heldD_C hT hI hR hd, bnd_some, doll_M1 hM hI hd, bnd_some, if_neg n10, eh, bnd_some]
    have how : ow N d < 2 := by unfold ow; omega
    have hn5 := (hI.2.2.2.1 d hd).1
    have hn2 := (hI.2.2.1 _ hn5).1
    unfold b01
    by_cases q : bt (W 0 3) d = true
    · rw [if_pos q, if_neg n10, if_neg n10]
      refine ⟨eM (itN (fStep N T L W d) (N 0 0) none), ?_, ?_⟩
      · refine lp0 (fun fuel i (s : Option Nat × Mem) => f_X9_safest_18 fuel (nI d) (eM s.1) (eO N T L W d 101 s.1) i s.2) (N 0 0) (fun j s => s.1 = itN (fStep N T L W d) j none ∧ frN 53 C s.2) (by omega) (none, C) ⟨rfl, fun _ _ => rfl, fun _ _ _ _ => rfl⟩ ?_ ?_
        · rintro fuel ⟨b, S⟩ ⟨hb, f⟩
          simp only at hb f
          show wp (f_X9_safest_18 (fuel + 1) (nI d) (eM b) (eO N T L W d 101 b) (nI (N 0 0)) S) _
          unfold f_X9_safest_18
          rw [(TC_n hT f).1]
          exact wp_pos (Int32.le_refl _) (wp_some ⟨by rw [hb], cQ_n f⟩)
        · rintro fuel i ⟨b, S⟩ hi ⟨hb, f⟩ ih
          simp only at hb f ih
          show wp (f_X9_safest_18 (fuel + 1) (nI d) (eM b) (eO N T L W d 101 b) (nI i) S) _
          unfold f_X9_safest_18
          have hT1 := TC_n hT f
          have hR1 := RC_n hR f
          rw [hT1.1]
          refine wp_neg (nI_ge hi (by omega)) ?_
          have hi2 := (hI.2.2.1 i hi)
          refine wp_rd i rfl (by omega) (hT1.2.2.2.1 i hi).2.1 ?_
          refine wp_rd d rfl (by omega) (hT1.2.2.2.2.1 d hd).2.2.1 ?_
          rw [itN_s, ← hb] at ih
          refine wp_if (fun q => ?_) (fun q => ?_)
          · rw [nI_eq (by omega) (by omega)] at q
            rw [nI_1]; exact ih (b, S) ⟨by unfold fStep; rw [if_neg (fun e => e q)], f⟩
          · have q : N 2 i ≠ ow N d := fun e => q (by rw [e])
            refine wp_rd i rfl (by omega) (hT1.2.2.2.1 i hi).2.2 ?_
            refine wp_bnd (oddsR_C hT1 hI hR1 hn hd _) ?_
            rintro r S2 ⟨hr, f2⟩
            simp only at hr f2
            have f3 : frN 53 C S2 := ⟨fun c hc => (f2.1 c hc).trans (f.1 c hc), fun c a b e => (f2.2 c a b e).trans (f.2 c a b e)⟩
            cases b with
            | none =>
              obtain ⟨o, ho, eo⟩ := odds_b (W := W) hI (d := d) hi2.2
              refine wp_neg ?_ ?_
              · rw [hr, eo]
                exact nI_ge (b := 101) (by omega) (by omega)
              · rw [nI_1, hr]; exact ih (some i, S2) ⟨by simp [fStep, q], f3⟩
            | some e =>
              refine wp_if (fun q2 => ?_) (fun q2 => ?_)
              · rw [hr] at q2
                have q2 : sOdds N T L W (caN N e) d ≤ sOdds N T L W (caN N i) d := q2
                rw [nI_1]; exact ih (some e, S2) ⟨by simp [fStep, q, q2], f3⟩
              · rw [hr] at q2
                have q2 : ¬ sOdds N T L W (caN N e) d ≤ sOdds N T L W (caN N i) d := q2
                rw [nI_1, hr]; exact ih (some i, S2) ⟨by simp [fStep, q, q2], f3⟩
      · refine lp0 (fun fuel i (s : Option Nat × Mem) => f_X10_safest_31 fuel (nI d) (eM s.1) (eO N T L W d 0 s.1) i s.2) (N 0 0) (fun j s => s.1 = itN (fStep N T L W d) j none ∧ frS M' s.2 ∧ ∀ e, s.1 = some e → e < N 0 0) (by omega) (none, M') ⟨rfl, frS_rf _, fun e he => by cases he⟩ ?_ ?_
        · rintro fuel ⟨b, S⟩ ⟨hb, f, -⟩
          simp only at hb f
          show wp (f_X10_safest_31 (fuel + 1) (nI d) (eM b) (eO N T L W d 0 b) (nI (N 0 0)) S) _
          unfold f_X10_safest_31
          refine wp_rd 0 rfl (by decide) (TM_S hM f).1 ?_
          exact wp_pos (Int32.le_refl _) (wp_some ⟨by rw [hb], mQ_S f⟩)
        · rintro fuel i ⟨b, S⟩ hi ⟨hb, f, hlt⟩ ih
          simp only at hb f ih hlt
          show wp (f_X10_safest_31 (fuel + 1) (nI d) (eM b) (eO N T L W d 0 b) (nI i) S) _
          unfold f_X10_safest_31
          have hM1 := TM_S hM f
          have hR1 := RM_S hR' hnd f
          have g43 : S.1 0 43 = 0 := by rw [f 0 43 (by omega)]; exact h43
          have g44 : S.1 0 44 = -1 := by rw [f 0 44 (by omega)]; exact h44
          refine wp_rd 0 rfl (by decide) hM1.1 ?_
          refine wp_neg (nI_ge hi (by omega)) ?_
          have hi2 := (hI.2.2.1 i hi)
          refine wp_rd i rfl (by omega) (hM1.2.2.2.1 i hi).2.1 ?_
          refine wp_rd d rfl (by omega) (hM1.2.2.2.2.1 d hd).2.1 ?_
          refine wp_rd (N 5 d) rfl (by omega) (hM1.2.2.2.1 _ hn5).2.1 ?_
          rw [itN_s, ← hb] at ih
          have eow : ow N d = 1 - N 2 (N 5 d) := rfl
          refine wp_if (fun q => ?_) (fun q => ?_)
          · rw [nI_eq (by omega) (by omega)] at q
            have q : N 2 i ≠ ow N d := by omega
            refine wp_bnd (mothsR_M hM1 hI hR1 hn g43 g44 hd hi) ?_
            rintro r S2 ⟨hr, f2⟩
            simp only at hr f2
            have f3 := frS_tr f f2
            unfold f_X10_safest_90
            cases b with
            | none =>
              refine wp_pos rfl ?_
              rw [nI_1, hr]; exact ih (some i, S2) ⟨by simp [fStep, q], f3, fun e he => by cases he; exact hi⟩
            | some e =>
              have he := hlt e rfl
              refine wp_neg (nI_n1 (by omega)) ?_
              refine wp_if (fun q2 => ?_) (fun q2 => ?_)
              · rw [hr] at q2
                have q2 : ¬ sOdds N T L W (caN N e) d ≤ sOdds N T L W (caN N i) d := Int32.not_le.mpr q2
                rw [nI_1, hr]; exact ih (some i, S2) ⟨by simp [fStep, q, q2], f3, fun e he => by cases he; exact hi⟩
              · rw [hr] at q2
                have q2 : sOdds N T L W (caN N e) d ≤ sOdds N T L W (caN N i) d := Int32.not_lt.mp q2
                rw [nI_1]; exact ih (some e, S2) ⟨by simp [fStep, q, q2], f3, hlt⟩
          · have q : ¬ N 2 i ≠ ow N d := by
              intro e
              apply q
              rw [show N 2 i = N 2 (N 5 d) by omega]
            rw [nI_1]; exact ih (b, S) ⟨by unfold fStep; rw [if_neg q], f, hlt⟩
    · rw [if_neg q]
      exact bq _ rfl rfl
  · rw [heldD_C0 hT hv, bnd_some, doll_M0 hM hv, bnd_some]
    exact bq _ rfl rfl
/-! weeks tried -/
theorem TC_q (h : TC C N T L) (f : cQ C S) : TC S N T L := TC_to h (fun k a b => funext fun i => f.1 k i (by omega) (by omega))
theorem TM_q (h : TM M N T L) (f : mQ M S) : TM S N T L := TM_to h (fun c i a b => f c i (by unfold mX chC; omega))
theorem RC53_q (h : RC 53 C N W nu cf) (f : cQ C S) : RC 53 S N W nu cf := RC_to h (fun c i a b q => f.1 c i (by omega) (by omega)) (by rw [f.2 53 (by omega) (by omega) (by omega) (by omega)])
theorem RM0_q (h : RM 0 M N W nu) (hnd : N 0 1 ≤ 10) (f : mQ M S) : RM 0 S N W nu := RM_to h hnd (fun c i q => f c i (by unfold mX; unfold chC at q ⊢; omega))
theorem how0 {x : Int32} (h : x = 0) : howM x false 0 := by subst h; exact ⟨rfl, by decide, by decide, by decide⟩
theorem how1 {x : Int32} (h : x = 0) : howM x true 1 := by subst h; exact ⟨rfl, by decide, by decide, by decide⟩
theorem m43 (h : M.1 0 43 = 0) (f : mQ M S) : S.1 0 43 = 0 := by rw [f 0 43 (by unfold mX chC; omega)]; exact h
theorem m44 (h : M.1 0 44 = -1) (f : mQ M S) : S.1 0 44 = -1 := by rw [f 0 44 (by unfold mX chC; omega)]; exact h
theorem take_q (hT : TC C N T L) (hI : TI N T L) (h : RC 53 C N W nu cf) : wp (f_X8_take 69 53 C) (fun S => RC 69 S N W nu cf ∧ cQ C S) :=
  wp_mono (take_C (Or.inl ⟨rfl, rfl⟩) hI h) (fun S h => ⟨h.1, cQ_t h.2⟩)
theorem run_q (hT : TC C N T L) (hI : TI N T L) (hn : nuI N nu) {S : Mem} (f : cQ C S) (h : RC 69 S N W nu cf) {how n : Nat} (hh : how = 0 ∨ how = 1 ∨ how = 2 ∨ how = 4 ∨ how = 8) (hnn : n < 1000) :
    wp (f_X8_run 69 (nI n) (nI how) S) (fun S' => RC 69 S' N (sRun N T L (fun d => cf (nu d)) how n W) nu cf ∧ cQ C S') :=
  wp_mono (run_RC (Or.inr rfl) (TC_q hT f) hI h hn hh hnn) (fun S' h => ⟨h.1, cQ_tr f (cQ_69 h.2)⟩)
theorem copies_q (hI : TI N T L) (h : RM 0 M N W nu) : wp (f_X10_copies 1 0 M) (fun S => RM 1 S N W nu ∧ mQ M S) :=
  wp_mono (copies_M (a := 1) (b := 0) (by omega) (by omega) (by omega)) (fun S q => ⟨cpM_R q.1 hI.2.1 h, mQ_C q.2⟩)
theorem cin_q (hM : TM M N T L) (hI : TI N T L) (h43 : M.1 0 43 = 0) (h44 : M.1 0 44 = -1) {S : Mem} (f : mQ M S) : ∀ i, i < N 0 0 → cin S i = caN N i := fun i hi => cin0 (TM_q hM f) (m43 h43 f) (m44 h44 f) hi hI
theorem pass_q (hM : TM M N T L) (hI : TI N T L) (hn : nuI N nu) (h43 : M.1 0 43 = 0) (h44 : M.1 0 44 = -1) {S : Mem} (f : mQ M S) (h : RM 1 S N W nu) (bn : Bool) :
    wp (f_X10_passes 1 (if bn = true then 1 else 0) S) (fun S' => RM 1 S' N (sWeek N T L (fun d => caN N (nu d)) (if bn = true then 1 else 0) W) nu ∧ mQ M S') := by
  cases bn with
  | false => exact wp_mono (pass_RM (t := 1) (bn := false) (how := 0) (TM_q hM f) hI h hn (cin_q hM hI h43 h44 f) (by omega) (how0 (m43 h43 f))) (fun S' h => ⟨h.1, mQ_tr f (mQ_M h.2)⟩)
  | true => exact wp_mono (pass_RM (t := 1) (bn := true) (how := 1) (TM_q hM f) hI h hn (cin_q hM hI h43 h44 f) (by omega) (how1 (m43 h43 f))) (fun S' h => ⟨h.1, mQ_tr f (mQ_M h.2)⟩)
theorem goes_q (hM : TM M N T L) (hI : TI N T L) (hn : nuI N nu) (h43 : M.1 0 43 = 0) (h44 : M.1 0 44 = -1) {S : Mem} (f : mQ M S) (h : RM 1 S N W nu) {n : Nat} (hnn : n < 1000) :
    wp (f_X10_goesOn (nI n) S) (fun S' => RM 1 S' N (sRun N T L (fun d => caN N (nu d)) 0 n W) nu ∧ mQ M S') :=
  wp_mono (goes_RM (TM_q hM f) hI h hn (cin_q hM hI h43 h44 f) (how0 (m43 h43 f)) hnn) (fun S' h => ⟨h.1, mQ_tr f (mQ_M h.2)⟩)
/-- the runs ahead, by class and reference -/
theorem gone_C (hT : TC C N T L) (hI : TI N T L) (hn : nuI N nu) (h : RC 53 C N W nu cf) {n : Nat} (hnn : n < 1000) :
    wp (f_X9_goneAhead (nI n) C) (fun S' => RC 69 S' N (sRun N T L (fun d => cf (nu d)) 0 n W) nu cf ∧ cQ C S') := by
  unfold f_X9_goneAhead
  refine wp_call (take_q hT hI h) ?_
  rintro S1 ⟨h1, f1⟩
  refine wp_call (run_q (how := 0) hT hI hn f1 h1 (Or.inl rfl) hnn) ?_
  rintro S2 h2
  exact wp_some h2
theorem runs_M (hM : TM M N T L) (hI : TI N T L) (hn : nuI N nu) (h43 : M.1 0 43 = 0) (h44 : M.1 0 44 = -1) (h : RM 0 M N W nu) {n : Nat} (hnn : n < 1000) :
    wp (f_X10_runs (nI n) M) (fun S' => RM 1 S' N (sRun N T L (fun d => caN N (nu d)) 0 n W) nu ∧ mQ M S') := by
  unfold f_X10_runs
  refine wp_call (copies_q hI h) ?_
  rintro S1 ⟨h1, f1⟩
  refine wp_call (goes_q hM hI hn h43 h44 f1 h1 hnn) ?_
  rintro S2 h2
  exact wp_some h2
theorem q_ahead (h : Cp C M) (v x y : Int32) : both C M (f_X9_ahead v x y C) (f_X10_ahead v x y M) := by
  unfold f_X10_ahead
  refine both_m h ?_
  intro N T L W nu M' hq
  unfold f_X9_ahead
  obtain ⟨-, -, ⟨hT, hM, hI⟩, ⟨hR, hR', ⟨-, hn⟩⟩, -, -, -, -, h43, h44⟩ := hq
  have hnd := hI.2.1
  by_cases a1 : v < 0
  · rw [if_pos a1, if_pos a1]; exact bq _ rfl rfl
  rw [if_neg a1, if_neg a1]
  by_cases a2 : 60 < v
  · rw [if_neg (Int32.not_le.mpr a2), if_pos a2]; exact bq _ rfl rfl
  rw [if_pos (Int32.not_lt.mp a2), if_neg a2]
  obtain ⟨n, hn60, rfl⟩ := nI_of2 (M := 60) (n := 60) rfl a1 (Int32.not_lt.mp a2)
  have gc := gone_C (cf := caN N) hT hI hn hR (n := n) (by omega)
  have gm := runs_M hM hI hn h43 h44 hR' (n := n) (by omega)
  by_cases c0 : x = 0
  · subst c0
    rw [if_pos rfl, if_neg (by decide), if_neg (by decide), if_pos rfl]
    rcases ix_d y (n := N 0 1) (by omega) with ⟨d, hd, rfl⟩ | hy
    · rw [doll_C1 hT hI hd, bnd_some, doll_M1 hM hI hd, bnd_some, if_neg n10, if_neg n10]
      refine ⟨sRun N T L (fun d => caN N (nu d)) 0 n W 2 d, wp_call gc ?_, ?_⟩
      · rintro S ⟨h1, f1⟩
        refine wp_rd d rfl (by omega) (h1.2.2.2.2.1 d hd).2.1 (wp_some ⟨rfl, f1⟩)
      · unfold f_X10_ahead_36
        refine wp_neg (by decide) ?_
        unfold f_X10_ahead_50
        refine wp_call gm ?_
        rintro S ⟨h1, f1⟩
        refine wp_pos rfl ?_
        exact wp_rd (10 * 1 + d) (nI_add 10 d) (by omega) (h1.2.2.2.1 d hd).2.1 (wp_some ⟨rfl, f1⟩)
    · rw [doll_C0 hT hy, bnd_some, doll_M0 hM hy, bnd_some, if_pos rfl, if_pos rfl]
      unfold f_X9_ahead_35 f_X9_ahead_58
      rw [if_neg (by decide), if_neg (by decide)]
      exact bq _ rfl rfl
  rw [if_neg c0]
  unfold f_X9_ahead_35
  by_cases c1 : x = 1
  · subst c1
    rw [if_pos rfl, if_neg (by decide), if_neg (by decide), if_neg (by decide)]
    unfold f_X10_ahead_36
    rw [if_pos rfl]
    rcases ix_c y with ⟨c, hc, rfl⟩ | hy
    · rw [city_C1 hc, bnd_some, city_M1 hc, bnd_some, if_neg n10, if_neg n10]
      refine ⟨sRun N T L (fun d => caN N (nu d)) 0 n W 5 c, wp_call gc ?_, ?_⟩
      · rintro S ⟨h1, f1⟩
        refine wp_rd c rfl hc (h1.2.2.2.2.2.1 c hc).1 (wp_some ⟨rfl, f1⟩)
      · unfold f_X10_ahead_50
        refine wp_call gm ?_
        rintro S ⟨h1, f1⟩
        refine wp_neg (by decide) (wp_pos rfl ?_)
        exact wp_rd (2 * 1 + c) (nI_add 2 c) (by omega) (h1.2.2.2.2 c hc).1 (wp_some ⟨rfl, f1⟩)
    · rw [city_C0 hy, bnd_some, city_M0 hy, bnd_some, if_pos rfl, if_pos rfl]
      unfold f_X9_ahead_58
      rw [if_neg (by decide)]
      exact bq _ rfl rfl
  rw [if_neg c1]
  unfold f_X9_ahead_58
  by_cases c2 : x = 2
  · subst c2
    rw [if_pos rfl, if_neg (by decide), if_neg (by decide), if_neg (by decide)]
    unfold f_X10_ahead_36
    rw [if_neg (show ¬ (2 : Int32) = 1 by decide)]
    refine ⟨(sRun N T L (fun d => caN N (nu d)) 0 n W 6 0 + sRun N T L (fun d => caN N (nu d)) 0 n W 6 1) - (W 6 0 + W 6 1), wp_call gc ?_, ?_⟩
    · rintro S ⟨h1, f1⟩
      refine wp_bnde (bre_C h1) ?_
      refine wp_bnde (bre_C (RC53_q hR f1)) ?_
      exact wp_some ⟨rfl, f1⟩
    · unfold f_X10_ahead_50
      refine wp_call gm ?_
      rintro S ⟨h1, f1⟩
      refine wp_neg (by decide) (wp_neg (by decide) ?_)
      refine wp_bnde (bre_M (t := 1) (by omega) h1) ?_
      refine wp_bnde (bre_M (t := 0) (by omega) (RM0_q hR' hnd f1)) ?_
      exact wp_some ⟨rfl, f1⟩
  · rw [if_neg c2]
    refine ⟨-1, wp_some ⟨rfl, cQ_rf _⟩, ?_⟩
    refine wp_if (fun _ => wp_some ⟨rfl, mQ_rf _⟩) (fun q => ?_)
    refine wp_if (fun _ => wp_some ⟨rfl, mQ_rf _⟩) (fun q2 => ?_)
    obtain ⟨j, hj, rfl⟩ := nI_of2 (M := 2) (n := 2) rfl q (Int32.not_lt.mp q2)
    rcases (by omega : j = 0 ∨ j = 1 ∨ j = 2) with rfl | rfl | rfl
    · exact absurd rfl c0
    · exact absurd rfl c1
    · exact absurd rfl c2
/-- the first from a up to n with P; -2 without -/
def isF (P : Nat → Prop) (a n : Nat) (r : Int32) : Prop := (∃ j, a ≤ j ∧ j < n ∧ P j ∧ (∀ i, a ≤ i → i < j → ¬ P i) ∧ r = nI j) ∨ ((∀ i, a ≤ i → i < n → ¬ P i) ∧ r = -2)
theorem isF_u {P : Nat → Prop} {a n : Nat} {r r' : Int32} (h : isF P a n r) (h' : isF P a n r') : r = r' := by
  rcases h with ⟨j, x1, x2, x3, x4, rfl⟩ | ⟨x, rfl⟩
  · rcases h' with ⟨j', y1, y2, y3, y4, rfl⟩ | ⟨y, rfl⟩
    · have : j = j' := by
        rcases Nat.lt_trichotomy j j' with q | q | q
        · exact absurd x3 (y4 j x1 q)
        · exact q
        · exact absurd y3 (x4 j' y1 q)
      rw [this]
    · exact absurd x3 (y j x1 x2)
  · rcases h' with ⟨j', y1, y2, y3, y4, rfl⟩ | ⟨y, rfl⟩
    · exact absurd y3 (x j' y1 y2)
    · rfl
theorem isF_s {P : Nat → Prop} {a j : Nat} (h : ∀ i, a ≤ i → i < j → ¬ P i) (q : ¬ P j) : ∀ i, a ≤ i → i < j + 1 → ¬ P i := fun i h1 h2 => by
  rcases (by omega : i < j ∨ i = j) with h' | rfl
  · exact h i h1 h'
  · exact q
theorem both_F {C M : Mem} {x y : Option (Int32 × Mem)} {P : Nat → Prop} {a n : Nat} (hx : wp x (fun q => isF P a n q.1 ∧ cQ C q.2)) (hy : wp y (fun q => isF P a n q.1 ∧ mQ M q.2)) : ∃ r, wp x (fun q => q.1 = r ∧ cQ C q.2) ∧ wp y (fun q => q.1 = r ∧ mQ M q.2) := by
  obtain ⟨⟨r, S⟩, e, h1, h2⟩ := hx
  exact ⟨r, wp_of e ⟨rfl, h2⟩, wp_mono hy (fun q hq => ⟨isF_u hq.1 h1, hq.2⟩)⟩
theorem run1 {cd : Nat → Int32} {how j : Nat} : sRun N T L cd how 1 (sRun N T L cd how j W) = sRun N T L cd how (j + 1) W := rfl
theorem q_firstBreach (h : Cp C M) : both C M (f_X9_firstBreach C) (f_X10_firstBreach M) := by
  unfold f_X10_firstBreach
  refine both_m h ?_
  intro N T L W nu M' hq
  unfold f_X9_firstBreach
  obtain ⟨-, -, ⟨hT, hM, hI⟩, ⟨hR, hR', ⟨-, hn⟩⟩, -, -, -, -, h43, h44⟩ := hq
  have hnd := hI.2.1
  refine both_F (P := fun j => ¬ (sRun N T L (fun d => caN N (nu d)) 0 j W 6 0 + sRun N T L (fun d => caN N (nu d)) 0 j W 6 1 ≤ W 6 0 + W 6 1)) (a := 1) (n := 100) ?_ ?_
  · refine wp_call (take_q hT hI hR) ?_
    rintro S1 ⟨h1, f1⟩
    refine lpF (fun fuel i S => f_X9_firstBreach_13 fuel i S) 1 100 (fun j S => 1 ≤ j ∧ RC 69 S N (sRun N T L (fun d => caN N (nu d)) 0 (j - 1) W) nu (caN N) ∧ cQ C S ∧ ∀ i, 1 ≤ i → i < j → ¬ ¬ (sRun N T L (fun d => caN N (nu d)) 0 i W 6 0 + sRun N T L (fun d => caN N (nu d)) 0 i W 6 1 ≤ W 6 0 + W 6 1)) (by omega) (by omega) S1 ⟨Nat.le_refl _, h1, f1, fun i a b => absurd a (by omega)⟩ ?_ ?_
    · rintro fuel S ⟨-, hS, f, hno⟩
      exact wp_pos (by decide) (wp_some ⟨Or.inr ⟨hno, rfl⟩, f⟩)
    · rintro fuel j S hj ⟨hj1, hS, f, hno⟩ ih
      try simp only at ih
      show wp (f_X9_firstBreach_13 (fuel + 1) (nI j) S) _
      unfold f_X9_firstBreach_13
      refine wp_neg (show ¬ nI 99 < nI j from nI_nlt (by omega) (by omega)) ?_
      refine wp_call (run_q (how := 0) (n := 1) hT hI hn f hS (Or.inl rfl) (by omega)) ?_
      rintro S2 ⟨h2, f2⟩
      rw [run1, Nat.sub_add_cancel hj1] at h2
      refine wp_bnde (bre_C h2) ?_
      refine wp_bnde (bre_C (RC53_q hR f2)) ?_
      refine wp_if (fun q => ?_) (fun q => ?_)
      · rw [nI_1]
        exact ih S2 ⟨by omega, h2, f2, isF_s hno (fun e => e q)⟩
      · exact wp_some ⟨Or.inl ⟨j, hj1, hj, q, hno, rfl⟩, f2⟩
  · refine wp_call (copies_q hI hR') ?_
    rintro S1 ⟨h1, f1⟩
    refine lpF (fun fuel i S => f_X10_firstBreach_13 fuel i S) 1 100 (fun j S => 1 ≤ j ∧ RM 1 S N (sRun N T L (fun d => caN N (nu d)) 0 (j - 1) W) nu ∧ mQ M' S ∧ ∀ i, 1 ≤ i → i < j → ¬ ¬ (sRun N T L (fun d => caN N (nu d)) 0 i W 6 0 + sRun N T L (fun d => caN N (nu d)) 0 i W 6 1 ≤ W 6 0 + W 6 1)) (by omega) (by omega) S1 ⟨Nat.le_refl _, h1, f1, fun i a b => absurd a (by omega)⟩ ?_ ?_
    · rintro fuel S ⟨-, hS, f, hno⟩
      exact wp_pos (by decide) (wp_some ⟨Or.inr ⟨hno, rfl⟩, f⟩)
    · rintro fuel j S hj ⟨hj1, hS, f, hno⟩ ih
      try simp only at ih
      show wp (f_X10_firstBreach_13 (fuel + 1) (nI j) S) _
      unfold f_X10_firstBreach_13
      refine wp_neg (show ¬ nI 99 < nI j from nI_nlt (by omega) (by omega)) ?_
      refine wp_call (pass_q hM hI hn h43 h44 f hS false) ?_
      rintro S2 ⟨h2, f2⟩
      have h2 : RM 1 S2 N (sRun N T L (fun d => caN N (nu d)) 0 (j - 1 + 1) W) nu := h2
      rw [Nat.sub_add_cancel hj1] at h2
      refine wp_bnde (bre_M (t := 1) (by omega) h2) ?_
      refine wp_bnde (bre_M (t := 0) (by omega) (RM0_q hR' hnd f2)) ?_
      refine wp_if (fun q => ?_) (fun q => ?_)
      · rw [nI_1]
        exact ih S2 ⟨by omega, h2, f2, isF_s hno (fun e => e q)⟩
      · exact wp_some ⟨Or.inl ⟨j, hj1, hj, q, hno, rfl⟩, f2⟩
theorem q_quiet (h : Cp C M) : both C M (f_X9_quiet C) (f_X10_quiet M) := by
  unfold f_X10_quiet
  refine both_m h ?_
  intro N T L W nu M' hq
  unfold f_X9_quiet
  obtain ⟨-, -, ⟨hT, hM, hI⟩, ⟨hR, hR', ⟨-, hn⟩⟩, -, -, -, -, h43, h44⟩ := hq
  have hnd := hI.2.1
  refine both_F (P := fun j => sRun N T L (fun d => caN N (nu d)) 0 j W 5 0 + sRun N T L (fun d => caN N (nu d)) 0 j W 5 1 = 0) (a := 0) (n := 100) ?_ ?_
  · refine wp_call (take_q hT hI hR) ?_
    rintro S1 ⟨h1, f1⟩
    refine lp0 (fun fuel i S => f_X9_quiet_13 fuel i S) 100 (fun j S => RC 69 S N (sRun N T L (fun d => caN N (nu d)) 0 j W) nu (caN N) ∧ cQ C S ∧ ∀ i, 0 ≤ i → i < j → ¬ (sRun N T L (fun d => caN N (nu d)) 0 i W 5 0 + sRun N T L (fun d => caN N (nu d)) 0 i W 5 1 = 0)) (by omega) S1 ⟨h1, f1, fun i a b => absurd b (by omega)⟩ ?_ ?_
    · rintro fuel S ⟨hS, f, hno⟩
      exact wp_pos (by decide) (wp_some ⟨Or.inr ⟨hno, rfl⟩, f⟩)
    · rintro fuel j S hj ⟨hS, f, hno⟩ ih
      try simp only at ih
      show wp (f_X9_quiet_13 (fuel + 1) (nI j) S) _
      unfold f_X9_quiet_13
      refine wp_neg (show ¬ nI 99 < nI j from nI_nlt (by omega) (by omega)) ?_
      refine wp_bnde (ang_C hS) ?_
      refine wp_if (fun q => ?_) (fun q => ?_)
      · exact wp_some ⟨Or.inl ⟨j, by omega, hj, q, hno, rfl⟩, f⟩
      · refine wp_call (run_q (how := 0) (n := 1) hT hI hn f hS (Or.inl rfl) (by omega)) ?_
        rintro S2 ⟨h2, f2⟩
        rw [nI_1]
        exact ih S2 ⟨h2, f2, isF_s (P := fun i => sRun N T L (fun d => caN N (nu d)) 0 i W 5 0 + sRun N T L (fun d => caN N (nu d)) 0 i W 5 1 = 0) hno q⟩
  · refine wp_call (copies_q hI hR') ?_
    rintro S1 ⟨h1, f1⟩
    refine lp0 (fun fuel i S => f_X10_quiet_13 fuel i S) 100 (fun j S => RM 1 S N (sRun N T L (fun d => caN N (nu d)) 0 j W) nu ∧ mQ M' S ∧ ∀ i, 0 ≤ i → i < j → ¬ (sRun N T L (fun d => caN N (nu d)) 0 i W 5 0 + sRun N T L (fun d => caN N (nu d)) 0 i W 5 1 = 0)) (by omega) S1 ⟨h1, f1, fun i a b => absurd b (by omega)⟩ ?_ ?_
    · rintro fuel S ⟨hS, f, hno⟩
      exact wp_pos (by decide) (wp_some ⟨Or.inr ⟨hno, rfl⟩, f⟩)
    · rintro fuel j S hj ⟨hS, f, hno⟩ ih
      try simp only at ih
      show wp (f_X10_quiet_13 (fuel + 1) (nI j) S) _
      unfold f_X10_quiet_13
      refine wp_neg (show ¬ nI 99 < nI j from nI_nlt (by omega) (by omega)) ?_
      refine wp_bnde (ang_M (t := 1) (by omega) hS) ?_
      refine wp_if (fun q => ?_) (fun q => ?_)
      · exact wp_some ⟨Or.inl ⟨j, by omega, hj, q, hno, rfl⟩, f⟩
      · refine wp_call (pass_q hM hI hn h43 h44 f hS false) ?_
        rintro S2 ⟨h2, f2⟩
        rw [nI_1]
        exact ih S2 ⟨h2, f2, isF_s (P := fun i => sRun N T L (fun d => caN N (nu d)) 0 i W 5 0 + sRun N T L (fun d => caN N (nu d)) 0 i W 5 1 = 0) hno q⟩
theorem q_until (h : Cp C M) (v x : Int32) : both C M (f_X9_until v x C) (f_X10_until v x M) := by
  unfold f_X10_until
  refine both_m h ?_
  intro N T L W nu M' hq
  unfold f_X9_until
  obtain ⟨-, -, ⟨hT, hM, hI⟩, ⟨hR, hR', ⟨-, hn⟩⟩, -, -, -, -, h43, h44⟩ := hq
  have hnd := hI.2.1
  rcases ix_d v (n := N 0 1) (by omega) with ⟨d, hd, rfl⟩ | hv
  · rw [doll_C1 hT hI hd, bnd_some, doll_M1 hM hI hd, bnd_some, if_neg n10, if_neg n10]
    by_cases a1 : x < 0
    · rw [if_pos a1, if_pos a1]; exact bq _ rfl rfl
    rw [if_neg a1, if_neg a1]
    by_cases a2 : x ≤ 9
    · rw [if_pos a2, if_pos a2]
      refine both_F (P := fun j => ¬ sRun N T L (fun d => caN N (nu d)) 0 j W 2 d < x) (a := 0) (n := 100) ?_ ?_
      · refine wp_call (take_q hT hI hR) ?_
        rintro S1 ⟨h1, f1⟩
        refine lp0 (fun fuel i S => f_X9_until_33 fuel (nI d) x i S) 100 (fun j S => RC 69 S N (sRun N T L (fun d => caN N (nu d)) 0 j W) nu (caN N) ∧ cQ C S ∧ ∀ i, 0 ≤ i → i < j → ¬ ¬ sRun N T L (fun d => caN N (nu d)) 0 i W 2 d < x) (by omega) S1 ⟨h1, f1, fun i a b => absurd b (by omega)⟩ ?_ ?_
        · rintro fuel S ⟨hS, f, hno⟩
          exact wp_pos (by decide) (wp_some ⟨Or.inr ⟨hno, rfl⟩, f⟩)
        · rintro fuel j S hj ⟨hS, f, hno⟩ ih
          try simp only at ih
          show wp (f_X9_until_33 (fuel + 1) (nI d) x (nI j) S) _
          unfold f_X9_until_33
          refine wp_neg (show ¬ nI 99 < nI j from nI_nlt (by omega) (by omega)) ?_
          refine wp_rd d rfl (by omega) (hS.2.2.2.2.1 d hd).2.1 ?_
          refine wp_if (fun q => ?_) (fun q => ?_)
          · refine wp_call (run_q (how := 0) (n := 1) hT hI hn f hS (Or.inl rfl) (by omega)) ?_
            rintro S2 ⟨h2, f2⟩
            rw [nI_1]
            exact ih S2 ⟨h2, f2, isF_s (P := fun i => ¬ sRun N T L (fun d => caN N (nu d)) 0 i W 2 d < x) hno (fun e => e q)⟩
          · exact wp_some ⟨Or.inl ⟨j, by omega, hj, q, hno, rfl⟩, f⟩
      · refine wp_call (copies_q hI hR') ?_
        rintro S1 ⟨h1, f1⟩
        refine lp0 (fun fuel i S => f_X10_until_33 fuel (nI d) x i S) 100 (fun j S => RM 1 S N (sRun N T L (fun d => caN N (nu d)) 0 j W) nu ∧ mQ M' S ∧ ∀ i, 0 ≤ i → i < j → ¬ ¬ sRun N T L (fun d => caN N (nu d)) 0 i W 2 d < x) (by omega) S1 ⟨h1, f1, fun i a b => absurd b (by omega)⟩ ?_ ?_
        · rintro fuel S ⟨hS, f, hno⟩
          exact wp_pos (by decide) (wp_some ⟨Or.inr ⟨hno, rfl⟩, f⟩)
        · rintro fuel j S hj ⟨hS, f, hno⟩ ih
          try simp only at ih
          show wp (f_X10_until_33 (fuel + 1) (nI d) x (nI j) S) _
          unfold f_X10_until_33
          refine wp_neg (show ¬ nI 99 < nI j from nI_nlt (by omega) (by omega)) ?_
          refine wp_rd (10 * 1 + d) (nI_add 10 d) (by omega) (hS.2.2.2.1 d hd).2.1 ?_
          refine wp_if (fun q => ?_) (fun q => ?_)
          · refine wp_call (pass_q hM hI hn h43 h44 f hS false) ?_
            rintro S2 ⟨h2, f2⟩
            rw [nI_1]
            exact ih S2 ⟨h2, f2, isF_s (P := fun i => ¬ sRun N T L (fun d => caN N (nu d)) 0 i W 2 d < x) hno (fun e => e q)⟩
          · exact wp_some ⟨Or.inl ⟨j, by omega, hj, q, hno, rfl⟩, f⟩
    · rw [if_neg a2, if_neg a2]; exact bq _ rfl rfl
  · rw [doll_C0 hT hv, bnd_some, doll_M0 hM hv, bnd_some]
    exact bq _ rfl rfl
end RUN
