/-! PURE 21: what stays within its bounds; pieces kept; go, keep, back -/
section STA
variable {C M C' M' S : Mem} {N : TN} {T : WS} {L : LWS} {W : WS} {nu : Nat → Nat} {cd : Nat → Int32}
def WJ (N : TN) (W : WS) : Prop := (∀ d, d < N 0 1 → ∃ k, k ≤ 9 ∧ W 2 d = nI k) ∧ (∀ c, c < 2 → ∃ k, k ≤ 999 ∧ W 5 c = nI k) ∧ (∀ e, bt (W 0 3) e = true → e < N 0 1)
theorem WJ_I (h : WI N W) : WJ N W :=
  ⟨fun d hd => nI_of2 (M := 9) (n := 9) rfl (Int32.not_lt.mpr (h.1 d hd).1) (h.1 d hd).2, fun c hc => nI_of2 (M := 999) (n := 999) rfl (Int32.not_lt.mpr (h.2.1 c hc).1) (h.2.1 c hc).2, h.2.2⟩
theorem WI_J (h : WJ N W) : WI N W := by
  refine ⟨fun d hd => ?_, fun c hc => ?_, h.2.2⟩
  · obtain ⟨k, hk, e⟩ := h.1 d hd
    rw [e]
    exact ⟨nI_pos' (by omega), nI_le (b := 9) hk (by omega)⟩
  · obtain ⟨k, hk, e⟩ := h.2.1 c hc
    rw [e]
    exact ⟨nI_pos' (by omega), nI_le (b := 999) hk (by omega)⟩
theorem WJ_o (h : WJ N W) {r i : Nat} {v : Int32} (h2 : r ≠ 2) (h5 : r ≠ 5) (h3 : ¬ (r = 0 ∧ i = 3)) : WJ N (wu W r i v) := by
  refine ⟨fun d hd => ?_, fun c hc => ?_, fun e he => ?_⟩
  · rw [wu1, if_neg (by omega)]; exact h.1 d hd
  · rw [wu1, if_neg (by omega)]; exact h.2.1 c hc
  · rw [wu1, if_neg (by omega)] at he; exact h.2.2 e he
theorem WJ_2 (h : WJ N W) {i k : Nat} (hk : k ≤ 9) : WJ N (wu W 2 i (nI k)) := by
  refine ⟨fun d hd => ?_, fun c hc => ?_, fun e he => ?_⟩
  · rw [wu1]
    split
    · exact ⟨k, hk, rfl⟩
    · exact h.1 d hd
  · rw [wu1, if_neg (by omega)]; exact h.2.1 c hc
  · rw [wu1, if_neg (by omega)] at he; exact h.2.2 e he
theorem WJ_5 (h : WJ N W) {i k : Nat} (hk : k ≤ 999) : WJ N (wu W 5 i (nI k)) := by
  refine ⟨fun d hd => ?_, fun c hc => ?_, fun e he => ?_⟩
  · rw [wu1, if_neg (by omega)]; exact h.1 d hd
  · rw [wu1]
    split
    · exact ⟨k, hk, rfl⟩
    · exact h.2.1 c hc
  · rw [wu1, if_neg (by omega)] at he; exact h.2.2 e he
theorem mn_b {m a : Nat} (hm : m < 2 ^ 31) (ha : a < 2 ^ 31) : mn (nI m) (nI a) = nI (min m a) := by
  unfold mn
  by_cases h : a < m
  · rw [if_pos (nI_lt h hm), Nat.min_eq_right (by omega)]
  · rw [if_neg (nI_nlt (by omega) ha), Nat.min_eq_left (by omega)]
theorem mx_b {a b : Nat} (ha : a < 2 ^ 30) (hb : b < 2 ^ 30) : mx 0 (nI a - nI b) = nI (a - b) := by
  unfold mx
  rcases Nat.lt_or_ge a b with h | h
  · rw [if_neg (Int32.not_lt.mpr (Int32.le_of_lt (pk_sneg hb h))), show a - b = 0 by omega]; rfl
  · rw [pk_sub h]
    rcases Nat.eq_zero_or_pos (a - b) with q | q
    · rw [q]; rfl
    · rw [if_pos (show (0 : Int32) < nI (a - b) from nI_lt (a := 0) q (by omega))]
theorem byL_b {r : Option Int64} {m p : Nat} (hm : m ≤ 1000) (hp : p ≤ m) : ∃ k, k ≤ m ∧ byL r (nI m) (nI p) = nI k := by
  cases r with
  | none => exact ⟨p, hp, rfl⟩
  | some v => exact clL_b v hm
theorem hurt_J (hI : TI N T L) (h : WJ N W) {d : Nat} (hd : d < N 0 1) : WJ N (sHurt N T L cd W d) := by
  unfold sHurt sHurt1
  have how : ow N d < 2 := by unfold ow; omega
  obtain ⟨k, hk, ek⟩ := h.1 d hd
  obtain ⟨a, ha, ea⟩ := h.2.1 _ how
  obtain ⟨l, hl, el⟩ := nI_of2 (M := 9) (n := 9) rfl (Int32.not_lt.mpr (hI.2.2.2.1 d hd).2.1) (hI.2.2.2.1 d hd).2.2.1
  obtain ⟨b, hb, eb⟩ := byL_b (r := lawV (L 1) (nmD N T (wu (wu W 2 d (mn 9 (W 2 d + 1))) 0 4 (W 0 4 ||| (1 <<< (nI d &&& 31)))) (cd d) d)) (m := 99) (p := l) (by omega) (by omega)
  rw [el, show (99 : Int32) = nI 99 from rfl, eb, ea, nI_add, show (999 : Int32) = nI 999 from rfl, mn_b (by omega) (by omega), ek, nI_1, show (9 : Int32) = nI 9 from rfl, mn_b (by omega) (by omega)]
  exact WJ_5 (WJ_o (WJ_2 h (by omega)) (by omega) (by omega) (by omega)) (by omega)
theorem come_J (hI : TI N T L) (h : WJ N W) {d : Nat} (hd : d < N 0 1) : WJ N (sCome N T L cd W d) := hurt_J hI (WJ_o h (by omega) (by omega) (by omega)) hd
theorem moth_J (hI : TI N T L) (h : WJ N W) {d : Nat} (hd : d < N 0 1) (bn : Bool) : WJ N (sMoth N T L cd bn d W) := by
  by_cases c : bt (W 0 3) d = true
  · cases bn with
    | false =>
      rw [moth_f c]
      split
      · exact h
      · exact come_J hI h hd
    | true =>
      rw [moth_t c]
      split
      · exact h
      · split
        · exact come_J hI h hd
        · split
          · exact WJ_o h (by omega) (by omega) (by omega)
          · exact come_J hI (WJ_o h (by omega) (by omega) (by omega)) hd
  · rw [moth_n c]; exact h
theorem it_J {f : Nat → WS → WS} {n : Nat} (hf : ∀ j V, j < n → WJ N V → WJ N (f j V)) (h : WJ N W) : ∀ j, j ≤ n → WJ N (itN f j W) := by
  intro j
  induction j with
  | zero => intro _; exact h
  | succ j ih => intro hj; rw [itN_s]; exact hf j _ (by omega) (ih (by omega))
theorem ans_J (hI : TI N T L) (h : WJ N W) {c : Nat} (hc : c < 2) : WJ N (sAns N T L cd W c) := by
  unfold sAns
  split
  · exact h
  · split
    · exact h
    · rename_i d hd
      exact WJ_o (WJ_5 (k := 0) (hurt_J hI h (most_in _ _ hd)) (by omega)) (by omega) (by omega) (by omega)
theorem forg_J (h : WJ N W) {c : Nat} (hc : c < 2) : WJ N (sForg N L W c) := by
  unfold sForg
  split
  · exact h
  · obtain ⟨a, ha, ea⟩ := h.2.1 c hc
    obtain ⟨b, hb, eb⟩ := byL_b (r := lawV (L 2) (nmC W c)) (m := 99) (p := 1) (by omega) (by omega)
    rw [ea, show (99 : Int32) = nI 99 from rfl, show (1 : Int32) = nI 1 from rfl, eb, mx_b (by omega) (by omega)]
    exact WJ_5 h (by omega)
theorem fond_J (h : WJ N W) (d : Nat) : WJ N (sFond d W) := by
  unfold sFond
  split
  · exact WJ_o h (by omega) (by omega) (by omega)
  · exact h
theorem week_J (hI : TI N T L) (h : WJ N W) (how : Nat) : WJ N (sWeek N T L cd how W) := by
  unfold sWeek
  dsimp only
  have h0 : WJ N (wu W 0 4 0) := WJ_o h (by omega) (by omega) (by omega)
  have h1 : WJ N (if how = 2 then wu W 0 4 0 else itN (sMoth N T L cd (decide (how = 1))) (N 0 1) (wu W 0 4 0)) := by
    split
    · exact h0
    · exact it_J (fun j V hj hV => moth_J hI hV hj _) h0 _ (Nat.le_refl _)
  generalize (if how = 2 then wu W 0 4 0 else itN (sMoth N T L cd (decide (how = 1))) (N 0 1) (wu W 0 4 0)) = V1 at *
  have h2 : WJ N (if how = 4 then V1 else sAns N T L cd (sAns N T L cd V1 0) 1) := by
    split
    · exact h1
    · exact ans_J hI (ans_J hI h1 (by omega)) (by omega)
  generalize (if how = 4 then V1 else sAns N T L cd (sAns N T L cd V1 0) 1) = V2 at *
  have h3 : WJ N (if how = 8 then V2 else sForg N L (sForg N L V2 0) 1) := by
    split
    · exact h2
    · exact forg_J (forg_J h2 (by omega)) (by omega)
  generalize (if how = 8 then V2 else sForg N L (sForg N L V2 0) 1) = V3 at *
  exact WJ_o (r := 0) (i := 0) (it_J (n := N 0 1) (fun j V _ hV => fond_J hV j) h3 _ (Nat.le_refl (N 0 1))) (by omega) (by omega) (by omega)
theorem run_J (hI : TI N T L) (h : WJ N W) (how n : Nat) : WJ N (sRun N T L cd how n W) := it_J (n := n) (fun _ _ _ hV => week_J hI hV how) h n (Nat.le_refl _)
theorem run_I (hI : TI N T L) (h : WI N W) (how n : Nat) : WI N (sRun N T L cd how n W) := WI_J (run_J hI (WJ_I h) how n)
/-! pieces kept -/
theorem pTape_to (h : pTape C M) (hc : ∀ c i, c = 1 ∨ c = 2 → C'.1 c i = C.1 c i) (hm : M'.1 0 2 = M.1 0 2) (hm1 : ∀ i, M'.1 1 i = M.1 1 i) : pTape C' M' := by
  obtain ⟨n, a, b, c, d⟩ := h
  refine ⟨n, a, by rw [hc _ _ (by omega)]; exact b, by rw [hm]; exact c, fun i hi => ?_⟩
  rw [hc _ _ (by omega), hm1]; exact d i hi
theorem pFault_to (h : pFault C M) (hc : ∀ i, C'.1 3 i = C.1 3 i) (hm : ∀ i, i = 24 ∨ i = 25 → M'.1 0 i = M.1 0 i) : pFault C' M' := by
  unfold pFault
  rw [hc, hc, hm _ (by omega), hm _ (by omega)]; exact h
theorem pImg_to (hnd : N 0 1 ≤ 10) (h : pImg C M N) (hc0 : C'.1 0 9 = C.1 0 9) (hc : ∀ c i, 61 ≤ c → c ≤ 67 → C'.1 c i = C.1 c i) (hc2 : C'.2 61 3 = C.2 61 3) (hm : M'.1 0 41 = M.1 0 41) (hmt : ∀ c i, chC 2 c i → M'.1 c i = M.1 c i) : pImg C' M' N := by
  unfold pImg
  rw [hc0, hm]
  rcases h with q | ⟨q1, q2, Wi, ni, q3, q4, q5⟩
  · exact Or.inl q
  · exact Or.inr ⟨q1, q2, Wi, ni, RC_to q3 (fun c i a b _ => hc c i a b) hc2, RM_to q4 hnd hmt, q5⟩
theorem pNotes_to (h : pNotes C M N) (hc : ∀ c i, 77 ≤ c → c ≤ 82 → C'.1 c i = C.1 c i) (hm : ∀ i, i = 50 ∨ i = 51 → M'.1 0 i = M.1 0 i) (hm2 : ∀ c i, 28 ≤ c → c ≤ 32 → M'.1 c i = M.1 c i) : pNotes C' M' N := by
  obtain ⟨z, a, b, c, d, e, f⟩ := h
  refine ⟨z, a, by rw [hc _ _ (by omega) (by omega)]; exact b, by rw [hm _ (by omega)]; exact c, by rw [hc _ _ (by omega) (by omega), hm _ (by omega)]; exact d, by rw [hc _ _ (by omega) (by omega)]; exact e, fun i hi => ?_⟩
  rw [hc 78 _ (by omega) (by omega), hm2 32 _ (by omega) (by omega), hc 79 _ (by omega) (by omega), hm2 28 _ (by omega) (by omega), hc 80 _ (by omega) (by omega), hm2 29 _ (by omega) (by omega), hc 81 _ (by omega) (by omega), hm2 30 _ (by omega) (by omega), hc 82 _ (by omega) (by omega), hm2 31 _ (by omega) (by omega)]
  exact f i hi
theorem pUndo_to (hnd : N 0 1 ≤ 10) (h : pUndo C M N W nu) (hc : ∀ c i, 84 ≤ c → c ≤ 87 → C'.1 c i = C.1 c i) (hm : M'.1 0 42 = M.1 0 42) (hmt : ∀ t c i, 3 ≤ t → t < 23 → chC t c i → M'.1 c i = M.1 c i) : pUndo C' M' N W nu := by
  obtain ⟨u, a, b, c, us, d, e⟩ := h
  refine ⟨u, a, by rw [hc _ _ (by omega) (by omega)]; exact b, by rw [hm]; exact c, us, d, fun i hi => ?_⟩
  obtain ⟨e1, e2, e3⟩ := e i hi
  refine ⟨RM_to e1 hnd (fun c' i' q => hmt (3 + i) c' i' (by omega) (by omega) q), e2, ?_⟩
  rw [hc 85 _ (by omega) (by omega), hc 86 _ (by omega) (by omega), hc 87 _ (by omega) (by omega)]; exact e3
theorem pUndo_0 (hc : C.1 84 0 = 0) (hm : M.1 0 42 = 0) : pUndo C M N W nu := ⟨0, by omega, hc, hm, fun _ => (W, nu), rfl, fun i hi => absurd hi (Nat.not_lt_zero i)⟩
theorem pNurs_to (h : pNurs C N T L W nu) (hc : ∀ c i, 88 ≤ c → c ≤ 89 → C'.1 c i = C.1 c i) : pNurs C' N T L W nu := by
  unfold pNurs
  rw [hc 88 3 (by omega) (by omega), hc 88 4 (by omega) (by omega), hc 88 0 (by omega) (by omega), hc 88 1 (by omega) (by omega)]
  rcases h with q | ⟨c, n, b, q1, q2, q3, q4, q5, q6, q7, q8, q9, q10⟩
  · exact Or.inl q
  · exact Or.inr ⟨c, n, b, q1, q2, q3, q4, q5, q6, q7, q8, q9, fun i hi => by rw [hc 89 _ (by omega) (by omega)]; exact q10 i hi⟩
/-- both, where the state changes -/
theorem both_s {α : Type} {x : Option (α × Mem)} {g : Mem → Option (α × Mem)} (h : Cp C M)
    (k : ∀ N T L W nu M', Cq C M' N T L W nu → wp x (fun q => wp (g M') (fun p => q.1 = p.1 ∧ Cp q.2 p.2))) : both C M x (nxt (sI M 0 0 0) g) := by
  obtain ⟨N, T, L, W, nu, hq⟩ := h
  exact k N T L W nu (sI M 0 0 0) (Cq_q hq (cQ_rf _) mQ_0)
theorem bs {α : Type} {x y : Option (α × Mem)} (h : Cp C M) (r : α) (hx : x = some (r, C)) (hy : y = some (r, M)) : wp x (fun q => wp y (fun p => q.1 = p.1 ∧ Cp q.2 p.2)) := wp_of hx (wp_of hy ⟨rfl, h⟩)
theorem settle_C : f_X9_settle C = some (sI (sI C 84 0 0) 88 3 (-1)) := rfl
theorem s_go (h : Cp C M) (v : Int32) : both C M (f_X9_go v C) (f_X10_go v M) := by
  unfold f_X10_go
  refine both_s h ?_
  intro N T L W nu M' hq
  have hcp : Cp C M' := ⟨N, T, L, W, nu, hq⟩
  unfold f_X9_go
  obtain ⟨hTp, hF, ⟨hT, hM, hI⟩, ⟨hR, hR', ⟨hW, hn⟩⟩, hIm, hU, hNo, hNu, h43, h44⟩ := hq
  have hnd := hI.2.1
  obtain ⟨m0, -, -, -, -⟩ := RM0 hR'
  by_cases a1 : v < 0
  · rw [if_pos a1, if_pos a1]; exact bs hcp _ rfl rfl
  rw [if_neg a1, if_neg a1]
  by_cases a2 : 99 < v
  · rw [if_pos a2, if_pos a2]; exact bs hcp _ rfl rfl
  rw [if_neg a2, if_neg a2, show rd M' 16 23 (0 : Int32) = some (M'.1 16 0) from rdN (j := 0) (by decide) (by decide), Option.bind_some, m0, hR.1]
  by_cases a3 : W 0 0 + v ≤ 9900
  · rw [if_pos a3, if_pos a3]
    obtain ⟨n, hn99, rfl⟩ := nI_of2 (M := 99) (n := 99) rfl a1 (Int32.not_lt.mp a2)
    have loop : ∀ S, mQ M' S ∨ S = sI M' 0 42 0 → RM 0 S N W nu → TM S N T L → S.1 0 43 = 0 → S.1 0 44 = -1 → wp (f_X10_go_42 FU (nI n) 0 S) (fun p => p.1 = sRun N T L (fun d => caN N (nu d)) 1 n W 0 0 ∧ RM 0 p.2 N (sRun N T L (fun d => caN N (nu d)) 1 n W) nu ∧ frM 0 S p.2) := by
      intro S _ h0 hT0 g43 g44
      refine lp0 (fun fuel i Z => f_X10_go_42 fuel (nI n) i Z) n (fun j Z => RM 0 Z N (sRun N T L (fun d => caN N (nu d)) 1 j W) nu ∧ frM 0 S Z) (by omega) S ⟨h0, frM_rf _ _⟩ ?_ ?_
      · rintro fuel Z ⟨hZ, fZ⟩
        show wp (f_X10_go_42 (fuel + 1) (nI n) (nI n) Z) _
        unfold f_X10_go_42
        refine wp_pos (Int32.le_refl _) ?_
        exact wp_rd 0 rfl (by decide) hZ.1 (wp_some ⟨rfl, hZ, fZ⟩)
      · rintro fuel j Z hj ⟨hZ, fZ⟩ ih
        try simp only at ih
        show wp (f_X10_go_42 (fuel + 1) (nI n) (nI j) Z) _
        unfold f_X10_go_42
        refine wp_neg (nI_ge hj (by omega)) ?_
        have k43 : Z.1 0 43 = 0 := by rw [fr43 fZ]; exact g43
        have k44 : Z.1 0 44 = -1 := by rw [fZ 0 44 (by unfold chM; omega)]; exact g44
        refine wp_call (pass_RM (t := 0) (bn := true) (how := 1) (cf := caN N) (TM_M hT0 fZ) hI hZ hn (fun i hi => cin0 (TM_M hT0 fZ) k43 k44 hi hI) (by omega) (how1 k43)) ?_
        rintro Z2 ⟨h2, f2⟩
        rw [nI_1]
        exact ih Z2 ⟨h2, frM_tr fZ f2⟩
    by_cases a4 : nI n ≤ 0
    · rw [if_pos a4, if_pos a4]
      have n0 : n = 0 := by
        rw [show (0 : Int32) = nI 0 from rfl, nI_leI (by omega) (by omega)] at a4
        omega
      subst n0
      refine wp_some ?_
      refine wp_mono (loop M' (Or.inl (mQ_rf _)) hR' hM h43 h44) ?_
      rintro ⟨r, Z⟩ ⟨e1, e2, e3⟩
      simp only at e1 e2 e3
      have hz : Z = M' ∨ True := Or.inr trivial
      refine ⟨e1.symm, N, T, L, W, nu, ?_⟩
      have e2 : RM 0 Z N W nu := e2
      refine ⟨pTape_to hTp (fun _ _ _ => rfl) (e3 _ _ (by unfold chM; omega)) (fun i => e3 _ _ (by unfold chM; omega)), pFault_to hF (fun _ => rfl) (fun i hi => e3 _ _ (by unfold chM; omega)), ⟨hT, TM_M hM e3, hI⟩, ⟨hR, e2, hW, hn⟩, pImg_to hnd hIm rfl (fun _ _ _ _ => rfl) rfl (e3 _ _ (by unfold chM; omega)) (fun c i q => e3 c i (by unfold chC at q; unfold chM; omega)), pUndo_to hnd hU (fun _ _ _ _ => rfl) (e3 _ _ (by unfold chM; omega)) (fun t c i a b q => e3 c i (by unfold chC at q; unfold chM; omega)), pNotes_to hNo (fun _ _ _ _ => rfl) (fun i hi => e3 _ _ (by unfold chM; omega)) (fun c i a b => e3 _ _ (by unfold chM; omega)), hNu, ?_, ?_⟩
      · rw [e3 0 43 (by unfold chM; omega)]; exact h43
      · rw [e3 0 44 (by unfold chM; omega)]; exact h44
    · rw [if_neg a4, if_neg a4]
      refine wp_call (run_RC (w := 53) (how := 1) (Or.inl rfl) hT hI hR hn (Or.inr (Or.inl rfl)) (by omega)) ?_
      rintro S1 ⟨h1, f1⟩
      refine wp_bde settle_C ?_
      refine wp_some (wp_nxt ?_)
      have hR2 : RM 0 (sI M' 0 42 0) N W nu := RM_to hR' hnd (fun c i q => by rw [sI1, if_neg (by unfold chC at q; omega)])
      have hT2 : TM (sI M' 0 42 0) N T L := TM_to hM (fun c i a b => by rw [sI1, if_neg (by omega)])
      have hm : ∀ c i, ¬ (c = 0 ∧ i = 42) → (sI M' 0 42 0).1 c i = M'.1 c i := fun c i q => by rw [sI1, if_neg q]
      have h42 : (sI M' 0 42 0).1 0 42 = 0 := by rw [sI1, if_pos ⟨rfl, rfl⟩]
      refine wp_mono (loop (sI M' 0 42 0) (Or.inr rfl) hR2 hT2 (by rw [hm _ _ (by omega)]; exact h43) (by rw [hm _ _ (by omega)]; exact h44)) ?_
      rintro ⟨r, Z⟩ ⟨e1, e2, e3⟩
      simp only at e1 e2 e3
      have em : ∀ c i, ¬ (c = 0 ∧ i = 42) → ¬ chM 0 c i → Z.1 c i = M'.1 c i := fun c i q q2 => (e3 c i q2).trans (hm c i q)
      have ec : ∀ c i, ¬ (c = 84 ∧ i = 0) → ¬ (c = 88 ∧ i = 3) → (sI (sI S1 84 0 0) 88 3 (-1)).1 c i = S1.1 c i := fun c i q q2 => by rw [sI1, if_neg q2, sI1, if_neg q]
      have ec' : ∀ c i, (c < 53 ∨ 60 < c) → ¬ (c = 84 ∧ i = 0) → ¬ (c = 88 ∧ i = 3) → (sI (sI S1 84 0 0) 88 3 (-1)).1 c i = C.1 c i := fun c i q q1 q2 => by rw [ec c i q1 q2, f1.1 c (by omega)]
      refine ⟨?_, N, T, L, sRun N T L (fun d => caN N (nu d)) 1 n W, nu, ?_⟩
      · show (sI (sI S1 84 0 0) 88 3 (-1)).1 53 0 = r
        rw [ec _ _ (by omega) (by omega), e1]; exact h1.1
      refine ⟨pTape_to hTp (fun c i q => ec' c i (by omega) (by omega) (by omega)) (em _ _ (by omega) (by unfold chM; omega)) (fun i => em _ _ (by omega) (by unfold chM; omega)), pFault_to hF (fun i => ec' _ _ (by omega) (by omega) (by omega)) (fun i hi => em _ _ (by omega) (by unfold chM; omega)), ⟨TC_to hT (fun k a b => funext fun i => ec' k i (by omega) (by omega) (by omega)), TM_M hT2 e3, hI⟩, ⟨RC_to h1 (fun c i a b _ => ec c i (by omega) (by omega)) rfl, e2, run_I hI hW 1 n, hn⟩, pImg_to hnd hIm (ec' _ _ (by omega) (by omega) (by omega)) (fun c i a b => ec' c i (by omega) (by omega) (by omega)) (by show S1.2 61 3 = _; rw [f1.2 61 (by omega) (by omega) (by omega) (by omega)]) (em _ _ (by omega) (by unfold chM; omega)) (fun c i q => em c i (by unfold chC at q; omega) (by unfold chC at q; unfold chM; omega)), pUndo_0 ?_ ?_, pNotes_to hNo (fun c i a b => ec' c i (by omega) (by omega) (by omega)) (fun i hi => em _ _ (by omega) (by unfold chM; omega)) (fun c i a b => em _ _ (by omega) (by unfold chM; omega)), Or.inl ?_, ?_, ?_⟩
      · rw [sI1, if_neg (by omega), sI1, if_pos ⟨rfl, rfl⟩]
      · rw [e3 0 42 (by unfold chM; omega)]; exact h42
      · rw [sI1, if_pos ⟨rfl, rfl⟩]
      · rw [em 0 43 (by omega) (by unfold chM; omega)]; exact h43
      · rw [em 0 44 (by omega) (by unfold chM; omega)]; exact h44
  · rw [if_neg a3, if_neg a3]; exact bs hcp _ rfl rfl
theorem s_keep (h : Cp C M) : both C M (f_X9_keep C) (f_X10_keep M) := by
  unfold f_X10_keep
  refine both_s h ?_
  intro N T L W nu M' hq
  unfold f_X9_keep
  obtain ⟨hTp, hF, ⟨hT, hM, hI⟩, ⟨hR, hR', ⟨hW, hn⟩⟩, hIm, hU, hNo, hNu, h43, h44⟩ := hq
  have hnd := hI.2.1
  refine wp_call (take_C (w := 61) (w1 := 53) (Or.inr (Or.inl ⟨rfl, rfl⟩)) hI hR) ?_
  rintro S1 ⟨h1, f1⟩
  refine wp_nxt (wp_some ?_)
  refine wp_call (copies_M (a := 2) (b := 0) (by omega) (by omega) (by omega)) ?_
  rintro Z ⟨hcp, fZ⟩
  refine wp_nxt ?_
  have hZ := cpM_R hcp hnd hR'
  have ec : ∀ c i, ¬ (c = 0 ∧ i = 9) → (c < 61 ∨ 68 < c) → (sI S1 0 9 1).1 c i = C.1 c i := fun c i q q2 => by rw [sI1, if_neg q, f1.1 c (by omega)]
  have em : ∀ c i, ¬ (c = 0 ∧ i = 41) → ¬ chC 2 c i → (sI Z 0 41 1).1 c i = M'.1 c i := fun c i q q2 => by rw [sI1, if_neg q]; exact fZ c i q2
  have hM2 : RM 0 (sI Z 0 41 1) N W nu := RM_to hR' hnd (fun c i q => em c i (by unfold chC at q; omega) (by unfold chC at q ⊢; omega))
  have hR2 : RC 53 (sI S1 0 9 1) N W nu (caN N) := RC_to hR (fun c i a b _ => ec c i (by omega) (by omega)) (by show S1.2 53 3 = _; rw [f1.2 53 (by omega)])
  refine wp_rd 0 rfl (by decide) hM2.1 (wp_some ⟨hR2.1, N, T, L, W, nu, ?_⟩)
  refine ⟨pTape_to hTp (fun c i q => ec c i (by omega) (by omega)) (em _ _ (by omega) (by unfold chC; omega)) (fun i => em _ _ (by omega) (by unfold chC; omega)), pFault_to hF (fun i => ec _ _ (by omega) (by omega)) (fun i hi => em _ _ (by omega) (by unfold chC; omega)), ⟨TC_to hT (fun k a b => funext fun i => ec k i (by omega) (by omega)), TM_to hM (fun c i a b => em c i (by omega) (by unfold chC; omega)), hI⟩, ⟨hR2, hM2, hW, hn⟩, Or.inr ⟨?_, ?_, W, nu, ?_, ?_, hW, hn⟩, pUndo_to hnd hU (fun c i a b => ec c i (by omega) (by omega)) (em _ _ (by omega) (by unfold chC; omega)) (fun t c i a b q => em c i (by unfold chC at q; omega) (by unfold chC at q ⊢; omega)), pNotes_to hNo (fun c i a b => ec c i (by omega) (by omega)) (fun i hi => em _ _ (by omega) (by unfold chC; omega)) (fun c i a b => em _ _ (by omega) (by unfold chC; omega)), pNurs_to hNu (fun c i a b => ec c i (by omega) (by omega)), ?_, ?_⟩
  · rw [sI1, if_pos ⟨rfl, rfl⟩]
  · rw [sI1, if_pos ⟨rfl, rfl⟩]
  · exact RC_to h1 (fun c i a b _ => by rw [sI1, if_neg (by omega)]) rfl
  · exact RM_to hZ hnd (fun c i q => by rw [sI1, if_neg (by unfold chC at q; omega)])
  · rw [em 0 43 (by omega) (by unfold chC; omega)]; exact h43
  · rw [em 0 44 (by omega) (by unfold chC; omega)]; exact h44
theorem s_back (h : Cp C M) : both C M (f_X9_back C) (f_X10_back M) := by
  unfold f_X10_back
  refine both_s h ?_
  intro N T L W nu M' hq
  have hcp : Cp C M' := ⟨N, T, L, W, nu, hq⟩
  unfold f_X9_back
  obtain ⟨hTp, hF, ⟨hT, hM, hI⟩, ⟨hR, hR', ⟨hW, hn⟩⟩, hIm, hU, hNo, hNu, h43, h44⟩ := hq
  have hnd := hI.2.1
  rcases id hIm with ⟨q1, q2⟩ | ⟨q1, q2, Wi, ni, q3, q4, q5⟩
  · rw [if_pos q1, if_pos q2]; exact bs hcp _ rfl rfl
  · rw [if_neg (by rw [q1]; decide), if_neg (by rw [q2]; decide)]
    refine wp_call (take_C (w := 53) (w1 := 61) (Or.inr (Or.inr ⟨rfl, rfl⟩)) hI q3) ?_
    rintro S1 ⟨h1, f1⟩
    refine wp_bde settle_C (wp_some ?_)
    refine wp_call (copies_M (a := 0) (b := 2) (by omega) (by omega) (by omega)) ?_
    rintro Z ⟨hcz, fZ⟩
    refine wp_nxt ?_
    have hZ := cpM_R hcz hnd q4
    have ec : ∀ c i, ¬ (c = 84 ∧ i = 0) → ¬ (c = 88 ∧ i = 3) → (sI (sI S1 84 0 0) 88 3 (-1)).1 c i = S1.1 c i := fun c i q q2 => by rw [sI1, if_neg q2, sI1, if_neg q]
    have ec' : ∀ c i, (c < 53 ∨ 60 < c) → ¬ (c = 84 ∧ i = 0) → ¬ (c = 88 ∧ i = 3) → (sI (sI S1 84 0 0) 88 3 (-1)).1 c i = C.1 c i := fun c i q q1 q2 => by rw [ec c i q1 q2, f1.1 c (by omega)]
    have em : ∀ c i, ¬ (c = 0 ∧ i = 42) → ¬ chC 0 c i → (sI Z 0 42 0).1 c i = M'.1 c i := fun c i q q2 => by rw [sI1, if_neg q]; exact fZ c i q2
    have hM2 : RM 0 (sI Z 0 42 0) N Wi ni := RM_to hZ hnd (fun c i q => by rw [sI1, if_neg (by unfold chC at q; omega)])
    have hR2 : RC 53 (sI (sI S1 84 0 0) 88 3 (-1)) N Wi ni (caN N) := RC_to h1 (fun c i a b _ => ec c i (by omega) (by omega)) rfl
    refine wp_rd 0 rfl (by decide) hM2.1 (wp_some ⟨hR2.1, N, T, L, Wi, ni, ?_⟩)
    refine ⟨pTape_to hTp (fun c i q => ec' c i (by omega) (by omega) (by omega)) (em _ _ (by omega) (by unfold chC; omega)) (fun i => em _ _ (by omega) (by unfold chC; omega)), pFault_to hF (fun i => ec' _ _ (by omega) (by omega) (by omega)) (fun i hi => em _ _ (by omega) (by unfold chC; omega)), ⟨TC_to hT (fun k a b => funext fun i => ec' k i (by omega) (by omega) (by omega)), TM_to hM (fun c i a b => em c i (by omega) (by unfold chC; omega)), hI⟩, ⟨hR2, hM2, q5⟩, pImg_to hnd hIm (ec' _ _ (by omega) (by omega) (by omega)) (fun c i a b => ec' c i (by omega) (by omega) (by omega)) (by show S1.2 61 3 = _; rw [f1.2 61 (by omega)]) (em _ _ (by omega) (by unfold chC; omega)) (fun c i q => em c i (by unfold chC at q; omega) (by unfold chC at q ⊢; omega)), pUndo_0 ?_ ?_, pNotes_to hNo (fun c i a b => ec' c i (by omega) (by omega) (by omega)) (fun i hi => em _ _ (by omega) (by unfold chC; omega)) (fun c i a b => em _ _ (by omega) (by unfold chC; omega)), Or.inl ?_, ?_, ?_⟩
    · rw [sI1, if_neg (by omega), sI1, if_pos ⟨rfl, rfl⟩]
    · rw [sI1, if_pos ⟨rfl, rfl⟩]
    · rw [sI1, if_pos ⟨rfl, rfl⟩]
    · rw [em 0 43 (by omega) (by unfold chC; omega)]; exact h43
    · rw [em 0 44 (by omega) (by unfold chC; omega)]; exact h44
end STA
