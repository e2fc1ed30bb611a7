/-! PURE 9: the reference's week -/
def cin (S : Mem) (j : Nat) : Int32 := if S.1 0 43 = 4 then 9 else if nI j = S.1 0 44 then S.1 0 45 else S.1 5 j
def WM (t : Nat) (S : Mem) (N : TN) (W : WS) (cd : Nat → Int32) : Prop :=
  S.1 16 t = W 0 0 ∧ S.1 17 t = W 0 1 ∧ S.1 18 t = W 0 2 ∧ S.1 0 40 = W 0 4 ∧
  (∀ d, d < N 0 1 → (∃ j, j < 6 ∧ S.1 21 (10 * t + d) = nI j ∧ cin S j = cd d) ∧ S.1 22 (10 * t + d) = W 2 d ∧ S.1 23 (10 * t + d) = W 3 d ∧ S.1 24 (10 * t + d) = (if bt (W 0 3) d = true then 1 else 0)) ∧
  (∀ c, c < 2 → S.1 19 (2 * t + c) = W 5 c ∧ S.1 20 (2 * t + c) = W 6 c)
def chM (t c i : Nat) : Prop := (c = 0 ∧ (i = 30 ∨ i = 40)) ∨ (16 ≤ c ∧ c ≤ 18 ∧ i = t) ∨ ((c = 19 ∨ c = 20) ∧ 2 * t ≤ i ∧ i < 2 * t + 2) ∨ (22 ≤ c ∧ c ≤ 23 ∧ 10 * t ≤ i ∧ i < 10 * t + 10)
def frM (t : Nat) (S S' : Mem) : Prop := ∀ c i, ¬ chM t c i → S'.1 c i = S.1 c i
theorem frM_rf (t : Nat) (S : Mem) : frM t S S := fun _ _ _ => rfl
theorem frM_tr {t : Nat} {S S1 S2 : Mem} (h : frM t S S1) (h' : frM t S1 S2) : frM t S S2 := fun c i q => (h' c i q).trans (h c i q)
theorem frM_S {t : Nat} {S S' : Mem} (h : frS S S') : frM t S S' := fun c i q => h c i (fun e => q (Or.inl ⟨e.1, Or.inl e.2⟩))
theorem frM_sI {t k j : Nat} {v : Int32} {S : Mem} (h : chM t k j) : frM t S (sI S k j v) := fun c i q => by
  rw [sI1, if_neg]
  rintro ⟨rfl, rfl⟩
  exact q h
theorem TM_M {t : Nat} {S S' : Mem} {N : TN} {T : WS} {L : LWS} (h : TM S N T L) (e : frM t S S') : TM S' N T L := TM_to h (fun c i _ _ => e c i (by unfold chM; omega))
theorem bnd_some {α β : Type} (a : α) (S : Mem) (f : α → Mem → Option β) : bnd (some (a, S)) f = f a S := rfl
section WMS
variable {t : Nat} {S S' : Mem} {N : TN} {T : WS} {L : LWS} {W : WS} {cd : Nat → Int32}
theorem cin_S (e : ∀ c i, ¬ (c = 0 ∧ i = 30) → ¬ (c = 0 ∧ i = 40) → c = 0 ∨ c = 5 → S'.1 c i = S.1 c i) (j : Nat) : cin S' j = cin S j := by
  unfold cin
  rw [e 0 43 (by omega) (by omega) (by omega), e 0 44 (by omega) (by omega) (by omega), e 0 45 (by omega) (by omega) (by omega), e 5 j (by omega) (by omega) (by omega)]
theorem WM_S (h : WM t S N W cd) (e : frS S S') : WM t S' N W cd := by
  obtain ⟨h0, h1, h2, h3, h4, h5⟩ := h
  refine ⟨?_, ?_, ?_, ?_, fun d hd => ?_, fun c hc => ?_⟩
  · rw [e _ _ (by omega)]; exact h0
  · rw [e _ _ (by omega)]; exact h1
  · rw [e _ _ (by omega)]; exact h2
  · rw [e _ _ (by omega)]; exact h3
  · obtain ⟨⟨j, hj, a, b⟩, c1, c2, c3⟩ := h4 d hd
    refine ⟨⟨j, hj, ?_, ?_⟩, ?_, ?_, ?_⟩
    · rw [e _ _ (by omega)]; exact a
    · rw [cin_S (S := S) (fun c i q _ _ => e c i q)]; exact b
    · rw [e _ _ (by omega)]; exact c1
    · rw [e _ _ (by omega)]; exact c2
    · rw [e _ _ (by omega)]; exact c3
  · rw [e _ _ (by omega), e _ _ (by omega)]; exact h5 c hc
theorem cin_sI {k i : Nat} {v : Int32} (hk : k ≠ 0) (hk5 : k ≠ 5) (j : Nat) : cin (sI S k i v) j = cin S j := by
  unfold cin
  rw [sI_off (j := 0) (by omega), sI_off (j := 5) (by omega)]
theorem cin_40 {v : Int32} (j : Nat) : cin (sI S 0 40 v) j = cin S j := by
  unfold cin
  simp [sI1]
theorem WM_2 (h : WM t S N W cd) {d : Nat} (hd : d < 10) (hN : N 0 1 ≤ 10) (v : Int32) : WM t (sI S 22 (10 * t + d) v) N (wu W 2 d v) cd := by
  unfold WM at *
  simp only [cin_sI (k := 22) (by omega) (by omega)]
  simp only [sI1, wu1]
  grind
theorem WM_3 (h : WM t S N W cd) {d : Nat} (hd : d < 10) (hN : N 0 1 ≤ 10) (v : Int32) : WM t (sI S 23 (10 * t + d) v) N (wu W 3 d v) cd := by
  unfold WM at *
  simp only [cin_sI (k := 23) (by omega) (by omega)]
  simp only [sI1, wu1]
  grind
theorem WM_5 (h : WM t S N W cd) {c : Nat} (hc : c < 2) (v : Int32) : WM t (sI S 19 (2 * t + c) v) N (wu W 5 c v) cd := by
  unfold WM at *
  simp only [cin_sI (k := 19) (by omega) (by omega)]
  simp only [sI1, wu1]
  grind
theorem WM_6 (h : WM t S N W cd) {c : Nat} (hc : c < 2) (v : Int32) : WM t (sI S 20 (2 * t + c) v) N (wu W 6 c v) cd := by
  unfold WM at *
  simp only [cin_sI (k := 20) (by omega) (by omega)]
  simp only [sI1, wu1]
  grind
theorem WM_wk (h : WM t S N W cd) (v : Int32) : WM t (sI S 16 t v) N (wu W 0 0 v) cd := by
  unfold WM at *
  simp only [cin_sI (k := 16) (by omega) (by omega)]
  simp only [sI1, wu1]
  grind
theorem WM_nu (h : WM t S N W cd) (v : Int32) : WM t (sI S 17 t v) N (wu W 0 1 v) cd := by
  unfold WM at *
  simp only [cin_sI (k := 17) (by omega) (by omega)]
  simp only [sI1, wu1]
  grind
theorem WM_mo (h : WM t S N W cd) (v : Int32) : WM t (sI S 18 t v) N (wu W 0 2 v) cd := by
  unfold WM at *
  simp only [cin_sI (k := 18) (by omega) (by omega)]
  simp only [sI1, wu1]
  grind
theorem WM_hm (h : WM t S N W cd) (v : Int32) : WM t (sI S 0 40 v) N (wu W 0 4 v) cd := by
  unfold WM at *
  simp only [cin_40]
  simp only [sI1, wu1]
  grind
theorem careIn_M {j : Nat} (hj : j < 12) : f_X10_careIn (nI j) S = some (cin S j, S) := by
  unfold f_X10_careIn cin
  by_cases h1 : S.1 0 43 = 4
  · rw [if_pos h1, if_pos h1]
  · rw [if_neg h1, if_neg h1]
    by_cases h2 : nI j = S.1 0 44
    · rw [if_pos h2, if_pos h2]
    · rw [if_neg h2, if_neg h2, rdN hj (by decide)]
      rfl
theorem owner_M (hT : TM S N T L) (hI : TI N T L) {d : Nat} (hd : d < N 0 1) : f_X10_ownerOf (nI d) S = some (nI (ow N d), S) := by
  have hnd : N 0 1 ≤ 10 := hI.2.1
  have hn5 := (hI.2.2.2.1 d hd).1
  have hnn := hI.1
  have h2 := (hI.2.2.1 _ hn5).1
  unfold f_X10_ownerOf
  rw [rdN (by omega) (by decide), (hT.2.2.2.2.1 d hd).2.1]
  show (rd S 4 12 (nI (N 5 d))).bind _ = _
  rw [rdN (by omega) (by decide), (hT.2.2.2.1 _ hn5).2.1]
  show some ((1 : Int32) - nI (N 2 (N 5 d)), S) = _
  rw [sub1 (by omega)]
  rfl
theorem calls_M (hT : TM S N T L) (hI : TI N T L) (h : WM t S N W cd) (ht : t < 23) {d j : Nat} (hd : d < N 0 1) (hj : j < 6) :
    wp (f_X10_calls (nI t) (nI d) (nI j) S) (fun S' => S'.1 = S.1 ∧ ∀ i, i < 7 → S'.2 14 i = (nmD N T W (cin S j) d i).toInt64) := by
  have hnd : N 0 1 ≤ 10 := hI.2.1
  have how : ow N d < 2 := by unfold ow; omega
  obtain ⟨h0, h1, h2, h3, h4, h5⟩ := h
  obtain ⟨t1, t2, t3, t4, t5, t6, t7⟩ := id hT
  have hT' : ∀ M : Mem, M.1 = S.1 → TM M N T L := fun M e => TM_to hT (fun c i _ _ => by rw [e])
  unfold f_X10_calls
  refine wp_rd d rfl (by omega) (t5 d hd).2.2.1 ?_
  refine wp_wrL 0 rfl (by decide) ?_
  refine wp_rd d rfl (by omega) (t5 d hd).2.2.2 ?_
  refine wp_wrL 1 rfl (by decide) ?_
  refine wp_rd (10 * t + d) (ix10 t d) (by omega) (h4 d hd).2.1 ?_
  refine wp_wrL 2 rfl (by decide) ?_
  refine wp_bnde (careIn_M (by omega)) ?_
  refine wp_wrL 3 rfl (by decide) ?_
  refine wp_bnde (owner_M (hT' (sL (sL (sL (sL S 14 0 (T 6 d).toInt64) 14 1 (T 7 d).toInt64) 14 2 (W 2 d).toInt64) 14 3 _) rfl) hI hd) ?_
  refine wp_rd (2 * t + ow N d) (ix2 t (ow N d)) (by omega) (h5 _ how).1 ?_
  refine wp_wrL 4 rfl (by decide) ?_
  refine wp_rd (10 * t + d) (ix10 t d) (by omega) (h4 d hd).2.2.1 ?_
  refine wp_wrL 5 rfl (by decide) ?_
  refine wp_rd t rfl ht h0 ?_
  refine wp_wrL 6 rfl (by decide) ?_
  refine wp_some ⟨rfl, fun i hi => ?_⟩
  have hc : ∀ j, cin (sL (sL (sL S 14 0 (T 6 d).toInt64) 14 1 (T 7 d).toInt64) 14 2 (W 2 d).toInt64) j = cin S j := fun _ => rfl
  rcases (by omega : i = 0 ∨ i = 1 ∨ i = 2 ∨ i = 3 ∨ i = 4 ∨ i = 5 ∨ i = 6) with rfl | rfl | rfl | rfl | rfl | rfl | rfl <;> simp [sL2, nmD, hc]
theorem frS_1 (e : S'.1 = S.1) : frS S S' := fun c i _ => by rw [e]
theorem hurts_M (hT : TM S N T L) (hI : TI N T L) (h : WM t S N W cd) (ht : t < 23) {d : Nat} (hd : d < N 0 1) :
    wp (f_X10_hurts (nI t) (nI d) S) (fun S' => WM t S' N (sHurt N T L cd W d) cd ∧ frM t S S') := by
  have hnd : N 0 1 ≤ 10 := hI.2.1
  have how : ow N d < 2 := by unfold ow; omega
  unfold f_X10_hurts
  refine wp_rd (10 * t + d) (ix10 t d) (by omega) (h.2.2.2.2.1 d hd).2.1 ?_
  refine wp_bnde (f_mn _ _ _) ?_
  refine wp_wr (10 * t + d) (ix10 t d) (by omega) ?_
  refine wp_nxt ?_
  have e12 : (sI S 22 (10 * t + d) (mn 9 (W 2 d + 1))).1 0 40 = W 0 4 := by rw [sI_off (by omega)]; exact h.2.2.2.1
  rw [e12]
  have h1 : WM t (sI (sI S 22 (10 * t + d) (mn 9 (W 2 d + 1))) 0 40 (W 0 4 ||| (1 <<< (nI d &&& 31)))) N (sHurt1 W d) cd := WM_hm (WM_2 h (by omega) hnd _) _
  have f1 : frM t S (sI (sI S 22 (10 * t + d) (mn 9 (W 2 d + 1))) 0 40 (W 0 4 ||| (1 <<< (nI d &&& 31)))) := frM_tr (frM_sI (by unfold chM; omega)) (frM_sI (by unfold chM; omega))
  generalize sI (sI S 22 (10 * t + d) (mn 9 (W 2 d + 1))) 0 40 (W 0 4 ||| (1 <<< (nI d &&& 31))) = M at *
  have hT1 := TM_M hT f1
  obtain ⟨j, hj, ej, ec⟩ := (h1.2.2.2.2.1 d hd).1
  refine wp_rd (10 * t + d) (ix10 t d) (by omega) ej ?_
  refine wp_call (calls_M hT1 hI h1 ht hd hj) ?_
  rintro M2 ⟨e2, hn2⟩
  rw [ec] at hn2
  have h2 := WM_S h1 (frS_1 e2)
  have hT2 := TM_S hT1 (frS_1 e2)
  refine wp_bnde (owner_M hT2 hI hd) ?_
  refine wp_rd (2 * t + ow N d) (ix2 t (ow N d)) (by omega) (h2.2.2.2.2.2 _ how).1 ?_
  refine wp_rd d rfl (by omega) (hT2.2.2.2.2.1 d hd).2.2.1 ?_
  refine wp_bnd (within_M (k := 1) hT2 hI (by omega) hn2 99 (T 6 d)) ?_
  rintro r M3 ⟨hr, f3⟩
  simp only at hr f3
  refine wp_bnde (f_mn _ _ _) ?_
  refine wp_wr (2 * t + ow N d) (ix2 t (ow N d)) (by omega) ?_
  have e5 : sHurt1 W d 5 (ow N d) = W 5 (ow N d) := by simp [sHurt1, wu1]
  refine wp_some ⟨?_, frM_tr f1 (frM_tr (frM_S (frS_tr (frS_1 e2) f3)) (frM_sI (by unfold chM; omega)))⟩
  rw [e5, hr]
  exact WM_5 (WM_S h2 f3) how _
theorem mothsBy_M (hT : TM S N T L) (hI : TI N T L) (h : WM t S N W cd) (ht : t < 23) {d j : Nat} (hd : d < N 0 1) (hj : j < 6) :
    wp (f_X10_mothsBy (nI t) (nI d) (nI j) S) (fun q => q.1 = sOdds N T L W (cin S j) d ∧ frS S q.2) := by
  unfold f_X10_mothsBy
  refine wp_call (calls_M hT hI h ht hd hj) ?_
  rintro M ⟨e1, hn⟩
  have hT1 := TM_S hT (frS_1 e1)
  refine wp_rd 2 rfl (by decide) (hT1.2.2.2.2.2.1 0 (by decide)) ?_
  refine wp_bnde (careIn_M (by omega)) ?_
  refine wp_bnde (f_mx _ _ _) ?_
  refine wp_bnd (within_M (k := 0) hT1 hI (by omega) hn 100 _) ?_
  rintro r M3 ⟨hr, f3⟩
  refine wp_some ⟨?_, frS_tr (frS_1 e1) f3⟩
  simp only at hr
  have : cin M j = cin S j := by unfold cin; rw [e1]
  rw [hr, this]
  rfl
theorem held_M (h : WM t S N W cd) (ht : t < 23) (hnd : N 0 1 ≤ 10) {d : Nat} (hd : d < N 0 1) : f_X10_isHeld (nI t) (nI d) S = some (if bt (W 0 3) d = true then 1 else 0, S) := by
  unfold f_X10_isHeld
  rw [ix10, rdN (by omega) (by decide), (h.2.2.2.2.1 d hd).2.2.2]
  by_cases c : bt (W 0 3) d = true
  · rw [if_pos c]; rfl
  · rw [if_neg c]; rfl
theorem holds_M (hT : TM S N T L) (hI : TI N T L) (h : WM t S N W cd) (ht : t < 23) {d c : Nat} (hd : d < N 0 1) (hc : c < 2) : f_X10_holds (nI t) (nI c) (nI d) S = some (if bt (W 0 3) d = true ∧ ow N d ≠ c then 1 else 0, S) := by
  have how : ow N d < 2 := by unfold ow; omega
  unfold f_X10_holds
  rw [held_M h ht hI.2.1 hd]
  by_cases c1 : bt (W 0 3) d = true
  · rw [if_pos c1]
    rw [bnd_some, if_neg (by decide), owner_M hT hI hd, bnd_some]
    by_cases c2 : ow N d = c
    · rw [if_pos (by rw [c2]), if_neg (fun e => e.2 c2)]
    · rw [if_neg (fun e => c2 ((nI_eq (by omega) (by omega)).mp e)), if_pos ⟨c1, c2⟩]
  · rw [if_neg c1, if_neg (fun e => c1 e.1)]
    rfl
def eM (b : Option Nat) : Int32 := match b with
  | none => -1
  | some e => nI e
theorem nI_n1 {e : Nat} (h : e < 2 ^ 31) : nI e ≠ -1 := by
  intro c
  have h0 : ¬ nI e < 0 := nI_pos h
  rw [c] at h0
  exact h0 (by decide)
theorem answerOf_M (hT : TM S N T L) (hI : TI N T L) (h : WM t S N W cd) (ht : t < 23) {c : Nat} (hc : c < 2) : f_X10_answerOf (nI t) (nI c) S = some (eM (sMost N T (W 0 3) c), S) := by
  have hnd : N 0 1 ≤ 10 := hI.2.1
  unfold f_X10_answerOf
  suffices hh : wp (f_X10_answerOf_5 FU (nI t) (nI c) (-1) 0 S) (fun q => q = (eM (sMost N T (W 0 3) c), S)) by
    obtain ⟨y, hy, rfl⟩ := hh
    exact hy
  refine lp0 (fun fuel i (b : Option Nat) => f_X10_answerOf_5 fuel (nI t) (nI c) (eM b) i S) (N 0 1) (fun j b => b = itN (sMostStep N T (W 0 3) c) j none) (by omega) none rfl ?_ ?_
  · rintro fuel b hb
    show wp (f_X10_answerOf_5 (fuel + 1) (nI t) (nI c) (eM b) (nI (N 0 1)) S) _
    unfold f_X10_answerOf_5
    refine wp_rd 1 rfl (by decide) hT.2.1 ?_
    exact wp_pos (Int32.le_refl _) (wp_some (by rw [hb]; rfl))
  · rintro fuel j b hj hb ih
    try simp only at ih
    show wp (f_X10_answerOf_5 (fuel + 1) (nI t) (nI c) (eM b) (nI j) S) _
    unfold f_X10_answerOf_5
    refine wp_rd 1 rfl (by decide) hT.2.1 ?_
    refine wp_neg (nI_ge hj (by omega)) ?_
    refine wp_bnde (holds_M hT hI h ht hj hc) ?_
    rw [itN_s, ← hb] at ih
    have hd := (hT.2.2.2.2.1 j hj).2.2.1
    by_cases q : bt (W 0 3) j = true ∧ ow N j ≠ c
    · rw [if_pos q]
      refine wp_neg (by decide) ?_
      cases b with
      | none =>
        refine wp_pos rfl ?_
        rw [nI_1]
        exact ih (some j) (by simp [sMostStep, q.1, q.2])
      | some e =>
        have he := most_in j e hb.symm
        refine wp_neg (nI_n1 (by omega)) ?_
        refine wp_rd j rfl (by omega) hd ?_
        refine wp_rd e rfl (by omega) (hT.2.2.2.2.1 e (by omega)).2.2.1 ?_
        refine wp_if (fun q2 => ?_) (fun q2 => ?_)
        · rw [nI_1]
          exact ih (some e) (by simp [sMostStep, q.1, q.2, q2])
        · rw [nI_1]
          exact ih (some j) (by simp [sMostStep, q.1, q.2, q2])
    · rw [if_neg q]
      refine wp_pos rfl ?_
      rw [nI_1]
      exact ih b (by unfold sMostStep; rw [if_neg q])
theorem answers_M (hT : TM S N T L) (hI : TI N T L) (h : WM t S N W cd) (ht : t < 23) {c : Nat} (hc : c < 2) :
    wp (f_X10_answers (nI t) (nI c) S) (fun S' => WM t S' N (if S.1 0 43 = 3 then W else sAns N T L cd W c) cd ∧ frM t S S') := by
  have hnd : N 0 1 ≤ 10 := hI.2.1
  unfold f_X10_answers
  refine wp_rd (2 * t + c) (ix2 t c) (by omega) (h.2.2.2.2.2 c hc).1 ?_
  refine wp_rd 3 rfl (by decide) (hT.2.2.2.2.2.1 1 (by decide)) ?_
  unfold sAns
  refine wp_if (fun q => ?_) (fun q => ?_)
  · exact wp_some ⟨by simpa [q] using h, frM_rf _ _⟩
  · refine wp_if (fun q2 => ?_) (fun q2 => ?_)
    · exact wp_some ⟨by simpa [q2] using h, frM_rf _ _⟩
    · rw [if_neg q2, if_neg q]
      refine wp_bnde (answerOf_M hT hI h ht hc) ?_
      cases hb : sMost N T (W 0 3) c with
      | none => exact wp_pos rfl (wp_some ⟨h, frM_rf _ _⟩)
      | some d =>
        have hd : d < N 0 1 := most_in _ _ hb
        refine wp_neg (nI_n1 (by omega)) ?_
        refine wp_call (hurts_M hT hI h ht hd) ?_
        rintro M2 ⟨h2, f2⟩
        refine wp_wr (2 * t + c) (ix2 t c) (by omega) ?_
        have h3 := WM_5 h2 hc 0
        refine wp_rd (2 * t + c) (ix2 t c) (by omega) (h3.2.2.2.2.2 c hc).2 ?_
        refine wp_wr (2 * t + c) (ix2 t c) (by omega) ?_
        have e6 : wu (sHurt N T L cd W d) 5 c 0 6 c = W 6 c := by rw [wu1, if_neg (by omega), sH_6]
        refine wp_some ⟨?_, frM_tr f2 (frM_tr (frM_sI (by unfold chM; omega)) (frM_sI (by unfold chM; omega)))⟩
        rw [e6]
        exact WM_6 h3 hc _
theorem wasHurt_M (hT : TM S N T L) (hI : TI N T L) (h : WM t S N W cd) {c : Nat} (hc : c < 2) : f_X10_wasHurt (nI c) S = some (if sHit N (W 0 4) c = true then 1 else 0, S) := by
  have hnd : N 0 1 ≤ 10 := hI.2.1
  unfold f_X10_wasHurt
  suffices hh : wp (f_X10_wasHurt_2 FU (nI c) 0 S) (fun q => q = ((if sHit N (W 0 4) c = true then 1 else 0), S)) by
    obtain ⟨y, hy, rfl⟩ := hh
    exact hy
  refine lp0 (fun fuel i (_ : Unit) => f_X10_wasHurt_2 fuel (nI c) i S) (N 0 1) (fun j _ => ∀ d, d < j → ¬ (bt (W 0 4) d = true ∧ ow N d = c)) (by omega) () (fun d hd => absurd hd (Nat.not_lt_zero d)) ?_ ?_
  · rintro fuel _ hb
    show wp (f_X10_wasHurt_2 (fuel + 1) (nI c) (nI (N 0 1)) S) _
    unfold f_X10_wasHurt_2
    refine wp_rd 1 rfl (by decide) hT.2.1 ?_
    refine wp_pos (Int32.le_refl _) (wp_some ?_)
    have : sHit N (W 0 4) c = false := by
      unfold sHit
      rw [List.any_eq_false]
      intro d hd
      simp only [Bool.and_eq_true, decide_eq_true_eq]
      exact hb d (List.mem_range.mp hd)
    rw [this]
    rfl
  · rintro fuel j _ hj hb ih
    try simp only at ih
    show wp (f_X10_wasHurt_2 (fuel + 1) (nI c) (nI j) S) _
    unfold f_X10_wasHurt_2
    refine wp_rd 1 rfl (by decide) hT.2.1 ?_
    refine wp_neg (nI_ge hj (by omega)) ?_
    have how : ow N j < 2 := by unfold ow; omega
    rw [h.2.2.2.1]
    refine wp_if (fun q => ?_) (fun q => ?_)
    · have q := (bt_test (by omega)).mp q
      refine wp_bnde (owner_M hT hI hj) ?_
      refine wp_if (fun q2 => ?_) (fun q2 => ?_)
      · have q2 := (nI_eq (by omega) (by omega)).mp q2
        refine wp_some ?_
        have : sHit N (W 0 4) c = true := by
          unfold sHit
          rw [List.any_eq_true]
          exact ⟨j, List.mem_range.mpr hj, by simp [q, q2]⟩
        rw [this]
        rfl
      · rw [nI_1]
        refine ih () (fun d hd => ?_)
        rcases (by omega : d < j ∨ d = j) with h' | rfl
        · exact hb d h'
        · exact fun e => q2 (by rw [e.2])
    · rw [nI_1]
      refine ih () (fun d hd => ?_)
      rcases (by omega : d < j ∨ d = j) with h' | rfl
      · exact hb d h'
      · exact fun e => q ((bt_test (by omega)).mpr e.1)
theorem callsCity_M (h : WM t S N W cd) (ht : t < 23) {c : Nat} (hc : c < 2) :
    wp (f_X10_callsCity (nI t) (nI c) S) (fun S' => S'.1 = S.1 ∧ ∀ i, i < 7 → S'.2 14 i = (nmC W c i).toInt64) := by
  unfold f_X10_callsCity
  refine lp0 (fun fuel i M => f_X10_callsCity_2 fuel (nI t) (nI c) i M) 7 (fun j M => M.1 = S.1 ∧ ∀ i, i < j → M.2 14 i = 0) (by omega) S ⟨rfl, fun i hi => absurd hi (Nat.not_lt_zero i)⟩ ?_ ?_
  · rintro fuel M ⟨e1, z⟩
    show wp (f_X10_callsCity_2 (fuel + 1) (nI t) (nI c) (nI 7) M) _
    unfold f_X10_callsCity_2
    refine wp_pos (by decide) ?_
    refine wp_rd (2 * t + c) (ix2 t c) (by omega) (v := W 5 c) (by rw [e1]; exact (h.2.2.2.2.2 c hc).1) ?_
    refine wp_wrL 4 rfl (by decide) ?_
    refine wp_rd t rfl ht (v := W 0 0) (by show M.1 16 t = _; rw [e1]; exact h.1) ?_
    refine wp_wrL 6 rfl (by decide) ?_
    refine wp_some ⟨e1, fun i hi => ?_⟩
    have := z i hi
    simp only [sL2, nmC]
    rcases (by omega : i = 4 ∨ i = 6 ∨ (i ≠ 4 ∧ i ≠ 6)) with rfl | rfl | ⟨q1, q2⟩
    · simp
    · simp
    · simp [q1, q2, this]
  · rintro fuel j M hj ⟨e1, z⟩ ih
    try simp only at ih
    show wp (f_X10_callsCity_2 (fuel + 1) (nI t) (nI c) (nI j) M) _
    unfold f_X10_callsCity_2
    refine wp_neg (nI_ge (b := 7) hj (by omega)) ?_
    refine wp_wrL j rfl hj ?_
    rw [nI_1]
    refine ih _ ⟨e1, fun i hi => ?_⟩
    rw [sL2]
    split
    · rfl
    · exact z i (by omega)
end WMS
