/-! PURE 6: the class's week, its second half; weeks -/
section RNC
variable {w : Nat} {S : Mem} {N : TN} {T : WS} {L : LWS} {W : WS} {cd : Nat → Int32}
def eD (b : Option Nat) : Int32 := match b with
  | none => -2
  | some e => nI e
def eL (T : WS) (b : Option Nat) : Int32 := match b with
  | none => -1
  | some e => T 6 e
theorem most_in {m : Int32} {c : Nat} : ∀ (j : Nat) (e : Nat), itN (sMostStep N T m c) j none = some e → e < j := by
  intro j
  induction j with
  | zero => intro e h; cases h
  | succ j ih =>
    intro e h
    rw [itN_s] at h
    unfold sMostStep at h
    split at h
    · split at h
      · cases h; omega
      · split at h
        · have := ih e h; omega
        · cases h; omega
    · have := ih e h; omega
theorem sub1 {c : Nat} (hc : c < 2) : (1 : Int32) - nI c = nI (1 - c) := by
  rw [show (1 : Int32) = nI 1 from rfl, pk_sub (by omega)]
theorem hold_C (hT : TC S N T L) (h : WC w S N W cd) {c : Nat} (hc : c < 2) : ∃ m, f_X8_holds w (nI c) S = some (m, S) ∧ ∀ e, bt m e = true ↔ bt (W 0 3) e = true ∧ e < N 0 1 ∧ ow N e ≠ c := by
  unfold f_X8_holds
  rw [sub1 hc, rdN (by omega) (by decide)]
  refine ⟨_, rfl, ?_⟩
  intro e
  have := hT.2.2.2.2.2.1 (1 - c) (by omega) e
  have how : ow N e < 2 := by unfold ow; omega
  rw [bt_and, Bool.and_eq_true, this, h.2.1]
  constructor
  · rintro ⟨a, b, c⟩; exact ⟨a, b, by omega⟩
  · rintro ⟨a, b, c⟩; exact ⟨a, b, by omega⟩
theorem most_C (hT : TC S N T L) (hI : TI N T L) (h : WC w S N W cd) {c : Nat} (hc : c < 2) : f_X8_mostLoved w (nI c) S = some (eD (sMost N T (W 0 3) c), S) := by
  have hnd : N 0 1 ≤ 10 := hI.2.1
  obtain ⟨m, e1, hm⟩ := hold_C hT h hc
  unfold f_X8_mostLoved
  rw [e1]
  show f_X8_mostLoved_15 w FU m (-2) (-1) 0 S = _
  suffices hh : wp (f_X8_mostLoved_15 w FU m (-2) (-1) 0 S) (fun q => q = (eD (sMost N T (W 0 3) c), S)) by
    obtain ⟨y, hy, rfl⟩ := hh
    exact hy
  refine lp0 (fun fuel i (b : Option Nat) => f_X8_mostLoved_15 w fuel m (eD b) (eL T b) i S) (N 0 1) (fun j b => b = itN (sMostStep N T (W 0 3) c) j none) (by omega) none rfl ?_ ?_
  · rintro fuel b hb
    show wp (f_X8_mostLoved_15 w (fuel + 1) m (eD b) (eL T b) (nI (N 0 1)) S) _
    unfold f_X8_mostLoved_15
    rw [hT.2.1]
    exact wp_pos (Int32.le_refl _) (wp_some (by rw [hb]; rfl))
  · rintro fuel j b hj hb ih
    try simp only at ih
    show wp (f_X8_mostLoved_15 w (fuel + 1) m (eD b) (eL T b) (nI j) S) _
    unfold f_X8_mostLoved_15
    rw [hT.2.1]
    refine wp_neg (nI_ge hj (by omega)) ?_
    rw [itN_s, ← hb] at ih
    have hd := (hT.2.2.2.2.1 j hj).2.2.2.1
    refine wp_if (fun q => ?_) (fun q => ?_)
    · have q := (hm j).mp ((bt_test (by omega)).mp q)
      refine wp_rd j rfl (by omega) hd ?_
      cases b with
      | none =>
        have h0 := (hI.2.2.2.1 j hj).2.1
        refine wp_neg (fun e => ?_) ?_
        · have : (0 : Int32) ≤ -1 := Int32.le_trans h0 e
          exact absurd this (by decide)
        · refine wp_rd j rfl (by omega) hd ?_
          rw [nI_1]
          exact ih (some j) (by simp [sMostStep, q.1, q.2.2])
      | some e =>
        refine wp_if (fun q2 => ?_) (fun q2 => ?_)
        · rw [nI_1]
          have q2 : T 6 j ≤ T 6 e := q2
          exact ih (some e) (by simp [sMostStep, q.1, q.2.2, q2])
        · refine wp_rd j rfl (by omega) hd ?_
          have q2 : ¬ T 6 j ≤ T 6 e := q2
          rw [nI_1]
          exact ih (some j) (by simp [sMostStep, q.1, q.2.2, q2])
    · have q : ¬ (bt (W 0 3) j = true ∧ ow N j ≠ c) := fun e => q ((bt_test (by omega)).mpr ((hm j).mpr ⟨e.1, hj, e.2⟩))
      rw [nI_1]
      exact ih b (by unfold sMostStep; rw [if_neg q])
theorem sH_6 (c d : Nat) : sHurt N T L cd W d 6 c = W 6 c := by simp [sHurt, sHurt1, wu1]
theorem ans_C (hw : w = 53 ∨ w = 69) (hT : TC S N T L) (hI : TI N T L) (h : WC w S N W cd) :
    wp (f_X8_answerBreaches w S) (fun S' => WC w S' N (sAns N T L cd (sAns N T L cd W 0) 1) cd ∧ fr w S S') := by
  have hnd : N 0 1 ≤ 10 := hI.2.1
  unfold f_X8_answerBreaches
  refine lp0 (fun fuel i M => f_X8_answerBreaches_2 w fuel i M) 2 (fun j M => WC w M N (itN (fun c V => sAns N T L cd V c) j W) cd ∧ fr w S M) (by omega) S ⟨h, fr_rf _ _⟩ ?_ ?_
  · rintro fuel M ⟨h1, f1⟩
    exact wp_pos (by decide) (wp_some ⟨h1, f1⟩)
  · rintro fuel j M hj ⟨h1, f1⟩ ih
    try simp only at ih
    show wp (f_X8_answerBreaches_2 w (fuel + 1) (nI j) M) _
    unfold f_X8_answerBreaches_2
    refine wp_neg (nI_ge (b := 2) hj (by omega)) ?_
    rw [itN_s] at ih
    generalize itN (fun c V => sAns N T L cd V c) j W = V at *
    have hT1 := TC_fr (by omega) hT f1
    refine wp_rd j rfl hj (h1.2.2.2.2.2.2 j hj).1 ?_
    refine wp_rd 1 rfl (by decide) (hT1.2.2.2.2.2.2.1 1 (by decide)) ?_
    unfold sAns at ih
    refine wp_if (fun q => ?_) (fun q => ?_)
    · unfold f_X8_answerBreaches_35
      refine wp_pos (by decide) ?_
      rw [nI_1]
      exact ih M ⟨by simpa [q] using h1, f1⟩
    · refine wp_bnde (most_C hT1 hI h1 hj) ?_
      unfold f_X8_answerBreaches_35
      simp only [if_neg q] at ih
      cases hb : sMost N T (V 0 3) j with
      | none =>
        refine wp_pos (by decide) ?_
        rw [nI_1]
        exact ih M ⟨by simpa [hb] using h1, f1⟩
      | some d =>
        have hd : d < N 0 1 := most_in _ _ hb
        refine wp_neg (nI_pos (by omega)) ?_
        refine wp_call (hurt_C hw hT1 hI h1 hd) ?_
        rintro M2 ⟨h2, f2⟩
        refine wp_wr j rfl hj ?_
        have h3 := WC_5 h2 j 0
        refine wp_rd j rfl hj (h3.2.2.2.2.2.2 j hj).2 ?_
        refine wp_wr j rfl hj ?_
        rw [nI_1]
        refine ih _ ⟨?_, fr_tr f1 (fr_tr f2 (fr_tr (fr_sI (by omega) (by omega)) (fr_sI (by omega) (by omega))))⟩
        have e6 : wu (sHurt N T L cd V d) 5 j 0 6 j = V 6 j := by rw [wu1, if_neg (by omega), sH_6]
        rw [hb, e6]
        exact WC_6 h3 j _
theorem calm_C (hw : w = 53 ∨ w = 69) (hT : TC S N T L) (hI : TI N T L) (h : WC w S N W cd) {c : Nat} (hc : c < 2) :
    wp (f_X8_calmLaw w (nI c) S) (fun q => q.1 = er (lawV (L 2) (nmC W c)) ∧ frN w S q.2) := by
  unfold f_X8_calmLaw
  refine wp_pos (by decide) ?_
  show wp (if S.1 50 0 = 0 then _ else f_X8_calmLaw_23 w FU (nI c) 50 0 S) _
  obtain ⟨tn, ts⟩ := hT.2.2.2.2.2.2.2 2 (by omega)
  cases hL : L 2 with
  | none =>
    exact wp_pos (tn hL) (wp_some ⟨rfl, fun _ _ => rfl, fun _ _ _ _ => rfl⟩)
  | some l =>
    obtain ⟨s0, s1, s2⟩ := ts l hL
    have s0 : S.1 50 0 = 1 := s0
    rw [s0]
    refine wp_neg (by decide) ?_
    refine lp0 (fun fuel i M => f_X8_calmLaw_23 w fuel (nI c) 50 i M) 7 (fun j M => frN w S M ∧ ∀ i, i < j → M.1 (w + 7) i = 0) (by omega) S ⟨⟨fun _ _ => rfl, fun _ _ _ _ => rfl⟩, fun i hi => absurd hi (Nat.not_lt_zero i)⟩ ?_ ?_
    · rintro fuel M ⟨f1, z⟩
      show wp (f_X8_calmLaw_23 w (fuel + 1) (nI c) 50 (nI 7) M) _
      unfold f_X8_calmLaw_23
      refine wp_pos (by decide) ?_
      have h1 := WC_n h f1 (by omega)
      have aw : w ≠ w + 7 := by omega
      refine wp_rd c rfl hc (h1.2.2.2.2.2.2 c hc).1 ?_
      refine wp_wr 4 rfl (by decide) ?_
      refine wp_wr 6 rfl (by decide) ?_
      simp only [sI_off aw]
      rw [h1.1]
      have a50 : 50 ≠ w + 7 := by omega
      have a51 : 51 ≠ w + 7 := by omega
      refine wp_bnd (valC (l := l) (nm := nmC W c) ?_ ?_ ?_ ?_ ?_) ?_
      · simp only [sI_off a50]
        rw [f1.1 50 a50]; exact s1
      · exact (hI.2.2.2.2.2.2.2.2 2 (by omega) l hL).2
      · intro i hi
        show (sI (sI M (w + 7) 4 (W 5 c)) (w + 7) 6 (W 0 0)).1 51 i = _
        simp only [sI_off a51]
        rw [f1.1 51 a51]; exact s2 i hi
      · exact okL l 0 (hI.2.2.2.2.2.2.2.2 2 (by omega) l hL).1
      · intro i hi
        have := z i hi
        simp only [sI1, nmC]
        grind
      · rintro r S' ⟨q1, q2, q3⟩
        refine wp_some ⟨q1, fun c' hc' => ?_, fun c' c1 c2 c3 => ?_⟩
        · simp only at q2
          rw [q2]
          simp only [sI_off hc']
          exact f1.1 c' hc'
        · have := q3 c' (by omega)
          simp only at this
          rw [this]
          exact f1.2 c' c1 c2 c3
    · rintro fuel j M hj ⟨f1, z⟩ ih
      try simp only at ih
      show wp (f_X8_calmLaw_23 w (fuel + 1) (nI c) 50 (nI j) M) _
      unfold f_X8_calmLaw_23
      refine wp_neg (nI_ge (b := 7) hj (by omega)) ?_
      refine wp_wr j rfl hj ?_
      rw [nI_1]
      refine ih _ ⟨⟨fun c' hc' => ?_, f1.2⟩, fun i hi => ?_⟩
      · rw [sI_off hc']; exact f1.1 c' hc'
      · rw [sI1]
        split
        · rfl
        · exact z i (by omega)
theorem hit_C (hT : TC S N T L) (hnd : N 0 1 ≤ 10) (m : Int32) {c : Nat} (hc : c < 2) : m &&& S.1 40 c = 0 ↔ sHit N m c = false := by
  rw [bt_and0]
  unfold sHit
  rw [List.any_eq_false]
  constructor
  · intro h d hd
    rw [List.mem_range] at hd
    have := h d (by omega)
    rw [hT.2.2.2.2.2.1 c hc d] at this
    simp only [Bool.and_eq_true, decide_eq_true_eq]
    exact fun e => this ⟨e.1, hd, e.2⟩
  · intro h d hd e
    rw [hT.2.2.2.2.2.1 c hc d] at e
    have := h d (List.mem_range.mpr e.2.1)
    simp only [Bool.and_eq_true, decide_eq_true_eq] at this
    exact this ⟨e.1, e.2.2⟩
theorem forg_C (hw : w = 53 ∨ w = 69) (hT : TC S N T L) (hI : TI N T L) (h : WC w S N W cd) :
    wp (f_X8_forgive w S) (fun S' => WC w S' N (sForg N L (sForg N L W 0) 1) cd ∧ fr w S S') := by
  have hnd : N 0 1 ≤ 10 := hI.2.1
  unfold f_X8_forgive
  refine lp0 (fun fuel i M => f_X8_forgive_2 w fuel i M) 2 (fun j M => WC w M N (itN (fun c V => sForg N L V c) j W) cd ∧ fr w S M) (by omega) S ⟨h, fr_rf _ _⟩ ?_ ?_
  · rintro fuel M ⟨h1, f1⟩
    exact wp_pos (by decide) (wp_some ⟨h1, f1⟩)
  · rintro fuel j M hj ⟨h1, f1⟩ ih
    try simp only at ih
    show wp (f_X8_forgive_2 w (fuel + 1) (nI j) M) _
    unfold f_X8_forgive_2
    refine wp_neg (nI_ge (b := 2) hj (by omega)) ?_
    rw [itN_s] at ih
    generalize itN (fun c V => sForg N L V c) j W = V at *
    have hT1 := TC_fr (by omega) hT f1
    refine wp_rd j rfl hj rfl ?_
    rw [h1.2.2.2.1]
    unfold sForg at ih
    refine wp_if (fun q => ?_) (fun q => ?_)
    · rw [hit_C hT1 hnd _ hj] at q
      refine wp_bnd (calm_C hw hT1 hI h1 hj) ?_
      rintro r M2 ⟨hr, f2⟩
      simp only at hr f2
      have h2 := WC_n h1 f2 (by omega)
      have f3 := fr_tr f1 (fr_n f2)
      have last : ∀ p : Int32, p = byL (lawV (L 2) (nmC V j)) 99 1 → wp (f_X8_forgive_48 w (f_X8_forgive_2 w fuel) (nI j) p M2) (fun S' => WC w S' N (sForg N L (sForg N L W 0) 1) cd ∧ fr w S S') := by
        intro p hp
        unfold f_X8_forgive_48
        refine wp_rd j rfl hj (h2.2.2.2.2.2.2 j hj).1 ?_
        refine wp_bnde (f_mx _ _ _) ?_
        refine wp_wr j rfl hj ?_
        rw [nI_1]
        refine ih _ ⟨?_, fr_tr f3 (fr_sI (by omega) (by omega))⟩
        rw [if_neg (by rw [q]; decide), ← hp]
        exact WC_5 h2 _ _
      refine law_if hI (by omega) hr (fun hv => ?_) (fun v hv hrv => ?_)
      · exact last _ (by rw [hv]; rfl)
      · refine wp_bnde (f_within _ _ _) ?_
        exact last _ (by rw [hv, hrv]; rfl)
    · rw [hit_C hT1 hnd _ hj, Bool.not_eq_false] at q
      rw [nI_1]
      exact ih M ⟨by rw [if_pos q]; exact h1, f1⟩
theorem fond_C (hw : w = 53 ∨ w = 69) (hT : TC S N T L) (hI : TI N T L) (h : WC w S N W cd) :
    wp (f_X8_growFond w S) (fun S' => WC w S' N (itN sFond (N 0 1) W) cd ∧ fr w S S') := by
  have hnd : N 0 1 ≤ 10 := hI.2.1
  unfold f_X8_growFond
  refine lp0 (fun fuel i M => f_X8_growFond_2 w fuel i M) (N 0 1) (fun j M => WC w M N (itN sFond j W) cd ∧ fr w S M) (by omega) S ⟨h, fr_rf _ _⟩ ?_ ?_
  · rintro fuel M ⟨h1, f1⟩
    show wp (f_X8_growFond_2 w (fuel + 1) (nI (N 0 1)) M) _
    unfold f_X8_growFond_2
    rw [fr_to hw hT f1]
    exact wp_pos (Int32.le_refl _) (wp_some ⟨h1, f1⟩)
  · rintro fuel j M hj ⟨h1, f1⟩ ih
    try simp only at ih
    show wp (f_X8_growFond_2 w (fuel + 1) (nI j) M) _
    unfold f_X8_growFond_2
    rw [fr_to hw hT f1]
    refine wp_neg (nI_ge hj (by omega)) ?_
    refine wp_bnde (held_C h1 (by omega)) ?_
    rw [itN_s] at ih
    generalize itN sFond j W = V at *
    unfold sFond at ih
    by_cases c : bt (V 0 3) j = true
    · rw [if_pos c]
      simp only [if_pos c] at ih
      refine wp_neg (by decide) ?_
      rw [h1.2.2.2.1]
      have e3 := (h1.2.2.2.2.2.1 j hj).2.2
      refine wp_if (fun q => ?_) (fun q => ?_)
      · have q := (bt_test (by omega)).mp q
        unfold f_X8_growFond_38
        refine wp_neg (by decide) ?_
        refine wp_rd j rfl (by omega) e3 ?_
        refine wp_bnde (f_mx _ _ _) ?_
        unfold f_X8_growFond_76
        refine wp_wr j rfl (by omega) ?_
        rw [nI_1]
        refine ih _ ⟨?_, fr_tr f1 (fr_sI (by omega) (by omega))⟩
        rw [if_pos q]
        exact WC_3 h1 _ _
      · have q : ¬ bt (V 0 4) j = true := fun e => q ((bt_test (by omega)).mpr e)
        unfold f_X8_growFond_38
        refine wp_pos (by decide) ?_
        refine wp_rd j rfl (by omega) e3 ?_
        refine wp_bnde (f_mn _ _ _) ?_
        unfold f_X8_growFond_76
        refine wp_wr j rfl (by omega) ?_
        rw [nI_1]
        refine ih _ ⟨?_, fr_tr f1 (fr_sI (by omega) (by omega))⟩
        rw [if_neg q]
        exact WC_3 h1 _ _
    · rw [if_neg c]
      simp only [if_neg c] at ih
      refine wp_pos rfl ?_
      rw [nI_1]; exact ih _ ⟨h1, f1⟩
theorem run54_C (hw : w = 53 ∨ w = 69) (hT : TC S N T L) (hI : TI N T L) (h : WC w S N W cd) {v1 v2 v3 : Int32} {R : Int32 → Int32 → Int32 → Mem → Option Mem} {P : Mem → Prop}
    (k : ∀ S', WC w S' N (wu (itN sFond (N 0 1) W) 0 0 (itN sFond (N 0 1) W 0 0 + 1)) cd → fr w S S' → wp (R v1 v2 (v3 + 1) S') P) : wp (f_X8_run_54 w R v1 v2 v3 S) P := by
  unfold f_X8_run_54
  refine wp_call (fond_C hw hT hI h) ?_
  rintro M ⟨h1, f1⟩
  refine wp_nxt ?_
  rw [h1.1]
  exact k _ (WC_wk h1 _) (fr_tr f1 (fr_sI (by omega) (by omega)))
theorem run43_C (hw : w = 53 ∨ w = 69) (hT : TC S N T L) (hI : TI N T L) (h : WC w S N W cd) {v1 v2 v3 : Int32} {R : Int32 → Int32 → Int32 → Mem → Option Mem} {P : Mem → Prop} (b : Bool) (hb : (v2 &&& (8 : Int32)) = 0 ↔ b = false)
    (k : ∀ S', WC w S' N (let W3 := if b = true then W else sForg N L (sForg N L W 0) 1; wu (itN sFond (N 0 1) W3) 0 0 (itN sFond (N 0 1) W3 0 0 + 1)) cd → fr w S S' → wp (R v1 v2 (v3 + 1) S') P) : wp (f_X8_run_43 w R v1 v2 v3 S) P := by
  unfold f_X8_run_43
  cases b with
  | false =>
    refine wp_pos (hb.mpr rfl) ?_
    refine wp_call (forg_C hw hT hI h) ?_
    rintro M ⟨h1, f1⟩
    refine run54_C hw (TC_fr (by omega) hT f1) hI h1 ?_
    intro S' h2 f2
    exact k S' h2 (fr_tr f1 f2)
  | true =>
    refine wp_neg (fun e => by have := hb.mp e; cases this) ?_
    exact run54_C hw hT hI h (fun S' h2 f2 => k S' h2 f2)
theorem run33_C (hw : w = 53 ∨ w = 69) (hT : TC S N T L) (hI : TI N T L) (h : WC w S N W cd) {v1 v2 v3 : Int32} {R : Int32 → Int32 → Int32 → Mem → Option Mem} {P : Mem → Prop} (b4 b8 : Bool) (hb4 : (v2 &&& (4 : Int32)) = 0 ↔ b4 = false) (hb8 : (v2 &&& (8 : Int32)) = 0 ↔ b8 = false)
    (k : ∀ S', WC w S' N (let W2 := if b4 = true then W else sAns N T L cd (sAns N T L cd W 0) 1; let W3 := if b8 = true then W2 else sForg N L (sForg N L W2 0) 1; wu (itN sFond (N 0 1) W3) 0 0 (itN sFond (N 0 1) W3 0 0 + 1)) cd → fr w S S' → wp (R v1 v2 (v3 + 1) S') P) : wp (f_X8_run_33 w R v1 v2 v3 S) P := by
  unfold f_X8_run_33
  cases b4 with
  | false =>
    refine wp_pos (hb4.mpr rfl) ?_
    refine wp_call (ans_C hw hT hI h) ?_
    rintro M ⟨h1, f1⟩
    refine run43_C hw (TC_fr (by omega) hT f1) hI h1 b8 hb8 ?_
    intro S' h2 f2
    exact k S' h2 (fr_tr f1 f2)
  | true =>
    refine wp_neg (fun e => by have := hb4.mp e; cases this) ?_
    exact run43_C hw hT hI h b8 hb8 (fun S' h2 f2 => k S' h2 f2)
theorem run_C (hw : w = 53 ∨ w = 69) (hT : TC S N T L) (hI : TI N T L) (h : WC w S N W cd) {how n : Nat} (hh : how = 0 ∨ how = 1 ∨ how = 2 ∨ how = 4 ∨ how = 8) (hn : n < 1000) :
    wp (f_X8_run w (nI n) (nI how) S) (fun S' => WC w S' N (sRun N T L cd how n W) cd ∧ fr w S S') := by
  unfold f_X8_run
  refine lp0 (fun fuel i M => f_X8_run_2 w fuel (nI n) (nI how) i M) n (fun j M => WC w M N (sRun N T L cd how j W) cd ∧ fr w S M) (by omega) S ⟨h, fr_rf _ _⟩ ?_ ?_
  · rintro fuel M ⟨h1, f1⟩
    show wp (f_X8_run_2 w (fuel + 1) (nI n) (nI how) (nI n) M) _
    unfold f_X8_run_2
    exact wp_pos (Int32.le_refl _) (wp_some ⟨h1, f1⟩)
  · rintro fuel j M hj ⟨h1, f1⟩ ih
    try simp only at ih
    show wp (f_X8_run_2 w (fuel + 1) (nI n) (nI how) (nI j) M) _
    unfold f_X8_run_2
    refine wp_neg (nI_ge hj (by omega)) ?_
    refine wp_nxt ?_
    unfold sRun at ih h1
    rw [itN_s] at ih
    generalize itN (fun _ => sWeek N T L cd how) j W = V at *
    have h2 := WC_hm h1 0
    have f2 : fr w S (sI M w 12 0) := fr_tr f1 (fr_sI (by omega) (by omega))
    have hT2 := TC_fr (by omega) hT f2
    rcases hh with rfl | rfl | rfl | rfl | rfl
    · refine wp_pos (by decide) (wp_pos (by decide) ?_)
      unfold f_X8_run_30
      refine wp_call (moths_C hw hT2 hI h2 false) ?_
      rintro M3 ⟨h3, f3⟩
      refine run33_C hw (TC_fr (by omega) hT (fr_tr f2 f3)) hI h3 false false (by decide) (by decide) ?_
      intro S' h4 f4
      rw [nI_1]
      exact ih S' ⟨h4, fr_tr f2 (fr_tr f3 f4)⟩
    · refine wp_pos (by decide) (wp_neg (by decide) ?_)
      unfold f_X8_run_30
      refine wp_call (moths_C hw hT2 hI h2 true) ?_
      rintro M3 ⟨h3, f3⟩
      refine run33_C hw (TC_fr (by omega) hT (fr_tr f2 f3)) hI h3 false false (by decide) (by decide) ?_
      intro S' h4 f4
      rw [nI_1]
      exact ih S' ⟨h4, fr_tr f2 (fr_tr f3 f4)⟩
    · refine wp_neg (by decide) ?_
      refine run33_C hw hT2 hI h2 false false (by decide) (by decide) ?_
      intro S' h4 f4
      rw [nI_1]
      exact ih S' ⟨h4, fr_tr f2 f4⟩
    · refine wp_pos (by decide) (wp_pos (by decide) ?_)
      unfold f_X8_run_30
      refine wp_call (moths_C hw hT2 hI h2 false) ?_
      rintro M3 ⟨h3, f3⟩
      refine run33_C hw (TC_fr (by omega) hT (fr_tr f2 f3)) hI h3 true false (by decide) (by decide) ?_
      intro S' h4 f4
      rw [nI_1]
      exact ih S' ⟨h4, fr_tr f2 (fr_tr f3 f4)⟩
    · refine wp_pos (by decide) (wp_pos (by decide) ?_)
      unfold f_X8_run_30
      refine wp_call (moths_C hw hT2 hI h2 false) ?_
      rintro M3 ⟨h3, f3⟩
      refine run33_C hw (TC_fr (by omega) hT (fr_tr f2 f3)) hI h3 false true (by decide) (by decide) ?_
      intro S' h4 f4
      rw [nI_1]
      exact ih S' ⟨h4, fr_tr f2 (fr_tr f3 f4)⟩
end RNC
