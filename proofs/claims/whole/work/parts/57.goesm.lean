/-! PURE 8: the reference's told; its laws -/
def TM (S : Mem) (N : TN) (T : WS) (L : LWS) : Prop :=
  S.1 2 0 = nI (N 0 0) ∧ S.1 2 1 = nI (N 0 1) ∧ S.1 2 6 = T 9 0 ∧
  (∀ i, i < N 0 0 → S.1 3 i = T 1 i ∧ S.1 4 i = nI (N 2 i) ∧ S.1 5 i = nI (N 3 i)) ∧
  (∀ d, d < N 0 1 → S.1 6 d = T 4 d ∧ S.1 7 d = nI (N 5 d) ∧ S.1 8 d = T 6 d ∧ S.1 9 d = T 7 d) ∧
  (∀ i, i < 4 → S.1 2 (2 + i) = T 0 i) ∧
  (∀ k, k < 3 → (L k = none → S.1 11 k ≤ S.1 10 k) ∧ (∀ l, L k = some l → ∃ a, S.1 10 k = nI a ∧ S.1 11 k = nI (a + l.length) ∧ a + l.length ≤ 64 ∧ ∀ i, i < l.length → S.1 12 (a + i) = nI (ks (l.getD i 0)) ∧ S.1 13 (a + i) = nI (kv (l.getD i 0))))
theorem TM_to {S S' : Mem} {N : TN} {T : WS} {L : LWS} (h : TM S N T L) (e : ∀ c i, 2 ≤ c → c ≤ 13 → S'.1 c i = S.1 c i) : TM S' N T L := by
  obtain ⟨h1, h2, h3, h4, h5, h6, h7⟩ := h
  have e2 : S'.1 2 = S.1 2 := funext fun i => e 2 i (by omega) (by omega)
  have e3 : S'.1 3 = S.1 3 := funext fun i => e 3 i (by omega) (by omega)
  have e4 : S'.1 4 = S.1 4 := funext fun i => e 4 i (by omega) (by omega)
  have e5 : S'.1 5 = S.1 5 := funext fun i => e 5 i (by omega) (by omega)
  have e6 : S'.1 6 = S.1 6 := funext fun i => e 6 i (by omega) (by omega)
  have e7 : S'.1 7 = S.1 7 := funext fun i => e 7 i (by omega) (by omega)
  have e8 : S'.1 8 = S.1 8 := funext fun i => e 8 i (by omega) (by omega)
  have e9 : S'.1 9 = S.1 9 := funext fun i => e 9 i (by omega) (by omega)
  have e10 : S'.1 10 = S.1 10 := funext fun i => e 10 i (by omega) (by omega)
  have e11 : S'.1 11 = S.1 11 := funext fun i => e 11 i (by omega) (by omega)
  have e12 : S'.1 12 = S.1 12 := funext fun i => e 12 i (by omega) (by omega)
  have e13 : S'.1 13 = S.1 13 := funext fun i => e 13 i (by omega) (by omega)
  unfold TM
  rw [e2, e3, e4, e5, e6, e7, e8, e9, e10, e11, e12, e13]
  exact ⟨h1, h2, h3, h4, h5, h6, h7⟩
theorem TM_S {S S' : Mem} {N : TN} {T : WS} {L : LWS} (h : TM S N T L) (e : frS S S') : TM S' N T L := TM_to h (fun c i _ _ => e c i (by omega))
set_option maxHeartbeats 2000000 in
theorem goes_M {S : Mem} {N : TN} {T : WS} {L : LWS} {nm : Nat → Int32} {k : Nat} {l : List Nat} (hT : TM S N T L) (hI : TI N T L) (hk : k < 3) (hL : L k = some l) (hnm : ∀ i, i < 7 → S.2 14 i = (nm i).toInt64) :
    wp (f_X10_goes (nI k) S) (fun q => frS S q.2 ∧ match fin1 (evL nm l []) with | none => q.1 = 0 | some v => q.1 = 1 ∧ q.2.2 15 0 = v) := by
  obtain ⟨a, ea, eb, hab, hrow⟩ := (hT.2.2.2.2.2.2 k hk).2 l hL
  obtain ⟨hwf, hlen⟩ := hI.2.2.2.2.2.2.2.2 k hk l hL
  unfold f_X10_goes
  refine wp_nxt ?_
  refine wp_rd k rfl (by omega) (v := nI a) (by rw [sI_off (by omega)]; exact ea) ?_
  refine lpF (fun fuel i (s : List Int64 × Mem) => f_X10_goes_12 fuel (nI k) i s.2) a (a + l.length)
    (fun j s => frS S s.2 ∧ (∀ i, i < 7 → s.2.2 14 i = (nm i).toInt64) ∧ stkC s.2 15 s.1 ∧ s.2.1 0 30 = nI s.1.length ∧ (∀ v ∈ s.1, bd v) ∧ s.1.length ≤ j - a ∧ a ≤ j ∧ evL nm l [] = evL nm (l.drop (j - a)) s.1 ∧ wfK (l.drop (j - a)) s.1.length)
    (by omega) (by omega) ([], sI S 0 30 0) ⟨frS_30, hnm, trivial, rfl, fun _ hx => (by cases hx), Nat.zero_le _, Nat.le_refl _, by rw [Nat.sub_self, List.drop_zero], by rw [Nat.sub_self, List.drop_zero]; exact hwf⟩ ?_ ?_
  · rintro fuel ⟨st, M⟩ ⟨h1, h2, h3, h4, h5, h6, h7, h8, h9⟩
    simp only at h1 h2 h3 h4 h5 h6 h7 h8 h9
    show wp (f_X10_goes_12 (fuel + 1) (nI k) (nI (a + l.length)) M) _
    unfold f_X10_goes_12
    refine wp_rd k rfl (by omega) (v := nI (a + l.length)) (by rw [h1 _ _ (by omega)]; exact eb) ?_
    refine wp_pos (Int32.le_refl _) (wp_some ⟨h1, ?_⟩)
    rw [Nat.add_sub_cancel_left, List.drop_length] at h8 h9
    have h9 : st.length = 1 := h9
    obtain ⟨v, rfl⟩ := List.length_eq_one_iff.mp h9
    rw [h8]
    exact ⟨rfl, h3.1⟩
  · rintro fuel j ⟨st, M⟩ hj ⟨h1, h2, h3, h4, h5, h6, h7, h8, h9⟩ ih
    simp only at h1 h2 h3 h4 h5 h6 h7 h8 h9 ih
    show wp (f_X10_goes_12 (fuel + 1) (nI k) (nI j) M) _
    unfold f_X10_goes_12
    refine wp_rd k rfl (by omega) (v := nI (a + l.length)) (by rw [h1 _ _ (by omega)]; exact eb) ?_
    refine wp_neg (nI_ge hj (by omega)) ?_
    have hi : j - a < l.length := by omega
    have hgd : l.getD (j - a) 0 = l[j - a] := by simp [List.getD, hi]
    have haj : a + (j - a) = j := by omega
    obtain ⟨r1, r2⟩ := hrow (j - a) hi
    rw [hgd, haj] at r1 r2
    rw [List.drop_eq_getElem_cons hi] at h8 h9
    have hsuc : j + 1 - a = j - a + 1 := by omega
    rw [hsuc] at ih
    generalize l[j - a] = x at *
    have hx := okK h9
    have m12 : M.1 12 j = nI (ks x) := by rw [h1 _ _ (by omega)]; exact r1
    have m13 : M.1 13 j = nI (kv x) := by rw [h1 _ _ (by omega)]; exact r2
    have h8' : evL nm l [] = (evK nm x st).bind (evL nm (l.drop (j - a + 1))) := h8
    refine wp_rd j rfl (by omega) m12 ?_
    have push : ∀ v : Int64, evK nm x st = some (v :: st) → bd v → wfK (l.drop (j - a + 1)) (st.length + 1) → wp (f_X10_goes_85 (f_X10_goes_12 fuel) (nI k) (nI j) (M.1 0 30) v M) (fun q => frS S q.2 ∧ match fin1 (evL nm l []) with | none => q.1 = 0 | some v => q.1 = 1 ∧ q.2.2 15 0 = v) := by
      intro v hv hbv hw
      unfold f_X10_goes_85
      refine wp_wrL st.length h4 (by omega) ?_
      refine wp_nxt ?_
      rw [nI_1]
      have e30 : (sL M 15 st.length v).1 0 30 + 1 = nI (st.length + 1) := by
        show M.1 0 30 + 1 = _
        rw [h4, nI_1]
      rw [e30]
      refine ih (v :: st, _) ⟨frS_tr h1 (frS_tr frS_sL frS_30), fun i hi7 => ?_, stk_to (stk_push h3) (fun _ => rfl), rfl, fun u hu => ?_, by simp only [List.length_cons]; omega, by omega, by rw [h8', hv]; rfl, hw⟩
      · show (sL M 15 st.length v).2 14 i = _
        rw [sL2, if_neg (by omega)]; exact h2 i hi7
      · rcases List.mem_cons.mp hu with rfl | hu
        · exact hbv
        · exact h5 u hu
    unfold wfK at h9
    by_cases c20 : x < 20
    · rw [if_pos c20] at h9
      have e2 : ks x = 2 := by rw [ks, if_pos c20]
      rw [e2]
      refine wp_pos (by decide) ?_
      have e3 : kv x = rv x := by rw [kv, if_pos c20]
      rw [e3] at m13
      refine wp_rd j rfl (by omega) m13 ?_
      have hev : evK nm x st = evS x st := by rw [evK, if_pos (by omega), if_pos c20]
      refine wp_bnd (works_M (st := st) hx.1 (by omega) h3 h4 h5 (by omega) (by
        by_cases c : x = 19
        · rw [if_pos c] at h9 ⊢; exact h9.2.1
        · rw [if_neg c] at h9 ⊢; exact h9.2.1)) ?_
      rintro r M2 ⟨f2, g14, hm⟩
      simp only at f2 g14 hm
      cases hs : evS x st with
      | none =>
        rw [hs] at hm
        refine wp_pos hm (wp_some ⟨frS_tr h1 f2, ?_⟩)
        rw [h8', hev, hs]
        rfl
      | some st' =>
        rw [hs] at hm
        obtain ⟨hr, hst, h30⟩ := hm
        refine wp_neg (by rw [hr]; decide) ?_
        rw [nI_1]
        have hl' : st'.length ≤ st.length ∧ wfK (l.drop (j - a + 1)) st'.length := by
          unfold evS at hs
          by_cases c : x = 19
          · rw [if_pos c] at hs h9
            rcases st with _ | ⟨u, s⟩
            · cases hs
            · cases hs
              exact ⟨Nat.le_refl _, h9.2.2⟩
          · rw [if_neg c] at hs h9
            rcases st with _ | ⟨y, _ | ⟨u, s⟩⟩
            · cases hs
            · cases hs
            · cases hj' : jn x u y with
              | none => simp [hj'] at hs
              | some v =>
                simp [hj'] at hs
                subst hs
                refine ⟨by simp, ?_⟩
                have := h9.2.2
                simpa using this
        exact ih (st', M2) ⟨frS_tr h1 f2, fun i hi7 => by rw [g14]; exact h2 i hi7, hst, h30, evS_b h5 hs, (by have := hl'.1; show st'.length ≤ _; omega), by omega, by rw [h8', hev, hs]; rfl, hl'.2⟩
    · rw [if_neg c20] at h9
      by_cases c100 : x < 100
      · rw [if_pos c100] at h9
        have e1 : ks x = 1 := by rw [ks, if_neg c20, if_pos c100]
        rw [e1]
        refine wp_neg (by decide) ?_
        refine wp_rd j rfl (by omega) (by rw [m12, e1]) ?_
        refine wp_neg (by decide) ?_
        have e3 : kv x = x - 20 := by rw [kv, if_neg c20, if_pos c100]
        rw [e3] at m13
        refine wp_rd j rfl (by omega) m13 ?_
        refine wp_rdL (x - 20) rfl (by omega) (h2 (x - 20) (by omega)) ?_
        exact push _ (by rw [evK, if_pos c100, if_neg c20, if_neg (by omega)]) (bd_i _) h9.2
      · rw [if_neg c100] at h9
        have e0 : ks x = 0 := by rw [ks, if_neg c20, if_neg c100]
        rw [e0]
        refine wp_neg (by decide) ?_
        refine wp_rd j rfl (by omega) (by rw [m12, e0]) ?_
        refine wp_pos (by decide) ?_
        have e3 : kv x = x - 100 := by rw [kv, if_neg c20, if_neg c100]
        rw [e3] at m13
        refine wp_rd j rfl (by omega) m13 ?_
        rw [nI_l (by omega)]
        exact push _ (by rw [evK, if_neg c100]) (bd_n (by omega)) h9.2
theorem wf_ne {l : List Nat} (h : wfK l 0) : 0 < l.length := by
  rcases l with _ | ⟨k, l⟩
  · cases h
  · simp
theorem within_M {S : Mem} {N : TN} {T : WS} {L : LWS} {nm : Nat → Int32} {k : Nat} (hT : TM S N T L) (hI : TI N T L) (hk : k < 3) (hnm : ∀ i, i < 7 → S.2 14 i = (nm i).toInt64) (m p : Int32) :
    wp (f_X10_within (nI k) m p S) (fun q => q.1 = byL (lawV (L k) nm) m p ∧ frS S q.2) := by
  obtain ⟨tn, ts⟩ := hT.2.2.2.2.2.2 k hk
  unfold f_X10_within f_X10_hasLaw
  rw [rdN (by omega) (by decide), rdN (by omega) (by decide)]
  cases hL : L k with
  | none =>
    refine wp_bnde (a := 0) (S := S) ?_ (wp_pos rfl (wp_some ⟨rfl, frS_rf _⟩))
    show (if S.1 11 k ≤ S.1 10 k then _ else _) = _
    rw [if_pos (tn hL)]
  | some l =>
    obtain ⟨a, ea, eb, hab, hrow⟩ := ts l hL
    have hl := wf_ne (hI.2.2.2.2.2.2.2.2 k hk l hL).1
    refine wp_bnde (a := 1) (S := S) ?_ (wp_neg (by decide) ?_)
    · show (if S.1 11 k ≤ S.1 10 k then _ else _) = _
      rw [ea, eb, if_neg (nI_ge (by omega) (by omega))]
    · refine wp_bnd (goes_M hT hI hk hL hnm) ?_
      rintro r M ⟨f, hm⟩
      simp only at f hm
      show wp _ (fun q : Int32 × Mem => q.1 = byL (fin1 (evL nm l [])) m p ∧ frS S q.2)
      cases hv : fin1 (evL nm l []) with
      | none =>
        rw [hv] at hm
        exact wp_pos hm (wp_some ⟨rfl, f⟩)
      | some v =>
        rw [hv] at hm
        obtain ⟨hr, h15⟩ := hm
        refine wp_neg (by rw [hr]; decide) ?_
        refine wp_rdL 0 rfl (by decide) h15 ?_
        refine wp_bnde (f_mnL _ _ _) ?_
        refine wp_bnde (f_mxL _ _ _) ?_
        exact wp_some ⟨rfl, f⟩
