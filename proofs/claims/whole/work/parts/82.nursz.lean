/-! PURE 33: nursing, by both: the end -/
section NUZ
variable {C M S : Mem} {N : TN} {T : WS} {L : LWS} {W : WS} {nu : Nat → Nat} {ds : List Nat}
theorem Cq_n {C M C' M' : Mem} {N : TN} {T : WS} {L : LWS} {W : WS} {nu : Nat → Nat} (h : Cq C M N T L W nu) (hc : cN C C') (hm : mQ M M') (hNu : pNurs C' N T L W nu) : Cq C' M' N T L W nu := by
  obtain ⟨h1, h2, ⟨h3a, h3b, h3c⟩, ⟨h4a, h4b, h4c⟩, h5, h6, h7, h8, h9, h10⟩ := h
  have hnd := h3c.2.1
  have ec : ∀ c i, (c < 53 ∨ (60 < c ∧ c < 69) ∨ (76 < c ∧ c < 88)) → C'.1 c i = C.1 c i := fun c i q => hc.1 c i (by omega) (by omega)
  have em : ∀ i, (i = 2 ∨ i = 24 ∨ i = 25 ∨ (41 ≤ i ∧ i ≤ 44) ∨ i = 50 ∨ i = 51) → M'.1 0 i = M.1 0 i := fun i q => hm 0 i (by unfold mX chC; omega)
  have eo : ∀ c i, (1 ≤ c ∧ c ≤ 13) ∨ (28 ≤ c ∧ c ≤ 32) → M'.1 c i = M.1 c i := fun c i q => hm c i (by unfold mX chC; omega)
  have eR : ∀ t W nu, t ≠ 1 → RM t M N W nu → RM t M' N W nu := fun t W nu ht h => RM_to h hnd (fun c i q => hm c i (by unfold mX; unfold chC at q ⊢; omega))
  have eRC : ∀ w W nu, (w = 53 ∨ w = 61) → RC w C N W nu (caN N) → RC w C' N W nu (caN N) := fun w W nu hw h => RC_to h (fun c i a b q => hc.1 c i (by omega) (by omega)) (by rw [hc.2 w (by omega) (by omega) (by omega) (by omega)])
  refine ⟨?_, ?_, ⟨TC_to h3a (fun k a b => funext fun i => ec k i (by omega)), TM_to h3b (fun c i a b => eo c i (by omega)), h3c⟩, ⟨eRC 53 W nu (by omega) h4a, eR 0 W nu (by omega) h4b, h4c⟩, ?_, ?_, ?_, ?_, ?_, ?_⟩
  · obtain ⟨n, a, b, c, d⟩ := h1
    refine ⟨n, a, by rw [ec _ _ (by omega)]; exact b, by rw [em _ (by omega)]; exact c, fun i hi => ?_⟩
    rw [ec _ _ (by omega), eo _ _ (by omega)]; exact d i hi
  · unfold pFault
    rw [ec _ _ (by omega), ec _ _ (by omega), em _ (by omega), em _ (by omega)]; exact h2
  · unfold pImg
    rw [ec _ _ (by omega), em _ (by omega)]
    rcases h5 with q | ⟨q1, q2, Wi, ni, q3, q4, q5⟩
    · exact Or.inl q
    · exact Or.inr ⟨q1, q2, Wi, ni, eRC 61 _ _ (by omega) q3, eR 2 _ _ (by omega) q4, q5⟩
  · obtain ⟨u, a, b, c, us, d, e⟩ := h6
    refine ⟨u, a, by rw [ec _ _ (by omega)]; exact b, by rw [em _ (by omega)]; exact c, us, d, fun i hi => ?_⟩
    obtain ⟨e1, e2, e3⟩ := e i hi
    refine ⟨eR _ _ _ (by omega) e1, e2, ?_⟩
    rw [ec _ _ (by omega), ec _ _ (by omega), ec _ _ (by omega)]; exact e3
  · obtain ⟨z, a, b, c, d, e, f⟩ := h7
    refine ⟨z, a, by rw [ec _ _ (by omega)]; exact b, by rw [em _ (by omega)]; exact c, by rw [ec _ _ (by omega), em _ (by omega)]; exact d, by rw [ec _ _ (by omega)]; exact e, fun i hi => ?_⟩
    rw [ec _ _ (by omega), eo _ _ (by omega), ec 79 _ (by omega), eo 28 _ (by omega), ec 80 _ (by omega), eo 29 _ (by omega), ec 81 _ (by omega), eo 30 _ (by omega), ec 82 _ (by omega), eo 31 _ (by omega)]
    exact f i hi
  · exact hNu
  · rw [em _ (by omega)]; exact h9
  · rw [em _ (by omega)]; exact h10
def preD (N : TN) (m : Int32) (c i : Nat) : List Nat := (List.range i).filter (fun d => bt m d && decide (ow N d ≠ c))
theorem preD_s {m : Int32} {c i : Nat} : preD N m c (i + 1) = preD N m c i ++ (if bt m i = true ∧ ow N i ≠ c then [i] else []) := by
  unfold preD
  rw [List.range_succ, List.filter_append]
  congr 1
  by_cases q : bt m i = true ∧ ow N i ≠ c
  · rw [if_pos q]; simp [q.1, q.2]
  · rw [if_neg q]
    by_cases q1 : bt m i = true
    · have q2 : ow N i = c := Classical.byContradiction (fun e => q ⟨q1, e⟩)
      simp [q2]
    · simp [q1]
theorem preD_up {m : Int32} {c : Nat} : ∀ k i, ∃ r, preD N m c (i + k) = preD N m c i ++ r := by
  intro k
  induction k with
  | zero => intro i; exact ⟨[], by rw [List.append_nil]; rfl⟩
  | succ k ih =>
    intro i
    obtain ⟨r, e⟩ := ih i
    refine ⟨r ++ (if bt m (i + k) = true ∧ ow N (i + k) ≠ c then [i + k] else []), ?_⟩
    rw [show i + (k + 1) = (i + k) + 1 by omega, preD_s, e, List.append_assoc]
theorem preD_e {m : Int32} {c i : Nat} (hi : i ≤ N 0 1) (hl : (preD N m c i).length ≤ 4) (he : i = N 0 1 ∨ (preD N m c i).length = 4) : dHeld N m c = preD N m c i := by
  show (preD N m c (N 0 1)).take 4 = _
  obtain ⟨r, e⟩ := preD_up (N := N) (m := m) (c := c) (N 0 1 - i) i
  rw [show i + (N 0 1 - i) = N 0 1 by omega] at e
  rcases he with he | he
  · rw [← he]
    exact List.take_of_length_le hl
  · rw [e, ← he, List.take_left']
    rfl
theorem n89_M (hM : TM M N T L) (hI : TI N T L) (hn : nuI N nu) (hW : WI N W) (h43 : M.1 0 43 = 0) (h44 : M.1 0 44 = -1) (hR : RM 0 M N W nu) {n c k : Nat} (hnn : n ≤ 20) (hc : c < 2) (hk4 : k ≤ 4) {b : List Nat} (hb : nurB N T L W nu c n = some b) (f0 : mQ M S) (h25 : ∀ i, i < (dHeld N (W 0 3) c).length → S.1 25 i = nI ((dHeld N (W 0 3) c).getD i 0)) :
    wp (f_X10_nursing_89 (nI c) (nI n) (nI k) (nI (dHeld N (W 0 3) c).length) S) (fun q => q.1 = nuAns (angOf N T L W nu n (dHeld N (W 0 3) c)) (dHeld N (W 0 3) c).length b (nI k) ∧ mQ M q.2) := by
  have hl : (dHeld N (W 0 3) c).length ≤ 4 := dH_l
  have go : (k = 4 ∨ k < (dHeld N (W 0 3) c).length) → wp (f_X10_nursing_103 (nI c) (nI n) (nI k) (nI (dHeld N (W 0 3) c).length) S) (fun q => q.1 = nuAns (angOf N T L W nu n (dHeld N (W 0 3) c)) (dHeld N (W 0 3) c).length b (nI k) ∧ mQ M q.2) := by
    intro hk
    unfold f_X10_nursing_103
    refine wp_nxt ?_
    have hs : nSt M (sI S 0 49 (-1)) (angOf N T L W nu n (dHeld N (W 0 3) c)) (dHeld N (W 0 3) c) [] none := ⟨fun c i a => by rw [sI1, if_neg (fun e => a (by unfold mX; omega))]; exact f0 c i a, fun i hi => by rw [sI_off (by omega)]; exact h25 i hi, fun i hi => absurd hi (Nat.not_lt_zero i), by show (sI S 0 49 (-1)).1 0 49 = -1; rw [sI1, if_pos ⟨rfl, rfl⟩]⟩
    have st := nz_M hM hI hn hW h43 h44 hR hl (fun d hd => (dH_m hd).1) dH_n hnn hc rfl (dHeld N (W 0 3) c).length 200 [] none _ (by show 0 + _ = _; omega) (by omega) (fun i hi => by cases hi) hs
    have er : ((rowsOf (nsOf N c) (dHeld N (W 0 3) c).length).map (fun r => [] ++ r)).foldl (lb1 (angOf N T L W nu n (dHeld N (W 0 3) c))) none = some b := by
      rw [← hb]
      unfold nurB
      rw [least_e]
      congr 1
      simp
    rw [er] at st
    refine wp_call st ?_
    rintro S2 ⟨a1, -, -, a2, a3, a4⟩
    unfold nuAns
    refine wp_if (fun q => ?_) (fun q => ?_)
    · rw [if_pos q]; exact wp_some ⟨a3, a1⟩
    · rw [if_neg q]
      have hk' : k < (dHeld N (W 0 3) c).length := by
        rcases hk with z | z
        · exact absurd (by rw [z]; rfl) q
        · exact z
      rw [if_neg (nI_ge hk' (by omega))]
      refine wp_rd k rfl (by omega) (a4 k hk') (wp_some ⟨?_, a1⟩)
      show nI (b.getD k 0) = nI (b.getD (nI k).toNatClampNeg 0)
      rw [nI_clamp (by omega)]
  unfold f_X10_nursing_89
  refine wp_if (fun q => ?_) (fun q => ?_)
  · have q : 4 ≤ k := (nI_leI (by omega) (by omega)).mp (show nI 4 ≤ nI k from q)
    exact go (Or.inl (by omega))
  · have q : ¬ 4 ≤ k := fun e => q (show nI 4 ≤ nI k from nI_le e (by omega))
    refine wp_if (fun q2 => ?_) (fun q2 => ?_)
    · refine go (Or.inr ?_)
      rcases Nat.lt_or_ge k (dHeld N (W 0 3) c).length with z | z
      · exact z
      · exact absurd q2 (Int32.not_lt.mpr (nI_le z (by omega)))
    · refine wp_some ⟨?_, f0⟩
      have n4 : ¬ nI k = 4 := fun e => q (by have := (nI_eq (a := k) (b := 4) (by omega) (by omega)).mp e; omega)
      unfold nuAns
      rw [if_neg n4, if_pos (Int32.not_lt.mp q2)]
theorem n40_M (hM : TM M N T L) (hI : TI N T L) (hn : nuI N nu) (hW : WI N W) (h43 : M.1 0 43 = 0) (h44 : M.1 0 44 = -1) (hR : RM 0 M N W nu) {n c k : Nat} (hnn : n ≤ 20) (hc : c < 2) (hk4 : k ≤ 4) {b : List Nat} (hb : nurB N T L W nu c n = some b) :
    wp (f_X10_nursing_40 FU (nI c) (nI n) (nI k) 0 0 M) (fun q => q.1 = nuAns (angOf N T L W nu n (dHeld N (W 0 3) c)) (dHeld N (W 0 3) c).length b (nI k) ∧ mQ M q.2) := by
  have hnd := hI.2.1
  have fin : ∀ (i : Nat) (S : Mem), i ≤ N 0 1 → (preD N (W 0 3) c i).length ≤ 4 → (i = N 0 1 ∨ (preD N (W 0 3) c i).length = 4) → mQ M S → (∀ j, j < (preD N (W 0 3) c i).length → S.1 25 j = nI ((preD N (W 0 3) c i).getD j 0)) → wp (f_X10_nursing_89 (nI c) (nI n) (nI k) (nI (preD N (W 0 3) c i).length) S) (fun q => q.1 = nuAns (angOf N T L W nu n (dHeld N (W 0 3) c)) (dHeld N (W 0 3) c).length b (nI k) ∧ mQ M q.2) := by
    intro i S hi hl he f0 h25
    have e := preD_e hi hl he
    rw [← e]
    rw [← e] at h25
    exact n89_M hM hI hn hW h43 h44 hR hnn hc hk4 hb f0 h25
  refine lp0 (fun fuel i (s : Int32 × Mem) => f_X10_nursing_40 fuel (nI c) (nI n) (nI k) s.1 i s.2) (N 0 1) (fun i s => (preD N (W 0 3) c i).length ≤ 4 ∧ s.1 = nI (preD N (W 0 3) c i).length ∧ (∀ j, j < (preD N (W 0 3) c i).length → s.2.1 25 j = nI ((preD N (W 0 3) c i).getD j 0)) ∧ mQ M s.2) (by omega) (0, M) ⟨by show 0 ≤ 4; omega, rfl, fun j hj => absurd hj (Nat.not_lt_zero j), mQ_rf _⟩ ?_ ?_
  · rintro fuel ⟨v, S⟩ ⟨h1, h2, h3, h4⟩
    have h2 : v = nI (preD N (W 0 3) c (N 0 1)).length := h2
    show wp (f_X10_nursing_40 (fuel + 1) (nI c) (nI n) (nI k) v (nI (N 0 1)) S) _
    unfold f_X10_nursing_40
    refine wp_rd 1 rfl (by omega) (TM_q hM h4).2.1 ?_
    refine wp_pos (Int32.le_refl _) ?_
    rw [h2]
    exact fin _ S (Nat.le_refl _) h1 (Or.inl rfl) h4 h3
  · rintro fuel i ⟨v, S⟩ hi ⟨h1, h2, h3, h4⟩ ih
    try simp only at ih
    have h2 : v = nI (preD N (W 0 3) c i).length := h2
    have h3 : ∀ j, j < (preD N (W 0 3) c i).length → S.1 25 j = nI ((preD N (W 0 3) c i).getD j 0) := h3
    have h4 : mQ M S := h4
    show wp (f_X10_nursing_40 (fuel + 1) (nI c) (nI n) (nI k) v (nI i) S) _
    unfold f_X10_nursing_40
    refine wp_rd 1 rfl (by omega) (TM_q hM h4).2.1 ?_
    refine wp_neg (nI_ge hi (by omega)) ?_
    rw [h2]
    refine wp_if (fun q => ?_) (fun q => ?_)
    · have q : 4 ≤ (preD N (W 0 3) c i).length := (nI_leI (by omega) (by omega)).mp (show nI 4 ≤ nI _ from q)
      exact fin i S (by omega) h1 (Or.inr (by omega)) h4 h3
    · have q : (preD N (W 0 3) c i).length < 4 := by
        rcases Nat.lt_or_ge (preD N (W 0 3) c i).length 4 with z | z
        · exact z
        · exact absurd (show nI 4 ≤ nI _ from nI_le z (by omega)) q
      refine wp_bnde (holdsR_M (t := 0) (TM_q hM h4) hI (RM0_q hR hnd h4) (by omega) hi hc) ?_
      rw [preD_s] at ih
      by_cases qb : bt (W 0 3) i = true ∧ ow N i ≠ c
      · rw [if_pos qb] at ih ⊢
        refine wp_neg n10 ?_
        refine wp_wr (preD N (W 0 3) c i).length rfl q ?_
        rw [nI_1, nI_1]
        have hl2 : (preD N (W 0 3) c i ++ [i]).length = (preD N (W 0 3) c i).length + 1 := by rw [List.length_append]; rfl
        refine ih (nI ((preD N (W 0 3) c i).length + 1), sI S 25 (preD N (W 0 3) c i).length (nI i)) ⟨by rw [hl2]; omega, by show nI ((preD N (W 0 3) c i).length + 1) = nI _; rw [hl2], fun j hj => ?_, fun c i' a => ?_⟩
        · rw [hl2] at hj
          show (sI S 25 _ (nI i)).1 25 j = _
          rw [sI1]
          by_cases qj : j = (preD N (W 0 3) c i).length
          · rw [if_pos ⟨rfl, qj⟩, qj, gd_r]
          · rw [if_neg (by omega), gd_l (by omega)]; exact h3 j (by omega)
        · show (sI S 25 _ (nI i)).1 c i' = _
          rw [sI1, if_neg (fun e => a (by unfold mX; omega))]; exact h4 c i' a
      · rw [if_neg qb] at ih ⊢
        rw [List.append_nil] at ih
        refine wp_pos rfl ?_
        rw [nI_1]
        exact ih (_, _) ⟨h1, rfl, h3, h4⟩
theorem wk_20 {x : Int32} (h1 : ¬ x < 1) (h2 : ¬ 20 < x) : ∃ n, 1 ≤ n ∧ n ≤ 20 ∧ x = nI n := by
  have a : ¬ x.toInt < 1 := fun q => h1 (Int32.lt_iff_toInt_lt.mpr (by rw [show (1 : Int32).toInt = 1 by decide]; exact q))
  have b : ¬ 20 < x.toInt := fun q => h2 (Int32.lt_iff_toInt_lt.mpr (by rw [show (20 : Int32).toInt = 20 by decide]; exact q))
  obtain ⟨k, ek⟩ := Int.eq_ofNat_of_zero_le (show 0 ≤ x.toInt by omega)
  refine ⟨k, by omega, by omega, ?_⟩
  have hk : k < 21 := by omega
  have ex : x = Int32.ofInt x.toInt := (Int32.ofInt_toInt x).symm
  rw [ex, ek]
  clear ek ex a b h1 h2
  have all : ∀ k, k < 21 → Int32.ofInt (k : Nat) = nI k := by decide
  exact all k hk
theorem q_nursing (h : Cp C M) (v x z : Int32) : both C M (f_X9_nursing v x z C) (f_X10_nursing v x z M) := by
  unfold f_X10_nursing
  obtain ⟨N, T, L, W, nu, hq⟩ := h
  have hq := Cq_q hq (cQ_rf _) (mQ_0 (S := M) (v := 0))
  rw [nxt_eq]
  generalize sI M 0 0 0 = M' at hq ⊢
  unfold f_X9_nursing
  have no : ∀ r : Int32, both C M (some (r, C)) (some (r, M')) := fun r => wp_some (wp_some ⟨rfl, N, T, L, W, nu, hq⟩)
  by_cases a0 : v ≠ 0 ∧ v ≠ 1
  · rw [city_C0 a0, city_M0 a0, bnd_some, bnd_some, if_pos rfl, if_pos rfl]
    exact no _
  obtain ⟨c, hc, rfl⟩ : ∃ c, c < 2 ∧ v = nI c := by
    by_cases z0 : v = 0
    · exact ⟨0, by omega, z0⟩
    · by_cases z1 : v = 1
      · exact ⟨1, by omega, z1⟩
      · exact absurd ⟨z0, z1⟩ a0
  rw [city_C1 hc, city_M1 hc, bnd_some, bnd_some, if_neg n10, if_neg n10]
  by_cases a1 : x < 1
  · rw [if_pos a1, if_pos a1]; exact no _
  rw [if_neg a1, if_neg a1]
  by_cases a2 : 20 < x
  · rw [if_pos a2, if_pos a2]; exact no _
  rw [if_neg a2, if_neg a2]
  by_cases a3 : z < 0
  · rw [if_pos a3, if_pos a3]; exact no _
  rw [if_neg a3, if_neg a3]
  by_cases a4 : ¬ z ≤ 4
  · rw [if_neg a4, if_neg a4]; exact no _
  have a4 : z ≤ 4 := Classical.byContradiction a4
  rw [if_pos a4, if_pos a4]
  obtain ⟨k, hk, rfl⟩ := z_nI a3 a4
  obtain ⟨n, hn1, hn2, rfl⟩ : ∃ n, 1 ≤ n ∧ n ≤ 20 ∧ x = nI n := wk_20 a1 a2
  have hq0 := hq
  obtain ⟨-, -, ⟨hT, hM, hI⟩, ⟨hR, hR', ⟨hW, hn⟩⟩, -, -, -, hNu, h43, h44⟩ := hq0
  refine wp_call (search_C hT hI hR hn hW hNu hc hn1 hn2) ?_
  rintro S ⟨fS, b, e1, e2, e3, e4, e5, e6, e7⟩
  have hC : ∀ M2, mQ M' M2 → Cp S M2 := fun M2 fm => ⟨N, T, L, W, nu, Cq_n hq fS fm (Or.inr ⟨c, n, b, hc, hn1, hn2, e1, e2, e3, e4, e5, e6, e7⟩)⟩
  have hr := n40_M hM hI hn hW h43 h44 hR' hn2 hc hk e3
  have fin : ∀ r : Int32, r = nuAns (angOf N T L W nu n (dHeld N (W 0 3) c)) (dHeld N (W 0 3) c).length b (nI k) → wp (some (r, S)) (fun q => wp (f_X10_nursing_40 FU (nI c) (nI n) (nI k) 0 0 M') (fun p => q.1 = p.1 ∧ Cp q.2 p.2)) := by
    intro r er
    refine wp_some (wp_mono hr ?_)
    rintro ⟨r', M2⟩ ⟨g1, g2⟩
    exact ⟨er.trans g1.symm, hC M2 g2⟩
  unfold nuAns at fin
  have hl : (dHeld N (W 0 3) c).length ≤ 4 := dH_l
  refine wp_if (fun q => ?_) (fun q => ?_)
  · rw [if_pos q] at fin; exact fin _ e6
  · rw [if_neg q] at fin
    rw [e4]
    refine wp_if (fun q2 => ?_) (fun q2 => ?_)
    · rw [if_pos q2] at fin; exact fin _ rfl
    · rw [if_neg q2, nI_clamp (by omega)] at fin
      have hk' : k < (dHeld N (W 0 3) c).length := by
        rcases Nat.lt_or_ge k (dHeld N (W 0 3) c).length with y | y
        · exact y
        · exact absurd (nI_le y (by omega)) q2
      refine wp_rd k rfl (by omega) (e7 k (by omega)) ?_
      exact fin _ rfl
end NUZ
