/-! PURE 22: deeds, and their undoing -/
section DEE
variable {C M C1 C2 M1 M2 S : Mem} {N : TN} {T : WS} {L : LWS} {W : WS} {nu : Nat → Nat} {cf : Nat → Int32}
theorem eqW_sy {A B : WS × (Nat → Nat)} (h : eqW N A B) : eqW N B A := ⟨h.1.symm, h.2.1.symm, h.2.2.1.symm, h.2.2.2.1.symm, fun d hd => ⟨(h.2.2.2.2.1 d hd).1.symm, (h.2.2.2.2.1 d hd).2.1.symm, (h.2.2.2.2.1 d hd).2.2.symm⟩, fun c hc => ⟨(h.2.2.2.2.2 c hc).1.symm, (h.2.2.2.2.2 c hc).2.symm⟩⟩
theorem RC_eqW {w : Nat} {A B : WS × (Nat → Nat)} (h : RC w S N B.1 B.2 cf) (e : eqW N A B) : RC w S N A.1 A.2 cf := by
  obtain ⟨h0, h1, h2, h3, h4, h5, h6⟩ := h
  obtain ⟨e0, e1, e2, e3, e4, e5⟩ := e
  refine ⟨by rw [e0]; exact h0, by rw [e3]; exact h1, by rw [e2]; exact h2, by rw [e1]; exact h3, fun d hd => ?_, fun c hc => ?_, h6⟩
  · rw [(e4 d hd).1, (e4 d hd).2.1, (e4 d hd).2.2]; exact h4 d hd
  · rw [(e5 c hc).1, (e5 c hc).2]; exact h5 c hc
def upU (u : Nat) : Nat := if u = 20 then 20 else u + 1
def shU (u : Nat) : Nat := if u = 20 then 1 else 0
def addP (C C1 : Mem) (u : Nat) (k a b : Int32) : Prop :=
  C1.1 84 0 = nI (upU u) ∧ (∀ i, i + 1 < upU u → C1.1 85 i = C.1 85 (i + shU u) ∧ C1.1 86 i = C.1 86 (i + shU u) ∧ C1.1 87 i = C.1 87 (i + shU u)) ∧
  C1.1 85 (upU u - 1) = k ∧ C1.1 86 (upU u - 1) = a ∧ C1.1 87 (upU u - 1) = b ∧ (∀ c i, c < 84 ∨ 87 < c → C1.1 c i = C.1 c i) ∧ C1.2 = C.2
theorem add13 {k a b : Int32} {u : Nat} (hu : u < 20) (h : S.1 84 0 = nI u) : wp (f_X0_add_13 k a b S) (fun Z => Z.1 84 0 = nI (u + 1) ∧ Z.1 85 u = k ∧ Z.1 86 u = a ∧ Z.1 87 u = b ∧ (∀ c i, ¬ (c = 84 ∧ i = 0) → ¬ (85 ≤ c ∧ c ≤ 87 ∧ i = u) → Z.1 c i = S.1 c i) ∧ Z.2 = S.2) := by
  unfold f_X0_add_13
  refine wp_wr u h (by omega) ?_
  refine wp_wr u (by rw [sI_off (by omega)]; exact h) (by omega) ?_
  refine wp_wr u (by rw [sI_off (by omega), sI_off (by omega)]; exact h) (by omega) ?_
  refine wp_nxt ?_
  have e : (sI (sI (sI S 85 u k) 86 u a) 87 u b).1 84 0 + 1 = nI (u + 1) := by rw [sI_off (by omega), sI_off (by omega), sI_off (by omega), h, nI_1]
  rw [e]
  refine wp_some ⟨by rw [sI1, if_pos ⟨rfl, rfl⟩], ?_, ?_, ?_, fun c i q1 q2 => ?_, rfl⟩
  · rw [sI_off (by omega), sI_off (by omega), sI_off (by omega), sI1, if_pos ⟨rfl, rfl⟩]
  · rw [sI_off (by omega), sI_off (by omega), sI1, if_pos ⟨rfl, rfl⟩]
  · rw [sI_off (by omega), sI1, if_pos ⟨rfl, rfl⟩]
  · rw [sI1, if_neg q1, sI1, if_neg (by omega), sI1, if_neg (by omega), sI1, if_neg (by omega)]
theorem add_C {k a b : Int32} {u : Nat} (hu : u ≤ 20) (h : C.1 84 0 = nI u) : wp (f_X0_add k a b C) (fun C1 => addP C C1 u k a b) := by
  unfold f_X0_add
  rw [h]
  by_cases h20 : u = 20
  · subst h20
    refine wp_neg (by decide) ?_
    unfold f_X0_dropOldest
    refine wp_call (Q := fun Z => Z.1 84 0 = nI 19 ∧ (∀ i, i < 19 → Z.1 85 i = C.1 85 (i + 1) ∧ Z.1 86 i = C.1 86 (i + 1) ∧ Z.1 87 i = C.1 87 (i + 1)) ∧ (∀ c i, c < 84 ∨ 87 < c → Z.1 c i = C.1 c i) ∧ Z.2 = C.2) ?_ ?_
    · refine lpF (fun fuel i Z => f_X0_dropOldest_2 fuel i Z) 1 20 (fun j Z => 1 ≤ j ∧ (∀ i, i + 1 < j → Z.1 85 i = C.1 85 (i + 1) ∧ Z.1 86 i = C.1 86 (i + 1) ∧ Z.1 87 i = C.1 87 (i + 1)) ∧ (∀ c i, ¬ (85 ≤ c ∧ c ≤ 87 ∧ i + 1 < j) → Z.1 c i = C.1 c i) ∧ Z.2 = C.2) (by omega) (by omega) C ⟨Nat.le_refl _, fun i hi => absurd hi (by omega), fun _ _ _ => rfl, rfl⟩ ?_ ?_
      · rintro fuel Z ⟨-, h1, h2, h3⟩
        refine wp_pos (by decide) (wp_nxt (wp_some ⟨by rw [sI1, if_pos ⟨rfl, rfl⟩]; rfl, fun i hi => ?_, fun c i q => ?_, h3⟩))
        · rw [sI_off (by omega), sI_off (by omega), sI_off (by omega)]; exact h1 i (by omega)
        · rw [sI_off (by omega)]; exact h2 c i (by omega)
      · rintro fuel j Z hj ⟨hj1, h1, h2, h3⟩ ih
        try simp only at ih
        show wp (f_X0_dropOldest_2 (fuel + 1) (nI j) Z) _
        unfold f_X0_dropOldest_2
        refine wp_neg (nI_ge (b := 20) hj (by omega)) ?_
        have ej : nI j - 1 = nI (j - 1) := by rw [show (1 : Int32) = nI 1 from rfl, pk_sub hj1]
        refine wp_rd j rfl hj (v := C.1 85 j) (h2 _ _ (by omega)) ?_
        refine wp_wr (j - 1) ej (by omega) ?_
        refine wp_rd j rfl hj (v := C.1 86 j) (by rw [sI_off (by omega)]; exact h2 _ _ (by omega)) ?_
        refine wp_wr (j - 1) ej (by omega) ?_
        refine wp_rd j rfl hj (v := C.1 87 j) (by rw [sI_off (by omega), sI_off (by omega)]; exact h2 _ _ (by omega)) ?_
        refine wp_wr (j - 1) ej (by omega) ?_
        rw [nI_1]
        refine ih _ ⟨by omega, fun i hi => ?_, fun c i q => ?_, h3⟩
        · have := h1 i
          have e' : j - 1 + 1 = j := by omega
          simp only [sI1]
          grind
        · have := h2 c i
          simp only [sI1]
          grind
    · rintro Z ⟨h1, h2, h3, h4⟩
      refine wp_mono (add13 (by omega) h1) ?_
      rintro Y ⟨a1, a2, a3, a4, a5, a6⟩
      refine ⟨a1, fun i hi => ?_, a2, a3, a4, fun c i q => ?_, by rw [a6, h4]⟩
      · have hi : i + 1 < 20 := hi
        rw [a5 _ _ (by omega) (by omega), a5 _ _ (by omega) (by omega), a5 _ _ (by omega) (by omega)]
        exact h2 i (by omega)
      · rw [a5 _ _ (by omega) (by omega)]; exact h3 c i q
  · refine wp_pos (show nI u < nI 20 from nI_lt (by omega) (by omega)) ?_
    refine wp_mono (add13 (by omega) h) ?_
    rintro Y ⟨a1, a2, a3, a4, a5, a6⟩
    have e1 : upU u = u + 1 := by unfold upU; rw [if_neg h20]
    have e2 : shU u = 0 := by unfold shU; rw [if_neg h20]
    unfold addP
    rw [e1, e2]
    refine ⟨a1, fun i hi => ?_, a2, a3, a4, fun c i q => a5 c i (by omega) (by omega), a6⟩
    exact ⟨a5 _ _ (by omega) (by omega), a5 _ _ (by omega) (by omega), a5 _ _ (by omega) (by omega)⟩
def keepP (M M1 : Mem) (u : Nat) : Prop :=
  M1.1 0 42 = nI (upU u) ∧ (∀ N W nu, N 0 1 ≤ 10 → (∀ i, i + 1 < upU u → RM (3 + (i + shU u)) M N W nu → RM (3 + i) M1 N W nu) ∧ (RM 0 M N W nu → RM (3 + (upU u - 1)) M1 N W nu)) ∧
  (∀ c i, ¬ (c = 0 ∧ i = 42) → (∀ t, 3 ≤ t → t < 23 → ¬ chC t c i) → M1.1 c i = M.1 c i)
theorem keep45 {u : Nat} (hu : u < 20) (h : S.1 0 42 = nI u) : wp (f_X10_keepNow_45 S) (fun Z => Z.1 0 42 = nI (u + 1) ∧ (∀ N W nu, N 0 1 ≤ 10 → RM 0 S N W nu → RM (3 + u) Z N W nu) ∧ ∀ c i, ¬ (c = 0 ∧ i = 42) → ¬ chC (3 + u) c i → Z.1 c i = S.1 c i) := by
  unfold f_X10_keepNow_45
  rw [h, show (3 : Int32) + nI u = nI (3 + u) from nI_add 3 u]
  refine wp_call (copies_M (a := 3 + u) (b := 0) (by omega) (by omega) (by omega)) ?_
  rintro Z ⟨hc, fZ⟩
  refine wp_nxt ?_
  have e : Z.1 0 42 = nI u := by rw [fZ 0 42 (by unfold chC; omega)]; exact h
  rw [e, nI_1]
  refine wp_some ⟨by rw [sI1, if_pos ⟨rfl, rfl⟩], fun N W nu hN hR => ?_, fun c i q1 q2 => ?_⟩
  · exact RM_to (cpM_R hc hN hR) hN (fun c i q => by rw [sI1, if_neg (by unfold chC at q; omega)])
  · rw [sI1, if_neg q1]; exact fZ c i q2
theorem keep_M {u : Nat} (hu : u ≤ 20) (h : M.1 0 42 = nI u) : wp (f_X10_keepNow M) (fun M1 => keepP M M1 u) := by
  unfold f_X10_keepNow
  rw [h]
  by_cases h20 : u = 20
  · subst h20
    refine wp_pos (by decide) ?_
    refine lpF (fun fuel i Z => f_X10_keepNow_11 fuel i Z) 1 20 (fun j Z => 1 ≤ j ∧ Z.1 0 42 = nI 20 ∧ (∀ N W nu, N 0 1 ≤ 10 → ∀ i, i + 1 < j → RM (3 + (i + 1)) M N W nu → RM (3 + i) Z N W nu) ∧ (∀ c i, (∀ t, 3 ≤ t → t + 1 < 3 + j → ¬ chC t c i) → Z.1 c i = M.1 c i)) (by omega) (by omega) M ⟨Nat.le_refl _, h, fun N W nu _ i hi => absurd hi (by omega), fun _ _ _ => rfl⟩ ?_ ?_
    · rintro fuel Z ⟨-, h0, h1, h2⟩
      show wp (f_X10_keepNow_11 (fuel + 1) (nI 20) Z) _
      unfold f_X10_keepNow_11
      refine wp_pos (by decide) (wp_nxt ?_)
      rw [h0]
      refine wp_mono (keep45 (u := 19) (by omega) (by rw [sI1, if_pos ⟨rfl, rfl⟩]; rfl)) ?_
      rintro Y ⟨a1, a2, a3⟩
      refine ⟨a1, fun N W nu hN => ⟨fun i hi hR => ?_, fun hR => ?_⟩, fun c i q1 q2 => ?_⟩
      · have hi : i + 1 < 20 := hi
        exact RM_to (h1 N W nu hN i (by omega) hR) hN (fun c i' q => by rw [a3 c i' (by unfold chC at q; omega) (by unfold chC at q ⊢; omega), sI1, if_neg (by unfold chC at q; omega)])
      · refine a2 N W nu hN ?_
        exact RM_to hR hN (fun c i' q => by rw [sI1, if_neg (by unfold chC at q; omega)]; exact h2 c i' (fun t t1 t2 => by unfold chC at q ⊢; omega))
      · rw [a3 c i q1 (q2 _ (by omega) (by omega)), sI1, if_neg q1]
        exact h2 c i (fun t t1 t2 => q2 t t1 (by omega))
    · rintro fuel j Z hj ⟨hj1, h0, h1, h2⟩ ih
      try simp only at ih
      show wp (f_X10_keepNow_11 (fuel + 1) (nI j) Z) _
      unfold f_X10_keepNow_11
      refine wp_neg (nI_ge (b := 20) hj (by omega)) ?_
      rw [show (3 : Int32) + nI j = nI (3 + j) from nI_add 3 j, show nI (3 + j) - 1 = nI (2 + j) by rw [show (1 : Int32) = nI 1 from rfl, pk_sub (by omega)]; congr 1; omega]
      refine wp_call (copies_M (a := 2 + j) (b := 3 + j) (by omega) (by omega) (by omega)) ?_
      rintro Y ⟨hc, fY⟩
      rw [nI_1]
      refine ih Y ⟨by omega, by rw [fY 0 42 (by unfold chC; omega)]; exact h0, fun N W nu hN i hi hR => ?_, fun c i q => ?_⟩
      · rcases (by omega : i + 1 < j ∨ i + 1 = j) with q | q
        · exact RM_to (h1 N W nu hN i q hR) hN (fun c i' q' => fY c i' (by unfold chC at q' ⊢; omega))
        · have e3 : 3 + i = 2 + j := by omega
          rw [e3]
          refine cpM_R hc hN ?_
          rw [q] at hR
          exact RM_to hR hN (fun c i' q' => h2 c i' (fun t t1 t2 => by unfold chC at q' ⊢; omega))
      · rw [fY c i (q (2 + j) (by omega) (by omega))]
        exact h2 c i (fun t t1 t2 => q t t1 (by omega))
  · refine wp_neg (fun e => h20 ((nI_eq (by omega) (by omega)).mp (show nI u = nI 20 from e))) ?_
    refine wp_mono (keep45 (by omega) h) ?_
    rintro Y ⟨a1, a2, a3⟩
    have e1 : upU u = u + 1 := by unfold upU; rw [if_neg h20]
    have e2 : shU u = 0 := by unfold shU; rw [if_neg h20]
    unfold keepP
    rw [e1, e2]
    refine ⟨a1, fun N W nu hN => ⟨fun i hi hR => ?_, fun hR => a2 N W nu hN hR⟩, fun c i q1 q2 => a3 c i q1 (q2 _ (by omega) (by omega))⟩
    exact RM_to hR hN (fun c i' q => a3 c i' (by unfold chC at q; omega) (by unfold chC at q ⊢; omega))
theorem deed_mk {W' : WS} {nu' : Nat → Nat} {k a b : Int32} {u : Nat} (hq : Cq C M N T L W nu) (hu : C.1 84 0 = nI u) (hu2 : u ≤ 20) (hA : addP C C1 u k a b) (hK : keepP M M1 u)
    (hc : ∀ c i, c < 53 ∨ 60 < c → ¬ (c = 88 ∧ i = 3) → C2.1 c i = C1.1 c i) (hc2 : C2.2 61 3 = C1.2 61 3) (h88 : C2.1 88 3 = -1) (hm : ∀ c i, ¬ chC 0 c i → M2.1 c i = M1.1 c i)
    (hR2 : RC 53 C2 N W' nu' (caN N)) (hM2 : RM 0 M2 N W' nu') (hok : okW N W' nu') (hd : deed N k a b (W, nu) (W', nu')) : Cq C2 M2 N T L W' nu' := by
  obtain ⟨hTp, hF, ⟨hT, hM, hI⟩, ⟨hR, hR', ⟨hW, hn⟩⟩, hIm, hU, hNo, hNu, h43, h44⟩ := hq
  have hnd := hI.2.1
  obtain ⟨A1, A2, A3, A4, A5, A6, A7⟩ := hA
  obtain ⟨K1, K2, K3⟩ := hK
  have ec : ∀ c i, c < 53 ∨ (60 < c ∧ c < 84) ∨ 88 < c → C2.1 c i = C.1 c i := fun c i q => by rw [hc c i (by omega) (by omega)]; exact A6 c i (by omega)
  have em : ∀ c i, ¬ (c = 0 ∧ i = 42) → (∀ t, t = 0 ∨ (3 ≤ t ∧ t < 23) → ¬ chC t c i) → M2.1 c i = M.1 c i := fun c i q1 q2 => by rw [hm c i (q2 0 (by omega))]; exact K3 c i q1 (fun t a b => q2 t (by omega))
  have up : 1 ≤ upU u ∧ upU u ≤ 20 := by unfold upU; split <;> omega
  refine ⟨pTape_to hTp (fun c i q => ec c i (by omega)) (em _ _ (by omega) (fun t _ => by unfold chC; omega)) (fun i => em _ _ (by omega) (fun t _ => by unfold chC; omega)), pFault_to hF (fun i => ec _ _ (by omega)) (fun i hi => em _ _ (by omega) (fun t _ => by unfold chC; omega)), ⟨TC_to hT (fun k a b => funext fun i => ec k i (by omega)), TM_to hM (fun c i a b => em c i (by omega) (fun t _ => by unfold chC; omega)), hI⟩, ⟨hR2, hM2, hok⟩, pImg_to hnd hIm (ec _ _ (by omega)) (fun c i a b => ec c i (by omega)) (by rw [hc2, A7]) (em _ _ (by omega) (fun t _ => by unfold chC; omega)) (fun c i q => em c i (by unfold chC at q; omega) (fun t ht => by unfold chC at q ⊢; omega)), ?_, pNotes_to hNo (fun c i a b => ec c i (by omega)) (fun i hi => em _ _ (by omega) (fun t _ => by unfold chC; omega)) (fun c i a b => em _ _ (by omega) (fun t _ => by unfold chC; omega)), Or.inl h88, ?_, ?_⟩
  · obtain ⟨u', hu', e1, e2, us, e3, e4⟩ := hU
    have : u' = u := by
      rw [hu] at e1
      exact ((nI_eq (by omega) (by omega)).mp e1).symm
    subst this
    have hs : upU u' - 1 + shU u' = u' := by unfold upU shU; split <;> omega
    refine ⟨upU u', up.2, by rw [hc _ _ (by omega) (by omega)]; exact A1, by rw [hm 0 42 (by unfold chC; omega)]; exact K1, fun i => if i = upU u' then (W', nu') else us (i + shU u'), if_pos rfl, fun i hi => ?_⟩
    have hne : i ≠ upU u' := by omega
    simp only [if_neg hne]
    rcases (by omega : i + 1 < upU u' ∨ i = upU u' - 1) with q | q
    · have hi' : i + shU u' < u' := by omega
      obtain ⟨g1, g2, g3⟩ := e4 (i + shU u') hi'
      refine ⟨RM_to ((K2 _ _ _ hnd).1 i q g1) hnd (fun c i' q' => hm c i' (by unfold chC at q' ⊢; omega)), g2, ?_⟩
      rw [hc 85 _ (by omega) (by omega), hc 86 _ (by omega) (by omega), hc 87 _ (by omega) (by omega), (A2 i q).1, (A2 i q).2.1, (A2 i q).2.2, if_neg (show i + 1 ≠ upU u' by omega), show i + 1 + shU u' = i + shU u' + 1 by omega]
      exact g3
    · have e5 : i + shU u' = u' := by omega
      rw [e5, e3]
      refine ⟨?_, ⟨hW, hn⟩, ?_⟩
      · rw [q]
        exact RM_to ((K2 _ _ _ hnd).2 hR') hnd (fun c i' q' => hm c i' (by unfold chC at q' ⊢; omega))
      · rw [hc 85 _ (by omega) (by omega), hc 86 _ (by omega) (by omega), hc 87 _ (by omega) (by omega), q, A3, A4, A5, if_pos (show upU u' - 1 + 1 = upU u' by omega)]
        exact hd
  · rw [em 0 43 (by omega) (fun t _ => by unfold chC; omega)]; exact h43
  · rw [em 0 44 (by omega) (fun t _ => by unfold chC; omega)]; exact h44
theorem addP_R {k a b : Int32} {u w : Nat} (hw : w + 7 < 84) (hA : addP C C1 u k a b) (h : RC w C N W nu cf) : RC w C1 N W nu cf := RC_to h (fun c i x y _ => hA.2.2.2.2.2.1 c i (by omega)) (by rw [hA.2.2.2.2.2.2])
theorem keepP_R {u : Nat} (hnd : N 0 1 ≤ 10) (hK : keepP M M1 u) (h : RM 0 M N W nu) : RM 0 M1 N W nu := RM_to h hnd (fun c i q => hK.2.2 c i (by unfold chC at q; omega) (fun t a b => by unfold chC at q ⊢; omega))
theorem forget_C : f_X3_forget C = some (sI C 88 3 (-1)) := rfl
theorem s_mend (h : Cp C M) (v : Int32) : both C M (f_X9_mend v C) (f_X10_mend v M) := by
  unfold f_X10_mend
  refine both_s h ?_
  intro N T L W nu M' hq
  have hcp : Cp C M' := ⟨N, T, L, W, nu, hq⟩
  unfold f_X9_mend
  obtain ⟨hTp, hF, ⟨hT, hM, hI⟩, ⟨hR, hR', ⟨hW, hn⟩⟩, hIm, ⟨u, hu, u1, u2, hus⟩, hNo, hNu, h43, h44⟩ := id hq
  have hnd := hI.2.1
  rcases ix_d v (n := N 0 1) (by omega) with ⟨d, hd, rfl⟩ | hv
  · rw [doll_C1 hT hI hd, bnd_some, doll_M1 hM hI hd, bnd_some, if_neg n10, if_neg n10]
    obtain ⟨-, -, -, r0, -⟩ := RM0 hR'
    rw [rdN (k := 55) (by omega) (by decide), (hR.2.2.2.2.1 d hd).2.1, Option.bind_some, rdN (k := 22) (by omega) (by decide), (r0 d hd).2.1, Option.bind_some]
    obtain ⟨k, hk, ek⟩ := (WJ_I hW).1 d hd
    by_cases q : W 2 d = 0
    · rw [if_pos q, if_neg (show ¬ 0 < W 2 d by rw [q]; decide)]
      exact bs hcp _ rfl rfl
    · have k0 : 0 < k := by
        rcases Nat.eq_zero_or_pos k with z | z
        · rw [z] at ek; exact absurd ek q
        · exact z
      rw [if_neg q, if_pos (show 0 < W 2 d by rw [ek]; exact nI_lt (a := 0) k0 (by omega))]
      refine wp_call (add_C (k := 0) (a := nI d) (b := W 2 d) hu u1) ?_
      intro C1 hA
      refine wp_wr d rfl (by omega) ?_
      refine wp_bde forget_C (wp_some ?_)
      refine wp_call (keep_M hu u2) ?_
      intro M1 hK
      have hM1 := keepP_R hnd hK hR'
      have hC1 := addP_R (w := 53) (by omega) hA hR
      obtain ⟨-, -, -, r1, -⟩ := RM0 hM1
      refine wp_rd d rfl (by omega) (r1 d hd).2.1 ?_
      refine wp_wr d rfl (by omega) ?_
      refine wp_rd d rfl (by omega) (v := W 2 d - 1) (by rw [sI1, if_pos ⟨rfl, rfl⟩]) (wp_some ⟨rfl, N, T, L, wu W 2 d (W 2 d - 1), nu, ?_⟩)
      refine deed_mk (C1 := C1) (M1 := M1) hq u1 hu hA hK (fun c i q1 q2 => ?_) rfl (by rw [sI1, if_pos ⟨rfl, rfl⟩]) (fun c i q1 => ?_) ?_ ?_ ⟨WI_J ?_, hn⟩ (Or.inl ⟨rfl, d, hd, rfl, ?_⟩)
      · rw [sI1, if_neg q2, sI1, if_neg (by omega)]
      · rw [sI1, if_neg (fun e => q1 (by rw [e.1, e.2]; unfold chC; omega))]
      · unfold RC at hC1 ⊢
        simp only [sI1, sI2, wu1]
        grind
      · unfold RM at hM1 ⊢
        simp only [sI1, wu1]
        grind
      · rw [ek, show nI k - 1 = nI (k - 1) by rw [show (1 : Int32) = nI 1 from rfl, pk_sub k0]]
        exact WJ_2 (WJ_I hW) (by omega)
      · unfold eqW
        simp only [wu1]
        grind
  · rw [doll_C0 hT hv, bnd_some, doll_M0 hM hv, bnd_some]
    exact bs hcp _ rfl rfl
theorem mx_c {a : Nat} {t : Int32} (ha : a ≤ 999) (ht : 0 ≤ t) : ∃ k, k ≤ 999 ∧ mx 0 (nI a - t) = nI k := by
  obtain ⟨b, hb, rfl⟩ := nI_of (Int32.not_lt.mpr ht)
  rcases Nat.lt_or_ge a b with h | h
  · refine ⟨0, by omega, ?_⟩
    unfold mx
    have : (nI a - nI b).toInt = (a : Int) - b := by
      rw [Int32.toInt_sub, nI_toInt (by omega), nI_toInt hb, Int.bmod_eq_of_le (by omega) (by omega)]
    rw [if_neg]
    · rfl
    · rw [Int32.lt_iff_toInt_lt, this]
      have e0 : (0 : Int32).toInt = 0 := rfl
      rw [e0]
      omega
  · exact ⟨a - b, by omega, mx_b (by omega) (by omega)⟩
theorem s_tea (h : Cp C M) (v : Int32) : both C M (f_X9_tea v C) (f_X10_tea v M) := by
  unfold f_X10_tea
  refine both_s h ?_
  intro N T L W nu M' hq
  have hcp : Cp C M' := ⟨N, T, L, W, nu, hq⟩
  unfold f_X9_tea
  obtain ⟨hTp, hF, ⟨hT, hM, hI⟩, ⟨hR, hR', ⟨hW, hn⟩⟩, hIm, ⟨u, hu, u1, u2, hus⟩, hNo, hNu, h43, h44⟩ := id hq
  have hnd := hI.2.1
  rcases ix_c v with ⟨c0, hc0, rfl⟩ | hv
  · rw [city_C1 hc0, bnd_some, city_M1 hc0, bnd_some, if_neg n10, if_neg n10]
    simp only [sub1 hc0]
    have ho : 1 - c0 < 2 := by omega
    generalize 1 - c0 = o at ho ⊢
    obtain ⟨-, -, -, -, r0⟩ := RM0 hR'
    rw [rdN (k := 58) ho (by decide), (hR.2.2.2.2.2.1 o ho).1, Option.bind_some, rdN (k := 19) (by omega) (by decide), (r0 o ho).1, Option.bind_some]
    obtain ⟨k, hk, ek⟩ := (WJ_I hW).2.1 o ho
    by_cases q : W 5 o = 0
    · rw [if_pos q, if_neg (show ¬ 0 < W 5 o by rw [q]; decide)]
      exact bs hcp _ rfl rfl
    · have k0 : 0 < k := by
        rcases Nat.eq_zero_or_pos k with z | z
        · rw [z] at ek; exact absurd ek q
        · exact z
      rw [if_neg q, if_pos (show 0 < W 5 o by rw [ek]; exact nI_lt (a := 0) k0 (by omega))]
      refine wp_call (add_C (k := 3) (a := nI o) (b := W 5 o) hu u1) ?_
      intro C1 hA
      refine wp_rd 2 rfl (by decide) (v := T 0 2) (by rw [hA.2.2.2.2.2.1 _ _ (by omega)]; exact hT.2.2.2.2.2.2.1 2 (by decide)) ?_
      refine wp_bnde (f_mx _ _ _) ?_
      refine wp_wr o rfl ho ?_
      refine wp_bde forget_C ?_
      refine wp_rd o rfl ho (v := mx 0 (W 5 o - T 0 2)) (by rw [sI_off (by omega), sI1, if_pos ⟨rfl, rfl⟩]) (wp_some ?_)
      refine wp_call (keep_M hu u2) ?_
      intro M1 hK
      have hM1 := keepP_R hnd hK hR'
      have hC1 := addP_R (w := 53) (by omega) hA hR
      obtain ⟨-, -, -, -, r1⟩ := RM0 hM1
      refine wp_rd o rfl (by omega) (r1 o ho).1 ?_
      refine wp_rd 4 rfl (by decide) (v := T 0 2) (by rw [hK.2.2 _ _ (by omega) (fun t _ _ => by unfold chC; omega)]; exact hM.2.2.2.2.2.1 2 (by decide)) ?_
      refine wp_bnde (f_mx _ _ _) ?_
      refine wp_wr o rfl (by omega) ?_
      refine wp_rd o rfl (by omega) (v := mx 0 (W 5 o - T 0 2)) (by rw [sI1, if_pos ⟨rfl, rfl⟩]) (wp_some ⟨rfl, N, T, L, wu W 5 o (mx 0 (W 5 o - T 0 2)), nu, ?_⟩)
      refine deed_mk (C1 := C1) (M1 := M1) hq u1 hu hA hK (fun c i q1 q2 => ?_) rfl (by rw [sI1, if_pos ⟨rfl, rfl⟩]) (fun c i q1 => ?_) ?_ ?_ ⟨WI_J ?_, hn⟩ (Or.inr (Or.inr (Or.inr ⟨rfl, o, ho, rfl, ?_⟩)))
      · rw [sI1, if_neg q2, sI1, if_neg (by omega)]
      · rw [sI1, if_neg (fun e => q1 (by rw [e.1, e.2]; unfold chC; omega))]
      · unfold RC at hC1 ⊢
        simp only [sI1, sI2, wu1]
        grind
      · unfold RM at hM1 ⊢
        simp only [sI1, wu1]
        grind
      · rw [ek]
        obtain ⟨k', hk', e'⟩ := mx_c hk hI.2.2.2.2.2.2.1
        rw [e']
        exact WJ_5 (WJ_I hW) hk'
      · unfold eqW
        simp only [wu1]
        grind
  · rw [city_C0 hv, bnd_some, city_M0 hv, bnd_some]
    exact bs hcp _ rfl rfl
end DEE
