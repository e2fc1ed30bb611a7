/-! PURE 23: exchanges, other nurses, undoing -/
section DE2
variable {C M C1 C2 M1 M2 S : Mem} {N : TN} {T : WS} {L : LWS} {W : WS} {nu : Nat → Nat} {cf : Nat → Int32}
def mHome (m : Int32) (d : Nat) : Int32 := m &&& ((1 <<< (nI d &&& 31)) ^^^ (-1))
theorem home_bt {m : Int32} {d e : Nat} (hd : d < 32) (he : e < 32) : bt (mHome m d) e = (bt m e && !decide (e = d)) := bt_home hd he
theorem home_sub {m : Int32} {d : Nat} (hd : d < 32) {e : Nat} (h : bt (mHome m d) e = true) : bt m e = true := by
  by_cases he : e < 32
  · rw [home_bt hd he, Bool.and_eq_true] at h; exact h.1
  · rw [bt_big _ (by omega)] at h; cases h
theorem s_exchange (h : Cp C M) (v x : Int32) : both C M (f_X9_exchange v x C) (f_X10_exchange v x M) := by
  unfold f_X10_exchange
  refine both_s h ?_
  intro N T L W nu M' hq
  have hcp : Cp C M' := ⟨N, T, L, W, nu, hq⟩
  unfold f_X9_exchange
  obtain ⟨hTp, hF, ⟨hT, hM, hI⟩, ⟨hR, hR', ⟨hW, hn⟩⟩, hIm, ⟨u, hu, u1, u2, hus⟩, hNo, hNu, h43, h44⟩ := id hq
  have hnd := hI.2.1
  rcases ix_d v (n := N 0 1) (by omega) with ⟨d, hd, rfl⟩ | hv
  · rw [heldD_C hT hI hR hd, bnd_some, doll_M1 hM hI hd, bnd_some, if_neg n10]
    have eh : ∀ {d}, d < N 0 1 → f_X10_isHeld 0 (nI d) M' = some (b01 (bt (W 0 3) d), M') := fun hd => heldR_M (t := 0) hR' (by omega) hnd hd
    rcases ix_d x (n := N 0 1) (by omega) with ⟨e, he, rfl⟩ | hx
    · rw [heldD_C hT hI hR he, bnd_some, doll_M1 hM hI he, bnd_some, if_neg n10, eh hd, bnd_some, eh he, bnd_some]
      unfold b01
      by_cases q1 : bt (W 0 3) d = true
      · rw [if_pos q1, if_neg n10, if_neg n10]
        by_cases q2 : bt (W 0 3) e = true
        · rw [if_pos q2, if_neg n10, if_neg n10, rdN (by omega) (by decide), (hT.2.2.2.2.1 d hd).2.2.1, Option.bind_some, rdN (by omega) (by decide), (hT.2.2.2.2.1 e he).2.2.1, Option.bind_some, owner_M hM hI hd, bnd_some, owner_M hM hI he, bnd_some]
          by_cases q3 : nI (ow N d) = nI (ow N e)
          · rw [if_pos q3, if_pos q3]; exact bs hcp _ rfl rfl
          · rw [if_neg q3, if_neg q3]
            have hde : d ≠ e := fun z => q3 (by rw [z])
            refine wp_call (add_C (k := 1) (a := nI d) (b := nI e) hu u1) ?_
            intro C1 hA
            have hC1 := addP_R (w := 53) (by omega) hA hR
            unfold f_X8_sendHome
            refine wp_bde (by rw [nxt_eq]) ?_
            refine wp_bde (by rw [nxt_eq]) ?_
            refine wp_bde forget_C (wp_some ?_)
            refine wp_call (keep_M hu u2) ?_
            intro M1 hK
            have hM1 := keepP_R hnd hK hR'
            refine wp_wr d rfl (by omega) ?_
            refine wp_wr e rfl (by omega) ?_
            have em : (sI C1 53 1 (C1.1 53 1 &&& ((1 <<< (nI d &&& 31)) ^^^ (-1)))).1 53 1 &&& ((1 <<< (nI e &&& 31)) ^^^ (-1)) = mHome (mHome (W 0 3) d) e := by
              rw [sI1, if_pos ⟨rfl, rfl⟩, hC1.2.1]; rfl
            rw [em]
            refine wp_some ⟨rfl, N, T, L, wu W 0 3 (mHome (mHome (W 0 3) d) e), nu, ?_⟩
            refine deed_mk (C1 := C1) (M1 := M1) hq u1 hu hA hK (fun c i q1 q2 => ?_) rfl (by rw [sI1, if_pos ⟨rfl, rfl⟩]) (fun c i q1 => ?_) ?_ ?_ ⟨⟨?_, ?_, fun z hz => ?_⟩, hn⟩ (Or.inr (Or.inl ⟨rfl, d, e, hd, he, rfl, rfl, ?_⟩))
            · rw [sI1, if_neg q2, sI1, if_neg (by omega), sI1, if_neg (by omega)]
            · rw [sI1, if_neg (fun e => q1 (by rw [e.1, e.2]; unfold chC; omega)), sI1, if_neg (fun e => q1 (by rw [e.1, e.2]; unfold chC; omega))]
            · unfold RC at hC1 ⊢
              simp only [sI1, sI2, wu1]
              grind
            · obtain ⟨b0, b1, b2, b3, b4⟩ := hM1
              refine ⟨by rw [sI_off (by omega), sI_off (by omega)]; exact b0, by rw [sI_off (by omega), sI_off (by omega)]; exact b1, by rw [sI_off (by omega), sI_off (by omega)]; exact b2, fun z hz => ?_, fun c hc => ?_⟩
              · obtain ⟨d1, d2, d3, d4⟩ := b3 z hz
                refine ⟨by rw [sI_off (by omega), sI_off (by omega)]; exact d1, by rw [sI_off (by omega), sI_off (by omega)]; exact d2, by rw [sI_off (by omega), sI_off (by omega)]; exact d3, ?_⟩
                rw [show wu W 0 3 (mHome (mHome (W 0 3) d) e) 0 3 = mHome (mHome (W 0 3) d) e from rfl, home_bt (by omega) (by omega), home_bt (by omega) (by omega), sI1, sI1]
                by_cases z1 : z = e
                · subst z1
                  rw [if_pos ⟨rfl, by omega⟩]
                  simp
                · rw [if_neg (by omega)]
                  by_cases z2 : z = d
                  · subst z2
                    rw [if_pos ⟨rfl, by omega⟩]
                    simp
                  · rw [if_neg (by omega), d4]
                    simp [z1, z2]
              · rw [sI_off (by omega), sI_off (by omega), sI_off (by omega), sI_off (by omega)]; exact b4 c hc
            · intro z hz
              exact hW.1 z hz
            · intro c hc
              exact hW.2.1 c hc
            · have hz : bt (mHome (mHome (W 0 3) d) e) z = true := hz
              exact hW.2.2 z (home_sub (by omega) (home_sub (by omega) hz))
            · have eb : (mHome (mHome (W 0 3) d) e ||| (1 <<< (nI d &&& 31))) ||| (1 <<< (nI e &&& 31)) = W 0 3 := by
                apply bt_ext
                intro z hz
                rw [bt_or, bt_or, bt_shl (by omega), bt_shl (by omega), home_bt (by omega) hz, home_bt (by omega) hz]
                by_cases z1 : z = e
                · subst z1; simp [q2]
                · by_cases z2 : z = d
                  · subst z2; simp [q1]
                  · simp [z1, z2]
              unfold eqW
              simp only [wu1, eb]
              grind
        · rw [if_neg q2]; exact bs hcp _ rfl rfl
      · rw [if_neg q1]; exact bs hcp _ rfl rfl
    · rw [heldD_C0 hT hx, bnd_some, doll_M0 hM hx, bnd_some]
      unfold b01
      by_cases q1 : bt (W 0 3) d = true
      · rw [if_pos q1]; exact bs hcp _ rfl rfl
      · rw [if_neg q1]; exact bs hcp _ rfl rfl
  · rw [heldD_C0 hT hv, bnd_some, doll_M0 hM hv, bnd_some]
    exact bs hcp _ rfl rfl
theorem s_give (h : Cp C M) (v x : Int32) : both C M (f_X9_give v x C) (f_X10_give v x M) := by
  unfold f_X10_give
  refine both_s h ?_
  intro N T L W nu M' hq
  have hcp : Cp C M' := ⟨N, T, L, W, nu, hq⟩
  unfold f_X9_give
  obtain ⟨hTp, hF, ⟨hT, hM, hI⟩, ⟨hR, hR', ⟨hW, hn⟩⟩, hIm, ⟨u, hu, u1, u2, hus⟩, hNo, hNu, h43, h44⟩ := id hq
  have hnd := hI.2.1
  have hnn := hI.1
  rcases ix_d v (n := N 0 1) (by omega) with ⟨d, hd, rfl⟩ | hv
  · rw [heldD_C hT hI hR hd, bnd_some, doll_M1 hM hI hd, bnd_some, if_neg n10]
    have eh : f_X10_isHeld 0 (nI d) M' = some (b01 (bt (W 0 3) d), M') := heldR_M (t := 0) hR' (by omega) hnd hd
    rcases ix_d x (n := N 0 0) (by omega) with ⟨j, hj, rfl⟩ | hx
    · rw [nurse_C1 hT hI hj, bnd_some, nurse_M1 hM hI hj, bnd_some, if_neg n10, eh, bnd_some]
      unfold b01
      by_cases q1 : bt (W 0 3) d = true
      · rw [if_pos q1, if_neg n10, if_neg n10, if_neg n10]
        obtain ⟨-, -, -, r0, -⟩ := RM0 hR'
        have hn5 := (hI.2.2.2.1 d hd).1
        have hn2 := (hI.2.2.1 _ hn5).1
        have hj2 := (hI.2.2.1 j hj).1
        have hnu := hn d hd
        have eow : ow N d = 1 - N 2 (N 5 d) := rfl
        simp only [rdN (S := C) (k := 54) (n := 10) (j := d) (by omega) (by decide), rdN (S := C) (k := 33) (n := 6) (j := j) (by omega) (by decide), rdN (S := C) (k := 37) (n := 10) (j := d) (by omega) (by decide), (hR.2.2.2.2.1 d hd).1, (hT.2.2.2.1 j hj).2.1, (hT.2.2.2.2.1 d hd).2.2.1, Option.bind_some, rdN (S := M') (k := 4) (n := 12) (j := j) (by omega) (by decide), rdN (S := M') (k := 7) (n := 20) (j := d) (by omega) (by decide), (hM.2.2.2.1 j hj).2.1, (hM.2.2.2.2.1 d hd).2.1, rdN (S := M') (k := 4) (n := 12) (j := N 5 d) (by omega) (by decide), (hM.2.2.2.1 _ hn5).2.1, rdN (S := M') (k := 21) (n := 230) (j := d) (by omega) (by decide), (r0 d hd).1]
        by_cases q2 : nu d = j
        · rw [if_pos (by rw [q2])]
          refine wp_some ?_
          refine wp_if (fun _ => ?_) (fun _ => wp_some ⟨rfl, hcp⟩)
          exact wp_pos (by rw [q2]) (wp_some ⟨rfl, hcp⟩)
        · have q2' : ¬ nI (nu d) = nI j := fun e => q2 ((nI_eq (by omega) (by omega)).mp e)
          rw [if_neg q2', if_neg q2']
          by_cases q3 : N 2 j = ow N d
          · rw [if_pos (by rw [q3]), if_neg (fun e => by have := (nI_eq (by omega) (by omega)).mp e; omega)]
            exact bs hcp _ rfl rfl
          · have q3' : ¬ nI (N 2 j) = nI (ow N d) := fun e => q3 ((nI_eq (by omega) (by omega)).mp e)
            rw [if_neg q3', if_pos (show nI (N 2 j) = nI (N 2 (N 5 d)) by rw [show N 2 j = N 2 (N 5 d) by omega])]
            refine wp_call (add_C (k := 2) (a := nI d) (b := nI (nu d)) hu u1) ?_
            intro C1 hA
            have hC1 := addP_R (w := 53) (by omega) hA hR
            refine wp_wr d rfl (by omega) ?_
            refine wp_bde forget_C (wp_some ?_)
            refine wp_call (keep_M hu u2) ?_
            intro M1 hK
            have hM1 := keepP_R hnd hK hR'
            refine wp_wr d rfl (by omega) ?_
            refine wp_some ⟨rfl, N, T, L, W, fun z => if z = d then j else nu z, ?_⟩
            refine deed_mk (C1 := C1) (M1 := M1) hq u1 hu hA hK (fun c i q1 q2 => ?_) rfl (by rw [sI1, if_pos ⟨rfl, rfl⟩]) (fun c i q1 => ?_) ?_ ?_ ⟨hW, fun z hz => ?_⟩ (Or.inr (Or.inr (Or.inl ⟨rfl, d, nu d, hd, hnu, rfl, rfl, ?_⟩)))
            · rw [sI1, if_neg q2, sI1, if_neg (by omega)]
            · rw [sI1, if_neg (fun e => q1 (by rw [e.1, e.2]; unfold chC; omega))]
            · unfold RC at hC1 ⊢
              simp only [sI1, sI2]
              grind
            · unfold RM at hM1 ⊢
              simp only [sI1]
              grind
            · show (if z = d then j else nu z) < N 0 0
              split
              · exact hj
              · exact hn z hz
            · unfold eqW
              simp only
              grind
      · rw [if_neg q1]
        exact bs hcp _ rfl rfl
    · rw [nurse_C0 hT hx, bnd_some, nurse_M0 hM hx, bnd_some]
      unfold b01
      by_cases q1 : bt (W 0 3) d = true
      · rw [if_pos q1]; exact bs hcp _ rfl rfl
      · rw [if_neg q1]; exact bs hcp _ rfl rfl
  · rw [heldD_C0 hT hv, bnd_some, doll_M0 hM hv, bnd_some]
    exact bs hcp _ rfl rfl
theorem s_undo (h : Cp C M) : both C M (f_X9_undo C) (f_X10_undo M) := by
  unfold f_X10_undo
  refine both_s h ?_
  intro N T L W nu M' hq
  have hcp : Cp C M' := ⟨N, T, L, W, nu, hq⟩
  unfold f_X9_undo
  obtain ⟨hTp, hF, ⟨hT, hM, hI⟩, ⟨hR, hR', ⟨hW, hn⟩⟩, hIm, ⟨u, hu, u1, u2, us, hus, hU⟩, hNo, hNu, h43, h44⟩ := hq
  have hnd := hI.2.1
  have hnn := hI.1
  rw [u1, u2]
  rcases Nat.eq_zero_or_pos u with rfl | hp
  · rw [if_pos (show nI 0 = 0 from rfl), if_pos (show nI 0 = 0 from rfl)]; exact bs hcp _ rfl rfl
  · have hu0 : ¬ nI u = 0 := nI_ne0 hp (by omega)
    rw [if_neg hu0, if_neg hu0]
    have e1 : nI u - 1 = nI (u - 1) := by rw [show (1 : Int32) = nI 1 from rfl, pk_sub hp]
    obtain ⟨g1, g2, g3⟩ := hU (u - 1) (by omega)
    rw [Nat.sub_add_cancel hp, hus] at g3
    -- the class
    have cls : wp (f_X0_undoIn 53 C) (fun S => RC 53 S N (us (u - 1)).1 (us (u - 1)).2 (caN N) ∧ S.1 84 0 = nI (u - 1) ∧ (∀ c i, c < 53 ∨ 60 < c → ¬ (c = 84 ∧ i = 0) → S.1 c i = C.1 c i) ∧ S.2 = C.2) := by
      unfold f_X0_undoIn
      rw [u1]
      refine wp_pos (show (0 : Int32) < nI u from nI_lt (a := 0) hp (by omega)) ?_
      refine wp_nxt ?_
      rw [e1]
      have e84 : (sI C 84 0 (nI (u - 1))).1 84 0 = nI (u - 1) := by rw [sI1, if_pos ⟨rfl, rfl⟩]
      rw [e84]
      refine wp_rd (u - 1) rfl (by omega) (v := C.1 86 (u - 1)) (by rw [sI_off (by omega)]) ?_
      refine wp_rd (u - 1) rfl (by omega) (v := C.1 87 (u - 1)) (by rw [sI_off (by omega)]) ?_
      refine wp_rd (u - 1) rfl (by omega) (v := C.1 85 (u - 1)) (by rw [sI_off (by omega)]) ?_
      have hR1 : RC 53 (sI C 84 0 (nI (u - 1))) N W nu (caN N) := RC_to hR (fun c i a b _ => by rw [sI_off (by omega)]) rfl
      have ec : ∀ c i, ¬ (c = 84 ∧ i = 0) → (sI C 84 0 (nI (u - 1))).1 c i = C.1 c i := fun c i q => by rw [sI1, if_neg q]
      have e2 : (sI C 84 0 (nI (u - 1))).2 = C.2 := rfl
      generalize sI C 84 0 (nI (u - 1)) = S at *
      rcases g3 with ⟨k, d, hd, ho, he⟩ | ⟨k, d, e, hd, hde, ho, ho2, he⟩ | ⟨k, d, j, hd, hj, ho, ho2, he⟩ | ⟨k, c, hc, ho, he⟩
      · rw [k]
        refine wp_pos rfl ?_
        refine wp_wr d ho (by omega) (wp_some ⟨RC_eqW ?_ he, by rw [sI_off (by omega)]; exact e84, fun c i q1 q2 => by rw [sI_off (by omega)]; exact ec c i q2, e2⟩)
        unfold RC at hR1 ⊢
        simp only [sI1, sI2, wu1]
        grind
      · rw [k]
        refine wp_neg (by decide) (wp_pos rfl ?_)
        unfold f_X8_hold
        rw [ho, ho2]
        refine wp_bde (by rw [nxt_eq]) ?_
        refine wp_bde (by rw [nxt_eq]) ?_
        have em : (sI S 53 1 (S.1 53 1 ||| (1 <<< (nI d &&& 31)))).1 53 1 = W 0 3 ||| (1 <<< (nI d &&& 31)) := by
          rw [sI1, if_pos ⟨rfl, rfl⟩, hR1.2.1]
        rw [em]
        refine wp_some ⟨RC_eqW ?_ he, by rw [sI_off (by omega), sI_off (by omega)]; exact e84, fun c i q1 q2 => by rw [sI_off (by omega), sI_off (by omega)]; exact ec c i q2, e2⟩
        unfold RC at hR1 ⊢
        simp only [sI1, sI2, wu1]
        grind
      · rw [k]
        refine wp_neg (by decide) (wp_neg (by decide) (wp_pos rfl ?_))
        refine wp_wr d ho (by omega) (wp_some ⟨RC_eqW ?_ he, by rw [sI_off (by omega)]; exact e84, fun c i q1 q2 => by rw [sI_off (by omega)]; exact ec c i q2, e2⟩)
        rw [ho2]
        unfold RC at hR1 ⊢
        simp only [sI1, sI2]
        grind
      · rw [k]
        refine wp_neg (by decide) (wp_neg (by decide) (wp_neg (by decide) (wp_pos rfl ?_)))
        refine wp_wr c ho (by omega) (wp_some ⟨RC_eqW ?_ he, by rw [sI_off (by omega)]; exact e84, fun c i q1 q2 => by rw [sI_off (by omega)]; exact ec c i q2, e2⟩)
        unfold RC at hR1 ⊢
        simp only [sI1, sI2, wu1]
        grind
    refine wp_call cls ?_
    rintro S ⟨s1, s2, s3, s4⟩
    refine wp_bde forget_C (wp_some ?_)
    refine wp_nxt ?_
    rw [e1]
    have e42 : (sI M' 0 42 (nI (u - 1))).1 0 42 = nI (u - 1) := by rw [sI1, if_pos ⟨rfl, rfl⟩]
    rw [e42, show (3 : Int32) + nI (u - 1) = nI (3 + (u - 1)) from nI_add 3 (u - 1)]
    refine wp_call (copies_M (a := 0) (b := 3 + (u - 1)) (by omega) (by omega) (by omega)) ?_
    rintro Z ⟨hcz, fZ⟩
    have em : ∀ c i, ¬ (c = 0 ∧ i = 42) → ¬ chC 0 c i → Z.1 c i = M'.1 c i := fun c i q q2 => by rw [fZ c i q2, sI1, if_neg q]
    have z42 : Z.1 0 42 = nI (u - 1) := by rw [fZ 0 42 (by unfold chC; omega)]; exact e42
    have hZ : RM 0 Z N (us (u - 1)).1 (us (u - 1)).2 := cpM_R hcz hnd (RM_to g1 hnd (fun c i q => by rw [sI1, if_neg (by unfold chC at q; omega)]))
    have ec : ∀ c i, c < 53 ∨ 60 < c → ¬ (c = 84 ∧ i = 0) → ¬ (c = 88 ∧ i = 3) → (sI S 88 3 (-1)).1 c i = C.1 c i := fun c i q1 q2 q3 => by rw [sI1, if_neg q3]; exact s3 c i q1 q2
    refine wp_some ⟨?_, N, T, L, (us (u - 1)).1, (us (u - 1)).2, ?_⟩
    · rw [z42, sI_off (by omega)]; exact s2
    refine ⟨pTape_to hTp (fun c i q => ec c i (by omega) (by omega) (by omega)) (em _ _ (by omega) (by unfold chC; omega)) (fun i => em _ _ (by omega) (by unfold chC; omega)), pFault_to hF (fun i => ec _ _ (by omega) (by omega) (by omega)) (fun i hi => em _ _ (by omega) (by unfold chC; omega)), ⟨TC_to hT (fun k a b => funext fun i => ec k i (by omega) (by omega) (by omega)), TM_to hM (fun c i a b => em c i (by omega) (by unfold chC; omega)), hI⟩, ⟨RC_to s1 (fun c i a b _ => by rw [sI_off (by omega)]) rfl, hZ, g2⟩, pImg_to hnd hIm (ec _ _ (by omega) (by omega) (by omega)) (fun c i a b => ec c i (by omega) (by omega) (by omega)) (by show S.2 61 3 = _; rw [s4]) (em _ _ (by omega) (by unfold chC; omega)) (fun c i q => em c i (by unfold chC at q; omega) (by unfold chC at q ⊢; omega)), ⟨u - 1, by omega, by rw [sI_off (by omega)]; exact s2, z42, us, rfl, fun i hi => ?_⟩, pNotes_to hNo (fun c i a b => ec c i (by omega) (by omega) (by omega)) (fun i hi => em _ _ (by omega) (by unfold chC; omega)) (fun c i a b => em _ _ (by omega) (by unfold chC; omega)), Or.inl (by rw [sI1, if_pos ⟨rfl, rfl⟩]), ?_, ?_⟩
    · obtain ⟨k1, k2, k3⟩ := hU i (by omega)
      refine ⟨RM_to k1 hnd (fun c i' q => em c i' (by unfold chC at q; omega) (by unfold chC at q ⊢; omega)), k2, ?_⟩
      rw [ec _ _ (by omega) (by omega) (by omega), ec _ _ (by omega) (by omega) (by omega), ec _ _ (by omega) (by omega) (by omega)]
      exact k3
    · rw [em 0 43 (by omega) (by unfold chC; omega)]; exact h43
    · rw [em 0 44 (by omega) (by unfold chC; omega)]; exact h44
end DE2
