/-! PURE 24: feed; notes -/
section NOT
variable {C M C1 M1 S : Mem} {N : TN} {T : WS} {L : LWS} {W : WS} {nu : Nat → Nat} {cf : Nat → Int32}
def byt (v : Int32) (j : Nat) : Int32 := (v >>> (nI (24 - 8 * j) &&& 31)) &&& 255
theorem byt_b (v : Int32) (j : Nat) : ∃ b, b < 256 ∧ byt v j = nI b := pk_andE _ 8 rfl
theorem bt_255 : ∀ d, d < 32 → bt 255 d = decide (d < 8) := by decide +kernel
theorem um32 : ∀ s, s < 32 → (((nI s).toUInt32 &&& Int32.toUInt32 31).toBitVec % 32).toNat = s := by decide +kernel
theorem byt_u (v : Int32) {j : Nat} (hj : j < 4) : (((v).toUInt32 >>> ((nI (24 - 8 * j)).toUInt32 &&& Int32.toUInt32 31)).toInt32) &&& (255 : Int32) = byt v j := by
  unfold byt
  apply bt_ext
  intro d hd
  rw [bt_and, bt_and, bt_255 d hd]
  by_cases h8 : d < 8
  · have e1 : bt ((v.toUInt32 >>> ((nI (24 - 8 * j)).toUInt32 &&& Int32.toUInt32 31)).toInt32) d = bt v (24 - 8 * j + d) := by
      have e : (v.toUInt32 >>> ((nI (24 - 8 * j)).toUInt32 &&& Int32.toUInt32 31)).toInt32.toBitVec = v.toBitVec >>> (24 - 8 * j) := by
        have e' : (v.toUInt32 >>> ((nI (24 - 8 * j)).toUInt32 &&& Int32.toUInt32 31)).toInt32.toBitVec = v.toBitVec >>> (((nI (24 - 8 * j)).toUInt32 &&& Int32.toUInt32 31).toBitVec % 32).toNat := UInt32.toBitVec_shiftRight _ _
        rw [e', um32 (24 - 8 * j) (by omega)]
      unfold bt
      rw [e, BitVec.getLsbD_ushiftRight]
    have e2 : bt (v >>> (nI (24 - 8 * j) &&& 31)) d = bt v (24 - 8 * j + d) := by
      have e : (v >>> (nI (24 - 8 * j) &&& 31)).toBitVec = v.toBitVec.sshiftRight (24 - 8 * j) := by
        show v.toBitVec.sshiftRight ((nI (24 - 8 * j) &&& 31).toBitVec.smod 32).toNat = _
        rw [sm32 _ (by omega)]
      unfold bt
      rw [e, BitVec.getLsbD_sshiftRight]
      have : 24 - 8 * j + d < 32 := by omega
      simp [hd, this]
    rw [e1, e2]
  · rw [show decide (d < 8) = false from decide_eq_false h8, Bool.and_false, Bool.and_false]
def putP (C C1 : Mem) (v : Int32) (n m : Nat) : Prop := C1.1 1 1 = nI (n + m) ∧ (∀ j, j < m → C1.1 2 (n + j) = byt v j) ∧ (∀ i, i < n → C1.1 2 i = C.1 2 i) ∧ (∀ c i, c ≠ 1 → c ≠ 2 → C1.1 c i = C.1 c i) ∧ C1.2 = C.2
theorem put_C {v : Int32} {n : Nat} (hn : n + 4 ≤ 700) (h : C.1 1 1 = nI n) : wp (f_X5_put v C) (fun C1 => putP C C1 v n 4) := by
  unfold f_X5_put
  have step : ∀ fuel j Z, j < 4 → putP C Z v n j → (∀ Z', putP C Z' v n (j + 1) → wp (f_X5_put_3 fuel v (nI (24 - 8 * j) + (-8)) Z') (fun C1 => putP C C1 v n 4)) → wp (f_X5_put_3 (fuel + 1) v (nI (24 - 8 * j)) Z) (fun C1 => putP C C1 v n 4) := by
    rintro fuel j Z hj ⟨p1, p2, p3, p4, p5⟩ ih
    unfold f_X5_put_3
    refine wp_neg (nI_pos (by omega)) ?_
    rw [p1]
    refine wp_neg (show ¬ nI 700 ≤ nI (n + j) from nI_ge (by omega) (by omega)) ?_
    refine wp_wr (n + j) rfl (by omega) ?_
    refine wp_nxt ?_
    rw [byt_u v hj, show (sI Z 2 (n + j) (byt v j)).1 1 1 + 1 = nI (n + (j + 1)) by rw [sI_off (by omega), p1, nI_1]; rfl]
    refine ih _ ⟨by rw [sI1, if_pos ⟨rfl, rfl⟩], fun i hi => ?_, fun i hi => ?_, fun c i q1 q2 => ?_, p5⟩
    · rw [sI_off (by omega), sI1]
      by_cases q : i = j
      · subst q; rw [if_pos ⟨rfl, rfl⟩]
      · rw [if_neg (by omega)]; exact p2 i (by omega)
    · rw [sI_off (by omega), sI1, if_neg (by omega)]; exact p3 i hi
    · rw [sI_off q1, sI_off q2]; exact p4 c i q1 q2
  refine step 1999 0 C (by omega) ⟨h, fun j hj => absurd hj (Nat.not_lt_zero j), fun _ _ => rfl, fun _ _ _ _ => rfl, rfl⟩ ?_
  intro Z1 h1
  rw [show nI (24 - 8 * 0) + (-8) = nI (24 - 8 * 1) by decide]
  refine step 1998 1 Z1 (by omega) h1 ?_
  intro Z2 h2
  rw [show nI (24 - 8 * 1) + (-8) = nI (24 - 8 * 2) by decide]
  refine step 1997 2 Z2 (by omega) h2 ?_
  intro Z3 h3
  rw [show nI (24 - 8 * 2) + (-8) = nI (24 - 8 * 3) by decide]
  refine step 1996 3 Z3 (by omega) h3 ?_
  intro Z4 h4
  show wp (f_X5_put_3 (1995 + 1) v (nI (24 - 8 * 3) + (-8)) Z4) _
  unfold f_X5_put_3
  exact wp_pos (by decide) (wp_some h4)
def arg5 (a b c d e : Int32) (k : Nat) : Int32 := if k < 4 then a else if k < 8 then b else if k < 12 then c else if k < 16 then d else e
theorem sh20 : ∀ k, k < 20 → rm (nI k) 4 = some (nI (k % 4)) ∧ (24 : Int32) - 8 * nI (k % 4) = nI (24 - 8 * (k % 4)) := by decide +kernel
theorem s_feed (h : Cp C M) (a b c d e : Int32) : both C M (f_X9_feed a b c d e C) (f_X10_feed a b c d e M) := by
  unfold f_X10_feed
  refine both_s h ?_
  intro N T L W nu M' hq
  have hcp : Cp C M' := ⟨N, T, L, W, nu, hq⟩
  unfold f_X9_feed
  obtain ⟨⟨n, hn700, t1, t2, t3⟩, hF, ⟨hT, hM, hI⟩, ⟨hR, hR', hok⟩, hIm, hU, hNo, hNu, h43, h44⟩ := hq
  have hnd := hI.2.1
  rw [t1, t2, show nI n + 20 = nI (n + 20) from nI_add n 20]
  by_cases hn : n + 20 ≤ 700
  · rw [if_pos (show nI (n + 20) ≤ 700 from nI_le (b := 700) hn (by omega)), if_pos (show nI n ≤ 680 from nI_le (b := 680) (by omega) (by omega))]
    refine wp_call (put_C (v := a) (by omega) t1) ?_
    rintro C1 ⟨a1, a2, a3, a4, a5⟩
    refine wp_call (put_C (v := b) (by omega) a1) ?_
    rintro C2 ⟨b1, b2, b3, b4, b5⟩
    refine wp_call (put_C (v := c) (by omega) b1) ?_
    rintro C3 ⟨c1, c2, c3, c4, c5⟩
    refine wp_call (put_C (v := d) (by omega) c1) ?_
    rintro C4 ⟨d1, d2, d3, d4, d5⟩
    refine wp_call (put_C (v := e) (by omega) d1) ?_
    rintro C5 ⟨e1, e2, e3, e4, e5⟩
    have hby : ∀ k, k < 20 → C5.1 2 (n + k) = byt (arg5 a b c d e k) (k % 4) := by
      intro k hk
      unfold arg5
      rcases (by omega : k < 4 ∨ (4 ≤ k ∧ k < 8) ∨ (8 ≤ k ∧ k < 12) ∨ (12 ≤ k ∧ k < 16) ∨ 16 ≤ k) with q | q | q | q | q
      · rw [e3 _ (by omega), d3 _ (by omega), c3 _ (by omega), b3 _ (by omega), a2 k q, if_pos q, Nat.mod_eq_of_lt q]
      · rw [e3 _ (by omega), d3 _ (by omega), c3 _ (by omega), show n + k = n + 4 + (k - 4) by omega, b2 _ (by omega), if_neg (by omega), if_pos q.2, show k % 4 = k - 4 by omega]
      · rw [e3 _ (by omega), d3 _ (by omega), show n + k = n + 4 + 4 + (k - 8) by omega, c2 _ (by omega), if_neg (by omega), if_neg (by omega), if_pos q.2, show k % 4 = k - 8 by omega]
      · rw [e3 _ (by omega), show n + k = n + 4 + 4 + 4 + (k - 12) by omega, d2 _ (by omega), if_neg (by omega), if_neg (by omega), if_neg (by omega), if_pos q.2, show k % 4 = k - 12 by omega]
      · rw [show n + k = n + 4 + 4 + 4 + 4 + (k - 16) by omega, e2 _ (by omega), if_neg (by omega), if_neg (by omega), if_neg (by omega), if_neg (by omega), show k % 4 = k - 16 by omega]
    have hol : ∀ i, i < n → C5.1 2 i = C.1 2 i := fun i hi => by rw [e3 _ (by omega), d3 _ (by omega), c3 _ (by omega), b3 _ (by omega), a3 _ hi]
    have hoc : ∀ k i, k ≠ 1 → k ≠ 2 → C5.1 k i = C.1 k i := fun k i q1 q2 => by rw [e4 _ _ q1 q2, d4 _ _ q1 q2, c4 _ _ q1 q2, b4 _ _ q1 q2, a4 _ _ q1 q2]
    have ho2 : C5.2 = C.2 := by rw [e5, d5, c5, b5, a5]
    have e1 : C5.1 1 1 = nI (n + 20) := e1
    refine wp_some ?_
    refine lp0 (fun fuel i Z => f_X10_feed_20 fuel a b c d e i Z) 20 (fun j Z => (∀ k, k < j → Z.1 1 (n + k) = byt (arg5 a b c d e k) (k % 4)) ∧ (∀ k i, ¬ (k = 1 ∧ n ≤ i) → Z.1 k i = M'.1 k i)) (by omega) M' ⟨fun k hk => absurd hk (Nat.not_lt_zero k), fun _ _ _ => rfl⟩ ?_ ?_
    · rintro fuel Z ⟨z1, z2⟩
      refine wp_pos (by decide) (wp_nxt ?_)
      rw [z2 0 2 (by omega), t2, show nI n + 20 = nI (n + 20) from nI_add n 20]
      have em : ∀ k i, ¬ (k = 0 ∧ i = 2) → ¬ (k = 1 ∧ n ≤ i) → (sI Z 0 2 (nI (n + 20))).1 k i = M'.1 k i := fun k i q1 q2 => by rw [sI1, if_neg q1]; exact z2 k i q2
      have e02 : (sI Z 0 2 (nI (n + 20))).1 0 2 = nI (n + 20) := by rw [sI1, if_pos ⟨rfl, rfl⟩]
      refine wp_some ⟨by rw [e02]; exact e1, N, T, L, W, nu, ⟨n + 20, hn, e1, e02, fun i hi => ?_⟩, pFault_to hF (fun i => hoc _ _ (by omega) (by omega)) (fun i hi => em _ _ (by omega) (by omega)), ⟨TC_to hT (fun k x y => funext fun i => hoc k i (by omega) (by omega)), TM_to hM (fun k i x y => em k i (by omega) (by omega)), hI⟩, ⟨RC_to hR (fun k i x y _ => hoc k i (by omega) (by omega)) (by rw [ho2]), RM_to hR' hnd (fun k i q => em k i (by unfold chC at q; omega) (by unfold chC at q; omega)), hok⟩, pImg_to hnd hIm (hoc _ _ (by omega) (by omega)) (fun k i x y => hoc k i (by omega) (by omega)) (by rw [ho2]) (em _ _ (by omega) (by omega)) (fun k i q => em k i (by unfold chC at q; omega) (by unfold chC at q; omega)), pUndo_to hnd hU (fun k i x y => hoc k i (by omega) (by omega)) (em _ _ (by omega) (by omega)) (fun t k i x y q => em k i (by unfold chC at q; omega) (by unfold chC at q; omega)), pNotes_to hNo (fun k i x y => hoc k i (by omega) (by omega)) (fun i hi => em _ _ (by omega) (by omega)) (fun k i x y => em _ _ (by omega) (by omega)), pNurs_to hNu (fun k i x y => hoc k i (by omega) (by omega)), by rw [em 0 43 (by omega) (by omega)]; exact h43, by rw [em 0 44 (by omega) (by omega)]; exact h44⟩
      rcases Nat.lt_or_ge i n with q | q
      · rw [hol i q, em 1 i (by omega) (by omega)]; exact t3 i q
      · obtain ⟨k, rfl⟩ : ∃ k, i = n + k := ⟨i - n, by omega⟩
        obtain ⟨y, hy, ey⟩ := byt_b (arg5 a b c d e k) (k % 4)
        refine ⟨y, hy, by rw [hby k (by omega)]; exact ey, ?_⟩
        rw [sI_off (by omega), z1 k (by omega)]; exact ey
    · rintro fuel k Z hk ⟨z1, z2⟩ ih
      try simp only at ih
      have h73 : ∀ t0 : Int32, t0 = arg5 a b c d e k → wp (f_X10_feed_73 (f_X10_feed_20 fuel) a b c d e (nI k) t0 Z) (fun p => C5.1 1 1 = p.1 ∧ Cp C5 p.2) := by
        intro t0 ht
        unfold f_X10_feed_73
        refine wp_bde (sh20 k hk).1 ?_
        rw [(sh20 k hk).2, z2 0 2 (by omega), t2]
        refine wp_wr (n + k) (nI_add n k) (by omega) ?_
        rw [nI_1]
        refine ih _ ⟨fun j hj => ?_, fun k' i q => ?_⟩
        · rw [sI1]
          by_cases q : j = k
          · subst q; rw [if_pos ⟨rfl, rfl⟩, ht]; rfl
          · rw [if_neg (by omega)]; exact z1 j (by omega)
        · rw [sI1, if_neg (by omega)]; exact z2 k' i q
      show wp (f_X10_feed_20 (fuel + 1) a b c d e (nI k) Z) (fun p => C5.1 1 1 = p.1 ∧ Cp C5 p.2)
      unfold f_X10_feed_20
      refine wp_neg (nI_ge (b := 20) hk (by omega)) ?_
      unfold arg5 at h73
      refine wp_if (fun q => ?_) (fun q => ?_)
      · have q : 4 ≤ k := (nI_leI (by omega) (by omega)).mp (show nI 4 ≤ nI k from q)
        rw [if_neg (by omega)] at h73
        refine wp_if (fun q => ?_) (fun q => ?_)
        · have q : 8 ≤ k := (nI_leI (by omega) (by omega)).mp (show nI 8 ≤ nI k from q)
          rw [if_neg (by omega)] at h73
          refine wp_if (fun q => ?_) (fun q => ?_)
          · have q : 12 ≤ k := (nI_leI (by omega) (by omega)).mp (show nI 12 ≤ nI k from q)
            rw [if_neg (by omega)] at h73
            refine wp_if (fun q => ?_) (fun q => ?_)
            · have q : 16 ≤ k := (nI_leI (by omega) (by omega)).mp (show nI 16 ≤ nI k from q)
              rw [if_neg (by omega)] at h73
              exact h73 e rfl
            · have q : ¬ 16 ≤ k := fun z => q (show nI 16 ≤ nI k from nI_le z (by omega))
              rw [if_pos (by omega)] at h73
              exact h73 d rfl
          · have q : ¬ 12 ≤ k := fun z => q (show nI 12 ≤ nI k from nI_le z (by omega))
            rw [if_pos (by omega)] at h73
            exact h73 c rfl
        · have q : ¬ 8 ≤ k := fun z => q (show nI 8 ≤ nI k from nI_le z (by omega))
          rw [if_pos (by omega)] at h73
          exact h73 b rfl
      · have q : ¬ 4 ≤ k := fun z => q (show nI 4 ≤ nI k from nI_le z (by omega))
        rw [if_pos (by omega)] at h73
        exact h73 a rfl
  · rw [if_neg (show ¬ nI (n + 20) ≤ 700 from nI_ge (a := 700) (by omega) (by omega)), if_neg (show ¬ nI n ≤ 680 from nI_ge (a := 680) (by omega) (by omega))]
    exact bs hcp _ rfl rfl
/-! notes -/
theorem note_mk (hq : Cq C M N T L W nu) (hc : ∀ c i, c < 77 ∨ 82 < c → C1.1 c i = C.1 c i) (hc2 : C1.2 = C.2) (hm : ∀ c i, ¬ (c = 0 ∧ (i = 50 ∨ i = 51)) → ¬ (28 ≤ c ∧ c ≤ 32) → M1.1 c i = M.1 c i) (hN : pNotes C1 M1 N) : Cp C1 M1 := by
  obtain ⟨hTp, hF, ⟨hT, hM, hI⟩, ⟨hR, hR', hok⟩, hIm, hU, hNo, hNu, h43, h44⟩ := hq
  have hnd := hI.2.1
  exact ⟨N, T, L, W, nu, pTape_to hTp (fun k i q => hc k i (by omega)) (hm _ _ (by omega) (by omega)) (fun i => hm _ _ (by omega) (by omega)), pFault_to hF (fun i => hc _ _ (by omega)) (fun i hi => hm _ _ (by omega) (by omega)), ⟨TC_to hT (fun k x y => funext fun i => hc k i (by omega)), TM_to hM (fun k i x y => hm k i (by omega) (by omega)), hI⟩, ⟨RC_to hR (fun k i x y _ => hc k i (by omega)) (by rw [hc2]), RM_to hR' hnd (fun k i q => hm k i (by unfold chC at q; omega) (by unfold chC at q; omega)), hok⟩, pImg_to hnd hIm (hc _ _ (by omega)) (fun k i x y => hc k i (by omega)) (by rw [hc2]) (hm _ _ (by omega) (by omega)) (fun k i q => hm k i (by unfold chC at q; omega) (by unfold chC at q; omega)), pUndo_to hnd hU (fun k i x y => hc k i (by omega)) (hm _ _ (by omega) (by omega)) (fun t k i x y q => hm k i (by unfold chC at q; omega) (by unfold chC at q; omega)), hN, pNurs_to hNu (fun k i x y => hc k i (by omega)), by rw [hm 0 43 (by omega) (by omega)]; exact h43, by rw [hm 0 44 (by omega) (by omega)]; exact h44⟩
theorem s_note (h : Cp C M) (v x y w : Int32) (hw : w = 0 ∨ w = 1) : both C M (f_X9_note v x y w C) (f_X10_note v x y w M) := by
  unfold f_X10_note
  refine both_s h ?_
  intro N T L W nu M' hq
  have hcp : Cp C M' := ⟨N, T, L, W, nu, hq⟩
  unfold f_X9_note
  obtain ⟨hTp, hF, ⟨hT, hM, hI⟩, ⟨hR, hR', hok⟩, hIm, hU, ⟨z, hz, z1, z2, z3, z4, z5⟩, hNu, h43, h44⟩ := id hq
  have hnd := hI.2.1
  have ew : vp_nar .boolean w = w := by rcases hw with rfl | rfl <;> rfl
  by_cases a1 : v < 1
  · rw [if_pos a1, if_pos a1]; exact bs hcp _ rfl rfl
  rw [if_neg a1, if_neg a1]
  by_cases a2 : 40 < v
  · rw [if_pos a2, if_pos a2]; exact bs hcp _ rfl rfl
  rw [if_neg a2, if_neg a2]
  rcases ix_d x (n := N 0 1) (by omega) with ⟨d, hd, rfl⟩ | hx
  · rw [doll_C1 hT hI hd, bnd_some, doll_M1 hM hI hd, bnd_some, if_neg n10, if_neg n10]
    by_cases a3 : y < 0
    · rw [if_pos a3, if_pos a3]; exact bs hcp _ rfl rfl
    rw [if_neg a3, if_neg a3]
    by_cases a4 : 9 < y
    · rw [if_neg (Int32.not_le.mpr a4), if_pos a4]; exact bs hcp _ rfl rfl
    rw [if_pos (Int32.not_lt.mp a4), if_neg a4]
    obtain ⟨k, hk, ek⟩ : ∃ k, (1 ≤ k ∧ k ≤ 40) ∧ v = nI k := by
      obtain ⟨k, hk, rfl⟩ := nI_of2 (M := 40) (n := 40) rfl (fun e => a1 (Int32.lt_trans e (by decide))) (Int32.not_lt.mp a2)
      refine ⟨k, ⟨?_, hk⟩, rfl⟩
      rcases Nat.eq_zero_or_pos k with rfl | q
      · exact absurd (by decide) a1
      · exact q
    unfold f_X2_addSeen
    rw [z1, z2]
    by_cases h24 : z = 24
    · subst h24
      rw [if_neg (by decide), if_pos (by decide)]; exact bs hcp _ rfl rfl
    · have hz' : z < 24 := by omega
      rw [if_pos (show nI z < 24 from nI_lt (b := 24) hz' (by omega)), if_neg (show ¬ nI z = 24 from fun e => h24 ((nI_eq (by omega) (by omega)).mp (show nI z = nI 24 from e)))]
      have cls : wp ((wr C 78 24 (nI z) (-1 : Int32)).bind fun S20 => (wr S20 79 24 (S20.1 77 0) v).bind fun S30 => (wr S30 80 24 (S30.1 77 0) (nI d)).bind fun S40 => (wr S40 81 24 (S40.1 77 0) y).bind fun S50 => (wrZ S50 82 24 (S50.1 77 0) w).bind fun S61 => nxt (sI S61 77 0 ((S61.1 77 0) + (1 : Int32))) fun S69 => some (((S69.1 77 0) - (1 : Int32)), S69)) (fun q => q.1 = nI z ∧ q.2 = sI (sI (sI (sI (sI (sI C 78 z (-1)) 79 z v) 80 z (nI d)) 81 z y) 82 z w) 77 0 (nI (z + 1))) := by
        refine wp_wr z rfl hz' ?_
        refine wp_wr z (by rw [sI_off (by omega)]; exact z1) hz' ?_
        refine wp_wr z (by rw [sI_off (by omega), sI_off (by omega)]; exact z1) hz' ?_
        refine wp_wr z (by rw [sI_off (by omega), sI_off (by omega), sI_off (by omega)]; exact z1) hz' ?_
        refine wp_wrZ z (by rw [sI_off (by omega), sI_off (by omega), sI_off (by omega), sI_off (by omega)]; exact z1) hz' ?_
        refine wp_nxt ?_
        rw [ew]
        have e : (sI (sI (sI (sI (sI C 78 z (-1)) 79 z v) 80 z (nI d)) 81 z y) 82 z w).1 77 0 + 1 = nI (z + 1) := by
          rw [sI_off (by omega), sI_off (by omega), sI_off (by omega), sI_off (by omega), sI_off (by omega), z1, nI_1]
        rw [e]
        refine wp_some ⟨?_, rfl⟩
        rw [sI1, if_pos ⟨rfl, rfl⟩]
        exact nI_pred z
      refine wp_bnd cls ?_
      rintro r C1 ⟨hr, hC1⟩
      simp only at hr hC1
      subst hr
      refine wp_some ?_
      refine wp_wr z rfl hz' ?_
      refine wp_wr z (by rw [sI_off (by omega)]; exact z2) hz' ?_
      refine wp_wr z (by rw [sI_off (by omega), sI_off (by omega)]; exact z2) hz' ?_
      refine wp_wrZ z (by rw [sI_off (by omega), sI_off (by omega), sI_off (by omega)]; exact z2) hz' ?_
      refine wp_wr z (by rw [sI_off (by omega), sI_off (by omega), sI_off (by omega), sI_off (by omega)]; exact z2) hz' ?_
      refine wp_nxt ?_
      rw [ew]
      have e : (sI (sI (sI (sI (sI M' 28 z v) 29 z (nI d)) 30 z y) 31 z w) 32 z (-1)).1 0 50 + 1 = nI (z + 1) := by
        rw [sI_off (by omega), sI_off (by omega), sI_off (by omega), sI_off (by omega), sI_off (by omega), z2, nI_1]
      rw [e]
      refine wp_some ⟨?_, note_mk hq (fun c i q => ?_) (by rw [hC1]; rfl) (fun c i q1 q2 => ?_) ⟨z + 1, by omega, ?_, ?_, ?_, ?_, fun i hi => ?_⟩⟩
      · rw [sI1, if_pos ⟨rfl, rfl⟩]
        exact (nI_pred z).symm
      · rw [hC1, sI_off (by omega), sI_off (by omega), sI_off (by omega), sI_off (by omega), sI_off (by omega), sI_off (by omega)]
      · rw [sI1, if_neg (by omega), sI_off (by omega), sI_off (by omega), sI_off (by omega), sI_off (by omega), sI_off (by omega)]
      · rw [hC1, sI1, if_pos ⟨rfl, rfl⟩]
      · rw [sI1, if_pos ⟨rfl, rfl⟩]
      · rw [hC1, sI1, if_neg (by omega), sI_off (by omega), sI_off (by omega), sI_off (by omega), sI_off (by omega), sI_off (by omega), sI1, if_neg (by omega), sI_off (by omega), sI_off (by omega), sI_off (by omega), sI_off (by omega), sI_off (by omega)]
        exact z3
      · rw [hC1, sI1, if_neg (by omega), sI_off (by omega), sI_off (by omega), sI_off (by omega), sI_off (by omega), sI_off (by omega)]
        rcases z4 with q | ⟨j, hj, q⟩
        · exact Or.inl q
        · exact Or.inr ⟨j, by omega, q⟩
      · rw [hC1]
        by_cases q : i = z
        · subst q
          simp only [sI1]
          refine ⟨by simp, Or.inr ⟨by simp, by simp, ⟨k, hk.1, hk.2, by simp [ek]⟩, ⟨d, hd, by simp, by simp⟩, by simp, by simp⟩⟩
        · have := z5 i (by omega)
          simp only [sI1]
          simp only [q, and_false, if_false]
          simpa using this
  · rw [doll_C0 hT hx, bnd_some, doll_M0 hM hx, bnd_some]
    exact bs hcp _ rfl rfl
theorem s_out (h : Cp C M) (v : Int32) : both C M (f_X9_out v C) (f_X10_out v M) := by
  unfold f_X10_out
  refine both_s h ?_
  intro N T L W nu M' hq
  have hcp : Cp C M' := ⟨N, T, L, W, nu, hq⟩
  unfold f_X9_out
  obtain ⟨hTp, hF, ⟨hT, hM, hI⟩, ⟨hR, hR', hok⟩, hIm, hU, ⟨z, hz, z1, z2, z3, z4, z5⟩, hNu, h43, h44⟩ := id hq
  have hnd := hI.2.1
  by_cases a1 : v < 0
  · rw [if_pos a1, if_pos a1]; exact bs hcp _ rfl rfl
  rw [if_neg a1, if_neg a1, z1, z2]
  by_cases a2 : v < nI z
  · rw [if_pos a2, if_neg (Int32.not_le.mpr a2)]
    obtain ⟨j, hj31, rfl⟩ := nI_of a1
    have hj : j < z := (nI_ltI hj31 (by omega)).mp a2
    unfold f_X2_addStrike
    rw [z1]
    by_cases h24 : z = 24
    · subst h24
      rw [if_neg (by decide), if_pos (by decide)]; exact bs hcp _ rfl rfl
    · have hz' : z < 24 := by omega
      rw [if_pos (show nI z < 24 from nI_lt (b := 24) hz' (by omega)), if_neg (show ¬ nI z = 24 from fun e => h24 ((nI_eq (by omega) (by omega)).mp (show nI z = nI 24 from e)))]
      have cls : wp ((wr C 78 24 (nI z) (nI j)).bind fun S20 => nxt (sI S20 77 0 ((S20.1 77 0) + (1 : Int32))) fun S28 => some (((S28.1 77 0) - (1 : Int32)), S28)) (fun q => q.1 = nI z ∧ q.2 = sI (sI C 78 z (nI j)) 77 0 (nI (z + 1))) := by
        refine wp_wr z rfl hz' ?_
        refine wp_nxt ?_
        rw [show (sI C 78 z (nI j)).1 77 0 + 1 = nI (z + 1) by rw [sI_off (by omega), z1, nI_1]]
        refine wp_some ⟨?_, rfl⟩
        rw [sI1, if_pos ⟨rfl, rfl⟩]
        exact nI_pred z
      refine wp_bnd cls ?_
      rintro r C1 ⟨hr, hC1⟩
      simp only at hr hC1
      subst hr
      refine wp_some ?_
      refine wp_wr z rfl hz' ?_
      refine wp_nxt ?_
      rw [show (sI M' 32 z (nI j)).1 0 50 + 1 = nI (z + 1) by rw [sI_off (by omega), z2, nI_1]]
      refine wp_some ⟨?_, note_mk hq (fun c i q => ?_) (by rw [hC1]; rfl) (fun c i q1 q2 => ?_) ⟨z + 1, by omega, ?_, ?_, ?_, ?_, fun i hi => ?_⟩⟩
      · rw [sI1, if_pos ⟨rfl, rfl⟩]
        exact (nI_pred z).symm
      · rw [hC1, sI_off (by omega), sI_off (by omega)]
      · rw [sI1, if_neg (by omega), sI_off (by omega)]
      · rw [hC1, sI1, if_pos ⟨rfl, rfl⟩]
      · rw [sI1, if_pos ⟨rfl, rfl⟩]
      · rw [hC1, sI1, if_neg (by omega), sI_off (by omega), sI1, if_neg (by omega), sI_off (by omega)]
        exact z3
      · rw [hC1, sI1, if_neg (by omega), sI_off (by omega)]
        rcases z4 with q | ⟨j, hj, q⟩
        · exact Or.inl q
        · exact Or.inr ⟨j, by omega, q⟩
      · rw [hC1]
        by_cases q : i = z
        · subst q
          simp only [sI1]
          exact ⟨by simp, Or.inl ⟨j, hj, by simp⟩⟩
        · have := z5 i (by omega)
          simp only [sI1]
          simp only [q, and_false, if_false]
          simpa using this
  · rw [if_neg a2, if_pos (Int32.not_lt.mp a2)]; exact bs hcp _ rfl rfl
theorem s_known (h : Cp C M) (v : Int32) : both C M (f_X9_known v C) (f_X10_known v M) := by
  unfold f_X10_known
  refine both_s h ?_
  intro N T L W nu M' hq
  have hcp : Cp C M' := ⟨N, T, L, W, nu, hq⟩
  unfold f_X9_known
  obtain ⟨hTp, hF, ⟨hT, hM, hI⟩, ⟨hR, hR', hok⟩, hIm, hU, ⟨z, hz, z1, z2, z3, z4, z5⟩, hNu, h43, h44⟩ := id hq
  by_cases a1 : v < -1
  · rw [if_pos a1, if_pos a1]; exact bs hcp _ rfl rfl
  rw [if_neg a1, if_neg a1, z1, z2]
  by_cases a2 : v ≤ nI z
  · rw [if_pos a2, if_pos a2]
    refine wp_nxt (wp_some (wp_nxt (wp_some ⟨rfl, note_mk hq (fun c i q => ?_) rfl (fun c i q1 q2 => ?_) ⟨z, hz, ?_, ?_, ?_, ?_, fun i hi => ?_⟩⟩)))
    · rw [sI_off (by omega)]
    · rw [sI1, if_neg (by omega)]
    · rw [sI1, if_neg (by omega)]; exact z1
    · rw [sI1, if_neg (by omega)]; exact z2
    · rw [sI1, if_pos ⟨rfl, rfl⟩, sI1, if_pos ⟨rfl, rfl⟩]
    · rw [sI1, if_pos ⟨rfl, rfl⟩]
      by_cases q : v < 0
      · refine Or.inl ?_
        rw [Int32.lt_iff_toInt_lt] at a1 q
        apply Int32.toInt_inj.mp
        have e0 : (0 : Int32).toInt = 0 := rfl
        have e1 : (-1 : Int32).toInt = -1 := rfl
        rw [e0] at q
        rw [e1] at a1 ⊢
        omega
      · obtain ⟨j, hj31, rfl⟩ := nI_of q
        exact Or.inr ⟨j, (nI_leI hj31 (by omega)).mp a2, rfl⟩
    · have := z5 i hi
      rw [sI_off (by omega), sI_off (by omega), sI_off (by omega), sI_off (by omega), sI_off (by omega), sI_off (by omega), sI_off (by omega), sI_off (by omega), sI_off (by omega), sI_off (by omega)]
      exact this
  · rw [if_neg a2, if_neg a2]; exact bs hcp _ rfl rfl
end NOT
