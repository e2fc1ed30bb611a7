/-! THE LAW 6: its loop -/
section LWLP
theorem and63 (x : Int32) : ∃ j, j < 64 ∧ x &&& 63 = nI j := by
  refine ⟨(x &&& 63).toBitVec.toNat, ?_, ?_⟩
  · have h : (x &&& 63).toBitVec = x.toBitVec &&& 63#32 := rfl
    rw [h, BitVec.toNat_and]
    exact Nat.lt_of_le_of_lt Nat.and_le_right (by decide)
  · apply Int32.toBitVec_inj.mp
    show _ = BitVec.ofNat 32 _
    rw [BitVec.ofNat_toNat, BitVec.setWidth_eq]
theorem sub6 {L i : Nat} (hL : L ≤ 3072) (hi : i ≤ 4000) : Int32.ofNat L - 6 < nI i ↔ L < i + 6 := by
  have h1 : (Int32.ofNat L).toInt = (L : Int) := nI_toInt (n := L) (by omega)
  have h2 : (6 : Int32).toInt = 6 := by decide
  have h3 : (Int32.ofNat L - 6).toInt = (L : Int) - 6 := by
    rw [Int32.toInt_sub, h1, h2, Int.bmod_def]
    split <;> omega
  rw [Int32.lt_iff_toInt_lt, h3, nI_toInt (by omega)]
  omega
variable {X : XT} {lc lm : Nat → Nat} {q k n b L i : Nat} {xs : Nat → Int32} {C M : Mem} {o : Nat → Int64} {ls ls' : List (Nat × Value)} {stk : List Value}
theorem lw_widen {Y : XT} {pc k' n' : Nat} (h1 : k ≤ k') (h2 : n ≤ n') (kk : LW Y lc lm q k' n' pc ls stk C M o) : LW Y lc lm q k n pc ls stk C M o := by
  obtain ⟨p, l, e, R, s, m, args, below, meth, c, Q, A, G, cA, nL⟩ := Y
  intro H locs la hP hD hS hl
  exact W.widen h1 h2 (kk H locs la hP hD hS hl)
theorem lw_in (hX : LC X lc lm b L xs) {j : Nat} {off : Int} {tgt : Nat} (hj : j ≤ 38) (ho : (#[172, 245, 270, 295, 332, 400, 437, 474, 499, 537, 562, 599, 636, 661, 686, 735, 748, 761, 810, 847, 896, 909, 934, 984, 1033, 1046, 1059, 1096, 1121, 1146, 1223, 1248, 1273, 1298, 1347, 1396, 1409, 1422, 1435] : Array Int)[j]? = some off) (ht : (40 : Int) + off = (tgt : Int)) (kk : LW X lc lm q k n tgt ls stk C M o) : LW X lc lm q k n 40 ls (.int (nI j) :: stk) C M o := by
  obtain ⟨p, l, e, R, s, m, args, below, meth, c, Q, A, G, cA, nL⟩ := X
  obtain ⟨hx, hb, hml, hR, hown, hts, hK, hA, hE, hE2, hsx, hbl, hbA⟩ := hX
  intro H locs la hP hD hS hl
  have h1 : (nI j).toInt = (j : Int) := nI_toInt (by omega)
  exact lv_tableIn hx hb dL_law_40 (by rw [h1]; omega) (by rw [h1]; omega) (by rw [h1]; simpa using ho) ht (kk H locs la hP hD hS hl)
theorem lw_dflt (hX : LC X lc lm b L xs) {j : Nat} (hj : 38 < j) (hj2 : j < 64) (kk : LW X lc lm q k n 1500 ls stk C M o) : LW X lc lm q k n 40 ls (.int (nI j) :: stk) C M o := by
  obtain ⟨p, l, e, R, s, m, args, below, meth, c, Q, A, G, cA, nL⟩ := X
  obtain ⟨hx, hb, hml, hR, hown, hts, hK, hA, hE, hE2, hsx, hbl, hbA⟩ := hX
  intro H locs la hP hD hS hl
  have h1 : (nI j).toInt = (j : Int) := nI_toInt (by omega)
  exact lv_tableOut (tgt := 1500) hx hb dL_law_40 (by rw [h1]; omega) (by decide) (kk H locs la hP hD hS hl)
theorem lw_head (hX : LC X lc lm b L xs) (hL : L ≤ 3072) (hi : i ≤ 4000) (k1 : L < i + 6 → LW X lc lm q k n 1506 (lsL b lc lm q i) [] C M o) (k2 : i + 6 ≤ L → ∀ j, j < 64 → LW X lc lm q k n 40 (lsL b lc lm q i) [.int (nI j)] C M o) : LW X lc lm q k n 23 (lsL b lc lm q i) [] C M o := by
  obtain ⟨p, l, e, R, s, m, args, below, meth, c, Q, A, G, cA, nL⟩ := X
  obtain ⟨hx, hb, hml, hR, hown, hts, hK, hA, hE, hE2, hsx, hbl, hbA⟩ := hX
  intro H locs la hP hD hS hl
  refine lv_iload hx hb dL_law_23 (lv_at hl 4 rfl) ?_
  refine lv_aload_n hx hb dL_law_25 (show ((0 : Fin 4) : Nat) = 0 from rfl) (lv_at hl 0 rfl) ?_
  refine va_slen hx hb hsx hbl hbA hS dL_law_26 ?_
  refine lv_bipush (v := 6) hx hb dL_law_27 (by decide) ?_
  refine lv_isub hx hb dL_law_29 ?_
  refine lv_icmp_gt (tgt := 1506) hx hb dL_law_30 (by decide) (fun h => ?_) (fun h => ?_)
  · exact k1 ((sub6 hL hi).mp h) H locs la hP hD hS hl
  · have hi2 : i + 6 ≤ L := Nat.not_lt.mp (fun g => h ((sub6 hL hi).mpr g))
    refine lv_aload_n hx hb dL_law_33 (show ((0 : Fin 4) : Nat) = 0 from rfl) (lv_at hl 0 rfl) ?_
    refine lv_iload hx hb dL_law_34 (lv_at hl 4 rfl) ?_
    refine va_sld hx hb hsx hbl hbA hS (inb_in (inb_nI (by omega) (by omega))) dL_law_36 ?_
    refine lv_bipush (v := 63) hx hb dL_law_37 (by decide) ?_
    refine lv_iand hx hb dL_law_39 ?_
    obtain ⟨j, hj, ej⟩ := and63 (xs (nI i).toNatClampNeg)
    rw [ej]
    exact k2 hi2 j hj H locs la hP hD hS hl
theorem lw_next (hX : LC X lc lm b L xs) (kk : LW X lc lm q k n 23 (lsL b lc lm q (i + 6)) [] C M o) : LW X lc lm q k n 1500 (lsL b lc lm q i) [] C M o := by
  obtain ⟨p, l, e, R, s, m, args, below, meth, c, Q, A, G, cA, nL⟩ := X
  obtain ⟨hx, hb, hml, hR, hown, hts, hK, hA, hE, hE2, hsx, hbl, hbA⟩ := hX
  intro H locs la hP hD hS hl
  refine lv_iinc (k := 4) (lv' := [(4, .int (nI (i + 6))), (0, .ref b), (1, .ref (lc 0)), (2, .ref (lm 0)), (3, .ref q)]) hx hb dL_law_1500 hl rfl (nI_add i 6) (by decide) rfl (fun la' hl' => ?_)
  refine lv_goto (tgt := 23) hx hb dL_law_1503 (by decide) ?_
  exact kk H locs la' hP hD hS (lv_sub hl' [1, 2, 3, 4, 0] rfl)
theorem L_loop (hX : LC X lc lm b L xs) (hXD : LD X) (hL : L ≤ 3072) (kend : ∀ k n i C M o, k ≤ 10000 → n ≤ 100000 → LW X lc lm q k n 1506 (lsL b lc lm q i) [] C M o) :
    ∀ (f i k n : Nat) (C M : Mem) (o : Nat → Int64), L < i + f → i ≤ L + 5 → k ≤ 1000 + i → n ≤ 20000 + i → Cp C M → LW X lc lm q k n 23 (lsL b lc lm q i) [] C M o := by
  intro f
  induction f with
  | zero =>
    intro i k n C M o hf hi hk hn hC
    exact lw_head hX hL (by omega) (fun _ => kend _ _ _ _ _ _ (by omega) (by omega)) (fun h => by omega)
  | succ f ih =>
    intro i k n C M o hf hi hk hn hC
    refine lw_head hX hL (by omega) (fun _ => kend _ _ _ _ _ _ (by omega) (by omega)) (fun h6 j hj => ?_)
    have nx : ∀ k' n' C' M' o', k' ≤ 1000 + (i + 6) → n' ≤ 20000 + (i + 6) → Cp C' M' → LW X lc lm q k' n' 1500 (lsL b lc lm q i) [] C' M' o' := fun k' n' C' M' o' h1 h2 h3 => lw_next hX (ih (i + 6) k' n' C' M' o' (by omega) (by omega) h1 h2 h3)
    have nk : ∀ C' M', Cp C' M' → LW X lc lm q k n 1500 (lsL b lc lm q i) [] C' M' o := fun C' M' h => nx _ _ _ _ _ (by omega) (by omega) h
    have hk' : k ≤ 601024 := by omega
    have hn' : n ≤ 7293034 := by omega
    have hc : j = 0 ∨ j = 1 ∨ j = 2 ∨ j = 3 ∨ j = 4 ∨ j = 5 ∨ j = 6 ∨ j = 7 ∨ j = 8 ∨ j = 9 ∨ j = 10 ∨ j = 11 ∨ j = 12 ∨ j = 13 ∨ j = 14 ∨ j = 15 ∨ j = 16 ∨ j = 17 ∨ j = 18 ∨ j = 19 ∨ j = 20 ∨ j = 21 ∨ j = 22 ∨ j = 23 ∨ j = 24 ∨ j = 25 ∨ j = 26 ∨ j = 27 ∨ j = 28 ∨ j = 29 ∨ j = 30 ∨ j = 31 ∨ j = 32 ∨ j = 33 ∨ j = 34 ∨ j = 35 ∨ j = 36 ∨ j = 37 ∨ j = 38 ∨ 38 < j := by omega
    rcases hc with rfl | rfl | rfl | rfl | rfl | rfl | rfl | rfl | rfl | rfl | rfl | rfl | rfl | rfl | rfl | rfl | rfl | rfl | rfl | rfl | rfl | rfl | rfl | rfl | rfl | rfl | rfl | rfl | rfl | rfl | rfl | rfl | rfl | rfl | rfl | rfl | rfl | rfl | rfl | hc
    · exact lw_in (tgt := 212) hX (by decide) rfl (by decide) (L_c0 hX h6 hL hC hk' hn' nk)
    · exact lw_in (tgt := 285) hX (by decide) rfl (by decide) (L_c1 hX h6 hL hC hk' hn' nk)
    · exact lw_in (tgt := 310) hX (by decide) rfl (by decide) (L_c2 hX h6 hL hC hk' hn' nk)
    · exact lw_in (tgt := 335) hX (by decide) rfl (by decide) (L_c3 hX h6 hL hC hk' hn' nk)
    · exact lw_in (tgt := 372) hX (by decide) rfl (by decide) (L_c4 hX hXD h6 hL hC (by omega) (by omega) (fun C2 M2 o2 h => nx _ _ _ _ _ (by omega) (by omega) h))
    · exact lw_in (tgt := 440) hX (by decide) rfl (by decide) (L_c5 hX h6 hL hC hk' hn' nk)
    · exact lw_in (tgt := 477) hX (by decide) rfl (by decide) (L_c6 hX h6 hL hC hk' hn' nk)
    · exact lw_in (tgt := 514) hX (by decide) rfl (by decide) (L_c7 hX h6 hL hC hk' hn' nk)
    · exact lw_in (tgt := 539) hX (by decide) rfl (by decide) (L_c8 hX h6 hL hC hk' hn' nk)
    · exact lw_in (tgt := 577) hX (by decide) rfl (by decide) (L_c9 hX h6 hL hC hk' hn' nk)
    · exact lw_in (tgt := 602) hX (by decide) rfl (by decide) (L_c10 hX h6 hL hC hk' hn' nk)
    · exact lw_in (tgt := 639) hX (by decide) rfl (by decide) (L_c11 hX h6 hL hC hk' hn' nk)
    · exact lw_in (tgt := 676) hX (by decide) rfl (by decide) (L_c12 hX h6 hL hC hk' hn' nk)
    · exact lw_in (tgt := 701) hX (by decide) rfl (by decide) (L_c13 hX h6 hL hC hk' hn' nk)
    · exact lw_in (tgt := 726) hX (by decide) rfl (by decide) (L_c14 hX h6 hL hC hk' hn' nk)
    · exact lw_in (tgt := 775) hX (by decide) rfl (by decide) (L_c15 hX h6 hL hC hk' hn' nk)
    · exact lw_in (tgt := 788) hX (by decide) rfl (by decide) (L_c16 hX h6 hL hC hk' hn' nk)
    · exact lw_in (tgt := 801) hX (by decide) rfl (by decide) (L_c17 hX h6 hL hC hk' hn' nk)
    · exact lw_in (tgt := 850) hX (by decide) rfl (by decide) (L_c18 hX h6 hL hC hk' hn' nk)
    · exact lw_in (tgt := 887) hX (by decide) rfl (by decide) (L_c19 hX h6 hL hC hk' hn' nk)
    · exact lw_in (tgt := 936) hX (by decide) rfl (by decide) (L_c20 hX h6 hL hC hk' hn' nk)
    · exact lw_in (tgt := 949) hX (by decide) rfl (by decide) (L_c21 hX h6 hL hC hk' hn' nk)
    · exact lw_in (tgt := 974) hX (by decide) rfl (by decide) (L_c22 hX h6 hL hC hk' hn' nk)
    · exact lw_in (tgt := 1024) hX (by decide) rfl (by decide) (L_c23 hX h6 hL hC hk' hn' nk)
    · exact lw_in (tgt := 1073) hX (by decide) rfl (by decide) (L_c24 hX h6 hL hC hk' hn' nk)
    · exact lw_in (tgt := 1086) hX (by decide) rfl (by decide) (L_c25 hX h6 hL hC hk' hn' nk)
    · exact lw_in (tgt := 1099) hX (by decide) rfl (by decide) (L_c26 hX h6 hL hC hk' hn' nk)
    · exact lw_in (tgt := 1136) hX (by decide) rfl (by decide) (L_c27 hX h6 hL hC hk' hn' nk)
    · exact lw_in (tgt := 1161) hX (by decide) rfl (by decide) (L_c28 hX h6 hL hC hk' hn' nk)
    · exact lw_in (tgt := 1186) hX (by decide) rfl (by decide) (L_c29 hX h6 hL hC hk' hn' nk)
    · exact lw_in (tgt := 1263) hX (by decide) rfl (by decide) (L_c30 hX h6 hL hC hk' hn' nk)
    · exact lw_in (tgt := 1288) hX (by decide) rfl (by decide) (L_c31 hX h6 hL hC hk' hn' nk)
    · exact lw_in (tgt := 1313) hX (by decide) rfl (by decide) (L_c32 hX h6 hL hC hk' hn' nk)
    · exact lw_in (tgt := 1338) hX (by decide) rfl (by decide) (L_c33 hX h6 hL hC hk' hn' nk)
    · exact lw_in (tgt := 1387) hX (by decide) rfl (by decide) (L_c34 hX h6 hL hC hk' hn' nk)
    · exact lw_in (tgt := 1436) hX (by decide) rfl (by decide) (L_c35 hX h6 hL hC hk' hn' nk)
    · exact lw_in (tgt := 1449) hX (by decide) rfl (by decide) (L_c36 hX h6 hL hC hk' hn' nk)
    · exact lw_in (tgt := 1462) hX (by decide) rfl (by decide) (L_c37 hX h6 hL hC hk' hn' nk)
    · exact lw_in (tgt := 1475) hX (by decide) rfl (by decide) (L_c38 hX h6 hL hC hk' hn' nk)
    · exact lw_dflt hX hc hj (nk _ _ hC)
end LWLP
