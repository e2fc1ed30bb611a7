/-! THE LAW 8: rows, texts, throws and classes at its start -/
section STU
variable {args : Array Value} {s : State}
theorem st_l1 : ∀ j, j < 132 → stF[60 + j]? = some (Cond.eq (.elem (stV "DollTruce$Tokens" 66) (.int (Int32.ofNat j))) (.int ((strN strL).getD j 0))) := by decide +kernel
theorem st_l2 : ∀ j, j < 111 → stF[231 + j]? = some (Cond.eq (.elem (stV "DollTruceModel" 167) (.int (Int32.ofNat j))) (.int ((strN strW).getD j 0))) := by decide +kernel
theorem st_r0 : ∀ j, j < 4 → stF[19 + j]? = some (Cond.eq (.elem (.static "DollTruce" "SETTING_LEAST" "[I") (.int (Int32.ofNat j))) (.int (stLeast j))) := by decide +kernel
theorem st_r1 : ∀ j, j < 4 → stF[26 + j]? = some (Cond.eq (.elem (.static "DollTruce" "SETTING_MOST" "[I") (.int (Int32.ofNat j))) (.int (stMost j))) := by decide +kernel
theorem st_r2 : ∀ j, j < 4 → stF[7 + j]? = some (Cond.eq (.elem (.static "DollTruce" "SETTING_UNTOLD" "[I") (.int (Int32.ofNat j))) (.int (stUntold j))) := by decide +kernel
theorem st_g0 {α : Type} (x y d : α) : ([x, y] : List α).getD 0 d = x := rfl
theorem st_g1 {α : Type} (x y d : α) : ([x, y] : List α).getD 1 d = y := rfl
theorem st_b0 : strByt.getD 0 [] = strN strL := by
  unfold strByt
  exact st_g0 _ _ _
theorem st_b1 : strByt.getD 1 [] = strN strW := by
  unfold strByt
  exact st_g1 _ _ _
def stLoc (t0 t1 t2 a0 a1 v0 v1 t5 : Nat) (k : Nat) : Nat := if k = 1000 then t0 else if k = 1001 then t1 else if k = 1002 then t2 else if k = 1010 then a0 else if k = 1011 then a1 else if k = 1020 then v0 else if k = 1021 then v1 else if k = 1030 then t5 else 0
theorem st_Ext (hts : ∀ w ∈ lw_tbl, w.before args s = true) (hg : (Jvm.Cond.and given_1 narrow_1).before args s = true) : ∃ loc, Ext (fun q => s.heap.size ≤ q) loc s s.heap := by
  have hA : ∀ a : Nat, a < s.heap.size → ¬ (fun q : Nat => s.heap.size ≤ q) a := fun a h => Nat.not_le.mpr h
  have iD := hts _ (wt1 1 rfl : Cond.initialized "DollTruce" ∈ lw_tbl)
  obtain ⟨t0, z0, r0⟩ := st_row (f := stLeast) (hts _ (wt3 63 rfl)) iD (st_f hg 17 rfl) (st_f hg 18 rfl) (fun j hj => st_f hg (19 + j) (st_r0 j hj)) hA
  obtain ⟨t1, z1, r1⟩ := st_row (f := stMost) (hts _ (wt3 65 rfl)) iD (st_f hg 24 rfl) (st_f hg 25 rfl) (fun j hj => st_f hg (26 + j) (st_r1 j hj)) hA
  obtain ⟨t2, z2, r2⟩ := st_row (f := stUntold) (hts _ (wt1 110 rfl)) iD (st_f hg 5 rfl) (st_f hg 6 rfl) (fun j hj => st_f hg (7 + j) (st_r2 j hj)) hA
  have z4 := va_Zof (hts _ (wt2 220 rfl)) (hts _ (wt1 13 rfl)) (st_eq (st_f hg 11 rfl)) hA
  have z5 := va_Zqof (hts _ (wt2 236 rfl)) (hts _ (wt1 15 rfl)) (st_f hg 12 rfl) hA
  obtain ⟨a0, v0, s0⟩ := st_str (N := 132) (byt := strN strL) (by decide) (st_f hg 56 rfl) (st_f hg 57 rfl) (st_f hg 58 rfl) (st_f hg 59 rfl) (fun j hj => st_f hg (60 + j) (st_l1 j hj)) hA
  obtain ⟨a1, v1, s1⟩ := st_str (N := 111) (byt := strN strW) (by decide) (st_f hg 227 rfl) (st_f hg 228 rfl) (st_f hg 229 rfl) (st_f hg 230 rfl) (fun j hj => st_f hg (231 + j) (st_l2 j hj)) hA
  have hap : a0 ≠ a1 := st_apart s0 s1 (by decide)
  have g0 : vk_R "DollTruce$Tokens" 66 strL a0 s := vk_R.of (hts _ (wt2 210 rfl)) s0.1
  have g1 : vk_R "DollTruceModel" 167 strW a1 s := vk_R.of (hts _ (wt6 138 rfl)) s1.1
  have gE : EN s := fun w hw => va_Nw.of (st_nt w hw) (hts w (st_nw w hw))
  have gA : va_AO "DollTruce$Law" s := va_AO.of (hts _ (wt1 82 rfl))
  obtain ⟨t5, z6⟩ : ∃ t5, va_Z "jdk/internal/util/Preconditions" "SIOOBE_FORMATTER" "Ljava/util/function/BiFunction;" .null (fun q : Nat => s.heap.size ≤ q) s s.heap ∨ va_Z "jdk/internal/util/Preconditions" "SIOOBE_FORMATTER" "Ljava/util/function/BiFunction;" (.ref t5) (fun q : Nat => s.heap.size ≤ q) s s.heap := by
    rcases z5 with h | ⟨t, h⟩
    · exact ⟨0, Or.inl h⟩
    · exact ⟨t, Or.inr h⟩
  have hS : vk_S 2 strLen strByt (fun i => stLoc t0 t1 t2 a0 a1 v0 v1 t5 (1010 + i)) (fun i => stLoc t0 t1 t2 a0 a1 v0 v1 t5 (1020 + i)) (fun q : Nat => s.heap.size ≤ q) s s.heap := by
    refine ⟨fun i hi => ?_, fun i j hi hj h => ?_⟩
    · have : i = 0 ∨ i = 1 := by omega
      rcases this with rfl | rfl
      · rw [st_b0, show strLen.getD 0 0 = 132 from rfl]
        exact s0.2
      · rw [st_b1, show strLen.getD 1 0 = 111 from rfl]
        exact s1.2
    · have h1 : i = 0 ∨ i = 1 := by omega
      have h2 : j = 0 ∨ j = 1 := by omega
      rcases h1 with rfl | rfl <;> rcases h2 with rfl | rfl
      · rfl
      · exact absurd h hap
      · exact absurd (Eq.symm h) hap
      · rfl
  exact ⟨stLoc t0 t1 t2 a0 a1 v0 v1 t5, z0, r0, z1, r1, z2, r2, z4, z6, hS, g0, g1, gE, gA⟩
theorem st_ExD (hts : ∀ w ∈ lw_tbl, w.before args s = true) (hg : (Jvm.Cond.and given_1 narrow_1).before args s = true) : ExD (fun q => s.heap.size ≤ q) s s.heap := by
  have hA : ∀ a : Nat, a < s.heap.size → ¬ (fun q : Nat => s.heap.size ≤ q) a := fun a h => Nat.not_le.mpr h
  have iT := hts _ (wt1 17 rfl : Cond.initialized "java/lang/Throwable" ∈ lw_tbl)
  obtain ⟨a0, h0⟩ := st_ref (st_f hg 192 rfl)
  obtain ⟨a1, h1⟩ := st_ref (st_f hg 209 rfl)
  exact ⟨fun w hw => va_Nw.of (ex_t w hw) (hts w (st_ex w hw)), vx_Zqof (hts _ (wt5 103 rfl)) iT (st_f hg 30 rfl) hA, vx_Zqof (hts _ (wt5 105 rfl)) iT (st_f hg 31 rfl) hA, ⟨a0, vk_R.of (hts _ (wt5 116 rfl)) h0⟩, ⟨a1, vk_R.of (hts _ (wt5 151 rfl)) h1⟩, va_Nc.of (st_f hg 43 rfl)⟩
theorem st_K (hts : ∀ w ∈ lw_good, w.before args s = true) (hq : va_AO "DollTruce$Law" s) : ∃ (G : va_G) (cA : Nat → ClassId), va_K G vwCl (tysOf cA) s := by
  obtain ⟨c0, i0, k0⟩ := u_known (C := RX0) (T := TX0) (N := 4) (n := 4) hts inGX0 (hts _ (wg2 87 rfl rfl))
  obtain ⟨c1, i1, k1⟩ := u_known (C := RX1) (T := TX1) (N := 4) (n := 4) hts inGX1 (hts _ (wg1 83 rfl rfl))
  obtain ⟨c2, i2, k2⟩ := u_known (C := RX2) (T := TX2) (N := 8) (n := 8) hts inGX2 (hts _ (wg2 54 rfl rfl))
  obtain ⟨c3, i3, k3⟩ := u_known (C := RX3) (T := TX3) (N := 8) (n := 8) hts inGX3 (hts _ (wg2 107 rfl rfl))
  obtain ⟨c4, i4, k4⟩ := u_known (C := RX4) (T := TX4) (N := 9) (n := 9) hts inGX4 (hts _ (wg1 48 rfl rfl))
  obtain ⟨c5, i5, k5⟩ := u_known (C := RX5) (T := TX5) (N := 2) (n := 2) hts inGX5 (hts _ (wg1 32 rfl rfl))
  obtain ⟨c6, i6, k6⟩ := u_known (C := RX6) (T := TX6) (N := 4) (n := 4) hts inGX6 (hts _ (wg1 54 rfl rfl))
  obtain ⟨c7, i7, k7⟩ := u_known (C := RX7) (T := TX7) (N := 15) (n := 15) hts inGX7 (hts _ (wg1 76 rfl rfl))
  obtain ⟨c8, i8, k8⟩ := u_known (C := RX8) (T := TX8) (N := 13) (n := 13) hts inGX8 (hts _ (wg1 231 rfl rfl))
  obtain ⟨c9, i9, k9⟩ := u_known (C := RX9) (T := TX9) (N := 10) (n := 10) hts inGX9 (hts _ (wg1 24 rfl rfl))
  obtain ⟨c10, i10, k10⟩ := u_known (C := RX10) (T := TX10) (N := 58) (n := 58) hts inGX10 (hts _ (wg5 159 rfl rfl))
  obtain ⟨a0, b0, e0⟩ := st_arr (hts _ (wg1 46 rfl rfl : Cond.arrayClass .int ∈ lw_good))
  obtain ⟨a1, b1, e1⟩ := st_arr (hts _ (wg1 103 rfl rfl : Cond.arrayClass .boolean ∈ lw_good))
  obtain ⟨a2, b2, e2⟩ := st_arr (hts _ (wg1 104 rfl rfl : Cond.arrayClass .long ∈ lw_good))
  obtain ⟨a3, b3, e3⟩ := st_arq hq
  refine ⟨(fun k => ([c0, c1, c2, c3, c4, c5, c6, c7, c8, c9, c10] : List ClassId).getD k c0, fun k => ([i0, i1, i2, i3, i4, i5, i6, i7, i8, i9, i10] : List (Nat → Nat)).getD k i0), fun k => ([a0, a1, a2, a3] : List ClassId).getD k a0, ?_, ?_⟩
  · intro k q hq
    match k, hq with
    | 0, hq => cases hq; exact k0
    | 1, hq => cases hq; exact k1
    | 2, hq => cases hq; exact k2
    | 3, hq => cases hq; exact k3
    | 4, hq => cases hq; exact k4
    | 5, hq => cases hq; exact k5
    | 6, hq => cases hq; exact k6
    | 7, hq => cases hq; exact k7
    | 8, hq => cases hq; exact k8
    | 9, hq => cases hq; exact k9
    | 10, hq => cases hq; exact k10
    | k + 11, hq => simp [vwCl] at hq
  · intro k q hq
    match k, hq with
    | 0, hq => cases hq; exact ⟨b0, e0⟩
    | 1, hq => cases hq; exact ⟨b1, e1⟩
    | 2, hq => cases hq; exact ⟨b2, e2⟩
    | 3, hq => cases hq; exact ⟨b3, e3⟩
    | k + 4, hq => simp [tysOf] at hq
end STU
