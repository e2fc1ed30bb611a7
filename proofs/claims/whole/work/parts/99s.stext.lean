/-! PURE 68: the text, by both -/
section STX
variable {C C' M M' S S' : Mem} {b : Nat → Nat} {n m i kn ln : Nat} {N : TN} {T : WS} {L : LWS} {mk : Nat → Bool}
theorem clrS_o {c j : Nat} (h : c < 8 ∨ 30 < c) : (clrS 8 S).1 c j = S.1 c j := by
  unfold clrS
  simp only [sI1]
  repeat rw [if_neg (by omega)]
theorem clrS_n {k : Nat} (hk : k < 3) : (clrS 8 S).1 (21 + 3 * k) 1 = 0 := by
  have : k = 0 ∨ k = 1 ∨ k = 2 := by omega
  rcases this with rfl | rfl | rfl <;> simp [clrS, sI1]
theorem clrS_t {s : Nat} (hs : s < 4) : (clrS 8 S).1 19 s = 0 := by
  have : s = 0 ∨ s = 1 ∨ s = 2 ∨ s = 3 := by omega
  rcases this with rfl | rfl | rfl | rfl <;> simp [clrS, sI1]
theorem iniM_v : (iniM S).1 0 15 = 0 ∧ (iniM S).1 0 16 = 0 ∧ (iniM S).1 0 26 = 0 ∧ (iniM S).1 0 27 = 0 := by
  unfold iniM
  refine ⟨?_, ?_, ?_, ?_⟩ <;> simp [sI1]
theorem s_text (h : Cp C M) (v : Int32) : both C M (f_X9_text v C) (f_X10_text v M) := by
  unfold f_X10_text
  refine both_s h ?_
  intro N T L W nu M' hq
  have hcp : Cp C M' := ⟨N, T, L, W, nu, hq⟩
  unfold f_X9_text
  obtain ⟨hTp, hF, ⟨hT, hM, hI⟩, ⟨hR, hR', ⟨hW, hnu⟩⟩, hIm, hU, hNo, hNu, h43, h44⟩ := hq
  have hnd := hI.2.1
  obtain ⟨n0, hn0, t1, t2, t3⟩ := hTp
  by_cases a1 : v < 0
  · rw [if_pos a1, if_pos a1]; exact bs hcp _ rfl rfl
  rw [if_neg a1, if_neg a1, t1, t2]
  by_cases a2 : v ≤ nI n0
  · rw [if_pos a2, if_pos a2]
    obtain ⟨n, hn1, rfl⟩ := nI_of2 (M := nI n0) (n := n0) (nI_toInt (by omega)) a1 a2
    have hn : n ≤ 700 := by omega
    obtain ⟨b, hb⟩ : ∃ b : Nat → Nat, ∀ i, i < n → b i < 256 ∧ C.1 2 i = nI (b i) ∧ M'.1 1 i = nI (b i) := by
      refine ⟨fun i => if h : i < n0 then (t3 i h).choose else 0, fun i hi => ?_⟩
      have h : i < n0 := by omega
      simp only [dif_pos h]
      exact (t3 i h).choose_spec
    have hb2 : ∀ i, i < n → b i < 256 := fun i hi => (hb i hi).1
    obtain ⟨S1, e1, r1⟩ := cut_C (C := C) (b := b) (n := n) (fun i hi => (hb i hi).2.1) hb2 hn
    have hfr : frK C S1 := r1.choose_spec.2.2.2.2.2.2
    obtain ⟨m, r2⟩ := tkC_of r1
    have hmn : m ≤ n := r2.1
    rw [e1, Option.bind_some, nxt_eq]
    unfold f_X4_readLines
    rw [clr_eq, Option.bind_some, nxt_eq, nxt_eq, nxt_eq, nxt_eq, nxt_eq, nxt_eq, nxt_eq, nxt_eq, t47_all]
    generalize hC3 : sI (sI (sI (clrS 8 (sI S1 1 1 0)) 3 5 0) 3 2 0) 3 3 (-1) = C3
    generalize hM1 : sI (sI (sI (sI (sI M' 0 17 (nI n)) 0 2 0) 0 18 0) 0 22 0) 0 23 (-1) = M1
    have c3e : ∀ c j, (c < 3 ∨ 30 < c) → ¬ (c = 1 ∧ j = 1) → C3.1 c j = C.1 c j := fun c j q1 q2 => by
      rw [← hC3, sI1, if_neg (by omega), sI1, if_neg (by omega), sI1, if_neg (by omega), clrS_o (by omega), sI1, if_neg (by omega)]
      exact hfr.1 c j (by omega) (by omega) (by omega) (by omega)
    have c311 : C3.1 1 1 = 0 := by
      rw [← hC3, sI1, if_neg (by omega), sI1, if_neg (by omega), sI1, if_neg (by omega), clrS_o (by omega), sI1, if_pos ⟨rfl, rfl⟩]
    have c3s : C3.2 = C.2 := by
      rw [← hC3]; exact hfr.2
    have c30 : ∀ c j, c ≠ 3 → C3.1 c j = (clrS 8 (sI S1 1 1 0)).1 c j := fun c j q => by
      rw [← hC3, sI1, if_neg (by omega), sI1, if_neg (by omega), sI1, if_neg (by omega)]
    have m1e : ∀ c j, ¬ (c = 0 ∧ (j = 17 ∨ j = 2 ∨ j = 18 ∨ j = 22 ∨ j = 23)) → M1.1 c j = M'.1 c j := fun c j q => by
      rw [← hM1, sI1, if_neg (by omega), sI1, if_neg (by omega), sI1, if_neg (by omega), sI1, if_neg (by omega), sI1, if_neg (by omega)]
    have hCs : RSc C3 b n m 0 N00 T00 L00 (fun _ => false) := by
      refine ⟨?_, ?_, Nat.zero_le _, TC_to clr_TC (fun c a1 a2 => funext fun j => c30 (c - 23) j (by omega)), fun k hk _ => ?_, fun s hs => ?_, ?_, ?_⟩
      · exact tkC_to r2 (fun c j hc => by rw [c30 c j (by omega), clrS_o (by omega), sI1, if_neg (by omega)])
      · rw [← hC3]; simp [sI1]; rfl
      · rw [c30 _ _ (by omega)]; exact clrS_n hk
      · rw [c30 _ _ (by omega)]; exact clrS_t hs
      · rw [← hC3]; simp [sI1]
      · rw [← hC3]; simp [sI1]
    have hTP : TP (iniM M1) b n := by
      refine ⟨?_, fun i hi => ?_⟩
      · rw [iniM_o (by omega) (by omega) (by omega), ← hM1]; simp [sI1]
      · rw [iniM_o (by omega) (by omega) (by omega), m1e _ _ (by omega)]; exact (hb i hi).2.2
    have h18 : (iniM M1).1 0 18 = nI 0 := by
      rw [iniM_o (by omega) (by omega) (by omega), ← hM1]; simp [sI1]; rfl
    obtain ⟨M2, e2, x1, x2, x3, x4⟩ := token_M hTP hb2 hn (Nat.zero_le n) h18
    have x4e : ∀ c j, ¬ (c = 0 ∧ 18 ≤ j ∧ j ≤ 21) → M2.1 c j = (iniM M1).1 c j := x4
    obtain ⟨v15, v16, v26, v27⟩ := iniM_v (S := M1)
    have hMs : RSm M2 b n 0 N00 T00 L00 (fun _ => false) 0 0 := by
      refine ⟨⟨TP_q hTP x4, x1, x2, x3⟩, ?_, ?_, ?_, ?_, TM_to ini_TM (fun c j a1 a2 => x4e c _ (by omega)), fun s hs => ?_, fun k hk => ?_, ?_, fun q hq l hL => (by cases hL)⟩
      · rw [x4e _ _ (by omega), iniM_o (by omega) (by omega) (by omega), ← hM1]; simp [sI1]
      · rw [x4e _ _ (by omega), iniM_o (by omega) (by omega) (by omega), ← hM1]; simp [sI1]
      · rw [x4e _ _ (by omega)]; exact v26
      · rw [x4e _ _ (by omega)]; exact v27
      · rw [x4e _ _ (by omega), v15]; exact bt_z _
      · rw [x4e _ _ (by omega), v15]; exact bt_z _
      · rw [x4e _ _ (by omega)]; exact v16
    have m2e : ∀ c j, ¬ rM c j → ¬ (c = 0 ∧ (j = 17 ∨ j = 2)) → M2.1 c j = M'.1 c j := fun c j q1 q2 => by
      unfold rM at q1
      rw [x4e c j (by omega), iniM_o (by omega) (by omega) (by omega), m1e c j (by omega)]
    have m22 : M2.1 0 2 = 0 := by rw [x4e _ _ (by omega), iniM_o (by omega) (by omega) (by omega), ← hM1]; simp [sI1]
    rw [e2, Option.bind_some]
    have fu : FU = 2000 := rfl
    have hL := lines_R hb2 hn hmn m 0 C3 M2 0 N00 T00 L00 (fun _ => false) 0 FU FU (by omega) hCs hMs ⟨TI00, rfl, by omega⟩ (by omega) (by omega) (by omega)
    rcases hL with ⟨C4, M4, i4, l4, N4, T4, L4, mk4, kn4, y1, y2, y3, y4, y5, y6, y7, y8⟩ | ⟨C4, M4, y1, y2, y3, y4, y5⟩
    · have y1 : f_X4_readLines_24 FU 0 C3 = some (nI l4, C4) := y1
      have nm : ¬ nI l4 = -1 := fun e => by
        have : ¬ nI l4 < 0 := Int32.not_lt.mpr (nI_le (a := 0) (by omega) (by omega))
        exact this (by rw [e]; decide)
      rw [y1, bnd_some, if_neg nm, y3]
      obtain ⟨C5, z1, z2, z3, z4⟩ := take_T y4 y6.1
      obtain ⟨C6, w1, w2, w3⟩ := begin_C (w := 53) (Or.inl rfl) z2 y6.1
      rw [z1, Option.bind_some, w1, Option.bind_some]
      unfold f_X2_clear
      rw [nxt_eq, nxt_eq, Option.bind_some, nxt_eq, settle_C, Option.bind_some]
      obtain ⟨M5, u1, u2, u3, u4, u5, u6, u7, u8, u9, u10⟩ := text_ok y5.2.1 y5.2.2.2.2.2.1 y6.1
      refine wp_some ?_
      rw [u1]
      refine wp_some ⟨y5.2.2.2.2.2.2.2.2.1.symm, N4, T4, L4, W0 N4 T4, (fun d => N4 5 d), ?_⟩
      generalize hC7 : sI (sI (sI (sI (sI C6 77 0 0) 77 1 (-1)) 0 9 0) 84 0 0) 88 3 (-1) = C7
      have c7e : ∀ c j, ¬ (c = 77 ∧ (j = 0 ∨ j = 1)) → ¬ (c = 0 ∧ j = 9) → ¬ (c = 84 ∧ j = 0) → ¬ (c = 88 ∧ j = 3) → C7.1 c j = C6.1 c j := fun c j q1 q2 q3 q4 => by
        rw [← hC7, sI1, if_neg (by omega), sI1, if_neg (by omega), sI1, if_neg (by omega), sI1, if_neg (by omega), sI1, if_neg (by omega)]
      refine ⟨⟨0, by omega, ?_, ?_, fun i hi => absurd hi (Nat.not_lt_zero i)⟩, ⟨?_, ?_⟩, ⟨TC_to z2 (fun c a1 a2 => funext fun j => ?_), u2, y6.1⟩, ⟨RC_to w2 (fun c j q1 q2 _ => c7e c j (by omega) (by omega) (by omega) (by omega)) (by rw [← hC7]; rfl), u3, W0_I y6.1, fun d hd => (y6.1.2.2.2.1 d hd).1⟩, Or.inl ⟨?_, u8⟩, pUndo_0 ?_ u9, ⟨0, by omega, ?_, u6, ?_, Or.inl ?_, fun i hi => absurd hi (Nat.not_lt_zero i)⟩, Or.inl ?_, ?_, ?_⟩
      · rw [c7e _ _ (by omega) (by omega) (by omega) (by omega), w3.1 1 (by omega), z3 _ _ (by omega), y7.1 _ _ (by omega) (by omega)]; exact c311
      · rw [u10 2 (by omega), y8 0 2 (by unfold rM; omega)]; exact m22
      · rw [c7e _ _ (by omega) (by omega) (by omega) (by omega), w3.1 3 (by omega), z3 _ _ (by omega), u4, y5.2.1]; exact y4.2.2.2.2.2.2.1
      · rw [c7e _ _ (by omega) (by omega) (by omega) (by omega), w3.1 3 (by omega), z3 _ _ (by omega), u5, y5.2.2.1]; exact y4.2.2.2.2.2.2.2
      · rw [c7e _ _ (by omega) (by omega) (by omega) (by omega), w3.1 c (by omega)]
      · rw [← hC7]; simp [sI1]
      · rw [← hC7]; simp [sI1]
      · rw [← hC7]; simp [sI1]; rfl
      · rw [u7, ← hC7]; simp [sI1]
      · rw [← hC7]; simp [sI1]
      · rw [← hC7]; simp [sI1]
      · rw [u10 43 (by omega), y8 0 43 (by unfold rM; omega), m2e 0 43 (by unfold rM; omega) (by omega)]; exact h43
      · rw [u10 44 (by omega), y8 0 44 (by unfold rM; omega), m2e 0 44 (by unfold rM; omega) (by omega)]; exact h44
    · have y1 : f_X4_readLines_24 FU 0 C3 = some (-1, C4) := y1
      rw [y1, bnd_some, if_pos rfl, y2, text_w y3.2.2]
      refine wp_some (wp_some ⟨rfl, N, T, L, W, nu, ?_⟩)
      generalize hM5 : sI (sI M4 0 24 (M4.1 0 22)) 0 25 (M4.1 0 23) = M5
      have m5e : ∀ c j, ¬ rM c j → ¬ (c = 0 ∧ (j = 17 ∨ j = 2 ∨ j = 24 ∨ j = 25)) → M5.1 c j = M'.1 c j := fun c j q1 q2 => by
        rw [← hM5, sI1, if_neg (by omega), sI1, if_neg (by omega), y5 c j q1, m2e c j q1 (by omega)]
      have c4e : ∀ c j, (c < 3 ∨ 30 < c) → ¬ (c = 1 ∧ j = 1) → C4.1 c j = C.1 c j := fun c j q1 q2 => by
        rw [y4.1 c j (by omega) (by omega), c3e c j q1 q2]
      have c4s : C4.2 = C.2 := y4.2.trans c3s
      refine ⟨⟨0, by omega, ?_, ?_, fun i hi => absurd hi (Nat.not_lt_zero i)⟩, ⟨?_, ?_⟩, ⟨TC_to hT (fun c a1 a2 => funext fun j => c4e c j (by omega) (by omega)), TM_lim hM hI (fun c j q1 q2 q3 => m5e c j (fun z => ?_) (by omega)), hI⟩, ⟨RC_to hR (fun c j q1 q2 _ => c4e c j (by omega) (by omega)) (by rw [c4s]), RM_to hR' hnd (fun c j q => m5e c j (by unfold chC at q; unfold rM; omega) (by unfold chC at q; omega)), hW, hnu⟩, pImg_to hnd hIm (c4e _ _ (by omega) (by omega)) (fun c j q1 q2 => c4e c j (by omega) (by omega)) (by rw [c4s]) (m5e _ _ (by unfold rM; omega) (by omega)) (fun c j q => m5e c j (by unfold chC at q; unfold rM; omega) (by unfold chC at q; omega)), pUndo_to hnd hU (fun c j q1 q2 => c4e c j (by omega) (by omega)) (m5e _ _ (by unfold rM; omega) (by omega)) (fun t c j q1 q2 q => m5e c j (by unfold chC at q; unfold rM; omega) (by unfold chC at q; omega)), pNotes_to hNo (fun c j q1 q2 => c4e c j (by omega) (by omega)) (fun j hj => m5e _ _ (by unfold rM; omega) (by omega)) (fun c j q1 q2 => m5e _ _ (by unfold rM; omega) (by omega)), pNurs_to hNu (fun c j q1 q2 => c4e c j (by omega) (by omega)), ?_, ?_⟩
      · rw [y4.1 _ _ (by omega) (by omega)]; exact c311
      · rw [← hM5, sI1, if_neg (by omega), sI1, if_neg (by omega), y5 0 2 (by unfold rM; omega)]; exact m22
      · rw [← hM5, sI1, if_neg (by omega), sI1, if_pos ⟨rfl, rfl⟩]; exact y3.1
      · rw [← hM5, sI1, if_pos ⟨rfl, rfl⟩]; exact y3.2.1
      · unfold rM at z
        unfold hlf at q3
        have : c = 2 ∨ c = 3 ∨ c = 4 ∨ c = 5 ∨ c = 6 ∨ c = 7 ∨ c = 8 ∨ c = 9 ∨ c = 10 ∨ c = 11 ∨ c = 12 ∨ c = 13 := by omega
        rcases this with rfl | rfl | rfl | rfl | rfl | rfl | rfl | rfl | rfl | rfl | rfl | rfl <;> simp at q3 <;> omega
      · rw [m5e _ _ (by unfold rM; omega) (by omega)]; exact h43
      · rw [m5e _ _ (by unfold rM; omega) (by omega)]; exact h44
  · rw [if_neg a2, if_neg a2]; exact bs hcp _ rfl rfl
end STX
