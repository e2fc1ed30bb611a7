/-! PURE 32: nursing, by both -/
section NUQ
variable {C M S : Mem} {N : TN} {T : WS} {L : LWS} {W : WS} {nu : Nat → Nat} {ds : List Nat}
theorem nz_M (hM : TM M N T L) (hI : TI N T L) (hn : nuI N nu) (hW : WI N W) (h43 : M.1 0 43 = 0) (h44 : M.1 0 44 = -1) (hR : RM 0 M N W nu) (hk : ds.length ≤ 4) (hds : ∀ d ∈ ds, d < N 0 1) (hdd : ds.Nodup) {n c : Nat} (hnn : n ≤ 20) (hc : c < 2) {f : List Nat → Int32} (hf : f = angOf N T L W nu n ds) :
    ∀ (j fuel : Nat) (pre : List Nat) (b : Option (List Nat)) (S : Mem), pre.length + j = ds.length → j < fuel → (∀ i ∈ pre, i < N 0 0) → nSt M S f ds pre b → wp (nz fuel (nI pre.length) (nI ds.length) (nI c) (nI n) S) (fun S' => nSt M S' f ds pre (((rowsOf (nsOf N c) j).map (fun r => pre ++ r)).foldl (lb1 f) b)) := by
  intro j
  induction j with
  | zero =>
    intro fuel pre b S hl hfu hpm h
    obtain ⟨m, rfl⟩ : ∃ m, fuel = m + 1 := ⟨fuel - 1, by omega⟩
    show wp (f_X10_nursesG (nz m) (nI pre.length) (nI ds.length) (nI c) (nI n) S) _
    unfold f_X10_nursesG
    refine wp_pos (by rw [show pre.length = ds.length by omega]; exact Int32.le_refl _) ?_
    refine wp_mono (leaf_M hM hI hn hW h43 h44 hR hk hds hdd hnn (by omega) hpm (nz m) hf h) (fun S' h' => ?_)
    have e : ((rowsOf (nsOf N c) 0).map (fun r => pre ++ r)).foldl (lb1 f) b = lb1 f b pre := by
      show lb1 f b (pre ++ []) = _
      rw [List.append_nil]
    rw [e]; exact h'
  | succ j ih =>
    intro fuel pre b S hl hfu hpm h
    obtain ⟨m, rfl⟩ : ∃ m, fuel = m + 1 := ⟨fuel - 1, by omega⟩
    show wp (f_X10_nursesG (nz m) (nI pre.length) (nI ds.length) (nI c) (nI n) S) _
    unfold f_X10_nursesG
    refine wp_neg (nI_ge (by omega) (by omega)) ?_
    rw [rows_map]
    have hnn6 := hI.1
    refine lp0 (fun fuel i S => f_X10_nurses_8 (nz m) fuel (nI pre.length) (nI ds.length) (nI c) (nI n) i S) (N 0 0) (fun w S' => nSt M S' f ds pre (((preN N c w).flatMap (fun j' => (rowsOf (nsOf N c) j).map (fun r => (pre ++ [j']) ++ r))).foldl (lb1 f) b)) (by omega) S h ?_ ?_
    · rintro fuel S2 h2
      show wp (f_X10_nurses_8 (nz m) (fuel + 1) (nI pre.length) (nI ds.length) (nI c) (nI n) (nI (N 0 0)) S2) _
      unfold f_X10_nurses_8
      refine wp_rd 0 rfl (by omega) (TM_q hM h2.1).1 ?_
      exact wp_pos (Int32.le_refl _) (wp_some h2)
    · rintro fuel w S2 hw h2 ih2
      try simp only at ih2
      show wp (f_X10_nurses_8 (nz m) (fuel + 1) (nI pre.length) (nI ds.length) (nI c) (nI n) (nI w) S2) _
      unfold f_X10_nurses_8
      have hT2 := TM_q hM h2.1
      refine wp_rd 0 rfl (by omega) hT2.1 ?_
      refine wp_neg (nI_ge hw (by omega)) ?_
      refine wp_rd w rfl (by omega) (hT2.2.2.2.1 w hw).2.1 ?_
      have h21 := (hI.2.2.1 w hw).1
      rw [preN_s] at ih2
      refine wp_if (fun q => ?_) (fun q => ?_)
      · have q : N 2 w = c := (nI_eq (by omega) (by omega)).mp q
        rw [if_pos q, List.flatMap_append, List.foldl_append] at ih2
        refine wp_wr pre.length rfl (by omega) ?_
        rw [nI_1]
        have hs : nSt M (sI S2 26 pre.length (nI w)) f ds (pre ++ [w]) (((preN N c w).flatMap (fun j' => (rowsOf (nsOf N c) j).map (fun r => (pre ++ [j']) ++ r))).foldl (lb1 f) b) := by
          obtain ⟨a1, a2, a3, a4⟩ := h2
          refine ⟨fun c i a => ?_, fun i hi => by rw [sI_off (by omega)]; exact a2 i hi, fun i hi => ?_, nbM_to a4 (by rw [sI_off (by omega)]) (fun i => by rw [sI_off (by omega)])⟩
          · rw [sI1, if_neg (fun e => a (by unfold mX; omega))]; exact a1 c i a
          · rw [List.length_append] at hi
            have hi : i < pre.length + 1 := hi
            rw [sI1]
            by_cases qj : i = pre.length
            · rw [if_pos ⟨rfl, qj⟩, qj, gd_r]
            · rw [if_neg (by omega), gd_l (by omega)]; exact a3 i (by omega)
        have hl2 : (pre ++ [w]).length = pre.length + 1 := by rw [List.length_append]; rfl
        have step := ih m (pre ++ [w]) _ _ (by rw [hl2]; omega) (by omega) (fun i hi => by rcases List.mem_append.mp hi with z | z; exact hpm i z; rw [List.mem_singleton.mp z]; exact hw) hs
        rw [hl2] at step
        refine wp_call step ?_
        rintro S3 ⟨a1, a2, a3, a4⟩
        rw [nI_1]
        refine ih2 S3 ⟨a1, a2, fun i hi => ?_, ?_⟩
        · have := a3 i (by rw [hl2]; omega)
          rw [gd_l hi] at this
          exact this
        · rw [List.flatMap_cons, List.flatMap_nil, List.append_nil]
          exact a4
      · have q : ¬ N 2 w = c := fun e => q (by rw [e])
        rw [if_neg q, List.append_nil] at ih2
        rw [nI_1]
        exact ih2 S2 h2
/-- the answer -/
def nuAns (f : List Nat → Int32) (k : Nat) (b : List Nat) (z : Int32) : Int32 := if z = 4 then f b else if nI k ≤ z then -2 else nI (b.getD z.toNatClampNeg 0)
theorem z_nI {z : Int32} (h0 : ¬ z < 0) (h4 : z ≤ 4) : ∃ k, k ≤ 4 ∧ z = nI k := by
  refine ⟨z.toNatClampNeg, ?_, ?_⟩
  · have := Int32.le_iff_toInt_le.mp h4
    have e : (4 : Int32).toInt = 4 := by decide
    rw [e] at this
    show z.toInt.toNat ≤ 4
    omega
  · have a := Int32.le_iff_toInt_le.mp h4
    have e : (4 : Int32).toInt = 4 := by decide
    rw [e] at a
    have b : ¬ z.toInt < 0 := fun q => h0 (Int32.lt_iff_toInt_lt.mpr (by rw [show (0 : Int32).toInt = 0 by decide]; exact q))
    have b' : 0 ≤ z.toInt := by omega
    obtain ⟨k, ek⟩ := Int.eq_ofNat_of_zero_le b'
    have hk : k ≤ 4 := by omega
    have ez : z = Int32.ofInt z.toInt := (Int32.ofInt_toInt z).symm
    have et : z.toNatClampNeg = k := by
      show z.toInt.toNat = k
      rw [ek]; rfl
    rw [et, ez, ek]
    have : k = 0 ∨ k = 1 ∨ k = 2 ∨ k = 3 ∨ k = 4 := by omega
    rcases this with rfl | rfl | rfl | rfl | rfl <;> decide
end NUQ
