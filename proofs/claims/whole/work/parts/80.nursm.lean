/-! PURE 31: nursing by the reference -/
section NUM
variable {C M S : Mem} {N : TN} {T : WS} {L : LWS} {W : WS} {nu : Nat → Nat} {ds : List Nat}
theorem nuSet_t : ∀ (ds row : List Nat) (i d : Nat), ds.Nodup → i < ds.length → i < row.length → nuSet nu (ds.take (i + 1)) (row.take (i + 1)) d = if d = ds.getD i 0 then row.getD i 0 else nuSet nu (ds.take i) (row.take i) d := by
  intro ds
  induction ds with
  | nil => intro row i d _ h; exact absurd h (Nat.not_lt_zero i)
  | cons e ds ih =>
    intro row i d hd h1 h2
    cases row with
    | nil => exact absurd h2 (Nat.not_lt_zero i)
    | cons a row =>
      cases i with
      | zero =>
        show (if d = e then a else nuSet nu (ds.take 0) (row.take 0) d) = if d = e then a else nu d
        rfl
      | succ i =>
        have hn := List.nodup_cons.mp hd
        have h1 : i < ds.length := Nat.lt_of_succ_lt_succ h1
        have h2 : i < row.length := Nat.lt_of_succ_lt_succ h2
        show (if d = e then a else nuSet nu (ds.take (i + 1)) (row.take (i + 1)) d) = if d = ds.getD i 0 then row.getD i 0 else (if d = e then a else nuSet nu (ds.take i) (row.take i) d)
        rw [ih row i d hn.2 h1 h2]
        by_cases q1 : d = e
        · have q2 : ¬ d = ds.getD i 0 := fun q => hn.1 (by rw [← q1, q, gd_e h1]; exact List.getElem_mem _)
          rw [if_pos q1, if_neg q2, if_pos q1]
        · rw [if_neg q1, if_neg q1]
def nbM (S : Mem) (f : List Nat → Int32) (k : Nat) : Option (List Nat) → Prop
  | none => S.1 0 49 = -1
  | some r => r.length = k ∧ S.1 0 49 = f r ∧ ∀ i, i < k → S.1 27 i = nI (r.getD i 0)
def nSt (M S : Mem) (f : List Nat → Int32) (ds pre : List Nat) (b : Option (List Nat)) : Prop := mQ M S ∧ (∀ i, i < ds.length → S.1 25 i = nI (ds.getD i 0)) ∧ (∀ i, i < pre.length → S.1 26 i = nI (pre.getD i 0)) ∧ nbM S f ds.length b
theorem nbM_to {S S' : Mem} {f : List Nat → Int32} {k : Nat} {b : Option (List Nat)} (h : nbM S f k b) (e1 : S'.1 0 49 = S.1 0 49) (e2 : ∀ i, S'.1 27 i = S.1 27 i) : nbM S' f k b := by
  cases b with
  | none => exact e1.trans h
  | some r => exact ⟨h.1, e1.trans h.2.1, fun i hi => (e2 i).trans (h.2.2 i hi)⟩
theorem leaf_M (hM : TM M N T L) (hI : TI N T L) (hn : nuI N nu) (hW : WI N W) (h43 : M.1 0 43 = 0) (h44 : M.1 0 44 = -1) (hR : RM 0 M N W nu) (hk : ds.length ≤ 4) (hds : ∀ d ∈ ds, d < N 0 1) (hdd : ds.Nodup) {n : Nat} (hnn : n ≤ 20) {pre : List Nat} (hp : pre.length = ds.length) (hpm : ∀ j ∈ pre, j < N 0 0) {b : Option (List Nat)} (k : Int32 → Int32 → Int32 → Int32 → Mem → Option Mem) {f : List Nat → Int32} (hf : f = angOf N T L W nu n ds) (h : nSt M S f ds pre b) :
    wp ((f_X10_copies 1 0 S).bind fun S62 => f_X10_nurses_68 k FU (nI ds.length) (nI n) 0 S62) (fun S' => nSt M S' f ds pre (lb1 f b pre)) := by
  have hnd := hI.2.1
  obtain ⟨f0, h25, h26, hb⟩ := h
  refine wp_call (copies_M (a := 1) (b := 0) (by omega) (by omega) (by omega)) ?_
  rintro S1 ⟨hc1, g1⟩
  have hR1 : RM 1 S1 N W nu := cpM_R hc1 hnd (RM0_q hR hnd f0)
  refine lp0 (fun fuel i S => f_X10_nurses_68 k fuel (nI ds.length) (nI n) i S) ds.length (fun i S2 => RM 1 S2 N W (nuSet nu (ds.take i) (pre.take i)) ∧ frC 1 S S2) (by omega) S1 ⟨hR1, g1⟩ ?_ ?_
  · rintro fuel S2 ⟨hR2, g2⟩
    show wp (f_X10_nurses_68 k (fuel + 1) (nI ds.length) (nI n) (nI ds.length) S2) _
    unfold f_X10_nurses_68
    refine wp_pos (Int32.le_refl _) ?_
    have hR2 : RM 1 S2 N W (nuSet nu ds pre) := by
      have e1 : ds.take ds.length = ds := List.take_length
      have e2 : pre.take ds.length = pre := by rw [← hp]; exact List.take_length
      rw [e1, e2] at hR2
      exact hR2
    have f2 : mQ M S2 := mQ_tr f0 (mQ_C g2)
    have hn2 : nuI N (nuSet nu ds pre) := fun d hd => nuSet_I (P := fun j => j < N 0 0) hpm (hn d hd) ds
    refine wp_call (goes_RM (TM_q hM f2) hI hR2 hn2 (cin_q hM hI h43 h44 f2) (how0 (m43 h43 f2)) (by omega)) ?_
    rintro S3 ⟨hR3, g3⟩
    have ea : f_X10_angerBoth 1 S3 = some (f pre, S3) := by
      have := ang_M (t := 1) (by omega) hR3
      rw [hf]
      exact this
    have f3 : mQ M S3 := mQ_tr f2 (mQ_M g3)
    have e25 : ∀ i, S3.1 25 i = S.1 25 i := fun i => by rw [g3 25 i (by unfold chM; omega), g2 25 i (by unfold chC; omega)]
    have e26 : ∀ i, S3.1 26 i = S.1 26 i := fun i => by rw [g3 26 i (by unfold chM; omega), g2 26 i (by unfold chC; omega)]
    have e27 : ∀ i, S3.1 27 i = S.1 27 i := fun i => by rw [g3 27 i (by unfold chM; omega), g2 27 i (by unfold chC; omega)]
    have e49 : S3.1 0 49 = S.1 0 49 := by rw [g3 0 49 (by unfold chM; omega), g2 0 49 (by unfold chC; omega)]
    have upd : lb1 f b pre = some pre → wp (f_X10_nurses_129 k (nI ds.length) S3) (fun S' => nSt M S' f ds pre (lb1 f b pre)) := by
      intro e
      rw [e]
      unfold f_X10_nurses_129
      refine wp_bnde ea (wp_nxt ?_)
      refine lp0 (fun fuel i S => f_X10_nurses_141 k fuel (nI ds.length) i S) ds.length (fun i S4 => mQ M S4 ∧ S4.1 0 49 = f pre ∧ (∀ i, S4.1 25 i = S.1 25 i) ∧ (∀ i, S4.1 26 i = S.1 26 i) ∧ ∀ j, j < i → S4.1 27 j = nI (pre.getD j 0)) (by omega) (sI S3 0 49 (f pre)) ⟨fun c i a => by rw [sI1, if_neg (fun e => a (by unfold mX; omega))]; exact f3 c i a, by rw [sI1, if_pos ⟨rfl, rfl⟩], fun i => by rw [sI_off (by omega)]; exact e25 i, fun i => by rw [sI_off (by omega)]; exact e26 i, fun j hj => absurd hj (Nat.not_lt_zero j)⟩ ?_ ?_
      · rintro fuel S4 ⟨a1, a2, a3, a4, a5⟩
        show wp (f_X10_nurses_141 k (fuel + 1) (nI ds.length) (nI ds.length) S4) _
        unfold f_X10_nurses_141
        refine wp_pos (Int32.le_refl _) (wp_some ⟨a1, fun i hi => by rw [a3]; exact h25 i hi, fun i hi => by rw [a4]; exact h26 i hi, hp, a2, a5⟩)
      · rintro fuel j S4 hj ⟨a1, a2, a3, a4, a5⟩ ih
        try simp only at ih
        show wp (f_X10_nurses_141 k (fuel + 1) (nI ds.length) (nI j) S4) _
        unfold f_X10_nurses_141
        refine wp_neg (nI_ge hj (by omega)) ?_
        refine wp_rd j rfl (by omega) ((a4 j).trans (h26 j (by omega))) ?_
        refine wp_wr j rfl (by omega) ?_
        rw [nI_1]
        refine ih _ ⟨fun c i a => ?_, by rw [sI_off (by omega)]; exact a2, fun i => by rw [sI_off (by omega)]; exact a3 i, fun i => by rw [sI_off (by omega)]; exact a4 i, fun i hi => ?_⟩
        · rw [sI1, if_neg (fun e => a (by unfold mX; omega))]; exact a1 c i a
        · rw [sI1]
          by_cases q : i = j
          · rw [if_pos ⟨rfl, q⟩, q]
          · rw [if_neg (by omega)]; exact a5 i (by omega)
    cases b with
    | none =>
      refine wp_pos (e49.trans hb) (upd rfl)
    | some r =>
      obtain ⟨b1, b2, b3⟩ := hb
      refine wp_neg ?_ ?_
      · rw [e49, b2, hf]
        obtain ⟨z, hz, ez⟩ := ang_b (nu := nu) hI hW (ds := ds) (r := r) (n := n)
        rw [ez]
        exact nI_n1 (by omega)
      · refine wp_bnde ea ?_
        rw [e49, b2]
        refine wp_if (fun q => upd ?_) (fun q => wp_some ?_)
        · show (if f pre < f r then some pre else some r) = some pre
          rw [if_pos q]
        · have : lb1 f (some r) pre = some r := by
            show (if f pre < f r then some pre else some r) = some r
            rw [if_neg q]
          rw [this]
          exact ⟨f3, fun i hi => by rw [e25]; exact h25 i hi, fun i hi => by rw [e26]; exact h26 i hi, b1, e49.trans b2, fun i hi => by rw [e27]; exact b3 i hi⟩
  · rintro fuel j S2 hj ⟨hR2, g2⟩ ih
    try simp only at ih
    show wp (f_X10_nurses_68 k (fuel + 1) (nI ds.length) (nI n) (nI j) S2) _
    unfold f_X10_nurses_68
    refine wp_neg (nI_ge hj (by omega)) ?_
    have hdj : ds.getD j 0 < N 0 1 := by rw [gd_e hj]; exact hds _ (List.getElem_mem _)
    refine wp_rd j rfl (by omega) (v := nI (ds.getD j 0)) (by rw [g2 25 j (by unfold chC; omega)]; exact h25 j hj) ?_
    refine wp_rd j rfl (by omega) (v := nI (pre.getD j 0)) (by rw [g2 26 j (by unfold chC; omega)]; exact h26 j (by omega)) ?_
    refine wp_wr (10 + ds.getD j 0) (by rw [show (10 : Int32) = nI 10 from rfl, nI_add]) (by omega) ?_
    rw [nI_1]
    refine ih _ ⟨?_, fun c i a => ?_⟩
    · obtain ⟨r0, r1, r2, r3, r4⟩ := hR2
      refine ⟨by rw [sI_off (by omega)]; exact r0, by rw [sI_off (by omega)]; exact r1, by rw [sI_off (by omega)]; exact r2, fun d hd => ?_, fun c hc => ?_⟩
      · obtain ⟨s1, s2, s3, s4⟩ := r3 d hd
        refine ⟨?_, by rw [sI_off (by omega)]; exact s2, by rw [sI_off (by omega)]; exact s3, by rw [sI_off (by omega)]; exact s4⟩
        rw [nuSet_t ds pre j d hdd hj (by omega), sI1]
        by_cases q : d = ds.getD j 0
        · rw [if_pos ⟨rfl, by omega⟩, if_pos q]
        · rw [if_neg (by omega), if_neg q]; exact s1
      · rw [sI_off (by omega), sI_off (by omega)]; exact r4 c hc
    · rw [sI1, if_neg (fun e => a (by unfold chC; omega))]; exact g2 c i a
end NUM
