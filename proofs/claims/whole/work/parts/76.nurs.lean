/-! PURE 27: nursing: rows, the first with the least -/
section NUR
variable {C M S : Mem} {N : TN} {T : WS} {L : LWS} {W : WS} {nu : Nat → Nat} {cf : Nat → Int32} {f : List Nat → Int32}
def lb1 (f : List Nat → Int32) (b : Option (List Nat)) (r : List Nat) : Option (List Nat) := match b with
  | none => some r
  | some x => if f r < f x then some r else some x
theorem least_e : ∀ (l : List (List Nat)) (b : Option (List Nat)), leastBy f b l = l.foldl (lb1 f) b := by
  intro l
  induction l with
  | nil => intro b; cases b <;> rfl
  | cons r l ih =>
    intro b
    cases b with
    | none => exact ih _
    | some x => exact ih _
/-- no member of l is below b -/
def lowB (f : List Nat → Int32) (b : Option (List Nat)) (x : List Nat) : Prop := ∃ y, b = some y ∧ ¬ f x < f y
theorem low_1 {b : Option (List Nat)} {x r : List Nat} (h : lowB f b x) : lowB f (lb1 f b r) x := by
  obtain ⟨y, rfl, hy⟩ := h
  unfold lb1
  simp only
  by_cases q : f r < f y
  · rw [if_pos q]
    refine ⟨r, rfl, fun e => hy ?_⟩
    exact Int32.lt_trans e q
  · rw [if_neg q]; exact ⟨y, rfl, hy⟩
theorem low_s {b : Option (List Nat)} {r : List Nat} : lowB f (lb1 f b r) r := by
  cases b with
  | none => exact ⟨r, rfl, Int32.lt_irrefl⟩
  | some y =>
    unfold lb1
    simp only
    by_cases q : f r < f y
    · rw [if_pos q]; exact ⟨r, rfl, Int32.lt_irrefl⟩
    · rw [if_neg q]; exact ⟨y, rfl, q⟩
theorem low_f {x : List Nat} : ∀ (l : List (List Nat)) (b : Option (List Nat)), lowB f b x → lowB f (l.foldl (lb1 f) b) x := by
  intro l
  induction l with
  | nil => intro b h; exact h
  | cons r l ih => intro b h; exact ih _ (low_1 h)
theorem low_m {x : List Nat} : ∀ (l : List (List Nat)) (b : Option (List Nat)), x ∈ l → lowB f (l.foldl (lb1 f) b) x := by
  intro l
  induction l with
  | nil => intro b h; cases h
  | cons r l ih =>
    intro b h
    rcases List.mem_cons.mp h with rfl | h
    · exact low_f l _ low_s
    · exact ih _ h
theorem low_no : ∀ (l : List (List Nat)) (b : Option (List Nat)), (∀ x ∈ l, lowB f b x) → l.foldl (lb1 f) b = b := by
  intro l
  induction l with
  | nil => intro b _; rfl
  | cons r l ih =>
    intro b h
    have : lb1 f b r = b := by
      obtain ⟨y, rfl, hy⟩ := h r List.mem_cons_self
      unfold lb1
      simp only
      rw [if_neg hy]
    show l.foldl (lb1 f) (lb1 f b r) = b
    rw [this]
    exact ih b (fun x hx => h x (List.mem_cons_of_mem _ hx))
/-- of nurses with like care the first -/
def ddp (N : TN) (seen : List Nat) : List Nat → List Nat
  | [] => []
  | j :: l => if N 3 j ∈ seen then ddp N seen l else j :: ddp N (N 3 j :: seen) l
theorem ddp_outer {G : Nat → List (List Nat)} (hG : ∀ i j, N 3 i = N 3 j → ∀ x ∈ G j, ∃ y ∈ G i, f y = f x) : ∀ (l seen : List Nat) (b : Option (List Nat)), (∀ j, N 3 j ∈ seen → ∀ x ∈ G j, lowB f b x) → (l.flatMap G).foldl (lb1 f) b = ((ddp N seen l).flatMap G).foldl (lb1 f) b := by
  intro l
  induction l with
  | nil => intro seen b _; rfl
  | cons j l ih =>
    intro seen b h
    rw [List.flatMap_cons, List.foldl_append]
    unfold ddp
    by_cases q : N 3 j ∈ seen
    · rw [if_pos q, low_no (G j) b (h j q)]
      exact ih seen b h
    · rw [if_neg q, List.flatMap_cons, List.foldl_append]
      refine ih _ _ (fun i hi x hx => ?_)
      rcases List.mem_cons.mp hi with e | hi
      · obtain ⟨y, hy, e2⟩ := hG j i e.symm x hx
        obtain ⟨z, hz, hlt⟩ := low_m (f := f) (G j) b hy
        exact ⟨z, hz, by rw [← e2]; exact hlt⟩
      · exact low_f _ _ (h i hi x hx)
theorem fold_cg {G H : Nat → List (List Nat)} : ∀ (l : List Nat) (b : Option (List Nat)), (∀ j ∈ l, ∀ b, (G j).foldl (lb1 f) b = (H j).foldl (lb1 f) b) → (l.flatMap G).foldl (lb1 f) b = (l.flatMap H).foldl (lb1 f) b := by
  intro l
  induction l with
  | nil => intro b _; rfl
  | cons j l ih =>
    intro b h
    rw [List.flatMap_cons, List.flatMap_cons, List.foldl_append, List.foldl_append, h j List.mem_cons_self]
    exact ih _ (fun i hi => h i (List.mem_cons_of_mem _ hi))
theorem rows_map (l : List Nat) (k : Nat) (pre : List Nat) : (rowsOf l (k + 1)).map (fun r => pre ++ r) = l.flatMap (fun j => (rowsOf l k).map (fun r => (pre ++ [j]) ++ r)) := by
  show (l.flatMap (fun j => (rowsOf l k).map (fun r => j :: r))).map (fun r => pre ++ r) = _
  rw [List.map_flatMap]
  congr 1
  funext j
  rw [List.map_map]
  congr 1
  funext r
  simp
theorem rows_dd (hf : ∀ r r', r.map (fun j => N 3 j) = r'.map (fun j => N 3 j) → f r = f r') (l : List Nat) : ∀ (k : Nat) (pre : List Nat) (b : Option (List Nat)), ((rowsOf l k).map (fun r => pre ++ r)).foldl (lb1 f) b = ((rowsOf (ddp N [] l) k).map (fun r => pre ++ r)).foldl (lb1 f) b := by
  intro k
  induction k with
  | zero => intro pre b; rfl
  | succ k ih =>
    intro pre b
    rw [rows_map, rows_map, fold_cg (G := fun j => (rowsOf l k).map (fun r => (pre ++ [j]) ++ r)) (H := fun j => (rowsOf (ddp N [] l) k).map (fun r => (pre ++ [j]) ++ r)) l b (fun j _ b => ih (pre ++ [j]) b)]
    refine ddp_outer (G := fun j => (rowsOf (ddp N [] l) k).map (fun r => (pre ++ [j]) ++ r)) (fun i j e x hx => ?_) l [] b (fun j hj => by cases hj)
    obtain ⟨r, hr, rfl⟩ := List.mem_map.mp hx
    refine ⟨(pre ++ [i]) ++ r, List.mem_map.mpr ⟨r, hr, rfl⟩, hf _ _ ?_⟩
    simp [e]
theorem nuSet_c {ds : List Nat} : ∀ (r r' : List Nat), r.map (fun j => N 3 j) = r'.map (fun j => N 3 j) → ∀ d, caN N (nuSet nu ds r d) = caN N (nuSet nu ds r' d) := by
  induction ds with
  | nil => intro r r' _ d; rfl
  | cons e ds ih =>
    intro r r' h d
    cases r with
    | nil =>
      cases r' with
      | nil => rfl
      | cons a r' => cases h
    | cons a r =>
      cases r' with
      | nil => cases h
      | cons a' r' =>
        simp only [List.map_cons, List.cons.injEq] at h
        show caN N (if d = e then a else nuSet nu ds r d) = caN N (if d = e then a' else nuSet nu ds r' d)
        by_cases q : d = e
        · rw [if_pos q, if_pos q]; unfold caN; rw [h.1]
        · rw [if_neg q, if_neg q]; exact ih r r' h.2 d
theorem ang_c {ds : List Nat} {n : Nat} (r r' : List Nat) (h : r.map (fun j => N 3 j) = r'.map (fun j => N 3 j)) : angOf N T L W nu n ds r = angOf N T L W nu n ds r' := by
  unfold angOf
  have : (fun d => caN N (nuSet nu ds r d)) = (fun d => caN N (nuSet nu ds r' d)) := funext (nuSet_c r r' h)
  rw [this]
theorem ang_b (hI : TI N T L) (hW : WI N W) {ds r : List Nat} {n : Nat} : ∃ k, k ≤ 1998 ∧ angOf N T L W nu n ds r = nI k := by
  unfold angOf
  have h := run_J (cd := fun d => caN N (nuSet nu ds r d)) hI (WJ_I hW) 0 n
  obtain ⟨a, ha, ea⟩ := h.2.1 0 (by omega)
  obtain ⟨b, hb, eb⟩ := h.2.1 1 (by omega)
  refine ⟨a + b, by omega, ?_⟩
  show sRun N T L (fun d => caN N (nuSet nu ds r d)) 0 n W 5 0 + sRun N T L (fun d => caN N (nuSet nu ds r d)) 0 n W 5 1 = _
  rw [ea, eb, nI_add]
theorem nurB_d {c n : Nat} : nurB N T L W nu c n = (rowsOf (ddp N [] (nsOf N c)) (dHeld N (W 0 3) c).length).foldl (lb1 (angOf N T L W nu n (dHeld N (W 0 3) c))) none := by
  unfold nurB
  rw [least_e]
  have := rows_dd (f := angOf N T L W nu n (dHeld N (W 0 3) c)) (N := N) (fun r r' h => ang_c r r' h) (nsOf N c) (dHeld N (W 0 3) c).length [] none
  simpa using this
/-! digits -/
def digs (l : List Nat) : Nat → Nat → List Nat
  | 0, _ => []
  | k + 1, w => l.getD (w / l.length ^ k) 0 :: digs l k (w % l.length ^ k)
theorem digs_len (l : List Nat) : ∀ k w, (digs l k w).length = k := by
  intro k
  induction k with
  | zero => intro w; rfl
  | succ k ih => intro w; show (digs l k _).length + 1 = k + 1; rw [ih]
theorem rows_len (l : List Nat) : ∀ k, (rowsOf l k).length = l.length ^ k := by
  intro k
  induction k with
  | zero => rfl
  | succ k ih =>
    show (l.flatMap (fun j => (rowsOf l k).map (fun r => j :: r))).length = _
    rw [List.length_flatMap]
    simp only [List.length_map, ih]
    rw [List.map_const', List.sum_replicate_nat, Nat.pow_succ, Nat.mul_comm]
theorem flat_at {α : Type} {G : Nat → List α} {m : Nat} (hm : ∀ j, (G j).length = m) : ∀ (l : List Nat) (w : Nat), w < l.length * m → (l.flatMap G)[w]? = (G (l.getD (w / m) 0))[w % m]? := by
  intro l
  induction l with
  | nil => intro w hw; simp at hw
  | cons j l ih =>
    intro w hw
    have hm0 : 0 < m := by
      rcases Nat.eq_zero_or_pos m with h | h
      · subst h; simp at hw
      · exact h
    rw [List.flatMap_cons]
    rcases Nat.lt_or_ge w m with h | h
    · rw [List.getElem?_append_left (by rw [hm]; exact h), Nat.div_eq_of_lt h, Nat.mod_eq_of_lt h]
      rfl
    · rw [List.getElem?_append_right (by rw [hm]; exact h), hm, ih (w - m) (by simp only [List.length_cons] at hw; rw [Nat.succ_mul] at hw; omega)]
      have e1 : w / m = (w - m) / m + 1 := by
        rw [Nat.div_eq_sub_div hm0 h]
      have e2 : (w - m) % m = w % m := (Nat.mod_eq_sub_mod h).symm
      rw [e1, e2]
      rfl
theorem rows_at (l : List Nat) : ∀ k w, w < l.length ^ k → (rowsOf l k)[w]? = some (digs l k w) := by
  intro k
  induction k with
  | zero =>
    intro w hw
    have : w = 0 := by simpa using hw
    subst this
    rfl
  | succ k ih =>
    intro w hw
    have hpos : 0 < l.length ^ k := by
      rcases Nat.eq_zero_or_pos (l.length ^ k) with h | h
      · rw [Nat.pow_succ, h, Nat.zero_mul] at hw; omega
      · exact h
    show (l.flatMap (fun j => (rowsOf l k).map (fun r => j :: r)))[w]? = _
    rw [flat_at (m := l.length ^ k) (fun j => by rw [List.length_map, rows_len]) l w (by rw [Nat.pow_succ, Nat.mul_comm] at hw; exact hw), List.getElem?_map, ih _ (Nat.mod_lt _ hpos)]
    rfl
theorem digs_at (l : List Nat) (hl : 0 < l.length) : ∀ k w i, w < l.length ^ k → i < k → (digs l k w).getD i 0 = l.getD (w / l.length ^ (k - 1 - i) % l.length) 0 := by
  intro k
  induction k with
  | zero => intro w i _ hi; omega
  | succ k ih =>
    intro w i hw hi
    have hpos : 0 < l.length ^ k := Nat.pow_pos hl
    cases i with
    | zero =>
      show l.getD (w / l.length ^ k) 0 = l.getD (w / l.length ^ (k + 1 - 1 - 0) % l.length) 0
      have e : k + 1 - 1 - 0 = k := by omega
      rw [e, Nat.mod_eq_of_lt (Nat.div_lt_of_lt_mul (by rw [Nat.pow_succ] at hw; exact hw))]
    | succ i =>
      show (digs l k (w % l.length ^ k)).getD i 0 = _
      rw [ih _ i (Nat.mod_lt _ hpos) (by omega)]
      have e : k + 1 - 1 - (i + 1) = k - 1 - i := by omega
      rw [e]
      have hk : l.length ^ k = l.length ^ (k - 1 - i) * (l.length * l.length ^ i) := by
        rw [← Nat.pow_succ', ← Nat.pow_add]
        congr 1
        omega
      rw [hk, Nat.mod_mul_right_div_self, Nat.mod_mul_right_mod]
end NUR
