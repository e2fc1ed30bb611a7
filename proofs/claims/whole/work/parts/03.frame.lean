/-! THE FRAME: abstract memory over a static skeleton of cells; AW is the kit's W said of it -/
abbrev Mem : Type := (Nat → Nat → Int32) × (Nat → Nat → Int64)
abbrev Skel : Type := List (Nat × Nat × List Value)
def sI (S : Mem) (k i : Nat) (v : Int32) : Mem := (fun k' i' => if k' = k ∧ i' = i then v else S.1 k' i', S.2)
def sL (S : Mem) (k i : Nat) (v : Int64) : Mem := (S.1, fun k' i' => if k' = k ∧ i' = i then v else S.2 k' i')
def inb (i : Int32) (n : Nat) : Bool := decide (¬ i < 0) && decide (i.toNatClampNeg < n)
def rd (S : Mem) (k n : Nat) (i : Int32) : Option Int32 := if inb i n = true then some (S.1 k i.toNatClampNeg) else none
def rdL (S : Mem) (k n : Nat) (i : Int32) : Option Int64 := if inb i n = true then some (S.2 k i.toNatClampNeg) else none
def wr (S : Mem) (k n : Nat) (i v : Int32) : Option Mem := if inb i n = true then some (sI S k i.toNatClampNeg v) else none
def wrZ (S : Mem) (k n : Nat) (i v : Int32) : Option Mem := if inb i n = true then some (sI S k i.toNatClampNeg (vp_nar .boolean v)) else none
def wrL (S : Mem) (k n : Nat) (i : Int32) (v : Int64) : Option Mem := if inb i n = true then some (sL S k i.toNatClampNeg v) else none
def dv (x y : Int32) : Option Int32 := if y = 0 then none else some (x / y)
def rm (x y : Int32) : Option Int32 := if y = 0 then none else some (x - x / y * y)
def dvL (x y : Int64) : Option Int64 := if y = 0 then none else some (x / y)
def rmL (x y : Int64) : Option Int64 := if y = 0 then none else some (x - x / y * y)
def okz (v : Int32) : Bool := decide (v = 0) || decide (v = 1)
theorem inb_in {i : Int32} {n : Nat} (h : inb i n = true) : vp_in i n := by
  simp only [inb, Bool.and_eq_true, decide_eq_true_eq] at h
  intro q
  rcases q with q | q
  · exact h.1 q
  · omega
theorem inb_nI {j n : Nat} (h : j < n) (hn : n ≤ 2 ^ 31) : inb (nI j) n = true := by
  simp only [inb, Bool.and_eq_true, decide_eq_true_eq]
  refine ⟨nI_pos (by omega), ?_⟩
  rw [nI_clamp (by omega)]
  exact h
theorem rd_some {S : Mem} {k n : Nat} {i v : Int32} (h : rd S k n i = some v) : vp_in i n ∧ v = S.1 k i.toNatClampNeg := by
  unfold rd at h
  split at h
  · rename_i hi
    cases h
    exact ⟨inb_in hi, rfl⟩
  · cases h
theorem rdL_some {S : Mem} {k n : Nat} {i : Int32} {v : Int64} (h : rdL S k n i = some v) : vp_in i n ∧ v = S.2 k i.toNatClampNeg := by
  unfold rdL at h
  split at h
  · rename_i hi
    cases h
    exact ⟨inb_in hi, rfl⟩
  · cases h
theorem wr_some {S S' : Mem} {k n : Nat} {i v : Int32} (h : wr S k n i v = some S') : vp_in i n ∧ S' = sI S k i.toNatClampNeg v := by
  unfold wr at h
  split at h
  · rename_i hi
    cases h
    exact ⟨inb_in hi, rfl⟩
  · cases h
theorem wrZ_some {S S' : Mem} {k n : Nat} {i v : Int32} (h : wrZ S k n i v = some S') : vp_in i n ∧ S' = sI S k i.toNatClampNeg (vp_nar .boolean v) := by
  unfold wrZ at h
  split at h
  · rename_i hi
    cases h
    exact ⟨inb_in hi, rfl⟩
  · cases h
theorem wrL_some {S S' : Mem} {k n : Nat} {i : Int32} {v : Int64} (h : wrL S k n i v = some S') : vp_in i n ∧ S' = sL S k i.toNatClampNeg v := by
  unfold wrL at h
  split at h
  · rename_i hi
    cases h
    exact ⟨inb_in hi, rfl⟩
  · cases h
def cv (loc : Nat → Nat) (v : Value) : Value := match v with
  | .ref r => .ref (loc r)
  | w => w
theorem cv_cat (loc : Nat → Nat) (v : Value) : (cv loc v).category = v.category := by cases v <;> rfl
def fvE (loc : Nat → Nat) (S : Mem) (k i : Nat) (v : Value) : Value := match v with
  | .int _ => .int (S.1 k i)
  | .long _ => .long (S.2 k i)
  | .ref r => .ref (loc r)
  | w => w
def qE (loc : Nat → Nat) (vs : List Value) (j : Nat) : Option Nat := match vs[j]? with
  | some (.ref r) => some (loc r)
  | _ => none
def cellE (cA : Nat → ClassId) (loc : Nat → Nat) (S : Mem) (k : Nat) (c : Nat × Nat × List Value) : va_E :=
  if c.1 = 0 then .inl (cA 0, c.2.1, .inl (S.1 k)) else if c.1 = 1 then .inl (cA 1, c.2.1, .inl (S.1 k)) else if c.1 = 2 then .inl (cA 2, c.2.1, .inr (.inl (S.2 k)))
  else if c.1 = 3 then .inl (cA 3, c.2.1, .inr (.inr (.inr (.inr (qE loc c.2.2))))) else .inr (c.1 - 4, c.2.2.mapIdx (fvE loc S k))
def conc (cA : Nat → ClassId) (loc : Nat → Nat) (sk : Skel) (S : Mem) : va_W := sk.mapIdx (fun k c => (loc k, cellE cA loc S k c))
theorem conc_get {cA : Nat → ClassId} {loc : Nat → Nat} {sk : Skel} {S : Mem} {k : Nat} {c : Nat × Nat × List Value} (h : sk[k]? = some c) : (conc cA loc sk S)[k]? = some (loc k, cellE cA loc S k c) := by
  simp [conc, h]
theorem conc_set {cA : Nat → ClassId} {loc : Nat → Nat} {sk : Skel} {S S' : Mem} {k : Nat} {c : Nat × Nat × List Value} {e : va_E} (h : sk[k]? = some c) (he : e = cellE cA loc S' k c) (ho : ∀ (j : Nat) (c' : Nat × Nat × List Value), j ≠ k → cellE cA loc S' j c' = cellE cA loc S j c') : (conc cA loc sk S).set k (loc k, e) = conc cA loc sk S' := by
  apply List.ext_getElem?
  intro j
  have hl : k < sk.length := (List.getElem?_eq_some_iff.mp h).1
  by_cases hj : j = k
  · subst hj
    rw [List.getElem?_set_self (by simpa [conc] using hl), conc_get h, he]
  · rw [List.getElem?_set_ne (Ne.symm hj)]
    simp only [conc, List.getElem?_mapIdx]
    cases sk[j]? with
    | none => rfl
    | some c' => simp [ho j c' hj]
theorem sI_off {S : Mem} {k i j : Nat} {v : Int32} (h : j ≠ k) : (sI S k i v).1 j = S.1 j := by
  funext a
  simp [sI, h]
theorem sI_on (S : Mem) (k i : Nat) (v : Int32) : (sI S k i v).1 k = upd (S.1 k) i v := by
  funext a
  simp [sI, upd]
theorem sL_off {S : Mem} {k i j : Nat} {v : Int64} (h : j ≠ k) : (sL S k i v).2 j = S.2 j := by
  funext a
  simp [sL, h]
theorem sL_on (S : Mem) (k i : Nat) (v : Int64) : (sL S k i v).2 k = vp_updL (S.2 k) i v := by
  funext a
  simp [sL, vp_updL]
theorem cellE_eq {cA : Nat → ClassId} {loc : Nat → Nat} {S S' : Mem} {j : Nat} (h1 : S'.1 j = S.1 j) (h2 : S'.2 j = S.2 j) (c : Nat × Nat × List Value) : cellE cA loc S' j c = cellE cA loc S j c := by
  have hf : fvE loc S' j = fvE loc S j := by
    funext i v
    cases v <;> simp [fvE, h1, h2]
  unfold cellE
  rw [h1, h2, hf]
theorem cellE_sI {cA : Nat → ClassId} {loc : Nat → Nat} {S : Mem} {k i : Nat} {v : Int32} (j : Nat) (c' : Nat × Nat × List Value) (h : j ≠ k) : cellE cA loc (sI S k i v) j c' = cellE cA loc S j c' := cellE_eq (S' := sI S k i v) (S := S) (sI_off h) rfl c'
theorem cellE_sL {cA : Nat → ClassId} {loc : Nat → Nat} {S : Mem} {k i : Nat} {v : Int64} (j : Nat) (c' : Nat × Nat × List Value) (h : j ≠ k) : cellE cA loc (sL S k i v) j c' = cellE cA loc S j c' := cellE_eq (S' := sL S k i v) (S := S) rfl (sL_off h) c'
theorem cellE_obj {cA : Nat → ClassId} {loc : Nat → Nat} {S : Mem} {k ci n : Nat} {fs : List Value} : cellE cA loc S k (ci + 4, n, fs) = .inr (ci, fs.mapIdx (fvE loc S k)) := by
  have h0 : ¬ ci + 4 = 0 := by omega
  have h1 : ¬ ci + 4 = 1 := by omega
  have h2 : ¬ ci + 4 = 2 := by omega
  have h3 : ¬ ci + 4 = 3 := by omega
  simp only [cellE, if_neg h0, if_neg h1, if_neg h2, if_neg h3, Nat.add_sub_cancel]
theorem fv_setI {loc : Nat → Nat} {S : Mem} {k j : Nat} {fs : List Value} {w x : Int32} (hj : fs[j]? = some (.int w)) : (fs.mapIdx (fvE loc S k)).set j (.int x) = fs.mapIdx (fvE loc (sI S k j x) k) := by
  apply List.ext_getElem?
  intro a
  have hl : j < fs.length := (List.getElem?_eq_some_iff.mp hj).1
  by_cases ha : a = j
  · subst ha
    rw [List.getElem?_set_self (by simpa using hl), List.getElem?_mapIdx, hj]
    simp [fvE, sI]
  · rw [List.getElem?_set_ne (Ne.symm ha), List.getElem?_mapIdx, List.getElem?_mapIdx]
    cases fs[a]? with
    | none => rfl
    | some u => cases u <;> simp [fvE, sI, ha]
theorem fv_setL {loc : Nat → Nat} {S : Mem} {k j : Nat} {fs : List Value} {w x : Int64} (hj : fs[j]? = some (.long w)) : (fs.mapIdx (fvE loc S k)).set j (.long x) = fs.mapIdx (fvE loc (sL S k j x) k) := by
  apply List.ext_getElem?
  intro a
  have hl : j < fs.length := (List.getElem?_eq_some_iff.mp hj).1
  by_cases ha : a = j
  · subst ha
    rw [List.getElem?_set_self (by simpa using hl), List.getElem?_mapIdx, hj]
    simp [fvE, sL]
  · rw [List.getElem?_set_ne (Ne.symm ha), List.getElem?_mapIdx, List.getElem?_mapIdx]
    cases fs[a]? with
    | none => rfl
    | some u => cases u <;> simp [fvE, sL, ha]
/-! the words, and what lies outside the world -/
def lw_good : List Cond := lw_tbl.filter goodWord
theorem lw_goodIn : GoodIn lw_tbl lw_good := fun w h => ⟨(List.mem_filter.mp h).1, good_of_word (List.mem_filter.mp h).2⟩
theorem lw_goodG : GoodIn lw_good lw_good := fun w h => ⟨h, good_of_word (List.mem_filter.mp h).2⟩
theorem wg {w : Cond} (h : w ∈ tables_1) (g : goodWord w = true) : w ∈ lw_good := List.mem_filter.mpr ⟨List.mem_append_right _ h, g⟩
theorem wg1 {w : Cond} (i : Nat) (h : tables_1_1[i]? = some w) (g : goodWord w = true) : w ∈ lw_good := wg (List.mem_append_left _ (List.mem_of_getElem? h)) g
theorem wg2 {w : Cond} (i : Nat) (h : tables_1_2[i]? = some w) (g : goodWord w = true) : w ∈ lw_good := wg (List.mem_append_right _ (List.mem_append_left _ (List.mem_of_getElem? h))) g
theorem wg3 {w : Cond} (i : Nat) (h : tables_1_3[i]? = some w) (g : goodWord w = true) : w ∈ lw_good := wg (List.mem_append_right _ (List.mem_append_right _ (List.mem_append_left _ (List.mem_of_getElem? h)))) g
theorem wg4 {w : Cond} (i : Nat) (h : tables_1_4[i]? = some w) (g : goodWord w = true) : w ∈ lw_good := wg (List.mem_append_right _ (List.mem_append_right _ (List.mem_append_right _ (List.mem_append_left _ (List.mem_of_getElem? h))))) g
theorem wg5 {w : Cond} (i : Nat) (h : tables_1_5[i]? = some w) (g : goodWord w = true) : w ∈ lw_good := wg (List.mem_append_right _ (List.mem_append_right _ (List.mem_append_right _ (List.mem_append_right _ (List.mem_append_left _ (List.mem_of_getElem? h)))))) g
theorem wg6 {w : Cond} (i : Nat) (h : tables_1_6[i]? = some w) (g : goodWord w = true) : w ∈ lw_good := wg (List.mem_append_right _ (List.mem_append_right _ (List.mem_append_right _ (List.mem_append_right _ (List.mem_append_right _ (List.mem_append_left _ (List.mem_of_getElem? h))))))) g
theorem wg7 {w : Cond} (i : Nat) (h : tables_1_7[i]? = some w) (g : goodWord w = true) : w ∈ lw_good := wg (List.mem_append_right _ (List.mem_append_right _ (List.mem_append_right _ (List.mem_append_right _ (List.mem_append_right _ (List.mem_append_right _ (List.mem_append_left _ (List.mem_of_getElem? h)))))))) g
theorem wg8 {w : Cond} (i : Nat) (h : tables_1_8[i]? = some w) (g : goodWord w = true) : w ∈ lw_good := wg (List.mem_append_right _ (List.mem_append_right _ (List.mem_append_right _ (List.mem_append_right _ (List.mem_append_right _ (List.mem_append_right _ (List.mem_append_right _ (List.mem_of_getElem? h)))))))) g
theorem wsel {q : MethodName × Nat} (i : Nat) (h : lw_privs[i]? = some q) (g : goodWord (Cond.selects q.1.cls q.1 q.1) = true) : Cond.selects q.1.cls q.1 q.1 ∈ lw_good := List.mem_filter.mpr ⟨List.mem_append_left _ (List.mem_map.mpr ⟨q, List.mem_of_getElem? h, rfl⟩), g⟩
