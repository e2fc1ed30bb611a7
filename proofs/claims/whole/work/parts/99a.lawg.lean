/-! PURE 50: a law's E: a grammar, and a machine with a row of what waits -/
section LAWG
variable {K V : Nat → Nat}
/-- how strong a sign is -/
def sg (k : Nat) : Nat := if 7 ≤ k ∧ k ≤ 12 then 4 else if k = 13 ∨ k = 14 then 5 else if k = 15 ∨ k = 16 then 6 else if k = 17 then 1 else if k = 18 then 2 else if k = 19 then 3 else 0
/-- the machine: token, row, what waits, open, knots, whether a part is wanted -/
abbrev LX : Type := Nat × List Nat × List Nat × Nat × Nat × Bool
def sgT : List Nat → Nat
  | [] => 0
  | x :: _ => sg x
def setl (s : Nat) : List Nat → List Nat → List Nat × List Nat
  | [], out => ([], out)
  | x :: st, out => if s ≤ sg x then setl s st (out ++ [x]) else (x :: st, out)
/-- none: the end; a fault; the next -/
def lx1 (K V : Nat → Nat) (i : Nat) (out st : List Nat) (op kn : Nat) (wt : Bool) : Option (Except Nat LX) :=
  if wt = true then
    (if K i = 5 then (if op < 8 then some (.ok (i + 1, out, 5 :: st, op + 1, kn, true)) else some (.error 2))
    else if K i = 19 then (if sgT st ≤ 3 then (if kn < 64 then some (.ok (i + 1, out, 19 :: st, op, kn + 1, true)) else some (.error 2)) else some (.error 1))
    else if K i = 2 then (if V i ≤ 9999 then (if kn < 64 then some (.ok (i + 1, out ++ [100 + V i], st, op, kn + 1, false)) else some (.error 2)) else some (.error 2))
    else if K i < 20 then some (.error 1)
    else if K i ≤ 26 then (if kn < 64 then some (.ok (i + 1, out ++ [K i], st, op, kn + 1, false)) else some (.error 2))
    else some (.error 1))
  else
    (if op = 0 ∧ K i = 4 then none
    else if K i = 6 then (if op = 0 then some (.error 1) else some (.ok (i + 1, (setl 1 st out).2, (setl 1 st out).1.tail, op - 1, kn, false)))
    else if sg (K i) = 0 then some (.error 1)
    else if K i = 19 then some (.error 1)
    else if sg (K i) = 4 then (if sgT (setl 5 st out).1 = 4 then some (.error 1) else if kn < 64 then some (.ok (i + 1, (setl 5 st out).2, K i :: (setl 5 st out).1, op, kn + 1, true)) else some (.error 2))
    else (if kn < 64 then some (.ok (i + 1, (setl (sg (K i)) st out).2, K i :: (setl (sg (K i)) st out).1, op, kn + 1, true)) else some (.error 2)))
abbrev RR : Type := Except (Nat × Nat) LX
def rcN (K V : Nat → Nat) : Nat → LX → RR → Prop
  | 0, s, r => r = .ok s
  | k + 1, s, r => match lx1 K V s.1 s.2.1 s.2.2.1 s.2.2.2.1 s.2.2.2.2.1 s.2.2.2.2.2 with
    | some (.ok s') => rcN K V k s' r
    | some (.error f) => r = .error (f, s.1)
    | none => False
def Rch (K V : Nat → Nat) (s : LX) (r : RR) : Prop := ∃ k, rcN K V k s r
theorem Rch_rf (s : LX) : Rch K V s (.ok s) := ⟨0, rfl⟩
theorem Rch_st {i op kn : Nat} {out st : List Nat} {wt : Bool} {s' : LX} {r : RR} (e : lx1 K V i out st op kn wt = some (.ok s')) (h : Rch K V s' r) : Rch K V (i, out, st, op, kn, wt) r := by
  obtain ⟨k, h⟩ := h
  refine ⟨k + 1, ?_⟩
  unfold rcN
  simp only [e]
  exact h
theorem Rch_bd {i op kn : Nat} {out st : List Nat} {wt : Bool} {f : Nat} (e : lx1 K V i out st op kn wt = some (.error f)) : Rch K V (i, out, st, op, kn, wt) (.error (f, i)) := by
  refine ⟨1, ?_⟩
  unfold rcN
  simp only [e]
theorem rcN_tr {s' : LX} {r : RR} (h' : Rch K V s' r) : ∀ k s, rcN K V k s (.ok s') → Rch K V s r := by
  intro k
  induction k with
  | zero =>
    intro s h
    cases h
    exact h'
  | succ k ih =>
    rintro ⟨i, out, st, op, kn, wt⟩ h
    unfold rcN at h
    simp only at h
    split at h
    · rename_i s1 e
      exact Rch_st e (ih s1 h)
    · cases h
    · exact absurd h id
theorem Rch_tr {s s' : LX} {r : RR} (h : Rch K V s (.ok s')) (h' : Rch K V s' r) : Rch K V s r := by
  obtain ⟨k, h⟩ := h
  exact rcN_tr h' k s h
/-- what the grammar says: the next token, knots, the row; or a fault and its token -/
abbrev GR : Type := Except (Nat × Nat) (Nat × Nat × List Nat)
/-- strength of a level -/
def lv (w : Nat) : Nat := if w = 0 then 1 else if w = 1 then 2 else if w = 2 then 3 else if w = 3 then 5 else if w = 4 then 6 else 7
def isLp (w : Nat) : Prop := w = 0 ∨ w = 1 ∨ w = 3 ∨ w = 4
def chn (pend : List Nat) : Prop := sgT (pend.dropWhile (fun x => decide (5 ≤ sg x))) = 4
def fol (t k : Nat) (pend : List Nat) : Prop := (t ≤ 4 → sg k ≠ 6) ∧ (t ≤ 3 → sg k ≠ 5) ∧ (t ≤ 2 → sg k = 4 → chn pend) ∧ (t ≤ 1 → sg k ≠ 2) ∧ (t ≤ 0 → sg k ≠ 1)
theorem setl_app {s : Nat} {st : List Nat} (hs : sgT st < s) : ∀ (pend out : List Nat), (∀ x, x ∈ pend → s ≤ sg x) → setl s (pend ++ st) out = (st, out ++ pend) := by
  intro pend
  induction pend with
  | nil =>
    intro out _
    rw [List.nil_append, List.append_nil]
    cases st with
    | nil => rfl
    | cons x st =>
      have hs : sg x < s := hs
      unfold setl
      rw [if_neg (by omega)]
  | cons y pend ih =>
    intro out h
    show (if s ≤ sg y then setl s (pend ++ st) (out ++ [y]) else (y :: (pend ++ st), out)) = _
    rw [if_pos (h y List.mem_cons_self), ih (out ++ [y]) (fun x hx => h x (List.mem_cons_of_mem y hx)), List.append_assoc]
    rfl
theorem setl_chn {st : List Nat} : ∀ (pend out : List Nat), chn pend → sgT (setl 5 (pend ++ st) out).1 = 4 := by
  intro pend
  induction pend with
  | nil => intro out h; exact absurd (show (0 : Nat) = 4 from h) (by decide)
  | cons y pend ih =>
    intro out h
    show sgT (if 5 ≤ sg y then setl 5 (pend ++ st) (out ++ [y]) else (y :: (pend ++ st), out)).1 = 4
    unfold chn at h
    rw [List.dropWhile_cons] at h
    by_cases z : 5 ≤ sg y
    · rw [if_pos z]
      rw [if_pos (by simpa using z)] at h
      exact ih _ h
    · rw [if_neg z]
      rw [if_neg (by simpa using z)] at h
      exact h
theorem chn_app {pend q : List Nat} (h : chn pend) : chn (pend ++ q) := by
  unfold chn at *
  induction pend with
  | nil => exact absurd (show (0 : Nat) = 4 from h) (by decide)
  | cons y pend ih =>
    rw [List.dropWhile_cons] at h
    rw [List.cons_append, List.dropWhile_cons]
    by_cases z : 5 ≤ sg y
    · rw [if_pos (by simpa using z)] at h ⊢
      exact ih h
    · rw [if_neg (by simpa using z)] at h ⊢
      exact h
theorem chn_c {k : Nat} (hk : sg k = 4) : ∀ pend : List Nat, (∀ x, x ∈ pend → 5 ≤ sg x) → chn (pend ++ [k]) := by
  intro pend
  induction pend with
  | nil =>
    intro _
    unfold chn
    rw [List.nil_append, List.dropWhile_cons, if_neg (by rw [hk]; decide)]
    exact hk
  | cons y pend ih =>
    intro h
    unfold chn
    rw [List.cons_append, List.dropWhile_cons, if_pos (by simpa using h y List.mem_cons_self)]
    exact ih (fun x hx => h x (List.mem_cons_of_mem y hx))
/-- a level may begin above what waits -/
def preL (t k : Nat) (st : List Nat) : Prop := sgT st < (if t = 2 then 4 else lv t) ∧ (3 ≤ t → k = 19 → 3 < sgT st)
/-- what the machine does for what the grammar says -/
def posL (K V : Nat → Nat) (t op : Nat) (s : LX) (st o : List Nat) : GR → Prop
  | .ok (j, kn1, l) => ∃ out2 pend, Rch K V s (.ok (j, out2, pend ++ st, op, kn1, false)) ∧ out2 ++ pend = o ++ l ∧ (∀ x, x ∈ pend → lv t ≤ sg x) ∧ fol t (K j) pend
  | .error p => Rch K V s (.error p)
/-- a row of so many knots, with one value more (d = 0), or as many (d = 1) -/
def wfG (d kn : Nat) : GR → Prop
  | .ok (_, kn1, l) => kn1 = kn + l.length ∧ ∀ rest c, wfK rest (c + 1) → wfK (l ++ rest) (c + d)
  | .error _ => True
def Glv (K V : Nat → Nat) (t i kn op : Nat) (r : GR) : Prop :=
  (∀ out st, preL t (K i) st → posL K V t op (i, out, st, op, kn, true) st out r) ∧ wfG 0 kn r
def Glp (K V : Nat → Nat) (t i kn op : Nat) (r : GR) : Prop :=
  (∀ out pend st, sgT st < lv t → (∀ x, x ∈ pend → lv t ≤ sg x) → fol (t + 1) (K i) pend → posL K V t op (i, out, pend ++ st, op, kn, false) st (out ++ pend) r) ∧ wfG 1 kn r
end LAWG
