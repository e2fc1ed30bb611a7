/-! THE LAW 7: what holds at its start -/
section STT
theorem wt1 {w : Cond} (i : Nat) (h : tables_1_1[i]? = some w) : w ∈ lw_tbl := List.mem_append_right _ (List.mem_append_left _ (List.mem_of_getElem? h))
theorem wt2 {w : Cond} (i : Nat) (h : tables_1_2[i]? = some w) : w ∈ lw_tbl := List.mem_append_right _ (List.mem_append_right _ (List.mem_append_left _ (List.mem_of_getElem? h)))
theorem wt3 {w : Cond} (i : Nat) (h : tables_1_3[i]? = some w) : w ∈ lw_tbl := List.mem_append_right _ (List.mem_append_right _ (List.mem_append_right _ (List.mem_append_left _ (List.mem_of_getElem? h))))
theorem wt5 {w : Cond} (i : Nat) (h : tables_1_5[i]? = some w) : w ∈ lw_tbl := List.mem_append_right _ (List.mem_append_right _ (List.mem_append_right _ (List.mem_append_right _ (List.mem_append_right _ (List.mem_append_left _ (List.mem_of_getElem? h))))))
theorem wt6 {w : Cond} (i : Nat) (h : tables_1_6[i]? = some w) : w ∈ lw_tbl := List.mem_append_right _ (List.mem_append_right _ (List.mem_append_right _ (List.mem_append_right _ (List.mem_append_right _ (List.mem_append_right _ (List.mem_append_left _ (List.mem_of_getElem? h)))))))
theorem st_nw : ∀ w ∈ nwL, w ∈ lw_tbl := by decide +kernel
theorem st_nt : ∀ w ∈ nwL, w.onTables = true := by decide +kernel
theorem st_ex : ∀ w ∈ exL, w ∈ lw_tbl := by decide +kernel
abbrev stF : List Cond := flatC (Jvm.Cond.and given_1 narrow_1)
variable {args : Array Value} {s : State} {A : Nat → Prop}
theorem st_eq {t : Term} {z : Int32} (h : (Cond.eq t (.int z)).before args s = true) : t.eval args s none [] s = some (.int z) := by
  cases hv : t.eval args s none [] s with
  | none => simp [Cond.before, Cond.holds, Cond.value, hv] at h
  | some w =>
    have hz : (Term.int z).eval args s none [] s = some (.int z) := rfl
    simp only [Cond.before, Cond.holds, Cond.value, hv, hz] at h
    cases w <;> simp_all
theorem st_f (hg : (Jvm.Cond.and given_1 narrow_1).before args s = true) (i : Nat) {w : Cond} (h : stF[i]? = some w) : w.before args s = true := flat_of_before _ hg _ (List.mem_of_getElem? h)
theorem st_row {C n : String} {f : Nat → Int32} (hl : (Cond.laysStatic C n "[I").before args s = true) (hini : (Cond.initialized C).before args s = true) (ha : (Cond.arrayOf (.static C n "[I") .int).before args s = true) (hlen : (Cond.eq (.length (.static C n "[I")) (.int 4)).before args s = true) (he : ∀ j, j < 4 → (Cond.eq (.elem (.static C n "[I") (.int (Int32.ofNat j))) (.int (f j))).before args s = true) (hA : ∀ a : Nat, a < s.heap.size → ¬ A a) : ∃ t, va_Z C n "[I" (.ref t) A s s.heap ∧ va_T .int t 4 (fun j => .int (f j)) A s s.heap := by
  obtain ⟨t, ht, hT⟩ := va_Tof (f := fun j => .int (f j)) (N := 4) (by decide) ha (st_eq hlen) (fun j hj => st_eq (he j hj)) hA
  exact ⟨t, va_Zof hl hini ht hA, hT⟩
abbrev stV (own : String) (ix : Nat) : Term := .field (.string own ix) "java/lang/String" "value" "[B"
def strAt (own : String) (ix N : Nat) (byt : List Int32) (a v : Nat) (args : Array Value) (A : Nat → Prop) (s : State) : Prop := (Term.string own ix).eval args s none [] s = some (.ref a) ∧ va_O "java/lang/String" a A s s.heap ∧ va_OF "java/lang/String" "coder" "B" (.int 0) a A s s.heap ∧ va_OF "java/lang/String" "value" "[B" (.ref v) a A s s.heap ∧ va_T .byte v N (fun j => .int (byt.getD j 0)) A s s.heap
theorem st_ref {t : Term} {nm : String} (h : (Cond.exactly t nm).before args s = true) : ∃ a, t.eval args s none [] s = some (.ref a) := by
  obtain ⟨a2, c, cA, kA, q1, q2, q3, q4, q5, q6, -⟩ := Cond.exactly_spec (args := args) (first := s) (o := none) (s := s) (idx := []) (t := t) (cls := nm) h
  exact ⟨a2, q1⟩
theorem st_str {own : String} {ix N : Nat} {byt : List Int32} (hN : N < 2 ^ 31) (hex : (Cond.exactly (.string own ix) "java/lang/String").before args s = true) (hco : (Cond.eq (.field (.string own ix) "java/lang/String" "coder" "B") (.int 0)).before args s = true) (har : (Cond.arrayOf (stV own ix) .byte).before args s = true) (hlen : (Cond.eq (.length (stV own ix)) (.int (Int32.ofNat N))).before args s = true) (hel : ∀ j, j < N → (Cond.eq (.elem (stV own ix) (.int (Int32.ofNat j))) (.int (byt.getD j 0))).before args s = true) (hA : ∀ a : Nat, a < s.heap.size → ¬ A a) : ∃ a v, strAt own ix N byt a v args A s := by
  obtain ⟨a, ha⟩ := st_ref hex
  obtain ⟨v, hv, hT⟩ := va_Tof (f := fun j => .int (byt.getD j 0)) (N := N) hN har (st_eq hlen) (fun j hj => st_eq (hel j hj)) hA
  exact ⟨a, v, ha, va_Oof hex ha hA, vk_OFof ha (st_eq hco) hA, vk_OFof ha hv hA, hT⟩
theorem st_apart {o1 o2 : String} {i1 i2 n1 n2 : Nat} {b1 b2 : List Int32} {a1 a2 v1 v2 : Nat} (h1 : strAt o1 i1 n1 b1 a1 v1 args A s) (h2 : strAt o2 i2 n2 b2 a2 v2 args A s) (hn : Int32.ofNat n1 ≠ Int32.ofNat n2) : a1 ≠ a2 := by
  rintro rfl
  obtain ⟨-, -, -, ⟨cf, k, i, f, cell, e1, e2, e3, e4, e5, e6⟩, ⟨c1, q1, -, -, -, q5, -⟩⟩ := h1
  obtain ⟨-, -, -, ⟨cf', k', i', f', cell', e1', e2', e3', e4', e5', e6'⟩, ⟨c2, r1, -, -, -, r5, -⟩⟩ := h2
  cases Option.some.inj (e1.symm.trans e1')
  cases Option.some.inj (e3.symm.trans e3')
  cases Option.some.inj (e5.symm.trans e5')
  cases Option.some.inj (q1.symm.trans r1)
  exact hn (q5.symm.trans r5)
theorem st_arr {ty : FieldType} (h : (Cond.arrayClass ty).before args s = true) : ∃ cA, ArrOfT s cA ty ∧ s.vm.findClass ("[" ++ ty.toString) = some cA := by
  obtain ⟨c, k, comp, h1, h2, h3⟩ := Cond.arrayClass_spec h
  exact ⟨c, fun n z => ⟨fun k h => (by cases h), k, h2, comp, h3⟩, h1⟩
theorem st_arq {C : String} (h : va_AO C s) : ∃ cA, ArrOfT s cA (.object C) ∧ va_RA s cA (.object C) := by
  obtain ⟨comp, c, k, h1, h2, h3, h4, h5⟩ := Cond.arrayOver_spec h
  exact ⟨c, fun n z => ⟨fun k h => (by cases h), k, h3, comp, h4⟩, k, comp, h3, h4, h1, h5⟩
end STT
