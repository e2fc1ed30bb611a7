/-! worlds side by side: a callee's cells wc between wa and wb -/
section JN
variable {A : Nat → Prop} {G : va_G} {wa wc wb w1 : va_W} {H H1 : Heap} {s : State} {locs : List Loc}
theorem jn_P (hP : va_P G vwCl (wa ++ (wc ++ wb)) H) : va_P G vwCl wc H := fun k q hq => hP (wa.length + k) q (by
  have hl := (List.getElem?_eq_some_iff.mp hq).1
  rw [List.getElem?_append_right (Nat.le_add_right _ _), Nat.add_sub_cancel_left, List.getElem?_append_left hl]; exact hq)
theorem jn_mem {ws : va_W} (hP : va_P G vwCl ws H) {q : Nat × va_E} (h : q ∈ ws) : va_at G vwCl q H := by
  obtain ⟨i, hi⟩ := List.getElem?_of_mem h
  exact hP i q hi
theorem jn_of {ws : va_W} (h : ∀ q ∈ ws, va_at G vwCl q H) : va_P G vwCl ws H := fun k q hq => h q (List.mem_of_getElem? hq)
theorem jn_D (hD : va_D A (wa ++ (wc ++ wb))) : va_D A wc := by
  have key : ∀ (k : Nat) (q : Nat × va_E), wc[k]? = some q → (wa ++ (wc ++ wb))[wa.length + k]? = some q := fun k q hq => by
    have hl := (List.getElem?_eq_some_iff.mp hq).1
    rw [List.getElem?_append_right (Nat.le_add_right _ _), Nat.add_sub_cancel_left, List.getElem?_append_left hl]; exact hq
  exact ⟨fun i j x y hi hj hxy => by have := hD.1 _ _ x y (key i x hi) (key j y hj) hxy; omega, fun k q hq => hD.2 _ q (key k q hq)⟩
theorem jn_free (hD : va_D A (wa ++ (wc ++ wb))) (hS : va_S A s.heap H locs) (hA : ∀ q, s.heap.size ≤ q → A q) : ∀ q, va_A wc H.size q → A q := by
  intro q h
  rcases h with ⟨k, e, h⟩ | h
  · exact (jn_D hD).2 k (q, e) h
  · exact hA q (Nat.le_trans hS.1 h)
theorem jn_back (hP : va_P G vwCl (wa ++ (wc ++ wb)) H) (hD : va_D A (wa ++ (wc ++ wb))) (hF : ∀ q, va_A wc H.size q → A q) (hk : ∀ q : Nat, q < H.size → ¬ va_A wc H.size q → H1[q]? = H[q]?) (hP1 : va_P G vwCl w1 H1) (hD1 : va_D (va_A wc H.size) w1) : va_P G vwCl (wa ++ (w1 ++ wb)) H1 ∧ va_D A (wa ++ (w1 ++ wb)) := by
  have at' : ∀ {ws : va_W} {i : Nat} {q : Nat × va_E}, ws[i]? = some q → q.1 = q.1 := fun _ => rfl
  have lc : ∀ (j : Nat) (q : Nat × va_E), wc[j]? = some q → (wa ++ (wc ++ wb))[wa.length + j]? = some q := fun k q hq => by
    have hl := (List.getElem?_eq_some_iff.mp hq).1
    rw [List.getElem?_append_right (Nat.le_add_right _ _), Nat.add_sub_cancel_left, List.getElem?_append_left hl]; exact hq
  have la : ∀ (j : Nat) (q : Nat × va_E), wa[j]? = some q → (wa ++ (wc ++ wb))[j]? = some q ∧ j < wa.length := fun j q hq => by
    have hl := (List.getElem?_eq_some_iff.mp hq).1
    exact ⟨by rw [List.getElem?_append_left hl]; exact hq, hl⟩
  have lb : ∀ (j : Nat) (q : Nat × va_E), wb[j]? = some q → (wa ++ (wc ++ wb))[wa.length + (wc.length + j)]? = some q := fun j q hq => by
    rw [List.getElem?_append_right (Nat.le_add_right _ _), Nat.add_sub_cancel_left, List.getElem?_append_right (Nat.le_add_right _ _), Nat.add_sub_cancel_left]; exact hq
  have outA : ∀ (j : Nat) (q : Nat × va_E), wa[j]? = some q → q.1 < H.size ∧ ¬ va_A wc H.size q.1 := fun j q hq => by
    obtain ⟨h1, h2⟩ := la j q hq
    have hlt := (hP _ q h1).lt
    refine ⟨hlt, fun h => ?_⟩
    rcases h with ⟨i, e, hi⟩ | h
    · have hil := (List.getElem?_eq_some_iff.mp hi).1
      have := hD.1 _ _ q (q.1, e) h1 (lc i _ hi) rfl
      omega
    · omega
  have outB : ∀ (j : Nat) (q : Nat × va_E), wb[j]? = some q → q.1 < H.size ∧ ¬ va_A wc H.size q.1 := fun j q hq => by
    have h1 := lb j q hq
    have hlt := (hP _ q h1).lt
    refine ⟨hlt, fun h => ?_⟩
    rcases h with ⟨i, e, hi⟩ | h
    · have hil := (List.getElem?_eq_some_iff.mp hi).1
      have := hD.1 _ _ q (q.1, e) h1 (lc i _ hi) rfl
      omega
    · omega
  have keepA : va_P G vwCl wa H1 := fun j q hq => (hP _ q (la j q hq).1).kept (hk _ (outA j q hq).1 (outA j q hq).2)
  have keepB : va_P G vwCl wb H1 := fun j q hq => (hP _ q (lb j q hq)).kept (hk _ (outB j q hq).1 (outB j q hq).2)
  refine ⟨va_P.app keepA (va_P.app hP1 keepB), ?_⟩
  have dA : va_D A wa := ⟨fun i j x y hi hj hxy => hD.1 i j x y (la i x hi).1 (la j y hj).1 hxy, fun k q hq => hD.2 _ q (la k q hq).1⟩
  have dB : va_D A wb := ⟨fun i j x y hi hj hxy => by have := hD.1 _ _ x y (lb i x hi) (lb j y hj) hxy; omega, fun k q hq => hD.2 _ q (lb k q hq)⟩
  have d1 : va_D A w1 := hD1.weaken (fun _ _ _ h => hF _ h)
  refine va_D.app dA (va_D.app d1 dB ?_) ?_
  · intro i j x y hx hy hxy
    exact (outB j y hy).2 (by rw [← hxy]; exact hD1.2 i x hx)
  · intro i j x y hx hy hxy
    rcases List.mem_append.mp (List.mem_of_getElem? hy) with h | h
    · obtain ⟨n, hn⟩ := List.getElem?_of_mem h
      exact (outA i x hx).2 (by rw [hxy]; exact hD1.2 n y hn)
    · obtain ⟨n, hn⟩ := List.getElem?_of_mem h
      obtain ⟨h1, h2⟩ := la i x hx
      have := hD.1 _ _ x y h1 (lb n y hn) hxy
      omega
end JN
/-- doll's contract -/
theorem c_X9_doll {l : Launch} (hl : l.stackTraces = false) {v1 v2 k r : Int32} {S Sf : Mem} (h : dollK v1 v2 S = some (k, r, Sf)) (G : va_G) (cA : Nat → ClassId) (loc : Nat → Nat) (sz : Nat) :
    vx_Met l yX9_doll (wsA yX9_doll cX9_doll 3 (some .int)) (rmd 6 1 6) (PreD G cA loc SKC S sz [.ref 0, .int v1, .int v2]) (QD G cA loc SKC (va_A (conc cA loc SKC S) sz) k r Sf) (XD G cA loc SKC (va_A (conc cA loc SKC S) sz) k Sf) 1 6 (va_A (conc cA loc SKC S) sz) := by
  refine vx_ofW (cc := cX9_doll) (maxL := 3) (ret := some .int) (by decide) rfl ?_
  intro p e s m args' below meth c s₁ B hml hex hv
  obtain ⟨⟨rfl, hsz, hP, hK, hD0, hE⟩, hED⟩ := hv
  have hts := atoms_spec (ws := wsA yX9_doll cX9_doll 3 (some .int)) B.pre
  have hown : s.vm.findClass yX9_doll.cls = some m.cls := findClass_of_methodNamed B.named
  subst hsz
  have hD := hD0.self (sz := s.heap.size)
  have hA : ∀ q : Nat, s.heap.size ≤ q → va_A (conc cA loc SKC S) s.heap.size q := fun q h => Or.inr h
  have hl2 := lv_entry (([.ref 0, .int v1, .int v2] : List Value).map (cv loc)) (n := 3) (Nat.le_of_ble_eq_true rfl)
  rw [lg_entry_eq]
  rw [cl_args] at hl2
  exact ad_body (X := (p, l, e, rmd 6 1 6, s, m, (([.ref 0, .int v1, .int v2] : List Value).map (cv loc)).toArray, below, meth, c, _, _, G, cA, 3)) (loc := loc) ⟨B.exec, B.bytes, B.returns, hml, rfl, rfl, hown, fun w h => hts w (List.mem_cons_of_mem _ h), hK, B.notSynchronized, hA, hE⟩ ⟨rfl, hl, hex, hED⟩ h s.heap [] _ hP hD va_S.rf hl2
