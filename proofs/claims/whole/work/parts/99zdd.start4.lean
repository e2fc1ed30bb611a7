/-! THE LAW 10: from its entry to its end -/
set_option maxHeartbeats 4000000 in
theorem whole_start {p : Program} {e : Env} {s : State} {m : MethodId} {below : List Frame} {meth : Method} {c : Code} (l : Launch) (hlt : l.stackTraces = false) {b L : Nat} {xs : Nat → Int32} (hL : L ≤ 3072) (C0 : lw_At p s m meth c b L xs) : W p l e room_1 s m #[Value.ref b] below meth c s.heap [] 0 0 (lw_Z below #[Value.ref b] s) (entryFrame m ([Value.ref b] : List Value).toArray 7) := by
  obtain ⟨hx, hb, hr, hml, hown0, htb, hX, hbl, hlocks, hgv⟩ := id C0
  have hown : s.vm.findClass RL = some m.cls := hown0
  have hts : ∀ w ∈ lw_good, w.before #[Value.ref b] s = true := fun w hw => htb w (List.mem_filter.mp hw).1
  obtain ⟨loc, hE⟩ := st_Ext htb hgv
  have hED := st_ExD htb hgv
  obtain ⟨G, cA, hK⟩ := st_K hts hE.2.2.2.2.2.2.2.2.2.2.2.2
  obtain ⟨A, hAe⟩ : ∃ A : Nat → Prop, A = fun q => s.heap.size ≤ q := ⟨_, rfl⟩
  rw [← hAe] at hE hED
  have hA : ∀ q : Nat, s.heap.size ≤ q → A q := fun q h => by rw [hAe]; exact h
  have hbA : ¬ A b := by rw [hAe]; exact Nat.not_le.mpr hbl
  have hS : va_S A s.heap s.heap [] := va_S.rf
  have hP : va_P G vwCl [] s.heap := fun k q h => by simp at h
  have hD : va_D A [] := ⟨fun i j p q h => by simp at h, fun k q h => by simp at h⟩
  have hl := lv_entry ([.ref b]) (n := 7) (Nat.le_of_ble_eq_true rfl)
  rw [lg_entry_eq]
  generalize (lg_sl ([.ref b]) ++ List.replicate (7 - (lg_sl ([.ref b])).length) Slot.unset).toArray = la at hl ⊢
  have hl : lv_has la 7 [(0, .ref b)] := hl
  obtain ⟨C, M, eC, eM, hCp⟩ := first_Cp (S := Mz0) (S' := Mz0) (Zfz0 1) (Zfz0 0)
  refine va_new (c0 := c) (ci := 9) (fs := fs9_0) (C := RX9) (T := TX9) (N := 10) hx hb hts inGX9 tyX9 tyX9_ok hown (hts _ (wg1 23 rfl rfl)) (hts _ (wg1 24 rfl rfl)) (hts _ kw_1_1) hK hP hD hS hA rfl df9 (Nat.le_of_ble_eq_true rfl) (Nat.le_of_ble_eq_true rfl) dL_law_0 (fun q0 H hP hD hS => ?_)
  refine lv_dup hx hb dL_law_3 rfl ?_
  have hP : va_P G vwCl ([] ++ (conc cA (loc1 loc q0) skX9_0 Mz0 ++ [])) H := by rw [sk9_0]; exact hP
  have hD : va_D A ([] ++ (conc cA (loc1 loc q0) skX9_0 Mz0 ++ [])) := by rw [sk9_0]; exact hD
  refine lw_cI (loc := loc1 loc q0) hx hb hml hown hts hK hA (Ext.ag loc1_ag hE) (ci_X9_init (Zfz0 1) eC) ok_X9_init kwL_17 im_X9_init rfl (by decide) (Nat.le_of_ble_eq_true rfl) hP hD hS hl.1 dL_law_4 (Nat.le_of_ble_eq_true rfl) (Nat.le_of_ble_eq_true rfl) (fun lc H locs hag hP hD hS => ?_)
  have hE1 : Ext A lc s s.heap := Ext.ag hag (Ext.ag loc1_ag hE)
  have hc0 : lc 0 = q0 := hag 0 (Or.inl (by decide))
  rw [List.nil_append, List.append_nil] at hP hD
  refine lv_astore_n (lv' := [(1, .ref q0), (0, .ref b)]) hx hb dL_law_7 rfl hl (by decide) rfl (fun la hl => ?_)
  refine va_new (c0 := c) (ci := 10) (fs := fs10_0) (C := RX10) (T := TX10) (N := 58) hx hb hts inGX10 tyX10 tyX10_ok hown (hts _ (wg5 158 rfl rfl)) (hts _ (wg5 159 rfl rfl)) (hts _ kw_1_11) hK hP hD hS hA rfl df10 (Nat.le_of_ble_eq_true rfl) (Nat.le_of_ble_eq_true rfl) dL_law_8 (fun q1 H hP hD hS => ?_)
  refine lv_dup hx hb dL_law_11 rfl ?_
  have hP : va_P G vwCl (conc cA lc SKC C ++ (conc cA (loc1 loc q1) skX10_0 Mz0 ++ [])) H := by rw [sk10_0]; exact hP
  have hD : va_D A (conc cA lc SKC C ++ (conc cA (loc1 loc q1) skX10_0 Mz0 ++ [])) := by rw [sk10_0]; exact hD
  refine lw_cI (loc := loc1 loc q1) hx hb hml hown hts hK hA (Ext.ag loc1_ag hE) (ci_X10_init (Zfz0 1) eM) ok_X10_init kwL_20 im_X10_init rfl (by decide) (Nat.le_of_ble_eq_true rfl) hP hD hS hl.1 dL_law_12 (Nat.le_of_ble_eq_true rfl) (Nat.le_of_ble_eq_true rfl) (fun lm H locs hag2 hP hD hS => ?_)
  have hE2 : Ext A lm s s.heap := Ext.ag hag2 (Ext.ag loc1_ag hE)
  have hm0 : lm 0 = q1 := hag2 0 (Or.inl (by decide))
  rw [List.append_nil] at hP hD
  refine lv_astore_n (lv' := [(2, .ref q1), (1, .ref q0), (0, .ref b)]) hx hb dL_law_15 rfl hl (by decide) rfl (fun la hl => ?_)
  refine lv_iconst (v := 1) hx hb dL_law_16 rfl ?_
  refine va_newa (ty := .long) (n := 1) (N' := 1) (a0 := (1, .inr (.inl (fun _ => 0)))) hx hb (hts _ (wg1 104 rfl rfl)) rfl hK hP hD hS hA (fun _ => rfl) (by decide) (by decide) (by decide) (Nat.le_of_ble_eq_true rfl) (Nat.le_of_ble_eq_true rfl) dL_law_17 (fun q cB H hK1 hP hD hS => ?_)
  have hcB : cB = cA 2 := by
    have h1 : va_RA s cB .long := (hK1.2 4 (cB, .long) rfl).2
    have h2 : va_RA s (cA 2) .long := (hK.2 2 _ rfl).2
    exact Option.some.inj (h1.symm.trans h2)
  subst hcB
  rw [List.append_assoc] at hP hD
  have hP : va_P G vwCl (lwW cA lc lm q C M (fun _ => 0)) H := hP
  have hD : va_D A (lwW cA lc lm q C M (fun _ => 0)) := hD
  refine lv_astore_n (lv' := [(3, .ref q), (2, .ref q1), (1, .ref q0), (0, .ref b)]) hx hb dL_law_19 rfl hl (by decide) rfl (fun la hl => ?_)
  refine lv_iconst (v := nI 0) hx hb dL_law_20 rfl ?_
  refine lv_istore (lv' := [(4, .int (nI 0)), (3, .ref q), (2, .ref q1), (1, .ref q0), (0, .ref b)]) hx hb dL_law_21 hl (by decide) rfl (fun la hl => ?_)
  have hl : lv_has la 7 (lsL b lc lm q 0) := by
    unfold lsL
    rw [hc0, hm0]
    exact lv_sub hl [4, 3, 2, 1, 0] rfl
  have hLC : LC (p, l, e, room_1, s, m, #[Value.ref b], below, meth, c, lw_Z below #[Value.ref b] s, A, G, cA, 7) lc lm b L xs := ⟨hx, hb, hml, rfl, hown, hts, hK, hA, hE1, hE2, hX, hbl, hbA⟩
  have kend : ∀ k n i C M o, k ≤ 10000 → n ≤ 100000 → LW (p, l, e, room_1, s, m, #[Value.ref b], below, meth, c, lw_Z below #[Value.ref b] s, A, G, cA, 7) lc lm q k n 1506 (lsL b lc lm q i) [] C M o := by
    intro k n i C M o hk hn H locs la hP hD hS hl
    refine lv_iconst (v := 1) hx hb dL_law_1506 rfl ?_
    refine va_forget (fun q hq => by have h := hS.2.2 q hq; rw [hAe] at h; exact h) ?_
    exact W.widen (k := 601024) (n := 7293034) (by omega) (by omega) (lw_ret hx hb hr hlocks dL_law_1507)
  exact L_loop hLC ⟨hlt, hED⟩ hL kend (L + 1) 0 _ _ C M (fun _ => 0) (by omega) (by omega) (Nat.le_of_ble_eq_true rfl) (Nat.le_of_ble_eq_true rfl) hCp H _ la hP hD hS hl
