/-! constructors: the skeleton grows -/
def Ag (n : Nat) (loc loc' : Nat → Nat) : Prop := ∀ k, k < n ∨ 1000 ≤ k → loc' k = loc k
theorem Ag.rf {n : Nat} {loc : Nat → Nat} : Ag n loc loc := fun _ _ => rfl
theorem Ag.tr {n m : Nat} {a b c : Nat → Nat} (h1 : Ag n a b) (h2 : Ag m b c) (h : n ≤ m) : Ag n a c := fun k hk => (h2 k (by omega)).trans (h1 k hk)
def scv (n : Nat) (v : Value) : Prop := ∀ r, v = .ref r → r < n ∨ 1000 ≤ r
def scl (n : Nat) (vs : List Value) : Prop := ∀ v ∈ vs, scv n v
def scs (n : Nat) (sk : Skel) : Prop := ∀ c ∈ sk, scl n c.2.2
theorem scl_nil {n : Nat} : scl n [] := fun _ h => absurd h List.not_mem_nil
theorem scl_cons {n : Nat} {v : Value} {vs : List Value} (h : scv n v) (hs : scl n vs) : scl n (v :: vs) := fun w hw => by
  rcases List.mem_cons.mp hw with rfl | hw
  · exact h
  · exact hs w hw
theorem scv_ref {n r : Nat} (h : r < n ∨ 1000 ≤ r) : scv n (.ref r) := fun q hq => by cases hq; exact h
theorem scv_int {n : Nat} {x : Int32} : scv n (.int x) := fun _ h => by cases h
theorem scv_long {n : Nat} {x : Int64} : scv n (.long x) := fun _ h => by cases h
theorem scv_null {n : Nat} : scv n .null := fun _ h => by cases h
theorem scl_mono {n m : Nat} {vs : List Value} (hs : scl n vs) (h : n ≤ m) : scl m vs := fun v hv r hr => (hs v hv r hr).elim (fun q => Or.inl (Nat.lt_of_lt_of_le q h)) Or.inr
theorem scs_mono {n m : Nat} {sk : Skel} (hs : scs n sk) (h : n ≤ m) : scs m sk := fun c hc => scl_mono (hs c hc) h
theorem scs_app {n : Nat} {a b : Skel} (ha : scs n a) (hb : scs n b) : scs n (a ++ b) := fun c hc => (List.mem_append.mp hc).elim (ha c) (hb c)
theorem scs_nil {n : Nat} : scs n [] := fun _ h => absurd h List.not_mem_nil
theorem scs_cons {n : Nat} {c : Nat × Nat × List Value} {sk : Skel} (h : scl n c.2.2) (hs : scs n sk) : scs n (c :: sk) := fun w hw => by
  rcases List.mem_cons.mp hw with rfl | hw
  · exact h
  · exact hs w hw
theorem cv_ag {n : Nat} {loc loc' : Nat → Nat} {v : Value} (h : Ag n loc loc') (hv : scv n v) : cv loc' v = cv loc v := by
  cases v with
  | ref r => simp only [cv]; rw [h r (hv r rfl)]
  | _ => rfl
theorem map_ag {n : Nat} {loc loc' : Nat → Nat} {vs : List Value} (h : Ag n loc loc') (hs : scl n vs) : vs.map (cv loc') = vs.map (cv loc) := List.map_congr_left fun v hv => cv_ag h (hs v hv)
theorem cl_ag {n : Nat} {loc loc' : Nat → Nat} {ls : List (Nat × Value)} (h : Ag n loc loc') (hs : scl n (ls.map (·.2))) : cl loc' ls = cl loc ls := List.map_congr_left fun q hq => by rw [cv_ag h (hs q.2 (List.mem_map.mpr ⟨q, hq, rfl⟩))]
theorem fvE_ag {n : Nat} {loc loc' : Nat → Nat} {S : Mem} {k i : Nat} {v : Value} (h : Ag n loc loc') (hv : scv n v) : fvE loc' S k i v = fvE loc S k i v := by
  cases v with
  | ref r => simp only [fvE]; rw [h r (hv r rfl)]
  | _ => rfl
theorem mapIdx_congr {α β : Type} {f g : Nat → α → β} {l : List α} (h : ∀ i a, a ∈ l → f i a = g i a) : l.mapIdx f = l.mapIdx g := by
  apply List.ext_getElem?
  intro i
  rw [List.getElem?_mapIdx, List.getElem?_mapIdx]
  cases hi : l[i]? with
  | none => rfl
  | some a => simp [h i a (List.mem_of_getElem? hi)]
theorem cellE_ag {n : Nat} {cA : Nat → ClassId} {loc loc' : Nat → Nat} {S : Mem} {k : Nat} {c : Nat × Nat × List Value} (h : Ag n loc loc') (hc : scl n c.2.2) : cellE cA loc' S k c = cellE cA loc S k c := by
  have h1 : c.2.2.mapIdx (fvE loc' S k) = c.2.2.mapIdx (fvE loc S k) := mapIdx_congr fun i v hv => fvE_ag h (hc v hv)
  have h2 : qE loc' c.2.2 = qE loc c.2.2 := by
    funext j
    unfold qE
    cases hj : c.2.2[j]? with
    | none => rfl
    | some v =>
      cases v with
      | ref r => simp only; rw [h r (hc _ (List.mem_of_getElem? hj) r rfl)]
      | _ => rfl
  unfold cellE
  rw [h1, h2]
theorem conc_ag {n : Nat} {cA : Nat → ClassId} {loc loc' : Nat → Nat} {S : Mem} {sk : Skel} (h : Ag n loc loc') (hs : scs n sk) (hl : sk.length ≤ n) : conc cA loc' sk S = conc cA loc sk S := by
  apply List.ext_getElem?
  intro i
  unfold conc
  rw [List.getElem?_mapIdx, List.getElem?_mapIdx]
  cases hi : sk[i]? with
  | none => rfl
  | some c =>
    have hil := (List.getElem?_eq_some_iff.mp hi).1
    simp only [Option.map_some]
    rw [h i (Or.inl (by omega)), cellE_ag h (hs c (List.mem_of_getElem? hi))]
theorem conc_push {cA : Nat → ClassId} {loc : Nat → Nat} {S : Mem} {sk : Skel} {c : Nat × Nat × List Value} : conc cA loc (sk ++ [c]) S = conc cA loc sk S ++ [(loc sk.length, cellE cA loc S sk.length c)] := by
  unfold conc
  simp [List.mapIdx_append]
theorem Ext.ag {n : Nat} {A : Nat → Prop} {loc loc' : Nat → Nat} {s : State} {H : Heap} (h : Ag n loc loc') (hE : Ext A loc s H) : Ext A loc' s H := by
  have e : ∀ k, 1000 ≤ k → loc' k = loc k := fun k hk => h k (Or.inr hk)
  have e1 : (fun i => loc' (1010 + i)) = fun i => loc (1010 + i) := by funext i; exact e _ (by omega)
  have e2 : (fun i => loc' (1020 + i)) = fun i => loc (1020 + i) := by funext i; exact e _ (by omega)
  unfold Ext at hE ⊢
  rw [e 1000 (by omega), e 1001 (by omega), e 1002 (by omega), e 1010 (by omega), e 1011 (by omega), e 1030 (by omega), e1, e2]
  exact hE
theorem AC.ag {n0 : Nat} {X : XT} {loc loc' : Nat → Nat} {own : String} {cc : ByteArray} {ret : Option FieldType} {maxL d mc ms : Nat} (h : Ag n0 loc loc') (hX : AC X loc own cc ret maxL d mc ms) : AC X loc' own cc ret maxL d mc ms := by
  obtain ⟨p, l, e, R, s, m, args, below, meth, c, Q, A, G, cA, nL⟩ := X
  obtain ⟨h1, h2, h3, h4, h5, h6, h7, h8, h9, h10, h11, h12⟩ := hX
  exact ⟨h1, h2, h3, h4, h5, h6, h7, h8, h9, h10, h11, h12.ag h⟩
def Zf (S : Mem) (n : Nat) : Prop := ∀ k i, n ≤ k → S.1 k i = 0 ∧ S.2 k i = 0
theorem Zf.mono {S : Mem} {n m : Nat} (h : Zf S n) (hm : n ≤ m) : Zf S m := fun k i hk => h k i (by omega)
theorem Zf.sI {S : Mem} {n k i : Nat} {v : Int32} (h : Zf S n) (hk : k < n) : Zf (sI S k i v) n := fun q j hq => by
  have h1 := h q j hq
  have : ¬ (q = k ∧ j = i) := by omega
  simp only [_root_.Jvm.Pilot.@@N@@.sI, if_neg this]
  exact h1
theorem Zf.sL {S : Mem} {n k i : Nat} {v : Int64} (h : Zf S n) (hk : k < n) : Zf (sL S k i v) n := fun q j hq => by
  have h1 := h q j hq
  have : ¬ (q = k ∧ j = i) := by omega
  simp only [_root_.Jvm.Pilot.@@N@@.sL, if_neg this]
  exact h1
def isInit (X : XT) : Prop := match X with
  | (_, _, _, _, _, _, _, _, meth, _, _, _, _, _, _) => meth.name = "<init>"
section AWN
variable {X : XT} {loc : Nat → Nat} {own : String} {cc : ByteArray} {ret : Option FieldType} {maxL d mc ms : Nat} {sk : Skel} {k n pc : Nat} {ls : List (Nat × Value)} {stk : List Value} {S : Mem}
theorem aw_newO (hX : AC X loc own cc ret maxL d mc ms) {C : String} {T : u_T} {N ci ix : Nat} {ty : Nat → FieldType} {fs : List Value} (hc : vwCl[ci]? = some (C, T, N)) (hin : ∀ w ∈ u_ws C T N, w ∈ lw_good) (hty : ∀ k, k < N → parseFieldDescriptor (T k).2.2.1 = some (ty k)) (hw1 : Cond.classLink own ix C ∈ lw_good) (hw2 : Cond.instantiable C N ∈ lw_good) (hw3 : Cond.initialized C ∈ lw_good)
    (hfs : ∀ j, j < N → defaultValue (ty j) = vp_V fs j) (hfz : ∀ (loc : Nat → Nat) (k : Nat), fs.mapIdx (fvE loc (fun _ _ => 0, fun _ _ => 0) k) = fs) (hz : Zf S sk.length) (hsk : scs sk.length sk) (hls : scl sk.length (ls.map (·.2))) (hst : scl sk.length stk) (h1000 : sk.length < 1000) (hcells : k + 1 ≤ mc) (hslots : n + N ≤ ms) (hdg : decode cc pc = .ok (.new ix, 3))
    (kk : ∀ loc', Ag sk.length loc loc' → AC X loc' own cc ret maxL d mc ms → AW X (sk ++ [(ci + 4, 0, fs)]) loc' (k + 1) (n + N) (pc + 3) ls (.ref sk.length :: stk) S) : AW X sk loc k n pc ls stk S := by
  have hX0 := hX
  obtain ⟨p, l, e, R, s, m, args, below, meth, c, Q, A, G, cA, nL⟩ := X
  obtain ⟨hx, hb, hr, hml, hnL, hR, hown, hts, hK, hlocks, hA, hE⟩ := hX
  intro H locs la hP hD hS hl
  subst hR
  refine va_new (c0 := c) (fs := fs) hx hb hts hin ty hty hown (hts _ hw1) (hts _ hw2) (hts _ hw3) hK hP hD hS hA hc hfs hcells hslots hdg (fun q H1 hP1 hD1 hS1 => ?_)
  have hag : Ag sk.length loc (fun j => if j = sk.length then q else loc j) := fun j hj => by
    have : ¬ j = sk.length := by omega
    simp only [if_neg this]
  have e1 : conc cA (fun j => if j = sk.length then q else loc j) (sk ++ [(ci + 4, 0, fs)]) S = conc cA loc sk S ++ [(q, .inr (ci, fs))] := by
    rw [conc_push, conc_ag hag hsk (Nat.le_refl _), cellE_obj]
    have h0 : fs.mapIdx (fvE (fun j => if j = sk.length then q else loc j) S sk.length) = fs := by
      rw [← hfz (fun j => if j = sk.length then q else loc j) sk.length]
      conv => lhs; rw [hfz]
      refine mapIdx_congr fun i v hv => ?_
      have hz1 := hz sk.length i (Nat.le_refl _)
      cases v <;> simp [fvE, hz1.1, hz1.2]
    rw [h0]
    simp
  rw [← e1] at hP1 hD1
  have hk1 := kk _ hag (AC.ag hag hX0) H1 locs la hP1 hD1 hS1 (by rw [cl_ag hag hls]; exact hl)
  rw [List.map_cons, map_ag hag hst] at hk1
  simpa [cv] using hk1
theorem aw_newA (hX : AC X loc own cc ret maxL d mc ms) {at' : ArrayType} {kd : Nat} {ty : FieldType} (hty : newarray.typeOf at' = ty) (hkd : (kd = 0 ∧ ty = .int) ∨ (kd = 1 ∧ ty = .boolean) ∨ (kd = 2 ∧ ty = .long)) (hw : Cond.arrayClass ty ∈ lw_good) {x : Int32} {N : Nat} (hx0 : ¬ x < 0) (hxN : x.toNatClampNeg = N) (hNb : N ≤ 10000)
    (hz : Zf S sk.length) (hsk : scs sk.length sk) (hls : scl sk.length (ls.map (·.2))) (hst : scl sk.length stk) (h1000 : sk.length < 1000) (hcells : k + 1 ≤ mc) (hslots : n + N ≤ ms) (hdg : decode cc pc = .ok (.newarray at', 2))
    (kk : ∀ loc', Ag sk.length loc loc' → AC X loc' own cc ret maxL d mc ms → AW X (sk ++ [(kd, N, [])]) loc' (k + 1) (n + N) (pc + 2) ls (.ref sk.length :: stk) S) : AW X sk loc k n pc ls (.int x :: stk) S := by
  have hX0 := hX
  obtain ⟨p, l, e, R, s, m, args, below, meth, c, Q, A, G, cA, nL⟩ := X
  obtain ⟨hx, hb, hr, hml, hnL, hR, hown, hts, hK, hlocks, hA, hE⟩ := hX
  intro H locs la hP hD hS hl
  subst hR
  have hb8 : N * componentBytes ty ≤ 536870912 := by
    rcases hkd with ⟨-, rfl⟩ | ⟨-, rfl⟩ | ⟨-, rfl⟩ <;> simp only [componentBytes] <;> omega
  have go : ∀ (a0 : vp_A), (∀ cA : ClassId, vp_cell cA a0 = arrV cA N (fun _ => defaultValue ty)) → (∀ loc2 : Nat → Nat, cellE cA loc2 S sk.length (kd, N, []) = .inl (cA kd, a0)) → (∃ t0 : Nat, (tysOf cA)[t0]? = some (cA kd, ty)) → (∀ c : ClassId, va_RA s c ty = (s.vm.findClass ("[" ++ ty.toString) = some c)) → W p l e (rmd d mc ms) s m args below meth c H locs k n Q (F0 m pc la (List.map (cv loc) (Value.int x :: stk))) := by
    intro a0 ha hcell ⟨t0, ht0⟩ hra
    refine va_newa (a0 := a0) (n := x) (N' := N) (rest := stk.map (cv loc)) hx hb (hts _ (by rw [hty]; exact hw)) hty hK hP hD hS hA ha hx0 hxN hb8 hcells hslots hdg (fun q cB H1 hK1 hP1 hD1 hS1 => ?_)
    have hB : cB = cA kd := by
      have h1 := (hK1.2 (tysOf cA).length (cB, ty) (by simp)).2
      have h2 := (hK.2 t0 _ ht0).2
      simp only at h1 h2
      rw [hra] at h1 h2
      exact Option.some.inj (h1.symm.trans h2)
    subst hB
    have hag : Ag sk.length loc (fun j => if j = sk.length then q else loc j) := fun j hj => by
      have : ¬ j = sk.length := by omega
      simp only [if_neg this]
    have e1 : conc cA (fun j => if j = sk.length then q else loc j) (sk ++ [(kd, N, [])]) S = conc cA loc sk S ++ [(q, .inl (cA kd, a0))] := by
      rw [conc_push, conc_ag hag hsk (Nat.le_refl _), hcell]
      simp
    rw [← e1] at hP1 hD1
    have hk1 := kk _ hag (AC.ag hag hX0) H1 locs la hP1 hD1 hS1 (by rw [cl_ag hag hls]; exact hl)
    rw [List.map_cons, map_ag hag hst] at hk1
    simpa [cv] using hk1
  have hzi : S.1 sk.length = fun _ => 0 := funext fun i => (hz _ i (Nat.le_refl _)).1
  have hzl : S.2 sk.length = fun _ => 0 := funext fun i => (hz _ i (Nat.le_refl _)).2
  rcases hkd with ⟨rfl, rfl⟩ | ⟨rfl, rfl⟩ | ⟨rfl, rfl⟩
  · exact go (N, .inl (fun _ => 0)) (fun _ => rfl) (fun _ => by simp [cellE, hzi]) ⟨0, rfl⟩ (fun _ => rfl)
  · exact go (N, .inl (fun _ => 0)) (fun _ => rfl) (fun _ => by simp [cellE, hzi]) ⟨1, rfl⟩ (fun _ => rfl)
  · exact go (N, .inr (.inl (fun _ => 0))) (fun _ => rfl) (fun _ => by simp [cellE, hzl]) ⟨2, rfl⟩ (fun _ => rfl)
theorem aw_newQ (hX : AC X loc own cc ret maxL d mc ms) {ix : Nat} (hw : Cond.classLink own ix "DollTruce$Law" ∈ lw_good) {x : Int32} {N : Nat} {vs : List Value} (hvs : ∀ v ∈ vs, v = .null) (hx0 : ¬ x < 0) (hxN : x.toNatClampNeg = N) (hNb : N ≤ 10000)
    (hsk : scs sk.length sk) (hls : scl sk.length (ls.map (·.2))) (hst : scl sk.length stk) (h1000 : sk.length < 1000) (hcells : k + 1 ≤ mc) (hslots : n + N ≤ ms) (hdg : decode cc pc = .ok (.anewarray ix, 3))
    (kk : ∀ loc', Ag sk.length loc loc' → AC X loc' own cc ret maxL d mc ms → AW X (sk ++ [(3, N, vs)]) loc' (k + 1) (n + N) (pc + 3) ls (.ref sk.length :: stk) S) : AW X sk loc k n pc ls (.int x :: stk) S := by
  have hX0 := hX
  obtain ⟨p, l, e, R, s, m, args, below, meth, c, Q, A, G, cA, nL⟩ := X
  obtain ⟨hx, hb, hr, hml, hnL, hR, hown, hts, hK, hlocks, hA, hE⟩ := hX
  intro H locs la hP hD hS hl
  subst hR
  refine va_newq (n := x) (N' := N) (rest := stk.map (cv loc)) hx hb hown (hts _ hw) hE.2.2.2.2.2.2.2.2.2.2.2.2 hK hP hD hS hA hx0 hxN (by omega) hcells hslots hdg (fun q cB H1 hK1 hP1 hD1 hS1 => ?_)
  have hB : cB = cA 3 := by
    have h1 := (hK1.2 (tysOf cA).length (cB, .object "DollTruce$Law") (by simp)).2
    have h2 := (hK.2 3 _ rfl).2
    obtain ⟨-, -, -, -, -, h1⟩ := h1
    obtain ⟨-, -, -, -, -, h2⟩ := h2
    exact Option.some.inj (h1.symm.trans h2)
  subst hB
  have hag : Ag sk.length loc (fun j => if j = sk.length then q else loc j) := fun j hj => by
    have : ¬ j = sk.length := by omega
    simp only [if_neg this]
  have hq : ∀ loc2 : Nat → Nat, qE loc2 vs = fun _ => none := fun loc2 => by
    funext j
    unfold qE
    cases hj : vs[j]? with
    | none => rfl
    | some v => rw [hvs v (List.mem_of_getElem? hj)]
  have e1 : conc cA (fun j => if j = sk.length then q else loc j) (sk ++ [(3, N, vs)]) S = conc cA loc sk S ++ [(q, .inl (cA 3, N, .inr (.inr (.inr (.inr (fun _ => none))))))] := by
    rw [conc_push, conc_ag hag hsk (Nat.le_refl _)]
    simp [cellE, hq]
  rw [← e1] at hP1 hD1
  have hk1 := kk _ hag (AC.ag hag hX0) H1 locs la hP1 hD1 hS1 (by rw [cl_ag hag hls]; exact hl)
  rw [List.map_cons, map_ag hag hst] at hk1
  simpa [cv] using hk1
end AWN
