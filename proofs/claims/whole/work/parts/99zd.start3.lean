/-! THE LAW 9: from its entry to its loop -/
section STW
def Mz0 : Mem := (fun _ _ => 0, fun _ _ => 0)
theorem Zfz0 (n : Nat) : Zf Mz0 n := fun _ _ _ => ⟨rfl, rfl⟩
theorem ok_X9_init : MOK yX9_init cX9_init 1 none 0 := ⟨wg1 27 rfl rfl, kw_1_1, by decide, by decide, by decide +kernel, by decide⟩
theorem im_X9_init : Cond.instanceMethod yX9_init ∈ lw_good := wg1 26 rfl rfl
theorem ok_X10_init : MOK yX10_init cX10_init 1 none 0 := ⟨wg5 162 rfl rfl, kw_1_11, by decide, by decide, by decide +kernel, by decide⟩
theorem im_X10_init : Cond.instanceMethod yX10_init ∈ lw_good := wg5 161 rfl rfl
variable {p : Program} {l : Launch} {e : Env} {s : State} {m : MethodId} {args : Array Value} {below : List Frame} {meth : Method} {c : Code} {H : Heap} {locs : List Loc} {cells slots : Nat} {Q : State → Prop}
variable {G : va_G} {cA : Nat → ClassId} {loc : Nat → Nat} {sk sk' : Skel} {S S' : Mem} {A : Nat → Prop} {wa : va_W}
theorem lw_cI {y : MethodName} {bytes : ByteArray} {mL ix d' mc' ms' pc : Nat} {la : Array Slot} {rest : List Value} (hx : p.tables.exec = Jvm.exec) (hb : c.code = code) (hml : c.maxLocals = 7) (hown : s.vm.findClass RL = some m.cls) (hts : ∀ w ∈ lw_good, w.before args s = true) (hK : va_K G vwCl (tysOf cA) s) (hA : ∀ q, s.heap.size ≤ q → A q) (hE : Ext A loc s s.heap)
    (hM : MetC y bytes mL d' mc' ms' [.ref 0] sk S sk' S') (hok : MOK y bytes mL none 0) (hw1 : Cond.methodLink RL ix y ∈ lw_good) (hw2 : Cond.instanceMethod y ∈ lw_good) (hyn : y.name = "<init>") (hd : d' ≤ 1000) (hcat : (rest.map fun v => v.category).sum ≤ 8)
    (hP : va_P G vwCl (wa ++ (conc cA loc sk S ++ [])) H) (hD : va_D A (wa ++ (conc cA loc sk S ++ []))) (hS : va_S A s.heap H locs) (hla : la.size = 7) (hdg : decode code pc = .ok (.invokespecial ix, 3)) (h0 : cells + mc' ≤ 601024) (h1 : slots + ms' ≤ 7293034)
    (kk : ∀ (loc' : Nat → Nat) (H1 : Heap) (locs1 : List Loc), Ag sk.length loc loc' → va_P G vwCl (wa ++ (conc cA loc' sk' S' ++ [])) H1 → va_D A (wa ++ (conc cA loc' sk' S' ++ [])) → va_S A s.heap H1 locs1 → W p l e room_1 s m args below meth c H1 locs1 (cells + mc') (slots + ms') Q (F0 m (pc + 3) la rest)) : W p l e room_1 s m args below meth c H locs cells slots Q (F0 m pc la (.ref (loc 0) :: rest)) := by
  have hPc := jn_P (wa := wa) (wc := conc cA loc sk S) hP
  have hDc := jn_D (wa := wa) (wc := conc cA loc sk S) hD
  have hF := jn_free (wa := wa) (wc := conc cA loc sk S) hD hS hA
  have hpre := aw_pre hPc hDc hS hA hK hE [.ref 0]
  have hcw : CallB room_1 s args RL ix y bytes mL none (wsA y bytes mL none) (rmd d' mc' ms') mc' ms' 0 := callB_of 0 hts (wsA_good hok) rfl rfl rfl (hts _ hok.2.1) (hts _ hw1) ⟨hok.2.2.1, hok.2.2.2.1, hok.2.2.2.2.1⟩ ⟨by show d' + 1 ≤ 2048; omega, by have h := hok.2.2.2.2.2; show 8 + (mL + 11) + 64 * d' ≤ 84000; omega⟩
  refine va_callv (va_runI (As := []) (rest := rest) (b := loc 0) ⟨hx, hb, hml, hown, hts⟩ (hM l G cA loc H.size) ⟨hcw, hyn, hts _ hw2⟩ ⟨aw_blind _ _, hpre⟩ rfl rfl hla rfl (lv_room hcat) hdg ⟨h0, h1⟩) hS (fun q _ h => hF q h) hF (fun u t H1 locs1 ht hvm hpost hB hz hk1 hS1 => ?_)
  obtain ⟨hP1, hK1, hD1⟩ := hB
  rw [ht] at hP1
  obtain ⟨hP2, hD2⟩ := jn_back (wa := wa) (wc := conc cA loc sk S) hP hD hF hk1 hP1 hD1
  exact kk u H1 locs1 hpost hP2 hD2 hS1
theorem fz_id {loc : Nat → Nat} {k : Nat} {fs : List Value} (h : ∀ v ∈ fs, v = .null ∨ v = .int 0) : fs.mapIdx (fvE loc Mz0 k) = fs := by
  apply List.ext_getElem?
  intro i
  rw [List.getElem?_mapIdx]
  cases hi : fs[i]? with
  | none => rfl
  | some v =>
    rcases h v (List.mem_of_getElem? hi) with rfl | rfl <;> rfl
def fs9_0 : List Value := [.null, .null, .null, .null, .null, .null, .null, .null, .null, .int 0]
def fs10_0 : List Value := [.int 0, .null, .int 0, .null, .null, .null, .null, .null, .null, .null, .null, .null, .null, .null, .null, .int 0, .int 0, .int 0, .int 0, .int 0, .int 0, .int 0, .int 0, .int 0, .int 0, .int 0, .int 0, .int 0, .null, .null, .int 0, .null, .null, .null, .null, .null, .null, .null, .null, .null, .int 0, .int 0, .int 0, .int 0, .int 0, .int 0, .null, .null, .null, .int 0, .int 0, .int 0, .null, .null, .null, .null, .null, .null]
theorem sk9_0 {loc : Nat → Nat} : conc cA loc skX9_0 Mz0 = [(loc 0, .inr (9, fs9_0))] := by
  show [(loc 0, cellE cA loc Mz0 0 (9 + 4, 0, fs9_0))] = _
  rw [cellE_obj, fz_id (by decide)]
theorem sk10_0 {loc : Nat → Nat} : conc cA loc skX10_0 Mz0 = [(loc 0, .inr (10, fs10_0))] := by
  show [(loc 0, cellE cA loc Mz0 0 (10 + 4, 0, fs10_0))] = _
  rw [cellE_obj, fz_id (by decide)]
theorem df9 : ∀ j, j < 10 → defaultValue (tyX9 j) = vp_V fs9_0 j := by decide +kernel
theorem df10 : ∀ j, j < 58 → defaultValue (tyX10 j) = vp_V fs10_0 j := by decide +kernel
def loc1 (loc : Nat → Nat) (q k : Nat) : Nat := if k = 0 then q else loc k
theorem loc1_ag {loc : Nat → Nat} {q : Nat} : Ag 0 loc (loc1 loc q) := fun k hk => by
  have : k ≠ 0 := by omega
  simp [loc1, this]
end STW
