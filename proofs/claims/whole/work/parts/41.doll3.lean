theorem kw_1_20 : (Cond.initialized "java/lang/IndexOutOfBoundsException") ∈ lw_good := wg1 20 rfl rfl
theorem kw_1_21 : (Cond.initialized "java/util/NoSuchElementException") ∈ lw_good := wg1 21 rfl rfl
theorem kw_5_142 : (Cond.classLink "DollTruce" (167 : Nat) "java/util/NoSuchElementException") ∈ lw_good := wg5 142 rfl rfl
theorem kw_5_76 : (Cond.classLink "DollTruce" (139 : Nat) "java/lang/IndexOutOfBoundsException") ∈ lw_good := wg5 76 rfl rfl
section TZ2
variable {p : Program} {l : Launch} {e : Env} {R : Room} {s : State} {m : MethodId} {args : Array Value} {below : List Frame} {meth : Method} {c : Code} {H : Heap} {locs : List Loc} {cells slots : Nat} {Q : State → Prop}
variable {mc ms : Nat} {free : Addr → Prop} {A0 A1 : Nat → Prop} {H0 : Heap} {a : Array Value} {ls : Array Slot} {st0 rest : List Value}
variable {Qc : Array Value → State → Outcome → State → Prop} {XC : String → State → State → Prop}
theorem tz_throw {cc : ByteArray} {pc : Nat} (hexec : p.tables.exec = Jvm.exec) (hb : c.code = cc) (hl : l.stackTraces = false) {own text : String} {ik is ic mc ms sa : Nat} {A : Nat → Prop}
    (hown : s.vm.findClass own = some m.cls) 
    (hk : (Cond.classLink own ik exN).before args s = true) (hini : (Cond.initialized exN).before args s = true) (hstr : vk_R own is text sa s) (hat : ∀ w ∈ (nsAt own ic).filter vx_no, w.before args s = true)
    (hgood : ∀ w ∈ Cond.classLink own ik exN :: Cond.initialized exN :: (nsAt own ic).filter vx_no, vx_ot w = true)
    (hU : vx_Zq Bundle.tN "UNASSIGNED_STACK" Bundle.steD A s s.heap) (hN : vx_Zq Bundle.tN "SUPPRESSED_SENTINEL" Bundle.listD A s s.heap) (hS : va_S A s.heap H locs) (hsize : ls.size = c.maxLocals)
    (d0 : decode cc pc = .ok (.new ik, 3)) (d3 : decode cc (pc + 3) = .ok (.dup, 1)) (d4 : decode cc (pc + 4) = .ok (.ldc is, 2)) (d6 : decode cc (pc + 6) = .ok (.invokespecial ic, 3)) (d9 : decode cc (pc + 9) = .ok (.athrow, 1))
    (hout : ∀ x ∈ c.exceptionTable.toList, covers x (pc + 9) = false)
    (hRframes : 2 + 3 < R.frames) (hRlocals : (rest.map fun v => v.category).sum + (13 * (2 + 1) + 43) ≤ R.locals) (hRcells : cells + 1 ≤ R.cells) (hRslots : slots + 6 ≤ R.slots) (hlocks : meth.locks = false)
    (hx : ∀ t : State, s.vm.Alike t.vm → H.size ≤ t.heap.size → (∀ q : Nat, q < H.size → t.heap[q]? = H[q]?) → XC exN s t)
    (hf : ∀ z ∈ locs, free z.base) (hc : cells + 1 ≤ mc) (hs : slots + 6 ≤ ms) :
    W p l e R s m args below meth c H locs cells slots (vx_MQ below Qc XC args s mc ms free) (F0 m pc ls rest) := by
  intro T hT X
  have htr : e.platform.stackTraces = false := (show e.platform.stackTraces = l.stackTraces by rw [X.admits.platform]).trans hl
  have Y := vx_rebase X (R' := { frames := R.frames, locals := R.locals, cells := 1, slots := 6 }) (Nat.le_refl _) (Nat.le_refl _) hRcells hRslots
  obtain ⟨s', hA⟩ : ∃ z, z = (T.setVm s.vm).setFrames (.invoking m args :: below) := ⟨_, rfl⟩
  rw [← hA] at Y
  have hvm : s'.vm = s.vm := by rw [hA]; rfl
  have hhp : s'.heap = H := by rw [hA]; exact hT
  have hW0 : s.WarmedH s'.vm := by rw [hvm]; exact State.WarmedH.refl s
  have hat' : ∀ w ∈ (nsAt own ic).filter vx_no, w.before args s' = true := fun w hw => vx_ot_at hW0 hvm.symm (hgood w (List.mem_cons_of_mem _ (List.mem_cons_of_mem _ hw))) (hat w hw)
  have hk' : (Cond.classLink own ik exN).before args s' = true := vx_ot_at hW0 hvm.symm (hgood _ List.mem_cons_self) hk
  have hini' : (Cond.initialized exN).before args s' = true := vx_ot_at hW0 hvm.symm (hgood _ (List.mem_cons_of_mem _ List.mem_cons_self)) hini
  have hU' : vx_Zq Bundle.tN "UNASSIGNED_STACK" Bundle.steD A s' s'.heap := by rw [hhp]; exact vx_Zq.moved hW0.alike (hU.kept hS.2.1)
  have hN' : vx_Zq Bundle.tN "SUPPRESSED_SENTINEL" Bundle.listD A s' s'.heap := by rw [hhp]; exact vx_Zq.moved hW0.alike (hN.kept hS.2.1)
  have h : ∀ w ∈ nsAt own ic, w.before args s' = true := vx_own hat' (vx_isRefq hU'.1) (vx_isRefq hN'.1) hU'.2.word hN'.2.word
  have hown' : s'.vm.findClass own = some m.cls := by rw [hvm]; exact hown
  have hins : (Cond.instantiable exN 6).before args s' = true := h _ (ns_5 _ (by simp [nsTail]))
  obtain ⟨vm₁, cX, kX, hfX, hkX, -, -, X₁, st1⟩ := Y.newCold hexec (own := own) (C := exN) (index := ik) (n := 6) hown' hk' hins hini'
    (g := F0 m pc ls rest) rfl (by rw [hb]; exact d0) (Nat.le_refl _) (Nat.le_refl _)
  generalize hT1 : (T.setVm vm₁).pushCell { cls := cX, slots := kX.instanceTypes.map defaultValue, vm := .none } = T1 at X₁ st1
  have hcat : (Value.ref T.heap.size).category = 1 := rfl
  have hcellA : T1.heap[T.heap.size]? = some (freshCell cX kX) := by rw [← hT1]; exact State.heap_pushCell_size _ _
  have d3' : decode c.code (pc + 3) = .ok (.dup, 1) := by rw [hb]; exact d3
  have d4' : decode c.code (pc + 4) = .ok (.ldc is, 2) := by rw [hb]; exact d4
  have hstr' : vk_R own is text sa s' := vk_R.warm hW0 hstr
  obtain ⟨U, hsteps, hrun, hend, hW, hsame, ce, hce, hO⟩ := tz_ctor X₁ hexec htr (own := own) (ic := ic) hown' h (fun x hx => nomatch hx) hfX hkX hcellA (by rw [hhp, hT]; exact Nat.le_refl _) (msg := .ref sa) rfl
    (g := { method := m, pc := pc + 6, locals := ls, stack := .ref sa :: .ref T.heap.size :: .ref T.heap.size :: rest, locked := none }) rfl hsize rfl rfl (rest := rest) rfl
    (by rw [hb]; exact d6) (by rw [hb]; exact d9) hout hRframes (by simp only [List.map_cons, List.sum_cons, hcat]; omega) hlocks
  obtain ⟨f1, f2⟩ := vx_frame hsame
  rw [hhp] at f1 f2
  have hWs : s.WarmedH U.vm := State.WarmedH.trans hW0 hW
  have hcl : s.vm.findClass exN = some ce.cls := by
    have h9 := hO.2
    rw [hvm] at h9
    exact h9
  have hall : s.sameButNew ({ U with vm := s.vm } : State) locs mc ms := by
    subst hA
    obtain ⟨e1, e2⟩ := hsame
    rw [State.setFrames_setFrames] at e1
    have h2 : (T.setVm s.vm).sameButNew ({ U with vm := s.vm } : State) [] (0 + 1) (0 + 6) := ⟨e1, e2⟩
    have h3 := X.same.trans h2
    rw [List.append_nil] at h3
    exact h3.mono hc hs
  refine ⟨U, ?_, .threw T.heap.size, hrun, hend, Or.inr ⟨T.heap.size, rfl, exN, ce, locs, hx U hWs.alike f1 (fun q hq => f2 q hq (fun z hz => nomatch hz)), hce, hO.1, hcl, hWs, hall, hf⟩⟩
  refine st1 _ ?_
  show Steps p.tables e below (T1.setTop { method := m, pc := pc + 3, locals := ls, stack := .ref T.heap.size :: rest, locked := none }) _
  jvm_step X₁.here [X₁.here.top, hexec, d3', Value.category]
  exact X₁.ldcString hexec (own := own) (text := text) (index := is) (a := sa) hown' hstr'.1 hstr'.2
    (g := { method := m, pc := pc + 4, locals := ls, stack := .ref T.heap.size :: .ref T.heap.size :: rest, locked := none }) rfl d4' _ hsteps
section DOL2
variable {X : XT} {loc : Nat → Nat} {pc : Nat} {ls : List (Nat × Value)} {S : Mem} {k r : Int32}
theorem ad_thrN {ik is ic : Nat} {tx : String} (hX : AC X loc RX9 cX9_doll (some .int) 3 6 1 6) (hQ : RetD X loc 2 r S) (hic : ic = 171) (hik : ik = 167)
    (hstr : ∀ U : State, ∀ A H, ExD A U H → ∃ sa, vk_R "DollTruce" is tx sa U) (hw1 : Cond.classLink RX9 167 exN ∈ lw_good) (hw2 : Cond.initialized exN ∈ lw_good)
    (d0 : decode cX9_doll pc = .ok (.new ik, 3)) (d3 : decode cX9_doll (pc + 3) = .ok (.dup, 1)) (d4 : decode cX9_doll (pc + 4) = .ok (.ldc is, 2)) (d6 : decode cX9_doll (pc + 6) = .ok (.invokespecial ic, 3)) (d9 : decode cX9_doll (pc + 9) = .ok (.athrow, 1)) : AW X SKC loc 0 0 pc ls [] S := by
  subst hic
  subst hik
  obtain ⟨p, l, e, R, s, m, args, below, meth, c, Q, A, G, cA, nL⟩ := X
  obtain ⟨hx, hb, hr, hml, hnL, hR, hown, hts, hK, hlocks, hA, hE⟩ := hX
  obtain ⟨hQ, hst, hex, hED⟩ := hQ
  subst hQ
  subst hR
  intro H locs la hP hD hS hl
  obtain ⟨sa, hsa⟩ := hstr _ _ _ hED
  have hat : ∀ w ∈ (nsAt RX9 171).filter vx_no, w.before args s = true := vx_hat (fun w hw => hts w (ns_gN w hw)) ns_bN (fun w hw => va_Nw.use (ex_t w hw) (hED.1 w hw))
  refine tz_throw (rest := []) (A := A) (text := tx) hx hb hst hown (hts _ hw1) (hts _ hw2) hsa hat ns_oN hED.2.1 hED.2.2.1 hS (hl.1.trans (hnL.trans hml.symm)) d0 d3 d4 d6 d9 (fun x hx => absurd (hex x hx) id) ?_ ?_ ?_ ?_ hlocks ?_ hS.2.2 (by omega) (by omega)
  · show (2 : Nat) + 3 < 6; omega
  · show 0 + (13 * (2 + 1) + 43) ≤ 64 * 6; omega
  · show 0 + 1 ≤ 1; omega
  · show 0 + 6 ≤ 6; omega
  · intro t hv hz hkp
    refine ⟨(), trivial, ⟨Or.inr ⟨rfl, rfl⟩, ?_, va_K.moved hv hK, hD⟩, ?_⟩
    · exact hP.kept (fun k q hq => hkp q.1 (hP k q hq).lt)
    · exact ⟨Nat.le_trans hS.1 hz, fun q h1 h2 => (hkp q (Nat.lt_of_lt_of_le h1 hS.1)).trans (hS.2.1 q h1 h2)⟩
set_option maxHeartbeats 4000000 in
set_option maxRecDepth 100000 in
theorem ad_body {v1 v2 : Int32} {S Sf : Mem} (hX : AC X loc RX9 cX9_doll (some .int) 3 6 1 6) (hQ : RetD X loc k r Sf) (h : dollK v1 v2 S = some (k, r, Sf)) : AW X SKC loc 0 0 0 [(0, .ref 0), (1, .int v1), (2, .int v2)] [] S := by
  unfold dollK at h
  refine aw_aload_n (pc := 0) hX dX9_doll_0 rfl 0 rfl ?_
  refine aw_iload_n (pc := 1) hX dX9_doll_1 rfl 1 rfl ?_
  obtain ⟨r2, S2, hr2, h⟩ := ob2 h
  refine aw_cVI (pc := 2) (As := [.int v1]) (rest := []) hX (c_X9_isDoll hr2) ok_X9_isDoll kw_3_206 im_X9_isDoll se_X9_isDoll rfl kc0 rfl (by decide) (Nat.le_of_ble_eq_true rfl) rfl dX9_doll_2 (by omega) (by omega) ?_
  refine aw_if_ne (pc := 5) hX (tgt := 18) dX9_doll_5 (by decide) (fun c5 => ?_) (fun c5 => ?_)
  · rw [if_neg c5] at h
    refine aw_iload_n (pc := 18) hX dX9_doll_18 rfl 2 rfl ?_
    by_cases c0 : v2 = 0
    · rw [if_pos c0] at h
      refine aw_tin (pc := 19) hX (v := 0) (off := 41) (tgt := 60) dX9_doll_19 c0 (by decide) (by decide) (by decide) (by decide) ?_
      refine aw_aload_n (pc := 60) hX dX9_doll_60 rfl 0 rfl ?_
      refine gf_X9_37 (pc := 61) hX kc0 rfl dX9_doll_61 ?_
      refine gf_X9_146 (pc := 64) hX isW53.1 rfl dX9_doll_64 ?_
      refine aw_iload_n (pc := 67) hX dX9_doll_67 rfl 1 rfl ?_
      obtain ⟨x, hx, h⟩ := ob h
      refine aw_iald (pc := 68) hX kc54 hx dX9_doll_68 ?_
      cases h
      exact ad_ret hX hQ dX9_doll_69
    rw [if_neg c0] at h
    by_cases c1 : v2 = 1
    · rw [if_pos c1] at h
      refine aw_tin (pc := 19) hX (v := 1) (off := 51) (tgt := 70) dX9_doll_19 c1 (by decide) (by decide) (by decide) (by decide) ?_
      refine aw_aload_n (pc := 70) hX dX9_doll_70 rfl 0 rfl ?_
      refine gf_X9_28 (pc := 71) hX kc0 rfl dX9_doll_71 ?_
      refine gf_X9_149 (pc := 74) hX isT31.1 rfl dX9_doll_74 ?_
      refine aw_iload_n (pc := 77) hX dX9_doll_77 rfl 1 rfl ?_
      obtain ⟨x, hx, h⟩ := ob h
      refine aw_iald (pc := 78) hX kc37 hx dX9_doll_78 ?_
      cases h
      exact ad_ret hX hQ dX9_doll_79
    rw [if_neg c1] at h
    by_cases c2 : v2 = 2
    · rw [if_pos c2] at h
      refine aw_tin (pc := 19) hX (v := 2) (off := 61) (tgt := 80) dX9_doll_19 c2 (by decide) (by decide) (by decide) (by decide) ?_
      refine aw_aload_n (pc := 80) hX dX9_doll_80 rfl 0 rfl ?_
      refine gf_X9_28 (pc := 81) hX kc0 rfl dX9_doll_81 ?_
      refine gf_X9_152 (pc := 84) hX isT31.1 rfl dX9_doll_84 ?_
      refine aw_iload_n (pc := 87) hX dX9_doll_87 rfl 1 rfl ?_
      obtain ⟨x, hx, h⟩ := ob h
      refine aw_iald (pc := 88) hX kc38 hx dX9_doll_88 ?_
      cases h
      exact ad_ret hX hQ dX9_doll_89
    rw [if_neg c2] at h
    by_cases c3 : v2 = 3
    · rw [if_pos c3] at h
      refine aw_tin (pc := 19) hX (v := 3) (off := 71) (tgt := 90) dX9_doll_19 c3 (by decide) (by decide) (by decide) (by decide) ?_
      refine aw_aload_n (pc := 90) hX dX9_doll_90 rfl 0 rfl ?_
      refine gf_X9_28 (pc := 91) hX kc0 rfl dX9_doll_91 ?_
      refine gf_X9_155 (pc := 94) hX isT31.1 rfl dX9_doll_94 ?_
      refine aw_iload_n (pc := 97) hX dX9_doll_97 rfl 1 rfl ?_
      obtain ⟨x, hx, h⟩ := ob h
      refine aw_iald (pc := 98) hX kc39 hx dX9_doll_98 ?_
      cases h
      exact ad_ret hX hQ dX9_doll_99
    rw [if_neg c3] at h
    by_cases c4 : v2 = 4
    · rw [if_pos c4] at h
      refine aw_tin (pc := 19) hX (v := 4) (off := 81) (tgt := 100) dX9_doll_19 c4 (by decide) (by decide) (by decide) (by decide) ?_
      refine aw_aload_n (pc := 100) hX dX9_doll_100 rfl 0 rfl ?_
      refine gf_X9_37 (pc := 101) hX kc0 rfl dX9_doll_101 ?_
      refine gf_X9_158 (pc := 104) hX isW53.1 rfl dX9_doll_104 ?_
      refine aw_iload_n (pc := 107) hX dX9_doll_107 rfl 1 rfl ?_
      obtain ⟨x, hx, h⟩ := ob h
      refine aw_iald (pc := 108) hX kc55 hx dX9_doll_108 ?_
      cases h
      exact ad_ret hX hQ dX9_doll_109
    rw [if_neg c4] at h
    by_cases c5 : v2 = 5
    · rw [if_pos c5] at h
      refine aw_tin (pc := 19) hX (v := 5) (off := 91) (tgt := 110) dX9_doll_19 c5 (by decide) (by decide) (by decide) (by decide) ?_
      refine aw_aload_n (pc := 110) hX dX9_doll_110 rfl 0 rfl ?_
      refine gf_X9_37 (pc := 111) hX kc0 rfl dX9_doll_111 ?_
      refine gf_X9_161 (pc := 114) hX isW53.1 rfl dX9_doll_114 ?_
      refine aw_iload_n (pc := 117) hX dX9_doll_117 rfl 1 rfl ?_
      obtain ⟨x, hx, h⟩ := ob h
      refine aw_iald (pc := 118) hX kc56 hx dX9_doll_118 ?_
      cases h
      exact ad_ret hX hQ dX9_doll_119
    rw [if_neg c5] at h
    by_cases c6 : v2 = 6
    · rw [if_pos c6] at h
      refine aw_tin (pc := 19) hX (v := 6) (off := 101) (tgt := 120) dX9_doll_19 c6 (by decide) (by decide) (by decide) (by decide) ?_
      refine aw_aload_n (pc := 120) hX dX9_doll_120 rfl 0 rfl ?_
      refine gf_X9_37 (pc := 121) hX kc0 rfl dX9_doll_121 ?_
      refine aw_iload_n (pc := 124) hX dX9_doll_124 rfl 1 rfl ?_
      obtain ⟨r3, S3, hr3, h⟩ := ob2 h
      refine aw_cVI (pc := 125) (As := [.int v1]) (rest := []) hX (c_X8_isHeld (sk := SKC) isW53 isT31 hr3) ok_X8_isHeld kw_3_210 im_X8_isHeld se_X8_isHeld rfl isW53.1 rfl (by decide) (Nat.le_of_ble_eq_true rfl) rfl dX9_doll_125 (by omega) (by omega) ?_
      refine aw_if_eq (pc := 128) hX (tgt := 135) dX9_doll_128 (by decide) (fun c8 => ?_) (fun c8 => ?_)
      · rw [if_pos c8] at h
        refine aw_iconst (v := (0 : Int32)) (pc := 135) hX dX9_doll_135 (by decide) ?_
        cases h
        exact ad_ret hX hQ dX9_doll_136
      · rw [if_neg c8] at h
        refine aw_iconst (v := (1 : Int32)) (pc := 131) hX dX9_doll_131 (by decide) ?_
        refine aw_goto (tgt := 136) (pc := 132) hX dX9_doll_132 (by decide) ?_
        cases h
        exact ad_ret hX hQ dX9_doll_136
    rw [if_neg c6] at h
    refine aw_tout (pc := 19) hX (tgt := 137) dX9_doll_19 (by have e0 := ne_i c0 (by decide : (0 : Int32).toInt = 0); have e1 := ne_i c1 (by decide : (1 : Int32).toInt = 1); have e2 := ne_i c2 (by decide : (2 : Int32).toInt = 2); have e3 := ne_i c3 (by decide : (3 : Int32).toInt = 3); have e4 := ne_i c4 (by decide : (4 : Int32).toInt = 4); have e5 := ne_i c5 (by decide : (5 : Int32).toInt = 5); have e6 := ne_i c6 (by decide : (6 : Int32).toInt = 6); omega) (by decide) ?_
    cases h
    exact ad_thrN (pc := 137) hX hQ rfl rfl (fun _ _ _ hE => hE.2.2.2.2.1) kw_5_142 kw_1_21 dX9_doll_137 dX9_doll_140 dX9_doll_141 dX9_doll_143 dX9_doll_146
  · rw [if_pos c5] at h
    cases h
    exact ad_thr (pc := 8) (E := exI) hX hQ (Or.inl ⟨rfl, rfl⟩) (by decide) kw_5_76 kw_1_20 (fun _ _ _ hE => hE.2.2.2.1) ex_gI ex_bI ex_oI dX9_doll_8 dX9_doll_11 dX9_doll_12 dX9_doll_14 dX9_doll_17
end DOL2
end TZ2
