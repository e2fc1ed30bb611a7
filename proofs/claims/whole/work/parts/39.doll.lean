/-! DollTruce.doll, which may throw; the law's helper, which catches -/
abbrev exI : String := "java/lang/IndexOutOfBoundsException"
abbrev exN : String := "java/util/NoSuchElementException"
abbrev exNm : List String := ["java/lang/RuntimeException", "java/lang/Exception"]
def exL : List Cond := [.castable exI exI, .castable exN exN,
  .declares ⟨"java/lang/RuntimeException", "<init>", "()V"⟩, .declares ⟨"java/lang/RuntimeException", "<init>", "(Ljava/lang/String;)V"⟩, .declares ⟨"java/lang/Exception", "<init>", "()V"⟩, .declares ⟨"java/lang/Exception", "<init>", "(Ljava/lang/String;)V"⟩, .declares ⟨"java/lang/Throwable", "<init>", "()V"⟩, .declares ⟨"java/lang/Throwable", "<init>", "(Ljava/lang/String;)V"⟩]
def ExD (A : Nat → Prop) (U : State) (H : Heap) : Prop := (∀ w ∈ exL, va_Nw w U) ∧ vx_Zq Bundle.tN "UNASSIGNED_STACK" Bundle.steD A U H ∧ vx_Zq Bundle.tN "SUPPRESSED_SENTINEL" Bundle.listD A U H ∧ (∃ sa, vk_R "DollTruce" 141 "no such doll" sa U) ∧ (∃ sa, vk_R "DollTruce" 169 "no such what" sa U) ∧ va_Nc exN exI U
theorem ExD.to {A B : Nat → Prop} {s U : State} {H0 H : Heap} (h : ExD A s H0) (hk : ∀ a : Nat, a < H0.size → ¬ A a → H[a]? = H0[a]?) (hW : s.WarmedH U.vm) (hAB : ∀ q, B q → A q) : ExD B U H := by
  obtain ⟨h1, h2, h3, ⟨sa, h4⟩, ⟨sb, h5⟩, h6⟩ := h
  have hv := hW.alike
  refine ⟨fun w hw => ?_, ((h2.moved hv).kept hk).narrow hAB, ((h3.moved hv).kept hk).narrow hAB, ⟨sa, h4.warm hW⟩, ⟨sb, h5.warm hW⟩, h6.moved hv⟩
  have h0 := h1 w hw
  simp only [exL, List.mem_cons, List.not_mem_nil, or_false] at hw
  rcases hw with rfl | rfl | rfl | rfl | rfl | rfl | rfl | rfl <;> first | exact va_Nw.warmC hW h0 | exact va_Nw.warmD hW h0
theorem ExD.calling {A : Nat → Prop} {U : State} {g : JFrame} {mk : MethodId} {a : Array Value} (h : ExD A U U.heap) : ExD A (U.calling g mk a) (U.calling g mk a).heap := by
  obtain ⟨h1, h2, h3, ⟨sa, h4⟩, ⟨sb, h5⟩, h6⟩ := h
  have hv := Vm.Alike.refl U.vm
  refine ⟨fun w hw => ?_, h2.moved hv, h3.moved hv, ⟨sa, h4.same rfl⟩, ⟨sb, h5.same rfl⟩, h6.moved hv⟩
  have h0 := h1 w hw
  simp only [exL, List.mem_cons, List.not_mem_nil, or_false] at hw
  rcases hw with rfl | rfl | rfl | rfl | rfl | rfl | rfl | rfl <;> exact va_Nw.same (u := U) rfl rfl h0
theorem ex_gI : ∀ w ∈ (vx_atS RX9 143 exI exNm).filter goodWord, w ∈ lw_good := by decide +kernel
theorem ex_bI : ∀ w ∈ (vx_atS RX9 143 exI exNm).filter (fun w => !goodWord w), w ∈ exL := by decide +kernel
theorem ex_oI : ∀ w ∈ Cond.classLink RX9 139 exI :: Cond.initialized exI :: vx_atS RX9 143 exI exNm, vx_ot w = true := by decide +kernel
theorem ex_t : ∀ w ∈ exL, w.onTables = true := by decide +kernel
/-! NoSuchElementException's constructor links its super at pool place 13, where the library's law of such throws (ctorThrowS) has 7: the same walk with that first link of its own (it follows that law's proof) -/
abbrev nsR : String := "java/lang/RuntimeException"
abbrev nsC : ByteArray := prog_27_method_4_code
def nsTail (own : String) (ic : Nat) : List Cond := [.methodLink own ic (Bundle.initS exN), .instantiable exN 6, .castable exN exN, .selects exN Bundle.tFill0 Bundle.tFill0, .selects exN Bundle.tFill Bundle.tFill, .lays exN Bundle.tN "cause" "Ljava/lang/Throwable;", .lays exN Bundle.tN "stackTrace" Bundle.steD, .lays exN Bundle.tN "suppressedExceptions" Bundle.listD, .lays exN Bundle.tN "detailMessage" "Ljava/lang/String;", .isRef (.static Bundle.tN "UNASSIGNED_STACK" Bundle.steD), .isRef (.static Bundle.tN "SUPPRESSED_SENTINEL" Bundle.listD), .fieldLink Bundle.tN 198 Bundle.tN "backtrace" "Ljava/lang/Object;", .lays Bundle.tN Bundle.tN "backtrace" "Ljava/lang/Object;", .lays exN Bundle.tN "backtrace" "Ljava/lang/Object;"]
def nsAt (own : String) (ic : Nat) : List Cond := Bundle.throwableAtoms ++ (Bundle.throwableSAtoms ++ (Bundle.passSAtoms exN nsR 13 nsC ++ (Bundle.chainSAtoms nsR ["java/lang/Exception"] ++ nsTail own ic)))
theorem ns0 : decode nsC 0 = .ok (.aload_n 0, 1) := by decide +kernel
theorem ns1 : decode nsC 1 = .ok (.aload_n 1, 1) := by decide +kernel
theorem ns2 : decode nsC 2 = .ok (.invokespecial 13, 3) := by decide +kernel
theorem ns5 : decode nsC 5 = .ok (.return_, 1) := by decide +kernel
theorem ns_gN : ∀ w ∈ ((nsAt RX9 171).filter vx_no).filter goodWord, w ∈ lw_good := by decide +kernel
theorem ns_bN : ∀ w ∈ ((nsAt RX9 171).filter vx_no).filter (fun w => !goodWord w), w ∈ exL := by decide +kernel
theorem ns_oN : ∀ w ∈ Cond.classLink RX9 167 exN :: Cond.initialized exN :: (nsAt RX9 171).filter vx_no, vx_ot w = true := by decide +kernel
/-- what doll does: the kind of its end (0 an answer, 1, 2 a throw), the answer -/
def dollK (v1 v2 : Int32) (S : Mem) : Option (Int32 × Int32 × Mem) :=
  bnd (f_X9_isDoll v1 S) fun r2 S2 => if r2 = 0 then some (1, 0, S2) else
    if v2 = 0 then (rd S2 54 10 v1).bind fun x => some (0, x, S2) else
    if v2 = 1 then (rd S2 37 10 v1).bind fun x => some (0, x, S2) else
    if v2 = 2 then (rd S2 38 10 v1).bind fun x => some (0, x, S2) else
    if v2 = 3 then (rd S2 39 10 v1).bind fun x => some (0, x, S2) else
    if v2 = 4 then (rd S2 55 10 v1).bind fun x => some (0, x, S2) else
    if v2 = 5 then (rd S2 56 10 v1).bind fun x => some (0, x, S2) else
    if v2 = 6 then bnd (f_X8_isHeld 53 v1 S2) fun r S3 => if r = 0 then some (0, 0, S3) else some (0, 1, S3) else some (2, 0, S2)
def PreD (G : va_G) (cA : Nat → ClassId) (loc : Nat → Nat) (sk : Skel) (S : Mem) (sz : Nat) (args : List Value) : Array Value → State → Prop := fun a U => PreA G cA loc sk S sz args a U ∧ ExD (va_A (conc cA loc sk S) sz) U U.heap
/-- thrown: an E by kind, the world -/
def XD (G : va_G) (cA : Nat → ClassId) (loc : Nat → Nat) (sk : Skel) (A : Nat → Prop) (k : Int32) (S : Mem) : String → State → State → Prop := vx_X (fun (_ : Unit) => True) (fun E _ t => ((E = exI ∧ k = 1) ∨ (E = exN ∧ k = 2)) ∧ endB G cA loc sk S A t) A
def QD (G : va_G) (cA : Nat → ClassId) (loc : Nat → Nat) (sk : Skel) (A : Nat → Prop) (k r : Int32) (S : Mem) : Array Value → State → Outcome → State → Prop := va_Qi (fun (r' : Int32) (_ : Unit) => r' = r ∧ k = 0) (fun _ t => endB G cA loc sk S A t) A
section DOL
variable {X : XT} {loc : Nat → Nat} {pc : Nat} {ls : List (Nat × Value)} {stk : List Value} {S : Mem} {k r : Int32}
def RetD (X : XT) (loc : Nat → Nat) (k r : Int32) (S : Mem) : Prop := match X with
  | (_, l, _, _, s, _, args, below, _, c, Q, A, G, cA, _) => Q = vx_MQ below (QD G cA loc SKC A k r S) (XD G cA loc SKC A k S) args s 1 6 A ∧ l.stackTraces = false ∧ (∀ x ∈ c.exceptionTable.toList, False) ∧ ExD A s s.heap
theorem ad_ret (hX : AC X loc RX9 cX9_doll (some .int) 3 6 1 6) (hQ : RetD X loc 0 r S) (hdg : decode cX9_doll pc = .ok (.ireturn, 1)) : AW X SKC loc 0 0 pc ls [.int r] S := by
  obtain ⟨p, l, e, R, s, m, args, below, meth, c, Q, A, G, cA, nL⟩ := X
  obtain ⟨hx, hb, hr, hml, hnL, hR, hown, hts, hK, hlocks, hA, hE⟩ := hX
  obtain ⟨hQ, -, -, -⟩ := hQ
  subst hQ
  intro H locs la hP hD hS hl
  refine W.widen (k := 1) (n := 6) (by omega) (by omega) (vx_ret ?_)
  exact W.iret (v := r) hx hb hr (fun t ht hW => ⟨⟨r, (), rfl, ⟨rfl, rfl⟩, by rw [ht]; exact hP, va_K.moved hW.alike hK, hD⟩, hS.F ht⟩) hS.2.2 hdg
theorem ad_thr {E : String} {ik is ic : Nat} {tx : String} (hX : AC X loc RX9 cX9_doll (some .int) 3 6 1 6) (hQ : RetD X loc k r S) (hk : (E = exI ∧ k = 1) ∨ (E = exN ∧ k = 2)) (hfit : Bundle.fit E = true)
    (hw1 : Cond.classLink RX9 ik E ∈ lw_good) (hw2 : Cond.initialized E ∈ lw_good) (hstr : ∀ U : State, ∀ A H, ExD A U H → ∃ sa, vk_R "DollTruce" is tx sa U) (hg : ∀ w ∈ (vx_atS RX9 ic E exNm).filter goodWord, w ∈ lw_good) (hbd : ∀ w ∈ (vx_atS RX9 ic E exNm).filter (fun w => !goodWord w), w ∈ exL) (hot : ∀ w ∈ Cond.classLink RX9 ik E :: Cond.initialized E :: vx_atS RX9 ic E exNm, vx_ot w = true)
    (d0 : decode cX9_doll pc = .ok (.new ik, 3)) (d3 : decode cX9_doll (pc + 3) = .ok (.dup, 1)) (d4 : decode cX9_doll (pc + 4) = .ok (.ldc is, 2)) (d6 : decode cX9_doll (pc + 6) = .ok (.invokespecial ic, 3)) (d9 : decode cX9_doll (pc + 9) = .ok (.athrow, 1)) : AW X SKC loc 0 0 pc ls [] S := by
  obtain ⟨p, l, e, R, s, m, args, below, meth, c, Q, A, G, cA, nL⟩ := X
  obtain ⟨hx, hb, hr, hml, hnL, hR, hown, hts, hK, hlocks, hA, hE⟩ := hX
  obtain ⟨hQ, hst, hex, hED⟩ := hQ
  subst hQ
  subst hR
  intro H locs la hP hD hS hl
  obtain ⟨sa, hsa⟩ := hstr _ _ _ hED
  have hat : ∀ w ∈ vx_atS RX9 ic E exNm, w.before args s = true := vx_hat (fun w hw => hts w (hg w hw)) hbd (fun w hw => va_Nw.use (ex_t w hw) (hED.1 w hw))
  refine vx_throwS (names := exNm) (rest := []) (A := A) (text := tx) hx hb hst hown hfit (by decide) (hts _ hw1) (hts _ hw2) hsa hat hot hED.2.1 hED.2.2.1 hS (hl.1.trans (hnL.trans hml.symm)) d0 d3 d4 d6 d9 (fun x hx => absurd (hex x hx) id) ?_ ?_ ?_ ?_ hlocks ?_ hS.2.2 (by omega) (by omega)
  · show (2 : Nat) + 3 < 6; omega
  · show 0 + (13 * (2 + 1) + 43) ≤ 64 * 6; omega
  · show 0 + 1 ≤ 1; omega
  · show 0 + 6 ≤ 6; omega
  · intro t hv hz hkp
    refine ⟨(), trivial, ⟨hk, ?_, va_K.moved hv hK, hD⟩, ?_⟩
    · exact hP.kept (fun k q hq => hkp q.1 (hP k q hq).lt)
    · exact ⟨Nat.le_trans hS.1 hz, fun q h1 h2 => (hkp q (Nat.lt_of_lt_of_le h1 hS.1)).trans (hS.2.1 q h1 h2)⟩
end DOL
