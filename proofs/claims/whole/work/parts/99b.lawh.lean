/-! PURE 51: a law's E: each rule of the grammar, by the machine -/
section LAWH
variable {K V : Nat → Nat} {w i kn op j kn1 k : Nat} {l : List Nat} {r : GR} {p : Nat × Nat}
def gapp (l1 : List Nat) : GR → GR
  | .ok (j, kn, l) => .ok (j, kn, l1 ++ l)
  | .error p => .error p
def gsnc (k : Nat) : GR → GR
  | .ok (j, kn, l) => .ok (j, kn, l ++ [k])
  | .error p => .error p
theorem sg_c (k : Nat) : sg k ≤ 6 ∧ (sg k = 3 ↔ k = 19) ∧ (sg k = 4 ↔ 7 ≤ k ∧ k ≤ 12) ∧ (k < 7 → sg k = 0) ∧ (19 < k → sg k = 0) := by
  unfold sg
  split
  · omega
  · split
    · omega
    · split
      · omega
      · split
        · omega
        · split
          · omega
          · split <;> omega
theorem pre_up (hw : isLp w) {st : List Nat} (h : preL w k st) : preL (w + 1) k st ∧ sgT st < lv w := by
  unfold preL lv at *
  rcases hw with rfl | rfl | rfl | rfl
  · simp at h ⊢; omega
  · simp at h ⊢; omega
  · simp at h ⊢; omega
  · simp at h ⊢; omega
theorem lv_up (hw : isLp w) : lv w < lv (w + 1) := by
  rcases hw with rfl | rfl | rfl | rfl <;> decide
theorem fol_app {t : Nat} {pend q : List Nat} (h : fol t k pend) : fol t k (pend ++ q) := by
  obtain ⟨h1, h2, h3, h4, h5⟩ := h
  exact ⟨h1, h2, fun a b => chn_app (h3 a b), h4, h5⟩
theorem g_lvb (hw : isLp w) (h : Glv K V (w + 1) i kn op (.error p)) : Glv K V w i kn op (.error p) :=
  ⟨fun out st hp => h.1 out st (pre_up hw hp).1, True.intro⟩
theorem g_lv (hw : isLp w) (h : Glv K V (w + 1) i kn op (.ok (j, kn1, l))) (h2 : Glp K V w j kn1 op r) : Glv K V w i kn op (gapp l r) := by
  obtain ⟨h, e1, e2⟩ := h
  obtain ⟨h2, f2⟩ := h2
  refine ⟨fun out st hp => ?_, ?_⟩
  · obtain ⟨hp1, hp2⟩ := pre_up hw hp
    obtain ⟨out2, pend, hR, e, hpd, hf⟩ := h out st hp1
    have := h2 out2 pend st hp2 (fun x hx => Nat.le_of_lt (Nat.lt_of_lt_of_le (lv_up hw) (hpd x hx))) hf
    cases r with
    | error q => exact Rch_tr hR this
    | ok q =>
      obtain ⟨j2, kn2, l2⟩ := q
      obtain ⟨o3, p3, hR3, e3, hp3, hf3⟩ := this
      exact ⟨o3, p3, Rch_tr hR hR3, by rw [e3, e, List.append_assoc], hp3, hf3⟩
  · cases r with
    | error q => exact True.intro
    | ok q =>
      obtain ⟨j2, kn2, l2⟩ := q
      obtain ⟨f3, f4⟩ := f2
      refine ⟨by rw [f3, e1, List.length_append, Nat.add_assoc], fun rest c hr => ?_⟩
      rw [List.append_assoc]
      exact e2 _ c (f4 rest c hr)
theorem g_lpe (hw : isLp w) (h : sg (K i) ≠ lv w) : Glp K V w i kn op (.ok (i, kn, [])) := by
  refine ⟨fun out pend st h1 h2 h3 => ⟨out, pend, Rch_rf _, by rw [List.append_nil], h2, ?_⟩, rfl, fun rest c hr => hr⟩
  unfold fol at *
  obtain ⟨a1, a2, a3, a4, a5⟩ := h3
  rcases hw with rfl | rfl | rfl | rfl
  · exact ⟨fun _ => a1 (by omega), fun _ => a2 (by omega), fun _ => a3 (by omega), fun _ => a4 (by omega), fun _ => h⟩
  · exact ⟨fun _ => a1 (by omega), fun _ => a2 (by omega), fun _ => a3 (by omega), fun _ => h, fun x => absurd x (by omega)⟩
  · exact ⟨fun _ => a1 (by omega), fun _ => h, fun x => absurd x (by omega), fun x => absurd x (by omega), fun x => absurd x (by omega)⟩
  · exact ⟨fun _ => h, fun x => absurd x (by omega), fun x => absurd x (by omega), fun x => absurd x (by omega), fun x => absurd x (by omega)⟩
theorem lx_op (hw : isLp w) (h : sg (K i) = lv w) {out pend st : List Nat} (hs : sgT st < lv w) (hp : ∀ x, x ∈ pend → lv w ≤ sg x) :
    lx1 K V i out (pend ++ st) op kn false = if kn < 64 then some (.ok (i + 1, out ++ pend, K i :: st, op, kn + 1, true)) else some (.error 2) := by
  obtain ⟨c1, c2, c3, c4, c5⟩ := sg_c (K i)
  have hv : sg (K i) ≠ 0 ∧ sg (K i) ≠ 3 ∧ sg (K i) ≠ 4 := by
    rw [h]
    rcases hw with rfl | rfl | rfl | rfl <;> decide
  have k4 : K i ≠ 4 := fun e => hv.1 (c4 (by omega))
  have k6 : K i ≠ 6 := fun e => hv.1 (c4 (by omega))
  have k19 : K i ≠ 19 := fun e => hv.2.1 (c2.mpr e)
  unfold lx1
  rw [if_neg (show ¬ false = true from Bool.noConfusion), if_neg (fun e => k4 e.2), if_neg k6, if_neg hv.1, if_neg k19, if_neg hv.2.2, h, setl_app hs pend out hp]
theorem g_lpk (hw : isLp w) (h : sg (K i) = lv w) (hk : ¬ kn < 64) : Glp K V w i kn op (.error (2, i)) := by
  refine ⟨fun out pend st h1 h2 h3 => Rch_bd ?_, True.intro⟩
  rw [lx_op hw h h1 h2, if_neg hk]
theorem pre_op (hw : isLp w) (h : sg (K i) = lv w) {st : List Nat} (k : Nat) : preL (w + 1) k (K i :: st) := by
  unfold preL
  show sg (K i) < _ ∧ (_ → _ → 3 < sg (K i))
  rw [h]
  rcases hw with rfl | rfl | rfl | rfl
  · exact ⟨by decide, fun x => absurd x (by omega)⟩
  · exact ⟨by decide, fun x => absurd x (by omega)⟩
  · exact ⟨by decide, fun _ _ => by decide⟩
  · exact ⟨by decide, fun _ _ => by decide⟩
theorem g_lpb (hw : isLp w) (h : sg (K i) = lv w) (hk : kn < 64) (g : Glv K V (w + 1) (i + 1) (kn + 1) op (.error p)) : Glp K V w i kn op (.error p) := by
  refine ⟨fun out pend st h1 h2 h3 => ?_, True.intro⟩
  have := lx_op (V := V) (op := op) (kn := kn) (out := out) hw h h1 h2
  rw [if_pos hk] at this
  exact Rch_st this (g.1 _ _ (pre_op hw h _))
theorem wf_op (hk : 7 ≤ k) (hk2 : k < 20) (h19 : k ≠ 19) {rest : List Nat} {c : Nat} (h : wfK rest (c + 1)) : wfK (k :: rest) (c + 1 + 1) := by
  unfold wfK
  rw [if_pos hk2, if_neg h19]
  exact ⟨hk, by omega, h⟩
theorem sg_b (h : sg k ≠ 0) : 7 ≤ k ∧ k < 20 := by
  obtain ⟨c1, c2, c3, c4, c5⟩ := sg_c k
  exact ⟨by rcases Nat.lt_or_ge k 7 with z | z; exact absurd (c4 z) h; exact z, by rcases Nat.lt_or_ge 19 k with z | z; exact absurd (c5 z) h; omega⟩
theorem g_lp (hw : isLp w) (h : sg (K i) = lv w) (hk : kn < 64) (g : Glv K V (w + 1) (i + 1) (kn + 1) op (.ok (j, kn1, l))) (g2 : Glp K V w j kn1 op r) : Glp K V w i kn op (gapp (l ++ [K i]) r) := by
  obtain ⟨g, e1, e2⟩ := g
  obtain ⟨g2, f2⟩ := g2
  have hv : sg (K i) ≠ 0 ∧ K i ≠ 19 := by
    refine ⟨?_, fun e => ?_⟩
    · rw [h]; rcases hw with rfl | rfl | rfl | rfl <;> decide
    · have := (sg_c (K i)).2.1.mpr e
      rw [h] at this
      rcases hw with rfl | rfl | rfl | rfl <;> exact absurd this (by decide)
  refine ⟨fun out pend st h1 h2 h3 => ?_, ?_⟩
  · have st1 := lx_op (V := V) (op := op) (kn := kn) (out := out) hw h h1 h2
    rw [if_pos hk] at st1
    obtain ⟨out2, pend2, hR, e, hpd, hf⟩ := g (out ++ pend) (K i :: st) (pre_op hw h _)
    have hR' : Rch K V (i, out, pend ++ st, op, kn, false) (.ok (j, out2, (pend2 ++ [K i]) ++ st, op, kn1, false)) := by
      rw [List.append_assoc]
      exact Rch_st st1 hR
    have := g2 out2 (pend2 ++ [K i]) st h1 (fun x hx => by
      rcases List.mem_append.mp hx with z | z
      · exact Nat.le_of_lt (Nat.lt_of_lt_of_le (lv_up hw) (hpd x z))
      · rw [List.mem_singleton.mp z, h]; exact Nat.le_refl _) (fol_app hf)
    cases r with
    | error q => exact Rch_tr hR' this
    | ok q =>
      obtain ⟨j2, kn2, l2⟩ := q
      obtain ⟨o3, p3, hR3, e3, hp3, hf3⟩ := this
      refine ⟨o3, p3, Rch_tr hR' hR3, ?_, hp3, hf3⟩
      rw [e3, ← List.append_assoc, e]
      simp only [List.append_assoc]
  · cases r with
    | error q => exact True.intro
    | ok q =>
      obtain ⟨j2, kn2, l2⟩ := q
      obtain ⟨f3, f4⟩ := f2
      refine ⟨?_, fun rest c hr => ?_⟩
      · rw [f3, e1]
        simp only [List.length_append, List.length_singleton]
        omega
      · rw [List.append_assoc, List.append_assoc]
        refine e2 _ (c + 1) ?_
        have b := sg_b hv.1
        exact wf_op b.1 b.2 hv.2 (f4 rest c hr)
theorem g_nk (h : K i = 19) (hk : ¬ kn < 64) : Glv K V 2 i kn op (.error (2, i)) := by
  refine ⟨fun out st hp => Rch_bd ?_, True.intro⟩
  have : sgT st ≤ 3 := by have := hp.1; rw [if_pos rfl] at this; omega
  unfold lx1
  rw [if_pos rfl, if_neg (by omega), if_pos h, if_pos this, if_neg hk]
theorem g_n (h : K i = 19) (hk : kn < 64) (g : Glv K V 2 (i + 1) (kn + 1) op r) : Glv K V 2 i kn op (gsnc 19 r) := by
  obtain ⟨g, f⟩ := g
  refine ⟨fun out st hp => ?_, ?_⟩
  · have hs : sgT st ≤ 3 := by have := hp.1; rw [if_pos rfl] at this; omega
    have st1 : lx1 K V i out st op kn true = some (.ok (i + 1, out, 19 :: st, op, kn + 1, true)) := by
      unfold lx1
      rw [if_pos rfl, if_neg (by omega), if_pos h, if_pos hs, if_pos hk]
    have := g out (19 :: st) ⟨(by decide : sg 19 < 4), fun x => absurd x (by omega)⟩
    cases r with
    | error q => exact Rch_st st1 this
    | ok q =>
      obtain ⟨j2, kn2, l2⟩ := q
      obtain ⟨o3, p3, hR3, e3, hp3, hf3⟩ := this
      refine ⟨o3, p3 ++ [19], ?_, by rw [← List.append_assoc, e3, List.append_assoc], fun x hx => ?_, fol_app hf3⟩
      · rw [List.append_assoc]
        exact Rch_st st1 hR3
      · rcases List.mem_append.mp hx with z | z
        · exact hp3 x z
        · rw [List.mem_singleton.mp z]; decide
  · cases r with
    | error q => exact True.intro
    | ok q =>
      obtain ⟨j2, kn2, l2⟩ := q
      obtain ⟨f3, f4⟩ := f
      refine ⟨?_, fun rest c hr => ?_⟩
      · rw [f3]
        simp only [List.length_append, List.length_singleton]
        omega
      · rw [List.append_assoc]
        refine f4 _ c ?_
        show wfK (19 :: rest) (c + 1)
        unfold wfK
        rw [if_pos (by omega), if_pos rfl]
        exact ⟨by omega, by omega, hr⟩
theorem pre_c (h : K i ≠ 19) {st : List Nat} (hp : preL 2 (K i) st) : preL 3 (K i) st ∧ sgT st ≤ 3 := by
  have := hp.1
  rw [if_pos rfl] at this
  exact ⟨⟨by show sgT st < 5; omega, fun _ z => absurd z h⟩, by omega⟩
theorem g_cb (h : K i ≠ 19) (g : Glv K V 3 i kn op (.error p)) : Glv K V 2 i kn op (.error p) :=
  ⟨fun out st hp => g.1 out st (pre_c h hp).1, True.intro⟩
theorem g_ce (h : K i ≠ 19) (g : Glv K V 3 i kn op (.ok (j, kn1, l))) (hs : sg (K j) ≠ 4) : Glv K V 2 i kn op (.ok (j, kn1, l)) := by
  refine ⟨fun out st hp => ?_, g.2⟩
  obtain ⟨out2, pend, hR, e, hpd, ⟨a1, a2, a3, a4, a5⟩⟩ := g.1 out st (pre_c h hp).1
  exact ⟨out2, pend, hR, e, fun x hx => Nat.le_trans (by decide) (hpd x hx), fun _ => a1 (by omega), fun _ => a2 (by omega), fun _ z => absurd z hs, fun x => absurd x (by omega), fun x => absurd x (by omega)⟩
theorem lx_cmp (hs : sg (K j) = 4) {out pend st : List Nat} (h1 : sgT st ≤ 3) (hp : ∀ x, x ∈ pend → 5 ≤ sg x) :
    lx1 K V j out (pend ++ st) op kn false = if kn < 64 then some (.ok (j + 1, out ++ pend, K j :: st, op, kn + 1, true)) else some (.error 2) := by
  obtain ⟨c1, c2, c3, c4, c5⟩ := sg_c (K j)
  have b := c3.mp hs
  unfold lx1
  rw [if_neg (show ¬ false = true from Bool.noConfusion), if_neg (by omega), if_neg (by omega), if_neg (by omega), if_neg (by omega), if_pos hs, setl_app (s := 5) (by omega) pend out hp, if_neg (by show ¬ sgT st = 4; omega)]
theorem g_ck (h : K i ≠ 19) (g : Glv K V 3 i kn op (.ok (j, kn1, l))) (hs : sg (K j) = 4) (hk : ¬ kn1 < 64) : Glv K V 2 i kn op (.error (2, j)) := by
  refine ⟨fun out st hp => ?_, True.intro⟩
  obtain ⟨out2, pend, hR, e, hpd, hf⟩ := g.1 out st (pre_c h hp).1
  refine Rch_tr hR (Rch_bd ?_)
  rw [lx_cmp hs (pre_c h hp).2 hpd, if_neg hk]
theorem g_c (h : K i ≠ 19) (g : Glv K V 3 i kn op (.ok (j, kn1, l))) (hs : sg (K j) = 4) (hk : kn1 < 64) (g2 : Glv K V 3 (j + 1) (kn1 + 1) op r) : Glv K V 2 i kn op (gapp l (gsnc (K j) r)) := by
  obtain ⟨g, e1, e2⟩ := g
  obtain ⟨g2, f2⟩ := g2
  refine ⟨fun out st hp => ?_, ?_⟩
  · obtain ⟨out2, pend, hR, e, hpd, hf⟩ := g out st (pre_c h hp).1
    have st1 := lx_cmp (V := V) (op := op) (kn := kn1) (out := out2) hs (pre_c h hp).2 hpd
    rw [if_pos hk] at st1
    have := g2 (out2 ++ pend) (K j :: st) ⟨by show sg (K j) < 5; omega, fun _ _ => by show 3 < sg (K j); omega⟩
    cases r with
    | error q => exact Rch_tr hR (Rch_st st1 this)
    | ok q =>
      obtain ⟨j2, kn2, l2⟩ := q
      obtain ⟨o3, p3, hR3, e3, hp3, a1, a2, a3, a4, a5⟩ := this
      refine ⟨o3, p3 ++ [K j], ?_, ?_, fun x hx => ?_, fun _ => a1 (by omega), fun _ => a2 (by omega), fun _ _ => chn_c hs p3 hp3, fun x => absurd x (by omega), fun x => absurd x (by omega)⟩
      · rw [List.append_assoc]
        exact Rch_tr hR (Rch_st st1 hR3)
      · rw [← List.append_assoc, e3, e]
        simp only [List.append_assoc]
      · rcases List.mem_append.mp hx with z | z
        · exact Nat.le_trans (by decide) (hp3 x z)
        · rw [List.mem_singleton.mp z, hs]; decide
  · cases r with
    | error q => exact True.intro
    | ok q =>
      obtain ⟨j2, kn2, l2⟩ := q
      obtain ⟨f3, f4⟩ := f2
      refine ⟨?_, fun rest c hr => ?_⟩
      · rw [f3, e1]
        simp only [List.length_append, List.length_singleton]
        omega
      · rw [List.append_assoc, List.append_assoc]
        refine e2 _ c (f4 _ (c + 1) ?_)
        have b := sg_b (k := K j) (by omega)
        exact wf_op b.1 b.2 (fun e => by have := (sg_c (K j)).2.1.mpr e; omega) hr
theorem g_pk (h : K i = 5) (hk : ¬ op < 8) : Glv K V 5 i kn op (.error (2, i)) := by
  refine ⟨fun out st hp => Rch_bd ?_, True.intro⟩
  unfold lx1
  rw [if_pos rfl, if_pos h, if_neg hk]
theorem lx_par (h : K i = 5) (hk : op < 8) {out st : List Nat} : lx1 K V i out st op kn true = some (.ok (i + 1, out, 5 :: st, op + 1, kn, true)) := by
  unfold lx1
  rw [if_pos rfl, if_pos h, if_pos hk]
theorem pre_0 {st : List Nat} (k : Nat) : preL 0 k (5 :: st) := ⟨(by decide : sg 5 < 1), fun x => absurd x (by omega)⟩
theorem g_pb (h : K i = 5) (hk : op < 8) (g : Glv K V 0 (i + 1) kn (op + 1) (.error p)) : Glv K V 5 i kn op (.error p) :=
  ⟨fun out _ _ => Rch_st (lx_par h hk) (g.1 out _ (pre_0 _)), True.intro⟩
theorem lx_end {out pend st : List Nat} (hf : fol 0 (K j) pend) (h6 : K j ≠ 6) (h4 : ¬ (op = 0 ∧ K j = 4)) : lx1 K V j out (pend ++ st) op kn false = some (.error 1) := by
  obtain ⟨c1, c2, c3, c4, c5⟩ := sg_c (K j)
  obtain ⟨a1, a2, a3, a4, a5⟩ := hf
  unfold lx1
  rw [if_neg (show ¬ false = true from Bool.noConfusion), if_neg h4, if_neg h6]
  by_cases z : sg (K j) = 0
  · rw [if_pos z]
  · rw [if_neg z]
    by_cases y : K j = 19
    · rw [if_pos y]
    · rw [if_neg y]
      have q1 := a1 (by omega)
      have q2 := a2 (by omega)
      have q4 := a4 (by omega)
      have q5 := a5 (by omega)
      have : sg (K j) = 4 := by
        have : sg (K j) ≠ 3 := fun e => y (c2.mp e)
        omega
      rw [if_pos this, if_pos (setl_chn pend out (a3 (by omega) this))]
theorem g_px (h : K i = 5) (hk : op < 8) (g : Glv K V 0 (i + 1) kn (op + 1) (.ok (j, kn1, l))) (h6 : K j ≠ 6) : Glv K V 5 i kn op (.error (1, j)) := by
  refine ⟨fun out st _ => ?_, True.intro⟩
  obtain ⟨out2, pend, hR, e, hpd, hf⟩ := g.1 out (5 :: st) (pre_0 _)
  exact Rch_st (lx_par h hk) (Rch_tr hR (Rch_bd (lx_end hf h6 (by omega))))
theorem g_po (h : K i = 5) (hk : op < 8) (g : Glv K V 0 (i + 1) kn (op + 1) (.ok (j, kn1, l))) (h6 : K j = 6) : Glv K V 5 i kn op (.ok (j + 1, kn1, l)) := by
  refine ⟨fun out st _ => ?_, g.2⟩
  obtain ⟨out2, pend, hR, e, hpd, hf⟩ := g.1 out (5 :: st) (pre_0 _)
  have st1 : lx1 K V j out2 (pend ++ 5 :: st) (op + 1) kn1 false = some (.ok (j + 1, out2 ++ pend, st, op, kn1, false)) := by
    unfold lx1
    rw [if_neg (show ¬ false = true from Bool.noConfusion), if_neg (by omega), if_pos h6, if_neg (by omega), setl_app (s := 1) (st := 5 :: st) (show sg 5 < 1 by decide) pend out2 hpd]
    rfl
  refine ⟨out2 ++ pend, [], Rch_st (lx_par h hk) (Rch_tr hR (Rch_st st1 (Rch_rf _))), by rw [List.append_nil, e], fun x hx => (by cases hx), ?_⟩
  exact ⟨fun x => absurd x (by omega), fun x => absurd x (by omega), fun x => absurd x (by omega), fun x => absurd x (by omega), fun x => absurd x (by omega)⟩
theorem fol_5 : fol 5 k [] := ⟨fun x => absurd x (by omega), fun x => absurd x (by omega), fun x => absurd x (by omega), fun x => absurd x (by omega), fun x => absurd x (by omega)⟩
theorem g_n2 (h : K i = 2) (hk : ¬ (V i ≤ 9999 ∧ kn < 64)) : Glv K V 5 i kn op (.error (2, i)) := by
  refine ⟨fun out st hp => Rch_bd ?_, True.intro⟩
  unfold lx1
  rw [if_pos rfl, if_neg (by omega), if_neg (by omega), if_pos h]
  by_cases z : V i ≤ 9999
  · rw [if_pos z, if_neg (fun y => hk ⟨z, y⟩)]
  · rw [if_neg z]
theorem g_n1 (h : K i = 2) (hv : V i ≤ 9999) (hk : kn < 64) : Glv K V 5 i kn op (.ok (i + 1, kn + 1, [100 + V i])) := by
  refine ⟨fun out st hp => ⟨out ++ [100 + V i], [], Rch_st ?_ (Rch_rf _), List.append_nil _, fun x hx => (by cases hx), fol_5⟩, rfl, fun rest c hr => ?_⟩
  · unfold lx1
    rw [if_pos rfl, if_neg (by omega), if_neg (by omega), if_pos h, if_pos hv, if_pos hk]
    rfl
  · show wfK ((100 + V i) :: rest) c
    unfold wfK
    rw [if_neg (by omega), if_neg (by omega)]
    exact ⟨by omega, hr⟩
theorem g_a2 (h1 : 20 ≤ K i) (h2 : K i ≤ 26) (hk : ¬ kn < 64) : Glv K V 5 i kn op (.error (2, i)) := by
  refine ⟨fun out st hp => Rch_bd ?_, True.intro⟩
  unfold lx1
  rw [if_pos rfl, if_neg (by omega), if_neg (by omega), if_neg (by omega), if_neg (by omega), if_pos h2, if_neg hk]
theorem g_a1 (h1 : 20 ≤ K i) (h2 : K i ≤ 26) (hk : kn < 64) : Glv K V 5 i kn op (.ok (i + 1, kn + 1, [K i])) := by
  refine ⟨fun out st hp => ⟨out ++ [K i], [], Rch_st ?_ (Rch_rf _), List.append_nil _, fun x hx => (by cases hx), fol_5⟩, rfl, fun rest c hr => ?_⟩
  · unfold lx1
    rw [if_pos rfl, if_neg (by omega), if_neg (by omega), if_neg (by omega), if_neg (by omega), if_pos h2, if_pos hk]
    rfl
  · show wfK (K i :: rest) c
    unfold wfK
    rw [if_neg (by omega), if_pos (by omega)]
    exact ⟨h2, hr⟩
theorem g_a0 (h5 : K i ≠ 5) (h2 : K i ≠ 2) (ha : ¬ (20 ≤ K i ∧ K i ≤ 26)) : Glv K V 5 i kn op (.error (1, i)) := by
  refine ⟨fun out st hp => Rch_bd ?_, True.intro⟩
  unfold lx1
  rw [if_pos rfl, if_neg h5]
  by_cases z : K i = 19
  · have := hp.2 (by omega) z
    rw [if_pos z, if_neg (by omega)]
  · rw [if_neg z, if_neg h2]
    by_cases y : K i < 20
    · rw [if_pos y]
    · rw [if_neg y, if_neg (by omega)]
end LAWH
