/-! PURE 26: cares, their end -/
section CA2
variable {C M S : Mem} {N : TN} {T : WS} {L : LWS} {W : WS} {nu : Nat → Nat} {cf : Nat → Int32}
variable {kn : Nat} {o wk ht al : Nat → Int32} {dl : Nat → Nat} {st : Nat → Bool}
def fitB (N : TN) (T : WS) (L : LWS) (st : Nat → Bool) (o wk ht al : Nat → Int32) (dl : Nat → Nat) (kn l : Nat) (cg : Nat → Int32) : Bool :=
  (List.range l).all (fun t => soB st o wk ht al dl kn (sRun N T L (fun d => cg (N 5 d)) 0 (t + 1) (W0 N T)) (t + 1))
theorem fit_t {l : Nat} {cg : Nat → Int32} (h : ∀ t, t < l → soB st o wk ht al dl kn (sRun N T L (fun d => cg (N 5 d)) 0 (t + 1) (W0 N T)) (t + 1) = true) : fitB N T L st o wk ht al dl kn l cg = true := by
  unfold fitB
  rw [List.all_eq_true]
  exact fun t ht => h t (List.mem_range.mp ht)
theorem fit_f {l t : Nat} {cg : Nat → Int32} (ht' : t < l) (h : soB st o wk ht al dl kn (sRun N T L (fun d => cg (N 5 d)) 0 (t + 1) (W0 N T)) (t + 1) = false) : fitB N T L st o wk ht al dl kn l cg = false := by
  unfold fitB
  rw [List.all_eq_false]
  exact ⟨t, List.mem_range.mpr ht', by rw [h]; decide⟩
def setC (f : Nat → Int32) (j k : Nat) : Nat → Int32 := fun i => if i = j then nI k else f i
def mQ4 (S S' : Mem) : Prop := ∀ c i, ¬ mX c i → ¬ (c = 0 ∧ i = 44) → S'.1 c i = S.1 c i
theorem cares_C (hT : TC C N T L) (hI : TI N T L) (hn5 : nuI N (fun d => N 5 d)) (hk : kn ≤ 24) (hks : ∀ S : Mem, (∀ i, S.1 77 i = C.1 77 i) → f_X2_knownSize S = some (nI kn, S))
    (h78 : ∀ i, i < kn → C.1 78 i = o i ∧ ((∃ j, j < i ∧ o i = nI j) ∨ o i = -1)) (hn : ∀ i, i < kn → o i < 0 → C.1 79 i = wk i ∧ dl i < N 0 1 ∧ C.1 80 i = nI (dl i) ∧ C.1 81 i = ht i ∧ C.1 82 i = al i) {l : Nat} (hl : l ≤ 40) (el : itN (lwS (sK o kn (fun _ => false)) o wk) kn 0 = nI l) {v : Nat} (hv : v < N 0 0) :
    wp ((f_X2_strike C).bind fun S14 => f_X9_cares_21 FU (nI v) 0 0 S14) (fun q => q.1 = itN (fun k x => if fitB N T L (sK o kn (fun _ => false)) o wk ht al dl kn l (setC (caN N) v k) = true then x ||| (1 <<< (nI k &&& 31)) else x) 10 0 ∧ cQ C q.2) := by
  have hnd := hI.2.1
  have hnn := hI.1
  refine wp_call (strike_C hk hks h78) ?_
  rintro S0 ⟨s83, sQ, s0⟩
  generalize sK o kn (fun _ => false) = st at *
  refine lp0 (fun fuel i (s : Int32 × Mem) => f_X9_cares_21 fuel (nI v) s.1 i s.2) 10 (fun j s => s.1 = itN (fun k x => if fitB N T L st o wk ht al dl kn l (setC (caN N) v k) = true then x ||| (1 <<< (nI k &&& 31)) else x) j 0 ∧ cQ C s.2 ∧ (∀ i, i < 24 → s.2.1 83 i = b01 (st i))) (by omega) (0, S0) ⟨rfl, sQ, s83⟩ ?_ ?_
  · rintro fuel ⟨x, S⟩ ⟨hx, f, -⟩
    exact wp_pos (by decide) (wp_some ⟨hx, f⟩)
  · rintro fuel k ⟨x, S⟩ hk10 ⟨hx, f, f83⟩ ih
    simp only at hx f f83 ih
    show wp (f_X9_cares_21 (fuel + 1) (nI v) x (nI k) S) _
    unfold f_X9_cares_21
    refine wp_neg (show ¬ nI 9 < nI k from nI_nlt (by omega) (by omega)) ?_
    refine wp_call (begin_C (w := 69) (Or.inr rfl) (TC_q hT f) hI) ?_
    rintro S1 ⟨h1, f1⟩
    refine wp_wr v rfl (by omega) ?_
    have h2 : RC 69 (sI S1 73 v (nI k)) N (W0 N T) (fun d => N 5 d) (setC (caN N) v k) := by
      unfold RC setC at *
      simp only [sI1, sI2]
      grind
    have f2 : cQ C (sI S1 73 v (nI k)) := cQ_tr f (cQ_tr (cQ_t f1) (cQ_s (by omega) (by omega)))
    have g83 : ∀ i, i < 24 → (sI S1 73 v (nI k)).1 83 i = b01 (st i) := fun i hi => by rw [sI_off (by omega), f1.1 83 (by omega)]; exact f83 i hi
    generalize sI S1 73 v (nI k) = S2 at *
    -- all that is known
    have nk : ∀ {Z : Mem}, cQ C Z → f_X2_knownSize Z = some (nI kn, Z) := fun fz => hks _ (fun i => fz.1 77 i (by omega) (by omega))
    have n78 : ∀ {Z : Mem}, cQ C Z → ∀ i, i < kn → Z.1 78 i = o i := fun fz i hi => by rw [fz.1 78 i (by omega) (by omega)]; exact (h78 i hi).1
    have nn : ∀ {Z : Mem}, cQ C Z → ∀ i, i < kn → o i < 0 → Z.1 79 i = wk i ∧ dl i < N 0 1 ∧ Z.1 80 i = nI (dl i) ∧ Z.1 81 i = ht i ∧ Z.1 82 i = al i := fun fz i hi q => by
      rw [fz.1 79 i (by omega) (by omega), fz.1 80 i (by omega) (by omega), fz.1 81 i (by omega) (by omega), fz.1 82 i (by omega) (by omega)]; exact hn i hi q
    refine wp_bnd (Q := fun q => q.1 = b01 (fitB N T L st o wk ht al dl kn l (setC (caN N) v k)) ∧ cQ C q.2 ∧ ∀ i, i < 24 → q.2.1 83 i = b01 (st i)) ?_ ?_
    · unfold f_X2_areSoIn
      refine wp_bnde (last_C (wk := wk) hk (nk f2) g83 (n78 f2) (fun i hi q => (nn f2 i hi q).1)) ?_
      rw [el]
      refine lpF (fun fuel i Z => f_X2_areSoIn_7 69 fuel (nI l) i Z) 1 (l + 1) (fun t Z => 1 ≤ t ∧ RC 69 Z N (sRun N T L (fun d => setC (caN N) v k (N 5 d)) 0 (t - 1) (W0 N T)) (fun d => N 5 d) (setC (caN N) v k) ∧ cQ C Z ∧ (∀ i, i < 24 → Z.1 83 i = b01 (st i)) ∧ ∀ t', t' + 1 < t → soB st o wk ht al dl kn (sRun N T L (fun d => setC (caN N) v k (N 5 d)) 0 (t' + 1) (W0 N T)) (t' + 1) = true) (by omega) (by omega) S2 ⟨Nat.le_refl _, h2, f2, g83, fun t' h => absurd h (by omega)⟩ ?_ ?_
      · rintro fuel' Z ⟨-, z1, z2, z3, z4⟩
        show wp (f_X2_areSoIn_7 69 (fuel' + 1) (nI l) (nI (l + 1)) Z) _
        unfold f_X2_areSoIn_7
        refine wp_pos (nI_lt (by omega) (by omega)) (wp_some ⟨?_, z2, z3⟩)
        rw [fit_t (fun t ht => z4 t (by omega))]; rfl
      · rintro fuel' t Z ht' ⟨t1, z1, z2, z3, z4⟩ ih'
        try simp only at ih'
        show wp (f_X2_areSoIn_7 69 (fuel' + 1) (nI l) (nI t) Z) _
        unfold f_X2_areSoIn_7
        refine wp_neg (nI_nlt (by omega) (by omega)) ?_
        refine wp_call (run_RC (w := 69) (how := 0) (n := 1) (Or.inr rfl) (TC_q hT z2) hI z1 hn5 (Or.inl rfl) (by omega)) ?_
        rintro Y ⟨y1, fY⟩
        rw [run1, Nat.sub_add_cancel t1] at y1
        have y2 := cQ_tr z2 (cQ_69 fY)
        have y3 : ∀ i, i < 24 → Y.1 83 i = b01 (st i) := fun i hi => by rw [fY.1 83 (by omega)]; exact z3 i hi
        refine wp_bnde (so_C hnd hk (nk y2) y3 (n78 y2) (nn y2) y1) ?_
        unfold b01
        by_cases q : soB st o wk ht al dl kn (sRun N T L (fun d => setC (caN N) v k (N 5 d)) 0 t (W0 N T)) t = true
        · rw [if_pos q]
          refine wp_neg n10 ?_
          rw [nI_1]
          refine ih' Y ⟨by omega, y1, y2, y3, fun t' h => ?_⟩
          rcases (by omega : t' + 1 < t ∨ t' + 1 = t) with h' | h'
          · exact z4 t' h'
          · rw [h']; exact q
        · rw [if_neg q]
          refine wp_pos rfl (wp_some ⟨?_, y2, y3⟩)
          rw [Bool.not_eq_true] at q
          have e : t = (t - 1) + 1 := by omega
          rw [fit_f (t := t - 1) (by omega) (by rw [← e]; exact q)]; rfl
    · rintro r Z ⟨hr, z1, z2⟩
      simp only at hr z1 z2
      rw [itN_s, ← hx] at ih
      rw [hr]
      unfold b01
      by_cases q : fitB N T L st o wk ht al dl kn l (setC (caN N) v k) = true
      · rw [if_pos q] at ih ⊢
        refine wp_neg n10 ?_
        rw [nI_1]; exact ih (_, Z) ⟨rfl, z1, z2⟩
      · rw [if_neg q] at ih ⊢
        refine wp_pos rfl ?_
        rw [nI_1]; exact ih (_, Z) ⟨rfl, z1, z2⟩
theorem cares_M (hM : TM M N T L) (hI : TI N T L) (hn5 : nuI N (fun d => N 5 d)) (h43 : M.1 0 43 = 0) (h44 : M.1 0 44 = -1) (hk : kn ≤ 24) (hks : ∀ S : Mem, S.1 0 50 = M.1 0 50 → S.1 0 51 = M.1 0 51 → f_X10_knownMany S = some (nI kn, S))
    (h32 : ∀ i, i < kn → M.1 32 i = o i ∧ ((∃ j, j < i ∧ o i = nI j) ∨ o i = -1)) (hn : ∀ i, i < kn → o i < 0 → M.1 28 i = wk i ∧ dl i < N 0 1 ∧ M.1 29 i = nI (dl i) ∧ M.1 30 i = ht i ∧ M.1 31 i = al i) {l : Nat} (hl : l ≤ 40) (el : itN (lwS (sK o kn (fun _ => false)) o wk) kn 0 = nI l) {v : Nat} (hv : v < N 0 0) :
    wp (f_X10_cares_19 FU (nI v) 0 0 M) (fun q => q.1 = itN (fun k x => if fitB N T L (sK o kn (fun _ => false)) o wk ht al dl kn l (setC (caN N) v k) = true then x ||| (1 <<< (nI k &&& 31)) else x) 10 0 ∧ mQ M q.2) := by
  have hnd := hI.2.1
  have hnn := hI.1
  have oo : ∀ i, i < kn → o i = -1 ∨ ¬ o i < 0 := fun i hi => by
    rcases (h32 i hi).2 with ⟨j, hj, e⟩ | e
    · exact Or.inr (by rw [e]; exact nI_pos (by omega))
    · exact Or.inl e
  have kq : ∀ {Z : Mem}, mQ4 M Z → f_X10_knownMany Z = some (nI kn, Z) := fun fz => hks _ (fz 0 50 (by unfold mX chC; omega) (by omega)) (fz 0 51 (by unfold mX chC; omega) (by omega))
  have kk : ∀ {Z : Mem}, mQ M Z → mQ4 M Z := fun fz c i a _ => fz c i a
  refine lp0 (fun fuel i Z => f_X10_cares_19 fuel (nI v) 0 i Z) kn (fun j Z => (∀ i, i < j → Z.1 33 i = 0) ∧ mQ M Z) (by omega) M ⟨fun i hi => absurd hi (Nat.not_lt_zero i), mQ_rf _⟩ ?_ ?_
  · rintro fuel Z ⟨z1, z2⟩
    show wp (f_X10_cares_19 (fuel + 1) (nI v) 0 (nI kn) Z) _
    unfold f_X10_cares_19
    refine wp_bnde (kq (kk z2)) (wp_pos (Int32.le_refl _) ?_)
    refine wp_bnde (kq (kk z2)) ?_
    rw [sub1']
    refine lpD (fun fuel i (s : (Nat → Bool) × Mem) => f_X10_cares_47 fuel (nI v) 0 i s.2) (fun j s => j ≤ kn ∧ (∀ i, i < kn → s.2.1 33 i = b01 (s.1 i)) ∧ mQ M s.2 ∧ sK o j s.1 = sK o kn (fun _ => false)) ?_ ?_ kn FU (fun _ => false, Z) (by show kn < 2000; omega) ⟨Nat.le_refl _, fun i hi => z1 i hi, z2, rfl⟩
    · rintro fuel ⟨g, Y⟩ ⟨-, y1, y2, y3⟩
      simp only at y1 y2 y3
      have y3 : g = sK o kn (fun _ => false) := y3
      rw [← y3] at el ⊢
      show wp (f_X10_cares_47 (fuel + 1) (nI v) 0 (-1) Y) _
      unfold f_X10_cares_47
      refine wp_pos (by decide) ?_
      -- the last week
      refine lp0 (fun fuel i (x : Int32) => f_X10_cares_90 fuel (nI v) x i Y) kn (fun j x => x = itN (lwS g o wk) j 0) (by omega) 0 rfl ?_ ?_
      · rintro fuel' x hx
        show wp (f_X10_cares_90 (fuel' + 1) (nI v) x (nI kn) Y) _
        unfold f_X10_cares_90
        refine wp_bnde (kq (kk y2)) (wp_pos (Int32.le_refl _) (wp_nxt ?_))
        rw [hx, el]
        have f0 : mQ4 M (sI Y 0 44 (nI v)) := fun c i a b => by rw [sI1, if_neg b]; exact y2 c i a
        have g33 : ∀ i, i < kn → (sI Y 0 44 (nI v)).1 33 i = b01 (g i) := fun i hi => by rw [sI_off (by omega)]; exact y1 i hi
        have g44 : (sI Y 0 44 (nI v)).1 0 44 = nI v := by rw [sI1, if_pos ⟨rfl, rfl⟩]
        generalize sI Y 0 44 (nI v) = X at *
        refine lp0 (fun fuel i (s : Int32 × Mem) => f_X10_cares_144 fuel (nI l) s.1 i s.2) 10 (fun j s => s.1 = itN (fun k x => if fitB N T L g o wk ht al dl kn l (setC (caN N) v k) = true then x ||| (1 <<< (nI k &&& 31)) else x) j 0 ∧ mQ4 M s.2 ∧ s.2.1 0 44 = nI v ∧ (∀ i, i < kn → s.2.1 33 i = b01 (g i))) (by omega) (0, X) ⟨rfl, f0, g44, g33⟩ ?_ ?_
        · rintro fuel2 ⟨u, R⟩ ⟨hu, r1, r2, r3⟩
          simp only at hu r1 r2 r3
          refine wp_pos (by decide) (wp_nxt (wp_some ⟨hu, fun c i a => ?_⟩))
          rw [sI1]
          by_cases q : c = 0 ∧ i = 44
          · rw [if_pos q, q.1, q.2, h44]
          · rw [if_neg q]; exact r1 c i a q
        · rintro fuel2 k ⟨u, R⟩ hk10 ⟨hu, r1, r2, r3⟩ ih2
          simp only at hu r1 r2 r3 ih2
          show wp (f_X10_cares_144 (fuel2 + 1) (nI l) u (nI k) R) _
          unfold f_X10_cares_144
          refine wp_neg (show ¬ nI 9 < nI k from nI_nlt (by omega) (by omega)) ?_
          refine wp_nxt ?_
          have q1 : mQ4 M (sI R 0 45 (nI k)) := fun c i a b => by rw [sI1, if_neg (fun e => a (by unfold mX; omega))]; exact r1 c i a b
          have q2 : (sI R 0 45 (nI k)).1 0 44 = nI v := by rw [sI1, if_neg (by omega)]; exact r2
          have q3 : ∀ i, i < kn → (sI R 0 45 (nI k)).1 33 i = b01 (g i) := fun i hi => by rw [sI_off (by omega)]; exact r3 i hi
          have q4 : (sI R 0 45 (nI k)).1 0 45 = nI k := by rw [sI1, if_pos ⟨rfl, rfl⟩]
          generalize sI R 0 45 (nI k) = Q at *
          refine wp_bnd (Q := fun q => q.1 = b01 (fitB N T L g o wk ht al dl kn l (setC (caN N) v k)) ∧ mQ4 M q.2 ∧ q.2.1 0 44 = nI v ∧ (∀ i, i < kn → q.2.1 33 i = b01 (g i))) ?_ ?_
          · unfold f_X10_fitsCare
            have tq : ∀ {Z : Mem}, mQ4 M Z → TM Z N T L := fun fz => TM_to hM (fun c i a b => fz c i (by unfold mX chC; omega) (by omega))
            refine wp_call (starts_M (t := 1) (by omega) (tq q1) hI) ?_
            rintro P ⟨p1, p2⟩
            refine lpF (fun fuel i Z => f_X10_fitsCare_7 fuel (nI l) i Z) 1 (l + 1) (fun t Z => 1 ≤ t ∧ RM 1 Z N (sRun N T L (fun d => setC (caN N) v k (N 5 d)) 0 (t - 1) (W0 N T)) (fun d => N 5 d) ∧ mQ4 M Z ∧ Z.1 0 44 = nI v ∧ Z.1 0 45 = nI k ∧ (∀ i, i < kn → Z.1 33 i = b01 (g i)) ∧ ∀ t', t' + 1 < t → soB g o wk ht al dl kn (sRun N T L (fun d => setC (caN N) v k (N 5 d)) 0 (t' + 1) (W0 N T)) (t' + 1) = true) (by omega) (by omega) P ⟨Nat.le_refl _, p1, fun c i a b => by rw [p2 c i (fun e => a (Or.inr (Or.inl e)))]; exact q1 c i a b, by rw [p2 _ _ (by unfold chC; omega)]; exact q2, by rw [p2 _ _ (by unfold chC; omega)]; exact q4, fun i hi => by rw [p2 _ _ (by unfold chC; omega)]; exact q3 i hi, fun t' h => absurd h (by omega)⟩ ?_ ?_
            · rintro fuel3 A ⟨-, a1, a2, a3, a4, a5, a6⟩
              show wp (f_X10_fitsCare_7 (fuel3 + 1) (nI l) (nI (l + 1)) A) _
              unfold f_X10_fitsCare_7
              refine wp_pos (nI_lt (by omega) (by omega)) (wp_some ⟨?_, a2, a3, a5⟩)
              rw [fit_t (fun t ht => a6 t (by omega))]; rfl
            · rintro fuel3 t A ht' ⟨t1, a1, a2, a3, a4, a5, a6⟩ ih3
              try simp only at ih3
              show wp (f_X10_fitsCare_7 (fuel3 + 1) (nI l) (nI t) A) _
              unfold f_X10_fitsCare_7
              refine wp_neg (nI_nlt (by omega) (by omega)) ?_
              have b43 : A.1 0 43 = 0 := by rw [a2 0 43 (by unfold mX chC; omega) (by omega)]; exact h43
              have bc' : ∀ i, i < N 0 0 → cin A i = setC (caN N) v k i := fun i hi => by
                unfold cin setC
                rw [b43, a3, a4, if_neg (by decide)]
                by_cases q : i = v
                · rw [if_pos (by rw [q]), if_pos q]
                · rw [if_neg (fun e => q ((nI_eq (by omega) (by omega)).mp e)), if_neg q, ((tq a2).2.2.2.1 i hi).2.2]; rfl
              refine wp_call (pass_RM (t := 1) (bn := false) (how := 0) (tq a2) hI a1 hn5 bc' (by omega) (how0 b43)) ?_
              rintro B ⟨b1, fB⟩
              have b1 : RM 1 B N (sRun N T L (fun d => setC (caN N) v k (N 5 d)) 0 (t - 1 + 1) (W0 N T)) (fun d => N 5 d) := b1
              rw [Nat.sub_add_cancel t1] at b1
              have b2 : mQ4 M B := fun c i a b => by rw [fB c i (fun e => a (by unfold chM at e; unfold mX chC; omega))]; exact a2 c i a b
              have b3 : B.1 0 44 = nI v := by rw [fB _ _ (by unfold chM; omega)]; exact a3
              have b4 : B.1 0 45 = nI k := by rw [fB _ _ (by unfold chM; omega)]; exact a4
              have b5 : ∀ i, i < kn → B.1 33 i = b01 (g i) := fun i hi => by rw [fB _ _ (by unfold chM; omega)]; exact a5 i hi
              have eq4 : ∀ c i, 28 ≤ c → c ≤ 32 → B.1 c i = M.1 c i := fun c i x y => b2 c i (by unfold mX chC; omega) (by omega)
              refine wp_bnde (so_M hnd hk (kq b2) b5 (fun i hi => ⟨by rw [eq4 32 i (by omega) (by omega)]; exact (h32 i hi).1, oo i hi⟩) (fun i hi q => by rw [eq4 28 i (by omega) (by omega), eq4 29 i (by omega) (by omega), eq4 30 i (by omega) (by omega), eq4 31 i (by omega) (by omega)]; exact hn i hi q) b1) ?_
              unfold b01
              by_cases q : soB g o wk ht al dl kn (sRun N T L (fun d => setC (caN N) v k (N 5 d)) 0 t (W0 N T)) t = true
              · rw [if_pos q]
                refine wp_neg n10 ?_
                rw [nI_1]
                refine ih3 B ⟨by omega, b1, b2, b3, b4, b5, fun t' h => ?_⟩
                rcases (by omega : t' + 1 < t ∨ t' + 1 = t) with h' | h'
                · exact a6 t' h'
                · rw [h']; exact q
              · rw [if_neg q]
                refine wp_pos rfl (wp_some ⟨?_, b2, b3, b5⟩)
                rw [Bool.not_eq_true] at q
                have e : t = (t - 1) + 1 := by omega
                rw [fit_f (t := t - 1) (by omega) (by rw [← e]; exact q)]; rfl
          · rintro r A ⟨hr, a1, a2, a3⟩
            simp only at hr a1 a2 a3
            rw [itN_s, ← hu] at ih2
            rw [hr]
            unfold b01
            by_cases q : fitB N T L g o wk ht al dl kn l (setC (caN N) v k) = true
            · rw [if_pos q] at ih2 ⊢
              refine wp_neg n10 ?_
              rw [nI_1]; exact ih2 (_, A) ⟨rfl, a1, a2, a3⟩
            · rw [if_neg q] at ih2 ⊢
              refine wp_pos rfl ?_
              rw [nI_1]; exact ih2 (_, A) ⟨Int32.or_zero, a1, a2, a3⟩
      · rintro fuel' j x hj hx ih
        try simp only at ih
        show wp (f_X10_cares_90 (fuel' + 1) (nI v) x (nI j) Y) _
        unfold f_X10_cares_90
        refine wp_bnde (kq (kk y2)) (wp_neg (nI_ge hj (by omega)) ?_)
        refine wp_rd j rfl (by omega) (y1 j hj) ?_
        rw [itN_s, ← hx] at ih
        unfold lwS at ih
        unfold b01
        have e32 : Y.1 32 j = o j := by rw [y2 32 j (by unfold mX chC; omega)]; exact (h32 j hj).1
        by_cases q1 : g j = true
        · rw [if_pos q1]
          refine wp_neg n10 ?_
          rw [nI_1]; exact ih _ (by rw [if_neg (fun e => by rw [e.1] at q1; cases q1)])
        · have qf : g j = false := by rw [Bool.not_eq_true] at q1; exact q1
          rw [if_neg q1]
          refine wp_pos rfl ?_
          refine wp_rd j rfl (by omega) e32 ?_
          refine wp_if (fun qo => ?_) (fun qo => ?_)
          · have ho : o j < 0 := by rw [qo]; decide
            refine wp_rd j rfl (by omega) (v := wk j) (by rw [y2 28 j (by unfold mX chC; omega)]; exact (hn j hj ho).1) ?_
            refine wp_bnde (f_mx _ _ _) ?_
            rw [nI_1]; exact ih _ (by rw [if_pos ⟨qf, ho⟩])
          · have : ¬ o j < 0 := (oo j hj).resolve_left qo
            rw [nI_1]; exact ih _ (by rw [if_neg (fun e => this e.2)])
    · rintro fuel j ⟨g, Y⟩ ⟨hj, y1, y2, y3⟩ ih
      simp only at y1 y2 y3 ih
      show wp (f_X10_cares_47 (fuel + 1) (nI v) 0 (nI j) Y) _
      unfold f_X10_cares_47
      refine wp_neg (nI_pos (by omega)) ?_
      refine wp_rd j rfl (by omega) (y1 j (by omega)) ?_
      have e32 : Y.1 32 j = o j := by rw [y2 32 j (by unfold mX chC; omega)]; exact (h32 j (by omega)).1
      have y3' : sK o j (if g j = false ∧ ¬ o j < 0 then (fun i => if i = (o j).toNatClampNeg then true else g i) else g) = sK o kn (fun _ => false) := y3
      unfold b01
      by_cases q : g j = true
      · rw [if_pos q]
        refine wp_neg n10 ?_
        rw [if_neg (fun e => by rw [e.1] at q; cases q)] at y3'
        exact ih (g, Y) ⟨by omega, y1, y2, y3'⟩
      · have qf : g j = false := by rw [Bool.not_eq_true] at q; exact q
        rw [if_neg q]
        refine wp_pos rfl ?_
        refine wp_rd j rfl (by omega) e32 ?_
        refine wp_if (fun q2 => ?_) (fun q2 => ?_)
        · rw [if_neg (fun e => e.2 (by rw [q2]; decide))] at y3'
          exact ih (g, Y) ⟨by omega, y1, y2, y3'⟩
        · have q2' := (oo j (by omega)).resolve_left q2
          rw [if_pos ⟨qf, q2'⟩] at y3'
          obtain ⟨t, ht, et⟩ : ∃ t, t < j ∧ o j = nI t := by
            rcases (h32 j (by omega)).2 with e | e
            · exact e
            · exact absurd e q2
          refine wp_rd j rfl (by omega) e32 ?_
          refine wp_wrZ t et (by omega) ?_
          rw [et, nI_clamp (by omega)] at y3'
          refine ih (fun i => if i = t then true else g i, sI Y 33 t (vp_nar .boolean 1)) ⟨by omega, fun i hi => ?_, fun c i a => ?_, y3'⟩
          · show (sI Y 33 t (vp_nar .boolean 1)).1 33 i = b01 (if i = t then true else g i)
            rw [sI1, nar1]
            by_cases q3 : i = t
            · rw [if_pos ⟨rfl, q3⟩, if_pos q3]; rfl
            · rw [if_neg (by omega), if_neg q3]; exact y1 i hi
          · show (sI Y 33 t (vp_nar .boolean 1)).1 c i = M.1 c i
            rw [sI_off (fun e => a (by rw [e]; unfold mX; omega))]; exact y2 c i a
  · rintro fuel j Z hj ⟨z1, z2⟩ ih
    try simp only at ih
    show wp (f_X10_cares_19 (fuel + 1) (nI v) 0 (nI j) Z) _
    unfold f_X10_cares_19
    refine wp_bnde (kq (kk z2)) (wp_neg (nI_ge hj (by omega)) ?_)
    refine wp_wrZ j rfl (by omega) ?_
    rw [nI_1, nar0]
    refine ih _ ⟨fun i hi => ?_, fun c i a => ?_⟩
    · rw [sI1]
      split
      · rfl
      · exact z1 i (by omega)
    · rw [sI_off (fun e => a (by rw [e]; unfold mX; omega))]; exact z2 c i a
theorem q_cares (h : Cp C M) (v : Int32) : both C M (f_X9_cares v C) (f_X10_cares v M) := by
  unfold f_X10_cares
  refine both_m h ?_
  intro N T L W nu M' hq
  unfold f_X9_cares
  obtain ⟨-, -, ⟨hT, hM, hI⟩, ⟨hR, hR', -⟩, -, -, hNo, -, h43, h44⟩ := hq
  have hnd := hI.2.1
  have hnn := hI.1
  rcases ix_d v (n := N 0 0) (by omega) with ⟨i, hi, rfl⟩ | hv
  · rw [nurse_C1 hT hI hi, bnd_some, nurse_M1 hM hI hi, bnd_some, if_neg n10, if_neg n10]
    obtain ⟨kn, o, wk, ht, al, dl, ⟨hk, hR⟩, -, -, kc, km⟩ := ntR_of hnd hNo
    have ho : ∀ i, i < kn → (∃ j, j < i ∧ o i = nI j) ∨ o i = -1 := fun i hi => by
      rcases (hR i hi).2.2 with e | e
      · exact Or.inl e
      · exact Or.inr e.1
    have hsn : ∀ i, i < kn → o i < 0 → C.1 79 i = wk i ∧ M'.1 28 i = wk i ∧ (∃ k, k ≤ 40 ∧ wk i = nI k) ∧ dl i < N 0 1 ∧ C.1 80 i = nI (dl i) ∧ M'.1 29 i = nI (dl i) ∧ C.1 81 i = ht i ∧ M'.1 30 i = ht i ∧ C.1 82 i = al i ∧ M'.1 31 i = al i := fun i hi q => by
      rcases (hR i hi).2.2 with ⟨j, hj, e⟩ | e
      · rw [e] at q; exact absurd q (nI_pos (by omega))
      · exact e.2
    obtain ⟨l, hl, el⟩ := lw_b (st := sK o kn (fun _ => false)) (o := o) (wk := wk) kn (fun i hi q => (hsn i hi q).2.2.1)
    have hn5 : nuI N (fun d => N 5 d) := fun d hd => (hI.2.2.2.1 d hd).1
    refine ⟨_, cares_C hT hI hn5 hk kc (fun i hi => ⟨(hR i hi).1, ho i hi⟩) (fun i hi q => ?_) hl el hi, cares_M (ht := ht) (al := al) (dl := dl) hM hI hn5 h43 h44 hk km (fun i hi => ⟨(hR i hi).2.1, ho i hi⟩) (fun i hi q => ?_) hl el hi⟩
    · obtain ⟨a1, a2, a3, a4, a5, a6, a7, a8, a9, a10⟩ := hsn i hi q
      exact ⟨a1, a4, a5, a7, a9⟩
    · obtain ⟨a1, a2, a3, a4, a5, a6, a7, a8, a9, a10⟩ := hsn i hi q
      exact ⟨a2, a4, a6, a8, a10⟩
  · rw [nurse_C0 hT hv, bnd_some, nurse_M0 hM hv, bnd_some]
    exact bq _ rfl rfl
end CA2
