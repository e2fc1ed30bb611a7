/-! PURE 13: class and reference side by side -/
def eqW (N : TN) (A B : WS × (Nat → Nat)) : Prop :=
  A.1 0 0 = B.1 0 0 ∧ A.1 0 1 = B.1 0 1 ∧ A.1 0 2 = B.1 0 2 ∧ A.1 0 3 = B.1 0 3 ∧
  (∀ d, d < N 0 1 → A.2 d = B.2 d ∧ A.1 2 d = B.1 2 d ∧ A.1 3 d = B.1 3 d) ∧ (∀ c, c < 2 → A.1 5 c = B.1 5 c ∧ A.1 6 c = B.1 6 c)
/-- undoing the deed (k, one, oth) in B gives A -/
def deed (N : TN) (k one oth : Int32) (A B : WS × (Nat → Nat)) : Prop :=
  (k = 0 ∧ ∃ d, d < N 0 1 ∧ one = nI d ∧ eqW N A (wu B.1 2 d oth, B.2)) ∨
  (k = 1 ∧ ∃ d e, d < N 0 1 ∧ e < N 0 1 ∧ one = nI d ∧ oth = nI e ∧ eqW N A (wu B.1 0 3 ((B.1 0 3 ||| (1 <<< (nI d &&& 31))) ||| (1 <<< (nI e &&& 31))), B.2)) ∨
  (k = 2 ∧ ∃ d j, d < N 0 1 ∧ j < N 0 0 ∧ one = nI d ∧ oth = nI j ∧ eqW N A (B.1, fun x => if x = d then j else B.2 x)) ∨
  (k = 3 ∧ ∃ c, c < 2 ∧ one = nI c ∧ eqW N A (wu B.1 5 c oth, B.2))
def okW (N : TN) (W : WS) (nu : Nat → Nat) : Prop := WI N W ∧ nuI N nu
def pTape (C M : Mem) : Prop := ∃ n, n ≤ 700 ∧ C.1 1 1 = nI n ∧ M.1 0 2 = nI n ∧ ∀ i, i < n → ∃ b, b < 256 ∧ C.1 2 i = nI b ∧ M.1 1 i = nI b
def pFault (C M : Mem) : Prop := C.1 3 2 = M.1 0 24 ∧ C.1 3 3 = M.1 0 25
def pNow (C M : Mem) (N : TN) (W : WS) (nu : Nat → Nat) : Prop := RC 53 C N W nu (caN N) ∧ RM 0 M N W nu ∧ okW N W nu
def pImg (C M : Mem) (N : TN) : Prop := (C.1 0 9 = 0 ∧ M.1 0 41 = 0) ∨ (C.1 0 9 = 1 ∧ M.1 0 41 = 1 ∧ ∃ W nu, RC 61 C N W nu (caN N) ∧ RM 2 M N W nu ∧ okW N W nu)
def pUndo (C M : Mem) (N : TN) (W : WS) (nu : Nat → Nat) : Prop := ∃ u, u ≤ 20 ∧ C.1 84 0 = nI u ∧ M.1 0 42 = nI u ∧ ∃ us : Nat → WS × (Nat → Nat), us u = (W, nu) ∧
  ∀ i, i < u → RM (3 + i) M N (us i).1 (us i).2 ∧ okW N (us i).1 (us i).2 ∧ deed N (C.1 85 i) (C.1 86 i) (C.1 87 i) (us i) (us (i + 1))
def pNotes (C M : Mem) (N : TN) : Prop := ∃ z, z ≤ 24 ∧ C.1 77 0 = nI z ∧ M.1 0 50 = nI z ∧ C.1 77 1 = M.1 0 51 ∧ (C.1 77 1 = -1 ∨ ∃ k, k ≤ z ∧ C.1 77 1 = nI k) ∧
  ∀ i, i < z → C.1 78 i = M.1 32 i ∧ ((∃ j, j < i ∧ C.1 78 i = nI j) ∨ (C.1 78 i = -1 ∧ C.1 79 i = M.1 28 i ∧ (∃ k, 1 ≤ k ∧ k ≤ 40 ∧ C.1 79 i = nI k) ∧ (∃ d, d < N 0 1 ∧ C.1 80 i = nI d ∧ M.1 29 i = nI d) ∧ C.1 81 i = M.1 30 i ∧ C.1 82 i = M.1 31 i))
/-! nursing: what is meant -/
def dHeld (N : TN) (m : Int32) (c : Nat) : List Nat := ((List.range (N 0 1)).filter (fun d => bt m d && decide (ow N d ≠ c))).take 4
def nuSet (nu : Nat → Nat) : List Nat → List Nat → Nat → Nat
  | d :: ds, j :: js => fun x => if x = d then j else nuSet nu ds js x
  | _, _ => nu
def angOf (N : TN) (T : WS) (L : LWS) (W : WS) (nu : Nat → Nat) (n : Nat) (ds js : List Nat) : Int32 :=
  let V := sRun N T L (fun d => caN N (nuSet nu ds js d)) 0 n W
  V 5 0 + V 5 1
/-- all rows of k members of l, in their order -/
def rowsOf (l : List Nat) : Nat → List (List Nat)
  | 0 => [[]]
  | k + 1 => l.flatMap (fun j => (rowsOf l k).map (fun r => j :: r))
/-- the first with the least f -/
def leastBy (f : List Nat → Int32) : Option (List Nat) → List (List Nat) → Option (List Nat)
  | b, [] => b
  | none, r :: rs => leastBy f (some r) rs
  | some b, r :: rs => leastBy f (if f r < f b then some r else some b) rs
def nsOf (N : TN) (c : Nat) : List Nat := (List.range (N 0 0)).filter (fun i => decide (N 2 i = c))
def nurB (N : TN) (T : WS) (L : LWS) (W : WS) (nu : Nat → Nat) (c n : Nat) : Option (List Nat) :=
  leastBy (angOf N T L W nu n (dHeld N (W 0 3) c)) none (rowsOf (nsOf N c) (dHeld N (W 0 3) c).length)
def pNurs (C : Mem) (N : TN) (T : WS) (L : LWS) (W : WS) (nu : Nat → Nat) : Prop := C.1 88 3 = -1 ∨ ∃ c n b, c < 2 ∧ 1 ≤ n ∧ n ≤ 20 ∧ C.1 88 3 = nI c ∧ C.1 88 4 = nI n ∧ nurB N T L W nu c n = some b ∧
  C.1 88 0 = nI (dHeld N (W 0 3) c).length ∧ b.length = (dHeld N (W 0 3) c).length ∧ C.1 88 1 = angOf N T L W nu n (dHeld N (W 0 3) c) b ∧ ∀ i, i < b.length → C.1 89 i = nI (b.getD i 0)
def Cq (C M : Mem) (N : TN) (T : WS) (L : LWS) (W : WS) (nu : Nat → Nat) : Prop :=
  pTape C M ∧ pFault C M ∧ (TC C N T L ∧ TM M N T L ∧ TI N T L) ∧ pNow C M N W nu ∧ pImg C M N ∧ pUndo C M N W nu ∧ pNotes C M N ∧ pNurs C N T L W nu ∧ M.1 0 43 = 0 ∧ M.1 0 44 = -1
def Cp (C M : Mem) : Prop := ∃ N T L W nu, Cq C M N T L W nu
/-- what a question of the class may change -/
def cQ (S S' : Mem) : Prop := (∀ c i, c < 60 ∨ (60 < c ∧ c < 69) ∨ (76 < c ∧ c ≠ 83) → ¬ (c = 53 ∧ i = 12) → S'.1 c i = S.1 c i) ∧ ∀ c, c ≠ 69 → c ≠ 46 → c ≠ 49 → c ≠ 52 → S'.2 c = S.2 c
def mX (c i : Nat) : Prop := (c = 0 ∧ (i = 0 ∨ i = 30 ∨ i = 40 ∨ i = 45 ∨ i = 49)) ∨ chC 1 c i ∨ c = 33 ∨ (25 ≤ c ∧ c ≤ 27)
def mQ (S S' : Mem) : Prop := ∀ c i, ¬ mX c i → S'.1 c i = S.1 c i
theorem cQ_rf (S : Mem) : cQ S S := ⟨fun _ _ _ _ => rfl, fun _ _ _ _ _ => rfl⟩
theorem cQ_tr {S S1 S2 : Mem} (h : cQ S S1) (h' : cQ S1 S2) : cQ S S2 := ⟨fun c i a b => (h'.1 c i a b).trans (h.1 c i a b), fun c a b d e => (h'.2 c a b d e).trans (h.2 c a b d e)⟩
theorem mQ_rf (S : Mem) : mQ S S := fun _ _ _ => rfl
theorem mQ_tr {S S1 S2 : Mem} (h : mQ S S1) (h' : mQ S1 S2) : mQ S S2 := fun c i a => (h' c i a).trans (h c i a)
theorem cQ_69 {S S' : Mem} (h : fr 69 S S') : cQ S S' := ⟨fun c i a _ => by rw [h.1 c (by omega)], fun c a b d e => h.2 c a b d e⟩
theorem cQ_t {S S' : Mem} (h : frT 69 S S') : cQ S S' := ⟨fun c i a _ => by rw [h.1 c (by omega)], fun c a b d e => h.2 c a⟩
theorem cQ_n {S S' : Mem} (h : frN 53 S S') : cQ S S' := ⟨fun c i a _ => by rw [h.1 c (by omega)], fun c a b d e => h.2 c b d e⟩
theorem mQ_M {S S' : Mem} (h : frM 1 S S') : mQ S S' := fun c i a => h c i (fun e => a (by unfold chM at e; unfold mX chC; omega))
theorem mQ_C {S S' : Mem} (h : frC 1 S S') : mQ S S' := fun c i a => h c i (fun e => a (Or.inr (Or.inl e)))
theorem mQ_S {S S' : Mem} (h : frS S S') : mQ S S' := fun c i a => h c i (fun e => a (by unfold mX; omega))
theorem mQ_0 {S : Mem} {v : Int32} : mQ S (sI S 0 0 v) := fun c i a => by rw [sI1, if_neg (fun e => a (by unfold mX; omega))]
theorem Cq_q {C M C' M' : Mem} {N : TN} {T : WS} {L : LWS} {W : WS} {nu : Nat → Nat} (h : Cq C M N T L W nu) (hc : cQ C C') (hm : mQ M M') : Cq C' M' N T L W nu := by
  obtain ⟨h1, h2, ⟨h3a, h3b, h3c⟩, ⟨h4a, h4b, h4c⟩, h5, h6, h7, h8, h9, h10⟩ := h
  have hnd := h3c.2.1
  have ec : ∀ c i, (c < 53 ∨ (60 < c ∧ c < 69) ∨ (76 < c ∧ c ≠ 83)) → C'.1 c i = C.1 c i := fun c i q => hc.1 c i (by omega) (by omega)
  have em : ∀ i, (i = 2 ∨ i = 24 ∨ i = 25 ∨ (41 ≤ i ∧ i ≤ 44) ∨ i = 50 ∨ i = 51) → M'.1 0 i = M.1 0 i := fun i q => hm 0 i (by unfold mX chC; omega)
  have eo : ∀ c i, (1 ≤ c ∧ c ≤ 13) ∨ (28 ≤ c ∧ c ≤ 32) → M'.1 c i = M.1 c i := fun c i q => hm c i (by unfold mX chC; omega)
  have eR : ∀ t W nu, t ≠ 1 → RM t M N W nu → RM t M' N W nu := fun t W nu ht h => RM_to h hnd (fun c i q => hm c i (by unfold mX; unfold chC at q ⊢; omega))
  have eRC : ∀ w W nu, (w = 53 ∨ w = 61) → RC w C N W nu (caN N) → RC w C' N W nu (caN N) := fun w W nu hw h => RC_to h (fun c i a b q => hc.1 c i (by omega) (by omega)) (by rw [hc.2 w (by omega) (by omega) (by omega) (by omega)])
  refine ⟨?_, ?_, ⟨TC_to h3a (fun k a b => funext fun i => ec k i (by omega)), TM_to h3b (fun c i a b => eo c i (by omega)), h3c⟩, ⟨eRC 53 W nu (by omega) h4a, eR 0 W nu (by omega) h4b, h4c⟩, ?_, ?_, ?_, ?_, ?_, ?_⟩
  · obtain ⟨n, a, b, c, d⟩ := h1
    refine ⟨n, a, by rw [ec _ _ (by omega)]; exact b, by rw [em _ (by omega)]; exact c, fun i hi => ?_⟩
    rw [ec _ _ (by omega), eo _ _ (by omega)]; exact d i hi
  · unfold pFault
    rw [ec _ _ (by omega), ec _ _ (by omega), em _ (by omega), em _ (by omega)]; exact h2
  · unfold pImg
    rw [ec _ _ (by omega), em _ (by omega)]
    rcases h5 with q | ⟨q1, q2, Wi, ni, q3, q4, q5⟩
    · exact Or.inl q
    · exact Or.inr ⟨q1, q2, Wi, ni, eRC 61 _ _ (by omega) q3, eR 2 _ _ (by omega) q4, q5⟩
  · obtain ⟨u, a, b, c, us, d, e⟩ := h6
    refine ⟨u, a, by rw [ec _ _ (by omega)]; exact b, by rw [em _ (by omega)]; exact c, us, d, fun i hi => ?_⟩
    obtain ⟨e1, e2, e3⟩ := e i hi
    refine ⟨eR _ _ _ (by omega) e1, e2, ?_⟩
    rw [ec _ _ (by omega), ec _ _ (by omega), ec _ _ (by omega)]; exact e3
  · obtain ⟨z, a, b, c, d, e, f⟩ := h7
    refine ⟨z, a, by rw [ec _ _ (by omega)]; exact b, by rw [em _ (by omega)]; exact c, by rw [ec _ _ (by omega), em _ (by omega)]; exact d, by rw [ec _ _ (by omega)]; exact e, fun i hi => ?_⟩
    rw [ec _ _ (by omega), eo _ _ (by omega), ec 79 _ (by omega), eo 28 _ (by omega), ec 80 _ (by omega), eo 29 _ (by omega), ec 81 _ (by omega), eo 30 _ (by omega), ec 82 _ (by omega), eo 31 _ (by omega)]
    exact f i hi
  · unfold pNurs
    rw [ec _ _ (by omega), ec _ _ (by omega), ec _ _ (by omega), ec _ _ (by omega)]
    rcases h8 with q | ⟨c, n, b, q1, q2, q3, q4, q5, q6, q7, q8, q9, q10⟩
    · exact Or.inl q
    · exact Or.inr ⟨c, n, b, q1, q2, q3, q4, q5, q6, q7, q8, q9, fun i hi => by rw [ec _ _ (by omega)]; exact q10 i hi⟩
  · rw [em _ (by omega)]; exact h9
  · rw [em _ (by omega)]; exact h10
theorem Cp_q {C M C' M' : Mem} (h : Cp C M) (hc : cQ C C') (hm : mQ M M') : Cp C' M' := by
  obtain ⟨N, T, L, W, nu, h⟩ := h
  exact ⟨N, T, L, W, nu, Cq_q h hc hm⟩
/-- both answer r, and stand side by side again -/
def both {α : Type} (C M : Mem) (x y : Option (α × Mem)) : Prop := wp x (fun q => wp y (fun p => q.1 = p.1 ∧ Cp q.2 p.2))
/-- a question: both answer r and change nothing -/
theorem both_q {α : Type} {C M : Mem} {x y : Option (α × Mem)} (h : Cp C M) (r : α) (hx : wp x (fun q => q.1 = r ∧ cQ C q.2)) (hy : wp y (fun q => q.1 = r ∧ mQ M q.2)) : both C M x y := by
  refine wp_mono hx ?_
  rintro ⟨a, C'⟩ ⟨ha, hc⟩
  refine wp_mono hy ?_
  rintro ⟨b, M'⟩ ⟨hb, hm⟩
  exact ⟨ha.trans hb.symm, Cp_q h hc hm⟩
