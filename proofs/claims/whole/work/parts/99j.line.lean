/-! PURE 59: the text: the reading state of both; a fault; a line that begins wrong; settings -/
section LIN
variable {C C' M M' S S' : Mem} {b : Nat → Nat} {n m i kn ln f : Nat} {N : TN} {T : WS} {L : LWS} {mk : Nat → Bool}
def shC (S : Mem) : Mem := ((fun c i => S.1 (c - 23) i), S.2)
def shI (c i : Nat) : Nat := if c = 2 then 7 + i else if c ≤ 5 then 6 + i else if c ≤ 9 then 10 + i else if c ≤ 11 then 3 + i else 64 + i
def shM (M : Mem) : Mem := ((fun c i => M.1 c (shI c i)), M.2)
def RSc (C : Mem) (b : Nat → Nat) (n m i : Nat) (N : TN) (T : WS) (L : LWS) (mk : Nat → Bool) : Prop :=
  tkC C b n m ∧ C.1 3 5 = nI i ∧ i ≤ m ∧ TC (shC C) N T L ∧ (∀ k, k < 3 → L k = none → C.1 (21 + 3 * k) 1 = 0) ∧ (∀ s, s < 4 → C.1 19 s = if mk s = true then 1 else 0) ∧ C.1 3 2 = 0 ∧ C.1 3 3 = -1
def RSm (M : Mem) (b : Nat → Nat) (n i : Nat) (N : TN) (T : WS) (L : LWS) (mk : Nat → Bool) (kn ln : Nat) : Prop :=
  tkA M b n i ∧ M.1 0 22 = 0 ∧ M.1 0 23 = -1 ∧ M.1 0 26 = 0 ∧ M.1 0 27 = nI kn ∧ TM (shM M) N T L ∧ (∀ s, s < 4 → bt (M.1 0 15) (2 + s) = mk s) ∧ (∀ k, k < 3 → bt (M.1 0 15) (16 + k) = (L k).isSome) ∧ M.1 0 16 = nI ln ∧ (∀ q, q < 3 → ∀ l, L q = some l → ∃ a, a ≤ kn ∧ M.1 11 (3 + q) = nI a)
def RSp (N : TN) (T : WS) (L : LWS) (kn : Nat) : Prop := TI N T L ∧ T 9 0 = nI kn ∧ kn ≤ 64
def cR (S S' : Mem) : Prop := (∀ c i, ¬ (c = 3 ∧ 2 ≤ i ∧ i ≤ 8) → (c < 4 ∨ 30 < c) → S'.1 c i = S.1 c i) ∧ S'.2 = S.2
def rM (c i : Nat) : Prop := (c = 0 ∧ 15 ≤ i ∧ i ≤ 27 ∧ i ≠ 24 ∧ i ≠ 25 ∧ i ≠ 17) ∨ (c = 2 ∧ 7 ≤ i) ∨ (3 ≤ c ∧ c ≤ 5 ∧ 6 ≤ i) ∨ (6 ≤ c ∧ c ≤ 9 ∧ 10 ≤ i) ∨ ((c = 10 ∨ c = 11) ∧ 3 ≤ i) ∨ ((c = 12 ∨ c = 13) ∧ 64 ≤ i)
def mR (M M' : Mem) : Prop := ∀ c i, ¬ rM c i → M'.1 c i = M.1 c i
theorem cR_rf (S : Mem) : cR S S := ⟨fun _ _ _ _ => rfl, rfl⟩
theorem cR_tr {S1 S2 : Mem} (h : cR S S1) (h' : cR S1 S2) : cR S S2 := ⟨fun c i a b => (h'.1 c i a b).trans (h.1 c i a b), h'.2.trans h.2⟩
theorem mR_rf (S : Mem) : mR S S := fun _ _ _ => rfl
theorem mR_tr {S1 S2 : Mem} (h : mR S S1) (h' : mR S1 S2) : mR S S2 := fun c i a => (h' c i a).trans (h c i a)
theorem cR_s (h : cR S S') {c i : Nat} {v : Int32} (e : (c = 3 ∧ 2 ≤ i ∧ i ≤ 8) ∨ (4 ≤ c ∧ c ≤ 30)) : cR S (sI S' c i v) :=
  ⟨fun c' i' h1 h2 => by rw [sI1, if_neg (fun z => by obtain ⟨rfl, rfl⟩ := z; omega)]; exact h.1 c' i' h1 h2, h.2⟩
theorem mR_s (h : mR S S') {c i : Nat} {v : Int32} (e : rM c i) : mR S (sI S' c i v) :=
  fun c' i' h1 => by rw [sI1, if_neg (fun z => by obtain ⟨rfl, rfl⟩ := z; exact h1 e)]; exact h c' i' h1
theorem mR_q (h : frQ M M') : mR M M' := fun c i h1 => h c i (fun z => h1 (by unfold rM; omega))
/-- a fault in both -/
def FL (C M : Mem) : Prop := C.1 3 2 = M.1 0 22 ∧ C.1 3 3 = M.1 0 23 ∧ M.1 0 22 ≠ 0
theorem fl_at (hn : n ≤ 700) (hc : tkC C b n m) (h5 : C.1 3 5 = nI i) (hi : i ≤ m) (hm : tkA M b n i) (h22 : M.1 0 22 = 0) (h1 : 1 ≤ f) (h4 : f ≤ 4) :
    ∃ C' M', f_X4_wrong (nI f) C = some (0, C') ∧ f_X10_wrong (nI f) M = some M' ∧ FL C' M' ∧ cR C C' ∧ mR M M' := by
  refine ⟨_, _, wrongR_C hc hn h5 hi _, wrongR_M hm h22 _, ⟨?_, ?_, ?_⟩, cR_s (cR_s (cR_rf C) (by omega)) (by omega), mR_s (mR_s (mR_rf M) (by unfold rM; omega)) (by unfold rM; omega)⟩
  · rw [sI1, if_neg (by omega), sI1, if_pos ⟨rfl, rfl⟩, sI1, if_neg (by omega), sI1, if_pos ⟨rfl, rfl⟩]
  · rw [sI1, if_pos ⟨rfl, rfl⟩, sI1, if_pos ⟨rfl, rfl⟩]
  · rw [sI1, if_neg (by omega), sI1, if_pos ⟨rfl, rfl⟩]
    intro e
    have := (nI_eq (b := 0) (by omega) (by omega)).mp e
    omega
theorem l226_i (h : M.1 0 22 ≠ 0) : f_X10_line_226 M = some M := by
  unfold f_X10_line_226
  rw [if_neg h]
theorem l70_i {v : Int32} (h : M.1 0 22 ≠ 0) : f_X10_line_70 v M = some M := by
  unfold f_X10_line_70
  rw [if_neg h]
/-- what a line, without its sign at the end, does in both -/
def lnR (C M : Mem) (b : Nat → Nat) (n m i ln : Nat) : Prop := ∃ M', f_X10_line M = f_X10_line_226 M' ∧ mR M M' ∧
  ((∃ C' i' N' T' L' mk' kn', f_X4_readLine C = some (1, C') ∧ cR C C' ∧ RSc C' b n m i' N' T' L' mk' ∧ RSm M' b n i' N' T' L' mk' kn' ln ∧ RSp N' T' L' kn' ∧ i < i') ∨ (∃ C', f_X4_readLine C = some (0, C') ∧ cR C C' ∧ FL C' M'))
theorem o0 : okz 0 = true := by decide
theorem o1 : okz 1 = true := by decide
theorem kd_C (hb2 : ∀ i, i < n → b i < 256) (h : RSc C b n m i N T L mk) (hn : n ≤ 700) : f_X4_kind C = some (nI (tK b n i), C) ∧ tK b n i < 39 := ⟨kindR_C h.1 hn h.2.1 h.2.2.1, tK_b hb2 i⟩
theorem rfJ_6 : ∀ k, k < 22 → (nI (rfJ k) ≤ 6 ↔ 10 ≤ k ∧ k ≤ 16) := by decide +kernel
theorem ln_bad (hb2 : ∀ i, i < n → b i < 256) (hn : n ≤ 700) (hc : RSc C b n m i N T L mk) (hm : RSm M b n i N T L mk kn ln) (hk : ¬ (27 ≤ tK b n i ∧ tK b n i ≤ 33)) : lnR C M b n m i ln := by
  obtain ⟨e1, e2⟩ := kd_C hb2 hc hn
  obtain ⟨C1, M1, q1, q2, q3, q4, q5⟩ := fl_at (f := 1) hn hc.1 hc.2.1 hc.2.2.1 hm.1 hm.2.1 (by omega) (by omega)
  have q1 : f_X4_wrong 1 C = some (0, C1) := q1
  have q2 : f_X10_wrong 1 M = some M1 := q2
  refine ⟨M1, ?_, q5, Or.inr ⟨C1, ?_, q4, q3⟩⟩
  · rw [l226_i q3.2.2]
    have go : f_X10_line_16 M = some M1 := by
      unfold f_X10_line_16
      rw [q2, Option.bind_some]
    unfold f_X10_line
    by_cases z : 17 ≤ tK b n i
    · rw [if_pos ((sort_M hm.1).2.1.mpr z), val_w hm.1 z, if_neg (fun e => hk (by have := (rfJ_6 _ (by omega)).mp e; omega))]
      exact go
    · rw [if_neg (fun e => z ((sort_M hm.1).2.1.mp e))]
      exact go
  · have ne : ∀ v, v < 40 → tK b n i ≠ v → nI (tK b n i) ≠ nI v := fun v hv z e => z ((nI_eq (by omega) (by omega)).mp e)
    have go : f_X4_readLine_26 (nI (tK b n i)) C = some (0, C1) := by
      unfold f_X4_readLine_26
      rw [if_neg (show ¬ nI (tK b n i) = 27 from ne 27 (by omega) (by omega)), if_neg (show ¬ nI (tK b n i) = 28 from ne 28 (by omega) (by omega)), if_neg (show ¬ nI (tK b n i) = 33 from ne 33 (by omega) (by omega)), bw q1 o0]
    unfold f_X4_readLine
    rw [e1, bnd_some]
    by_cases z : tK b n i < 29
    · rw [if_pos (show nI (tK b n i) < 29 from (nI_lt z (by omega) : _ < nI 29)), go]
    · rw [if_neg (show ¬ nI (tK b n i) < 29 from Int32.not_lt.mpr (nI_le (a := 29) (by omega) (by omega))), if_pos (show 32 < nI (tK b n i) from (nI_lt (a := 32) (by omega) (by omega))), go]
/-- a token on, in both -/
theorem RSm_q (h : RSm M b n i N T L mk kn ln) (e : frQ M M') {i' : Nat} (ht : tkA M' b n i') : RSm M' b n i' N T L mk kn ln := by
  obtain ⟨h1, h2, h3, h4, h5, h6, h7, h8, h9, hx⟩ := h
  have e' : ∀ c j, ¬ (c = 0 ∧ 18 ≤ j ∧ j ≤ 21) → M'.1 c j = M.1 c j := e
  refine ⟨ht, by rw [e' 0 22 (by omega)]; exact h2, by rw [e' 0 23 (by omega)]; exact h3, by rw [e' 0 26 (by omega)]; exact h4, by rw [e' 0 27 (by omega)]; exact h5, TM_to h6 (fun c j a1 a2 => e' c _ (by omega)), fun s hs => by rw [e' 0 15 (by omega)]; exact h7 s hs, fun k hk => by rw [e' 0 15 (by omega)]; exact h8 k hk, by rw [e' 0 16 (by omega)]; exact h9, fun q hq l hL => by rw [e' 11 _ (by omega)]; exact hx q hq l hL⟩
theorem RSc_n (h : RSc C b n m i N T L mk) {i' : Nat} (hi : i' ≤ m) : RSc (sI C 3 5 (nI i')) b n m i' N T L mk := by
  obtain ⟨h1, h2, h3, h4, h5, h6, h7, h8⟩ := h
  refine ⟨tkC_to h1 (fun c j hc => by rw [sI1, if_neg (by omega)]), by rw [sI1, if_pos ⟨rfl, rfl⟩], hi, TC_to h4 (fun c a1 a2 => funext fun j => ?_), fun k hk hL => by rw [sI1, if_neg (by omega)]; exact h5 k hk hL, fun s hs => by rw [sI1, if_neg (by omega)]; exact h6 s hs, by rw [sI1, if_neg (by omega)]; exact h7, by rw [sI1, if_neg (by omega)]; exact h8⟩
  show (sI C 3 5 (nI i')).1 (c - 23) j = C.1 (c - 23) j
  rw [sI1, if_neg (by omega)]
end LIN
