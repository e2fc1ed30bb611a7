/-! PURE 53: a law's E: a step of the class -/
section LAWJ
variable {S S' : Mem} {b : Nat → Nat} {n m i a x k op kn : Nat} {out st : List Nat} {wt : Bool}
theorem tkd_b (hb2 : ∀ i, i < n → b i < 256) (p : Nat) : tkd b n p < 40 := by
  unfold tkd
  by_cases hp : p < n
  · rw [if_pos hp]
    by_cases h1 : isLt (b p) = true
    · rw [if_pos h1]
      by_cases h2 : eLt b n p - p ≤ 6
      · rw [if_pos h2]
        unfold wkN
        split
        · rename_i k hk
          have := List.mem_range.mp (List.mem_of_find?_eq_some hk)
          omega
        · omega
      · rw [if_neg h2]; omega
    · rw [if_neg h1]
      by_cases h2 : isDg (b p) = true
      · rw [if_pos h2]; omega
      · rw [if_neg h2]
        rcases sgK_b (n := n) (hb2 _ hp) with z | z <;> omega
  · rw [if_neg hp]; omega
def tK (b : Nat → Nat) (n i : Nat) : Nat := tkd b n (ps b n i)
def tV (b : Nat → Nat) (n i : Nat) : Nat := tvC b n (ps b n i)
def lwI (st out : List Nat) (op kn : Nat) : Prop := st.count 5 = op ∧ out.length + st.length ≤ kn + op ∧ kn ≤ 64 ∧ op ≤ 8 ∧ ∀ x, x ∈ st → x = 5 ∨ sg x ≠ 0
def CSt (S : Mem) (b : Nat → Nat) (n m a i : Nat) (out st : List Nat) (op kn : Nat) (wt : Bool) : Prop :=
  tkC S b n m ∧ S.1 3 5 = nI i ∧ i ≤ m ∧ SO a S out st ∧ S.1 3 7 = nI op ∧ S.1 8 2 = nI kn ∧ S.1 3 8 = (if wt = true then 1 else 0) ∧ lwI st out op kn ∧ S.1 3 2 = 0 ∧ S.1 3 3 = -1
def CSl (S : Mem) (b : Nat → Nat) (n m a : Nat) (s : LX) : Prop := CSt S b n m a s.1 s.2.1 s.2.2.1 s.2.2.2.1 s.2.2.2.2.1 s.2.2.2.2.2
def PRc (S : Mem) (b : Nat → Nat) (n m a i : Nat) (y : Option (Int32 × Mem)) : Option (Except Nat LX) → Prop
  | some (.ok s) => ∃ S', y = some (1, S') ∧ CSl (sI S' 3 5 (nI (i + 1))) b n m a s ∧ cL a S S' ∧ S'.1 3 5 = nI i
  | some (.error f) => ∃ S', y = some (0, S') ∧ S'.1 3 2 = nI f ∧ S'.1 3 3 = nI (ps b n i) ∧ cL a S S'
  | none => True
theorem tk_cL (ha : aL a) (h : tkC S b n m) (e : cL a S S') : tkC S' b n m := by
  unfold aL at ha
  exact tkC_to h (fun c i hc => e.1 c i (by omega) (by omega) (by omega) (by omega) (by omega))
theorem lwI_b (h : lwI st out op kn) : st.length ≤ 72 ∧ (∀ x, x ∈ st → x < 40) ∧ out.length + st.length ≤ 64 + st.count 5 := by
  obtain ⟨h1, h2, h3, h4, h5⟩ := h
  refine ⟨by omega, fun x hx => ?_, by omega⟩
  rcases h5 x hx with z | z
  · omega
  · have := (sg_b z).2; omega
theorem lwKn_C (h : S.1 8 2 = nI kn) (hk : kn < 64) : f_X4_addKnot S = some (1, sI S 8 2 (nI (kn + 1))) := by
  unfold f_X4_addKnot
  rw [h, if_pos (show nI kn < 64 from (nI_lt hk (by omega) : nI kn < nI 64)), nxt_eq, nI_1]
theorem lwKn_w (h : S.1 8 2 = nI kn) (hk : ¬ kn < 64) (hk2 : kn ≤ 64) (ht : tkC S b n m) (hn : n ≤ 700) (h5 : S.1 3 5 = nI i) (hi : i ≤ m) : f_X4_addKnot S = some (0, sI (sI S 3 2 2) 3 3 (nI (ps b n i))) := by
  have : kn = 64 := by omega
  unfold f_X4_addKnot
  rw [h, this, if_neg (by decide), wrongR_C ht hn h5 hi, bnd_some, if_pos (by decide)]
theorem letW_C (h : SO a S out st) (hl : st.length < 72) : f_X4_letWait (nI x) S = some (1, sI (sI S 30 st.length (nI x)) 3 6 (nI (st.length + 1))) := by
  unfold f_X4_letWait
  rw [h.2.2.1, if_pos (nI_lt hl (by omega)), wrN hl (by omega), Option.bind_some, nxt_eq, sI1, if_neg (by omega), h.2.2.1, nI_1]
theorem wr_ok (ht : tkC S b n m) (hn : n ≤ 700) (h5 : S.1 3 5 = nI i) (hi : i ≤ m) (e : cL a S' S) (f : Nat) : ∃ S1, f_X4_wrong (nI f) S = some (0, S1) ∧ S1.1 3 2 = nI f ∧ S1.1 3 3 = nI (ps b n i) ∧ cL a S' S1 :=
  ⟨_, wrongR_C ht hn h5 hi _, by rw [sI1, if_neg (by omega), sI1, if_pos ⟨rfl, rfl⟩], by rw [sI1, if_pos ⟨rfl, rfl⟩], cL_s (cL_s e (by omega)) (by omega)⟩
theorem bw {x : Option (Int32 × Mem)} {r : Int32} {S1 : Mem} (e : x = some (r, S1)) (h : okz r = true) : (bnd x fun r S => if okz r = true then some (r, S) else none) = some (r, S1) := by
  rw [e, bnd_some, if_pos h]
theorem so5 {v : Int32} (h : SO a S out st) (ha : aL a) (c i : Nat) (hc : (c = 3 ∧ i ≠ 6) ∨ (c = 8 ∧ i = 2)) : SO a (sI S c i v) out st := by
  unfold aL at ha
  refine SO_to h ?_ (funext fun j => ?_) ?_ (funext fun j => ?_) <;> rw [sI1, if_neg (by omega)]
theorem part_C (ha : aL a) (hb2 : ∀ i, i < n → b i < 256) (hn : n ≤ 700) (h : CSt S b n m a i out st op kn true) : PRc S b n m a i (f_X4_readPart a S) (lx1 (tK b n) (tV b n) i out st op kn true) := by
  obtain ⟨h1, h2, h3, h4, h5, h6, h7, hI, hz2, hz3⟩ := h
  obtain ⟨b1, b2, b3⟩ := lwI_b hI
  obtain ⟨i1, i2, i3, i4, i5⟩ := hI
  have ha' := ha
  unfold aL at ha'
  have hk := tkd_b hb2 (ps b n i)
  have hne : ∀ v, v < 40 → tK b n i ≠ v → nI (tkd b n (ps b n i)) ≠ nI v := fun v hv z e => z ((nI_eq (a := tkd b n (ps b n i)) (by omega) (by omega)).mp e)
  have bad : ∀ f, okz 0 = true → ∃ S1, f_X4_wrong (nI f) S = some (0, S1) ∧ S1.1 3 2 = nI f ∧ S1.1 3 3 = nI (ps b n i) ∧ cL a S S1 := fun f _ => wr_ok h1 hn h2 h3 (cL_rf a S) f
  have o0 : okz 0 = true := by decide
  unfold f_X4_readPart lx1
  rw [kindR_C h1 hn h2 h3, bnd_some, if_pos rfl]
  by_cases k5 : tK b n i = 5
  · have e5 : tkd b n (ps b n i) = 5 := k5
    have him := lt_m h1 h3 (by omega)
    rw [if_pos k5, e5, if_pos (show nI 5 = (5 : Int32) from rfl), h5]
    by_cases z : op < 8
    · rw [if_pos z, if_pos (show nI op < 8 from (nI_lt z (by omega) : nI op < nI 8)), nxt_eq, nI_1]
      have q1 : SO a (sI S 3 7 (nI (op + 1))) out st := so5 h4 ha 3 7 (by omega)
      refine ⟨_, bw (letW_C (x := 5) q1 (by omega)) (by decide), ⟨?_, by rw [sI1, if_pos ⟨rfl, rfl⟩], (show i + 1 ≤ m by omega), so5 (SO_push ha q1) ha 3 5 (by omega), ?_, ?_, ?_, ?_, by simp only [sI1]; simp; exact hz2, by simp only [sI1]; simp; exact hz3⟩, ?_, ?_⟩
      · exact tkC_to h1 (fun c j hc => by simp only [sI1]; grind)
      · simp only [sI1]; simp
      · simp only [sI1]; simp; exact h6
      · simp only [sI1]; simp; exact h7
      · refine ⟨by simp [i1], by simp only [List.length_cons]; omega, i3, (show op + 1 ≤ 8 by omega), fun x hx => ?_⟩
        rcases List.mem_cons.mp hx with z | z
        · exact Or.inl z
        · exact i5 x z
      · exact cL_s (cL_s (cL_s (cL_rf a S) (by omega)) (by omega)) (by omega)
      · simp only [sI1]; simp; exact h2
    · rw [if_neg z, if_neg (show ¬ nI op < 8 from (Int32.not_lt.mpr (nI_le (a := 8) (by omega) (by omega)) : ¬ nI op < nI 8))]
      obtain ⟨S1, q1, q2⟩ := bad 2 o0
      exact ⟨S1, bw q1 o0, q2⟩
  · rw [if_neg k5, if_neg (show ¬ nI (tkd b n (ps b n i)) = 5 from hne 5 (by omega) k5)]
    by_cases k19 : tK b n i = 19
    · have e5 : tkd b n (ps b n i) = 19 := k19
      have him := lt_m h1 h3 (by omega)
      rw [if_pos k19, e5, if_pos (show nI 19 = (19 : Int32) from rfl), lwWait_C h4 b1 b2, bnd_some]
      have hs6 : sgT st ≤ 6 := by
        cases st with
        | nil => exact Nat.zero_le _
        | cons y st => exact (sg_c y).1
      by_cases y : sgT st ≤ 3
      · rw [if_pos y, if_pos (show nI (sgT st) ≤ 3 from (nI_le y (by omega) : nI (sgT st) ≤ nI 3))]
        by_cases z : kn < 64
        · rw [if_pos z, lwKn_C h6 z, bnd_some, if_neg (by decide)]
          have q1 : SO a (sI S 8 2 (nI (kn + 1))) out st := so5 h4 ha 8 2 (by omega)
          have e19 : f_X4_letWait 19 (sI S 8 2 (nI (kn + 1))) = _ := letW_C (x := 19) q1 (by omega)
          rw [e19, bnd_some, if_neg (by decide)]
          refine ⟨_, rfl, ⟨?_, by rw [sI1, if_pos ⟨rfl, rfl⟩], (show i + 1 ≤ m by omega), so5 (SO_push ha q1) ha 3 5 (by omega), ?_, ?_, ?_, ?_, by simp only [sI1]; simp; exact hz2, by simp only [sI1]; simp; exact hz3⟩, ?_, ?_⟩
          · exact tkC_to h1 (fun c j hc => by simp only [sI1]; grind)
          · simp only [sI1]; simp; exact h5
          · simp only [sI1]; simp
          · simp only [sI1]; simp; exact h7
          · refine ⟨by simp [i1], by simp only [List.length_cons]; omega, (show kn + 1 ≤ 64 by omega), i4, fun x hx => ?_⟩
            rcases List.mem_cons.mp hx with z | z
            · rw [z]; exact Or.inr (by decide)
            · exact i5 x z
          · exact cL_s (cL_s (cL_s (cL_rf a S) (by omega)) (by omega)) (by omega)
          · simp only [sI1]; simp; exact h2
        · rw [if_neg z, lwKn_w h6 z i3 h1 hn h2 h3, bnd_some, if_pos rfl]
          exact ⟨_, rfl, by rw [sI1, if_neg (by omega), sI1, if_pos ⟨rfl, rfl⟩]; rfl, by rw [sI1, if_pos ⟨rfl, rfl⟩], cL_s (cL_s (cL_rf a S) (by omega)) (by omega)⟩
      · rw [if_neg y, if_neg (show ¬ nI (sgT st) ≤ 3 from (nI_ge (a := 3) (by omega) (by omega)))]
        obtain ⟨S1, q1, q2⟩ := bad 1 o0
        exact ⟨S1, bw q1 o0, q2⟩
    · rw [if_neg k19, if_neg (show ¬ nI (tkd b n (ps b n i)) = 19 from hne 19 (by omega) k19)]
      by_cases k2 : tK b n i = 2
      · have e5 : tkd b n (ps b n i) = 2 := k2
        have him := lt_m h1 h3 (by omega)
        have g8 : (sI S 3 8 0).1 8 2 = nI kn := by rw [sI1, if_neg (by omega)]; exact h6
        have g5 : (sI S 3 8 0).1 3 5 = nI i := by rw [sI1, if_neg (by omega)]; exact h2
        have gt : tkC (sI S 3 8 0) b n m := tkC_to h1 (fun c j hc => by rw [sI1, if_neg (by omega)])
        have gS : SO a (sI S 3 8 0) out st := so5 h4 ha 3 8 (by omega)
        have hv := (num_like hb2 e5).1
        rw [if_pos k2, e5, if_pos (show nI 2 = (2 : Int32) from rfl), nxt_eq, valR_C gt hn g5 him, bnd_some]
        by_cases y : tV b n i ≤ 9999
        · rw [if_pos y, if_pos (show nI (tvC b n (ps b n i)) ≤ 9999 from (nI_le y (by omega) : nI (tV b n i) ≤ nI 9999))]
          by_cases z : kn < 64
          · have g8' : (sI (sI S 3 8 0) 8 2 (nI (kn + 1))).1 3 5 = nI i := by rw [sI1, if_neg (by omega)]; exact g5
            have gt' : tkC (sI (sI S 3 8 0) 8 2 (nI (kn + 1))) b n m := tkC_to gt (fun c j hc => by rw [sI1, if_neg (by omega)])
            have gS' : SO a (sI (sI S 3 8 0) 8 2 (nI (kn + 1))) out st := so5 gS ha 8 2 (by omega)
            have hcl : st.count 5 ≤ st.length := List.count_le_length
            rw [if_pos z, lwKn_C g8 z, bnd_some, if_neg (by decide), valR_C gt' hn g8' him, bnd_some, show (100 : Int32) + nI (tvC b n (ps b n i)) = nI (100 + tV b n i) from nI_add 100 _, lwAdd_C ha gS' (by omega), bnd_some, if_neg (by decide)]
            refine ⟨_, rfl, ⟨?_, by rw [sI1, if_pos ⟨rfl, rfl⟩], (show i + 1 ≤ m by omega), so5 (SO_add ha gS') ha 3 5 (by omega), ?_, ?_, ?_, ?_, by simp only [sI1]; rw [if_neg (by omega), if_neg (by omega), if_neg (by omega), if_neg (by omega), if_neg (by omega)]; exact hz2, by simp only [sI1]; rw [if_neg (by omega), if_neg (by omega), if_neg (by omega), if_neg (by omega), if_neg (by omega)]; exact hz3⟩, ?_, ?_⟩
            · exact tkC_to h1 (fun c j hc => by simp only [sI1]; grind)
            · simp only [sI1]; rw [if_neg (by omega), if_neg (by omega), if_neg (by omega), if_neg (by omega), if_neg (by omega)]; exact h5
            · simp only [sI1]; rw [if_neg (by omega), if_neg (by omega), if_neg (by omega), if_pos (by simp)]
            · simp only [sI1]; rw [if_neg (by omega), if_neg (by omega), if_neg (by omega), if_neg (by omega), if_pos (by simp)]; rfl
            · refine ⟨i1, by simp only [List.length_append, List.length_singleton]; omega, (show kn + 1 ≤ 64 by omega), i4, i5⟩
            · exact cL_s (cL_s (cL_s (cL_s (cL_rf a S) (by omega)) (by omega)) (by omega)) (by omega)
            · simp only [sI1]; rw [if_neg (by omega), if_neg (by omega), if_neg (by omega), if_neg (by omega)]; exact h2
          · rw [if_neg z, lwKn_w g8 z i3 gt hn g5 h3, bnd_some, if_pos rfl]
            exact ⟨_, rfl, by rw [sI1, if_neg (by omega), sI1, if_pos ⟨rfl, rfl⟩]; rfl, by rw [sI1, if_pos ⟨rfl, rfl⟩], cL_s (cL_s (cL_s (cL_rf a S) (by omega)) (by omega)) (by omega)⟩
        · rw [if_neg y, if_neg (show ¬ nI (tvC b n (ps b n i)) ≤ 9999 from (nI_ge (a := 9999) (by show 9999 < tV b n i; omega) (by omega)))]
          obtain ⟨S1, q1, q2, q3, q4⟩ := wr_ok (a := a) (S' := S) gt hn g5 h3 (cL_s (cL_rf a S) (by omega)) 2
          exact ⟨S1, bw q1 o0, q2, q3, q4⟩
      · rw [if_neg k2, if_neg (show ¬ nI (tkd b n (ps b n i)) = 2 from hne 2 (by omega) k2)]
        have bad1 : ∃ S1, f_X4_readPart_152 a S = some (0, S1) ∧ S1.1 3 2 = nI 1 ∧ S1.1 3 3 = nI (ps b n i) ∧ cL a S S1 := by
          obtain ⟨S1, q1, q2⟩ := bad 1 o0
          exact ⟨S1, bw q1 o0, q2⟩
        by_cases k20 : tK b n i < 20
        · rw [if_pos k20, if_pos (show nI (tkd b n (ps b n i)) < 20 from (nI_lt k20 (by omega) : _ < nI 20))]
          exact bad1
        · rw [if_neg k20, if_neg (show ¬ nI (tkd b n (ps b n i)) < 20 from (Int32.not_lt.mpr (nI_le (a := 20) (by show 20 ≤ tK b n i; omega) (by omega))))]
          by_cases k26 : tK b n i ≤ 26
          · have him := lt_m h1 h3 (by show tK b n i ≠ 0; omega)
            have g8 : (sI S 3 8 0).1 8 2 = nI kn := by rw [sI1, if_neg (by omega)]; exact h6
            have g5 : (sI S 3 8 0).1 3 5 = nI i := by rw [sI1, if_neg (by omega)]; exact h2
            have gt : tkC (sI S 3 8 0) b n m := tkC_to h1 (fun c j hc => by rw [sI1, if_neg (by omega)])
            have gS : SO a (sI S 3 8 0) out st := so5 h4 ha 3 8 (by omega)
            rw [if_pos k26, if_pos (show nI (tkd b n (ps b n i)) ≤ 26 from (nI_le k26 (by omega) : _ ≤ nI 26)), nxt_eq]
            by_cases z : kn < 64
            · have gS' : SO a (sI (sI S 3 8 0) 8 2 (nI (kn + 1))) out st := so5 gS ha 8 2 (by omega)
              have hcl : st.count 5 ≤ st.length := List.count_le_length
              rw [if_pos z, lwKn_C g8 z, bnd_some, if_neg (by decide), show nI (tkd b n (ps b n i)) = nI (tK b n i) from rfl, lwAdd_C ha gS' (by omega), bnd_some, if_neg (by decide)]
              refine ⟨_, rfl, ⟨?_, by rw [sI1, if_pos ⟨rfl, rfl⟩], (show i + 1 ≤ m by omega), so5 (SO_add ha gS') ha 3 5 (by omega), ?_, ?_, ?_, ?_, by simp only [sI1]; rw [if_neg (by omega), if_neg (by omega), if_neg (by omega), if_neg (by omega), if_neg (by omega)]; exact hz2, by simp only [sI1]; rw [if_neg (by omega), if_neg (by omega), if_neg (by omega), if_neg (by omega), if_neg (by omega)]; exact hz3⟩, ?_, ?_⟩
              · exact tkC_to h1 (fun c j hc => by simp only [sI1]; grind)
              · simp only [sI1]; rw [if_neg (by omega), if_neg (by omega), if_neg (by omega), if_neg (by omega), if_neg (by omega)]; exact h5
              · simp only [sI1]; rw [if_neg (by omega), if_neg (by omega), if_neg (by omega), if_pos (by simp)]
              · simp only [sI1]; rw [if_neg (by omega), if_neg (by omega), if_neg (by omega), if_neg (by omega), if_pos (by simp)]; rfl
              · refine ⟨i1, by simp only [List.length_append, List.length_singleton]; omega, (show kn + 1 ≤ 64 by omega), i4, i5⟩
              · exact cL_s (cL_s (cL_s (cL_s (cL_rf a S) (by omega)) (by omega)) (by omega)) (by omega)
              · simp only [sI1]; rw [if_neg (by omega), if_neg (by omega), if_neg (by omega), if_neg (by omega)]; exact h2
            · rw [if_neg z, lwKn_w g8 z i3 gt hn g5 h3, bnd_some, if_pos rfl]
              exact ⟨_, rfl, by rw [sI1, if_neg (by omega), sI1, if_pos ⟨rfl, rfl⟩]; rfl, by rw [sI1, if_pos ⟨rfl, rfl⟩], cL_s (cL_s (cL_s (cL_rf a S) (by omega)) (by omega)) (by omega)⟩
          · rw [if_neg k26, if_neg (show ¬ nI (tkd b n (ps b n i)) ≤ 26 from (nI_ge (a := 26) (by show 26 < tK b n i; omega) (by omega)))]
            exact bad1
end LAWJ
