/-! PURE 5: the class's week -/
theorem i64_le (a b : Int32) : a.toInt64 ≤ b.toInt64 ↔ a ≤ b := by
  rw [Int64.le_iff_toInt_le, Int32.le_iff_toInt_le, Int32.toInt_toInt64, Int32.toInt_toInt64]
theorem and31 (x : Int64) : x &&& 2147483647 = lN (x.toBitVec.toNat % 2 ^ 31) := by
  apply Int64.toBitVec_inj.mp
  apply BitVec.eq_of_toNat_eq
  rw [Int64.toBitVec_and, BitVec.toNat_and]
  show x.toBitVec.toNat &&& 2147483647 = (BitVec.ofNat 64 (x.toBitVec.toNat % 2 ^ 31)).toNat
  rw [BitVec.toNat_ofNat, show (2147483647 : Nat) = 2 ^ 31 - 1 from rfl, Nat.and_two_pow_sub_one_eq_mod]
  omega
theorem num_C (x : Int32) : (x.toInt64 * 1103515245 + 12345) &&& 2147483647 = (numN x).toInt64 := by
  rw [and31]
  unfold numN
  rw [pk_and _ 31 rfl, nI_l (by omega)]
  have e1 : (x.toInt64 * 1103515245 + 12345).toBitVec.toNat = (x.toInt64.toBitVec.toNat * 1103515245 + 12345) % 2 ^ 64 := by
    rw [Int64.toBitVec_add, Int64.toBitVec_mul, BitVec.toNat_add, BitVec.toNat_mul]
    show (x.toInt64.toBitVec.toNat * 1103515245 % 2 ^ 64 + 12345) % 2 ^ 64 = _
    omega
  have e2 : (x * 1103515245 + 12345).toBitVec.toNat = (x.toBitVec.toNat * 1103515245 + 12345) % 2 ^ 32 := by
    rw [Int32.toBitVec_add, Int32.toBitVec_mul, BitVec.toNat_add, BitVec.toNat_mul]
    show (x.toBitVec.toNat * 1103515245 % 2 ^ 32 + 12345) % 2 ^ 32 = _
    omega
  have e3 : x.toInt64.toBitVec.toNat % 2 ^ 32 = x.toBitVec.toNat := by
    have h := x.toBitVec.isLt
    show (x.toBitVec.signExtend 64).toNat % 2 ^ 32 = _
    rw [BitVec.toNat_signExtend, BitVec.toNat_setWidth]
    split <;> omega
  have key : (x.toInt64 * 1103515245 + 12345).toBitVec.toNat % 2 ^ 31 = (x * 1103515245 + 12345).toBitVec.toNat % 2 ^ 31 := by
    rw [e1, e2]
    omega
  rw [key]
theorem sh_l {a d : Nat} {D : Int64} (hD : (D.toBitVec.smod 64).toNat = d) (h : a < 2 ^ 62) : lN a >>> D = lN (a / 2 ^ d) := by
  have hd : a / 2 ^ d ≤ a := Nat.div_le_self _ _
  apply Int64.toInt_inj.mp
  have e : (lN a >>> D).toInt = (lN a).toInt >>> d := by
    rw [← hD]
    exact BitVec.toInt_sshiftRight ..
  rw [e, Int.shiftRight_eq_div_pow, pk_lT (by omega), pk_lT (by omega)]
  rfl
theorem draw_C (x : Int32) : rmL ((numN x).toInt64 >>> (((16 : Int32)).toInt64 &&& 63)) 100 = some (numD (numN x)).toInt64 := by
  unfold numN
  rw [pk_and _ 31 rfl]
  generalize hy : (x * 1103515245 + 12345).toBitVec.toNat % 2 ^ 31 = y
  have hy2 : y < 2 ^ 31 := by omega
  unfold rmL numD
  rw [if_neg (by decide), nI_l hy2, sh_l (d := 16) (by decide) (by omega), show (100 : Int64) = lN 100 from rfl, pk_lRem (by omega) (by omega) (by omega), pk_shrN hy2 _ 16 (by decide), show (100 : Int32) = nI 100 from rfl, pk_rem (by omega) (by omega) (by omega), nI_l (by omega)]
section WKC
variable {w : Nat} {S : Mem} {N : TN} {T : WS} {L : LWS} {W : WS} {cd : Nat → Int32}
theorem bd_ne {v : Int64} (h : bd v) : v ≠ -9223372036854775808 := fun e => bd_e (e ▸ h)
theorem bd_i (x : Int32) : bd x.toInt64 := by
  have h1 := x.toInt_lt
  have h2 := x.le_toInt
  unfold bd
  rw [Int64.lt_iff_toInt_lt, Int64.lt_iff_toInt_lt, Int32.toInt_toInt64]
  have e1 : (1000000000000 : Int64).toInt = 1000000000000 := rfl
  have e2 : (-1000000000000 : Int64).toInt = -1000000000000 := rfl
  rw [e1, e2]
  omega
theorem chk_b {x v : Int64} (h : chk x = some v) : bd v := by
  rcases chk_c x with ⟨e, _⟩ | ⟨e, hb⟩
  · rw [e] at h; cases h
  · rw [e] at h; cases h; exact hb
theorem jmul_b {x y v : Int64} (h : jmul x y = some v) : bd v := by
  unfold jmul at h
  generalize (if 0 ≤ x then x else -x) = b at h
  by_cases h1 : x = 0
  · rw [if_pos h1] at h; cases h; exact bd_0
  · rw [if_neg h1] at h
    by_cases h2 : y = 0
    · rw [if_pos h2] at h; cases h; exact bd_0
    · rw [if_neg h2] at h
      by_cases h3 : (1000000000000 : Int64) / b < y
      · rw [if_pos h3] at h; cases h
      · rw [if_neg h3] at h
        by_cases h4 : -((1000000000000 : Int64) / b) ≤ y
        · rw [if_pos h4] at h; exact chk_b h
        · rw [if_neg h4] at h; cases h
theorem bd_if {c : Prop} [Decidable c] {v : Int64} (h : some (if c then (0 : Int64) else 1) = some v) : bd v := by
  cases h
  split
  · exact bd_0
  · exact bd_1
theorem bd_if' {c : Prop} [Decidable c] {v : Int64} (h : some (if c then (1 : Int64) else 0) = some v) : bd v := by
  cases h
  split
  · exact bd_1
  · exact bd_0
theorem jn_b {k : Nat} {x y v : Int64} (h : jn k x y = some v) : bd v := by
  unfold jn at h
  by_cases c7 : k = 7
  · rw [if_pos c7] at h; exact bd_if h
  rw [if_neg c7] at h
  by_cases c8 : k = 8
  · rw [if_pos c8] at h; exact bd_if h
  rw [if_neg c8] at h
  by_cases c9 : k = 9
  · rw [if_pos c9] at h; exact bd_if' h
  rw [if_neg c9] at h
  by_cases c10 : k = 10
  · rw [if_pos c10] at h; exact bd_if h
  rw [if_neg c10] at h
  by_cases c11 : k = 11
  · rw [if_pos c11] at h; exact bd_if h
  rw [if_neg c11] at h
  by_cases c12 : k = 12
  · rw [if_pos c12] at h; exact bd_if h
  rw [if_neg c12] at h
  by_cases c13 : k = 13
  · rw [if_pos c13] at h; exact chk_b h
  rw [if_neg c13] at h
  by_cases c14 : k = 14
  · rw [if_pos c14] at h; exact chk_b h
  rw [if_neg c14] at h
  by_cases c15 : k = 15
  · rw [if_pos c15] at h; exact jmul_b h
  rw [if_neg c15] at h
  by_cases c16 : k = 16
  · rw [if_pos c16] at h
    by_cases hy : y = 0
    · rw [if_pos hy] at h; cases h
    · rw [if_neg hy] at h; exact chk_b h
  rw [if_neg c16] at h
  by_cases c17 : k = 17
  · rw [if_pos c17] at h
    by_cases hx : x = 0
    · rw [if_pos hx] at h; exact bd_if h
    · rw [if_neg hx] at h; cases h; exact bd_1
  rw [if_neg c17] at h
  by_cases c18 : k = 18
  · rw [if_pos c18] at h
    by_cases hx : x = 0
    · rw [if_pos hx] at h; cases h; exact bd_0
    · rw [if_neg hx] at h; exact bd_if h
  rw [if_neg c18] at h
  exact jmul_b h
theorem evS_b {k : Nat} {st st' : List Int64} (hs : ∀ v ∈ st, bd v) (h : evS k st = some st') : ∀ v ∈ st', bd v := by
  unfold evS at h
  split at h
  · rcases st with _ | ⟨x, s⟩
    · cases h
    · cases h
      intro v hv
      rcases List.mem_cons.mp hv with rfl | hv
      · split
        · exact bd_1
        · exact bd_0
      · exact hs v (List.mem_cons_of_mem _ hv)
  · rcases st with _ | ⟨y, _ | ⟨x, s⟩⟩
    · cases h
    · cases h
    · cases hj : jn k x y with
      | none => simp [hj] at h
      | some u =>
        simp [hj] at h
        subst h
        intro v hv
        rcases List.mem_cons.mp hv with rfl | hv
        · exact jn_b hj
        · exact hs v (List.mem_cons_of_mem _ (List.mem_cons_of_mem _ hv))
theorem bd_n {n : Nat} (h : n ≤ 10099) : bd (lN n) := by
  unfold bd
  constructor
  · rw [show (1000000000000 : Int64) = lN 1000000000000 from rfl, pk_lLT (by omega) (by omega)]
    omega
  · rw [Int64.lt_iff_toInt_lt, pk_lT (by omega)]
    have e2 : (-1000000000000 : Int64).toInt = -1000000000000 := rfl
    rw [e2]
    omega
theorem evK_b {nm : Nat → Int32} {k : Nat} {st st' : List Int64} (hk : k ≤ 10099) (hs : ∀ v ∈ st, bd v) (h : evK nm k st = some st') : ∀ v ∈ st', bd v := by
  unfold evK at h
  split at h
  · split at h
    · exact evS_b hs h
    · split at h
      · exact evS_b hs h
      · cases h
        intro v hv
        rcases List.mem_cons.mp hv with rfl | hv
        · exact bd_i _
        · exact hs v hv
  · cases h
    intro v hv
    rcases List.mem_cons.mp hv with rfl | hv
    · exact bd_n (by omega)
    · exact hs v hv
theorem evL_b {nm : Nat → Int32} : ∀ (l : List Nat) (st st' : List Int64), (∀ k ∈ l, k ≤ 10099) → (∀ v ∈ st, bd v) → evL nm l st = some st' → ∀ v ∈ st', bd v := by
  intro l
  induction l with
  | nil => intro st st' _ hs h; cases h; exact hs
  | cons k l ih =>
    intro st st' hk hs h
    unfold evL at h
    cases hv : evK nm k st with
    | none => rw [hv] at h; cases h
    | some s1 =>
      rw [hv] at h
      exact ih s1 st' (fun k' h' => hk k' (List.mem_cons_of_mem _ h')) (evK_b (hk k List.mem_cons_self) hs hv) h
theorem lawV_b {l : Option (List Nat)} {nm : Nat → Int32} {v : Int64} (hl : ∀ q, l = some q → wfK q 0) (h : lawV l nm = some v) : bd v := by
  cases l with
  | none => cases h
  | some q =>
    have h : fin1 (evL nm q []) = some v := h
    cases he : evL nm q [] with
    | none => rw [he] at h; cases h
    | some st =>
      rw [he] at h
      rcases st with _ | ⟨u, _ | ⟨z, st⟩⟩
      · cases h
      · have h : some u = some v := h
        cases h
        exact evL_b q [] [v] (fun k hk => (okL q 0 (hl q rfl) k hk).2.1) (fun _ hx => by cases hx) he v List.mem_cons_self
      · cases h
/-- the end of a law: an ERROR, or a value -/
theorem law_if {α : Type} {k : Nat} (hI : TI N T L) (hk : k < 3) {nm : Nat → Int32} {r : Int64} (hr : r = er (lawV (L k) nm)) {a b : Option α} {P : α → Prop} (h1 : lawV (L k) nm = none → wp a P) (h2 : ∀ v, lawV (L k) nm = some v → r = v → wp b P) : wp (if r = (-9223372036854775808 : Int64) then a else b) P := by
  cases hv : lawV (L k) nm with
  | none => rw [hr, hv]; exact wp_pos rfl (h1 hv)
  | some v =>
    rw [hv] at hr
    have hr : r = v := hr
    refine wp_neg ?_ (h2 v hv hr)
    rw [hr]
    exact bd_ne (lawV_b (fun q hq => (hI.2.2.2.2.2.2.2.2 k hk q hq).1) hv)
theorem hurt_C (hw : w = 53 ∨ w = 69) (hT : TC S N T L) (hI : TI N T L) (h : WC w S N W cd) {d : Nat} (hd : d < N 0 1) :
    wp (f_X8_hurtOne w (nI d) S) (fun S' => WC w S' N (sHurt N T L cd W d) cd ∧ fr w S S') := by
  have hnd : N 0 1 ≤ 10 := hI.2.1
  have how : ow N d < 2 := by unfold ow; omega
  unfold f_X8_hurtOne
  refine wp_rd d rfl (by omega) (h.2.2.2.2.2.1 d hd).2.1 ?_
  refine wp_bnde (f_mn _ _ _) ?_
  refine wp_wr d rfl (by omega) ?_
  refine wp_nxt ?_
  have e12 : (sI S (w + 2) d (mn 9 (W 2 d + 1))).1 w 12 = W 0 4 := by rw [sI_off (by omega)]; exact h.2.2.2.1
  rw [e12]
  have h1 : WC w (sI (sI S (w + 2) d (mn 9 (W 2 d + 1))) w 12 (W 0 4 ||| (1 <<< (nI d &&& 31)))) N (sHurt1 W d) cd := WC_hm (WC_2 h d _) _
  have f1 : fr w S (sI (sI S (w + 2) d (mn 9 (W 2 d + 1))) w 12 (W 0 4 ||| (1 <<< (nI d &&& 31)))) := fr_tr (fr_sI (by omega) (by omega)) (fr_sI (by omega) (by omega))
  generalize sI (sI S (w + 2) d (mn 9 (W 2 d + 1))) w 12 (W 0 4 ||| (1 <<< (nI d &&& 31))) = M at *
  have hT1 := TC_fr (by omega) hT f1
  refine wp_bnde (care_C h1 hnd hd) ?_
  refine wp_bnd (dollLaw_C (k := 1) hw hT1 hI h1 (by omega) hd (cd d)) ?_
  rintro r M2 ⟨hr, f2⟩
  simp only at hr f2
  have h2 := WC_n h1 f2 (by omega)
  have f3 := fr_tr f1 (fr_n f2)
  have hT2 := TC_fr (by omega) hT f3
  have last : ∀ p : Int32, p = byL (lawV (L 1) (nmD N T (sHurt1 W d) (cd d) d)) 99 (T 6 d) → wp (f_X8_hurtOne_69 w (nI d) p M2) (fun S' => WC w S' N (sHurt N T L cd W d) cd ∧ fr w S S') := by
    intro p hp
    unfold f_X8_hurtOne_69
    refine wp_rd d rfl (by omega) (hT2.2.2.2.2.1 d hd).2.2.1 ?_
    refine wp_rd (ow N d) rfl how (h2.2.2.2.2.2.2 _ how).1 ?_
    refine wp_bnde (f_mn _ _ _) ?_
    refine wp_wr (ow N d) rfl how ?_
    refine wp_some ⟨?_, fr_tr f3 (fr_sI (by omega) (by omega))⟩
    have e5 : sHurt1 W d 5 (ow N d) = W 5 (ow N d) := by simp [sHurt1, wu1]
    rw [e5, hp]
    exact WC_5 h2 _ _
  refine law_if hI (by omega) hr (fun hv => ?_) (fun v hv hrv => ?_)
  · refine wp_rd d rfl (by omega) (hT2.2.2.2.2.1 d hd).2.2.2.1 ?_
    exact last _ (by rw [hv]; rfl)
  · refine wp_bnde (f_within _ _ _) ?_
    exact last _ (by rw [hv, hrv]; rfl)
theorem odds_C (hw : w = 53 ∨ w = 69) (hT : TC S N T L) (hI : TI N T L) (h : WC w S N W cd) {d : Nat} (hd : d < N 0 1) (cv : Int32) :
    wp (f_X8_oddsFor w (nI d) cv S) (fun q => q.1 = sOdds N T L W cv d ∧ frN w S q.2) := by
  unfold f_X8_oddsFor
  refine wp_bnd (dollLaw_C (k := 0) hw hT hI h (by omega) hd cv) ?_
  rintro r M ⟨hr, f⟩
  simp only at hr f
  refine law_if hI (by omega) hr (fun hv => ?_) (fun v hv hrv => ?_)
  · have hT1 := TC_fr (by omega) hT (fr_n f)
    refine wp_rd 0 rfl (by decide) (hT1.2.2.2.2.2.2.1 0 (by decide)) ?_
    refine wp_bnde (f_mx _ _ _) ?_
    exact wp_some ⟨by simp [sOdds, hv, byL], f⟩
  · refine wp_bnde (f_within _ _ _) ?_
    exact wp_some ⟨by simp [sOdds, hv, byL, hrv], f⟩
theorem held_C (h : WC w S N W cd) {d : Nat} (hd : d < 32) : f_X8_isHeld w (nI d) S = some (if bt (W 0 3) d = true then 1 else 0, S) := by
  unfold f_X8_isHeld
  rw [h.2.1]
  by_cases c : bt (W 0 3) d = true
  · rw [if_pos ((bt_test hd).mpr c), if_pos c]
  · rw [if_neg (fun q => c ((bt_test hd).mp q)), if_neg c]
theorem fr_to (hw : w = 53 ∨ w = 69) (hT : TC S N T L) {S' : Mem} (f : fr w S S') : S'.1 31 1 = nI (N 0 1) := by
  rw [f.1 31 (by omega)]; exact hT.2.1
theorem moth1_C (hw : w = 53 ∨ w = 69) (hT : TC S N T L) (hI : TI N T L) (h : WC w S N W cd) {d : Nat} (hd : d < N 0 1) {v1 : Int32} {R : Int32 → Int32 → Mem → Option Mem} {P : Mem → Prop}
    (k : ∀ S', WC w S' N (sCome N T L cd W d) cd → fr w S S' → wp (R v1 (nI d + 1) S') P) : wp (f_X8_letMothsCome_53 w R v1 (nI d) S) P := by
  unfold f_X8_letMothsCome_53
  refine wp_nxt ?_
  rw [h.2.2.1]
  have h1 := WC_mo h (W 0 2 + 1)
  have f1 : fr w S (sI S w 2 (W 0 2 + 1)) := fr_sI (by omega) (by omega)
  refine wp_call (hurt_C hw (TC_fr (by omega) hT f1) hI h1 hd) ?_
  rintro S' ⟨h2, f2⟩
  exact k S' h2 (fr_tr f1 f2)
theorem nxt_eq {α : Type} (S : Mem) (f : Mem → Option α) : nxt S f = f S := rfl
theorem drawn_C {w : Nat} {S : Mem} {x o : Int32} (h : S.2 w 3 = x.toInt64) : f_X8_isDrawn w o S = if o ≤ 0 then some (0, S) else if 100 ≤ o then some (1, S) else some (if o ≤ numD (numN x) then 0 else 1, sL S w 3 (numN x).toInt64) := by
  unfold f_X8_isDrawn f_X8_isDrawn_10
  by_cases q : o ≤ 0
  · rw [if_pos q, if_pos q, if_pos q]
  · rw [if_neg q, if_neg q, if_neg q]
    by_cases q2 : o < 100
    · have q3 : ¬ (100 : Int32) ≤ o := Int32.not_le.mpr q2
      rw [if_pos q2, if_neg q3, h, num_C]
      have e3 : (sL S w 3 (numN x).toInt64).2 w 3 = (numN x).toInt64 := by rw [sL2, if_pos ⟨rfl, rfl⟩]
      generalize sL S w 3 (numN x).toInt64 = M at *
      rw [nxt_eq, e3, draw_C, Option.bind_some]
      by_cases q4 : o ≤ numD (numN x)
      · rw [if_pos q4, if_pos ((i64_le _ _).mpr q4)]
      · rw [if_neg q4, if_neg (fun e => q4 ((i64_le _ _).mp e))]
    · have q3 : (100 : Int32) ≤ o := Int32.not_lt.mp q2
      rw [if_neg q2, if_pos q3]
theorem moth_n {bn : Bool} {d : Nat} {V : WS} (c : ¬ bt (V 0 3) d = true) : sMoth N T L cd bn d V = V := by
  unfold sMoth; rw [if_neg c]
theorem moth_f {d : Nat} {V : WS} (c : bt (V 0 3) d = true) : sMoth N T L cd false d V = if sOdds N T L V (cd d) d < 50 then V else sCome N T L cd V d := by
  unfold sMoth; rw [if_pos c, if_neg (by decide)]
theorem moth_t {d : Nat} {V : WS} (c : bt (V 0 3) d = true) : sMoth N T L cd true d V = if sOdds N T L V (cd d) d ≤ 0 then V else if 100 ≤ sOdds N T L V (cd d) d then sCome N T L cd V d else
        if sOdds N T L V (cd d) d ≤ numD (numN (V 0 1)) then wu V 0 1 (numN (V 0 1)) else sCome N T L cd (wu V 0 1 (numN (V 0 1))) d := by
  unfold sMoth; rw [if_pos c, if_pos rfl]
theorem moths_C (hw : w = 53 ∨ w = 69) (hT : TC S N T L) (hI : TI N T L) (h : WC w S N W cd) (bn : Bool) :
    wp (f_X8_letMothsCome w (if bn = true then 1 else 0) S) (fun S' => WC w S' N (itN (sMoth N T L cd bn) (N 0 1) W) cd ∧ fr w S S') := by
  have hnd : N 0 1 ≤ 10 := hI.2.1
  unfold f_X8_letMothsCome
  refine lp0 (fun fuel i M => f_X8_letMothsCome_2 w fuel (if bn = true then 1 else 0) i M) (N 0 1) (fun j M => WC w M N (itN (sMoth N T L cd bn) j W) cd ∧ fr w S M) (by omega) S ⟨h, fr_rf _ _⟩ ?_ ?_
  · rintro fuel M ⟨h1, f1⟩
    show wp (f_X8_letMothsCome_2 w (fuel + 1) (if bn = true then 1 else 0) (nI (N 0 1)) M) _
    unfold f_X8_letMothsCome_2
    rw [fr_to hw hT f1]
    exact wp_pos (Int32.le_refl _) (wp_some ⟨h1, f1⟩)
  · rintro fuel j M hj ⟨h1, f1⟩ ih
    try simp only at ih
    show wp (f_X8_letMothsCome_2 w (fuel + 1) (if bn = true then 1 else 0) (nI j) M) _
    unfold f_X8_letMothsCome_2
    rw [fr_to hw hT f1]
    refine wp_neg (nI_ge hj (by omega)) ?_
    refine wp_bnde (held_C h1 (by omega)) ?_
    rw [itN_s] at ih
    generalize itN (sMoth N T L cd bn) j W = V at h1 ih
    by_cases c : bt (V 0 3) j = true
    · rw [if_pos c]
      refine wp_neg (by decide) ?_
      have hT1 := TC_fr (by omega) hT f1
      refine wp_bnde (care_C h1 hnd hj) ?_
      refine wp_bnd (odds_C hw hT1 hI h1 hj (cd j)) ?_
      rintro r M2 ⟨hr, f2⟩
      simp only at hr f2
      have h2 := WC_n h1 f2 (by omega)
      have f3 := fr_tr f1 (fr_n f2)
      have hT2 := TC_fr (by omega) hT f3
      have yes : ∀ V' M', WC w M' N V' cd → fr w S M' → sMoth N T L cd bn j V = sCome N T L cd V' j →
          wp (f_X8_letMothsCome_53 w (f_X8_letMothsCome_2 w fuel) (if bn = true then 1 else 0) (nI j) M') (fun S' => WC w S' N (itN (sMoth N T L cd bn) (N 0 1) W) cd ∧ fr w S S') := by
        intro V' M' h' f' e'
        refine moth1_C hw (TC_fr (by omega) hT f') hI h' hj ?_
        intro S' h4 f4
        rw [nI_1]
        rw [e'] at ih
        exact ih S' ⟨h4, fr_tr f' f4⟩
      have no : ∀ V' M', WC w M' N V' cd → fr w S M' → sMoth N T L cd bn j V = V' →
          wp (f_X8_letMothsCome_2 w fuel (if bn = true then 1 else 0) (nI j + 1) M') (fun S' => WC w S' N (itN (sMoth N T L cd bn) (N 0 1) W) cd ∧ fr w S S') := by
        intro V' M' h' f' e'
        rw [nI_1]
        rw [e'] at ih
        exact ih M' ⟨h', f'⟩
      cases bn with
      | false =>
        have e0 := moth_f (N := N) (T := T) (L := L) (cd := cd) c
        rw [← hr] at e0
        refine wp_pos (by decide) ?_
        refine wp_if (fun q => ?_) (fun q => ?_)
        · exact no V M2 h2 f3 (by rw [e0, if_pos q])
        · exact yes V M2 h2 f3 (by rw [e0, if_neg q])
      | true =>
        have e0 := moth_t (N := N) (T := T) (L := L) (cd := cd) c
        rw [← hr] at e0
        refine wp_neg (by decide) ?_
        rw [drawn_C h2.2.2.2.2.1]
        by_cases q : r ≤ 0
        · rw [if_pos q]
          exact wp_bnde rfl (wp_pos rfl (no V M2 h2 f3 (by rw [e0, if_pos q])))
        · rw [if_neg q]
          rw [if_neg q] at e0
          by_cases q3 : (100 : Int32) ≤ r
          · rw [if_pos q3]
            exact wp_bnde rfl (wp_neg (by decide) (yes V M2 h2 f3 (by rw [e0, if_pos q3])))
          · rw [if_neg q3]
            rw [if_neg q3] at e0
            have h4 : WC w (sL M2 w 3 (numN (V 0 1)).toInt64) N (wu V 0 1 (numN (V 0 1))) cd := WC_nu h2 rfl
            have f4 : fr w S (sL M2 w 3 (numN (V 0 1)).toInt64) := fr_tr f3 fr_sL
            generalize sL M2 w 3 (numN (V 0 1)).toInt64 = M4 at h4 f4 ⊢
            by_cases q4 : r ≤ numD (numN (V 0 1))
            · rw [if_pos q4]
              exact wp_bnde rfl (wp_pos rfl (no _ M4 h4 f4 (by rw [e0, if_pos q4])))
            · rw [if_neg q4]
              exact wp_bnde rfl (wp_neg (by decide) (yes _ M4 h4 f4 (by rw [e0, if_neg q4])))
    · rw [if_neg c]
      rw [moth_n c] at ih
      refine wp_pos rfl ?_
      rw [nI_1]; exact ih _ ⟨h1, f1⟩
end WKC
