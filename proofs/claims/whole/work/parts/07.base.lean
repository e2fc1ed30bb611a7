/-! helpers of the printed functions -/
def nxt {α : Type} (S : Mem) (f : Mem → Option α) : Option α := f S
def bnd {α β : Type} (x : Option (α × Mem)) (f : α → Mem → Option β) : Option β := match x with
  | some (a, S) => f a S
  | none => none
theorem ob {α β : Type} {x : Option α} {f : α → Option β} {y : β} (h : x.bind f = some y) : ∃ a, x = some a ∧ f a = some y := by
  cases x with
  | none => cases h
  | some a => exact ⟨a, rfl, h⟩
theorem ob2 {α β : Type} {x : Option (α × Mem)} {f : α → Mem → Option β} {y : β} (h : bnd x f = some y) : ∃ a S, x = some (a, S) ∧ f a S = some y := by
  cases x with
  | none => cases h
  | some q => exact ⟨q.1, q.2, rfl, h⟩
theorem on {α : Type} {S : Mem} {f : Mem → Option α} {y : α} (h : nxt S f = some y) : ∃ S1, S1 = S ∧ f S1 = some y := ⟨S, rfl, h⟩
def FU : Nat := 2000
theorem lc_eq {x y : Int64} : lg_cmp x y = 0 ↔ x = y := by
  unfold lg_cmp
  by_cases h1 : x > y
  · rw [if_pos h1]
    constructor
    · intro h; exact absurd h (by decide)
    · intro h; subst h; exact absurd h1 (Int64.lt_irrefl)
  · rw [if_neg h1]
    by_cases h2 : x = y
    · rw [if_pos h2]; simp [h2]
    · rw [if_neg h2]
      constructor
      · intro h; exact absurd h (by decide)
      · intro h; exact absurd h h2
theorem lc_lt {x y : Int64} : lg_cmp x y < 0 ↔ x < y := by
  unfold lg_cmp
  by_cases h1 : x > y
  · rw [if_pos h1]
    constructor
    · intro h; exact absurd h (by decide)
    · intro h; exact absurd h (Int64.lt_asymm h1)
  · rw [if_neg h1]
    by_cases h2 : x = y
    · rw [if_pos h2]
      constructor
      · intro h; exact absurd h (by decide)
      · intro h; rw [h2] at h; exact absurd h Int64.lt_irrefl
    · rw [if_neg h2]
      constructor
      · intro _; exact Int64.lt_of_le_of_ne (Int64.not_lt.mp h1) h2
      · intro _; decide
theorem lc_ge {x y : Int64} : 0 ≤ lg_cmp x y ↔ y ≤ x := by
  rw [← Int32.not_lt, lc_lt, Int64.not_lt]
theorem lc_le {x y : Int64} : lg_cmp x y ≤ 0 ↔ x ≤ y := by
  unfold lg_cmp
  by_cases h1 : x > y
  · rw [if_pos h1]
    constructor
    · intro h; exact absurd h (by decide)
    · intro h; exact absurd h1 (Int64.not_lt.mpr h)
  · rw [if_neg h1]
    constructor
    · intro _; exact Int64.not_lt.mp h1
    · intro _; split <;> decide
theorem lc_gt {x y : Int64} : 0 < lg_cmp x y ↔ y < x := by
  rw [← Int32.not_le, lc_le, Int64.not_le]
theorem lk_out {ps : List (Int × Int)} {dflt z : Int} (h : ∀ q ∈ ps, ¬ z = q.1) : Op.lookupswitch.offset ps dflt z = dflt := by
  induction ps with
  | nil => rfl
  | cons q ps ih =>
    have h1 := h q List.mem_cons_self
    have h2 := ih (fun r hr => h r (List.mem_cons_of_mem _ hr))
    unfold Op.lookupswitch.offset at h2 ⊢
    simp_all
    try omega
theorem okz_n {x : Int32} (h : okz x = true) : narrow .boolean (.int x) = .int x := by
  simp only [okz, Bool.or_eq_true, decide_eq_true_eq] at h
  rcases h with rfl | rfl <;> rfl
theorem okz_f {x : Int32} (h : okz x = true) : fits .boolean (.int x) = true := by
  simp only [okz, Bool.or_eq_true, decide_eq_true_eq] at h
  rcases h with rfl | rfl <;> rfl
def IsLaw (sk : Skel) (a : Nat) : Prop := sk[a]? = some (5, 0, [.int 0, .int 0, .ref (a + 1), .ref (a + 2)]) ∧ sk[a + 1]? = some (0, 64, []) ∧ sk[a + 2]? = some (2, 64, [])
def IsT (sk : Skel) (t : Nat) : Prop := sk[t]? = some (11, 0, [.int 0, .int 0, .int 0, .ref (t + 1), .ref (t + 2), .ref (t + 3), .ref (t + 4), .ref (t + 5), .ref (t + 6), .ref (t + 7), .ref (t + 8), .ref (t + 9), .ref (t + 10), .ref (t + 11), .ref (t + 12)]) ∧ sk[t + 1]? = some (0, 6, []) ∧ sk[t + 2]? = some (0, 6, []) ∧ sk[t + 3]? = some (0, 6, []) ∧ sk[t + 4]? = some (0, 10, []) ∧ sk[t + 5]? = some (0, 10, []) ∧ sk[t + 6]? = some (0, 10, []) ∧ sk[t + 7]? = some (0, 10, []) ∧ sk[t + 8]? = some (0, 10, []) ∧ sk[t + 9]? = some (0, 2, []) ∧ sk[t + 10]? = some (0, 4, []) ∧ sk[t + 11]? = some (1, 4, []) ∧ sk[t + 12]? = some (3, 3, [.ref (t + 13), .ref (t + 16), .ref (t + 19)]) ∧ IsLaw sk (t + 13) ∧ IsLaw sk (t + 16) ∧ IsLaw sk (t + 19)
def IsW (sk : Skel) (w : Nat) : Prop := sk[w]? = some (12, 0, [.int 0, .int 0, .int 0, .long 0, .ref (w + 1), .ref (w + 2), .ref (w + 3), .ref (w + 4), .ref (w + 5), .ref (w + 6), .ref 31, .ref (w + 7), .int 0]) ∧ sk[w + 1]? = some (0, 10, []) ∧ sk[w + 2]? = some (0, 10, []) ∧ sk[w + 3]? = some (0, 10, []) ∧ sk[w + 4]? = some (0, 6, []) ∧ sk[w + 5]? = some (0, 2, []) ∧ sk[w + 6]? = some (0, 2, []) ∧ sk[w + 7]? = some (0, 7, [])
theorem inb3 {i : Int32} (h : inb i 3 = true) : i.toNatClampNeg = 0 ∨ i.toNatClampNeg = 1 ∨ i.toNatClampNeg = 2 := by
  simp only [inb, Bool.and_eq_true, decide_eq_true_eq] at h
  omega
theorem laws_at {t : Nat} {i : Int32} (h : inb i 3 = true) : ([.ref (t + 13), .ref (t + 16), .ref (t + 19)] : List Value)[i.toNatClampNeg]? = some (.ref (t + 13 + 3 * i.toNatClampNeg)) := by
  rcases inb3 h with e | e | e <;> rw [e] <;> rfl
theorem IsT.law {sk : Skel} {t : Nat} {i : Int32} (hT : IsT sk t) (h : inb i 3 = true) : IsLaw sk (t + 13 + 3 * i.toNatClampNeg) := by
  obtain ⟨-, -, -, -, -, -, -, -, -, -, -, -, -, h1, h2, h3⟩ := hT
  rcases inb3 h with e | e | e <;> rw [e]
  · exact h1
  · exact h2
  · exact h3
def SKC : Skel := [(13, 0, [.ref 1, .ref 3, .ref 31, .ref 53, .ref 61, .ref 69, .ref 77, .ref 84, .ref 88, .int 0]),
  (9, 0, [.ref 2, .int 0]),
  (0, 700, []),
  (8, 0, [.ref 4, .ref 8, .int 0, .int 0, .ref 30, .int 0, .int 0, .int 0, .int 0]),
  (10, 0, [.ref 5, .ref 6, .ref 7, .int 0]),
  (0, 701, []),
  (0, 701, []),
  (0, 701, []),
  (11, 0, [.int 0, .int 0, .int 0, .ref 9, .ref 10, .ref 11, .ref 12, .ref 13, .ref 14, .ref 15, .ref 16, .ref 17, .ref 18, .ref 19, .ref 20]),
  (0, 6, []),
  (0, 6, []),
  (0, 6, []),
  (0, 10, []),
  (0, 10, []),
  (0, 10, []),
  (0, 10, []),
  (0, 10, []),
  (0, 2, []),
  (0, 4, []),
  (1, 4, []),
  (3, 3, [.ref 21, .ref 24, .ref 27]),
  (5, 0, [.int 0, .int 0, .ref 22, .ref 23]),
  (0, 64, []),
  (2, 64, []),
  (5, 0, [.int 0, .int 0, .ref 25, .ref 26]),
  (0, 64, []),
  (2, 64, []),
  (5, 0, [.int 0, .int 0, .ref 28, .ref 29]),
  (0, 64, []),
  (2, 64, []),
  (0, 72, []),
  (11, 0, [.int 0, .int 0, .int 0, .ref 32, .ref 33, .ref 34, .ref 35, .ref 36, .ref 37, .ref 38, .ref 39, .ref 40, .ref 41, .ref 42, .ref 43]),
  (0, 6, []),
  (0, 6, []),
  (0, 6, []),
  (0, 10, []),
  (0, 10, []),
  (0, 10, []),
  (0, 10, []),
  (0, 10, []),
  (0, 2, []),
  (0, 4, []),
  (1, 4, []),
  (3, 3, [.ref 44, .ref 47, .ref 50]),
  (5, 0, [.int 0, .int 0, .ref 45, .ref 46]),
  (0, 64, []),
  (2, 64, []),
  (5, 0, [.int 0, .int 0, .ref 48, .ref 49]),
  (0, 64, []),
  (2, 64, []),
  (5, 0, [.int 0, .int 0, .ref 51, .ref 52]),
  (0, 64, []),
  (2, 64, []),
  (12, 0, [.int 0, .int 0, .int 0, .long 0, .ref 54, .ref 55, .ref 56, .ref 57, .ref 58, .ref 59, .ref 31, .ref 60, .int 0]),
  (0, 10, []),
  (0, 10, []),
  (0, 10, []),
  (0, 6, []),
  (0, 2, []),
  (0, 2, []),
  (0, 7, []),
  (12, 0, [.int 0, .int 0, .int 0, .long 0, .ref 62, .ref 63, .ref 64, .ref 65, .ref 66, .ref 67, .ref 31, .ref 68, .int 0]),
  (0, 10, []),
  (0, 10, []),
  (0, 10, []),
  (0, 6, []),
  (0, 2, []),
  (0, 2, []),
  (0, 7, []),
  (12, 0, [.int 0, .int 0, .int 0, .long 0, .ref 70, .ref 71, .ref 72, .ref 73, .ref 74, .ref 75, .ref 31, .ref 76, .int 0]),
  (0, 10, []),
  (0, 10, []),
  (0, 10, []),
  (0, 6, []),
  (0, 2, []),
  (0, 2, []),
  (0, 7, []),
  (6, 0, [.int 0, .int 0, .ref 78, .ref 79, .ref 80, .ref 81, .ref 82, .ref 83]),
  (0, 24, []),
  (0, 24, []),
  (0, 24, []),
  (0, 24, []),
  (1, 24, []),
  (1, 24, []),
  (4, 0, [.int 0, .ref 85, .ref 86, .ref 87]),
  (0, 20, []),
  (0, 20, []),
  (0, 20, []),
  (7, 0, [.int 0, .int 0, .ref 89, .int 0, .int 0, .int 0, .ref 90, .ref 91]),
  (0, 4, []),
  (0, 4, []),
  (0, 6, [])]
def SKM : Skel := [(14, 0, [.int 0, .ref 1, .int 0, .ref 2, .ref 3, .ref 4, .ref 5, .ref 6, .ref 7, .ref 8, .ref 9, .ref 10, .ref 11, .ref 12, .ref 13, .int 0, .int 0, .int 0, .int 0, .int 0, .int 0, .int 0, .int 0, .int 0, .int 0, .int 0, .int 0, .int 0, .ref 14, .ref 15, .int 0, .ref 16, .ref 17, .ref 18, .ref 19, .ref 20, .ref 21, .ref 22, .ref 23, .ref 24, .int 0, .int 0, .int 0, .int 0, .int 0, .int 0, .ref 25, .ref 26, .ref 27, .int 0, .int 0, .int 0, .ref 28, .ref 29, .ref 30, .ref 31, .ref 32, .ref 33]),
  (0, 700, []),
  (0, 14, []),
  (0, 12, []),
  (0, 12, []),
  (0, 12, []),
  (0, 20, []),
  (0, 20, []),
  (0, 20, []),
  (0, 20, []),
  (0, 6, []),
  (0, 6, []),
  (0, 128, []),
  (0, 128, []),
  (2, 7, []),
  (2, 64, []),
  (0, 23, []),
  (0, 23, []),
  (0, 23, []),
  (0, 46, []),
  (0, 46, []),
  (0, 230, []),
  (0, 230, []),
  (0, 230, []),
  (0, 230, []),
  (0, 4, []),
  (0, 4, []),
  (0, 4, []),
  (0, 24, []),
  (0, 24, []),
  (0, 24, []),
  (1, 24, []),
  (0, 24, []),
  (1, 24, [])]
theorem kc0 : SKC[0]? = some (13, 0, [.ref 1, .ref 3, .ref 31, .ref 53, .ref 61, .ref 69, .ref 77, .ref 84, .ref 88, .int 0]) := rfl
theorem kc1 : SKC[1]? = some (9, 0, [.ref 2, .int 0]) := rfl
theorem kc2 : SKC[2]? = some (0, 700, []) := rfl
theorem kc3 : SKC[3]? = some (8, 0, [.ref 4, .ref 8, .int 0, .int 0, .ref 30, .int 0, .int 0, .int 0, .int 0]) := rfl
theorem kc4 : SKC[4]? = some (10, 0, [.ref 5, .ref 6, .ref 7, .int 0]) := rfl
theorem kc5 : SKC[5]? = some (0, 701, []) := rfl
theorem kc6 : SKC[6]? = some (0, 701, []) := rfl
theorem kc7 : SKC[7]? = some (0, 701, []) := rfl
theorem kc8 : SKC[8]? = some (11, 0, [.int 0, .int 0, .int 0, .ref 9, .ref 10, .ref 11, .ref 12, .ref 13, .ref 14, .ref 15, .ref 16, .ref 17, .ref 18, .ref 19, .ref 20]) := rfl
theorem kc9 : SKC[9]? = some (0, 6, []) := rfl
theorem kc10 : SKC[10]? = some (0, 6, []) := rfl
theorem kc11 : SKC[11]? = some (0, 6, []) := rfl
theorem kc12 : SKC[12]? = some (0, 10, []) := rfl
theorem kc13 : SKC[13]? = some (0, 10, []) := rfl
theorem kc14 : SKC[14]? = some (0, 10, []) := rfl
theorem kc15 : SKC[15]? = some (0, 10, []) := rfl
theorem kc16 : SKC[16]? = some (0, 10, []) := rfl
theorem kc17 : SKC[17]? = some (0, 2, []) := rfl
theorem kc18 : SKC[18]? = some (0, 4, []) := rfl
theorem kc19 : SKC[19]? = some (1, 4, []) := rfl
theorem kc20 : SKC[20]? = some (3, 3, [.ref 21, .ref 24, .ref 27]) := rfl
theorem kc21 : SKC[21]? = some (5, 0, [.int 0, .int 0, .ref 22, .ref 23]) := rfl
theorem kc22 : SKC[22]? = some (0, 64, []) := rfl
theorem kc23 : SKC[23]? = some (2, 64, []) := rfl
theorem kc24 : SKC[24]? = some (5, 0, [.int 0, .int 0, .ref 25, .ref 26]) := rfl
theorem kc25 : SKC[25]? = some (0, 64, []) := rfl
theorem kc26 : SKC[26]? = some (2, 64, []) := rfl
theorem kc27 : SKC[27]? = some (5, 0, [.int 0, .int 0, .ref 28, .ref 29]) := rfl
theorem kc28 : SKC[28]? = some (0, 64, []) := rfl
theorem kc29 : SKC[29]? = some (2, 64, []) := rfl
theorem kc30 : SKC[30]? = some (0, 72, []) := rfl
theorem kc31 : SKC[31]? = some (11, 0, [.int 0, .int 0, .int 0, .ref 32, .ref 33, .ref 34, .ref 35, .ref 36, .ref 37, .ref 38, .ref 39, .ref 40, .ref 41, .ref 42, .ref 43]) := rfl
theorem kc32 : SKC[32]? = some (0, 6, []) := rfl
theorem kc33 : SKC[33]? = some (0, 6, []) := rfl
theorem kc34 : SKC[34]? = some (0, 6, []) := rfl
theorem kc35 : SKC[35]? = some (0, 10, []) := rfl
theorem kc36 : SKC[36]? = some (0, 10, []) := rfl
theorem kc37 : SKC[37]? = some (0, 10, []) := rfl
theorem kc38 : SKC[38]? = some (0, 10, []) := rfl
theorem kc39 : SKC[39]? = some (0, 10, []) := rfl
theorem kc40 : SKC[40]? = some (0, 2, []) := rfl
theorem kc41 : SKC[41]? = some (0, 4, []) := rfl
theorem kc42 : SKC[42]? = some (1, 4, []) := rfl
theorem kc43 : SKC[43]? = some (3, 3, [.ref 44, .ref 47, .ref 50]) := rfl
theorem kc44 : SKC[44]? = some (5, 0, [.int 0, .int 0, .ref 45, .ref 46]) := rfl
theorem kc45 : SKC[45]? = some (0, 64, []) := rfl
theorem kc46 : SKC[46]? = some (2, 64, []) := rfl
theorem kc47 : SKC[47]? = some (5, 0, [.int 0, .int 0, .ref 48, .ref 49]) := rfl
theorem kc48 : SKC[48]? = some (0, 64, []) := rfl
theorem kc49 : SKC[49]? = some (2, 64, []) := rfl
theorem kc50 : SKC[50]? = some (5, 0, [.int 0, .int 0, .ref 51, .ref 52]) := rfl
theorem kc51 : SKC[51]? = some (0, 64, []) := rfl
theorem kc52 : SKC[52]? = some (2, 64, []) := rfl
theorem kc53 : SKC[53]? = some (12, 0, [.int 0, .int 0, .int 0, .long 0, .ref 54, .ref 55, .ref 56, .ref 57, .ref 58, .ref 59, .ref 31, .ref 60, .int 0]) := rfl
theorem kc54 : SKC[54]? = some (0, 10, []) := rfl
theorem kc55 : SKC[55]? = some (0, 10, []) := rfl
theorem kc56 : SKC[56]? = some (0, 10, []) := rfl
theorem kc57 : SKC[57]? = some (0, 6, []) := rfl
theorem kc58 : SKC[58]? = some (0, 2, []) := rfl
theorem kc59 : SKC[59]? = some (0, 2, []) := rfl
theorem kc60 : SKC[60]? = some (0, 7, []) := rfl
theorem kc61 : SKC[61]? = some (12, 0, [.int 0, .int 0, .int 0, .long 0, .ref 62, .ref 63, .ref 64, .ref 65, .ref 66, .ref 67, .ref 31, .ref 68, .int 0]) := rfl
theorem kc62 : SKC[62]? = some (0, 10, []) := rfl
theorem kc63 : SKC[63]? = some (0, 10, []) := rfl
theorem kc64 : SKC[64]? = some (0, 10, []) := rfl
theorem kc65 : SKC[65]? = some (0, 6, []) := rfl
theorem kc66 : SKC[66]? = some (0, 2, []) := rfl
theorem kc67 : SKC[67]? = some (0, 2, []) := rfl
theorem kc68 : SKC[68]? = some (0, 7, []) := rfl
theorem kc69 : SKC[69]? = some (12, 0, [.int 0, .int 0, .int 0, .long 0, .ref 70, .ref 71, .ref 72, .ref 73, .ref 74, .ref 75, .ref 31, .ref 76, .int 0]) := rfl
theorem kc70 : SKC[70]? = some (0, 10, []) := rfl
theorem kc71 : SKC[71]? = some (0, 10, []) := rfl
theorem kc72 : SKC[72]? = some (0, 10, []) := rfl
theorem kc73 : SKC[73]? = some (0, 6, []) := rfl
theorem kc74 : SKC[74]? = some (0, 2, []) := rfl
theorem kc75 : SKC[75]? = some (0, 2, []) := rfl
theorem kc76 : SKC[76]? = some (0, 7, []) := rfl
theorem kc77 : SKC[77]? = some (6, 0, [.int 0, .int 0, .ref 78, .ref 79, .ref 80, .ref 81, .ref 82, .ref 83]) := rfl
theorem kc78 : SKC[78]? = some (0, 24, []) := rfl
theorem kc79 : SKC[79]? = some (0, 24, []) := rfl
theorem kc80 : SKC[80]? = some (0, 24, []) := rfl
theorem kc81 : SKC[81]? = some (0, 24, []) := rfl
theorem kc82 : SKC[82]? = some (1, 24, []) := rfl
theorem kc83 : SKC[83]? = some (1, 24, []) := rfl
theorem kc84 : SKC[84]? = some (4, 0, [.int 0, .ref 85, .ref 86, .ref 87]) := rfl
theorem kc85 : SKC[85]? = some (0, 20, []) := rfl
theorem kc86 : SKC[86]? = some (0, 20, []) := rfl
theorem kc87 : SKC[87]? = some (0, 20, []) := rfl
theorem kc88 : SKC[88]? = some (7, 0, [.int 0, .int 0, .ref 89, .int 0, .int 0, .int 0, .ref 90, .ref 91]) := rfl
theorem kc89 : SKC[89]? = some (0, 4, []) := rfl
theorem kc90 : SKC[90]? = some (0, 4, []) := rfl
theorem kc91 : SKC[91]? = some (0, 6, []) := rfl
theorem km0 : SKM[0]? = some (14, 0, [.int 0, .ref 1, .int 0, .ref 2, .ref 3, .ref 4, .ref 5, .ref 6, .ref 7, .ref 8, .ref 9, .ref 10, .ref 11, .ref 12, .ref 13, .int 0, .int 0, .int 0, .int 0, .int 0, .int 0, .int 0, .int 0, .int 0, .int 0, .int 0, .int 0, .int 0, .ref 14, .ref 15, .int 0, .ref 16, .ref 17, .ref 18, .ref 19, .ref 20, .ref 21, .ref 22, .ref 23, .ref 24, .int 0, .int 0, .int 0, .int 0, .int 0, .int 0, .ref 25, .ref 26, .ref 27, .int 0, .int 0, .int 0, .ref 28, .ref 29, .ref 30, .ref 31, .ref 32, .ref 33]) := rfl
theorem km1 : SKM[1]? = some (0, 700, []) := rfl
theorem km2 : SKM[2]? = some (0, 14, []) := rfl
theorem km3 : SKM[3]? = some (0, 12, []) := rfl
theorem km4 : SKM[4]? = some (0, 12, []) := rfl
theorem km5 : SKM[5]? = some (0, 12, []) := rfl
theorem km6 : SKM[6]? = some (0, 20, []) := rfl
theorem km7 : SKM[7]? = some (0, 20, []) := rfl
theorem km8 : SKM[8]? = some (0, 20, []) := rfl
theorem km9 : SKM[9]? = some (0, 20, []) := rfl
theorem km10 : SKM[10]? = some (0, 6, []) := rfl
theorem km11 : SKM[11]? = some (0, 6, []) := rfl
theorem km12 : SKM[12]? = some (0, 128, []) := rfl
theorem km13 : SKM[13]? = some (0, 128, []) := rfl
theorem km14 : SKM[14]? = some (2, 7, []) := rfl
theorem km15 : SKM[15]? = some (2, 64, []) := rfl
theorem km16 : SKM[16]? = some (0, 23, []) := rfl
theorem km17 : SKM[17]? = some (0, 23, []) := rfl
theorem km18 : SKM[18]? = some (0, 23, []) := rfl
theorem km19 : SKM[19]? = some (0, 46, []) := rfl
theorem km20 : SKM[20]? = some (0, 46, []) := rfl
theorem km21 : SKM[21]? = some (0, 230, []) := rfl
theorem km22 : SKM[22]? = some (0, 230, []) := rfl
theorem km23 : SKM[23]? = some (0, 230, []) := rfl
theorem km24 : SKM[24]? = some (0, 230, []) := rfl
theorem km25 : SKM[25]? = some (0, 4, []) := rfl
theorem km26 : SKM[26]? = some (0, 4, []) := rfl
theorem km27 : SKM[27]? = some (0, 4, []) := rfl
theorem km28 : SKM[28]? = some (0, 24, []) := rfl
theorem km29 : SKM[29]? = some (0, 24, []) := rfl
theorem km30 : SKM[30]? = some (0, 24, []) := rfl
theorem km31 : SKM[31]? = some (1, 24, []) := rfl
theorem km32 : SKM[32]? = some (0, 24, []) := rfl
theorem km33 : SKM[33]? = some (1, 24, []) := rfl
theorem isLaw21 : IsLaw SKC 21 := ⟨rfl, rfl, rfl⟩
theorem isLaw24 : IsLaw SKC 24 := ⟨rfl, rfl, rfl⟩
theorem isLaw27 : IsLaw SKC 27 := ⟨rfl, rfl, rfl⟩
theorem isLaw44 : IsLaw SKC 44 := ⟨rfl, rfl, rfl⟩
theorem isLaw47 : IsLaw SKC 47 := ⟨rfl, rfl, rfl⟩
theorem isLaw50 : IsLaw SKC 50 := ⟨rfl, rfl, rfl⟩
theorem isT8 : IsT SKC 8 := ⟨rfl, rfl, rfl, rfl, rfl, rfl, rfl, rfl, rfl, rfl, rfl, rfl, rfl, isLaw21, isLaw24, isLaw27⟩
theorem isT31 : IsT SKC 31 := ⟨rfl, rfl, rfl, rfl, rfl, rfl, rfl, rfl, rfl, rfl, rfl, rfl, rfl, isLaw44, isLaw47, isLaw50⟩
theorem isW53 : IsW SKC 53 := ⟨rfl, rfl, rfl, rfl, rfl, rfl, rfl, rfl⟩
theorem isW61 : IsW SKC 61 := ⟨rfl, rfl, rfl, rfl, rfl, rfl, rfl, rfl⟩
theorem isW69 : IsW SKC 69 := ⟨rfl, rfl, rfl, rfl, rfl, rfl, rfl, rfl⟩
