/-! PURE 34: class and reference side by side, newly made -/
section FST
variable {C M S : Mem}
def N00 : TN := fun _ _ => 0
def T00 : WS := fun r i => if r = 0 then (if i = 0 then 20 else if i = 1 then 20 else if i = 2 then 5 else 0) else 0
def L00 : LWS := fun _ => none
theorem TI00 : TI N00 T00 L00 := ⟨by decide, by decide, fun i hi => absurd hi (Nat.not_lt_zero i), fun i hi => absurd hi (Nat.not_lt_zero i), by decide, by decide, by decide, by decide, fun k _ l h => by cases h⟩
def C00 (S : Mem) : Mem := sI (iS_X3_init 88 (iS_X0_init 84 (iS_X2_init 77 (iS_X8_init 69 (iS_X8_init 61 (iS_X8_init 53 (iS_X7_init 31 (iS_X4_init 3 (iS_X5_init 1 S))))))))) 0 9 (0 : Int32)
def M00 (S : Mem) : Mem := sI (sI (sI (sI (sI (sI (sI (sI (sI (sI (sI (sI (sI (sI (sI (sI (sI S 2 0 (0 : Int32)) 2 1 (0 : Int32)) 2 2 (20 : Int32)) 2 3 (20 : Int32)) 2 4 (5 : Int32)) 2 5 (0 : Int32)) 2 6 (0 : Int32)) 2 7 (0 : Int32)) 2 8 (0 : Int32)) 2 9 (20 : Int32)) 2 10 (20 : Int32)) 2 11 (5 : Int32)) 2 12 (0 : Int32)) 2 13 (0 : Int32)) 0 25 (-1 : Int32)) 0 44 (-1 : Int32)) 0 51 (-1 : Int32)
theorem M00_o (hz : Zf S 0) {c i : Nat} (h2 : c ≠ 2) (h0 : c ≠ 0) : (M00 S).1 c i = 0 := by
  unfold M00
  simp only [sI1, (hz c i (Nat.zero_le c)).1]
  simp [h2, h0]
theorem M00_0 (hz : Zf S 0) {i : Nat} (h1 : i ≠ 25) (h2 : i ≠ 44) (h3 : i ≠ 51) : (M00 S).1 0 i = 0 := by
  unfold M00
  simp only [sI1, (hz 0 i (Nat.zero_le 0)).1]
  simp [h1, h2, h3]
theorem TM00 (hz : Zf S 0) : TM (M00 S) N00 T00 L00 := by
  refine ⟨by simp [M00, sI1]; rfl, by simp [M00, sI1]; rfl, by simp [M00, sI1]; rfl, fun i hi => absurd hi (Nat.not_lt_zero i), fun i hi => absurd hi (Nat.not_lt_zero i), fun i hi => ?_, fun k hk => ⟨fun _ => ?_, fun l h => (by cases h)⟩⟩
  · have : i = 0 ∨ i = 1 ∨ i = 2 ∨ i = 3 := by omega
    rcases this with rfl | rfl | rfl | rfl <;> simp [M00, sI1, T00]
  · rw [M00_o hz (by omega) (by omega), M00_o hz (by omega) (by omega)]
    decide
theorem C00_hi (hz : Zf S 1) : (C00 S).1 77 0 = 0 ∧ (C00 S).1 77 1 = -1 ∧ (C00 S).1 84 0 = 0 ∧ (C00 S).1 88 3 = -1 ∧ (C00 S).1 0 9 = 0 := by
  unfold C00
  refine ⟨?_, ?_, ?_, ?_, ?_⟩ <;> simp [iS_X3_init, iS_X0_init, iS_X2_init, sI1]
theorem C00_lo (hz : Zf S 1) : (C00 S).1 1 1 = 0 ∧ (C00 S).1 3 2 = 0 ∧ (C00 S).1 3 3 = -1 := by
  unfold C00
  refine ⟨?_, ?_, ?_⟩ <;> simp [iS_X3_init, iS_X0_init, iS_X2_init, iS_X8_init, iS_X7_init, iS_X4_init, iS_X5_init, iS_X6_init, iS_X1_init, clrS, sI1, sL1]
theorem TC00 (hz : Zf S 1) : TC (C00 S) N00 T00 L00 := by
  have e : ∀ c i, 31 ≤ c → c < 53 → (C00 S).1 c i = (clrS 31 (iS_X1_init 50 (iS_X1_init 47 (iS_X1_init 44 (sI (sI (sI (iS_X4_init 3 (iS_X5_init 1 S)) 31 0 (0 : Int32)) 31 1 (0 : Int32)) 31 2 (0 : Int32)))))).1 c i := by
    intro c i h1 h2
    have n1 : c ≠ 88 := by omega
    have n2 : c ≠ 84 := by omega
    have n3 : c ≠ 77 := by omega
    have n4 : c ≠ 69 := by omega
    have n5 : c ≠ 61 := by omega
    have n6 : c ≠ 53 := by omega
    have n7 : c ≠ 0 := by omega
    unfold C00 iS_X3_init iS_X0_init iS_X2_init iS_X8_init iS_X7_init
    simp only [sI1, sL1, n1, n2, n3, n4, n5, n6, n7, false_and, if_false]
  refine ⟨?_, ?_, ?_, fun i hi => absurd hi (Nat.not_lt_zero i), fun i hi => absurd hi (Nat.not_lt_zero i), fun c hc e' => ?_, fun i hi => ?_, fun k hk => ⟨fun _ => ?_, fun l h => (by cases h)⟩⟩
  · rw [e _ _ (by omega) (by omega)]; simp [clrS, sI1]; rfl
  · rw [e _ _ (by omega) (by omega)]; simp [clrS, sI1]; rfl
  · rw [e _ _ (by omega) (by omega)]; simp [clrS, sI1]; rfl
  · have z : (C00 S).1 40 c = 0 := by
      rw [e _ _ (by omega) (by omega)]
      have : c = 0 ∨ c = 1 := by omega
      rcases this with rfl | rfl <;> simp [clrS, sI1]
    rw [z]
    constructor
    · intro h
      rw [bt_z] at h
      cases h
    · intro h
      exact absurd h.1 (Nat.not_lt_zero _)
  · rw [e _ _ (by omega) (by omega)]
    have : i = 0 ∨ i = 1 ∨ i = 2 ∨ i = 3 := by omega
    rcases this with rfl | rfl | rfl | rfl <;> simp [clrS, sI1, T00]
  · rw [e _ _ (by omega) (by omega)]
    have : k = 0 ∨ k = 1 ∨ k = 2 := by omega
    rcases this with rfl | rfl | rfl <;> simp [clrS, sI1]
theorem first_Cp {S' : Mem} (hC : Zf S 1) (hM : Zf S' 0) : ∃ C M, f_X8_begin 53 (C00 S) = some C ∧ f_X10_begins (M00 S') = some M ∧ Cp C M := by
  obtain ⟨C, eC, hR, fC⟩ := begin_C (w := 53) (Or.inl rfl) (TC00 hC) TI00
  obtain ⟨M, eM, hR', fM⟩ := starts_M (t := 0) (by omega) (TM00 hM) TI00
  refine ⟨C, M, eC, ?_, N00, T00, L00, W0 N00 T00, fun d => N00 5 d, ?_⟩
  · unfold f_X10_begins
    rw [show f_X10_starts 0 (M00 S') = some M from eM, Option.bind_some]
  obtain ⟨c1, c2, c3, c4, c5⟩ := C00_hi hC
  obtain ⟨d1, d2, d3⟩ := C00_lo hC
  have ec : ∀ c i, (c < 53 ∨ 60 < c) → C.1 c i = (C00 S).1 c i := fun c i q => by rw [fC.1 c (by omega)]
  have em : ∀ c i, ¬ chC 0 c i → M.1 c i = (M00 S').1 c i := fun c i q => fM c i q
  have m0 : ∀ i, i ≠ 25 → i ≠ 44 → i ≠ 51 → M.1 0 i = 0 := fun i h1 h2 h3 => by rw [em 0 i (by unfold chC; omega)]; exact M00_0 hM h1 h2 h3
  refine ⟨⟨0, by omega, by rw [ec _ _ (by omega)]; exact d1, m0 2 (by decide) (by decide) (by decide), fun i hi => absurd hi (Nat.not_lt_zero i)⟩, ⟨?_, ?_⟩, ⟨TC_to (TC00 hC) (fun k a b => fC.1 k (by omega)), TM_to (TM00 hM) (fun c i a b => em c i (by unfold chC; omega)), TI00⟩, ⟨hR, hR', ?_, fun d hd => absurd hd (Nat.not_lt_zero d)⟩, Or.inl ⟨by rw [ec _ _ (by omega)]; exact c5, m0 41 (by decide) (by decide) (by decide)⟩, ⟨0, by omega, by rw [ec _ _ (by omega)]; exact c3, m0 42 (by decide) (by decide) (by decide), fun _ => (W0 N00 T00, fun d => N00 5 d), rfl, fun i hi => absurd hi (Nat.not_lt_zero i)⟩, ⟨0, by omega, by rw [ec _ _ (by omega)]; exact c1, m0 50 (by decide) (by decide) (by decide), ?_, Or.inl (by rw [ec _ _ (by omega)]; exact c2), fun i hi => absurd hi (Nat.not_lt_zero i)⟩, Or.inl (by rw [ec _ _ (by omega)]; exact c4), m0 43 (by decide) (by decide) (by decide), ?_⟩
  · rw [ec _ _ (by omega), m0 24 (by decide) (by decide) (by decide)]; exact d2
  · rw [ec _ _ (by omega), em 0 25 (by unfold chC; omega), d3]; simp [M00, sI1]
  · refine ⟨fun d hd => absurd hd (Nat.not_lt_zero d), fun c hc => ⟨by show (0 : Int32) ≤ 0; decide, by show (0 : Int32) ≤ 999; decide⟩, fun e he => ?_⟩
    have z : W0 N00 T00 0 3 = 0 := by decide
    rw [z, bt_z] at he
    cases he
  · rw [ec _ _ (by omega), em 0 51 (by unfold chC; omega), c2]; simp [M00, sI1]
  · rw [em 0 44 (by unfold chC; omega)]; simp [M00, sI1]
end FST
