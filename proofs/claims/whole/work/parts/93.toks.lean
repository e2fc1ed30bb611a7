/-! PURE 44: the text: a sign, by the reference -/
section TKS
variable {C M S S' : Mem} {b : Nat → Nat} {n p q v x : Nat} {t : Int32}
def sA (S S' : Mem) (p : Nat) (t : Int32) (v : Nat) : Prop := S'.1 0 18 = nI (p + 1) ∧ S'.1 0 19 = nI p ∧ S'.1 0 20 = t ∧ S'.1 0 21 = nI v ∧ frQ S S'
def sE (S S' : Mem) (p : Nat) (t : Int32) (v : Nat) : Prop := S'.1 0 18 = nI (if v < 256 then p + 1 else p + 2) ∧ S'.1 0 19 = nI p ∧ S'.1 0 20 = t ∧ S'.1 0 21 = nI v ∧ frQ S S'
theorem sA_21 (h : sA S S' p t v) (w : Nat) : sA S (sI S' 0 21 (nI w)) p t w := by
  obtain ⟨a1, a2, a3, a4, a5⟩ := h
  exact ⟨by rw [sI1, if_neg (by omega)]; exact a1, by rw [sI1, if_neg (by omega)]; exact a2, by rw [sI1, if_neg (by omega)]; exact a3, by rw [sI1, if_pos ⟨rfl, rfl⟩], frQ_tr a5 (frQ_s (by omega))⟩
theorem s150_M (h : sA S S' p t v) (hv : v < 300) : wp (f_X10_sign_150 S') (fun Z => sE S Z p t v) := by
  obtain ⟨a1, a2, a3, a4, a5⟩ := h
  unfold f_X10_sign_150
  rw [a4]
  refine wp_if (fun z => ?_) (fun z => ?_)
  · have z : v < 256 := by
      rcases Nat.lt_or_ge v 256 with y | y
      · exact y
      · exact absurd z (Int32.not_lt.mpr (nI_le (a := 256) y (by omega)))
    exact wp_some ⟨by rw [if_pos z]; exact a1, a2, a3, a4, a5⟩
  · have z : ¬ v < 256 := fun y => z (nI_lt (b := 256) y (by omega))
    refine wp_nxt (wp_some ⟨?_, ?_, ?_, ?_, frQ_tr a5 (frQ_s (by omega))⟩)
    · rw [if_neg z, sI1, if_pos ⟨rfl, rfl⟩, a1, nI_1]
    · rw [sI1, if_neg (by omega)]; exact a2
    · rw [sI1, if_neg (by omega)]; exact a3
    · rw [sI1, if_neg (by omega)]; exact a4
theorem hr_y (hb2 : ∀ i, i < n → b i < 256) {k : Nat} (hk : k < 256) (hk0 : k ≠ 0) : hrV b n (p + 1) = nI k ↔ yAt b n p = k := by
  unfold hrV yAt
  by_cases z : p + 1 < n
  · rw [if_pos z, if_pos z]
    have := hb2 _ z
    exact nI_eq (by omega) (by omega)
  · rw [if_neg z, if_neg z]
    exact ⟨fun e => absurd e.symm (nI_n1 (by omega)), fun e => absurd e.symm hk0⟩
theorem s128_M (hT : TP S b n) (hb2 : ∀ i, i < n → b i < 256) (hn : n ≤ 700) (hp : p < n) (hx : x < 256) (h : sA S S' p t v) (hv : v < 300) : wp (f_X10_sign_128 (nI x) S') (fun Z => sE S Z p t (if x = 62 ∧ yAt b n p = 61 then 258 else v)) := by
  unfold f_X10_sign_128
  refine wp_if (fun z => ?_) (fun z => ?_)
  · have z : x = 62 := (nI_eq (b := 62) (by omega) (by omega)).mp z
    refine wp_bnde (here_M (TP_q hT h.2.2.2.2) h.1 hn (by omega)) ?_
    refine wp_if (fun y => ?_) (fun y => ?_)
    · have y := (hr_y (p := p) hb2 (k := 61) (by omega) (by omega)).mp y
      rw [if_pos ⟨z, y⟩]
      exact wp_nxt (s150_M (sA_21 h 258) (by omega))
    · have y : ¬ yAt b n p = 61 := fun e => y ((hr_y (p := p) hb2 (k := 61) (by omega) (by omega)).mpr e)
      rw [if_neg (fun e => y e.2)]
      exact s150_M h hv
  · have z : ¬ x = 62 := fun e => z (by rw [e]; rfl)
    rw [if_neg (fun e => z e.1)]
    exact s150_M h hv
theorem s106_M (hT : TP S b n) (hb2 : ∀ i, i < n → b i < 256) (hn : n ≤ 700) (hp : p < n) (hx : x < 256) (h : sA S S' p t v) (hv : v < 300) : wp (f_X10_sign_106 (nI x) S') (fun Z => sE S Z p t (if x = 62 ∧ yAt b n p = 61 then 258 else if x = 60 ∧ yAt b n p = 62 then 257 else v)) := by
  unfold f_X10_sign_106
  refine wp_if (fun z => ?_) (fun z => ?_)
  · have z : x = 60 := (nI_eq (b := 60) (by omega) (by omega)).mp z
    refine wp_bnde (here_M (TP_q hT h.2.2.2.2) h.1 hn (by omega)) ?_
    refine wp_if (fun y => ?_) (fun y => ?_)
    · have y := (hr_y (p := p) hb2 (k := 62) (by omega) (by omega)).mp y
      rw [if_pos (show x = 60 ∧ yAt b n p = 62 from ⟨z, y⟩)]
      exact wp_nxt (s128_M hT hb2 hn hp hx (sA_21 h 257) (by omega))
    · have y : ¬ yAt b n p = 62 := fun e => y ((hr_y (p := p) hb2 (k := 62) (by omega) (by omega)).mpr e)
      rw [if_neg (show ¬ (x = 60 ∧ yAt b n p = 62) from fun e => y e.2)]
      exact s128_M hT hb2 hn hp hx h hv
  · have z : ¬ x = 60 := fun e => z (by rw [e]; rfl)
    rw [if_neg (show ¬ (x = 60 ∧ yAt b n p = 62) from fun e => z e.1)]
    exact s128_M hT hb2 hn hp hx h hv
def vSg (x y : Nat) : Nat := if x = 62 ∧ y = 61 then 258 else if x = 60 ∧ y = 62 then 257 else if x = 60 ∧ y = 61 then 256 else x
theorem s76_M (hT : TP S b n) (hb2 : ∀ i, i < n → b i < 256) (hn : n ≤ 700) (hp : p < n) (hx : x < 256) {t0 t1 : Int32} (h : sA S S' p t0 v ∨ (S'.1 0 18 = nI (p + 1) ∧ S'.1 0 19 = nI p ∧ frQ S S')) : wp (f_X10_sign_76 (nI x) t1 S') (fun Z => sE S Z p t1 (vSg x (yAt b n p))) := by
  have h : S'.1 0 18 = nI (p + 1) ∧ S'.1 0 19 = nI p ∧ frQ S S' := by
    rcases h with h | h
    · exact ⟨h.1, h.2.1, h.2.2.2.2⟩
    · exact h
  obtain ⟨a1, a2, a3⟩ := h
  unfold f_X10_sign_76
  refine wp_nxt (wp_nxt ?_)
  have hA : sA S (sI (sI S' 0 20 t1) 0 21 (nI x)) p t1 x := ⟨by rw [sI1, if_neg (by omega), sI1, if_neg (by omega)]; exact a1, by rw [sI1, if_neg (by omega), sI1, if_neg (by omega)]; exact a2, by rw [sI1, if_neg (by omega), sI1, if_pos ⟨rfl, rfl⟩], by rw [sI1, if_pos ⟨rfl, rfl⟩], frQ_tr a3 (frQ_tr (frQ_s (by omega)) (frQ_s (by omega)))⟩
  generalize sI (sI S' 0 20 t1) 0 21 (nI x) = S2 at *
  unfold vSg
  refine wp_if (fun z => ?_) (fun z => ?_)
  · have z : x = 60 := (nI_eq (b := 60) (by omega) (by omega)).mp z
    refine wp_bnde (here_M (TP_q hT hA.2.2.2.2) hA.1 hn (by omega)) ?_
    refine wp_if (fun y => ?_) (fun y => ?_)
    · have y := (hr_y (p := p) hb2 (k := 61) (by omega) (by omega)).mp y
      rw [if_pos (show x = 60 ∧ yAt b n p = 61 from ⟨z, y⟩)]
      exact wp_nxt (s106_M hT hb2 hn hp hx (sA_21 hA 256) (by omega))
    · have y : ¬ yAt b n p = 61 := fun e => y ((hr_y (p := p) hb2 (k := 61) (by omega) (by omega)).mpr e)
      rw [if_neg (show ¬ (x = 60 ∧ yAt b n p = 61) from fun e => y e.2)]
      exact s106_M hT hb2 hn hp hx hA (by omega)
  · have z : ¬ x = 60 := fun e => z (by rw [e]; rfl)
    rw [if_neg (show ¬ (x = 60 ∧ yAt b n p = 61) from fun e => z e.1)]
    exact s106_M hT hb2 hn hp hx hA (by omega)
theorem sk_in : ∀ x, x < 256 → (skN x = 1 ↔ ¬ (x = 59 ∨ x = 40 ∨ x = 41 ∨ x = 43 ∨ x = 45 ∨ x = 42 ∨ x = 47 ∨ x = 60 ∨ x = 61 ∨ x = 62)) ∧ (skN x ≠ 1 → sgM (skN x) = x ∧ 4 ≤ skN x ∧ skN x < 17) := by decide +kernel
end TKS
