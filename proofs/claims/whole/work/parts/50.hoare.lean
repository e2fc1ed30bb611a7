/-! PURE 1: what the printed functions do, in the manner of Hoare; bits; loops -/
def wp {α : Type} (x : Option α) (P : α → Prop) : Prop := ∃ y, x = some y ∧ P y
theorem wp_some {α : Type} {a : α} {P : α → Prop} (h : P a) : wp (some a) P := ⟨a, rfl, h⟩
theorem wp_of {α : Type} {x : Option α} {a : α} {P : α → Prop} (e : x = some a) (h : P a) : wp x P := ⟨a, e, h⟩
theorem wp_mono {α : Type} {x : Option α} {P Q : α → Prop} (h : wp x P) (k : ∀ a, P a → Q a) : wp x Q := by
  obtain ⟨y, e, h⟩ := h
  exact ⟨y, e, k y h⟩
theorem wp_call {α β : Type} {x : Option α} {f : α → Option β} {Q : α → Prop} {P : β → Prop} (h : wp x Q) (k : ∀ a, Q a → wp (f a) P) : wp (x.bind f) P := by
  obtain ⟨y, e, h⟩ := h
  rw [e]
  exact k y h
theorem wp_bnd {α β : Type} {x : Option (α × Mem)} {f : α → Mem → Option β} {Q : α × Mem → Prop} {P : β → Prop} (h : wp x Q) (k : ∀ a S, Q (a, S) → wp (f a S) P) : wp (bnd x f) P := by
  obtain ⟨⟨a, S⟩, e, h⟩ := h
  rw [e]
  exact k a S h
theorem wp_bnde {α β : Type} {x : Option (α × Mem)} {f : α → Mem → Option β} {P : β → Prop} {a : α} {S : Mem} (e : x = some (a, S)) (k : wp (f a S) P) : wp (bnd x f) P := by
  rw [e]
  exact k
theorem wp_bde {α β : Type} {x : Option α} {f : α → Option β} {P : β → Prop} {a : α} (e : x = some a) (k : wp (f a) P) : wp (x.bind f) P := by
  rw [e]
  exact k
theorem wp_nxt {α : Type} {S : Mem} {f : Mem → Option α} {P : α → Prop} (h : wp (f S) P) : wp (nxt S f) P := h
theorem wp_if {α : Type} {c : Prop} [Decidable c] {a b : Option α} {P : α → Prop} (h1 : c → wp a P) (h2 : ¬ c → wp b P) : wp (if c then a else b) P := by
  by_cases h : c
  · rw [if_pos h]; exact h1 h
  · rw [if_neg h]; exact h2 h
theorem wp_pos {α : Type} {c : Prop} [Decidable c] {a b : Option α} {P : α → Prop} (h : c) (h1 : wp a P) : wp (if c then a else b) P := by
  rw [if_pos h]; exact h1
theorem wp_neg {α : Type} {c : Prop} [Decidable c] {a b : Option α} {P : α → Prop} (h : ¬ c) (h1 : wp b P) : wp (if c then a else b) P := by
  rw [if_neg h]; exact h1
theorem inbN {j n : Nat} (hj : j < n) (hn : n ≤ 1000) : inb (nI j) n = true := inb_nI hj (by omega)
theorem clN {j n : Nat} (hj : j < n) (hn : n ≤ 1000) : (nI j).toNatClampNeg = j := nI_clamp (by omega)
theorem rdN {S : Mem} {k n j : Nat} (hj : j < n) (hn : n ≤ 1000) : rd S k n (nI j) = some (S.1 k j) := by
  unfold rd
  rw [if_pos (inbN hj hn), clN hj hn]
theorem rdLN {S : Mem} {k n j : Nat} (hj : j < n) (hn : n ≤ 1000) : rdL S k n (nI j) = some (S.2 k j) := by
  unfold rdL
  rw [if_pos (inbN hj hn), clN hj hn]
theorem wrN {S : Mem} {k n j : Nat} {v : Int32} (hj : j < n) (hn : n ≤ 1000) : wr S k n (nI j) v = some (sI S k j v) := by
  unfold wr
  rw [if_pos (inbN hj hn), clN hj hn]
theorem wrZN {S : Mem} {k n j : Nat} {v : Int32} (hj : j < n) (hn : n ≤ 1000) : wrZ S k n (nI j) v = some (sI S k j (vp_nar .boolean v)) := by
  unfold wrZ
  rw [if_pos (inbN hj hn), clN hj hn]
theorem wrLN {S : Mem} {k n j : Nat} {v : Int64} (hj : j < n) (hn : n ≤ 1000) : wrL S k n (nI j) v = some (sL S k j v) := by
  unfold wrL
  rw [if_pos (inbN hj hn), clN hj hn]
/-- read at i, which is j: the value v -/
theorem wp_rd {α : Type} {S : Mem} {k n : Nat} {i : Int32} {f : Int32 → Option α} {P : α → Prop} (j : Nat) (e : i = nI j) (hj : j < n) {v : Int32} (hv : S.1 k j = v) (h : wp (f v) P) (hn : n ≤ 1000 := by decide) : wp ((rd S k n i).bind f) P := by
  subst e
  rw [rdN hj hn, hv]
  exact h
theorem wp_rdL {α : Type} {S : Mem} {k n : Nat} {i : Int32} {f : Int64 → Option α} {P : α → Prop} (j : Nat) (e : i = nI j) (hj : j < n) {v : Int64} (hv : S.2 k j = v) (h : wp (f v) P) (hn : n ≤ 1000 := by decide) : wp ((rdL S k n i).bind f) P := by
  subst e
  rw [rdLN hj hn, hv]
  exact h
theorem wp_wr {α : Type} {S : Mem} {k n : Nat} {i v : Int32} {f : Mem → Option α} {P : α → Prop} (j : Nat) (e : i = nI j) (hj : j < n) (h : wp (f (sI S k j v)) P) (hn : n ≤ 1000 := by decide) : wp ((wr S k n i v).bind f) P := by
  subst e
  rw [wrN hj hn]
  exact h
theorem wp_wrZ {α : Type} {S : Mem} {k n : Nat} {i v : Int32} {f : Mem → Option α} {P : α → Prop} (j : Nat) (e : i = nI j) (hj : j < n) (h : wp (f (sI S k j (vp_nar .boolean v))) P) (hn : n ≤ 1000 := by decide) : wp ((wrZ S k n i v).bind f) P := by
  subst e
  rw [wrZN hj hn]
  exact h
theorem wp_wrL {α : Type} {S : Mem} {k n : Nat} {i : Int32} {v : Int64} {f : Mem → Option α} {P : α → Prop} (j : Nat) (e : i = nI j) (hj : j < n) (h : wp (f (sL S k j v)) P) (hn : n ≤ 1000 := by decide) : wp ((wrL S k n i v).bind f) P := by
  subst e
  rw [wrLN hj hn]
  exact h
theorem nar0 : vp_nar .boolean 0 = 0 := rfl
theorem nar1 : vp_nar .boolean 1 = 1 := rfl
theorem sI1 (S : Mem) (k i k' i' : Nat) (v : Int32) : (sI S k i v).1 k' i' = if k' = k ∧ i' = i then v else S.1 k' i' := rfl
theorem sI2 (S : Mem) (k i : Nat) (v : Int32) : (sI S k i v).2 = S.2 := rfl
theorem sL1 (S : Mem) (k i : Nat) (v : Int64) : (sL S k i v).1 = S.1 := rfl
theorem sL2 (S : Mem) (k i k' i' : Nat) (v : Int64) : (sL S k i v).2 k' i' = if k' = k ∧ i' = i then v else S.2 k' i' := rfl
theorem ix10 (t d : Nat) : (10 : Int32) * nI t + nI d = nI (10 * t + d) := by
  rw [show (10 : Int32) = nI 10 from rfl, pk_mul, nI_add]
theorem ix2 (t d : Nat) : (2 : Int32) * nI t + nI d = nI (2 * t + d) := by
  rw [show (2 : Int32) = nI 2 from rfl, pk_mul, nI_add]
/-! a loop that counts up to n; its body may end it -/
theorem lpU {σ α : Type} {P : α → Prop} (f : Nat → Int32 → σ → Option α) (n : Nat) (Inv : Nat → σ → Prop) (he : ∀ fuel s, Inv n s → wp (f (fuel + 1) (nI n) s) P)
    (hs : ∀ fuel j s, j < n → Inv j s → (∀ s', Inv (j + 1) s' → wp (f fuel (nI (j + 1)) s') P) → wp (f (fuel + 1) (nI j) s) P) :
    ∀ (m j fuel : Nat) (s : σ), j + m = n → m < fuel → Inv j s → wp (f fuel (nI j) s) P := by
  intro m
  induction m with
  | zero =>
    intro j fuel s hj hf hI
    obtain ⟨g, rfl⟩ : ∃ g, fuel = g + 1 := ⟨fuel - 1, by omega⟩
    have : j = n := by omega
    subst this
    exact he g s hI
  | succ m ih =>
    intro j fuel s hj hf hI
    obtain ⟨g, rfl⟩ : ∃ g, fuel = g + 1 := ⟨fuel - 1, by omega⟩
    exact hs g j s (by omega) hI (fun s' h' => ih (j + 1) g s' (by omega) (by omega) h')
theorem lp0 {σ α : Type} {P : α → Prop} (f : Nat → Int32 → σ → Option α) (n : Nat) (Inv : Nat → σ → Prop) (hn : n < 2000) (s : σ) (h0 : Inv 0 s) (he : ∀ fuel s, Inv n s → wp (f (fuel + 1) (nI n) s) P)
    (hs : ∀ fuel j s, j < n → Inv j s → (∀ s', Inv (j + 1) s' → wp (f fuel (nI (j + 1)) s') P) → wp (f (fuel + 1) (nI j) s) P) : wp (f FU 0 s) P :=
  lpU f n Inv he hs n 0 2000 s (by omega) hn h0
theorem lpF {σ α : Type} {P : α → Prop} (f : Nat → Int32 → σ → Option α) (i n : Nat) (Inv : Nat → σ → Prop) (hi : i ≤ n) (hn : n < 2000 + i) (s : σ) (h0 : Inv i s) (he : ∀ fuel s, Inv n s → wp (f (fuel + 1) (nI n) s) P)
    (hs : ∀ fuel j s, j < n → Inv j s → (∀ s', Inv (j + 1) s' → wp (f fuel (nI (j + 1)) s') P) → wp (f (fuel + 1) (nI j) s) P) : wp (f FU (nI i) s) P :=
  lpU f n Inv he hs (n - i) i 2000 s (by omega) (by omega) h0
def itN {α : Type} (f : Nat → α → α) : Nat → α → α
  | 0, a => a
  | n + 1, a => f n (itN f n a)
theorem itN_0 {α : Type} (f : Nat → α → α) (a : α) : itN f 0 a = a := rfl
theorem itN_s {α : Type} (f : Nat → α → α) (n : Nat) (a : α) : itN f (n + 1) a = f n (itN f n a) := rfl
/-! bits -/
def bt (x : Int32) (d : Nat) : Bool := x.toBitVec.getLsbD d
theorem sm32 : ∀ d, d < 32 → ((nI d &&& 31).toBitVec.smod 32).toNat = d := by decide +kernel
theorem bt_0 (x : Int32) : x &&& 1 = 1 ↔ bt x 0 = true := by
  rw [pk_and x 1 rfl, show (1 : Int32) = nI 1 from rfl, nI_eq (by omega) (by omega)]
  unfold bt
  rw [BitVec.getLsbD, Nat.testBit_zero]
  simp
theorem bt_test {x : Int32} {d : Nat} (hd : d < 32) : ((x >>> (nI d &&& 31)) &&& 1 = 1) ↔ bt x d = true := by
  rw [bt_0]
  have e : (x >>> (nI d &&& 31)).toBitVec = x.toBitVec.sshiftRight d := by
    show x.toBitVec.sshiftRight ((nI d &&& 31).toBitVec.smod 32).toNat = _
    rw [sm32 d hd]
  unfold bt
  rw [e, BitVec.getLsbD_sshiftRight]
  simp [hd]
theorem bt_and (x y : Int32) (d : Nat) : bt (x &&& y) d = (bt x d && bt y d) := by simp [bt]
theorem bt_or (x y : Int32) (d : Nat) : bt (x ||| y) d = (bt x d || bt y d) := by simp [bt]
theorem bt_xor (x y : Int32) (d : Nat) : bt (x ^^^ y) d = (bt x d ^^ bt y d) := by simp [bt]
theorem bt_z (d : Nat) : bt 0 d = false := by simp [bt]
theorem bt_m1 {d : Nat} (hd : d < 32) : bt (-1) d = true := by
  have : ∀ d, d < 32 → bt (-1) d = true := by decide +kernel
  exact this d hd
theorem bt_big (x : Int32) {d : Nat} (hd : 32 ≤ d) : bt x d = false := BitVec.getLsbD_of_ge _ _ hd
theorem bt_shl {e d : Nat} (he : e < 32) : bt ((1 : Int32) <<< (nI e &&& 31)) d = decide (d = e) := by
  by_cases hd : d < 32
  · have : ∀ e, e < 32 → ∀ d, d < 32 → bt ((1 : Int32) <<< (nI e &&& 31)) d = decide (d = e) := by decide +kernel
    exact this e he d hd
  · rw [bt_big _ (by omega)]
    simp
    omega
theorem bt_ext {x y : Int32} (h : ∀ d, d < 32 → bt x d = bt y d) : x = y := by
  apply Int32.toBitVec_inj.mp
  apply BitVec.eq_of_getLsbD_eq
  intro i hi
  exact h i hi
theorem bt_nI (n d : Nat) (hd : d < 32) : bt (nI n) d = n.testBit d := by
  unfold bt
  rw [show (nI n).toBitVec = BitVec.ofNat 32 n from rfl, BitVec.getLsbD_ofNat]
  simp [hd]
theorem bt_and0 {x y : Int32} : x &&& y = 0 ↔ ∀ d, d < 32 → ¬ (bt x d = true ∧ bt y d = true) := by
  constructor
  · intro h d hd hb
    have := congrArg (fun z => bt z d) h
    simp only [bt_and, bt_z, hb.1, hb.2] at this
    cases this
  · intro h
    apply bt_ext
    intro d hd
    have := h d hd
    rw [bt_and, bt_z]
    cases h1 : bt x d <;> cases h2 : bt y d <;> simp_all
