/-! PURE 42: the text: a token, by the reference -/
section TKM
variable {C M S : Mem} {b : Nat → Nat} {n p q : Nat}
def TP (S : Mem) (b : Nat → Nat) (n : Nat) : Prop := S.1 0 17 = nI n ∧ ∀ i, i < n → S.1 1 i = nI (b i)
def frQ (S S' : Mem) : Prop := ∀ c i, ¬ (c = 0 ∧ 18 ≤ i ∧ i ≤ 21) → S'.1 c i = S.1 c i
theorem frQ_rf (S : Mem) : frQ S S := fun _ _ _ => rfl
theorem frQ_tr {S S1 S2 : Mem} (h : frQ S S1) (h' : frQ S1 S2) : frQ S S2 := fun c i a => (h' c i a).trans (h c i a)
theorem frQ_s {i : Nat} {v : Int32} (h : 18 ≤ i ∧ i ≤ 21) : frQ S (sI S 0 i v) := fun c j a => by rw [sI1, if_neg (by omega)]
theorem TP_q {S' : Mem} (h : TP S b n) (f : frQ S S') : TP S' b n := ⟨by rw [f 0 17 (by omega)]; exact h.1, fun i hi => by rw [f 1 i (by omega)]; exact h.2 i hi⟩
def hrV (b : Nat → Nat) (n p : Nat) : Int32 := if p < n then nI (b p) else -1
theorem here_M (h : TP S b n) (h18 : S.1 0 18 = nI p) (hn : n ≤ 700) (hp : p ≤ n) : f_X10_here S = some (hrV b n p, S) := by
  unfold f_X10_here hrV
  rw [h.1, h18]
  by_cases z : p < n
  · rw [if_pos z, if_neg (nI_ge z (by omega)), rdN (by omega) (by omega), h.2 p z]
    rfl
  · rw [if_neg z, if_pos (nI_le (by omega) (by omega))]
theorem isS_M {x : Nat} (hx : x < 256) : f_X10_isSmall (nI x) S = some (if isLt x = true then 1 else 0, S) := isL_C hx
theorem isS_n : f_X10_isSmall (-1) S = some (0, S) := by
  unfold f_X10_isSmall
  rw [if_pos (by decide)]
theorem isN_M {x : Nat} (hx : x < 256) : f_X10_isDigit (nI x) S = some (if isDg x = true then 1 else 0, S) := isD_C hx
theorem isN_n : f_X10_isDigit (-1) S = some (0, S) := by
  unfold f_X10_isDigit
  rw [if_pos (by decide)]
/-- a number, by the reference -/
theorem num_M (hT : TP S b n) (hb2 : ∀ i, i < n → b i < 256) (hn : n ≤ 700) (hp : p ≤ n) (h18 : S.1 0 18 = nI p) (h19 : S.1 0 19 = nI p) (h20 : S.1 0 20 = 2) (h21 : S.1 0 21 = 0) :
    wp (f_X10_token_162 FU S) (fun S' => S'.1 0 18 = nI (eDg b n p) ∧ S'.1 0 19 = nI p ∧ S'.1 0 20 = 2 ∧ S'.1 0 21 = nI (nvM b p (eDg b n p - p)) ∧ frQ S S') := by
  obtain ⟨l1, l2, l3⟩ := spn_le isDg b (n - p) p
  have he : eDg b n p < n → isDg (b (eDg b n p)) = false := fun z => spn_end isDg b (n - p) p (by unfold eDg at z; omega)
  change p ≤ eDg b n p at l1
  change eDg b n p ≤ p + (n - p) at l2
  change ∀ i, p ≤ i → i < eDg b n p → isDg (b i) = true at l3
  have hR := nv_R (q := eDg b n p) l3
  have key : ∀ D i fuel S1, i + D = eDg b n p → D < fuel → p ≤ i → S1.1 0 18 = nI i → S1.1 0 19 = nI p → S1.1 0 20 = 2 → S1.1 0 21 = nI (nvM b p (i - p)) → frQ S S1 → wp (f_X10_token_162 fuel S1) (fun S' => S'.1 0 18 = nI (eDg b n p) ∧ S'.1 0 19 = nI p ∧ S'.1 0 20 = 2 ∧ S'.1 0 21 = nI (nvM b p (eDg b n p - p)) ∧ frQ S S') := by
    intro D
    induction D with
    | zero =>
      intro i fuel S1 hi hf hpi g18 g19 g20 g21 f
      obtain ⟨fu, rfl⟩ : ∃ f, fuel = f + 1 := ⟨fuel - 1, by omega⟩
      have hi : i = eDg b n p := hi
      unfold f_X10_token_162
      refine wp_bnde (here_M (TP_q hT f) g18 hn (by omega)) ?_
      have ed : f_X10_isDigit (hrV b n i) S1 = some (0, S1) := by
        unfold hrV
        by_cases z : i < n
        · rw [if_pos z, isN_M (hb2 i z), if_neg (by rw [hi, he (by omega)]; exact Bool.false_ne_true)]
        · rw [if_neg z, isN_n]
      refine wp_bnde ed (wp_pos rfl (wp_some ⟨by rw [← hi]; exact g18, g19, g20, by rw [← hi]; exact g21, f⟩))
    | succ D ih =>
      intro i fuel S1 hi hf hpi g18 g19 g20 g21 f
      obtain ⟨fu, rfl⟩ : ∃ f, fuel = f + 1 := ⟨fuel - 1, by omega⟩
      have hin : i < n := by omega
      have hdg := l3 i hpi (by omega)
      have hd2 := hdg
      unfold isDg at hd2
      simp only [decide_eq_true_eq] at hd2
      have hH := here_M (TP_q hT f) g18 hn (by omega)
      have hv : hrV b n i = nI (b i) := by unfold hrV; rw [if_pos hin]
      rw [hv] at hH
      unfold f_X10_token_162
      refine wp_bnde hH ?_
      refine wp_bnde (isN_M (hb2 i hin)) ?_
      rw [if_pos hdg]
      refine wp_neg n10 ?_
      have hr := (hR (i - p) (by omega)).1
      have nxtS : ∀ v : Int32, v = nI (nvM b p (i + 1 - p)) → wp (f_X10_token_204 (f_X10_token_162 fu) v S1) (fun S' => S'.1 0 18 = nI (eDg b n p) ∧ S'.1 0 19 = nI p ∧ S'.1 0 20 = 2 ∧ S'.1 0 21 = nI (nvM b p (eDg b n p - p)) ∧ frQ S S') := by
        intro v ev
        unfold f_X10_token_204
        refine wp_nxt (wp_nxt ?_)
        refine ih (i + 1) fu _ (by omega) (by omega) (by omega) ?_ ?_ ?_ ?_ (frQ_tr f (frQ_tr (frQ_s (by omega)) (frQ_s (by omega))))
        · rw [sI1, if_pos ⟨rfl, rfl⟩, sI1, if_neg (by omega), g18, nI_1]
        · rw [sI1, if_neg (by omega), sI1, if_neg (by omega)]; exact g19
        · rw [sI1, if_neg (by omega), sI1, if_neg (by omega)]; exact g20
        · rw [sI1, if_neg (by omega), sI1, if_pos ⟨rfl, rfl⟩]; exact ev
      have es : nvM b p (i + 1 - p) = if nvM b p (i - p) ≤ 99999 then nvM b p (i - p) * 10 + (b i - 48) else nvM b p (i - p) := by
        rw [show i + 1 - p = (i - p) + 1 by omega]
        show (if nvM b p (i - p) ≤ 99999 then nvM b p (i - p) * 10 + (b (p + (i - p)) - 48) else nvM b p (i - p)) = _
        rw [show p + (i - p) = i by omega]
      rw [g21]
      refine wp_if (fun z => ?_) (fun z => ?_)
      · have z : nvM b p (i - p) ≤ 99999 := (nI_leI (by omega) (by omega)).mp (show nI _ ≤ nI 99999 from z)
        refine wp_bnde hH ?_
        refine nxtS _ ?_
        rw [es, if_pos z, show (10 : Int32) = nI 10 from rfl, pk_mul, nI_add, show (48 : Int32) = nI 48 from rfl, pk_sub (by omega)]
        congr 1
        omega
      · have z : ¬ nvM b p (i - p) ≤ 99999 := fun y => z (show nI _ ≤ nI 99999 from nI_le y (by omega))
        refine nxtS _ ?_
        rw [es, if_neg z]
  exact key (eDg b n p - p) p FU S (by omega) (by show _ < 2000; omega) (Nat.le_refl _) h18 h19 h20 (by rw [h21, Nat.sub_self]; rfl) (frQ_rf _)
end TKM
