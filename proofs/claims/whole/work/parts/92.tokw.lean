/-! PURE 43: the text: a word, by the reference -/
section TKW
variable {C M S : Mem} {b : Nat → Nat} {n p q : Nat}
def sgM (kd : Nat) : Nat := if kd = 4 then 59 else if kd = 5 then 40 else if kd = 6 then 41 else if kd = 7 then 60 else if kd = 8 then 256 else if kd = 9 then 61 else if kd = 10 then 257 else if kd = 11 then 258 else if kd = 12 then 62 else if kd = 13 then 43 else if kd = 14 then 45 else if kd = 15 then 42 else 47
def rfJ (i : Nat) : Nat := if i < 10 then i + 12 else i - 10
theorem rfJ_I : ∀ k, k < 22 → rfJ (rfI k) = k := by decide
/-- the reference's cells hold the token at p -/
def tkM (S : Mem) (b : Nat → Nat) (n p : Nat) : Prop := (tkd b n p = 0 → S.1 0 20 = 4) ∧ (tkd b n p = 1 → S.1 0 20 = 5) ∧ (tkd b n p = 2 → S.1 0 20 = 2 ∧ S.1 0 21 = nI (nvM b p (eDg b n p - p))) ∧ (tkd b n p = 3 → S.1 0 20 = 1 ∧ S.1 0 21 = nI (tvC b n p)) ∧ (4 ≤ tkd b n p → tkd b n p < 17 → S.1 0 20 = 3 ∧ S.1 0 21 = nI (sgM (tkd b n p))) ∧ (17 ≤ tkd b n p → S.1 0 20 = 0 ∧ S.1 0 21 = nI (rfJ (tkd b n p - 17)))
theorem let_M (hT : TP S b n) (hb2 : ∀ i, i < n → b i < 256) (hn : n ≤ 700) (hp : p < n) (hL : isLt (b p) = true) (h18 : S.1 0 18 = nI p) (h19 : S.1 0 19 = nI p) :
    wp (f_X10_token_64 FU S) (fun S' => S'.1 0 18 = nI (eLt b n p) ∧ S'.1 0 19 = nI p ∧ tkM S' b n p ∧ frQ S S') := by
  obtain ⟨l1, l2, l3⟩ := spn_le isLt b (n - p) p
  have he : eLt b n p < n → isLt (b (eLt b n p)) = false := fun z => spn_end isLt b (n - p) p (by unfold eLt at z; omega)
  change p ≤ eLt b n p at l1
  change eLt b n p ≤ p + (n - p) at l2
  change ∀ i, p ≤ i → i < eLt b n p → isLt (b i) = true at l3
  have ek : tkd b n p = if eLt b n p - p ≤ 6 then wkN (cdW b p (eLt b n p) 6) else 1 := by unfold tkd; rw [if_pos hp, if_pos hL]
  have ev : tvC b n p = cdW b p (eLt b n p) 6 := by unfold tvC; rw [if_pos hL]
  have key : ∀ D i fuel S1, i + D = eLt b n p → D < fuel → p ≤ i → S1.1 0 18 = nI i → S1.1 0 19 = nI p → frQ S S1 → wp (f_X10_token_64 fuel S1) (fun S' => S'.1 0 18 = nI (eLt b n p) ∧ S'.1 0 19 = nI p ∧ tkM S' b n p ∧ frQ S S') := by
    intro D
    induction D with
    | zero =>
      intro i fuel S1 hi hf hpi g18 g19 f
      obtain ⟨fu, rfl⟩ : ∃ f, fuel = f + 1 := ⟨fuel - 1, by omega⟩
      have hi : i = eLt b n p := hi
      have hT1 := TP_q hT f
      unfold f_X10_token_64
      refine wp_bnde (here_M hT1 g18 hn (by omega)) ?_
      have ed : f_X10_isSmall (hrV b n i) S1 = some (0, S1) := by
        unfold hrV
        by_cases z : i < n
        · rw [if_pos z, isS_M (hb2 i z), if_neg (by rw [hi, he (by omega)]; exact Bool.false_ne_true)]
        · rw [if_neg z, isS_n]
      refine wp_bnde ed (wp_pos rfl ?_)
      rw [hi] at g18
      refine wp_bnd (word_M (b := b) g18 g19 l1 (by omega) (fun j hj => hT1.2 j (by omega)) (fun j hj => hb2 j (by omega))) ?_
      rintro r S2 ⟨e2, hr⟩
      have e2 : S2 = S1 := e2
      subst e2
      have hr : (∃ k, k < 22 ∧ r = nI k ∧ eqR b p (eLt b n p) k) ∨ (r = -1 ∧ ∀ k, k < 22 → ¬ eqR b p (eLt b n p) k) := hr
      refine wp_nxt ?_
      have k18 : (sI S2 0 21 r).1 0 18 = nI (eLt b n p) := by rw [sI1, if_neg (by omega)]; exact g18
      have k19 : (sI S2 0 21 r).1 0 19 = nI p := by rw [sI1, if_neg (by omega)]; exact g19
      have k21 : (sI S2 0 21 r).1 0 21 = r := by rw [sI1, if_pos ⟨rfl, rfl⟩]
      have kf : frQ S (sI S2 0 21 r) := frQ_tr f (frQ_s (by omega))
      generalize sI S2 0 21 r = S3 at *
      rw [k21]
      have done : ∀ (x : Int32), x ≠ 1 → tkM (sI S3 0 20 x) b n p → wp (f_X10_token_127 x S3) (fun S' => S'.1 0 18 = nI (eLt b n p) ∧ S'.1 0 19 = nI p ∧ tkM S' b n p ∧ frQ S S') := by
        intro x hx ht
        unfold f_X10_token_127
        refine wp_nxt (wp_neg (by rw [sI1, if_pos ⟨rfl, rfl⟩]; exact hx) (wp_some ⟨?_, ?_, ht, frQ_tr kf (frQ_s (by omega))⟩))
        · rw [sI1, if_neg (by omega)]; exact k18
        · rw [sI1, if_neg (by omega)]; exact k19
      by_cases h6 : eLt b n p - p ≤ 6
      · rw [if_pos h6] at ek
        have hw := wordR l3 l1 h6 hr
        clear hr
        rcases hw with ⟨k, hk, rfl, ew⟩ | ⟨rfl, ew⟩
        · refine wp_neg (nI_n1 (by omega)) (done 0 (by decide) ?_)
          rw [ew] at ek
          have hk2 := rfI_lt k hk
          refine ⟨fun z => by omega, fun z => by omega, fun z => by omega, fun z => by omega, fun z1 z2 => by omega, fun _ => ⟨by rw [sI1, if_pos ⟨rfl, rfl⟩], ?_⟩⟩
          rw [sI1, if_neg (by omega), k21, ek, show 17 + rfI k - 17 = rfI k by omega, rfJ_I k hk]
        · refine wp_pos rfl ?_
          rw [k18, k19, pk_sub l1]
          refine wp_pos (nI_le (b := 6) h6 (by omega)) ?_
          unfold f_X10_token_127
          refine wp_nxt (wp_pos (by rw [sI1, if_pos ⟨rfl, rfl⟩]) ?_)
          refine wp_call (name_M (b := b) (S := sI S3 0 20 1) (p := p) (q := eLt b n p) (by rw [sI1, if_neg (by omega)]; exact k18) (by rw [sI1, if_neg (by omega)]; exact k19) l1 (by omega) (fun j hj => by rw [sI_off (by omega)]; exact (TP_q hT kf).2 j (by omega)) l3) ?_
          rintro S4 rfl
          rw [ew] at ek
          refine wp_some ⟨?_, ?_, ⟨fun z => by omega, fun z => by omega, fun z => by omega, fun _ => ⟨?_, ?_⟩, fun z1 z2 => by omega, fun z => by omega⟩, frQ_tr kf (frQ_tr (frQ_s (by omega)) (frQ_s (by omega)))⟩
          · rw [sI1, if_neg (by omega), sI1, if_neg (by omega)]; exact k18
          · rw [sI1, if_neg (by omega), sI1, if_neg (by omega)]; exact k19
          · rw [sI1, if_neg (by omega), sI1, if_pos ⟨rfl, rfl⟩]
          · rw [sI1, if_pos ⟨rfl, rfl⟩, ev]
      · rw [if_neg h6] at ek
        rcases hr with ⟨k, hk, -, e⟩ | ⟨rfl, -⟩
        · exact absurd e (eqR_long hk (by omega))
        · refine wp_pos rfl ?_
          rw [k18, k19, pk_sub l1]
          refine wp_neg (nI_ge (a := 6) (by omega) (by omega)) (done 5 (by decide) ?_)
          exact ⟨fun z => by omega, fun _ => by rw [sI1, if_pos ⟨rfl, rfl⟩], fun z => by omega, fun z => by omega, fun z1 z2 => by omega, fun z => by omega⟩
    | succ D ih =>
      intro i fuel S1 hi hf hpi g18 g19 f
      obtain ⟨fu, rfl⟩ : ∃ f, fuel = f + 1 := ⟨fuel - 1, by omega⟩
      have hin : i < n := by omega
      have hH := here_M (TP_q hT f) g18 hn (by omega)
      have hv : hrV b n i = nI (b i) := by unfold hrV; rw [if_pos hin]
      rw [hv] at hH
      unfold f_X10_token_64
      refine wp_bnde hH ?_
      refine wp_bnde (isS_M (hb2 i hin)) ?_
      rw [if_pos (l3 i hpi (by omega))]
      refine wp_neg n10 (wp_nxt ?_)
      refine ih (i + 1) fu _ (by omega) (by omega) (by omega) ?_ ?_ (frQ_tr f (frQ_s (by omega)))
      · rw [sI1, if_pos ⟨rfl, rfl⟩, g18, nI_1]
      · rw [sI1, if_neg (by omega)]; exact g19
  exact key (eLt b n p - p) p FU S (by omega) (by show _ < 2000; omega) (Nat.le_refl _) h18 h19 (frQ_rf _)
end TKW
