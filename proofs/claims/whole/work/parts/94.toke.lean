/-! PURE 45: the text: a token, by the reference: the end -/
section TKE
variable {C M S : Mem} {b : Nat → Nat} {n p q : Nat}
theorem pk_cases (x y : Nat) : (pkN x y = 1 ∧ vSg x y = x) ∨ (pkN x y ≠ 1 ∧ skN x ≠ 1 ∧ 4 ≤ pkN x y ∧ pkN x y < 17 ∧ vSg x y = sgM (pkN x y) ∧ ¬ vSg x y < 256) := by
  by_cases h1 : x = 60
  · subst h1
    by_cases h2 : y = 61
    · subst h2; exact Or.inr (by decide)
    · by_cases h3 : y = 62
      · subst h3; exact Or.inr (by decide)
      · exact Or.inl (by unfold pkN vSg; simp [h2, h3])
  · by_cases h2 : x = 62
    · subst h2
      by_cases h3 : y = 61
      · subst h3; exact Or.inr (by decide)
      · exact Or.inl (by unfold pkN vSg; simp [h3])
    · exact Or.inl (by unfold pkN vSg; simp [h1, h2])
theorem sign_M (hT : TP S b n) (hb2 : ∀ i, i < n → b i < 256) (hn : n ≤ 700) (hp : p < n) (hL : ¬ isLt (b p) = true) (hG : ¬ isDg (b p) = true) (h18 : S.1 0 18 = nI p) (h19 : S.1 0 19 = nI p) :
    wp (f_X10_sign (nI (b p)) S) (fun S' => S'.1 0 18 = nI (tnx b n p) ∧ S'.1 0 19 = nI p ∧ tkM S' b n p ∧ frQ S S') := by
  have hbp := hb2 p hp
  have en : tnx b n p = sgE b n p := by unfold tnx; rw [if_pos hp, if_neg hL, if_neg hG]
  have ek : tkd b n p = sgK b n p := by unfold tkd; rw [if_pos hp, if_neg hL, if_neg hG]
  unfold f_X10_sign
  refine wp_nxt ?_
  have a1 : (sI S 0 18 (S.1 0 18 + 1)).1 0 18 = nI (p + 1) := by rw [sI1, if_pos ⟨rfl, rfl⟩, h18, nI_1]
  have a2 : (sI S 0 18 (S.1 0 18 + 1)).1 0 19 = nI p := by rw [sI1, if_neg (by omega)]; exact h19
  have a3 : frQ S (sI S 0 18 (S.1 0 18 + 1)) := frQ_s (by omega)
  generalize sI S 0 18 (S.1 0 18 + 1) = S1 at *
  have go : ∀ t : Int32, t = (if skN (b p) = 1 then 5 else 3) → wp (f_X10_sign_76 (nI (b p)) t S1) (fun S' => S'.1 0 18 = nI (tnx b n p) ∧ S'.1 0 19 = nI p ∧ tkM S' b n p ∧ frQ S S') := by
    intro t et
    refine wp_mono (s76_M (v := 0) (t0 := 0) hT hb2 hn hp hbp (Or.inr ⟨a1, a2, a3⟩)) ?_
    rintro Z ⟨e1, e2, e3, e4, e5⟩
    rw [en]
    unfold sgE
    unfold sgK at ek
    obtain ⟨s1, s2⟩ := sk_in (b p) hbp
    rcases pk_cases (b p) (yAt b n p) with ⟨c1, c2⟩ | ⟨c1, c2, c3, c4, c5, c6⟩
    · rw [c2] at e1 e4
      rw [if_pos hbp] at e1
      rw [if_pos c1] at ek ⊢
      refine ⟨e1, e2, ?_, e5⟩
      unfold tkM
      rw [ek]
      by_cases w : skN (b p) = 1
      · rw [if_pos w] at et
        rw [w]
        exact ⟨fun z => by omega, fun _ => e3.trans et, fun z => by omega, fun z => by omega, fun z => by omega, fun z => by omega⟩
      · rw [if_neg w] at et
        obtain ⟨w1, w2, w3⟩ := s2 w
        exact ⟨fun z => by omega, fun z => by omega, fun z => by omega, fun z => by omega, fun _ _ => ⟨e3.trans et, by rw [w1]; exact e4⟩, fun z => by omega⟩
    · rw [if_neg c6] at e1
      rw [if_neg c1] at ek ⊢
      rw [if_neg c2] at et
      refine ⟨e1, e2, ?_, e5⟩
      unfold tkM
      rw [ek]
      exact ⟨fun z => by omega, fun z => by omega, fun z => by omega, fun z => by omega, fun _ _ => ⟨e3.trans et, by rw [← c5]; exact e4⟩, fun z => by omega⟩
  have eq71 : f_X10_sign_71 (nI (b p)) S1 = f_X10_sign_76 (nI (b p)) 3 S1 := rfl
  rw [eq71]
  refine wp_if (fun z => ?_) (fun z59 => ?_)
  · have z : b p = 59 := (nI_eq (b := 59) (by omega) (by omega)).mp z
    exact go 3 (by rw [if_neg (by rw [z]; decide)])
  refine wp_if (fun z => ?_) (fun z40 => ?_)
  · have z : b p = 40 := (nI_eq (b := 40) (by omega) (by omega)).mp z
    exact go 3 (by rw [if_neg (by rw [z]; decide)])
  refine wp_if (fun z => ?_) (fun z41 => ?_)
  · have z : b p = 41 := (nI_eq (b := 41) (by omega) (by omega)).mp z
    exact go 3 (by rw [if_neg (by rw [z]; decide)])
  refine wp_if (fun z => ?_) (fun z43 => ?_)
  · have z : b p = 43 := (nI_eq (b := 43) (by omega) (by omega)).mp z
    exact go 3 (by rw [if_neg (by rw [z]; decide)])
  refine wp_if (fun z => ?_) (fun z45 => ?_)
  · have z : b p = 45 := (nI_eq (b := 45) (by omega) (by omega)).mp z
    exact go 3 (by rw [if_neg (by rw [z]; decide)])
  refine wp_if (fun z => ?_) (fun z42 => ?_)
  · have z : b p = 42 := (nI_eq (b := 42) (by omega) (by omega)).mp z
    exact go 3 (by rw [if_neg (by rw [z]; decide)])
  refine wp_if (fun z => ?_) (fun z47 => ?_)
  · have z : b p = 47 := (nI_eq (b := 47) (by omega) (by omega)).mp z
    exact go 3 (by rw [if_neg (by rw [z]; decide)])
  refine wp_if (fun z => ?_) (fun z60 => ?_)
  · have z : b p = 60 := (nI_eq (b := 60) (by omega) (by omega)).mp z
    exact go 3 (by rw [if_neg (by rw [z]; decide)])
  refine wp_if (fun z => ?_) (fun z61 => ?_)
  · have z : b p = 61 := (nI_eq (b := 61) (by omega) (by omega)).mp z
    exact go 3 (by rw [if_neg (by rw [z]; decide)])
  refine wp_if (fun z => ?_) (fun z62 => ?_)
  · have z : b p = 62 := (nI_eq (b := 62) (by omega) (by omega)).mp z
    exact go 3 (by rw [if_neg (by rw [z]; decide)])
  refine go 5 ?_
  rw [if_pos ((sk_in (b p) hbp).1.mpr ?_)]
  rintro (e | e | e | e | e | e | e | e | e | e)
  · exact z59 (by rw [e]; rfl)
  · exact z40 (by rw [e]; rfl)
  · exact z41 (by rw [e]; rfl)
  · exact z43 (by rw [e]; rfl)
  · exact z45 (by rw [e]; rfl)
  · exact z42 (by rw [e]; rfl)
  · exact z47 (by rw [e]; rfl)
  · exact z60 (by rw [e]; rfl)
  · exact z61 (by rw [e]; rfl)
  · exact z62 (by rw [e]; rfl)
/-- after a token: where it stands, where it ends, what it is -/
def tokR (S S' : Mem) (b : Nat → Nat) (n p : Nat) : Prop := S'.1 0 18 = nI (tnx b n p) ∧ S'.1 0 19 = nI p ∧ tkM S' b n p ∧ frQ S S'
theorem token_M (hT : TP S b n) (hb2 : ∀ i, i < n → b i < 256) (hn : n ≤ 700) {p0 : Nat} (hp0 : p0 ≤ n) (h18 : S.1 0 18 = nI p0) : wp (f_X10_token S) (fun S' => tokR S S' b n (skB b n p0)) := by
  have key : ∀ D p fuel S1, p + D = n → D < fuel → S1.1 0 18 = nI p → frQ S S1 → wp (f_X10_token_0 fuel S1) (fun S' => tokR S S' b n (skB b n p)) := by
    intro D
    induction D with
    | zero =>
      intro p fuel S1 hp hf g18 f
      obtain ⟨fu, rfl⟩ : ∃ f, fuel = f + 1 := ⟨fuel - 1, by omega⟩
      have hp : p = n := hp
      subst hp
      have hv : hrV b p p = -1 := by unfold hrV; rw [if_neg (Nat.lt_irrefl _)]
      have hH := here_M (TP_q hT f) g18 hn (Nat.le_refl _)
      rw [hv] at hH
      unfold f_X10_token_0
      refine wp_bnde hH (wp_neg (by decide) (wp_bnde hH (wp_neg (by decide) (wp_nxt ?_))))
      have k18 : (sI S1 0 19 (S1.1 0 18)).1 0 18 = nI p := by rw [sI1, if_neg (by omega)]; exact g18
      have k19 : (sI S1 0 19 (S1.1 0 18)).1 0 19 = nI p := by rw [sI1, if_pos ⟨rfl, rfl⟩]; exact g18
      have kf : frQ S (sI S1 0 19 (S1.1 0 18)) := frQ_tr f (frQ_s (by omega))
      generalize sI S1 0 19 (S1.1 0 18) = S2 at *
      have hH2 := here_M (TP_q hT kf) k18 hn (Nat.le_refl _)
      rw [hv] at hH2
      refine wp_bnde hH2 (wp_pos rfl (wp_nxt (wp_some ?_)))
      rw [sk_end]
      have e0 : tkd b p p = 0 := by unfold tkd; rw [if_neg (Nat.lt_irrefl _)]
      have e1 : tnx b p p = p := by unfold tnx; rw [if_neg (Nat.lt_irrefl _)]
      refine ⟨by rw [e1, sI1, if_neg (by omega)]; exact k18, by rw [sI1, if_neg (by omega)]; exact k19, ?_, frQ_tr kf (frQ_s (by omega))⟩
      unfold tkM
      rw [e0]
      exact ⟨fun _ => by rw [sI1, if_pos ⟨rfl, rfl⟩], fun z => by omega, fun z => by omega, fun z => by omega, fun z => by omega, fun z => by omega⟩
    | succ D ih =>
      intro p fuel S1 hp hf g18 f
      obtain ⟨fu, rfl⟩ : ∃ f, fuel = f + 1 := ⟨fuel - 1, by omega⟩
      have hpn : p < n := by omega
      have hbp := hb2 p hpn
      have hv : hrV b n p = nI (b p) := by unfold hrV; rw [if_pos hpn]
      have hH := here_M (TP_q hT f) g18 hn (by omega)
      rw [hv] at hH
      have blank : isBl (b p) = true → wp (f_X10_token_18 (f_X10_token_0 fu) S1) (fun S' => tokR S S' b n (skB b n p)) := by
        intro hbl
        unfold f_X10_token_18
        rw [sk_bl hpn hbl]
        refine wp_nxt (ih (p + 1) fu _ (by omega) (by omega) ?_ (frQ_tr f (frQ_s (by omega))))
        rw [sI1, if_pos ⟨rfl, rfl⟩, g18, nI_1]
      unfold f_X10_token_0
      refine wp_bnde hH ?_
      refine wp_if (fun z => ?_) (fun z10 => ?_)
      · have z : b p = 10 := (nI_eq (b := 10) (by omega) (by omega)).mp z
        exact blank (by unfold isBl; simp [z])
      refine wp_bnde hH ?_
      refine wp_if (fun z => ?_) (fun z32 => ?_)
      · have z : b p = 32 := (nI_eq (b := 32) (by omega) (by omega)).mp z
        exact blank (by unfold isBl; simp [z])
      have hnb : ¬ isBl (b p) = true := by
        unfold isBl
        simp only [decide_eq_true_eq]
        rintro (e | e)
        · exact z10 (by rw [e]; rfl)
        · exact z32 (by rw [e]; rfl)
      rw [sk_no hpn hnb]
      refine wp_nxt ?_
      have k18 : (sI S1 0 19 (S1.1 0 18)).1 0 18 = nI p := by rw [sI1, if_neg (by omega)]; exact g18
      have k19 : (sI S1 0 19 (S1.1 0 18)).1 0 19 = nI p := by rw [sI1, if_pos ⟨rfl, rfl⟩]; exact g18
      have kf : frQ S (sI S1 0 19 (S1.1 0 18)) := frQ_tr f (frQ_s (by omega))
      generalize sI S1 0 19 (S1.1 0 18) = S2 at *
      have hT2 := TP_q hT kf
      have hH2 := here_M hT2 k18 hn (by omega)
      rw [hv] at hH2
      refine wp_bnde hH2 (wp_neg (nI_n1 (by omega)) ?_)
      refine wp_bnde (isS_M hbp) ?_
      by_cases hL : isLt (b p) = true
      · rw [if_pos hL]
        refine wp_neg n10 ?_
        have en : tnx b n p = eLt b n p := by unfold tnx; rw [if_pos hpn, if_pos hL]
        refine wp_mono (let_M hT2 hb2 hn hpn hL k18 k19) ?_
        rintro Z ⟨e1, e2, e3, e4⟩
        exact ⟨by rw [en]; exact e1, e2, e3, frQ_tr kf e4⟩
      · rw [if_neg hL]
        refine wp_pos rfl ?_
        refine wp_bnde (isN_M hbp) ?_
        by_cases hG : isDg (b p) = true
        · rw [if_pos hG]
          refine wp_neg n10 (wp_nxt (wp_nxt ?_))
          have en : tnx b n p = eDg b n p := by unfold tnx; rw [if_pos hpn, if_neg hL, if_pos hG]
          have ek : tkd b n p = 2 := by unfold tkd; rw [if_pos hpn, if_neg hL, if_pos hG]
          have f2 : frQ S2 (sI (sI S2 0 20 2) 0 21 0) := frQ_tr (frQ_s (by omega)) (frQ_s (by omega))
          refine wp_mono (num_M (p := p) (TP_q hT2 f2) hb2 hn (by omega) (by rw [sI1, if_neg (by omega), sI1, if_neg (by omega)]; exact k18) (by rw [sI1, if_neg (by omega), sI1, if_neg (by omega)]; exact k19) (by rw [sI1, if_neg (by omega), sI1, if_pos ⟨rfl, rfl⟩]) (by rw [sI1, if_pos ⟨rfl, rfl⟩])) ?_
          rintro Z ⟨e1, e2, e3, e4, e5⟩
          refine ⟨by rw [en]; exact e1, e2, ?_, frQ_tr kf (frQ_tr f2 e5)⟩
          unfold tkM
          rw [ek]
          exact ⟨fun z => by omega, fun z => by omega, fun _ => ⟨e3, e4⟩, fun z => by omega, fun z => by omega, fun z => by omega⟩
        · rw [if_neg hG]
          refine wp_pos rfl ?_
          refine wp_call (sign_M hT2 hb2 hn hpn hL hG k18 k19) ?_
          rintro Z ⟨e1, e2, e3, e4⟩
          exact wp_some ⟨e1, e2, e3, frQ_tr kf e4⟩
  exact key (n - p0) p0 FU S (by omega) (by show _ < 2000; omega) h18 (frQ_rf _)
end TKE
