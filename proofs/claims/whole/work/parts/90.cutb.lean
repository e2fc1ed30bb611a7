/-! PURE 41: the text cut into tokens, by the class: the end -/
section CUU
variable {C M S : Mem} {b : Nat → Nat} {n p q m : Nat}
theorem pk_C {x y : Nat} (hx : x < 256) (hy : y < 256) : f_X6_pairKind (nI x) (nI y) S = some (nI (pkN x y), S) := by
  have e : ∀ k, k < 256 → ∀ z, z < 256 → (nI z = nI k ↔ z = k) := fun k hk z hz => nI_eq (by omega) (by omega)
  unfold f_X6_pairKind pkN
  have e60 : nI x = (60 : Int32) ↔ x = 60 := e 60 (by omega) x hx
  have e62 : nI x = (62 : Int32) ↔ x = 62 := e 62 (by omega) x hx
  have y61 : nI y = (61 : Int32) ↔ y = 61 := e 61 (by omega) y hy
  have y62 : nI y = (62 : Int32) ↔ y = 62 := e 62 (by omega) y hy
  simp only [e60, e62, y61, y62]
  by_cases h1 : x = 60
  · rw [if_pos h1, if_pos h1]
    by_cases h2 : y = 61
    · rw [if_pos h2, if_pos h2]; rfl
    · rw [if_neg h2, if_neg h2]
      by_cases h3 : y = 62
      · rw [if_pos h3, if_pos h3]; rfl
      · rw [if_neg h3, if_neg h3]; rfl
  · rw [if_neg h1, if_neg h1]
    by_cases h2 : x = 62
    · rw [if_pos h2, if_pos h2]
      by_cases h3 : y = 61
      · rw [if_pos h3, if_pos h3]; rfl
      · rw [if_neg h3, if_neg h3]; rfl
    · rw [if_neg h2, if_neg h2]; rfl
def sgP (v0 : Int32) : Int32 := if v0 = 40 then 5 else if v0 = 41 then 6 else if v0 = 42 then 15 else if v0 = 43 then 13 else if v0 = 45 then 14 else if v0 = 47 then 16 else if v0 = 59 then 4 else if v0 = 60 then 7 else if v0 = 61 then 9 else if v0 = 62 then 12 else 1
theorem sgP_N : ∀ x, x < 256 → sgP (nI x) = nI (skN x) := by decide +kernel
theorem sg_P (v : Int32) : f_X6_signKind v S = some (sgP v, S) := by
  unfold f_X6_signKind sgP
  by_cases h1 : v = 40; · simp [h1]
  by_cases h2 : v = 41; · simp [h2]
  by_cases h3 : v = 42; · simp [h3]
  by_cases h4 : v = 43; · simp [h4]
  by_cases h5 : v = 45; · simp [h5]
  by_cases h6 : v = 47; · simp [h6]
  by_cases h7 : v = 59; · simp [h7]
  by_cases h8 : v = 60; · simp [h8]
  by_cases h9 : v = 61; · simp [h9]
  by_cases h0 : v = 62; · simp [h0]
  simp [h1, h2, h3, h4, h5, h6, h7, h8, h9, h0]
theorem sg_C {x : Nat} (hx : x < 256) : f_X6_signKind (nI x) S = some (nI (skN x), S) := by rw [sg_P, sgP_N x hx]
theorem pkN_b (x y : Nat) : pkN x y ≤ 11 := by
  unfold pkN
  repeat' split
  all_goals omega
theorem cutSign_C (hb : ∀ i, i < n → S.1 2 i = nI (b i)) (hb2 : ∀ i, i < n → b i < 256) (hn : n ≤ 700) (hp : p < n) {P : Int32 × Mem → Prop} (h : wp ((f_X6_add (nI (sgK b n p)) (nI p) (nI 0) S).bind fun S' => some (nI (sgE b n p), S')) P) : wp (f_X6_cutSign 2 700 (nI p) (nI n) S) P := by
  have hy : yAt b n p < 256 := by
    unfold yAt
    by_cases z : p + 1 < n
    · rw [if_pos z]; exact hb2 _ z
    · rw [if_neg z]; omega
  have go : wp (f_X6_cutSign_16 2 700 (nI p) (nI (yAt b n p)) S) P := by
    unfold f_X6_cutSign_16
    refine wp_rd p rfl (by omega) (hb p hp) ?_
    refine wp_bnde (pk_C (hb2 p hp) hy) ?_
    have hpk := pkN_b (b p) (yAt b n p)
    unfold sgK sgE at h
    refine wp_if (fun z => ?_) (fun z => ?_)
    · have z : pkN (b p) (yAt b n p) = 1 := (nI_eq (b := 1) (by omega) (by omega)).mp z
      rw [if_pos z, if_pos z] at h
      refine wp_rd p rfl (by omega) (hb p hp) ?_
      refine wp_bnde (sg_C (hb2 p hp)) ?_
      unfold f_X6_cutSign_46
      rw [z]
      simp only [if_pos (show nI 1 = (1 : Int32) from rfl)]
      rw [nI_1]
      exact h
    · have z' : ¬ pkN (b p) (yAt b n p) = 1 := fun y => z (by rw [y]; rfl)
      rw [if_neg z', if_neg z'] at h
      unfold f_X6_cutSign_46
      simp only [if_neg z]
      rw [show (2 : Int32) = nI 2 from rfl, nI_add]
      exact h
  unfold f_X6_cutSign
  rw [nI_1]
  unfold yAt at go
  refine wp_if (fun z => ?_) (fun z => ?_)
  · have z : n ≤ p + 1 := (nI_leI (by omega) (by omega)).mp z
    rw [if_neg (by omega)] at go
    exact go
  · have z : p + 1 < n := by
      rcases Nat.lt_or_ge (p + 1) n with y | y
      · exact y
      · exact absurd (nI_le y (by omega)) z
    rw [if_pos z] at go
    exact wp_rd (p + 1) rfl (by omega) (hb _ z) go
theorem sk_bl (hp : p < n) (h : isBl (b p) = true) : skB b n p = skB b n (p + 1) := by
  unfold skB
  rw [show n - p = (n - (p + 1)) + 1 by omega]
  show (if isBl (b p) = true then spn isBl b (n - (p + 1)) (p + 1) else p) = _
  rw [if_pos h]
theorem sk_no (hp : p < n) (h : ¬ isBl (b p) = true) : skB b n p = p := by
  unfold skB
  rw [show n - p = (n - (p + 1)) + 1 by omega]
  show (if isBl (b p) = true then spn isBl b (n - (p + 1)) (p + 1) else p) = _
  rw [if_neg h]
theorem sk_end : skB b n n = n := by
  unfold skB
  rw [Nat.sub_self]
  rfl
/-- the tokens cut -/
def cutR (C S : Mem) (b : Nat → Nat) (n : Nat) : Prop := ∃ m, m ≤ n ∧ ps b n m = n ∧ S.1 4 3 = nI (m + 1) ∧ (∀ i, i < m → ps b n i < n ∧ S.1 5 i = nI (tkd b n (ps b n i)) ∧ S.1 6 i = nI (ps b n i) ∧ S.1 7 i = nI (tvC b n (ps b n i))) ∧ S.1 5 m = nI 0 ∧ S.1 6 m = nI n ∧ frK C S
theorem cut18_C (hb : ∀ i, i < n → C.1 2 i = nI (b i)) (hb2 : ∀ i, i < n → b i < 256) (hn : n ≤ 700) : ∀ D p m v fuel S, p + D = n → D < fuel → v ≤ p → m ≤ p → skB b n p = ps b n m → stC S b n m → frK C S → wp (f_X6_cut_18 2 700 fuel (nI n) (nI p) (nI v) S) (fun S' => cutR C S' b n) := by
  intro D
  induction D using Nat.strongRecOn with
  | ind D IH =>
    intro p m v fuel S hD hf hv hm hps hst hfr
    obtain ⟨fu, rfl⟩ : ∃ f, fuel = f + 1 := ⟨fuel - 1, by omega⟩
    unfold f_X6_cut_18
    have fin : p = n → wp (f_X6_cut_116 2 700 (nI n) S) (fun S' => cutR C S' b n) := by
      intro e
      subst e
      rw [sk_end] at hps
      unfold f_X6_cut_116
      refine wp_call (addK_C hst.1 (by omega) _ _ _) ?_
      rintro S' ⟨a1, a2, a3, a4, a5, a6⟩
      refine wp_some ⟨m, hm, hps.symm, a1, fun i hi => ?_, a2, a3, frK_tr hfr a6⟩
      obtain ⟨c1, c2, c3⟩ := a5 i (by omega)
      rw [c1, c2, c3]
      exact hst.2 i hi
    refine wp_if (fun z => ?_) (fun z => ?_)
    · have z : 700 ≤ v := (nI_leI (by omega) (by omega)).mp (show nI 700 ≤ nI v from z)
      exact fin (by omega)
    refine wp_if (fun z => ?_) (fun z => ?_)
    · have z : n ≤ p := (nI_leI (by omega) (by omega)).mp z
      exact fin (by omega)
    have hpn : p < n := by
      rcases Nat.lt_or_ge p n with y | y
      · exact y
      · exact absurd (nI_le y (by omega)) z
    have hbS : ∀ i, i < n → S.1 2 i = nI (b i) := fun i hi => by rw [hfr.1 2 i (by omega) (by omega) (by omega) (by omega)]; exact hb i hi
    refine wp_rd p rfl (by omega) (hbS p hpn) ?_
    have hbp := hb2 p hpn
    have blank : isBl (b p) = true → wp (f_X6_cut_18 2 700 fu (nI n) (nI p + 1) (nI v + 1) S) (fun S' => cutR C S' b n) := by
      intro hbl
      rw [nI_1, nI_1]
      exact IH (n - (p + 1)) (by omega) (p + 1) m (v + 1) fu S (by omega) (by omega) (by omega) (by omega) (by rw [← sk_bl hpn hbl]; exact hps) hst hfr
    refine wp_if (fun z => ?_) (fun z10 => ?_)
    · have z : b p = 10 := (nI_eq (b := 10) (by omega) (by omega)).mp z
      exact blank (by unfold isBl; simp [z])
    refine wp_if (fun z => ?_) (fun z32 => ?_)
    · have z : b p = 32 := (nI_eq (b := 32) (by omega) (by omega)).mp z
      exact blank (by unfold isBl; simp [z])
    have hnb : ¬ isBl (b p) = true := by
      unfold isBl
      simp only [decide_eq_true_eq]
      rintro (e | e)
      · exact z10 (by rw [e]; rfl)
      · exact z32 (by rw [e]; rfl)
    rw [sk_no hpn hnb] at hps
    have hx := tnx_lt (b := b) hpn
    have next : ∀ S1, stC S1 b n (m + 1) → frK C S1 → wp (f_X6_cut_18 2 700 fu (nI n) (nI (tnx b n p)) (nI v + 1) S1) (fun S' => cutR C S' b n) := by
      intro S1 h1 f1
      rw [nI_1]
      exact IH (n - tnx b n p) (by omega) (tnx b n p) (m + 1) (v + 1) fu S1 (by omega) (by omega) (by omega) (by omega) (by show _ = skB b n (tnx b n (ps b n m)); rw [← hps]) h1 f1
    refine wp_bnde (isL_C hbp) ?_
    by_cases hL : isLt (b p) = true
    · rw [if_pos hL]
      refine wp_neg n10 ?_
      have en : tnx b n p = eLt b n p := by unfold tnx; rw [if_pos hpn, if_pos hL]
      have ek : tkd b n p = if eLt b n p - p ≤ 6 then wkN (cdW b p (eLt b n p) 6) else 1 := by unfold tkd; rw [if_pos hpn, if_pos hL]
      have ev : cdW b p (eLt b n p) 6 = tvC b n p := by unfold tvC; rw [if_pos hL]
      have wt : wp (f_X6_cutWord 2 700 (nI p) (nI n) S) (fun r => r.1 = nI (tnx b n p) ∧ stC r.2 b n (m + 1) ∧ frK S r.2) := by
        refine cutWord_C hbS hb2 hn (by omega) (q := eLt b n p) rfl ?_
        unfold f_X6_cutWord_60
        rw [pk_sub (by rw [← en]; omega)]
        have l3 := (spn_le isLt b (n - p) p).2.2
        have hcd : cdW b p (eLt b n p) 6 < 2 ^ 30 := by
          have := cd_small (b := b) (p := p) (q := eLt b n p) l3 6
          exact this
        have fin2 : ∀ k, k = tkd b n p → wp (f_X6_cutWord_79 2 700 (nI p) (nI (eLt b n p)) (nI (cdW b p (eLt b n p) 6)) (nI k) S) (fun r => r.1 = nI (tnx b n p) ∧ stC r.2 b n (m + 1) ∧ frK S r.2) := by
          intro k hk
          unfold f_X6_cutWord_79
          refine wp_call (addT_C hst hps.symm hpn (by omega) hk ev) ?_
          rintro S1 ⟨h1, h2⟩
          exact wp_some ⟨by rw [en], h1, h2⟩
        refine wp_if (fun z => ?_) (fun z => ?_)
        · have z : eLt b n p - p ≤ 6 := (nI_leI (by rw [← en]; omega) (by omega)).mp (show nI _ ≤ nI 6 from z)
          refine wp_bnd (kind_C hcd) ?_
          rintro r S1 ⟨e1, kind, e2, e3⟩
          have e1 : S1 = S := e1
          have e2 : r = nI kind := e2
          subst e1
          subst e2
          exact fin2 kind (by rw [ek, if_pos z]; exact wkP_e e3)
        · have z : ¬ eLt b n p - p ≤ 6 := fun y => z (show nI _ ≤ nI 6 from nI_le y (by omega))
          exact fin2 1 (by rw [ek, if_neg z])
      refine wp_bnd wt ?_
      rintro r S1 ⟨e1, e2, e3⟩
      have e1 : r = nI (tnx b n p) := e1
      rw [e1]
      exact next S1 e2 (frK_tr hfr e3)
    · rw [if_neg hL]
      refine wp_pos rfl ?_
      refine wp_bnde (isD_C hbp) ?_
      by_cases hG : isDg (b p) = true
      · rw [if_pos hG]
        refine wp_neg n10 ?_
        have en : tnx b n p = eDg b n p := by unfold tnx; rw [if_pos hpn, if_neg hL, if_pos hG]
        have ek : 2 = tkd b n p := by unfold tkd; rw [if_pos hpn, if_neg hL, if_pos hG]
        have ev : nvC b p (eDg b n p - p) = tvC b n p := by unfold tvC; rw [if_neg hL, if_pos hG]
        have wt : wp (f_X6_cutNumber 2 700 (nI p) (nI n) S) (fun r => r.1 = nI (tnx b n p) ∧ stC r.2 b n (m + 1) ∧ frK S r.2) := by
          refine cutNum_C hbS hb2 hn (by omega) (q := eDg b n p) rfl ?_
          unfold f_X6_cutNumber_48
          refine wp_call (addT_C hst hps.symm hpn (by omega) ek ev) ?_
          rintro S1 ⟨h1, h2⟩
          exact wp_some ⟨by rw [en], h1, h2⟩
        refine wp_bnd wt ?_
        rintro r S1 ⟨e1, e2, e3⟩
        have e1 : r = nI (tnx b n p) := e1
        rw [e1]
        exact next S1 e2 (frK_tr hfr e3)
      · rw [if_neg hG]
        refine wp_pos rfl ?_
        have en : tnx b n p = sgE b n p := by unfold tnx; rw [if_pos hpn, if_neg hL, if_neg hG]
        have ek : sgK b n p = tkd b n p := by unfold tkd; rw [if_pos hpn, if_neg hL, if_neg hG]
        have ev : 0 = tvC b n p := by unfold tvC; rw [if_neg hL, if_neg hG]
        have wt : wp (f_X6_cutSign 2 700 (nI p) (nI n) S) (fun r => r.1 = nI (tnx b n p) ∧ stC r.2 b n (m + 1) ∧ frK S r.2) := by
          refine cutSign_C hbS hb2 hn hpn ?_
          refine wp_call (addT_C hst hps.symm hpn (by omega) ek ev) ?_
          rintro S1 ⟨h1, h2⟩
          exact wp_some ⟨by rw [en], h1, h2⟩
        refine wp_bnd wt ?_
        rintro r S1 ⟨e1, e2, e3⟩
        have e1 : r = nI (tnx b n p) := e1
        rw [e1]
        exact next S1 e2 (frK_tr hfr e3)
theorem cut_C (hb : ∀ i, i < n → C.1 2 i = nI (b i)) (hb2 : ∀ i, i < n → b i < 256) (hn : n ≤ 700) : wp (f_X6_cut 2 700 (nI n) C) (fun S' => cutR C S' b n) := by
  unfold f_X6_cut
  have em : f_J9_min_7cf53 (nI n) (nI 700) C = some (nI n, C) := by
    unfold f_J9_min_7cf53
    rw [if_neg (Int32.not_lt.mpr (nI_le hn (by omega)))]
  refine wp_bnde em (wp_nxt ?_)
  have f0 : frK C (sI C 4 3 0) := ⟨fun c i a1 _ _ _ => by rw [sI1, if_neg a1], rfl⟩
  exact cut18_C hb hb2 hn n 0 0 0 FU (sI C 4 3 0) (by omega) (by show n < 2000; omega) (by omega) (by omega) rfl ⟨by rw [sI1, if_pos ⟨rfl, rfl⟩]; rfl, fun i hi => absurd hi (Nat.not_lt_zero i)⟩ f0
end CUU
