/-! ===== the reference's reader: E, level by level ===== -/
section REXP3
variable {h g : PH} {T : Int → Int} {L p o c fr : Int} {st out : List Int} {r : SR} {R : Nat → PH → (PH → Prop) → Prop}
theorem PostE.of {l p0 p1 c0 c1 : Int} (P : PostE g T L r fr st o l p0 c0) (hp : p1 ≤ p0) (hc : c1 ≤ c0) : PostE g T L r fr st o l p1 c1 := by
  rcases P with F | ⟨e, out, c, p, n, E, b, t, hn, nm, lv⟩
  · exact Or.inl F
  · exact Or.inr ⟨e, out, c, p, n, E, by omega, t, hn, by omega, lv⟩
theorem rk_j (j : Int) : (j = 11 ∨ j = 12 → rk j = 6) ∧ (j = 9 ∨ j = 10 → rk j = 5) ∧ rk 0 = 1 ∧ rk 1 = 2 ∧ rk 2 = 3 := by
  refine ⟨?_, ?_, by decide, by decide, by decide⟩ <;> rintro (rfl | rfl) <;> decide
theorem tok_sgn (hT : ∀ k, 0 ≤ T k ∧ T k < 256) (hp : 0 ≤ p ∧ p ≤ L) (k5 : tK T L p = 5) (hv : 256 ≤ tV T L p) : tV T L p = 256 ∨ tV T L p = 257 ∨ tV T L p = 258 := by
  unfold tK at k5
  unfold tV at *
  have r := run_rg (T := T) (f := blk) (by decide) hp.2
  replace r : p ≤ tS T L p ∧ tS T L p ≤ L := ⟨r.1, r.2.1⟩
  generalize tS T L p = q at *
  by_cases c0 : L ≤ q
  · rw [if_pos c0] at k5; omega
  rw [if_neg c0] at k5
  by_cases c1 : ltr (tat T L q) = true
  · rw [if_pos c1] at k5
    rcases kW_rg T L q with x | x | x <;> omega
  rw [if_neg c1] at k5 hv ⊢
  by_cases c2 : dgt (tat T L q) = true
  · rw [if_pos c2] at k5; omega
  rw [if_neg c2] at k5 hv ⊢
  have := tat_rg (L := L) hT q
  rcases sgV_hi (by omega) hv with x | x | x <;> omega
theorem m_product {m : Int} (hT : ∀ k, 0 ≤ T k ∧ T k < 256) (hL : L ≤ 700) (hR : ∀ st' o', top st' < 1 → IC (R 0) T L r fr 1 st' o' (m - 1) false) (hZ : PZ (R 0) r) (ht : top st < 6) : IC (w_X10_product R) T L r fr 6 st o m true := by
  intro h c out p n Q P hm hnt hq
  have S0 := P.2.1
  have ho := P.2.2.2.2.2.2.2.1
  have c0 : c = fr + out.length + no st := P.2.2.2.2.2.2.1.2.2.1
  have p0 := P.2.2.2.1
  unfold w_X10_product
  refine m_primary hR hZ h c out p n _ P hm hnt (fun g f PG => ?_)
  refine lp0_i (fun g => EF fr h g ∧ PostE g T L r fr st o 7 p c) muE ?_ g ⟨f, PG⟩
  clear PG f
  rintro kb g ⟨f, PG⟩ hn
  unfold w_X10_product_4
  rcases PG with F | ⟨e, out1, c1, p1, n1, E, hp1, t, hn1, nm, lv⟩
  · refine m_isSgnF F ?_
    rw [if_pos rfl]
    refine m_isSgnF F ?_
    rw [if_pos rfl]
    exact hq g f (Or.inl F)
  · rcases lv with ⟨q1, q2, q3⟩ | ⟨q1, -, -⟩
    rotate_left
    · omega
    have S := S0.ef f
    have ra := rkt_all T L p1
    have go : ∀ j v : Int, (j = 11 ∧ v = 42) ∨ (j = 12 ∧ v = 47) → tK T L p1 = 5 → tV T L p1 = v → jsg (tK T L p1) (tV T L p1) = j → w_X10_product_22 R Q kb g := fun j v hj k5 kv ej => by
      unfold w_X10_product_22
      rintro _ rfl
      have rj : rk j = 6 := (rk_j j).1 (by omega)
      refine m_core (W := w_X10_primary R) (j := j) (l := 7) (lo := 7) (nt := true) (m := m) (m_primary hR hZ) PZ_primary S e E (by omega) t hn1 q2 ho q3 (by omega) ej (by omega) (by omega) (by omega) (fun _ => by omega) (fun q hq' => Or.inl ⟨hq', by have := rkt_7 T L q; omega, by omega⟩) (fun x => x) ?_ (fun g2 f2 P2 => ?_)
      · rw [tc_val t (by omega) kv]
        rcases hj with ⟨rfl, rfl⟩ | ⟨rfl, rfl⟩ <;> rfl
      · have nx := nx_lt (T := T) (L := L) (p := p1) hT (by omega) (by omega)
        exact hn g2 ⟨f.tr f2, P2.of (by omega) (by omega)⟩ (mu_dec hT hL e (by omega) t (by omega) P2)
    refine m_isSgn e t hT (by omega) (n := 42) rfl (by omega) ?_
    cases a1 : isS T L p1 42 with
    | true =>
      have k := isS_iff.mp a1
      rw [if_neg (show ¬ z (bI true) = 0 by decide)]
      exact go 11 42 (Or.inl ⟨rfl, rfl⟩) k.1 k.2 (by rw [k.1, k.2]; rfl)
    | false =>
      rw [if_pos (show z (bI false) = 0 from rfl)]
      refine m_isSgn e t hT (by omega) (n := 47) rfl (by omega) ?_
      cases a2 : isS T L p1 47 with
      | true =>
        have k := isS_iff.mp a2
        rw [if_neg (show ¬ z (bI true) = 0 by decide)]
        exact go 12 47 (Or.inr ⟨rfl, rfl⟩) k.1 k.2 (by rw [k.1, k.2]; rfl)
      | false =>
        rw [if_pos (show z (bI false) = 0 from rfl)]
        have n1' := isS_no a1
        have n2' := isS_no a2
        exact hq g f (Or.inr ⟨e, out1, c1, p1, n1, E, hp1, t, hn1, nm, Or.inl ⟨by omega, q2, q3⟩⟩)
theorem m_sum {m : Int} (hT : ∀ k, 0 ≤ T k ∧ T k < 256) (hL : L ≤ 700) (hR : ∀ st' o', top st' < 1 → IC (R 0) T L r fr 1 st' o' (m - 1) false) (hZ : PZ (R 0) r) (ht : top st < 5) : IC (w_X10_sum R) T L r fr 5 st o m true := by
  intro h c out p n Q P hm hnt hq
  have S0 := P.2.1
  have ho := P.2.2.2.2.2.2.2.1
  have c0 : c = fr + out.length + no st := P.2.2.2.2.2.2.1.2.2.1
  have p0 := P.2.2.2.1
  unfold w_X10_sum
  refine m_product hT hL hR hZ (by omega) h c out p n _ P hm hnt (fun g f PG => ?_)
  refine lp0_i (fun g => EF fr h g ∧ PostE g T L r fr st o 6 p c) muE ?_ g ⟨f, PG⟩
  clear PG f
  rintro kb g ⟨f, PG⟩ hn
  unfold w_X10_sum_4
  rcases PG with F | ⟨e, out1, c1, p1, n1, E, hp1, t, hn1, nm, lv⟩
  · refine m_isSgnF F ?_
    rw [if_pos rfl]
    refine m_isSgnF F ?_
    rw [if_pos rfl]
    exact hq g f (Or.inl F)
  · rcases lv with ⟨q1, q2, q3⟩ | ⟨q1, -, -⟩
    rotate_left
    · omega
    have S := S0.ef f
    have ra := rkt_all T L p1
    have go : ∀ j v : Int, (j = 9 ∧ v = 43) ∨ (j = 10 ∧ v = 45) → tK T L p1 = 5 → tV T L p1 = v → jsg (tK T L p1) (tV T L p1) = j → w_X10_sum_22 R Q kb g := fun j v hj k5 kv ej => by
      unfold w_X10_sum_22
      rintro _ rfl
      have rj : rk j = 5 := (rk_j j).2.1 (by omega)
      refine m_core (W := w_X10_product R) (j := j) (l := 6) (lo := 6) (nt := true) (m := m) (m_product hT hL hR hZ (by show rk j < 6; omega)) PZ_product S e E (by omega) t hn1 q2 ho q3 (by omega) ej (by omega) (by omega) (by omega) (fun _ => by omega) (fun q hq' => Or.inl ⟨hq', by have := rkt_7 T L q; omega, by omega⟩) (fun x => x) ?_ (fun g2 f2 P2 => ?_)
      · rw [tc_val t (by omega) kv]
        rcases hj with ⟨rfl, rfl⟩ | ⟨rfl, rfl⟩ <;> rfl
      · have nx := nx_lt (T := T) (L := L) (p := p1) hT (by omega) (by omega)
        exact hn g2 ⟨f.tr f2, P2.of (by omega) (by omega)⟩ (mu_dec hT hL e (by omega) t (by omega) P2)
    refine m_isSgn e t hT (by omega) (n := 43) rfl (by omega) ?_
    cases a1 : isS T L p1 43 with
    | true =>
      have k := isS_iff.mp a1
      rw [if_neg (show ¬ z (bI true) = 0 by decide)]
      exact go 9 43 (Or.inl ⟨rfl, rfl⟩) k.1 k.2 (by rw [k.1, k.2]; rfl)
    | false =>
      rw [if_pos (show z (bI false) = 0 from rfl)]
      refine m_isSgn e t hT (by omega) (n := 45) rfl (by omega) ?_
      cases a2 : isS T L p1 45 with
      | true =>
        have k := isS_iff.mp a2
        rw [if_neg (show ¬ z (bI true) = 0 by decide)]
        exact go 10 45 (Or.inr ⟨rfl, rfl⟩) k.1 k.2 (by rw [k.1, k.2]; rfl)
      | false =>
        rw [if_pos (show z (bI false) = 0 from rfl)]
        have n1' := isS_no a1
        have n2' := isS_no a2
        exact hq g f (Or.inr ⟨e, out1, c1, p1, n1, E, hp1, t, hn1, nm, Or.inl ⟨by omega, q2, q3⟩⟩)
theorem m_negation {m : Int} (hT : ∀ k, 0 ≤ T k ∧ T k < 256) (hL : L ≤ 700) (hR : ∀ st' o', top st' < 1 → IC (R 0) T L r fr 1 st' o' (m - 1) false) (hZ : PZ (R 0) r) (hN : ∀ st' o', top st' ≤ 3 → IC (R 1) T L r fr 4 st' o' (m - 1) false) (hZN : PZ (R 1) r) (ht : top st ≤ 3) : IC (w_X10_negation R) T L r fr 4 st o m false := by
  intro h c out p n Q P hm hnt hq
  have P' := P
  obtain ⟨e, S, E, hp, t, hn, I, ho, er⟩ := P'
  have nums := I.nums
  have fr0 := E.2.2.2.1
  unfold w_X10_negation
  refine m_isWrd e t hT hp (n := 17) rfl (by omega) ?_
  cases a1 : isWd T L p 17 with
  | true =>
    have k := isWd_iff.mp a1
    have nx := nx_lt (T := T) (L := L) (p := p) hT hp (by omega)
    rw [if_neg (show ¬ z (bI true) = 0 by decide)]
    obtain ⟨n', en⟩ : ∃ n', n = n' + 1 := ⟨n - 1, by omega⟩
    rw [en] at er
    unfold sy at er
    rw [if_neg (fun x => by have := isS_iff.mp x; omega), if_pos ⟨a1, ht⟩] at er
    refine m_core0 (W := fun h Q => R 1 h Q) (j := 2) (l := 4) (lo := 4) (nt := false) (m := m - 1) (n' := n') (hN (2 :: st) o (by show rk 2 ≤ 3; decide)) hZN S e E hp t (by omega) (by omega) (by omega) (fun hc => I.not hc) ho er (fun _ => by omega) (by omega) (by omega) (by decide) (fun x => absurd x (by decide)) (fun q hq' => Or.inl ⟨hq', by have := rkt_7 T L q; have := rk_j 0; omega, by have := rk_j 0; omega⟩) (fun x => x) rfl (fun g f P2 => hq g f (P2.of (by omega) (by omega)))
  | false =>
    rw [if_pos (show z (bI false) = 0 from rfl)]
    refine m_sum hT hL hR hZ (by omega) h c out p n _ P hm (fun _ x => by rw [a1] at x; exact absurd x (by decide)) (fun g f PG => ?_)
    rcases PG with F | ⟨e1, out1, c1, p1, n1, E1, hp1, t1, hn1, nm, lv⟩
    · rw [if_neg F.ne]
      exact hq g f (Or.inl F)
    · rcases lv with ⟨q1, q2, q3⟩ | ⟨q1, -, -⟩
      rotate_left
      · omega
      have S1 := S.ef f
      have ra := rkt_all T L p1
      have tr := tok_rg (T := T) (L := L) (p := p1) hT (by omega)
      have mi := mk_iff tr.2.2.2.2.1
      have out4 : ¬ rkt T L p1 = 4 → Q g := fun x => hq g f (Or.inr ⟨e1, out1, c1, p1, n1, E1, hp1, t1, hn1, nm, Or.inl ⟨by omega, q2, q3⟩⟩)
      obtain ⟨u1, u2, u3, mm, u4, u5⟩ := id t1
      rw [e1, if_pos (show z 0 = 0 from rfl), u3]
      by_cases k5 : tK T L p1 = 5
      · have em : mm = tV T L p1 := u5.2 (by omega)
        have tv := tr.2.2.2.2.2.2.2.2 k5
        rw [if_pos (by rw [mi.2.2.2.1.mpr k5]; rfl), u4]
        have go : rkt T L p1 = 4 → w_X10_negation_87 R Q g := fun r4 => by
          unfold w_X10_negation_87
          rintro _ rfl
          generalize ej : jsg (tK T L p1) (tV T L p1) = j at *
          have jr := jsg_rg (tK T L p1) (tV T L p1)
          rw [ej] at jr
          have j1 : j ≠ -1 := fun x => by
            unfold rkt at r4
            rw [ej, if_pos x] at r4
            omega
          refine m_core (W := w_X10_sum R) (j := j) (l := 5) (lo := 4) (nt := true) (m := m) (m_sum hT hL hR hZ (by show rk j < 5; omega)) PZ_sum S1 e1 E1 (by omega) t1 hn1 q2 ho q3 (by omega) ej (by omega) (by omega) (by omega) (fun _ => by omega) (fun q hq' => ?_) (fun x => by omega) ?_ (fun g2 f2 P2 => hq g2 (f.tr f2) (P2.of (by have := nx_lt (T := T) (L := L) (p := p1) hT (by omega) (by omega); omega) (by omega)))
          · by_cases q4 : rkt T L q = 4
            · exact Or.inr ⟨by omega, by omega, q4⟩
            · exact Or.inl ⟨by omega, by omega, by omega⟩
          · rw [u4, em]
            congr 1
            omega
        by_cases v60 : mm = 60
        · rw [if_pos (by rw [v60]; rfl)]
          exact go (by omega)
        rw [if_neg (show ¬ z mm = 60 from z_ne (by omega) (by omega) (by decide) (by decide) v60)]
        by_cases v62 : mm = 62
        · rw [if_pos (by rw [v62]; rfl)]
          exact go (by omega)
        rw [if_neg (show ¬ z mm = 62 from z_ne (by omega) (by omega) (by decide) (by decide) v62)]
        by_cases v61 : mm = 61
        · rw [if_pos (by rw [v61]; rfl)]
          exact go (by omega)
        rw [if_neg (show ¬ z mm = 61 from z_ne (by omega) (by omega) (by decide) (by decide) v61), zn_256]
        by_cases v256 : 256 ≤ mm
        · rw [if_pos (by rw [z_le (by omega) (by omega) (by omega) (by omega)]; omega)]
          exact go (by have := tok_sgn (T := T) (L := L) (p := p1) hT (by omega) k5 (by omega); omega)
        · rw [if_neg (by rw [z_le (by omega) (by omega) (by omega) (by omega)]; omega)]
          exact out4 (by omega)
      · rw [if_neg (show ¬ z (mk (tK T L p1)) = 3 from z_ne (by omega) (by omega) (by decide) (by decide) (fun x => k5 (mi.2.2.2.1.mp x)))]
        exact out4 (by omega)
theorem m_conjunction {m : Int} (hT : ∀ k, 0 ≤ T k ∧ T k < 256) (hL : L ≤ 700) (hR : ∀ st' o', top st' < 1 → IC (R 0) T L r fr 1 st' o' (m - 1) false) (hZ : PZ (R 0) r) (hN : ∀ st' o', top st' ≤ 3 → IC (R 1) T L r fr 4 st' o' (m - 1) false) (hZN : PZ (R 1) r) (ht : top st < 2) : IC (w_X10_conjunction R) T L r fr 2 st o m false := by
  intro h c out p n Q P hm hnt hq
  have S0 := P.2.1
  have ho := P.2.2.2.2.2.2.2.1
  have c0 : c = fr + out.length + no st := P.2.2.2.2.2.2.1.2.2.1
  have p0 := P.2.2.2.1
  have rj := rk_j 0
  unfold w_X10_conjunction
  refine m_negation hT hL hR hZ hN hZN (by omega) h c out p n _ P hm hnt (fun g f PG => ?_)
  refine lp0_i (fun g => EF fr h g ∧ PostE g T L r fr st o 4 p c) muE ?_ g ⟨f, PG⟩
  clear PG f
  rintro kb g ⟨f, PG⟩ hn
  unfold w_X10_conjunction_4
  rcases PG with F | ⟨e, out1, c1, p1, n1, E, hp1, t, hn1, nm, lv⟩
  · refine m_isWrdF F ?_
    rw [if_pos rfl]
    exact hq g f (Or.inl F)
  · have S := S0.ef f
    have ra := rkt_all T L p1
    refine m_isWrd e t hT (by omega) (n := 16) rfl (by omega) ?_
    cases a1 : isWd T L p1 16 with
    | true =>
      have k := isWd_iff.mp a1
      rw [if_neg (show ¬ z (bI true) = 0 by decide)]
      rcases lv with ⟨q1, q2, q3⟩ | ⟨q1, q2, q3⟩
      rotate_left
      · omega
      refine m_core (W := w_X10_negation R) (j := 1) (l := 4) (lo := 4) (nt := false) (m := m) (m_negation hT hL hR hZ hN hZN (by show rk 1 ≤ 3; decide)) PZ_negation S e E (by omega) t hn1 q2 ho q3 (by omega) (by rw [k.1, k.2]; rfl) (by omega) (by omega) (by omega) (fun x => absurd x (by decide)) (fun q hq' => Or.inl ⟨hq', by have := rkt_7 T L q; omega, by omega⟩) (fun x => x) rfl (fun g2 f2 P2 => ?_)
      have nx := nx_lt (T := T) (L := L) (p := p1) hT (by omega) (by omega)
      exact hn g2 ⟨f.tr f2, P2.of (by omega) (by omega)⟩ (mu_dec hT hL e (by omega) t (by omega) P2)
    | false =>
      rw [if_pos (show z (bI false) = 0 from rfl)]
      have n1' := isW_no a1
      refine hq g f (Or.inr ⟨e, out1, c1, p1, n1, E, hp1, t, hn1, nm, ?_⟩)
      rcases lv with ⟨q1, q2, q3⟩ | ⟨q1, q2, q3⟩
      · exact Or.inl ⟨by omega, q2, q3⟩
      · exact Or.inr ⟨by omega, q2, q3⟩
theorem m_expression {m : Int} (hT : ∀ k, 0 ≤ T k ∧ T k < 256) (hL : L ≤ 700) (hR : ∀ st' o', top st' < 1 → IC (R 0) T L r fr 1 st' o' (m - 1) false) (hZ : PZ (R 0) r) (hN : ∀ st' o', top st' ≤ 3 → IC (R 1) T L r fr 4 st' o' (m - 1) false) (hZN : PZ (R 1) r) (ht : top st < 1) : IC (w_X10_expression R) T L r fr 1 st o m false := by
  intro h c out p n Q P hm hnt hq
  have S0 := P.2.1
  have ho := P.2.2.2.2.2.2.2.1
  have c0 : c = fr + out.length + no st := P.2.2.2.2.2.2.1.2.2.1
  have p0 := P.2.2.2.1
  have rj := rk_j 0
  unfold w_X10_expression
  refine m_conjunction hT hL hR hZ hN hZN (by omega) h c out p n _ P hm hnt (fun g f PG => ?_)
  refine lp0_i (fun g => EF fr h g ∧ PostE g T L r fr st o 2 p c) muE ?_ g ⟨f, PG⟩
  clear PG f
  rintro kb g ⟨f, PG⟩ hn
  unfold w_X10_expression_4
  rcases PG with F | ⟨e, out1, c1, p1, n1, E, hp1, t, hn1, nm, lv⟩
  · refine m_isWrdF F ?_
    rw [if_pos rfl]
    exact hq g f (Or.inl F)
  · have S := S0.ef f
    have ra := rkt_all T L p1
    refine m_isWrd e t hT (by omega) (n := 15) rfl (by omega) ?_
    cases a1 : isWd T L p1 15 with
    | true =>
      have k := isWd_iff.mp a1
      rw [if_neg (show ¬ z (bI true) = 0 by decide)]
      rcases lv with ⟨q1, q2, q3⟩ | ⟨q1, q2, q3⟩
      rotate_left
      · omega
      refine m_core (W := w_X10_conjunction R) (j := 0) (l := 2) (lo := 2) (nt := false) (m := m) (m_conjunction hT hL hR hZ hN hZN (by show rk 0 < 2; decide)) PZ_conjunction S e E (by omega) t hn1 q2 ho q3 (by omega) (by rw [k.1, k.2]; rfl) (by omega) (by omega) (by omega) (fun x => absurd x (by decide)) (fun q hq' => Or.inl ⟨hq', by have := rkt_7 T L q; omega, by omega⟩) (fun x => by omega) rfl (fun g2 f2 P2 => ?_)
      have nx := nx_lt (T := T) (L := L) (p := p1) hT (by omega) (by omega)
      exact hn g2 ⟨f.tr f2, P2.of (by omega) (by omega)⟩ (mu_dec hT hL e (by omega) t (by omega) P2)
    | false =>
      rw [if_pos (show z (bI false) = 0 from rfl)]
      have n1' := isW_no a1
      refine hq g f (Or.inr ⟨e, out1, c1, p1, n1, E, hp1, t, hn1, nm, ?_⟩)
      rcases lv with ⟨q1, q2, q3⟩ | ⟨q1, q2, q3⟩
      · exact Or.inl ⟨by omega, q2, q3⟩
      · exact Or.inr ⟨by omega, q2, q3⟩
theorem PZ_RR (k : Nat) (m : Nat) : PZ (RR (m + 1) k) r := fun h Q F hq => by
  show (if k = 0 then w_X10_expression (RR m) h Q else w_X10_negation (RR m) h Q)
  by_cases c : k = 0
  · rw [if_pos c]; exact PZ_expression h Q F hq
  · rw [if_neg c]; exact PZ_negation h Q F hq
/-- the recursion: one call deeper for each knot and each open sign -/
theorem m_RR (hT : ∀ k, 0 ≤ T k ∧ T k < 256) (hL : L ≤ 700) : ∀ m : Nat, (∀ st o, top st < 1 → IC (RR (m + 1) 0) T L r fr 1 st o ((m : Int) + 1) false) ∧ (∀ st o, top st ≤ 3 → IC (RR (m + 1) 1) T L r fr 4 st o ((m : Int) + 1) false)
  | 0 => by
    have no1 : ∀ (W : PH → (PH → Prop) → Prop) (l : Int) (st : List Int) (o : Int), IC W T L r fr l st o ((0 : Nat) + 1 : Int) false := fun W l st o h c out p n Q P hm => by
      have c0 := P.2.2.2.2.2.2.1.2.2.2.1
      have ho := P.2.2.2.2.2.2.2.1
      exfalso
      omega
    exact ⟨fun st o _ => no1 _ 1 st o, fun st o _ => no1 _ 4 st o⟩
  | m + 1 => by
    have ih := m_RR hT hL m
    have em : (((m + 1 : Nat) : Int) + 1 - 1) = (m : Int) + 1 := by omega
    have h0 : ∀ st' o', top st' < 1 → IC (RR (m + 1) 0) T L r fr 1 st' o' (((m + 1 : Nat) : Int) + 1 - 1) false := by rw [em]; exact ih.1
    have h1 : ∀ st' o', top st' ≤ 3 → IC (RR (m + 1) 1) T L r fr 4 st' o' (((m + 1 : Nat) : Int) + 1 - 1) false := by rw [em]; exact ih.2
    exact ⟨fun st o ht => m_expression (R := RR (m + 1)) hT hL h0 (PZ_RR 0 m) h1 (PZ_RR 1 m) ht, fun st o ht => m_negation (R := RR (m + 1)) hT hL h0 (PZ_RR 0 m) h1 (PZ_RR 1 m) ht⟩
/-- E as the reference reads it -/
theorem m_expr {Q : PH → Prop} (hT : ∀ k, 0 ≤ T k ∧ T k < 256) (hL : L ≤ 700) {n : Nat} (P : PreE h T L r fr [] 0 c [] p n) (hc : 0 ≤ c) (hq : ∀ g, EF fr h g → PostE g T L r fr [] 0 1 p c → Q g) : w_expr h Q := by
  refine ⟨74, by omega, ?_⟩
  exact (m_RR (r := r) (fr := fr) hT hL 73).1 [] 0 (by show (0 : Int) < 1; decide) h c [] p n Q P (by omega) (fun x => absurd x (by decide)) hq
end REXP3
