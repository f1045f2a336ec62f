def nm6 (x1 x2 x3 x4 x5 x6 : Int) : Int → Int := fun i => if i = 0 then x1 else if i = 1 then x2 else if i = 2 then x3 else if i = 3 then x4 else if i = 4 then x5 else x6
def LX (h : PH) (t : Nat) (ks : List Int) : Prop := gI h t 3 = z ks.length ∧ (∀ i : Nat, i < ks.length → gI h (t + 1) i = z (kat ks i)) ∧ gI h t 4 = z (if -3 ∈ ks then 1 else 0)
theorem lv_nil (nm : Int → Int) : lv nm [] = none := rfl
theorem lv_ev {nm : Int → Int} {ks : List Int} {v : Int} {r : List Int} (h : evl nm ks [] = some (v :: r)) : lv nm ks = some v := by unfold lv; rw [h]; rfl
theorem lv_no {nm : Int → Int} {ks : List Int} (h : evl nm ks [] = none) : lv nm ks = none := by unfold lv; rw [h]; rfl
theorem nm6_bd {x1 x2 x3 x4 x5 x6 : Int} (b1 : -100000 ≤ x1 ∧ x1 ≤ 100000) (b2 : -100000 ≤ x2 ∧ x2 ≤ 100000) (b3 : -100000 ≤ x3 ∧ x3 ≤ 100000) (b4 : -100000 ≤ x4 ∧ x4 ≤ 100000) (b5 : -100000 ≤ x5 ∧ x5 ≤ 100000) (b6 : -100000 ≤ x6 ∧ x6 ≤ 100000) (i : Int) : bd (nm6 x1 x2 x3 x4 x5 x6 i) := by
  unfold nm6 bd
  repeat' split
  all_goals omega
set_option maxHeartbeats 4000000 in
theorem x_value {t : Nat} {ks : List Int} {x1 x2 x3 x4 x5 x6 : Int} {h : PH} {Q : Int64 → PH → Prop} (L : LX h t ks) (W : Wf ks)
    (b1 : -100000 ≤ x1 ∧ x1 ≤ 100000) (b2 : -100000 ≤ x2 ∧ x2 ≤ 100000) (b3 : -100000 ≤ x3 ∧ x3 ≤ 100000) (b4 : -100000 ≤ x4 ∧ x4 ≤ 100000) (b5 : -100000 ≤ x5 ∧ x5 ≤ 100000) (b6 : -100000 ≤ x6 ∧ x6 ≤ 100000)
    (hq : ∀ g, (∀ c k, ¬ (c = t + 2 ∨ c = t + 3) → At h g c k) → Q (ey (lv (nm6 x1 x2 x3 x4 x5 x6) ks)) g) : w_X1_value t (z x1) (z x2) (z x3) (z x4) (z x5) (z x6) h Q := by
  unfold w_X1_value
  intro h1 e1 h2 e2 h3 e3 h4 e4 h5 e5 h6 e6
  have hn : ∀ i : Int, 0 ≤ i → i < 6 → gJ h6 (t + 3) i.toNat = zl (nm6 x1 x2 x3 x4 x5 x6 i) := by
    intro i a b
    have hi : i = 0 ∨ i = 1 ∨ i = 2 ∨ i = 3 ∨ i = 4 ∨ i = 5 := by omega
    subst e1 e2 e3 e4 e5 e6
    simp only [iN_0, iN_1, iN_2, iN_3, iN_4, iN_5]
    rcases hi with rfl | rfl | rfl | rfl | rfl | rfl <;> simp [gJ_sJ, nm6] <;> exact zl_of (by omega) (by omega)
  have hf : ∀ c k, ¬ (c = t + 2 ∨ c = t + 3) → At h h6 c k := by
    intro c k hc
    subst e1 e2 e3 e4 e5 e6
    exact ((((((At.rf h c k).sJ (by omega)).sJ (by omega)).sJ (by omega)).sJ (by omega)).sJ (by omega)).sJ (by omega)
  clear e1 e2 e3 e4 e5 e6
  have hnb := nm6_bd b1 b2 b3 b4 b5 b6
  revert hn hnb hq
  generalize nm6 x1 x2 x3 x4 x5 x6 = nm
  intro hq hn hnb
  have hl64 := W.2.2
  refine for21 (ks.length : Int) (fun i top g => ∃ (j : Nat) (st : List Int), i = (j : Int) ∧ top = z ((st.length : Int) - 1) ∧ j ≤ ks.length ∧ evl nm ks [] = evl nm (ks.drop j) st ∧ (dpt (ks.drop j) st.length = some 1 ∨ ks = []) ∧ stk g (t + 2) st ∧ (∀ v ∈ st, bd v) ∧ st.length ≤ j ∧ (∀ c k, ¬ (c = t + 2) → At h6 g c k)) 0 rfl (by omega) (by omega) (by omega) ⟨0, [], rfl, rfl, by omega, rfl, ?_, trivial, by simp, by simp, fun c k _ => At.rf _ _ _⟩ ?_ ?_
  · rcases W.1 with e | e
    · exact Or.inr e
    · exact Or.inl e
  · rintro kb i top g hi0 hin ⟨j, st, rfl, rfl, hj, hev, hdp, hst, hbd, hlen, hfr⟩ hk
    have hjl : j < ks.length := by omega
    have hkok := W.2.1 _ (kat_in hjl)
    have hdp' : dpt (ks.drop j) st.length = some 1 := by
      rcases hdp with e | e
      · exact e
      · rw [e] at hjl; simp at hjl
    rw [drop_kat hjl] at hev hdp'
    have es : gI g t 3 = z ks.length := by rw [(hfr t 3 (by omega)).1, (hf t 3 (by omega)).1]; exact L.1
    have ek : gI g (t + 1) j = z (kat ks j) := by rw [(hfr (t + 1) j (by omega)).1, (hf (t + 1) j (by omega)).1]; exact L.2.1 j hjl
    have en : ∀ q : Int, 0 ≤ q → q < 6 → gJ g (t + 3) q.toNat = zl (nm q) := fun q a b => by rw [(hfr (t + 3) q.toNat (by omega)).2.1]; exact hn q a b
    have hfin : ∀ g', (∀ c k, ¬ (c = t + 2) → At g g' c k) → ∀ c k, ¬ (c = t + 2 ∨ c = t + 3) → At h g' c k := fun g' hg c k hc => ((hf c k hc).tr (hfr c k (by omega))).tr (hg c k (by omega))
    generalize kat ks j = k at *
    have hst2 : ∀ (st' : List Int) (g' : PH), kn nm k st = some st' → dpt (ks.drop (j + 1)) st'.length = some 1 → stk g' (t + 2) st' → (∀ v ∈ st', bd v) → st'.length ≤ j + 1 → (∀ c k, ¬ (c = t + 2) → At g g' c k) → kb (z ((st'.length : Int) - 1)) (z ((j : Int) + 1)) g' := by
      intro st' g' q1 q2 q3 q4 q5 q6
      refine hk _ _ ⟨j + 1, st', by omega, rfl, by omega, ?_, Or.inl q2, q3, q4, q5, fun c k hc => (hfr c k hc).tr (q6 c k hc)⟩
      rw [hev]
      show (kn nm k st).bind _ = _
      rw [q1]; rfl
    have push : ∀ v, bd v → kn nm k st = some (v :: st) → dpt (ks.drop (j + 1)) (st.length + 1) = some 1 → kb (z ((st.length : Int) - 1 + 1)) (z ((j : Int) + 1)) (sJ g (t + 2) ((st.length : Int) - 1 + 1).toNat (zl v)) := by
      intro v q1 q2 q3
      have := hst2 (v :: st) (sJ g (t + 2) st.length (zl v)) q2 q3 (stk_push hst) (by intro w hw; rcases List.mem_cons.mp hw with rfl | hw; exact q1; exact hbd w hw) (by simp; omega) (fun c k hc => (At.rf g c k).sJ (by omega))
      rw [show ((st.length : Int) - 1 + 1).toNat = st.length by omega]
      rw [List.length_cons] at this
      rw [show (st.length : Int) - 1 + 1 = ((st.length + 1 : Nat) : Int) - 1 by omega]
      exact this
    unfold kok at hkok
    unfold w_X1_value_57
    rw [es, if_neg (by rw [z_le (by omega) (by omega) (by omega) (by omega)]; omega), z_iN (by omega) (by omega)]
    refine ⟨z_in (by omega) (by omega) (by omega), ?_⟩
    rw [show ((j : Int)).toNat = j by omega, ek]
    rintro _ rfl _ rfl
    simp (disch := omega) only [zn_0, zn_1, zn_2, zn_3, zn_4, zn_5, zn_6, zn_7, zn_8, zn_9, zn_10, zn_11, zn_12, zn_13, zn_14, zn_15, zn_16, zn_17, zn_18, zn_19, zn_20, zn_21, zn_22, zn_23, zn_24, zn_36, zn_44, zn_47, zn_48, zn_64, z_add, z_sub, z_mul, z_neg, z_lt, z_le, z_eq, z_iN, z_in, z_mnI, z_mxI, true_and, and_true]
    by_cases k0 : 0 ≤ k
    · rw [if_pos k0]
      unfold w_X1_value_92
      simp (disch := omega) only [zn_0, zn_1, zn_2, zn_3, zn_4, zn_5, zn_6, zn_7, zn_8, zn_9, zn_10, zn_11, zn_12, zn_13, zn_14, zn_15, zn_16, zn_17, zn_18, zn_19, zn_20, zn_21, zn_22, zn_23, zn_24, zn_36, zn_44, zn_47, zn_48, zn_64, z_add, z_sub, z_mul, z_neg, z_lt, z_le, z_eq, z_iN, z_in, z_mnI, z_mxI, true_and, and_true, if_pos, if_neg, ite_true, ite_false, if_true, if_false]
      rintro _ rfl
      rw [zl_of (by omega) (by omega)]
      refine push k (by unfold bd; omega) (by unfold kn; rw [if_pos k0]) ?_
      rw [dpt_c, if_pos (by omega)] at hdp'
      exact hdp'
    · rw [if_neg k0]
      by_cases k1 : -10 < k
      · rw [if_neg (by omega)]
        unfold w_X1_value_92
        simp (disch := omega) only [zn_0, zn_1, zn_2, zn_3, zn_4, zn_5, zn_6, zn_7, zn_8, zn_9, zn_10, zn_11, zn_12, zn_13, zn_14, zn_15, zn_16, zn_17, zn_18, zn_19, zn_20, zn_21, zn_22, zn_23, zn_24, zn_36, zn_44, zn_47, zn_48, zn_64, z_add, z_sub, z_mul, z_neg, z_lt, z_le, z_eq, z_iN, z_in, z_mnI, z_mxI, true_and, and_true, if_pos, if_neg, ite_true, ite_false, if_true, if_false]
        rintro _ rfl
        rw [en _ (by omega) (by omega)]
        refine push _ (hnb _) (by unfold kn; rw [if_neg k0, if_pos k1]) ?_
        rw [dpt_c, if_pos k1] at hdp'
        exact hdp'
      · rw [if_pos (by omega)]
        rw [dpt_c, if_neg k1] at hdp'
        by_cases k2 : k = -12
        · subst k2
          rw [if_pos rfl] at hdp'
          rw [if_pos (by omega)]
          cases st with
          | nil => simp at hdp'
          | cons v r =>
            rw [if_pos (by simp)] at hdp'
            obtain ⟨hv, hr⟩ := hst
            have bv := hbd v (by simp)
            unfold bd at bv
            simp only [List.length_cons] at hlen ⊢
            rw [show (((r.length + 1 : Nat) : Int) - 1) = (r.length : Int) by omega]
            simp (disch := omega) only [zn_0, zn_1, zn_2, zn_3, zn_4, zn_5, zn_6, zn_7, zn_8, zn_9, zn_10, zn_11, zn_12, zn_13, zn_14, zn_15, zn_16, zn_17, zn_18, zn_19, zn_20, zn_21, zn_22, zn_23, zn_24, zn_36, zn_44, zn_47, zn_48, zn_64, z_add, z_sub, z_mul, z_neg, z_lt, z_le, z_eq, z_iN, z_in, z_mnI, z_mxI, true_and, and_true, if_pos, if_neg, ite_true, ite_false, if_true, if_false]
            rw [show ((r.length : Int)).toNat = r.length by omega, hv]
            simp (disch := omega) only [lz_eq, lg_cmp_eq, zl_0, zl_1, zl_eq]
            have fin : ∀ w : Int, w = (if v = 0 then 1 else 0) → kb (z (r.length : Int)) (z ((j : Int) + 1)) (sJ g (t + 2) r.length (zl w)) := by
              intro w hw
              have := hst2 (w :: r) (sJ g (t + 2) r.length (zl w)) (by rw [hw]; rfl) (by simpa using hdp') (stk_push hr) (by intro u hu; rcases List.mem_cons.mp hu with rfl | hu; (unfold bd; rw [hw]; split <;> omega); exact hbd u (by simp [hu])) (by simp; omega) (fun c k hc => (At.rf g c k).sJ (by omega))
              rw [List.length_cons, show (((r.length + 1 : Nat) : Int) - 1) = (r.length : Int) by omega] at this
              exact this
            by_cases v0 : v = 0
            · rw [if_pos v0]
              rintro _ rfl
              exact fin 1 (by rw [if_pos v0])
            · rw [if_neg v0]
              rintro _ rfl
              exact fin 0 (by rw [if_neg v0])
        · rw [if_neg k2] at hdp'
          rw [if_neg (by omega)]
          by_cases l2 : 2 ≤ st.length
          · rw [if_pos l2] at hdp'
            match st, hst, l2 with
            | v :: u :: r, hst, l2 =>
              obtain ⟨hv, hu, hr⟩ := hst
              have bv := hbd v (by simp)
              have bu := hbd u (by simp)
              simp only [List.length_cons] at hlen hv hdp' ⊢
              unfold w_X1_value_181
              simp (disch := omega) only [zn_0, zn_1, zn_2, zn_3, zn_4, zn_5, zn_6, zn_7, zn_8, zn_9, zn_10, zn_11, zn_12, zn_13, zn_14, zn_15, zn_16, zn_17, zn_18, zn_19, zn_20, zn_21, zn_22, zn_23, zn_24, zn_36, zn_44, zn_47, zn_48, zn_64, z_add, z_sub, z_mul, z_neg, z_lt, z_le, z_eq, z_iN, z_in, z_mnI, z_mxI, true_and, and_true, if_pos, if_neg, ite_true, ite_false, if_true, if_false]
              rw [show (((r.length + 1 + 1 : Nat) : Int) - 1 + -1).toNat = r.length by omega, show (((r.length + 1 + 1 : Nat) : Int) - 1 + -1 + 1).toNat = r.length + 1 by omega, hv, hu]
              refine x_joined (by omega) bu bv ?_
              have hkn : kn nm k (v :: u :: r) = (jn (-10 - k) u v).map (fun w => w :: r) := by unfold kn; rw [if_neg k0, if_neg k1, if_neg k2]
              rintro _ rfl
              rw [gJ_in rfl rfl]
              cases hjn : jn (-10 - k) u v with
              | none =>
                show if lg_cmp (zl _) _ = 0 then _ else _
                rw [if_pos (by rw [lg_cmp_eq]; rfl)]
                have e : lv nm ks = none := lv_no (by rw [hev]; show (kn nm k _).bind _ = _; rw [hkn, hjn]; rfl)
                rw [e] at hq
                exact hq _ (hfin _ (fun c k hc => (At.rf g c k).sJ (by omega)))
              | some w =>
                have bw := jn_bd hjn
                show if lg_cmp (zl w) _ = 0 then _ else _
                rw [if_neg (by unfold bd at bw; rw [lg_cmp_eq, zl_err, zl_eq (by omega) (by omega) (by omega) (by omega)]; omega)]
                have := hst2 (w :: r) (sJ g (t + 2) r.length (zl w)) (by rw [hkn, hjn]; rfl) (by simpa using hdp') (stk_push hr) (by intro q hq'; rcases List.mem_cons.mp hq' with rfl | hq'; exact bw; exact hbd q (by simp [hq'])) (by simp; omega) (fun c k hc => (At.rf g c k).sJ (by omega))
                rw [List.length_cons] at this
                rw [show ((r.length + 1 + 1 : Nat) : Int) - 1 + -1 = ((r.length + 1 : Nat) : Int) - 1 by omega]
                exact this
          · rw [if_neg l2] at hdp'; cases hdp'
  · rintro kb top g ⟨j, st, hj1, rfl, hj, hev, hdp, hst, hbd, hlen, hfr⟩
    have hjl : j = ks.length := by omega
    have es : gI g t 3 = z ks.length := by rw [(hfr t 3 (by omega)).1, (hf t 3 (by omega)).1]; exact L.1
    have hfin : ∀ c k, ¬ (c = t + 2 ∨ c = t + 3) → At h g c k := fun c k hc => (hf c k hc).tr (hfr c k (by omega))
    have hd0 : ks.drop j = [] := List.drop_eq_nil_of_le (by omega)
    rw [hd0] at hev hdp
    unfold w_X1_value_57
    rw [es, if_pos (by rw [z_le (by omega) (by omega) (by omega) (by omega)]; omega)]
    rcases hdp with hdp | hks
    · have e1 : st.length = 1 := by simpa [dpt] using hdp
      obtain ⟨v, rfl⟩ := List.length_eq_one_iff.mp e1
      have e2 : gJ g (t + 2) 0 = zl v := hst.1
      rw [if_pos (by rfl)]
      rw [lv_ev (by rw [hev]; rfl)] at hq
      rw [iN_0, e2]
      exact hq _ hfin
    · have e0 : st = [] := by
        rw [hks] at hjl
        rw [hjl] at hlen
        exact List.length_eq_zero_iff.mp (Nat.le_zero.mp hlen)
      subst e0
      rw [if_neg (by decide)]
      rw [hks, lv_nil] at hq
      exact hq _ hfin
