theorem m_not {v n : Int} {h : PH} {Q : Int32 → PH → Prop} (bv : bd v) (hn : 0 ≤ n ∧ n ≤ 62) (hc : gI h 0 48 = z (n + 1)) (e1 : gJ h 33 n.toNat = zl v) (h1 : Q 1 (sJ h 33 n.toNat (zl (if v = 0 then 1 else 0)))) : w_X10_works (z 260) h Q := by
  unfold bd at bv
  unfold w_X10_works
  have i1 : z (n + 1) - 1 = z n := by rw [zn_1, z_sub]; congr 1; omega
  rw [hc, i1, z_iN (by omega) (by omega), e1]
  refine ⟨z_in (by omega) (by omega) (by omega), ?_⟩
  rintro _ rfl
  rw [if_pos (show z 260 = 260 from rfl)]
  have fin : ∀ b : Int, (b = 0 ∨ b = 1) → b = (if v = 0 then 1 else 0) → w_X10_works_40 Q (z n) (z b) h := by
    intro b hb e
    unfold w_X10_works_40
    refine m_is hb ?_
    refine ⟨z_in (by omega) (by omega) (by omega), ?_⟩
    rintro _ rfl
    rw [z_iN (by omega) (by omega), e]
    exact h1
  by_cases v0 : v = 0
  · rw [if_pos (by rw [lg_cmp_eq, zl_0, v0])]
    exact fin 1 (by omega) (by rw [if_pos v0])
  · rw [if_neg (by rw [lg_cmp_eq, zl_0, zl_eq (by omega) (by omega) (by omega) (by omega)]; exact v0)]
    exact fin 0 (by omega) (by rw [if_neg v0])
/-- the law k of the reference, worked out by these names: 1 and the value at the stack's bottom, or 0 -/
theorem m_goes {i : Int} {fr : Int} {ks : List Int} {nm : Int → Int} {h : PH} {Q : Int32 → PH → Prop} (hi : 0 ≤ i ∧ i < 4) (K : KM h i.toNat fr ks) (W : Wf ks) (hne : ks ≠ []) (hn : ∀ q : Int, 0 ≤ q → q < 6 → gJ h 32 q.toNat = zl (nm q)) (hnb : ∀ q, bd (nm q))
    (h1 : ∀ g v, (∀ c k, ¬ (c = 33) → ¬ (c = 0 ∧ k = 48) → At h g c k) → lv nm ks = some v → bd v → gJ g 33 0 = zl v → Q 1 g) (h0 : ∀ g, (∀ c k, ¬ (c = 33) → ¬ (c = 0 ∧ k = 48) → At h g c k) → lv nm ks = none → Q 0 g) : w_X10_goes (z i) h Q := by
  obtain ⟨k1, k2, k3, k4, k5⟩ := K
  unfold w_X10_goes
  rintro _ rfl
  refine ⟨z_in (by omega) (by omega) (by omega), ?_⟩
  have hfr0 : ∀ c k, ¬ (c = 33) → ¬ (c = 0 ∧ k = 48) → At h (sI h 0 48 0) c k := fun c k a b => (At.rf h c k).sI b
  rw [z_iN (by omega) (by omega), gI_out (by omega), k1]
  rintro _ rfl
  have hdp0 : dpt ks 0 = some 1 := by rcases W.1 with e | e; exact absurd e hne; exact e
  refine for10 (fr + ks.length) (fun q g => ∃ (j : Nat) (st : List Int), q = fr + (j : Int) ∧ gI g 0 48 = z st.length ∧ j ≤ ks.length ∧ evl nm ks [] = evl nm (ks.drop j) st ∧ dpt (ks.drop j) st.length = some 1 ∧ stk g 33 st ∧ (∀ v ∈ st, bd v) ∧ st.length ≤ j ∧ (∀ c k, ¬ (c = 33) → ¬ (c = 0 ∧ k = 48) → At h g c k)) fr rfl (by omega) (by omega) (by omega) ⟨0, [], by simp, by rw [gI_in rfl rfl]; rfl, by omega, rfl, hdp0, trivial, by simp, by simp, hfr0⟩ ?_ ?_
  · rintro kb q g hq0 hqn ⟨j, st, rfl, hc, hj, hev, hdp, hst, hbd, hlen, hfr⟩ hk
    have hjl : j < ks.length := by omega
    have hkok := W.2.1 _ (kat_in hjl)
    rw [drop_kat hjl] at hev hdp
    have e29 : gI g 29 i.toNat = z (fr + ks.length) := by rw [(hfr 29 i.toNat (by omega) (by omega)).1]; exact k2
    have e30 : gI g 30 (fr + (j : Int)).toNat = z (kso (kat ks j)) := by rw [show (fr + (j : Int)).toNat = fr.toNat + j by omega, (hfr 30 _ (by omega) (by omega)).1]; exact (k5 j hjl).1
    have e31 : gI g 31 (fr + (j : Int)).toNat = z (kva (kat ks j)) := by rw [show (fr + (j : Int)).toNat = fr.toNat + j by omega, (hfr 31 _ (by omega) (by omega)).1]; exact (k5 j hjl).2
    have en : ∀ q : Int, 0 ≤ q → q < 6 → gJ g 32 q.toNat = zl (nm q) := fun q a b => by rw [(hfr 32 q.toNat (by omega) (by omega)).2.1]; exact hn q a b
    generalize kat ks j = k at *
    have hst2 : ∀ (st' : List Int) (g' : PH), kn nm k st = some st' → dpt (ks.drop (j + 1)) st'.length = some 1 → gI g' 0 48 = z st'.length → stk g' 33 st' → (∀ v ∈ st', bd v) → st'.length ≤ j + 1 → (∀ c k, ¬ (c = 33) → ¬ (c = 0 ∧ k = 48) → At g g' c k) → kb (z (fr + (j : Int) + 1)) g' := by
      intro st' g' q1 q2 q2b q3 q4 q5 q6
      refine hk _ ⟨j + 1, st', by omega, q2b, by omega, ?_, q2, q3, q4, q5, fun c k a b => (hfr c k a b).tr (q6 c k a b)⟩
      rw [hev]
      show (kn nm k st).bind _ = _
      rw [q1]; rfl
    have push : ∀ v, bd v → kn nm k st = some (v :: st) → dpt (ks.drop (j + 1)) (st.length + 1) = some 1 → w_X10_goes_85 Q kb (z i) (z (fr + (j : Int))) (gI g 0 48) (zl v) g := by
      intro v q1 q2 q3
      unfold w_X10_goes_85
      rw [hc]
      refine ⟨z_in (by omega) (by omega) (by omega), ?_⟩
      rintro _ rfl _ rfl
      rw [z_iN (by omega) (by omega), show ((st.length : Int)).toNat = st.length by omega, gI_sJ, hc, zn_1, z_add, z_add]
      refine hst2 (v :: st) _ q2 q3 ?_ ?_ (by intro w hw; rcases List.mem_cons.mp hw with rfl | hw; exact q1; exact hbd w hw) (by simp; omega) (fun c k a b => ((At.rf g c k).sJ (by omega)).sI b)
      · rw [gI_in rfl rfl]; rfl
      · exact stk_cong (h := sJ g 33 st.length (zl v)) (fun k hk => rfl) (stk_push hst)
    unfold kok at hkok
    unfold w_X10_goes_12
    rw [z_iN (by omega) (by omega), e29, z_iN (by omega) (by omega), e30, e31]
    refine ⟨z_in (by omega) (by omega) (by omega), ?_⟩
    rw [if_neg (by rw [z_le (by omega) (by omega) (by omega) (by omega)]; omega)]
    refine ⟨z_in (by omega) (by omega) (by omega), ?_⟩
    have fin0 : ∀ g', lv nm ks = none → (∀ c k, ¬ (c = 33) → ¬ (c = 0 ∧ k = 48) → At g g' c k) → Q 0 g' := fun g' e hg => h0 g' (fun c k a b => (hfr c k a b).tr (hg c k a b)) e
    by_cases c0 : 0 ≤ k
    · have es : kso k = 0 := by unfold kso; rw [if_pos c0]
      have ev : kva k = k := by unfold kva; rw [if_pos c0]
      rw [es, ev]
      rw [if_neg (by decide)]
      refine ⟨z_in (by omega) (by omega) (by omega), ?_⟩
      rw [if_pos (by rfl)]
      refine ⟨z_in (by omega) (by omega) (by omega), ?_⟩
      rw [zl_of (by omega) (by omega)]
      refine push k (by unfold bd; omega) (by unfold kn; rw [if_pos c0]) ?_
      rw [dpt_c, if_pos (by omega)] at hdp
      exact hdp
    by_cases c1 : -10 < k
    · have es : kso k = 1 := by unfold kso; rw [if_neg c0, if_pos c1]
      have ev : kva k = -1 - k := by unfold kva; rw [if_neg c0, if_pos c1]
      rw [es, ev]
      rw [if_neg (by decide)]
      refine ⟨z_in (by omega) (by omega) (by omega), ?_⟩
      rw [if_neg (by decide)]
      refine ⟨z_in (by omega) (by omega) (by omega), z_in (by omega) (by omega) (by omega), ?_⟩
      rw [z_iN (by omega) (by omega), en _ (by omega) (by omega)]
      refine push _ (hnb _) (by unfold kn; rw [if_neg c0, if_pos c1]) ?_
      rw [dpt_c, if_pos c1] at hdp
      exact hdp
    have es : kso k = 2 := by unfold kso; rw [if_neg c0, if_neg c1]
    have ev : kva k = msg (-10 - k) := by unfold kva; rw [if_neg c0, if_neg c1]
    rw [es, ev]
    rw [if_pos (by rfl)]
    refine ⟨z_in (by omega) (by omega) (by omega), ?_⟩
    rw [zn_1, z_add]
    rw [dpt_c, if_neg c1] at hdp
    by_cases c2 : k = -12
    · subst c2
      rw [if_pos rfl] at hdp
      cases st with
      | nil => simp at hdp
      | cons v r =>
        rw [if_pos (by simp)] at hdp
        obtain ⟨hv, hr⟩ := hst
        have bv := hbd v (by simp)
        rw [List.length_cons] at hc hlen
        show w_X10_works (z 260) g _
        refine m_not (n := (r.length : Int)) bv (by omega) (by rw [hc]; congr 1) (by rw [show ((r.length : Int)).toNat = r.length by omega]; exact hv) ?_
        rw [if_neg (by decide), show ((r.length : Int)).toNat = r.length by omega]
        refine hst2 ((if v = 0 then 1 else 0) :: r) _ (by rfl) (by simpa using hdp) (by rw [gI_sJ]; exact hc) (stk_push hr) (by intro u hu; rcases List.mem_cons.mp hu with rfl | hu; (unfold bd; split <;> omega); exact hbd u (by simp [hu])) (by simp; omega) (fun c k a b => (At.rf g c k).sJ (by omega))
    · rw [if_neg c2] at hdp
      by_cases l2 : 2 ≤ st.length
      · rw [if_pos l2] at hdp
        match st, hst, l2 with
        | v :: u :: r, hst, l2 =>
          obtain ⟨hv, hu, hr⟩ := hst
          have bv := hbd v (by simp)
          have bu := hbd u (by simp)
          simp only [List.length_cons] at hlen hv hdp hc
          have hkn : kn nm k (v :: u :: r) = (jn (-10 - k) u v).map (fun w => w :: r) := by unfold kn; rw [if_neg c0, if_neg c1, if_neg c2]
          refine m_works (n := (r.length : Int)) (by omega) bu bv (by omega) (by rw [hc]; congr 1) (by rw [show ((r.length : Int) + 1).toNat = r.length + 1 by omega]; exact hv) (by rw [show ((r.length : Int)).toNat = r.length by omega]; exact hu) (fun w hw => ?_) (fun hw g' hg => ?_)
          · rw [if_neg (by decide), show ((r.length : Int)).toNat = r.length by omega]
            have bw := jn_bd hw
            refine hst2 (w :: r) _ (by rw [hkn, hw]; rfl) (by simpa using hdp) (by rw [gI_sJ, gI_in rfl rfl]; rfl) (stk_push (stk_cong (h := g) (fun k hk => rfl) hr)) (by intro q hq'; rcases List.mem_cons.mp hq' with rfl | hq'; exact bw; exact hbd q (by simp [hq'])) (by simp; omega) (fun c k a b => ((At.rf g c k).sI b).sJ (by omega))
          · rw [if_pos rfl]
            exact fin0 g' (lv_no (by rw [hev]; show (kn nm k _).bind _ = _; rw [hkn, hw]; rfl)) hg
      · rw [if_neg l2] at hdp; cases hdp
  · rintro kb g ⟨j, st, hj1, hc, hj, hev, hdp, hst, hbd, hlen, hfr⟩
    have hjl : j = ks.length := by omega
    have e29 : gI g 29 i.toNat = z (fr + ks.length) := by rw [(hfr 29 i.toNat (by omega) (by omega)).1]; exact k2
    have hd0 : ks.drop j = [] := List.drop_eq_nil_of_le (by omega)
    rw [hd0] at hev hdp
    unfold w_X10_goes_12
    rw [z_iN (by omega) (by omega), e29]
    refine ⟨z_in (by omega) (by omega) (by omega), ?_⟩
    rw [if_pos (by rw [z_le (by omega) (by omega) (by omega) (by omega)]; omega)]
    have e1 : st.length = 1 := by simpa [dpt] using hdp
    obtain ⟨v, rfl⟩ := List.length_eq_one_iff.mp e1
    exact h1 g v hfr (lv_ev (by rw [hev]; rfl)) (hbd v (by simp)) hst.1
