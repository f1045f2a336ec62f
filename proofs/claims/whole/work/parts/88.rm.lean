/-! ===== counts ===== -/
noncomputable def a_count (s : St) (k : Int) : Int := if k = 0 then s.a.n 0 else if k = 1 then s.a.n 1 else if k = 2 then s.a.n 2 else if k = 3 then s.a.n 3 else if k = 4 then s.a.n 4 else if k = 5 then s.a.n 6 else if k = 6 then cn (dg s.a) (s.a.n 0) else if k = 7 then (s.a.fd.length + s.a.wo.length : Int) else if k = 8 then s.a.f 7 2 0 else if k = 9 then s.nn else if k = 10 then (if s.kb = -1 then s.nn else s.kb) else if k = 11 then s.un else if k = 12 then sm (s.a.f 1 3) (s.a.n 1) else if k = 13 then trs s.a (far s.a (-1)) (-1) (-1) else if k = 14 then sm (s.a.f 2 1) (s.a.n 2) else if k = 15 then silAll s.a (far s.a (-1)) else -1
section CNT
variable {h : PH} {w : Nat} {s : St} {k : Int}
theorem knX {Q : Int32 → PH → Prop} (N : NtX h s) (hb : OkNt (s.a.n 0) s.nn s.nt s.kb) (hq : Q (z (if s.kb = -1 then s.nn else s.kb)) h) : w_X2_knownMany h Q := by
  unfold w_X2_knownMany
  rw [N.2.2, N.1.2.2.1]
  have b1 := hb.1
  have b2 := hb.2.1
  by_cases c : s.kb = -1
  · rw [if_pos (by rw [c]; rfl)]
    rw [if_pos c] at hq
    exact hq
  · rw [if_neg (show ¬ z s.kb = -1 from z_ne (by omega) (by omega) (by decide) (by decide) c)]
    rw [if_neg c] at hq
    exact hq
theorem knM {Q : Int32 → PH → Prop} (N : NtM h s) (hb : OkNt (s.a.n 0) s.nn s.nt s.kb) (hq : Q (z (if s.kb = -1 then s.nn else s.kb)) h) : w_X10_knownMany h Q := by
  unfold w_X10_knownMany
  rw [N.2.1, N.1]
  have b1 := hb.1
  have b2 := hb.2.1
  by_cases c : s.kb = -1
  · rw [if_pos (by rw [c]; rfl)]
    rw [if_pos c] at hq
    exact hq
  · rw [if_neg (show ¬ z s.kb = -1 from z_ne (by omega) (by omega) (by decide) (by decide) c)]
    rw [if_neg c] at hq
    exact hq
theorem xs_count {Q : Int32 → PH → Prop} (I : IX h w s) (hk : i32 k) (hq : ∀ g, IX g w s → KpX h g → Q (z (a_count s k)) g) : w_X9_count (z k) h Q := by
  obtain ⟨p1, p2, p3⟩ := I.1.p
  have n1 := I.1.1
  have n3 := I.1.2.2.1
  have n4 := I.1.2.2.2.1
  have O := I.ok
  have h6 := n4.1.1
  unfold w_X9_count
  rw [p3]
  by_cases c0 : k = 0
  · rw [if_pos (show z k = 0 by rw [c0]; rfl)]
    have e : a_count s k = s.a.n 0 := by rw [c0]; rfl
    rw [e] at hq
    refine ⟨p1, oX_w n1, ?_⟩
    rw [show gI h (w + 1) 3 = z (s.a.n 0) from (n3.n0 0 (by decide)).1]
    exact hq h I (KpX.rf h)
  · rw [if_neg (show ¬ z k = 0 from z_ne hk.1 hk.2 (by decide) (by decide) c0)]
    by_cases c1 : k = 1
    · rw [if_pos (show z k = 1 by rw [c1]; rfl)]
      have e : a_count s k = s.a.n 1 := by rw [c1]; rfl
      rw [e] at hq
      refine ⟨p1, oX_w n1, ?_⟩
      rw [show gI h (w + 3) 3 = z (s.a.n 1) from (n3.n0 1 (by decide)).1]
      exact hq h I (KpX.rf h)
    · rw [if_neg (show ¬ z k = 1 from z_ne hk.1 hk.2 (by decide) (by decide) c1)]
      by_cases c2 : k = 2
      · rw [if_pos (show z k = 2 by rw [c2]; rfl)]
        have e : a_count s k = s.a.n 2 := by rw [c2]; rfl
        rw [e] at hq
        refine ⟨p1, oX_w n1, ?_⟩
        rw [show gI h (w + 5) 3 = z (s.a.n 2) from (n3.n0 2 (by decide)).1]
        exact hq h I (KpX.rf h)
      · rw [if_neg (show ¬ z k = 2 from z_ne hk.1 hk.2 (by decide) (by decide) c2)]
        by_cases c3 : k = 3
        · rw [if_pos (show z k = 3 by rw [c3]; rfl)]
          have e : a_count s k = s.a.n 3 := by rw [c3]; rfl
          rw [e] at hq
          refine ⟨p1, oX_w n1, ?_⟩
          rw [show gI h (w + 7) 3 = z (s.a.n 3) from (n3.n0 3 (by decide)).1]
          exact hq h I (KpX.rf h)
        · rw [if_neg (show ¬ z k = 3 from z_ne hk.1 hk.2 (by decide) (by decide) c3)]
          by_cases c4 : k = 4
          · rw [if_pos (show z k = 4 by rw [c4]; rfl)]
            have e : a_count s k = s.a.n 4 := by rw [c4]; rfl
            rw [e] at hq
            refine ⟨p1, oX_w n1, ?_⟩
            rw [show gI h (w + 9) 3 = z (s.a.n 4) from (n3.n0 4 (by decide)).1]
            exact hq h I (KpX.rf h)
          · rw [if_neg (show ¬ z k = 4 from z_ne hk.1 hk.2 (by decide) (by decide) c4)]
            by_cases c5 : k = 5
            · rw [if_pos (show z k = 5 by rw [c5]; rfl)]
              have e : a_count s k = s.a.n 6 := by rw [c5]; rfl
              rw [e] at hq
              refine ⟨p1, oX_w n1, ?_⟩
              rw [show gI h (w + 13) 3 = z (s.a.n 6) from (n3.n0 6 (by decide)).1]
              exact hq h I (KpX.rf h)
            · rw [if_neg (show ¬ z k = 5 from z_ne hk.1 hk.2 (by decide) (by decide) c5)]
              by_cases c6 : k = 6
              · rw [if_pos (show z k = 6 by rw [c6]; rfl)]
                have e : a_count s k = cn (dg s.a) (s.a.n 0) := by rw [c6]; rfl
                rw [e] at hq
                refine ⟨p1, oX_w n1, ?_⟩
                refine x_dogs n3 n4 ?_
                exact x_bits h6.1 (by omega) rfl (hq h I (KpX.rf h))
              · rw [if_neg (show ¬ z k = 6 from z_ne hk.1 hk.2 (by decide) (by decide) c6)]
                by_cases c7 : k = 7
                · rw [if_pos (show z k = 7 by rw [c7]; rfl)]
                  have e : a_count s k = (s.a.fd.length + s.a.wo.length : Int) := by rw [c7]; rfl
                  rw [e] at hq
                  refine ⟨p1, oX_w n1, p1, oX_w n1, ?_⟩
                  rw [n3.2.1.1, n3.2.2.1.1, z_add]
                  exact hq h I (KpX.rf h)
                · rw [if_neg (show ¬ z k = 7 from z_ne hk.1 hk.2 (by decide) (by decide) c7)]
                  by_cases c8 : k = 8
                  · rw [if_pos (show z k = 8 by rw [c8]; rfl)]
                    have e : a_count s k = s.a.f 7 2 0 := by rw [c8]; rfl
                    rw [e] at hq
                    refine ⟨p1, oX_w n1, ?_⟩
                    rw [n3.2.2.2.2.2]
                    exact hq h I (KpX.rf h)
                  · rw [if_neg (show ¬ z k = 8 from z_ne hk.1 hk.2 (by decide) (by decide) c8)]
                    by_cases c9 : k = 9
                    · rw [if_pos (show z k = 9 by rw [c9]; rfl)]
                      have e : a_count s k = s.nn := by rw [c9]; rfl
                      rw [e] at hq
                      rw [I.2.2.2.2.2.1.1.2.2.1]
                      exact hq h I (KpX.rf h)
                    · rw [if_neg (show ¬ z k = 9 from z_ne hk.1 hk.2 (by decide) (by decide) c9)]
                      by_cases c10 : k = 10
                      · rw [if_pos (show z k = 10 by rw [c10]; rfl)]
                        have e : a_count s k = (if s.kb = -1 then s.nn else s.kb) := by rw [c10]; rfl
                        rw [e] at hq
                        exact knX I.2.2.2.2.2.1 O.2.2.2.2.2.1 (hq h I (KpX.rf h))
                      · rw [if_neg (show ¬ z k = 10 from z_ne hk.1 hk.2 (by decide) (by decide) c10)]
                        by_cases c11 : k = 11
                        · rw [if_pos (show z k = 11 by rw [c11]; rfl)]
                          have e : a_count s k = s.un := by rw [c11]; rfl
                          rw [e] at hq
                          rw [I.2.2.2.2.1.1.2.2.1]
                          exact hq h I (KpX.rf h)
                        · rw [if_neg (show ¬ z k = 11 from z_ne hk.1 hk.2 (by decide) (by decide) c11)]
                          by_cases c12 : k = 12
                          · rw [if_pos (show z k = 12 by rw [c12]; rfl)]
                            have e : a_count s k = sm (s.a.f 1 3) (s.a.n 1) := by rw [c12]; rfl
                            rw [e] at hq
                            refine ⟨p1, oX_w n1, ?_⟩
                            exact x_sum (c := 3) (f := s.a.f 1 3) (n3.rw 1 (by decide)) rfl (by omega) (by decide) (fun j j0 j1 => (n3.1 1 (by decide)).2 j 3 j0 j1 (by decide)) (hq h I (KpX.rf h))
                          · rw [if_neg (show ¬ z k = 12 from z_ne hk.1 hk.2 (by decide) (by decide) c12)]
                            by_cases c13 : k = 13
                            · rw [if_pos (show z k = 13 by rw [c13]; rfl)]
                              have e : a_count s k = trs s.a (far s.a (-1)) (-1) (-1) := by rw [c13]; rfl
                              rw [e] at hq
                              refine x_freshAir I.gh (fun g f N A => ?_)
                              obtain ⟨q1, q2, q3⟩ := N.p
                              rw [q3]
                              refine ⟨rfl, q1, oX_w n1, ?_⟩
                              rw [far_sa (mkd_sa _ _)] at A
                              have A' := A.sa (mkd_sa _ _).sy
                              have r := I.air N f
                              rw [z_m1]
                              exact x_trespasses (by_ := -1) (on := -1) r.1.1.2.2.1 A'.2.1 A'.2.2.2.1 n4.2.1 n4.2.2.1 n4.2.2.2.1 h6 (by omega) (by omega) (hq g r.1 r.2)
                            · rw [if_neg (show ¬ z k = 13 from z_ne hk.1 hk.2 (by decide) (by decide) c13)]
                              by_cases c14 : k = 14
                              · rw [if_pos (show z k = 14 by rw [c14]; rfl)]
                                have e : a_count s k = sm (s.a.f 2 1) (s.a.n 2) := by rw [c14]; rfl
                                rw [e] at hq
                                refine ⟨p1, oX_w n1, ?_⟩
                                exact x_sum (c := 1) (f := s.a.f 2 1) (n3.rw 2 (by decide)) rfl (by omega) (by decide) (fun j j0 j1 => (n3.1 2 (by decide)).2 j 1 j0 j1 (by decide)) (hq h I (KpX.rf h))
                              · rw [if_neg (show ¬ z k = 14 from z_ne hk.1 hk.2 (by decide) (by decide) c14)]
                                by_cases c15 : k = 15
                                · rw [if_pos (show z k = 15 by rw [c15]; rfl)]
                                  have e : a_count s k = silAll s.a (far s.a (-1)) := by rw [c15]; rfl
                                  rw [e] at hq
                                  refine x_freshAir I.gh (fun g f N A => ?_)
                                  rw [far_sa (mkd_sa _ _)] at A
                                  have A' := A.sa (mkd_sa _ _).sy
                                  have r := I.air N f
                                  exact ⟨rfl, x_silentMinutes A'.2.2.1 h6 (hq g r.1 r.2)⟩
                                · rw [if_neg (show ¬ z k = 15 from z_ne hk.1 hk.2 (by decide) (by decide) c15)]
                                  have e : a_count s k = -1 := by unfold a_count; rw [if_neg c0, if_neg c1, if_neg c2, if_neg c3, if_neg c4, if_neg c5, if_neg c6, if_neg c7, if_neg c8, if_neg c9, if_neg c10, if_neg c11, if_neg c12, if_neg c13, if_neg c14, if_neg c15]
                                  rw [e] at hq
                                  exact hq h I (KpX.rf h)
theorem ms_count {Q : Int32 → PH → Prop} (J : IM h s) (hk : i32 k) (hq : ∀ g, IM g s → Q (z (a_count s k)) g) : w_X10_count (z k) h Q := by
  unfold w_X10_count
  rintro _ rfl
  have J1 := J.fr (fr0 h 0)
  generalize sI h 0 0 0 = h1 at J1
  have n4 := J1.1.2.2
  have O := J1.2.2.2.2.2.2
  have h6 := n4.1.1
  have n10 := n4.2.2.2.2.2.2.2.2.2.2.1
  by_cases c0 : k = 0
  · rw [if_pos (show z k = 0 by rw [c0]; rfl)]
    have e : a_count s k = s.a.n 0 := by rw [c0]; rfl
    rw [e] at hq
    rw [show gI h1 2 (iN 0) = z (s.a.n 0) from J1.1.1.1.1]
    exact hq h1 J1
  · rw [if_neg (show ¬ z k = 0 from z_ne hk.1 hk.2 (by decide) (by decide) c0)]
    by_cases c1 : k = 1
    · rw [if_pos (show z k = 1 by rw [c1]; rfl)]
      have e : a_count s k = s.a.n 1 := by rw [c1]; rfl
      rw [e] at hq
      rw [show gI h1 2 (iN 1) = z (s.a.n 1) from J1.1.1.1.2.1]
      exact hq h1 J1
    · rw [if_neg (show ¬ z k = 1 from z_ne hk.1 hk.2 (by decide) (by decide) c1)]
      by_cases c2 : k = 2
      · rw [if_pos (show z k = 2 by rw [c2]; rfl)]
        have e : a_count s k = s.a.n 2 := by rw [c2]; rfl
        rw [e] at hq
        rw [show gI h1 2 (iN 2) = z (s.a.n 2) from J1.1.1.1.2.2.1]
        exact hq h1 J1
      · rw [if_neg (show ¬ z k = 2 from z_ne hk.1 hk.2 (by decide) (by decide) c2)]
        by_cases c3 : k = 3
        · rw [if_pos (show z k = 3 by rw [c3]; rfl)]
          have e : a_count s k = s.a.n 3 := by rw [c3]; rfl
          rw [e] at hq
          rw [show gI h1 34 (iN 0) = z (s.a.n 3) from J1.1.2.1.1]
          exact hq h1 J1
        · rw [if_neg (show ¬ z k = 3 from z_ne hk.1 hk.2 (by decide) (by decide) c3)]
          by_cases c4 : k = 4
          · rw [if_pos (show z k = 4 by rw [c4]; rfl)]
            have e : a_count s k = s.a.n 4 := by rw [c4]; rfl
            rw [e] at hq
            rw [show gI h1 2 (iN 4) = z (s.a.n 4) from J1.1.1.1.2.2.2.1]
            exact hq h1 J1
          · rw [if_neg (show ¬ z k = 4 from z_ne hk.1 hk.2 (by decide) (by decide) c4)]
            by_cases c5 : k = 5
            · rw [if_pos (show z k = 5 by rw [c5]; rfl)]
              have e : a_count s k = s.a.n 6 := by rw [c5]; rfl
              rw [e] at hq
              rw [show gI h1 2 (iN 6) = z (s.a.n 6) from J1.1.1.1.2.2.2.2.2.1]
              exact hq h1 J1
            · rw [if_neg (show ¬ z k = 5 from z_ne hk.1 hk.2 (by decide) (by decide) c5)]
              by_cases c6 : k = 6
              · rw [if_pos (show z k = 6 by rw [c6]; rfl)]
                have e : a_count s k = cn (dg s.a) (s.a.n 0) := by rw [c6]; rfl
                rw [e] at hq
                refine for21 (s.a.n 0) (fun i x g => h1 = g ∧ x = z (cn (dg s.a) i)) 0 rfl (by omega) (by omega) (by omega) ⟨rfl, rfl⟩ ?_ ?_
                · rintro kb i _ _ i0 i1 ⟨rfl, rfl⟩ hk2
                  unfold w_X10_count_133
                  have b := (n4.2.2.2.2.2.2.2.2.2.2.2.2.2.2.2.1 i i0 i1).2
                  rw [iN_0, J1.1.1.1.1, if_neg (by rw [z_le (by omega) (by omega) (by omega) (by omega)]; omega), z_iN (by omega) (by omega), (J1.1.1.2.1 i i0 i1).2, zn_0, zn_1, z_add, z_add, z_add]
                  refine ⟨z_in (by omega) (by omega) (by omega), ?_⟩
                  have es : cn (dg s.a) (i + 1) = cn (dg s.a) i + (if dg s.a i = true then 1 else 0) := sm_s i0
                  by_cases e : s.a.f 0 1 i ≤ 0
                  · rw [if_pos (by rw [z_le (by omega) (by omega) (by omega) (by omega)]; omega)]
                    rintro _ rfl
                    exact hk2 _ _ ⟨rfl, by rw [es, if_neg (by unfold dg; rw [decide_eq_false (by omega : ¬ 0 < s.a.f 0 1 i)]; decide)]⟩
                  · rw [if_neg (by rw [z_le (by omega) (by omega) (by omega) (by omega)]; omega)]
                    rintro _ rfl
                    exact hk2 _ _ ⟨rfl, by rw [es, if_pos (by unfold dg; exact decide_eq_true (by omega))]⟩
                · rintro kb _ _ ⟨rfl, rfl⟩
                  unfold w_X10_count_133
                  rw [iN_0, J1.1.1.1.1, if_pos (by rw [z_le (by omega) (by omega) (by omega) (by omega)]; omega)]
                  exact hq h1 J1
              · rw [if_neg (show ¬ z k = 6 from z_ne hk.1 hk.2 (by decide) (by decide) c6)]
                by_cases c7 : k = 7
                · rw [if_pos (show z k = 7 by rw [c7]; rfl)]
                  have e : a_count s k = (s.a.fd.length + s.a.wo.length : Int) := by rw [c7]; rfl
                  rw [e] at hq
                  rw [show gI h1 2 (iN 10) = z (s.a.fd.length + s.a.wo.length) from J1.1.1.2.2.2.2.2.2.2.2.2]
                  exact hq h1 J1
                · rw [if_neg (show ¬ z k = 7 from z_ne hk.1 hk.2 (by decide) (by decide) c7)]
                  by_cases c8 : k = 8
                  · rw [if_pos (show z k = 8 by rw [c8]; rfl)]
                    have e : a_count s k = s.a.f 7 2 0 := by rw [c8]; rfl
                    rw [e] at hq
                    rw [show gI h1 44 (iN 0) = z (s.a.f 7 2 0) from J1.1.2.1.2.2.2.2.2.2]
                    exact hq h1 J1
                  · rw [if_neg (show ¬ z k = 8 from z_ne hk.1 hk.2 (by decide) (by decide) c8)]
                    by_cases c9 : k = 9
                    · rw [if_pos (show z k = 9 by rw [c9]; rfl)]
                      have e : a_count s k = s.nn := by rw [c9]; rfl
                      rw [e] at hq
                      rw [J1.2.2.2.1.1]
                      exact hq h1 J1
                    · rw [if_neg (show ¬ z k = 9 from z_ne hk.1 hk.2 (by decide) (by decide) c9)]
                      by_cases c10 : k = 10
                      · rw [if_pos (show z k = 10 by rw [c10]; rfl)]
                        have e : a_count s k = (if s.kb = -1 then s.nn else s.kb) := by rw [c10]; rfl
                        rw [e] at hq
                        exact knM J1.2.2.2.1 O.2.2.2.2.2.1 (hq h1 J1)
                      · rw [if_neg (show ¬ z k = 10 from z_ne hk.1 hk.2 (by decide) (by decide) c10)]
                        by_cases c11 : k = 11
                        · rw [if_pos (show z k = 11 by rw [c11]; rfl)]
                          have e : a_count s k = s.un := by rw [c11]; rfl
                          rw [e] at hq
                          rw [J1.2.1.1]
                          exact hq h1 J1
                        · rw [if_neg (show ¬ z k = 11 from z_ne hk.1 hk.2 (by decide) (by decide) c11)]
                          by_cases c12 : k = 12
                          · rw [if_pos (show z k = 12 by rw [c12]; rfl)]
                            have e : a_count s k = sm (s.a.f 1 3) (s.a.n 1) := by rw [c12]; rfl
                            rw [e] at hq
                            have es : sm (s.a.f 1 3) (s.a.n 1) = cn (fun l => decide (s.a.f 1 3 l = 1)) (s.a.n 1) := by
                              refine sm_cong (fun l l0 l1 => ?_)
                              show s.a.f 1 3 l = if decide (s.a.f 1 3 l = 1) = true then 1 else 0
                              have := (n4.1.2.2.2.1 l l0 l1).2.2.2.2
                              rcases this with e | e
                              · rw [e]; rfl
                              · rw [e]; rfl
                            rw [es] at hq
                            have n9 := n4.1.2.1
                            refine m_bits (f := fun l => decide (s.a.f 1 3 l = 1)) (n := s.a.n 1) (by omega) (by omega) (fun l hl => ?_) (hq h1 J1)
                            have b := J1.1.2.1.2.2.2.2.1 l (by omega) (by omega)
                            have b' : bt (gI h1 42 0) l = true ↔ (l : Int) < s.a.n 1 ∧ s.a.f 1 3 l = 1 := b
                            show bt (gI h1 42 0) l = _
                            cases hb : bt (gI h1 42 0) l with
                            | true =>
                              have := b'.mp hb
                              rw [decide_eq_true (by omega : l < (s.a.n 1).toNat), decide_eq_true this.2]; rfl
                            | false =>
                              by_cases c : l < (s.a.n 1).toNat
                              · rw [decide_eq_true c, Bool.true_and, decide_eq_false (fun e => by rw [b'.mpr ⟨by omega, e⟩] at hb; exact absurd hb (by decide))]
                              · rw [decide_eq_false c]; rfl
                          · rw [if_neg (show ¬ z k = 12 from z_ne hk.1 hk.2 (by decide) (by decide) c12)]
                            by_cases c13 : k = 13
                            · rw [if_pos (show z k = 13 by rw [c13]; rfl)]
                              have e : a_count s k = trs s.a (far s.a (-1)) (-1) (-1) := by rw [c13]; rfl
                              rw [e] at hq
                              refine m_layDay J1.1.1 J1.1.2.1 n4 (fun g f D => ?_)
                              rw [z_m1]
                              refine m_trespasses (by_ := -1) (on := -1) D n4 (by omega) (by omega) (fun g2 f2 => ?_)
                              exact hq g2 (J1.fr (fun c k hc => (f c k (by unfold scrM at hc; unfold dayR; omega)).tr (f2 c k (by unfold scrM at hc; unfold lawC; omega))))
                            · rw [if_neg (show ¬ z k = 13 from z_ne hk.1 hk.2 (by decide) (by decide) c13)]
                              by_cases c14 : k = 14
                              · rw [if_pos (show z k = 14 by rw [c14]; rfl)]
                                have e : a_count s k = sm (s.a.f 2 1) (s.a.n 2) := by rw [c14]; rfl
                                rw [e] at hq
                                refine for21 (s.a.n 2) (fun i x g => h1 = g ∧ x = z (sm (s.a.f 2 1) i)) 0 rfl (by omega) (by omega) (by omega) ⟨rfl, rfl⟩ ?_ ?_
                                · rintro kb i _ _ i0 i1 ⟨rfl, rfl⟩ hk2
                                  unfold w_X10_count_221
                                  have e43 : gI h1 43 i.toNat = z (s.a.f 2 1 i) := by
                                    have := J1.1.2.1.2.2.2.2.2.1 i i0 i1
                                    rw [show (4 * 0 + i) = i by omega] at this; exact this
                                  rw [iN_2, J1.1.1.1.2.2.1, if_neg (by rw [z_le (by omega) (by omega) (by omega) (by omega)]; omega), z_iN (by omega) (by omega), e43, z_add, z_inc]
                                  refine ⟨z_in (by omega) (by omega) (by omega), ?_⟩
                                  rintro _ rfl
                                  exact hk2 _ _ ⟨rfl, by rw [sm_s i0]⟩
                                · rintro kb _ _ ⟨rfl, rfl⟩
                                  unfold w_X10_count_221
                                  rw [iN_2, J1.1.1.1.2.2.1, if_pos (by rw [z_le (by omega) (by omega) (by omega) (by omega)]; omega)]
                                  exact hq h1 J1
                              · rw [if_neg (show ¬ z k = 14 from z_ne hk.1 hk.2 (by decide) (by decide) c14)]
                                by_cases c15 : k = 15
                                · rw [if_pos (show z k = 15 by rw [c15]; rfl)]
                                  have e : a_count s k = silAll s.a (far s.a (-1)) := by rw [c15]; rfl
                                  rw [e] at hq
                                  refine m_layDay J1.1.1 J1.1.2.1 n4 (fun g f D => ?_)
                                  have e20 : gI g 2 0 = z (s.a.n 0) := D.1.1.1
                                  refine for21 (48 * s.a.n 0) (fun i x g' => g = g' ∧ x = z (sm (sil s.a (far s.a (-1))) i)) 0 rfl (by omega) (by omega) (by omega) ⟨rfl, rfl⟩ ?_ ?_
                                  · rintro kb i _ _ i0 i1 ⟨rfl, rfl⟩ hk2
                                    unfold w_X10_count_254
                                    have b := fst_rg n4.2.1 (far s.a (-1)) (i / 48) (i % 48)
                                    have b13 := n4.2.1.1
                                    rw [iN_0, e20, zn_48, z_mul, if_neg (by rw [z_le (by omega) (by omega) (by omega) (by omega)]; omega), z_iN (by omega) (by omega), D.2.2.2.2.1.k i0 i1]
                                    refine ⟨z_in (by omega) (by omega) (by omega), ?_⟩
                                    by_cases e : fst s.a (far s.a (-1)) (i / 48) (i % 48) = -1
                                    · rw [if_pos (by rw [e]; rfl), z_inc, z_inc]
                                      rintro _ rfl
                                      exact hk2 _ _ ⟨rfl, by rw [sm_s i0]; unfold sil; rw [if_pos e]⟩
                                    · rw [if_neg (show ¬ z (fst s.a (far s.a (-1)) (i / 48) (i % 48)) = -1 from z_ne (by omega) (by omega) (by decide) (by decide) e), zn_0, z_add, z_inc]
                                      rintro _ rfl
                                      exact hk2 _ _ ⟨rfl, by rw [sm_s i0]; unfold sil; rw [if_neg e]⟩
                                  · rintro kb _ _ ⟨rfl, rfl⟩
                                    unfold w_X10_count_254
                                    rw [iN_0, e20, zn_48, z_mul, if_pos (by rw [z_le (by omega) (by omega) (by omega) (by omega)]; omega)]
                                    exact hq g (J1.fr (fun c k hc => f c k (by unfold scrM at hc; unfold dayR; omega)))
                                · rw [if_neg (show ¬ z k = 15 from z_ne hk.1 hk.2 (by decide) (by decide) c15)]
                                  have e : a_count s k = -1 := by unfold a_count; rw [if_neg c0, if_neg c1, if_neg c2, if_neg c3, if_neg c4, if_neg c5, if_neg c6, if_neg c7, if_neg c8, if_neg c9, if_neg c10, if_neg c11, if_neg c12, if_neg c13, if_neg c14, if_neg c15]
                                  rw [e] at hq
                                  exact hq h1 J1
end CNT
