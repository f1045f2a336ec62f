section PLMS
variable {h : PH} {s : St}
theorem m_layPlan {Q : PH → Prop} (J : IM h s) (hn1 : 1 ≤ s.a.n 6) (hq : ∀ g, IM g s → BestM g (plB s.a) → Q g) : w_X10_layPlan h Q := by
  have N := J.1.2.2
  have nr := N.2.2.2.2.2.2.2.2.2.2.2.2.2.1
  unfold w_X10_layPlan
  refine m_layBad J.1 (fun g1 f1 M1 B1 => ?_)
  rintro _ rfl
  have M2 : MT (sI g1 0 92 (-1)) s.a := M1.at' (fun c k b1 b2 => (At.rf g1 c k).sI (by omega))
  have B2 : BdM (sI g1 0 92 (-1)) s.a (48 * s.a.n 6) := fun i i0 i1 => by rw [gI_out (by omega)]; exact B1 i i0 i1
  have e92 : gI (sI g1 0 92 (-1)) 0 92 = z (-1) := gI_in rfl rfl
  refine ⟨(s.a.n 6).toNat + 1, by omega, ?_⟩
  refine m_plans N hn1 (s.a.n 6).toNat ((s.a.n 6).toNat + 1) (fun _ => false) [] none _ _ 0 (by omega) (by simp) M2 B2 (fun i q e => by cases e) (fun q hq => by cases hq) ⟨fun _ => e92, fun e P x => by cases x⟩ (fun l hl => bt_0 l hl) (fun g f _ b => ?_)
  refine hq g (J.fr (fun c k hc => ((f1 c k hc).sI (by unfold scrM at hc; omega)).tr (f c k (by unfold scrM at hc; unfold plC; omega)))) ?_
  rw [dfs_eq] at b
  exact b
theorem ms_plan {Q : Int32 → PH → Prop} (J : IM h s) (hq : ∀ g, IM g s → Q (z (a_plan s.a)) g) : w_X10_plan h Q := by
  have nr := J.1.2.2.2.2.2.2.2.2.2.2.2.2.2.2.2.1
  unfold w_X10_plan
  rintro _ rfl
  have J1 := J.fr (fr0 h 0)
  generalize sI h 0 0 0 = h1 at *
  have e26 : gI h1 2 6 = z (s.a.n 6) := J1.1.1.1.2.2.2.2.2.1
  unfold a_plan at hq
  rw [iN_6, e26]
  by_cases c : s.a.n 6 = 0
  · rw [if_pos (show z (s.a.n 6) = 0 by rw [c]; rfl)]
    rw [if_pos c] at hq
    exact hq h1 J1
  · rw [if_neg (show ¬ z (s.a.n 6) = 0 from z_ne (by omega) (by omega) (by decide) (by decide) c)]
    rw [if_neg c] at hq
    refine m_layPlan J1 (by omega) (fun g Jg b => ?_)
    have q := hq g Jg
    cases hb : plB s.a with
    | none =>
      rw [hb] at b q
      rw [b.1 rfl, if_pos (show z (-1) = -1 from rfl)]
      exact q
    | some x =>
      obtain ⟨e, P⟩ := x
      rw [hb] at b q
      obtain ⟨y1, y2, y3⟩ := b.2 e P rfl
      rw [y1, if_neg (show ¬ z e = -1 from z_ne (by omega) (by omega) (by decide) (by decide) (show e ≠ -1 by omega))]
      exact q
theorem ms_planned {Q : Int32 → PH → Prop} {k c : Int} (hk : i32 k) (hc : i32 c) (J : IM h s) (hq : ∀ g, IM g s → Q (z (a_planned s.a k c)) g) : w_X10_planned (z k) (z c) h Q := by
  have k1 := hk.1
  have k2 := hk.2
  have c1 := hc.1
  have c2 := hc.2
  have nr := J.1.2.2.2.2.2.2.2.2.2.2.2.2.2.2.2.1
  unfold w_X10_planned
  rintro _ rfl
  have J1 := J.fr (fr0 h 0)
  generalize sI h 0 0 0 = h1 at *
  have e26 : gI h1 2 6 = z (s.a.n 6) := J1.1.1.1.2.2.2.2.2.1
  have bad : ¬ (0 ≤ k ∧ (0 ≤ c ∧ c ≤ 1)) → Q (-1) h1 := fun e => by
    have := hq h1 J1
    unfold a_planned at this
    rw [if_neg e] at this
    exact this
  by_cases d1 : k < 0
  · rw [zn_0, if_pos (by rw [z_lt (by omega) (by omega) (by omega) (by omega)]; omega)]; exact bad (by omega)
  rw [zn_0, if_neg (by rw [z_lt (by omega) (by omega) (by omega) (by omega)]; omega)]
  by_cases d2 : c < 0
  · rw [if_pos (by rw [z_lt (by omega) (by omega) (by omega) (by omega)]; omega)]; exact bad (by omega)
  rw [if_neg (by rw [z_lt (by omega) (by omega) (by omega) (by omega)]; omega)]
  by_cases d3 : c ≤ 1
  · rw [if_pos (show z c ≤ 1 by rw [zn_1, z_le (by omega) (by omega) (by omega) (by omega)]; omega), iN_6, e26]
    have q := fun g' (x : IM g' s) => hq g' x
    unfold a_planned at q
    rw [if_pos ⟨by omega, by omega, d3⟩] at q
    by_cases kn : k < s.a.n 6
    · rw [if_pos (by rw [z_lt (by omega) (by omega) (by omega) (by omega)]; omega)]
      rw [if_pos kn] at q
      refine m_layPlan J1 (by omega) (fun g Jg b => ?_)
      have q := q g Jg
      cases hb : plB s.a with
      | none =>
        rw [hb] at b q
        rw [b.1 rfl, if_pos (show z (-1) = -1 from rfl)]
        exact q
      | some x =>
        obtain ⟨e, P⟩ := x
        have pl := plB_len nr hb
        rw [hb] at b q
        obtain ⟨y1, y2, y3⟩ := b.2 e P rfl
        rw [y1, if_neg (show ¬ z e = -1 from z_ne (by omega) (by omega) (by decide) (by decide) (show e ≠ -1 by omega))]
        have il : k.toNat < P.length := by omega
        have eP : P[k.toNat]? = some P[k.toNat] := List.getElem?_eq_getElem il
        obtain ⟨z1, z2⟩ := y3 k.toNat _ eP
        have eD : P.getD k.toNat (0, 0) = P[k.toNat] := by rw [List.getD_eq_getElem?_getD, eP]; rfl
        simp only [eD] at q
        by_cases c0 : c = 0
        · rw [if_pos (by rw [c0])]
          rw [if_pos c0] at q
          rw [z_iN (a := k) (by omega) (by omega), z1]
          exact ⟨z_in (by omega) (by omega) (by omega), q⟩
        · rw [if_neg (z_ne (by omega) (by omega) (by omega) (by omega) c0)]
          rw [if_neg c0] at q
          rw [z_iN (a := k) (by omega) (by omega), z2]
          exact ⟨z_in (by omega) (by omega) (by omega), q⟩
    · rw [if_neg (by rw [z_lt (by omega) (by omega) (by omega) (by omega)]; omega)]
      rw [if_neg kn] at q
      exact q h1 J1
  · rw [if_neg (show ¬ z c ≤ 1 by rw [zn_1, z_le (by omega) (by omega) (by omega) (by omega)]; omega)]
    exact bad (by omega)
end PLMS
