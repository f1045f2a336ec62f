/-! ===== OwnedSilence.owner, where it answers ===== -/
theorem xo_air {h : PH} {w : Nat} {s : St} {Q : Nat → PH → Prop} (I : IX h w s) (hq : ∀ g, IX g w s → KpX h g → AirX g 100 s.a (far s.a (-1)) → Q 100 g) : w_X9_freshAir h Q :=
  x_freshAir I.gh (fun g f N A => hq g (I.air N f).1 (I.air N f).2 (by rw [← far_sa (mkd_sa (fl h) s.a)]; exact A.sa (mkd_sa _ _).sy))
theorem ow_ans {D : va_G} {ca : Nat → ClassId} {ad : Nat → Nat} {K : Kt} {h : PH} {w : Nat} {s : St} {p k : Int} {Q : Int32 → PH → Prop} (C : CX (GX D ca ad) (XS (GX D ca ad)) cX9_owner RX9 3 (some .int) 7 K) (I : IX h w s) (hp : 0 ≤ p ∧ p < s.a.n 2) (hk : 0 ≤ k ∧ k ≤ 4) (hq : ∀ g, IX g w s → KpX h g → Q (z (a_owner s.a p k)) g) : PW (GX D ca ad) K 3 (qI Q) h 24 [some (.ref 0), some (.int (z p)), some (.int (z k))] [] := by
  obtain ⟨p1, p2, p3⟩ := I.1.p
  have n1 := I.1.1
  have n3 := I.1.2.2.1
  have n4 := I.1.2.2.2.1
  have h6 := n4.1.1
  have h24 := n4.2.2.2.2.2.2.2.2.2.2.1
  have ON := n4.2.1
  have OC := n4.2.2.1
  have OR := n4.2.2.2.1
  have tk : (z k).toInt = k := z_ti (by omega) (by omega)
  refine PW.ild2n C dX9_owner_24 ?_
  by_cases k0 : k = 0
  · have e : a_owner s.a p k = s.a.f 2 1 p := by unfold a_owner; rw [if_pos k0]
    refine PW.tin (tgt := 60) (off := 35) C dX9_owner_25 (by rw [tk]; omega) (by rw [tk]; omega) (by rw [tk, k0]; rfl) (by decide) ?_
    refine PW.ald0n C dX9_owner_60 ?_
    refine PW.get0 C cf_9 fl_X9_23 (by decide) oX_0 (fvP rfl p1) dX9_owner_61 ?_
    refine PW.getN0 C cf_8 fl_X9_122 (by decide) p2 (fvR (o := 5) rfl) dX9_owner_64 ?_
    refine PW.ild1n C dX9_owner_67 ?_
    refine PW.iconst (v := 1) C dX9_owner_68 (by decide) ?_
    refine PW.callVI2 (Q' := Q) C ms_X6_at ml_X9_136 dX9_owner_69 (sf_8_2 p2) ⟨_, _, rfl⟩ (Nat.le_of_ble_eq_true rfl) (by decide) (Nat.le_of_ble_eq_true rfl) (s_X6_at (sf_8_2 p2) (n3.at 2 1 (by decide) (by rw [p3]) (by decide) rfl rfl hp.1 hp.2 ?_)) ?_
    · rw [← e]; exact hq h I (KpX.rf h)
    · intro z4 h3 hw
      exact PW.iret C dX9_owner_72 ⟨_, rfl, hw⟩
  · by_cases k1 : k = 1
    · have e : a_owner s.a p k = s.a.f 2 2 p := by unfold a_owner; rw [if_neg k0, if_pos k1]
      refine PW.tin (tgt := 73) (off := 48) C dX9_owner_25 (by rw [tk]; omega) (by rw [tk]; omega) (by rw [tk, k1]; rfl) (by decide) ?_
      refine PW.ald0n C dX9_owner_73 ?_
      refine PW.get0 C cf_9 fl_X9_23 (by decide) oX_0 (fvP rfl p1) dX9_owner_74 ?_
      refine PW.getN0 C cf_8 fl_X9_122 (by decide) p2 (fvR (o := 5) rfl) dX9_owner_77 ?_
      refine PW.ild1n C dX9_owner_80 ?_
      refine PW.iconst (v := 2) C dX9_owner_81 (by decide) ?_
      refine PW.callVI2 (Q' := Q) C ms_X6_at ml_X9_136 dX9_owner_82 (sf_8_2 p2) ⟨_, _, rfl⟩ (Nat.le_of_ble_eq_true rfl) (by decide) (Nat.le_of_ble_eq_true rfl) (s_X6_at (sf_8_2 p2) (n3.at 2 2 (by decide) (by rw [p3]) (by decide) rfl rfl hp.1 hp.2 ?_)) ?_
      · rw [← e]; exact hq h I (KpX.rf h)
      · intro z4 h3 hw
        exact PW.iret C dX9_owner_85 ⟨_, rfl, hw⟩
    · by_cases k2 : k = 2
      · have e : a_owner s.a p k = mns s.a p := by unfold a_owner; rw [if_neg k0, if_neg k1, if_neg (by omega), if_neg (by omega)]
        refine PW.tin (tgt := 86) (off := 61) C dX9_owner_25 (by rw [tk]; omega) (by rw [tk]; omega) (by rw [tk, k2]; rfl) (by decide) ?_
        refine PW.ald0n C dX9_owner_86 ?_
        refine PW.callVR0 (Q' := fun x g => x = 100 ∧ IX g w s ∧ KpX h g ∧ AirX g 100 s.a (far s.a (-1))) C ms_X9_freshAir ml_X9_139 dX9_owner_87 oX_0 ⟨_, _, rfl⟩ (Nat.le_of_ble_eq_true rfl) (by decide) (Nat.le_of_ble_eq_true rfl) (s_X9_freshAir (xo_air I (fun g a b c => ⟨rfl, a, b, c⟩))) ?_
        rintro _ g ⟨rfl, I1, K1, A1⟩
        refine PW.ild1n C dX9_owner_90 ?_
        refine PW.callVI1 (Q' := Q) C ms_X0_minutesOf ml_X9_143 dX9_owner_91 oX_100 ⟨_, _, rfl⟩ (Nat.le_of_ble_eq_true rfl) (by decide) (Nat.le_of_ble_eq_true rfl) (s_X0_minutesOf oX_100 (x_minutesOf A1 n4 (by omega) ?_)) ?_
        · rw [← e]; exact hq g I1 K1
        · intro z4 h3 hw
          exact PW.iret C dX9_owner_94 ⟨_, rfl, hw⟩
      · by_cases k3 : k = 3
        · have e : a_owner s.a p k = trs s.a (far s.a (-1)) p (-1) := by unfold a_owner; rw [if_neg k0, if_neg k1, if_pos k3]
          refine PW.tin (tgt := 95) (off := 70) C dX9_owner_25 (by rw [tk]; omega) (by rw [tk]; omega) (by rw [tk, k3]; rfl) (by decide) ?_
          refine PW.ald0n C dX9_owner_95 ?_
          refine PW.callVR0 (Q' := fun x g => x = 100 ∧ IX g w s ∧ KpX h g ∧ AirX g 100 s.a (far s.a (-1))) C ms_X9_freshAir ml_X9_139 dX9_owner_96 oX_0 ⟨_, _, rfl⟩ (Nat.le_of_ble_eq_true rfl) (by decide) (Nat.le_of_ble_eq_true rfl) (s_X9_freshAir (xo_air I (fun g a b c => ⟨rfl, a, b, c⟩))) ?_
          rintro _ g ⟨rfl, I1, K1, A1⟩
          obtain ⟨r1, r2, r3⟩ := I1.1.p
          have m3 := I1.1.2.2.1
          refine PW.ald0n C dX9_owner_99 ?_
          refine PW.get0 C cf_9 fl_X9_23 (by decide) oX_0 (fvP rfl r1) dX9_owner_100 ?_
          refine PW.ild1n C dX9_owner_103 ?_
          refine PW.iconst (v := -1) C dX9_owner_104 (by decide) ?_
          refine PW.callVI3 (Q' := Q) C ms_X0_trespasses ml_X9_147 dX9_owner_105 oX_100 ⟨_, _, rfl⟩ (Nat.le_of_ble_eq_true rfl) (by decide) (Nat.le_of_ble_eq_true rfl) (s_X0_trespasses oX_100 r2 ?_) ?_
          · rw [r3, z_m1]
            refine x_trespasses m3 A1.2.1 A1.2.2.2.1 ON OC OR h6 (by omega) (by omega) ?_
            rw [← e]; exact hq g I1 K1
          · intro z4 h3 hw
            exact PW.iret C dX9_owner_108 ⟨_, rfl, hw⟩
        · have e : a_owner s.a p k = trs s.a (far s.a (-1)) (-1) p := by unfold a_owner; rw [if_neg k0, if_neg k1, if_neg k3, if_pos (by omega)]
          refine PW.tin (tgt := 109) (off := 84) C dX9_owner_25 (by rw [tk]; omega) (by rw [tk]; omega) (by rw [tk, show k = 4 by omega]; rfl) (by decide) ?_
          refine PW.ald0n C dX9_owner_109 ?_
          refine PW.callVR0 (Q' := fun x g => x = 100 ∧ IX g w s ∧ KpX h g ∧ AirX g 100 s.a (far s.a (-1))) C ms_X9_freshAir ml_X9_139 dX9_owner_110 oX_0 ⟨_, _, rfl⟩ (Nat.le_of_ble_eq_true rfl) (by decide) (Nat.le_of_ble_eq_true rfl) (s_X9_freshAir (xo_air I (fun g a b c => ⟨rfl, a, b, c⟩))) ?_
          rintro _ g ⟨rfl, I1, K1, A1⟩
          obtain ⟨r1, r2, r3⟩ := I1.1.p
          have m3 := I1.1.2.2.1
          refine PW.ald0n C dX9_owner_113 ?_
          refine PW.get0 C cf_9 fl_X9_23 (by decide) oX_0 (fvP rfl r1) dX9_owner_114 ?_
          refine PW.iconst (v := -1) C dX9_owner_117 (by decide) ?_
          refine PW.ild1n C dX9_owner_118 ?_
          refine PW.callVI3 (Q' := Q) C ms_X0_trespasses ml_X9_147 dX9_owner_119 oX_100 ⟨_, _, rfl⟩ (Nat.le_of_ble_eq_true rfl) (by decide) (Nat.le_of_ble_eq_true rfl) (s_X0_trespasses oX_100 r2 ?_) ?_
          · rw [r3, z_m1]
            refine x_trespasses m3 A1.2.1 A1.2.2.2.1 ON OC OR h6 (by omega) (by omega) ?_
            rw [← e]; exact hq g I1 K1
          · intro z4 h3 hw
            exact PW.iret C dX9_owner_122 ⟨_, rfl, hw⟩
