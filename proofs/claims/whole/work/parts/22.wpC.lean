def w_X0_measureWays_2 (t : Nat) (r1 : Nat) (k40 : PH → Prop) (Q : PH → Prop) (x2 : Int32) (kb : Int32 → PH → Prop) (x3 : Int32) (h : PH) : Prop :=
  if 36 ≤ x3 then (k40 h) else (if (x3 / 6) = (x3 - x3 / 6 * 6) then (vp_in x3 36 ∧ ∀ h4, h4 = sI h (t + 1) (iN x3) 0 → kb (x3 + 1) h4) else (vp_in x3 36 ∧ ∀ h2, h2 = sI h (t + 1) (iN x3) 1000000 → kb (x3 + 1) h2))
set_option maxRecDepth 8000 in
theorem b_X0_measureWays_2 {D : va_G} {ca : Nat → ClassId} {ad : Nat → Nat} {K : Kt} {t : Nat} {r1 : Nat} {k40 : PH → Prop} {kb : Int32 → PH → Prop} {Q : PH → Prop} {x2 : Int32} {x3 : Int32} {h : PH} (C : CX (GX D ca ad) (XS (GX D ca ad)) cX0_measureWays RX0 9 none 3 K) (ht : oX t 0) (hr1 : oX r1 8) (hk40 : ∀ (h : PH), k40 h → PW (GX D ca ad) K 9 (qV Q) h 40 [some (.ref t), some (.ref r1), some (.int x2), none, none, none, none, none, none] []) (hkb : ∀ (x3 : Int32) (h : PH), kb x3 h → PW (GX D ca ad) K 9 (qV Q) h 2 [some (.ref t), some (.ref r1), some (.int x2), some (.int x3), none, none, none, none, none] []) (hw : w_X0_measureWays_2 t r1 k40 Q x2 kb x3 h) : PW (GX D ca ad) K 9 (qV Q) h 2 [some (.ref t), some (.ref r1), some (.int x2), some (.int x3), none, none, none, none, none] [] := by
  unfold w_X0_measureWays_2 at hw
  refine PW.ild3n C dX0_measureWays_2 ?_
  refine PW.ald0n C dX0_measureWays_3 ?_
  refine PW.get0 C cf_0 fl_X0_9 (by decide) ht (fvR (o := 1) rfl) dX0_measureWays_4 ?_
  refine PW.alen (v := 36) C dX0_measureWays_7 (sf_0_0 ht) (by decide) (by decide) ?_
  refine PW.icmp_ge (tgt := 40) C dX0_measureWays_8 (by decide) (fun c => ?_) (fun c => ?_)
  · rw [if_pos c] at hw
    exact PW.wk (wk_s (wk_s (wk_s (wk_n (wk_n (wk_n (wk_n (wk_n (wk_n wk_0))))))))) (hk40 _ hw)
  · rw [if_neg c] at hw
    refine PW.ald0n C dX0_measureWays_11 ?_
    refine PW.get0 C cf_0 fl_X0_9 (by decide) ht (fvR (o := 1) rfl) dX0_measureWays_12 ?_
    refine PW.ild3n C dX0_measureWays_15 ?_
    refine PW.ild3n C dX0_measureWays_16 ?_
    refine PW.bipush (v := 6) C dX0_measureWays_17 (by decide) ?_
    refine PW.idiv C dX0_measureWays_19 (by decide) ?_
    refine PW.ild3n C dX0_measureWays_20 ?_
    refine PW.bipush (v := 6) C dX0_measureWays_21 (by decide) ?_
    refine PW.irem C dX0_measureWays_23 (by decide) ?_
    refine PW.icmp_ne (tgt := 31) C dX0_measureWays_24 (by decide) (fun c => ?_) (fun c => ?_)
    · rw [if_neg c] at hw
      refine PW.ldc (v := 1000000) C cs_X0_28 dX0_measureWays_31 ?_
      obtain ⟨hc1, hw⟩ := hw
      replace hw := hw _ rfl
      refine PW.iast C dX0_measureWays_33 (sf_0_0 ht) hc1 ?_
      refine PW.inc3 (v := 1) C dX0_measureWays_34 (by decide) rfl (by decide) ?_
      refine PW.goto (tgt := 2) C dX0_measureWays_37 (by decide) ?_
      exact PW.wk (wk_s (wk_s (wk_s (wk_s (wk_n (wk_n (wk_n (wk_n (wk_n wk_0))))))))) (hkb _ _ hw)
    · rw [if_pos c] at hw
      refine PW.iconst (v := 0) C dX0_measureWays_27 (by decide) ?_
      refine PW.goto (tgt := 33) C dX0_measureWays_28 (by decide) ?_
      obtain ⟨hc3, hw⟩ := hw
      replace hw := hw _ rfl
      refine PW.iast C dX0_measureWays_33 (sf_0_0 ht) hc3 ?_
      refine PW.inc3 (v := 1) C dX0_measureWays_34 (by decide) rfl (by decide) ?_
      refine PW.goto (tgt := 2) C dX0_measureWays_37 (by decide) ?_
      exact PW.wk (wk_s (wk_s (wk_s (wk_s (wk_n (wk_n (wk_n (wk_n (wk_n wk_0))))))))) (hkb _ _ hw)
theorem l_X0_measureWays_2 {D : va_G} {ca : Nat → ClassId} {ad : Nat → Nat} {K : Kt} {t : Nat} {r1 : Nat} {k40 : PH → Prop} {Q : PH → Prop} {x2 : Int32} (C : CX (GX D ca ad) (XS (GX D ca ad)) cX0_measureWays RX0 9 none 3 K) (ht : oX t 0) (hr1 : oX r1 8) (hk40 : ∀ (h : PH), k40 h → PW (GX D ca ad) K 9 (qV Q) h 40 [some (.ref t), some (.ref r1), some (.int x2), none, none, none, none, none, none] []) : ∀ (n : Nat) (x3 : Int32) (h : PH), Lp1 (w_X0_measureWays_2 t r1 k40 Q x2) n x3 h → PW (GX D ca ad) K 9 (qV Q) h 2 [some (.ref t), some (.ref r1), some (.int x2), some (.int x3), none, none, none, none, none] [] := by
  intro n
  induction n with
  | zero => intro x3 h hw; exact hw.elim
  | succ n ih => intro x3 h hw; exact b_X0_measureWays_2 C ht hr1 hk40 (fun x3 h hw => ih x3 h hw) hw
def w_X0_measureWays_48 (t : Nat) (r1 : Nat) (k163 : PH → Prop) (Q : PH → Prop) (x2 : Int32) (kb : Int32 → PH → Prop) (x4 : Int32) (h : PH) : Prop :=
  if (gI h (r1 + 3) 3) ≤ x4 then (k163 h) else (w_X6_at (r1 + 3) x4 0 h (fun z7 h6 => w_X6_at (r1 + 3) x4 1 h6 (fun z9 h8 => if x4 = x2 then (kb (x4 + 1) h8) else (w_X6_has (r1 + 1) z7 h8 (fun z11 h10 => if z11 = 0 then (kb (x4 + 1) h10) else (w_X6_has (r1 + 1) z9 h10 (fun z13 h12 => if z13 = 0 then (kb (x4 + 1) h12) else (w_X6_at (r1 + 3) x4 2 h12 (fun z15 h14 => w_X6_at (r1 + 3) x4 3 h14 (fun z17 h16 => ∀ (y18 : Int32), y18 = (z15 + (z17 * (gI h16 r1 9))) → vp_in ((z7 * 6) + z9) 36 ∧ ∀ h20, h20 = sI h16 (t + 1) (iN ((z7 * 6) + z9)) y18 → vp_in ((z9 * 6) + z7) 36 ∧ ∀ h22, h22 = sI h20 (t + 1) (iN ((z9 * 6) + z7)) y18 → kb (x4 + 1) h22))))))))))
set_option maxRecDepth 8000 in
theorem b_X0_measureWays_48 {D : va_G} {ca : Nat → ClassId} {ad : Nat → Nat} {K : Kt} {t : Nat} {r1 : Nat} {k163 : PH → Prop} {kb : Int32 → PH → Prop} {Q : PH → Prop} {x2 : Int32} {x4 : Int32} {h : PH} (C : CX (GX D ca ad) (XS (GX D ca ad)) cX0_measureWays RX0 9 none 3 K) (ht : oX t 0) (hr1 : oX r1 8) (hk163 : ∀ (h : PH), k163 h → PW (GX D ca ad) K 9 (qV Q) h 163 [some (.ref t), some (.ref r1), none, none, none, none, none, none, none] []) (hkb : ∀ (x4 : Int32) (h : PH), kb x4 h → PW (GX D ca ad) K 9 (qV Q) h 48 [some (.ref t), some (.ref r1), some (.int x2), some (.ref (r1 + 3)), some (.int x4), none, none, none, none] []) (hw : w_X0_measureWays_48 t r1 k163 Q x2 kb x4 h) : PW (GX D ca ad) K 9 (qV Q) h 48 [some (.ref t), some (.ref r1), some (.int x2), some (.ref (r1 + 3)), some (.int x4), none, none, none, none] [] := by
  unfold w_X0_measureWays_48 at hw
  refine PW.ild4 C dX0_measureWays_48 ?_
  refine PW.ald3n C dX0_measureWays_50 ?_
  refine PW.getN0 C cf_6 fl_X0_35 (by decide) (sf_8_1 hr1) (fvI rfl) dX0_measureWays_51 ?_
  refine PW.icmp_ge (tgt := 163) C dX0_measureWays_54 (by decide) (fun c => ?_) (fun c => ?_)
  · rw [if_pos c] at hw
    exact PW.wk (wk_s (wk_s (wk_n (wk_n (wk_n (wk_n (wk_n (wk_n (wk_n wk_0))))))))) (hk163 _ hw)
  · rw [if_neg c] at hw
    refine PW.ald3n C dX0_measureWays_57 ?_
    refine PW.ild4 C dX0_measureWays_58 ?_
    refine PW.iconst (v := 0) C dX0_measureWays_60 (by decide) ?_
    refine PW.callVI2 C ms_X6_at ml_X0_41 dX0_measureWays_61 (sf_8_1 hr1) ⟨_, _, rfl⟩ (Nat.le_of_ble_eq_true rfl) (by decide) (Nat.le_of_ble_eq_true rfl) (s_X6_at (sf_8_1 hr1) hw) ?_
    clear hw
    intro z7 h6 hw
    refine PW.ist5 C dX0_measureWays_64 (by decide) rfl ?_
    refine PW.ald3n C dX0_measureWays_66 ?_
    refine PW.ild4 C dX0_measureWays_67 ?_
    refine PW.iconst (v := 1) C dX0_measureWays_69 (by decide) ?_
    refine PW.callVI2 C ms_X6_at ml_X0_41 dX0_measureWays_70 (sf_8_1 hr1) ⟨_, _, rfl⟩ (Nat.le_of_ble_eq_true rfl) (by decide) (Nat.le_of_ble_eq_true rfl) (s_X6_at (sf_8_1 hr1) hw) ?_
    clear hw
    intro z9 h8 hw
    refine PW.ist6 C dX0_measureWays_73 (by decide) rfl ?_
    refine PW.ild4 C dX0_measureWays_75 ?_
    refine PW.ild2n C dX0_measureWays_77 ?_
    refine PW.icmp_eq (tgt := 157) C dX0_measureWays_78 (by decide) (fun c => ?_) (fun c => ?_)
    · rw [if_pos c] at hw
      refine PW.inc4 (v := 1) C dX0_measureWays_157 (by decide) rfl (by decide) ?_
      refine PW.goto (tgt := 48) C dX0_measureWays_160 (by decide) ?_
      exact PW.wk (wk_s (wk_s (wk_s (wk_s (wk_s (wk_n (wk_n (wk_n (wk_n wk_0))))))))) (hkb _ _ hw)
    · rw [if_neg c] at hw
      refine PW.ald1n C dX0_measureWays_81 ?_
      refine PW.getN0 C cf_8 fl_X0_45 (by decide) hr1 (fvR (o := 1) rfl) dX0_measureWays_82 ?_
      refine PW.ild5 C dX0_measureWays_85 ?_
      refine PW.callVI1 C ms_X6_has ml_X0_48 dX0_measureWays_87 (sf_8_0 hr1) ⟨_, _, rfl⟩ (Nat.le_of_ble_eq_true rfl) (by decide) (Nat.le_of_ble_eq_true rfl) (s_X6_has (sf_8_0 hr1) hw) ?_
      clear hw
      intro z11 h10 hw
      refine PW.if_eq (tgt := 157) C dX0_measureWays_90 (by decide) (fun c => ?_) (fun c => ?_)
      · rw [if_pos c] at hw
        refine PW.inc4 (v := 1) C dX0_measureWays_157 (by decide) rfl (by decide) ?_
        refine PW.goto (tgt := 48) C dX0_measureWays_160 (by decide) ?_
        exact PW.wk (wk_s (wk_s (wk_s (wk_s (wk_s (wk_n (wk_n (wk_n (wk_n wk_0))))))))) (hkb _ _ hw)
      · rw [if_neg c] at hw
        refine PW.ald1n C dX0_measureWays_93 ?_
        refine PW.getN0 C cf_8 fl_X0_45 (by decide) hr1 (fvR (o := 1) rfl) dX0_measureWays_94 ?_
        refine PW.ild6 C dX0_measureWays_97 ?_
        refine PW.callVI1 C ms_X6_has ml_X0_48 dX0_measureWays_99 (sf_8_0 hr1) ⟨_, _, rfl⟩ (Nat.le_of_ble_eq_true rfl) (by decide) (Nat.le_of_ble_eq_true rfl) (s_X6_has (sf_8_0 hr1) hw) ?_
        clear hw
        intro z13 h12 hw
        refine PW.if_eq (tgt := 157) C dX0_measureWays_102 (by decide) (fun c => ?_) (fun c => ?_)
        · rw [if_pos c] at hw
          refine PW.inc4 (v := 1) C dX0_measureWays_157 (by decide) rfl (by decide) ?_
          refine PW.goto (tgt := 48) C dX0_measureWays_160 (by decide) ?_
          exact PW.wk (wk_s (wk_s (wk_s (wk_s (wk_s (wk_n (wk_n (wk_n (wk_n wk_0))))))))) (hkb _ _ hw)
        · rw [if_neg c] at hw
          refine PW.ald3n C dX0_measureWays_105 ?_
          refine PW.ild4 C dX0_measureWays_106 ?_
          refine PW.iconst (v := 2) C dX0_measureWays_108 (by decide) ?_
          refine PW.callVI2 C ms_X6_at ml_X0_41 dX0_measureWays_109 (sf_8_1 hr1) ⟨_, _, rfl⟩ (Nat.le_of_ble_eq_true rfl) (by decide) (Nat.le_of_ble_eq_true rfl) (s_X6_at (sf_8_1 hr1) hw) ?_
          clear hw
          intro z15 h14 hw
          refine PW.ald3n C dX0_measureWays_112 ?_
          refine PW.ild4 C dX0_measureWays_113 ?_
          refine PW.iconst (v := 3) C dX0_measureWays_115 (by decide) ?_
          refine PW.callVI2 C ms_X6_at ml_X0_41 dX0_measureWays_116 (sf_8_1 hr1) ⟨_, _, rfl⟩ (Nat.le_of_ble_eq_true rfl) (by decide) (Nat.le_of_ble_eq_true rfl) (s_X6_at (sf_8_1 hr1) hw) ?_
          clear hw
          intro z17 h16 hw
          refine PW.ald1n C dX0_measureWays_119 ?_
          refine PW.getN0 C cf_8 fl_X0_52 (by decide) hr1 (fvI rfl) dX0_measureWays_120 ?_
          refine PW.imul C dX0_measureWays_123 ?_
          refine PW.iadd C dX0_measureWays_124 ?_
          replace hw := hw _ rfl
          refine PW.ist7 C dX0_measureWays_125 (by decide) rfl ?_
          refine PW.ald0n C dX0_measureWays_127 ?_
          refine PW.get0 C cf_0 fl_X0_9 (by decide) ht (fvR (o := 1) rfl) dX0_measureWays_128 ?_
          refine PW.ild5 C dX0_measureWays_131 ?_
          refine PW.bipush (v := 6) C dX0_measureWays_133 (by decide) ?_
          refine PW.imul C dX0_measureWays_135 ?_
          refine PW.ild6 C dX0_measureWays_136 ?_
          refine PW.iadd C dX0_measureWays_138 ?_
          refine PW.ild7 C dX0_measureWays_139 ?_
          obtain ⟨hc19, hw⟩ := hw
          replace hw := hw _ rfl
          refine PW.iast C dX0_measureWays_141 (sf_0_0 ht) hc19 ?_
          refine PW.ald0n C dX0_measureWays_142 ?_
          refine PW.get0 C cf_0 fl_X0_9 (by decide) ht (fvR (o := 1) rfl) dX0_measureWays_143 ?_
          refine PW.ild6 C dX0_measureWays_146 ?_
          refine PW.bipush (v := 6) C dX0_measureWays_148 (by decide) ?_
          refine PW.imul C dX0_measureWays_150 ?_
          refine PW.ild5 C dX0_measureWays_151 ?_
          refine PW.iadd C dX0_measureWays_153 ?_
          refine PW.ild7 C dX0_measureWays_154 ?_
          obtain ⟨hc21, hw⟩ := hw
          replace hw := hw _ rfl
          refine PW.iast C dX0_measureWays_156 (sf_0_0 ht) hc21 ?_
          refine PW.inc4 (v := 1) C dX0_measureWays_157 (by decide) rfl (by decide) ?_
          refine PW.goto (tgt := 48) C dX0_measureWays_160 (by decide) ?_
          exact PW.wk (wk_s (wk_s (wk_s (wk_s (wk_s (wk_n (wk_n (wk_n (wk_n wk_0))))))))) (hkb _ _ hw)
theorem l_X0_measureWays_48 {D : va_G} {ca : Nat → ClassId} {ad : Nat → Nat} {K : Kt} {t : Nat} {r1 : Nat} {k163 : PH → Prop} {Q : PH → Prop} {x2 : Int32} (C : CX (GX D ca ad) (XS (GX D ca ad)) cX0_measureWays RX0 9 none 3 K) (ht : oX t 0) (hr1 : oX r1 8) (hk163 : ∀ (h : PH), k163 h → PW (GX D ca ad) K 9 (qV Q) h 163 [some (.ref t), some (.ref r1), none, none, none, none, none, none, none] []) : ∀ (n : Nat) (x4 : Int32) (h : PH), Lp1 (w_X0_measureWays_48 t r1 k163 Q x2) n x4 h → PW (GX D ca ad) K 9 (qV Q) h 48 [some (.ref t), some (.ref r1), some (.int x2), some (.ref (r1 + 3)), some (.int x4), none, none, none, none] [] := by
  intro n
  induction n with
  | zero => intro x4 h hw; exact hw.elim
  | succ n ih => intro x4 h hw; exact b_X0_measureWays_48 C ht hr1 hk163 (fun x4 h hw => ih x4 h hw) hw
def w_X0_measureWays_200 (t : Nat) (r1 : Nat) (k275 : PH → Prop) (Q : PH → Prop) (x4 : Int32) (x5 : Int32) (x6 : Int32) (kb : Int32 → PH → Prop) (x7 : Int32) (h : PH) : Prop :=
  if x4 ≤ x7 then (k275 h) else (vp_in ((x6 * 6) + x5) 36 ∧ vp_in ((x5 * 6) + x7) 36 ∧ ∀ (y27 : Int32), y27 = ((gI h (t + 1) (iN ((x6 * 6) + x5))) + (gI h (t + 1) (iN ((x5 * 6) + x7)))) → vp_in ((x6 * 6) + x7) 36 ∧ if (gI h (t + 1) (iN ((x6 * 6) + x7))) ≤ y27 then (kb (x7 + 1) h) else (vp_in ((x6 * 6) + x7) 36 ∧ ∀ h30, h30 = sI h (t + 1) (iN ((x6 * 6) + x7)) y27 → kb (x7 + 1) h30))
set_option maxRecDepth 8000 in
theorem b_X0_measureWays_200 {D : va_G} {ca : Nat → ClassId} {ad : Nat → Nat} {K : Kt} {t : Nat} {r1 : Nat} {k275 : PH → Prop} {kb : Int32 → PH → Prop} {Q : PH → Prop} {x4 : Int32} {x5 : Int32} {x6 : Int32} {x7 : Int32} {h : PH} (C : CX (GX D ca ad) (XS (GX D ca ad)) cX0_measureWays RX0 9 none 3 K) (ht : oX t 0) (hr1 : oX r1 8) (hk275 : ∀ (h : PH), k275 h → PW (GX D ca ad) K 9 (qV Q) h 275 [some (.ref t), none, none, none, some (.int x4), some (.int x5), some (.int x6), none, none] []) (hkb : ∀ (x7 : Int32) (h : PH), kb x7 h → PW (GX D ca ad) K 9 (qV Q) h 200 [some (.ref t), none, none, none, some (.int x4), some (.int x5), some (.int x6), some (.int x7), none] []) (hw : w_X0_measureWays_200 t r1 k275 Q x4 x5 x6 kb x7 h) : PW (GX D ca ad) K 9 (qV Q) h 200 [some (.ref t), none, none, none, some (.int x4), some (.int x5), some (.int x6), some (.int x7), none] [] := by
  unfold w_X0_measureWays_200 at hw
  refine PW.ild7 C dX0_measureWays_200 ?_
  refine PW.ild4 C dX0_measureWays_202 ?_
  refine PW.icmp_ge (tgt := 275) C dX0_measureWays_204 (by decide) (fun c => ?_) (fun c => ?_)
  · rw [if_pos c] at hw
    exact PW.wk (wk_s (wk_n (wk_n (wk_n (wk_s (wk_s (wk_s (wk_n (wk_n wk_0))))))))) (hk275 _ hw)
  · rw [if_neg c] at hw
    refine PW.ald0n C dX0_measureWays_207 ?_
    refine PW.get0 C cf_0 fl_X0_9 (by decide) ht (fvR (o := 1) rfl) dX0_measureWays_208 ?_
    refine PW.ild6 C dX0_measureWays_211 ?_
    refine PW.bipush (v := 6) C dX0_measureWays_213 (by decide) ?_
    refine PW.imul C dX0_measureWays_215 ?_
    refine PW.ild5 C dX0_measureWays_216 ?_
    refine PW.iadd C dX0_measureWays_218 ?_
    obtain ⟨hc25, hw⟩ := hw
    refine PW.iald C dX0_measureWays_219 (sf_0_0 ht) hc25 ?_
    refine PW.ald0n C dX0_measureWays_220 ?_
    refine PW.get0 C cf_0 fl_X0_9 (by decide) ht (fvR (o := 1) rfl) dX0_measureWays_221 ?_
    refine PW.ild5 C dX0_measureWays_224 ?_
    refine PW.bipush (v := 6) C dX0_measureWays_226 (by decide) ?_
    refine PW.imul C dX0_measureWays_228 ?_
    refine PW.ild7 C dX0_measureWays_229 ?_
    refine PW.iadd C dX0_measureWays_231 ?_
    obtain ⟨hc26, hw⟩ := hw
    refine PW.iald C dX0_measureWays_232 (sf_0_0 ht) hc26 ?_
    refine PW.iadd C dX0_measureWays_233 ?_
    replace hw := hw _ rfl
    refine PW.ist8 C dX0_measureWays_234 (by decide) rfl ?_
    refine PW.ild8 C dX0_measureWays_236 ?_
    refine PW.ald0n C dX0_measureWays_238 ?_
    refine PW.get0 C cf_0 fl_X0_9 (by decide) ht (fvR (o := 1) rfl) dX0_measureWays_239 ?_
    refine PW.ild6 C dX0_measureWays_242 ?_
    refine PW.bipush (v := 6) C dX0_measureWays_244 (by decide) ?_
    refine PW.imul C dX0_measureWays_246 ?_
    refine PW.ild7 C dX0_measureWays_247 ?_
    refine PW.iadd C dX0_measureWays_249 ?_
    obtain ⟨hc28, hw⟩ := hw
    refine PW.iald C dX0_measureWays_250 (sf_0_0 ht) hc28 ?_
    refine PW.icmp_ge (tgt := 269) C dX0_measureWays_251 (by decide) (fun c => ?_) (fun c => ?_)
    · rw [if_pos c] at hw
      refine PW.inc7 (v := 1) C dX0_measureWays_269 (by decide) rfl (by decide) ?_
      refine PW.goto (tgt := 200) C dX0_measureWays_272 (by decide) ?_
      exact PW.wk (wk_s (wk_n (wk_n (wk_n (wk_s (wk_s (wk_s (wk_s (wk_n wk_0))))))))) (hkb _ _ hw)
    · rw [if_neg c] at hw
      refine PW.ald0n C dX0_measureWays_254 ?_
      refine PW.get0 C cf_0 fl_X0_9 (by decide) ht (fvR (o := 1) rfl) dX0_measureWays_255 ?_
      refine PW.ild6 C dX0_measureWays_258 ?_
      refine PW.bipush (v := 6) C dX0_measureWays_260 (by decide) ?_
      refine PW.imul C dX0_measureWays_262 ?_
      refine PW.ild7 C dX0_measureWays_263 ?_
      refine PW.iadd C dX0_measureWays_265 ?_
      refine PW.ild8 C dX0_measureWays_266 ?_
      obtain ⟨hc29, hw⟩ := hw
      replace hw := hw _ rfl
      refine PW.iast C dX0_measureWays_268 (sf_0_0 ht) hc29 ?_
      refine PW.inc7 (v := 1) C dX0_measureWays_269 (by decide) rfl (by decide) ?_
      refine PW.goto (tgt := 200) C dX0_measureWays_272 (by decide) ?_
      exact PW.wk (wk_s (wk_n (wk_n (wk_n (wk_s (wk_s (wk_s (wk_s (wk_n wk_0))))))))) (hkb _ _ hw)
theorem l_X0_measureWays_200 {D : va_G} {ca : Nat → ClassId} {ad : Nat → Nat} {K : Kt} {t : Nat} {r1 : Nat} {k275 : PH → Prop} {Q : PH → Prop} {x4 : Int32} {x5 : Int32} {x6 : Int32} (C : CX (GX D ca ad) (XS (GX D ca ad)) cX0_measureWays RX0 9 none 3 K) (ht : oX t 0) (hr1 : oX r1 8) (hk275 : ∀ (h : PH), k275 h → PW (GX D ca ad) K 9 (qV Q) h 275 [some (.ref t), none, none, none, some (.int x4), some (.int x5), some (.int x6), none, none] []) : ∀ (n : Nat) (x7 : Int32) (h : PH), Lp1 (w_X0_measureWays_200 t r1 k275 Q x4 x5 x6) n x7 h → PW (GX D ca ad) K 9 (qV Q) h 200 [some (.ref t), none, none, none, some (.int x4), some (.int x5), some (.int x6), some (.int x7), none] [] := by
  intro n
  induction n with
  | zero => intro x7 h hw; exact hw.elim
  | succ n ih => intro x7 h hw; exact b_X0_measureWays_200 C ht hr1 hk275 (fun x7 h hw => ih x7 h hw) hw
def w_X0_measureWays_190 (t : Nat) (r1 : Nat) (k281 : PH → Prop) (Q : PH → Prop) (x4 : Int32) (x5 : Int32) (kb : Int32 → PH → Prop) (x6 : Int32) (h : PH) : Prop :=
  if x4 ≤ x6 then (k281 h) else (∃ n, Lp1 (w_X0_measureWays_200 t r1 (fun h31 => kb (x6 + 1) h31) Q x4 x5 x6) n 0 h)
set_option maxRecDepth 8000 in
theorem b_X0_measureWays_190 {D : va_G} {ca : Nat → ClassId} {ad : Nat → Nat} {K : Kt} {t : Nat} {r1 : Nat} {k281 : PH → Prop} {kb : Int32 → PH → Prop} {Q : PH → Prop} {x4 : Int32} {x5 : Int32} {x6 : Int32} {h : PH} (C : CX (GX D ca ad) (XS (GX D ca ad)) cX0_measureWays RX0 9 none 3 K) (ht : oX t 0) (hr1 : oX r1 8) (hk281 : ∀ (h : PH), k281 h → PW (GX D ca ad) K 9 (qV Q) h 281 [some (.ref t), none, none, none, some (.int x4), some (.int x5), none, none, none] []) (hkb : ∀ (x6 : Int32) (h : PH), kb x6 h → PW (GX D ca ad) K 9 (qV Q) h 190 [some (.ref t), none, none, none, some (.int x4), some (.int x5), some (.int x6), none, none] []) (hw : w_X0_measureWays_190 t r1 k281 Q x4 x5 kb x6 h) : PW (GX D ca ad) K 9 (qV Q) h 190 [some (.ref t), none, none, none, some (.int x4), some (.int x5), some (.int x6), none, none] [] := by
  unfold w_X0_measureWays_190 at hw
  refine PW.ild6 C dX0_measureWays_190 ?_
  refine PW.ild4 C dX0_measureWays_192 ?_
  refine PW.icmp_ge (tgt := 281) C dX0_measureWays_194 (by decide) (fun c => ?_) (fun c => ?_)
  · rw [if_pos c] at hw
    exact PW.wk (wk_s (wk_n (wk_n (wk_n (wk_s (wk_s (wk_n (wk_n (wk_n wk_0))))))))) (hk281 _ hw)
  · rw [if_neg c] at hw
    refine PW.iconst (v := 0) C dX0_measureWays_197 (by decide) ?_
    refine PW.ist7 C dX0_measureWays_198 (by decide) rfl ?_
    obtain ⟨n, hw⟩ := hw
    refine PW.wk (wk_s (wk_n (wk_n (wk_n (wk_s (wk_s (wk_s (wk_s (wk_n wk_0))))))))) (l_X0_measureWays_200 C ht hr1 ?_ n _ _ hw)
    · intro h31 hw
      refine PW.inc6 (v := 1) C dX0_measureWays_275 (by decide) rfl (by decide) ?_
      refine PW.goto (tgt := 190) C dX0_measureWays_278 (by decide) ?_
      exact PW.wk (wk_s (wk_n (wk_n (wk_n (wk_s (wk_s (wk_s (wk_n (wk_n wk_0))))))))) (hkb _ _ hw)
theorem l_X0_measureWays_190 {D : va_G} {ca : Nat → ClassId} {ad : Nat → Nat} {K : Kt} {t : Nat} {r1 : Nat} {k281 : PH → Prop} {Q : PH → Prop} {x4 : Int32} {x5 : Int32} (C : CX (GX D ca ad) (XS (GX D ca ad)) cX0_measureWays RX0 9 none 3 K) (ht : oX t 0) (hr1 : oX r1 8) (hk281 : ∀ (h : PH), k281 h → PW (GX D ca ad) K 9 (qV Q) h 281 [some (.ref t), none, none, none, some (.int x4), some (.int x5), none, none, none] []) : ∀ (n : Nat) (x6 : Int32) (h : PH), Lp1 (w_X0_measureWays_190 t r1 k281 Q x4 x5) n x6 h → PW (GX D ca ad) K 9 (qV Q) h 190 [some (.ref t), none, none, none, some (.int x4), some (.int x5), some (.int x6), none, none] [] := by
  intro n
  induction n with
  | zero => intro x6 h hw; exact hw.elim
  | succ n ih => intro x6 h hw; exact b_X0_measureWays_190 C ht hr1 hk281 (fun x6 h hw => ih x6 h hw) hw
def w_X0_measureWays_180 (t : Nat) (r1 : Nat) (k287 : PH → Prop) (Q : PH → Prop) (x4 : Int32) (kb : Int32 → PH → Prop) (x5 : Int32) (h : PH) : Prop :=
  if x4 ≤ x5 then (k287 h) else (∃ n, Lp1 (w_X0_measureWays_190 t r1 (fun h32 => kb (x5 + 1) h32) Q x4 x5) n 0 h)
set_option maxRecDepth 8000 in
theorem b_X0_measureWays_180 {D : va_G} {ca : Nat → ClassId} {ad : Nat → Nat} {K : Kt} {t : Nat} {r1 : Nat} {k287 : PH → Prop} {kb : Int32 → PH → Prop} {Q : PH → Prop} {x4 : Int32} {x5 : Int32} {h : PH} (C : CX (GX D ca ad) (XS (GX D ca ad)) cX0_measureWays RX0 9 none 3 K) (ht : oX t 0) (hr1 : oX r1 8) (hk287 : ∀ (h : PH), k287 h → PW (GX D ca ad) K 9 (qV Q) h 287 [none, none, none, none, none, none, none, none, none] []) (hkb : ∀ (x5 : Int32) (h : PH), kb x5 h → PW (GX D ca ad) K 9 (qV Q) h 180 [some (.ref t), none, none, none, some (.int x4), some (.int x5), none, none, none] []) (hw : w_X0_measureWays_180 t r1 k287 Q x4 kb x5 h) : PW (GX D ca ad) K 9 (qV Q) h 180 [some (.ref t), none, none, none, some (.int x4), some (.int x5), none, none, none] [] := by
  unfold w_X0_measureWays_180 at hw
  refine PW.ild5 C dX0_measureWays_180 ?_
  refine PW.ild4 C dX0_measureWays_182 ?_
  refine PW.icmp_ge (tgt := 287) C dX0_measureWays_184 (by decide) (fun c => ?_) (fun c => ?_)
  · rw [if_pos c] at hw
    exact PW.wk (wk_n (wk_n (wk_n (wk_n (wk_n (wk_n (wk_n (wk_n (wk_n wk_0))))))))) (hk287 _ hw)
  · rw [if_neg c] at hw
    refine PW.iconst (v := 0) C dX0_measureWays_187 (by decide) ?_
    refine PW.ist6 C dX0_measureWays_188 (by decide) rfl ?_
    obtain ⟨n, hw⟩ := hw
    refine PW.wk (wk_s (wk_n (wk_n (wk_n (wk_s (wk_s (wk_s (wk_n (wk_n wk_0))))))))) (l_X0_measureWays_190 C ht hr1 ?_ n _ _ hw)
    · intro h32 hw
      refine PW.inc5 (v := 1) C dX0_measureWays_281 (by decide) rfl (by decide) ?_
      refine PW.goto (tgt := 180) C dX0_measureWays_284 (by decide) ?_
      exact PW.wk (wk_s (wk_n (wk_n (wk_n (wk_s (wk_s (wk_n (wk_n (wk_n wk_0))))))))) (hkb _ _ hw)
theorem l_X0_measureWays_180 {D : va_G} {ca : Nat → ClassId} {ad : Nat → Nat} {K : Kt} {t : Nat} {r1 : Nat} {k287 : PH → Prop} {Q : PH → Prop} {x4 : Int32} (C : CX (GX D ca ad) (XS (GX D ca ad)) cX0_measureWays RX0 9 none 3 K) (ht : oX t 0) (hr1 : oX r1 8) (hk287 : ∀ (h : PH), k287 h → PW (GX D ca ad) K 9 (qV Q) h 287 [none, none, none, none, none, none, none, none, none] []) : ∀ (n : Nat) (x5 : Int32) (h : PH), Lp1 (w_X0_measureWays_180 t r1 k287 Q x4) n x5 h → PW (GX D ca ad) K 9 (qV Q) h 180 [some (.ref t), none, none, none, some (.int x4), some (.int x5), none, none, none] [] := by
  intro n
  induction n with
  | zero => intro x5 h hw; exact hw.elim
  | succ n ih => intro x5 h hw; exact b_X0_measureWays_180 C ht hr1 hk287 (fun x5 h hw => ih x5 h hw) hw
def w_X0_measureWays (t : Nat) (r1 : Nat) (x2 : Int32) (h : PH) (Q : PH → Prop) : Prop :=
  ∃ n, Lp1 (w_X0_measureWays_2 t r1 (fun h5 => ∃ n, Lp1 (w_X0_measureWays_48 t r1 (fun h23 => ∀ (y24 : Int32), y24 = (mnI (gI h23 (r1 + 1) 3) 6) → ∃ n, Lp1 (w_X0_measureWays_180 t r1 (fun h33 => Q h33) Q y24) n 0 h23) Q x2) n 0 h5) Q x2) n 0 h
set_option maxRecDepth 8000 in
theorem s_X0_measureWays {D : va_G} {ca : Nat → ClassId} {ad : Nat → Nat} {l : Launch} {t : Nat} {r1 : Nat} {x2 : Int32} {h : PH} {Q : PH → Prop} (ht : oX t 0) (hr1 : oX r1 8) (hw : w_X0_measureWays t r1 x2 h Q) : Sp (GX D ca ad) (XS (GX D ca ad)) l 3 yX0_measureWays cX0_measureWays 9 none [.ref t, .ref r1, .int x2] h (qV Q) := by
  refine Sp.of (own := RX0) [some (.ref t), some (.ref r1), some (.int x2), none, none, none, none, none, none] (by decide +kernel) rfl rfl (Nat.le_of_ble_eq_true rfl) (fun K hl C => ?_)
  subst hl
  unfold w_X0_measureWays at hw
  refine PW.iconst (v := 0) C dX0_measureWays_0 (by decide) ?_
  refine PW.ist3n C dX0_measureWays_1 (by decide) rfl ?_
  obtain ⟨n, hw⟩ := hw
  refine PW.wk (wk_s (wk_s (wk_s (wk_s (wk_n (wk_n (wk_n (wk_n (wk_n wk_0))))))))) (l_X0_measureWays_2 C ht hr1 ?_ n _ _ hw)
  · intro h5 hw
    refine PW.ald1n C dX0_measureWays_40 ?_
    refine PW.getN0 C cf_8 fl_X0_29 (by decide) hr1 (fvR (o := 3) rfl) dX0_measureWays_41 ?_
    refine PW.ast3n C dX0_measureWays_44 (by decide) rfl ?_
    refine PW.iconst (v := 0) C dX0_measureWays_45 (by decide) ?_
    refine PW.ist4 C dX0_measureWays_46 (by decide) rfl ?_
    obtain ⟨n, hw⟩ := hw
    refine PW.wk (wk_s (wk_s (wk_s (wk_s (wk_s (wk_n (wk_n (wk_n (wk_n wk_0))))))))) (l_X0_measureWays_48 C ht hr1 ?_ n _ _ hw)
    · intro h23 hw
      refine PW.ald1n C dX0_measureWays_163 ?_
      refine PW.getN0 C cf_8 fl_X0_45 (by decide) hr1 (fvR (o := 1) rfl) dX0_measureWays_164 ?_
      refine PW.getN0 C cf_6 fl_X0_35 (by decide) (sf_8_0 hr1) (fvI rfl) dX0_measureWays_167 ?_
      refine PW.bipush (v := 6) C dX0_measureWays_170 (by decide) ?_
      refine PW.mnI C ml_X0_55 (Nat.le_of_ble_eq_true rfl) (by decide) dX0_measureWays_172 ?_
      replace hw := hw _ rfl
      refine PW.ist4 C dX0_measureWays_175 (by decide) rfl ?_
      refine PW.iconst (v := 0) C dX0_measureWays_177 (by decide) ?_
      refine PW.ist5 C dX0_measureWays_178 (by decide) rfl ?_
      obtain ⟨n, hw⟩ := hw
      refine PW.wk (wk_s (wk_n (wk_n (wk_n (wk_s (wk_s (wk_n (wk_n (wk_n wk_0))))))))) (l_X0_measureWays_180 C ht hr1 ?_ n _ _ hw)
      · intro h33 hw
        exact PW.vret C dX0_measureWays_287 ⟨rfl, hw⟩
def w_X0_way (t : Nat) (x1 : Int32) (x2 : Int32) (h : PH) (Q : Int32 → PH → Prop) : Prop :=
  if x1 < 0 then (Q (-2) h) else (if 6 ≤ x1 then (Q (-2) h) else (if x2 < 0 then (Q (-2) h) else (if x2 < 6 then (vp_in ((x1 * 6) + x2) 36 ∧ ∀ (y2 : Int32), y2 = (gI h (t + 1) (iN ((x1 * 6) + x2))) → if 1000000 ≤ y2 then (Q (-2) h) else (Q y2 h)) else (Q (-2) h))))
set_option maxRecDepth 8000 in
theorem s_X0_way {D : va_G} {ca : Nat → ClassId} {ad : Nat → Nat} {l : Launch} {t : Nat} {x1 : Int32} {x2 : Int32} {h : PH} {Q : Int32 → PH → Prop} (ht : oX t 0) (hw : w_X0_way t x1 x2 h Q) : Sp (GX D ca ad) (XS (GX D ca ad)) l 1 yX0_way cX0_way 4 (some .int) [.ref t, .int x1, .int x2] h (qI Q) := by
  refine Sp.of (own := RX0) [some (.ref t), some (.int x1), some (.int x2), none] (by decide +kernel) rfl rfl (Nat.le_of_ble_eq_true rfl) (fun K hl C => ?_)
  subst hl
  unfold w_X0_way at hw
  refine PW.ild1n C dX0_way_0 ?_
  refine PW.if_lt (tgt := 20) C dX0_way_1 (by decide) (fun c => ?_) (fun c => ?_)
  · rw [if_pos c] at hw
    refine PW.bipush (v := (-2)) C dX0_way_20 (by decide) ?_
    exact PW.iret C dX0_way_22 ⟨_, rfl, hw⟩
  · rw [if_neg c] at hw
    refine PW.ild1n C dX0_way_4 ?_
    refine PW.bipush (v := 6) C dX0_way_5 (by decide) ?_
    refine PW.icmp_ge (tgt := 20) C dX0_way_7 (by decide) (fun c => ?_) (fun c => ?_)
    · rw [if_pos c] at hw
      refine PW.bipush (v := (-2)) C dX0_way_20 (by decide) ?_
      exact PW.iret C dX0_way_22 ⟨_, rfl, hw⟩
    · rw [if_neg c] at hw
      refine PW.ild2n C dX0_way_10 ?_
      refine PW.if_lt (tgt := 20) C dX0_way_11 (by decide) (fun c => ?_) (fun c => ?_)
      · rw [if_pos c] at hw
        refine PW.bipush (v := (-2)) C dX0_way_20 (by decide) ?_
        exact PW.iret C dX0_way_22 ⟨_, rfl, hw⟩
      · rw [if_neg c] at hw
        refine PW.ild2n C dX0_way_14 ?_
        refine PW.bipush (v := 6) C dX0_way_15 (by decide) ?_
        refine PW.icmp_lt (tgt := 23) C dX0_way_17 (by decide) (fun c => ?_) (fun c => ?_)
        · rw [if_pos c] at hw
          refine PW.ald0n C dX0_way_23 ?_
          refine PW.get0 C cf_0 fl_X0_9 (by decide) ht (fvR (o := 1) rfl) dX0_way_24 ?_
          refine PW.ild1n C dX0_way_27 ?_
          refine PW.bipush (v := 6) C dX0_way_28 (by decide) ?_
          refine PW.imul C dX0_way_30 ?_
          refine PW.ild2n C dX0_way_31 ?_
          refine PW.iadd C dX0_way_32 ?_
          obtain ⟨hc1, hw⟩ := hw
          refine PW.iald C dX0_way_33 (sf_0_0 ht) hc1 ?_
          replace hw := hw _ rfl
          refine PW.ist3n C dX0_way_34 (by decide) rfl ?_
          refine PW.ild3n C dX0_way_35 ?_
          refine PW.ldc (v := 1000000) C cs_X0_28 dX0_way_36 ?_
          refine PW.icmp_ge (tgt := 45) C dX0_way_38 (by decide) (fun c => ?_) (fun c => ?_)
          · rw [if_pos c] at hw
            refine PW.bipush (v := (-2)) C dX0_way_45 (by decide) ?_
            exact PW.iret C dX0_way_47 ⟨_, rfl, hw⟩
          · rw [if_neg c] at hw
            refine PW.ild3n C dX0_way_41 ?_
            refine PW.goto (tgt := 47) C dX0_way_42 (by decide) ?_
            exact PW.iret C dX0_way_47 ⟨_, rfl, hw⟩
        · rw [if_neg c] at hw
          refine PW.bipush (v := (-2)) C dX0_way_20 (by decide) ?_
          exact PW.iret C dX0_way_22 ⟨_, rfl, hw⟩
def w_X0_minutesHeard_72 (t : Nat) (r1 : Nat) (k82 : Int64 → PH → Prop) (Q : Int64 → PH → Prop) (kb : Int64 → Int32 → PH → Prop) (x3 : Int32) (x4 : Int32) (x5 : Int32) (x7 : Int32) (x8 : Int64) (x10 : Int32) (x11 : Int64) (h : PH) : Prop :=
  if (gI h (r1 + 15) 4) = 0 then (k82 x11 h) else (if (lg_cmp x11 1) < 0 then (kb x8 (x10 + 1) h) else (∀ (y5 : Int64), y5 = (x8 ||| ((1 : Int64) <<< ((x10 : Int32).toInt64 &&& 63))) → kb y5 (x10 + 1) h))
set_option maxRecDepth 8000 in
theorem b_X0_minutesHeard_72 {D : va_G} {ca : Nat → ClassId} {ad : Nat → Nat} {K : Kt} {t : Nat} {r1 : Nat} {k82 : Int64 → PH → Prop} {kb : Int64 → Int32 → PH → Prop} {Q : Int64 → PH → Prop} {x3 : Int32} {x4 : Int32} {x5 : Int32} {x7 : Int32} {x8 : Int64} {x10 : Int32} {x11 : Int64} {h : PH} (C : CX (GX D ca ad) (XS (GX D ca ad)) cX0_minutesHeard RX0 13 (some .long) 3 K) (ht : oX t 0) (hr1 : oX r1 8) (hk82 : ∀ (x11 : Int64) (h : PH), k82 x11 h → PW (GX D ca ad) K 13 (qJ Q) h 82 [none, none, none, some (.int x3), some (.int x4), none, none, none, none, none, none, some (.long x11), none] []) (hkb : ∀ (x8 : Int64) (x10 : Int32) (h : PH), kb x8 x10 h → PW (GX D ca ad) K 13 (qJ Q) h 30 [none, some (.ref r1), none, some (.int x3), some (.int x4), some (.int x5), none, some (.int x7), some (.long x8), none, some (.int x10), none, none] []) (hw : w_X0_minutesHeard_72 t r1 k82 Q kb x3 x4 x5 x7 x8 x10 x11 h) : PW (GX D ca ad) K 13 (qJ Q) h 72 [none, some (.ref r1), none, some (.int x3), some (.int x4), some (.int x5), none, some (.int x7), some (.long x8), none, some (.int x10), some (.long x11), none] [] := by
  unfold w_X0_minutesHeard_72 at hw
  refine PW.ald1n C dX0_minutesHeard_72 ?_
  refine PW.getN0 C cf_8 fl_X0_63 (by decide) hr1 (fvR (o := 15) rfl) dX0_minutesHeard_73 ?_
  refine PW.getN0 C cf_1 fl_X0_75 (by decide) (sf_8_7 hr1) (fvI rfl) dX0_minutesHeard_76 ?_
  refine PW.if_ne (tgt := 106) C dX0_minutesHeard_79 (by decide) (fun c => ?_) (fun c => ?_)
  · rw [if_neg c] at hw
    refine PW.lld11 C dX0_minutesHeard_106 ?_
    refine PW.lconst (v := 1) C dX0_minutesHeard_108 (by decide) ?_
    refine PW.lcmp C dX0_minutesHeard_109 ?_
    refine PW.if_lt (tgt := 122) C dX0_minutesHeard_110 (by decide) (fun c => ?_) (fun c => ?_)
    · rw [if_pos c] at hw
      refine PW.inc10 (v := 1) C dX0_minutesHeard_122 (by decide) rfl (by decide) ?_
      refine PW.goto (tgt := 30) C dX0_minutesHeard_125 (by decide) ?_
      exact PW.wk (wk_n (wk_s (wk_n (wk_s (wk_s (wk_s (wk_n (wk_s (wk_s (wk_n (wk_s (wk_n (wk_n wk_0))))))))))))) (hkb _ _ _ hw)
    · rw [if_neg c] at hw
      refine PW.lld8 C dX0_minutesHeard_113 ?_
      refine PW.lconst (v := 1) C dX0_minutesHeard_115 (by decide) ?_
      refine PW.ild10 C dX0_minutesHeard_116 ?_
      refine PW.lshl C dX0_minutesHeard_118 ?_
      refine PW.lor C dX0_minutesHeard_119 ?_
      replace hw := hw _ rfl
      refine PW.lst8 C dX0_minutesHeard_120 (by decide) rfl ?_
      refine PW.inc10 (v := 1) C dX0_minutesHeard_122 (by decide) rfl (by decide) ?_
      refine PW.goto (tgt := 30) C dX0_minutesHeard_125 (by decide) ?_
      exact PW.wk (wk_n (wk_s (wk_n (wk_s (wk_s (wk_s (wk_n (wk_s (wk_s (wk_n (wk_s (wk_n (wk_n wk_0))))))))))))) (hkb _ _ _ hw)
  · rw [if_pos c] at hw
    exact PW.wk (wk_n (wk_n (wk_n (wk_s (wk_s (wk_n (wk_n (wk_n (wk_n (wk_n (wk_n (wk_s (wk_n wk_0))))))))))))) (hk82 _ _ hw)
def w_X0_minutesHeard_30 (t : Nat) (r1 : Nat) (k82 : Int64 → PH → Prop) (k128 : Int64 → PH → Prop) (Q : Int64 → PH → Prop) (x3 : Int32) (x4 : Int32) (x5 : Int32) (x7 : Int32) (kb : Int64 → Int32 → PH → Prop) (x8 : Int64) (x10 : Int32) (h : PH) : Prop :=
  if x4 < x10 then (k128 x8 h) else (w_X1_value (r1 + 15) x5 x7 x10 0 0 0 h (fun z4 h3 => if (lg_cmp z4 (-9223372036854775808)) = 0 then (∀ (y6 : Int64), y6 = ((x5 - x7) : Int32).toInt64 → w_X0_minutesHeard_72 t r1 k82 Q kb x3 x4 x5 x7 x8 x10 y6 h3) else (w_X0_minutesHeard_72 t r1 k82 Q kb x3 x4 x5 x7 x8 x10 z4 h3)))
set_option maxRecDepth 8000 in
theorem b_X0_minutesHeard_30 {D : va_G} {ca : Nat → ClassId} {ad : Nat → Nat} {K : Kt} {t : Nat} {r1 : Nat} {k82 : Int64 → PH → Prop} {k128 : Int64 → PH → Prop} {kb : Int64 → Int32 → PH → Prop} {Q : Int64 → PH → Prop} {x3 : Int32} {x4 : Int32} {x5 : Int32} {x7 : Int32} {x8 : Int64} {x10 : Int32} {h : PH} (C : CX (GX D ca ad) (XS (GX D ca ad)) cX0_minutesHeard RX0 13 (some .long) 3 K) (ht : oX t 0) (hr1 : oX r1 8) (hk82 : ∀ (x11 : Int64) (h : PH), k82 x11 h → PW (GX D ca ad) K 13 (qJ Q) h 82 [none, none, none, some (.int x3), some (.int x4), none, none, none, none, none, none, some (.long x11), none] []) (hk128 : ∀ (x8 : Int64) (h : PH), k128 x8 h → PW (GX D ca ad) K 13 (qJ Q) h 128 [none, none, none, none, none, none, none, none, some (.long x8), none, none, none, none] []) (hkb : ∀ (x8 : Int64) (x10 : Int32) (h : PH), kb x8 x10 h → PW (GX D ca ad) K 13 (qJ Q) h 30 [none, some (.ref r1), none, some (.int x3), some (.int x4), some (.int x5), none, some (.int x7), some (.long x8), none, some (.int x10), none, none] []) (hw : w_X0_minutesHeard_30 t r1 k82 k128 Q x3 x4 x5 x7 kb x8 x10 h) : PW (GX D ca ad) K 13 (qJ Q) h 30 [none, some (.ref r1), none, some (.int x3), some (.int x4), some (.int x5), none, some (.int x7), some (.long x8), none, some (.int x10), none, none] [] := by
  unfold w_X0_minutesHeard_30 at hw
  refine PW.ild10 C dX0_minutesHeard_30 ?_
  refine PW.ild4 C dX0_minutesHeard_32 ?_
  refine PW.icmp_gt (tgt := 128) C dX0_minutesHeard_34 (by decide) (fun c => ?_) (fun c => ?_)
  · rw [if_pos c] at hw
    exact PW.wk (wk_n (wk_n (wk_n (wk_n (wk_n (wk_n (wk_n (wk_n (wk_s (wk_n (wk_n (wk_n (wk_n wk_0))))))))))))) (hk128 _ _ hw)
  · rw [if_neg c] at hw
    refine PW.ald1n C dX0_minutesHeard_37 ?_
    refine PW.getN0 C cf_8 fl_X0_63 (by decide) hr1 (fvR (o := 15) rfl) dX0_minutesHeard_38 ?_
    refine PW.ild5 C dX0_minutesHeard_41 ?_
    refine PW.ild7 C dX0_minutesHeard_43 ?_
    refine PW.ild10 C dX0_minutesHeard_45 ?_
    refine PW.iconst (v := 0) C dX0_minutesHeard_47 (by decide) ?_
    refine PW.iconst (v := 0) C dX0_minutesHeard_48 (by decide) ?_
    refine PW.iconst (v := 0) C dX0_minutesHeard_49 (by decide) ?_
    refine PW.callVJ6 C ms_X1_value ml_X0_67 dX0_minutesHeard_50 (sf_8_7 hr1) ⟨_, _, rfl⟩ (Nat.le_of_ble_eq_true rfl) (by decide) (Nat.le_of_ble_eq_true rfl) (s_X1_value (sf_8_7 hr1) hw) ?_
    clear hw
    intro z4 h3 hw
    refine PW.lst11 C dX0_minutesHeard_53 (by decide) rfl ?_
    refine PW.lld11 C dX0_minutesHeard_55 ?_
    refine PW.ldc2 (v := (-9223372036854775808)) C cs_X0_73 dX0_minutesHeard_57 ?_
    refine PW.lcmp C dX0_minutesHeard_60 ?_
    refine PW.if_ne (tgt := 72) C dX0_minutesHeard_61 (by decide) (fun c => ?_) (fun c => ?_)
    · rw [if_neg c] at hw
      exact PW.wk (wk_n (wk_s (wk_n (wk_s (wk_s (wk_s (wk_n (wk_s (wk_s (wk_n (wk_s (wk_s (wk_n wk_0))))))))))))) (b_X0_minutesHeard_72 C ht hr1 hk82 hkb hw)
    · rw [if_pos c] at hw
      refine PW.ild5 C dX0_minutesHeard_64 ?_
      refine PW.ild7 C dX0_minutesHeard_66 ?_
      refine PW.isub C dX0_minutesHeard_68 ?_
      refine PW.i2l C dX0_minutesHeard_69 ?_
      replace hw := hw _ rfl
      refine PW.lst11 C dX0_minutesHeard_70 (by decide) rfl ?_
      exact PW.wk (wk_n (wk_s (wk_n (wk_s (wk_s (wk_s (wk_n (wk_s (wk_s (wk_n (wk_s (wk_s (wk_n wk_0))))))))))))) (b_X0_minutesHeard_72 C ht hr1 hk82 hkb hw)
theorem l_X0_minutesHeard_30 {D : va_G} {ca : Nat → ClassId} {ad : Nat → Nat} {K : Kt} {t : Nat} {r1 : Nat} {k82 : Int64 → PH → Prop} {k128 : Int64 → PH → Prop} {Q : Int64 → PH → Prop} {x3 : Int32} {x4 : Int32} {x5 : Int32} {x7 : Int32} (C : CX (GX D ca ad) (XS (GX D ca ad)) cX0_minutesHeard RX0 13 (some .long) 3 K) (ht : oX t 0) (hr1 : oX r1 8) (hk82 : ∀ (x11 : Int64) (h : PH), k82 x11 h → PW (GX D ca ad) K 13 (qJ Q) h 82 [none, none, none, some (.int x3), some (.int x4), none, none, none, none, none, none, some (.long x11), none] []) (hk128 : ∀ (x8 : Int64) (h : PH), k128 x8 h → PW (GX D ca ad) K 13 (qJ Q) h 128 [none, none, none, none, none, none, none, none, some (.long x8), none, none, none, none] []) : ∀ (n : Nat) (x8 : Int64) (x10 : Int32) (h : PH), Lp2 (w_X0_minutesHeard_30 t r1 k82 k128 Q x3 x4 x5 x7) n x8 x10 h → PW (GX D ca ad) K 13 (qJ Q) h 30 [none, some (.ref r1), none, some (.int x3), some (.int x4), some (.int x5), none, some (.int x7), some (.long x8), none, some (.int x10), none, none] [] := by
  intro n
  induction n with
  | zero => intro x8 x10 h hw; exact hw.elim
  | succ n ih => intro x8 x10 h hw; exact b_X0_minutesHeard_30 C ht hr1 hk82 hk128 (fun x8 x10 h hw => ih x8 x10 h hw) hw
def w_X0_minutesHeard (t : Nat) (r1 : Nat) (x2 : Int32) (x3 : Int32) (x4 : Int32) (x5 : Int32) (x6 : Int32) (h : PH) (Q : Int64 → PH → Prop) : Prop :=
  w_X0_way t x2 x6 h (fun z2 h1 => if z2 = (-2) then (Q 0 h1) else (if x3 ≤ x4 then (∃ n, Lp2 (w_X0_minutesHeard_30 t r1 (fun y8 h7 => if (lg_cmp y8 1) < 0 then (Q 0 h7) else (Q (((((1 : Int64) <<< ((((x4 - x3) + 1) : Int32).toInt64 &&& 63)) - 1) : Int64) <<< ((x3 : Int32).toInt64 &&& 63)) h7)) (fun y10 h9 => Q y10 h9) Q x3 x4 x5 z2) n 0 x3 h1) else (Q 0 h1)))
set_option maxRecDepth 8000 in
theorem s_X0_minutesHeard {D : va_G} {ca : Nat → ClassId} {ad : Nat → Nat} {l : Launch} {t : Nat} {r1 : Nat} {x2 : Int32} {x3 : Int32} {x4 : Int32} {x5 : Int32} {x6 : Int32} {h : PH} {Q : Int64 → PH → Prop} (ht : oX t 0) (hr1 : oX r1 8) (hw : w_X0_minutesHeard t r1 x2 x3 x4 x5 x6 h Q) : Sp (GX D ca ad) (XS (GX D ca ad)) l 3 yX0_minutesHeard cX0_minutesHeard 13 (some .long) [.ref t, .ref r1, .int x2, .int x3, .int x4, .int x5, .int x6] h (qJ Q) := by
  refine Sp.of (own := RX0) [some (.ref t), some (.ref r1), some (.int x2), some (.int x3), some (.int x4), some (.int x5), some (.int x6), none, none, none, none, none, none] (by decide +kernel) rfl rfl (Nat.le_of_ble_eq_true rfl) (fun K hl C => ?_)
  subst hl
  unfold w_X0_minutesHeard at hw
  refine PW.ald0n C dX0_minutesHeard_0 ?_
  refine PW.ild2n C dX0_minutesHeard_1 ?_
  refine PW.ild6 C dX0_minutesHeard_2 ?_
  refine PW.callVI2 C ms_X0_way ml_X0_60 dX0_minutesHeard_4 ht ⟨_, _, rfl⟩ (Nat.le_of_ble_eq_true rfl) (by decide) (Nat.le_of_ble_eq_true rfl) (s_X0_way ht hw) ?_
  clear hw
  intro z2 h1 hw
  refine PW.ist7 C dX0_minutesHeard_7 (by decide) rfl ?_
  refine PW.ild7 C dX0_minutesHeard_9 ?_
  refine PW.bipush (v := (-2)) C dX0_minutesHeard_11 (by decide) ?_
  refine PW.icmp_eq (tgt := 22) C dX0_minutesHeard_13 (by decide) (fun c => ?_) (fun c => ?_)
  · rw [if_pos c] at hw
    refine PW.lconst (v := 0) C dX0_minutesHeard_22 (by decide) ?_
    exact PW.lret C dX0_minutesHeard_23 ⟨_, rfl, hw⟩
  · rw [if_neg c] at hw
    refine PW.ild3n C dX0_minutesHeard_16 ?_
    refine PW.ild4 C dX0_minutesHeard_17 ?_
    refine PW.icmp_le (tgt := 24) C dX0_minutesHeard_19 (by decide) (fun c => ?_) (fun c => ?_)
    · rw [if_pos c] at hw
      refine PW.lconst (v := 0) C dX0_minutesHeard_24 (by decide) ?_
      refine PW.lst8 C dX0_minutesHeard_25 (by decide) rfl ?_
      refine PW.ild3n C dX0_minutesHeard_27 ?_
      refine PW.ist10 C dX0_minutesHeard_28 (by decide) rfl ?_
      obtain ⟨n, hw⟩ := hw
      refine PW.wk (wk_n (wk_s (wk_n (wk_s (wk_s (wk_s (wk_n (wk_s (wk_s (wk_n (wk_s (wk_n (wk_n wk_0))))))))))))) (l_X0_minutesHeard_30 C ht hr1 ?_ ?_ n _ _ _ hw)
      · intro y8 h7 hw
        refine PW.lld11 C dX0_minutesHeard_82 ?_
        refine PW.lconst (v := 1) C dX0_minutesHeard_84 (by decide) ?_
        refine PW.lcmp C dX0_minutesHeard_85 ?_
        refine PW.if_lt (tgt := 104) C dX0_minutesHeard_86 (by decide) (fun c => ?_) (fun c => ?_)
        · rw [if_pos c] at hw
          refine PW.lconst (v := 0) C dX0_minutesHeard_104 (by decide) ?_
          exact PW.lret C dX0_minutesHeard_105 ⟨_, rfl, hw⟩
        · rw [if_neg c] at hw
          refine PW.lconst (v := 1) C dX0_minutesHeard_89 (by decide) ?_
          refine PW.ild4 C dX0_minutesHeard_90 ?_
          refine PW.ild3n C dX0_minutesHeard_92 ?_
          refine PW.isub C dX0_minutesHeard_93 ?_
          refine PW.iconst (v := 1) C dX0_minutesHeard_94 (by decide) ?_
          refine PW.iadd C dX0_minutesHeard_95 ?_
          refine PW.lshl C dX0_minutesHeard_96 ?_
          refine PW.lconst (v := 1) C dX0_minutesHeard_97 (by decide) ?_
          refine PW.lsub C dX0_minutesHeard_98 ?_
          refine PW.ild3n C dX0_minutesHeard_99 ?_
          refine PW.lshl C dX0_minutesHeard_100 ?_
          refine PW.goto (tgt := 105) C dX0_minutesHeard_101 (by decide) ?_
          exact PW.lret C dX0_minutesHeard_105 ⟨_, rfl, hw⟩
      · intro y10 h9 hw
        refine PW.lld8 C dX0_minutesHeard_128 ?_
        exact PW.lret C dX0_minutesHeard_130 ⟨_, rfl, hw⟩
    · rw [if_neg c] at hw
      refine PW.lconst (v := 0) C dX0_minutesHeard_22 (by decide) ?_
      exact PW.lret C dX0_minutesHeard_23 ⟨_, rfl, hw⟩
def w_X0_listen_2 (t : Nat) (r1 : Nat) (k38 : PH → Prop) (Q : PH → Prop) (kb : Int32 → PH → Prop) (x2 : Int32) (h : PH) : Prop :=
  if 6 ≤ x2 then (k38 h) else (w_X6_has (r1 + 1) x2 h (fun z2 h1 => if z2 = 0 then (vp_in x2 6 ∧ ∀ h4, h4 = sJ h1 (t + 3) (iN x2) 0 → kb (x2 + 1) h4) else (vp_in x2 6 ∧ ∀ h6, h6 = sJ h1 (t + 3) (iN x2) 281474976710655 → kb (x2 + 1) h6)))
set_option maxRecDepth 8000 in
theorem b_X0_listen_2 {D : va_G} {ca : Nat → ClassId} {ad : Nat → Nat} {K : Kt} {t : Nat} {r1 : Nat} {k38 : PH → Prop} {kb : Int32 → PH → Prop} {Q : PH → Prop} {x2 : Int32} {h : PH} (C : CX (GX D ca ad) (XS (GX D ca ad)) cX0_listen RX0 7 none 4 K) (ht : oX t 0) (hr1 : oX r1 8) (hk38 : ∀ (h : PH), k38 h → PW (GX D ca ad) K 7 (qV Q) h 38 [some (.ref t), some (.ref r1), none, none, none, none, none] []) (hkb : ∀ (x2 : Int32) (h : PH), kb x2 h → PW (GX D ca ad) K 7 (qV Q) h 2 [some (.ref t), some (.ref r1), some (.int x2), none, none, none, none] []) (hw : w_X0_listen_2 t r1 k38 Q kb x2 h) : PW (GX D ca ad) K 7 (qV Q) h 2 [some (.ref t), some (.ref r1), some (.int x2), none, none, none, none] [] := by
  unfold w_X0_listen_2 at hw
  refine PW.ild2n C dX0_listen_2 ?_
  refine PW.bipush (v := 6) C dX0_listen_3 (by decide) ?_
  refine PW.icmp_ge (tgt := 38) C dX0_listen_5 (by decide) (fun c => ?_) (fun c => ?_)
  · rw [if_pos c] at hw
    exact PW.wk (wk_s (wk_s (wk_n (wk_n (wk_n (wk_n (wk_n wk_0))))))) (hk38 _ hw)
  · rw [if_neg c] at hw
    refine PW.ald0n C dX0_listen_8 ?_
    refine PW.get0 C cf_0 fl_X0_19 (by decide) ht (fvR (o := 3) rfl) dX0_listen_9 ?_
    refine PW.ild2n C dX0_listen_12 ?_
    refine PW.ald1n C dX0_listen_13 ?_
    refine PW.getN0 C cf_8 fl_X0_45 (by decide) hr1 (fvR (o := 1) rfl) dX0_listen_14 ?_
    refine PW.ild2n C dX0_listen_17 ?_
    refine PW.callVI1 C ms_X6_has ml_X0_48 dX0_listen_18 (sf_8_0 hr1) ⟨_, _, rfl⟩ (Nat.le_of_ble_eq_true rfl) (by decide) (Nat.le_of_ble_eq_true rfl) (s_X6_has (sf_8_0 hr1) hw) ?_
    clear hw
    intro z2 h1 hw
    refine PW.if_eq (tgt := 30) C dX0_listen_21 (by decide) (fun c => ?_) (fun c => ?_)
    · rw [if_pos c] at hw
      refine PW.lconst (v := 0) C dX0_listen_30 (by decide) ?_
      obtain ⟨hc3, hw⟩ := hw
      replace hw := hw _ rfl
      refine PW.last C dX0_listen_31 (sf_0_2 ht) hc3 ?_
      refine PW.inc2 (v := 1) C dX0_listen_32 (by decide) rfl (by decide) ?_
      refine PW.goto (tgt := 2) C dX0_listen_35 (by decide) ?_
      exact PW.wk (wk_s (wk_s (wk_s (wk_n (wk_n (wk_n (wk_n wk_0))))))) (hkb _ _ hw)
    · rw [if_neg c] at hw
      refine PW.ldc2 (v := 281474976710655) C cs_X0_79 dX0_listen_24 ?_
      refine PW.goto (tgt := 31) C dX0_listen_27 (by decide) ?_
      obtain ⟨hc5, hw⟩ := hw
      replace hw := hw _ rfl
      refine PW.last C dX0_listen_31 (sf_0_2 ht) hc5 ?_
      refine PW.inc2 (v := 1) C dX0_listen_32 (by decide) rfl (by decide) ?_
      refine PW.goto (tgt := 2) C dX0_listen_35 (by decide) ?_
      exact PW.wk (wk_s (wk_s (wk_s (wk_n (wk_n (wk_n (wk_n wk_0))))))) (hkb _ _ hw)
theorem l_X0_listen_2 {D : va_G} {ca : Nat → ClassId} {ad : Nat → Nat} {K : Kt} {t : Nat} {r1 : Nat} {k38 : PH → Prop} {Q : PH → Prop} (C : CX (GX D ca ad) (XS (GX D ca ad)) cX0_listen RX0 7 none 4 K) (ht : oX t 0) (hr1 : oX r1 8) (hk38 : ∀ (h : PH), k38 h → PW (GX D ca ad) K 7 (qV Q) h 38 [some (.ref t), some (.ref r1), none, none, none, none, none] []) : ∀ (n : Nat) (x2 : Int32) (h : PH), Lp1 (w_X0_listen_2 t r1 k38 Q) n x2 h → PW (GX D ca ad) K 7 (qV Q) h 2 [some (.ref t), some (.ref r1), some (.int x2), none, none, none, none] [] := by
  intro n
  induction n with
  | zero => intro x2 h hw; exact hw.elim
  | succ n ih => intro x2 h hw; exact b_X0_listen_2 C ht hr1 hk38 (fun x2 h hw => ih x2 h hw) hw
def w_X0_listen_129 (t : Nat) (r1 : Nat) (Q : PH → Prop) (kb : Int32 → PH → Prop) (x3 : Int32) (x4 : Int32) (s0 : Int64) (h : PH) : Prop :=
  vp_in ((x3 * 6) + x4) 78 ∧ ∀ h21, h21 = sJ h (t + 2) (iN ((x3 * 6) + x4)) s0 → vp_in x4 6 ∧ vp_in x4 6 ∧ ∀ h24, h24 = sJ h21 (t + 3) (iN x4) ((gJ h21 (t + 3) (iN x4)) &&& (s0 ^^^ (-1))) → kb (x4 + 1) h24
set_option maxRecDepth 8000 in
theorem b_X0_listen_129 {D : va_G} {ca : Nat → ClassId} {ad : Nat → Nat} {K : Kt} {t : Nat} {r1 : Nat} {kb : Int32 → PH → Prop} {Q : PH → Prop} {x3 : Int32} {x4 : Int32} {s0 : Int64} {h : PH} (C : CX (GX D ca ad) (XS (GX D ca ad)) cX0_listen RX0 7 none 4 K) (ht : oX t 0) (hr1 : oX r1 8) (hkb : ∀ (x4 : Int32) (h : PH), kb x4 h → PW (GX D ca ad) K 7 (qV Q) h 62 [some (.ref t), some (.ref r1), some (.ref (r1 + 7)), some (.int x3), some (.int x4), none, none] []) (hw : w_X0_listen_129 t r1 Q kb x3 x4 s0 h) : PW (GX D ca ad) K 7 (qV Q) h 129 [some (.ref t), some (.ref r1), some (.ref (r1 + 7)), some (.int x3), some (.int x4), none, none] [.long s0] := by
  unfold w_X0_listen_129 at hw
  refine PW.lst5 C dX0_listen_129 (by decide) rfl ?_
  refine PW.ald0n C dX0_listen_131 ?_
  refine PW.get0 C cf_0 fl_X0_15 (by decide) ht (fvR (o := 2) rfl) dX0_listen_132 ?_
  refine PW.ild3n C dX0_listen_135 ?_
  refine PW.bipush (v := 6) C dX0_listen_136 (by decide) ?_
  refine PW.imul C dX0_listen_138 ?_
  refine PW.ild4 C dX0_listen_139 ?_
  refine PW.iadd C dX0_listen_141 ?_
  refine PW.lld5 C dX0_listen_142 ?_
  obtain ⟨hc20, hw⟩ := hw
  replace hw := hw _ rfl
  refine PW.last C dX0_listen_144 (sf_0_1 ht) hc20 ?_
  refine PW.ald0n C dX0_listen_145 ?_
  refine PW.get0 C cf_0 fl_X0_19 (by decide) ht (fvR (o := 3) rfl) dX0_listen_146 ?_
  refine PW.ild4 C dX0_listen_149 ?_
  refine PW.dup2 C dX0_listen_151 rfl rfl ?_
  obtain ⟨hc22, hw⟩ := hw
  refine PW.lald C dX0_listen_152 (sf_0_2 ht) hc22 ?_
  refine PW.lld5 C dX0_listen_153 ?_
  refine PW.ldc2 (v := (-1)) C cs_X0_88 dX0_listen_155 ?_
  refine PW.lxor C dX0_listen_158 ?_
  refine PW.land C dX0_listen_159 ?_
  obtain ⟨hc23, hw⟩ := hw
  replace hw := hw _ rfl
  refine PW.last C dX0_listen_160 (sf_0_2 ht) hc23 ?_
  refine PW.inc4 (v := 1) C dX0_listen_161 (by decide) rfl (by decide) ?_
  refine PW.goto (tgt := 62) C dX0_listen_164 (by decide) ?_
  exact PW.wk (wk_s (wk_s (wk_s (wk_s (wk_s (wk_n (wk_n wk_0))))))) (hkb _ _ hw)
def w_X0_listen_62 (t : Nat) (r1 : Nat) (k167 : PH → Prop) (Q : PH → Prop) (x3 : Int32) (kb : Int32 → PH → Prop) (x4 : Int32) (h : PH) : Prop :=
  if (gI h (r1 + 1) 3) ≤ x4 then (k167 h) else (if 6 ≤ x4 then (k167 h) else (w_X6_at (r1 + 7) x3 0 h (fun z9 h8 => w_X6_at (r1 + 7) x3 2 h8 (fun z11 h10 => w_X6_at (r1 + 7) x3 3 h10 (fun z13 h12 => w_X6_at (r1 + 7) x3 4 h12 (fun z15 h14 => w_X0_minutesHeard t r1 z9 z11 z13 z15 x4 h14 (fun z17 h16 => w_X6_at (r1 + 7) x3 5 h16 (fun z19 h18 => if z19 = 0 then (w_X0_listen_129 t r1 Q kb x3 x4 z17 h18) else (w_X0_listen_129 t r1 Q kb x3 x4 0 h18)))))))))
set_option maxRecDepth 8000 in
theorem b_X0_listen_62 {D : va_G} {ca : Nat → ClassId} {ad : Nat → Nat} {K : Kt} {t : Nat} {r1 : Nat} {k167 : PH → Prop} {kb : Int32 → PH → Prop} {Q : PH → Prop} {x3 : Int32} {x4 : Int32} {h : PH} (C : CX (GX D ca ad) (XS (GX D ca ad)) cX0_listen RX0 7 none 4 K) (ht : oX t 0) (hr1 : oX r1 8) (hk167 : ∀ (h : PH), k167 h → PW (GX D ca ad) K 7 (qV Q) h 167 [some (.ref t), some (.ref r1), some (.ref (r1 + 7)), some (.int x3), none, none, none] []) (hkb : ∀ (x4 : Int32) (h : PH), kb x4 h → PW (GX D ca ad) K 7 (qV Q) h 62 [some (.ref t), some (.ref r1), some (.ref (r1 + 7)), some (.int x3), some (.int x4), none, none] []) (hw : w_X0_listen_62 t r1 k167 Q x3 kb x4 h) : PW (GX D ca ad) K 7 (qV Q) h 62 [some (.ref t), some (.ref r1), some (.ref (r1 + 7)), some (.int x3), some (.int x4), none, none] [] := by
  unfold w_X0_listen_62 at hw
  refine PW.ild4 C dX0_listen_62 ?_
  refine PW.ald1n C dX0_listen_64 ?_
  refine PW.getN0 C cf_8 fl_X0_45 (by decide) hr1 (fvR (o := 1) rfl) dX0_listen_65 ?_
  refine PW.getN0 C cf_6 fl_X0_35 (by decide) (sf_8_0 hr1) (fvI rfl) dX0_listen_68 ?_
  refine PW.icmp_ge (tgt := 167) C dX0_listen_71 (by decide) (fun c => ?_) (fun c => ?_)
  · rw [if_pos c] at hw
    exact PW.wk (wk_s (wk_s (wk_s (wk_s (wk_n (wk_n (wk_n wk_0))))))) (hk167 _ hw)
  · rw [if_neg c] at hw
    refine PW.ild4 C dX0_listen_74 ?_
    refine PW.bipush (v := 6) C dX0_listen_76 (by decide) ?_
    refine PW.icmp_ge (tgt := 167) C dX0_listen_78 (by decide) (fun c => ?_) (fun c => ?_)
    · rw [if_pos c] at hw
      exact PW.wk (wk_s (wk_s (wk_s (wk_s (wk_n (wk_n (wk_n wk_0))))))) (hk167 _ hw)
    · rw [if_neg c] at hw
      refine PW.ald0n C dX0_listen_81 ?_
      refine PW.ald1n C dX0_listen_82 ?_
      refine PW.ald2n C dX0_listen_83 ?_
      refine PW.ild3n C dX0_listen_84 ?_
      refine PW.iconst (v := 0) C dX0_listen_85 (by decide) ?_
      refine PW.callVI2 C ms_X6_at ml_X0_41 dX0_listen_86 (sf_8_3 hr1) ⟨_, _, rfl⟩ (Nat.le_of_ble_eq_true rfl) (by decide) (Nat.le_of_ble_eq_true rfl) (s_X6_at (sf_8_3 hr1) hw) ?_
      clear hw
      intro z9 h8 hw
      refine PW.ald2n C dX0_listen_89 ?_
      refine PW.ild3n C dX0_listen_90 ?_
      refine PW.iconst (v := 2) C dX0_listen_91 (by decide) ?_
      refine PW.callVI2 C ms_X6_at ml_X0_41 dX0_listen_92 (sf_8_3 hr1) ⟨_, _, rfl⟩ (Nat.le_of_ble_eq_true rfl) (by decide) (Nat.le_of_ble_eq_true rfl) (s_X6_at (sf_8_3 hr1) hw) ?_
      clear hw
      intro z11 h10 hw
      refine PW.ald2n C dX0_listen_95 ?_
      refine PW.ild3n C dX0_listen_96 ?_
      refine PW.iconst (v := 3) C dX0_listen_97 (by decide) ?_
      refine PW.callVI2 C ms_X6_at ml_X0_41 dX0_listen_98 (sf_8_3 hr1) ⟨_, _, rfl⟩ (Nat.le_of_ble_eq_true rfl) (by decide) (Nat.le_of_ble_eq_true rfl) (s_X6_at (sf_8_3 hr1) hw) ?_
      clear hw
      intro z13 h12 hw
      refine PW.ald2n C dX0_listen_101 ?_
      refine PW.ild3n C dX0_listen_102 ?_
      refine PW.iconst (v := 4) C dX0_listen_103 (by decide) ?_
      refine PW.callVI2 C ms_X6_at ml_X0_41 dX0_listen_104 (sf_8_3 hr1) ⟨_, _, rfl⟩ (Nat.le_of_ble_eq_true rfl) (by decide) (Nat.le_of_ble_eq_true rfl) (s_X6_at (sf_8_3 hr1) hw) ?_
      clear hw
      intro z15 h14 hw
      refine PW.ild4 C dX0_listen_107 ?_
      refine PW.callVJ6 C ms_X0_minutesHeard ml_X0_84 dX0_listen_109 ht ⟨_, _, rfl⟩ (Nat.le_of_ble_eq_true rfl) (by decide) (Nat.le_of_ble_eq_true rfl) (s_X0_minutesHeard ht hr1 hw) ?_
      clear hw
      intro z17 h16 hw
      refine PW.lst5 C dX0_listen_112 (by decide) rfl ?_
      refine PW.ald2n C dX0_listen_114 ?_
      refine PW.ild3n C dX0_listen_115 ?_
      refine PW.iconst (v := 5) C dX0_listen_116 (by decide) ?_
      refine PW.callVI2 C ms_X6_at ml_X0_41 dX0_listen_117 (sf_8_3 hr1) ⟨_, _, rfl⟩ (Nat.le_of_ble_eq_true rfl) (by decide) (Nat.le_of_ble_eq_true rfl) (s_X6_at (sf_8_3 hr1) hw) ?_
      clear hw
      intro z19 h18 hw
      refine PW.if_ne (tgt := 128) C dX0_listen_120 (by decide) (fun c => ?_) (fun c => ?_)
      · rw [if_neg c] at hw
        refine PW.lconst (v := 0) C dX0_listen_128 (by decide) ?_
        exact PW.wk (wk_s (wk_s (wk_s (wk_s (wk_s (wk_n (wk_n wk_0))))))) (b_X0_listen_129 C ht hr1 hkb hw)
      · rw [if_pos c] at hw
        refine PW.lld5 C dX0_listen_123 ?_
        refine PW.goto (tgt := 129) C dX0_listen_125 (by decide) ?_
        exact PW.wk (wk_s (wk_s (wk_s (wk_s (wk_s (wk_n (wk_n wk_0))))))) (b_X0_listen_129 C ht hr1 hkb hw)
theorem l_X0_listen_62 {D : va_G} {ca : Nat → ClassId} {ad : Nat → Nat} {K : Kt} {t : Nat} {r1 : Nat} {k167 : PH → Prop} {Q : PH → Prop} {x3 : Int32} (C : CX (GX D ca ad) (XS (GX D ca ad)) cX0_listen RX0 7 none 4 K) (ht : oX t 0) (hr1 : oX r1 8) (hk167 : ∀ (h : PH), k167 h → PW (GX D ca ad) K 7 (qV Q) h 167 [some (.ref t), some (.ref r1), some (.ref (r1 + 7)), some (.int x3), none, none, none] []) : ∀ (n : Nat) (x4 : Int32) (h : PH), Lp1 (w_X0_listen_62 t r1 k167 Q x3) n x4 h → PW (GX D ca ad) K 7 (qV Q) h 62 [some (.ref t), some (.ref r1), some (.ref (r1 + 7)), some (.int x3), some (.int x4), none, none] [] := by
  intro n
  induction n with
  | zero => intro x4 h hw; exact hw.elim
  | succ n ih => intro x4 h hw; exact b_X0_listen_62 C ht hr1 hk167 (fun x4 h hw => ih x4 h hw) hw
def w_X0_listen_45 (t : Nat) (r1 : Nat) (k173 : PH → Prop) (Q : PH → Prop) (kb : Int32 → PH → Prop) (x3 : Int32) (h : PH) : Prop :=
  if (gI h (r1 + 7) 3) ≤ x3 then (k173 h) else (if 12 < x3 then (k173 h) else (∃ n, Lp1 (w_X0_listen_62 t r1 (fun h25 => kb (x3 + 1) h25) Q x3) n 0 h))
set_option maxRecDepth 8000 in
theorem b_X0_listen_45 {D : va_G} {ca : Nat → ClassId} {ad : Nat → Nat} {K : Kt} {t : Nat} {r1 : Nat} {k173 : PH → Prop} {kb : Int32 → PH → Prop} {Q : PH → Prop} {x3 : Int32} {h : PH} (C : CX (GX D ca ad) (XS (GX D ca ad)) cX0_listen RX0 7 none 4 K) (ht : oX t 0) (hr1 : oX r1 8) (hk173 : ∀ (h : PH), k173 h → PW (GX D ca ad) K 7 (qV Q) h 173 [none, none, none, none, none, none, none] []) (hkb : ∀ (x3 : Int32) (h : PH), kb x3 h → PW (GX D ca ad) K 7 (qV Q) h 45 [some (.ref t), some (.ref r1), some (.ref (r1 + 7)), some (.int x3), none, none, none] []) (hw : w_X0_listen_45 t r1 k173 Q kb x3 h) : PW (GX D ca ad) K 7 (qV Q) h 45 [some (.ref t), some (.ref r1), some (.ref (r1 + 7)), some (.int x3), none, none, none] [] := by
  unfold w_X0_listen_45 at hw
  refine PW.ild3n C dX0_listen_45 ?_
  refine PW.ald2n C dX0_listen_46 ?_
  refine PW.getN0 C cf_6 fl_X0_35 (by decide) (sf_8_3 hr1) (fvI rfl) dX0_listen_47 ?_
  refine PW.icmp_ge (tgt := 173) C dX0_listen_50 (by decide) (fun c => ?_) (fun c => ?_)
  · rw [if_pos c] at hw
    exact PW.wk (wk_n (wk_n (wk_n (wk_n (wk_n (wk_n (wk_n wk_0))))))) (hk173 _ hw)
  · rw [if_neg c] at hw
    refine PW.ild3n C dX0_listen_53 ?_
    refine PW.bipush (v := 12) C dX0_listen_54 (by decide) ?_
    refine PW.icmp_gt (tgt := 173) C dX0_listen_56 (by decide) (fun c => ?_) (fun c => ?_)
    · rw [if_pos c] at hw
      exact PW.wk (wk_n (wk_n (wk_n (wk_n (wk_n (wk_n (wk_n wk_0))))))) (hk173 _ hw)
    · rw [if_neg c] at hw
      refine PW.iconst (v := 0) C dX0_listen_59 (by decide) ?_
      refine PW.ist4 C dX0_listen_60 (by decide) rfl ?_
      obtain ⟨n, hw⟩ := hw
      refine PW.wk (wk_s (wk_s (wk_s (wk_s (wk_s (wk_n (wk_n wk_0))))))) (l_X0_listen_62 C ht hr1 ?_ n _ _ hw)
      · intro h25 hw
        refine PW.inc3 (v := 1) C dX0_listen_167 (by decide) rfl (by decide) ?_
        refine PW.goto (tgt := 45) C dX0_listen_170 (by decide) ?_
        exact PW.wk (wk_s (wk_s (wk_s (wk_s (wk_n (wk_n (wk_n wk_0))))))) (hkb _ _ hw)
theorem l_X0_listen_45 {D : va_G} {ca : Nat → ClassId} {ad : Nat → Nat} {K : Kt} {t : Nat} {r1 : Nat} {k173 : PH → Prop} {Q : PH → Prop} (C : CX (GX D ca ad) (XS (GX D ca ad)) cX0_listen RX0 7 none 4 K) (ht : oX t 0) (hr1 : oX r1 8) (hk173 : ∀ (h : PH), k173 h → PW (GX D ca ad) K 7 (qV Q) h 173 [none, none, none, none, none, none, none] []) : ∀ (n : Nat) (x3 : Int32) (h : PH), Lp1 (w_X0_listen_45 t r1 k173 Q) n x3 h → PW (GX D ca ad) K 7 (qV Q) h 45 [some (.ref t), some (.ref r1), some (.ref (r1 + 7)), some (.int x3), none, none, none] [] := by
  intro n
  induction n with
  | zero => intro x3 h hw; exact hw.elim
  | succ n ih => intro x3 h hw; exact b_X0_listen_45 C ht hr1 hk173 (fun x3 h hw => ih x3 h hw) hw
def w_X0_listen (t : Nat) (r1 : Nat) (h : PH) (Q : PH → Prop) : Prop :=
  ∃ n, Lp1 (w_X0_listen_2 t r1 (fun h7 => ∃ n, Lp1 (w_X0_listen_45 t r1 (fun h26 => Q h26) Q) n 0 h7) Q) n 0 h
set_option maxRecDepth 8000 in
theorem s_X0_listen {D : va_G} {ca : Nat → ClassId} {ad : Nat → Nat} {l : Launch} {t : Nat} {r1 : Nat} {h : PH} {Q : PH → Prop} (ht : oX t 0) (hr1 : oX r1 8) (hw : w_X0_listen t r1 h Q) : Sp (GX D ca ad) (XS (GX D ca ad)) l 4 yX0_listen cX0_listen 7 none [.ref t, .ref r1] h (qV Q) := by
  refine Sp.of (own := RX0) [some (.ref t), some (.ref r1), none, none, none, none, none] (by decide +kernel) rfl rfl (Nat.le_of_ble_eq_true rfl) (fun K hl C => ?_)
  subst hl
  unfold w_X0_listen at hw
  refine PW.iconst (v := 0) C dX0_listen_0 (by decide) ?_
  refine PW.ist2n C dX0_listen_1 (by decide) rfl ?_
  obtain ⟨n, hw⟩ := hw
  refine PW.wk (wk_s (wk_s (wk_s (wk_n (wk_n (wk_n (wk_n wk_0))))))) (l_X0_listen_2 C ht hr1 ?_ n _ _ hw)
  · intro h7 hw
    refine PW.ald1n C dX0_listen_38 ?_
    refine PW.getN0 C cf_8 fl_X0_81 (by decide) hr1 (fvR (o := 7) rfl) dX0_listen_39 ?_
    refine PW.ast2n C dX0_listen_42 (by decide) rfl ?_
    refine PW.iconst (v := 0) C dX0_listen_43 (by decide) ?_
    refine PW.ist3n C dX0_listen_44 (by decide) rfl ?_
    obtain ⟨n, hw⟩ := hw
    refine PW.wk (wk_s (wk_s (wk_s (wk_s (wk_n (wk_n (wk_n wk_0))))))) (l_X0_listen_45 C ht hr1 ?_ n _ _ hw)
    · intro h26 hw
      exact PW.vret C dX0_listen_173 ⟨rfl, hw⟩
def w_X9_isMinute (x0 : Int32) (h : PH) (Q : Int32 → PH → Prop) : Prop :=
  if x0 < 0 then (Q 0 h) else (if 48 ≤ x0 then (Q 0 h) else (Q 1 h))
set_option maxRecDepth 8000 in
theorem s_X9_isMinute {D : va_G} {ca : Nat → ClassId} {ad : Nat → Nat} {l : Launch} {x0 : Int32} {h : PH} {Q : Int32 → PH → Prop} (hw : w_X9_isMinute x0 h Q) : Sp (GX D ca ad) (XS (GX D ca ad)) l 1 yX9_isMinute cX9_isMinute 1 (some .boolean) [.int x0] h (qI Q) := by
  refine Sp.of (own := RX9) [some (.int x0)] (by decide +kernel) rfl rfl (Nat.le_of_ble_eq_true rfl) (fun K hl C => ?_)
  subst hl
  unfold w_X9_isMinute at hw
  refine PW.ild0n C dX9_isMinute_0 ?_
  refine PW.if_lt (tgt := 14) C dX9_isMinute_1 (by decide) (fun c => ?_) (fun c => ?_)
  · rw [if_pos c] at hw
    refine PW.iconst (v := 0) C dX9_isMinute_14 (by decide) ?_
    exact PW.zret C dX9_isMinute_15 (by decide) ⟨_, rfl, hw⟩
  · rw [if_neg c] at hw
    refine PW.ild0n C dX9_isMinute_4 ?_
    refine PW.bipush (v := 48) C dX9_isMinute_5 (by decide) ?_
    refine PW.icmp_ge (tgt := 14) C dX9_isMinute_7 (by decide) (fun c => ?_) (fun c => ?_)
    · rw [if_pos c] at hw
      refine PW.iconst (v := 0) C dX9_isMinute_14 (by decide) ?_
      exact PW.zret C dX9_isMinute_15 (by decide) ⟨_, rfl, hw⟩
    · rw [if_neg c] at hw
      refine PW.iconst (v := 1) C dX9_isMinute_10 (by decide) ?_
      refine PW.goto (tgt := 15) C dX9_isMinute_11 (by decide) ?_
      exact PW.zret C dX9_isMinute_15 (by decide) ⟨_, rfl, hw⟩
def w_X0_silentAt (t : Nat) (x1 : Int32) (h : PH) (Q : Int64 → PH → Prop) : Prop :=
  if x1 < 0 then (Q 0 h) else (if 6 ≤ x1 then (Q 0 h) else (vp_in x1 6 ∧ Q (gJ h (t + 3) (iN x1)) h))
set_option maxRecDepth 8000 in
theorem s_X0_silentAt {D : va_G} {ca : Nat → ClassId} {ad : Nat → Nat} {l : Launch} {t : Nat} {x1 : Int32} {h : PH} {Q : Int64 → PH → Prop} (ht : oX t 0) (hw : w_X0_silentAt t x1 h Q) : Sp (GX D ca ad) (XS (GX D ca ad)) l 1 yX0_silentAt cX0_silentAt 2 (some .long) [.ref t, .int x1] h (qJ Q) := by
  refine Sp.of (own := RX0) [some (.ref t), some (.int x1)] (by decide +kernel) rfl rfl (Nat.le_of_ble_eq_true rfl) (fun K hl C => ?_)
  subst hl
  unfold w_X0_silentAt at hw
  refine PW.ild1n C dX0_silentAt_0 ?_
  refine PW.if_lt (tgt := 19) C dX0_silentAt_1 (by decide) (fun c => ?_) (fun c => ?_)
  · rw [if_pos c] at hw
    refine PW.lconst (v := 0) C dX0_silentAt_19 (by decide) ?_
    exact PW.lret C dX0_silentAt_20 ⟨_, rfl, hw⟩
  · rw [if_neg c] at hw
    refine PW.ild1n C dX0_silentAt_4 ?_
    refine PW.bipush (v := 6) C dX0_silentAt_5 (by decide) ?_
    refine PW.icmp_ge (tgt := 19) C dX0_silentAt_7 (by decide) (fun c => ?_) (fun c => ?_)
    · rw [if_pos c] at hw
      refine PW.lconst (v := 0) C dX0_silentAt_19 (by decide) ?_
      exact PW.lret C dX0_silentAt_20 ⟨_, rfl, hw⟩
    · rw [if_neg c] at hw
      refine PW.ald0n C dX0_silentAt_10 ?_
      refine PW.get0 C cf_0 fl_X0_19 (by decide) ht (fvR (o := 3) rfl) dX0_silentAt_11 ?_
      refine PW.ild1n C dX0_silentAt_14 ?_
      obtain ⟨hc1, hw⟩ := hw
      refine PW.lald C dX0_silentAt_15 (sf_0_2 ht) hc1 ?_
      refine PW.goto (tgt := 20) C dX0_silentAt_16 (by decide) ?_
      exact PW.lret C dX0_silentAt_20 ⟨_, rfl, hw⟩
def w_X0_isSilent (t : Nat) (x1 : Int32) (x2 : Int32) (h : PH) (Q : Int32 → PH → Prop) : Prop :=
  w_X0_silentAt t x1 h (fun z2 h1 => if (lg_cmp (((z2 : Int64) >>> ((x2 : Int32).toInt64 &&& 63)) &&& 1) 1) = 0 then (Q 1 h1) else (Q 0 h1))
set_option maxRecDepth 8000 in
theorem s_X0_isSilent {D : va_G} {ca : Nat → ClassId} {ad : Nat → Nat} {l : Launch} {t : Nat} {x1 : Int32} {x2 : Int32} {h : PH} {Q : Int32 → PH → Prop} (ht : oX t 0) (hw : w_X0_isSilent t x1 x2 h Q) : Sp (GX D ca ad) (XS (GX D ca ad)) l 2 yX0_isSilent cX0_isSilent 3 (some .boolean) [.ref t, .int x1, .int x2] h (qI Q) := by
  refine Sp.of (own := RX0) [some (.ref t), some (.int x1), some (.int x2)] (by decide +kernel) rfl rfl (Nat.le_of_ble_eq_true rfl) (fun K hl C => ?_)
  subst hl
  unfold w_X0_isSilent at hw
  refine PW.ald0n C dX0_isSilent_0 ?_
  refine PW.ild1n C dX0_isSilent_1 ?_
  refine PW.callVJ1 C ms_X0_silentAt ml_X0_108 dX0_isSilent_2 ht ⟨_, _, rfl⟩ (Nat.le_of_ble_eq_true rfl) (by decide) (Nat.le_of_ble_eq_true rfl) (s_X0_silentAt ht hw) ?_
  clear hw
  intro z2 h1 hw
  refine PW.ild2n C dX0_isSilent_5 ?_
  refine PW.lshr C dX0_isSilent_6 ?_
  refine PW.lconst (v := 1) C dX0_isSilent_7 (by decide) ?_
  refine PW.land C dX0_isSilent_8 ?_
  refine PW.lconst (v := 1) C dX0_isSilent_9 (by decide) ?_
  refine PW.lcmp C dX0_isSilent_10 ?_
  refine PW.if_ne (tgt := 18) C dX0_isSilent_11 (by decide) (fun c => ?_) (fun c => ?_)
  · rw [if_neg c] at hw
    refine PW.iconst (v := 0) C dX0_isSilent_18 (by decide) ?_
    exact PW.zret C dX0_isSilent_19 (by decide) ⟨_, rfl, hw⟩
  · rw [if_pos c] at hw
    refine PW.iconst (v := 1) C dX0_isSilent_14 (by decide) ?_
    refine PW.goto (tgt := 19) C dX0_isSilent_15 (by decide) ?_
    exact PW.zret C dX0_isSilent_19 (by decide) ⟨_, rfl, hw⟩
def w_X0_isHeard (t : Nat) (x1 : Int32) (x2 : Int32) (x3 : Int32) (h : PH) (Q : Int32 → PH → Prop) : Prop :=
  if x1 < 0 then (Q 0 h) else (if 12 < x1 then (Q 0 h) else (if x2 < 0 then (Q 0 h) else (if 6 ≤ x2 then (Q 0 h) else (if x3 < 0 then (Q 0 h) else (if x3 < 48 then (vp_in ((x1 * 6) + x2) 78 ∧ if (lg_cmp ((((gJ h (t + 2) (iN ((x1 * 6) + x2))) : Int64) >>> ((x3 : Int32).toInt64 &&& 63)) &&& 1) 1) = 0 then (Q 1 h) else (Q 0 h)) else (Q 0 h))))))
set_option maxRecDepth 8000 in
theorem s_X0_isHeard {D : va_G} {ca : Nat → ClassId} {ad : Nat → Nat} {l : Launch} {t : Nat} {x1 : Int32} {x2 : Int32} {x3 : Int32} {h : PH} {Q : Int32 → PH → Prop} (ht : oX t 0) (hw : w_X0_isHeard t x1 x2 x3 h Q) : Sp (GX D ca ad) (XS (GX D ca ad)) l 1 yX0_isHeard cX0_isHeard 4 (some .boolean) [.ref t, .int x1, .int x2, .int x3] h (qI Q) := by
  refine Sp.of (own := RX0) [some (.ref t), some (.int x1), some (.int x2), some (.int x3)] (by decide +kernel) rfl rfl (Nat.le_of_ble_eq_true rfl) (fun K hl C => ?_)
  subst hl
  unfold w_X0_isHeard at hw
  refine PW.ild1n C dX0_isHeard_0 ?_
  refine PW.if_lt (tgt := 30) C dX0_isHeard_1 (by decide) (fun c => ?_) (fun c => ?_)
  · rw [if_pos c] at hw
    refine PW.iconst (v := 0) C dX0_isHeard_30 (by decide) ?_
    exact PW.zret C dX0_isHeard_31 (by decide) ⟨_, rfl, hw⟩
  · rw [if_neg c] at hw
    refine PW.ild1n C dX0_isHeard_4 ?_
    refine PW.bipush (v := 12) C dX0_isHeard_5 (by decide) ?_
    refine PW.icmp_gt (tgt := 30) C dX0_isHeard_7 (by decide) (fun c => ?_) (fun c => ?_)
    · rw [if_pos c] at hw
      refine PW.iconst (v := 0) C dX0_isHeard_30 (by decide) ?_
      exact PW.zret C dX0_isHeard_31 (by decide) ⟨_, rfl, hw⟩
    · rw [if_neg c] at hw
      refine PW.ild2n C dX0_isHeard_10 ?_
      refine PW.if_lt (tgt := 30) C dX0_isHeard_11 (by decide) (fun c => ?_) (fun c => ?_)
      · rw [if_pos c] at hw
        refine PW.iconst (v := 0) C dX0_isHeard_30 (by decide) ?_
        exact PW.zret C dX0_isHeard_31 (by decide) ⟨_, rfl, hw⟩
      · rw [if_neg c] at hw
        refine PW.ild2n C dX0_isHeard_14 ?_
        refine PW.bipush (v := 6) C dX0_isHeard_15 (by decide) ?_
        refine PW.icmp_ge (tgt := 30) C dX0_isHeard_17 (by decide) (fun c => ?_) (fun c => ?_)
        · rw [if_pos c] at hw
          refine PW.iconst (v := 0) C dX0_isHeard_30 (by decide) ?_
          exact PW.zret C dX0_isHeard_31 (by decide) ⟨_, rfl, hw⟩
        · rw [if_neg c] at hw
          refine PW.ild3n C dX0_isHeard_20 ?_
          refine PW.if_lt (tgt := 30) C dX0_isHeard_21 (by decide) (fun c => ?_) (fun c => ?_)
          · rw [if_pos c] at hw
            refine PW.iconst (v := 0) C dX0_isHeard_30 (by decide) ?_
            exact PW.zret C dX0_isHeard_31 (by decide) ⟨_, rfl, hw⟩
          · rw [if_neg c] at hw
            refine PW.ild3n C dX0_isHeard_24 ?_
            refine PW.bipush (v := 48) C dX0_isHeard_25 (by decide) ?_
            refine PW.icmp_lt (tgt := 32) C dX0_isHeard_27 (by decide) (fun c => ?_) (fun c => ?_)
            · rw [if_pos c] at hw
              refine PW.ald0n C dX0_isHeard_32 ?_
              refine PW.get0 C cf_0 fl_X0_15 (by decide) ht (fvR (o := 2) rfl) dX0_isHeard_33 ?_
              refine PW.ild1n C dX0_isHeard_36 ?_
              refine PW.bipush (v := 6) C dX0_isHeard_37 (by decide) ?_
              refine PW.imul C dX0_isHeard_39 ?_
              refine PW.ild2n C dX0_isHeard_40 ?_
              refine PW.iadd C dX0_isHeard_41 ?_
              obtain ⟨hc1, hw⟩ := hw
              refine PW.lald C dX0_isHeard_42 (sf_0_1 ht) hc1 ?_
              refine PW.ild3n C dX0_isHeard_43 ?_
              refine PW.lshr C dX0_isHeard_44 ?_
              refine PW.lconst (v := 1) C dX0_isHeard_45 (by decide) ?_
              refine PW.land C dX0_isHeard_46 ?_
              refine PW.lconst (v := 1) C dX0_isHeard_47 (by decide) ?_
              refine PW.lcmp C dX0_isHeard_48 ?_
              refine PW.if_ne (tgt := 56) C dX0_isHeard_49 (by decide) (fun c => ?_) (fun c => ?_)
              · rw [if_neg c] at hw
                refine PW.iconst (v := 0) C dX0_isHeard_56 (by decide) ?_
                exact PW.zret C dX0_isHeard_57 (by decide) ⟨_, rfl, hw⟩
              · rw [if_pos c] at hw
                refine PW.iconst (v := 1) C dX0_isHeard_52 (by decide) ?_
                refine PW.goto (tgt := 57) C dX0_isHeard_53 (by decide) ?_
                exact PW.zret C dX0_isHeard_57 (by decide) ⟨_, rfl, hw⟩
            · rw [if_neg c] at hw
              refine PW.iconst (v := 0) C dX0_isHeard_30 (by decide) ?_
              exact PW.zret C dX0_isHeard_31 (by decide) ⟨_, rfl, hw⟩
def w_X0_firstHeard_3 (t : Nat) (r1 : Nat) (k26 : Int32 → PH → Prop) (k35 : PH → Prop) (Q : Int32 → PH → Prop) (x2 : Int32) (x3 : Int32) (kb : Int32 → PH → Prop) (x4 : Int32) (h : PH) : Prop :=
  if (gI h (r1 + 7) 3) ≤ x4 then (k35 h) else (w_X0_isHeard t x4 x2 x3 h (fun z2 h1 => if z2 = 0 then (kb (x4 + 1) h1) else (k26 x4 h1)))
set_option maxRecDepth 8000 in
theorem b_X0_firstHeard_3 {D : va_G} {ca : Nat → ClassId} {ad : Nat → Nat} {K : Kt} {t : Nat} {r1 : Nat} {k26 : Int32 → PH → Prop} {k35 : PH → Prop} {kb : Int32 → PH → Prop} {Q : Int32 → PH → Prop} {x2 : Int32} {x3 : Int32} {x4 : Int32} {h : PH} (C : CX (GX D ca ad) (XS (GX D ca ad)) cX0_firstHeard RX0 5 (some .int) 2 K) (ht : oX t 0) (hr1 : oX r1 8) (hk26 : ∀ (x4 : Int32) (h : PH), k26 x4 h → PW (GX D ca ad) K 5 (qI Q) h 26 [none, none, none, none, some (.int x4)] []) (hk35 : ∀ (h : PH), k35 h → PW (GX D ca ad) K 5 (qI Q) h 35 [none, none, none, none, none] []) (hkb : ∀ (x4 : Int32) (h : PH), kb x4 h → PW (GX D ca ad) K 5 (qI Q) h 3 [some (.ref t), some (.ref r1), some (.int x2), some (.int x3), some (.int x4)] []) (hw : w_X0_firstHeard_3 t r1 k26 k35 Q x2 x3 kb x4 h) : PW (GX D ca ad) K 5 (qI Q) h 3 [some (.ref t), some (.ref r1), some (.int x2), some (.int x3), some (.int x4)] [] := by
  unfold w_X0_firstHeard_3 at hw
  refine PW.ild4 C dX0_firstHeard_3 ?_
  refine PW.ald1n C dX0_firstHeard_5 ?_
  refine PW.getN0 C cf_8 fl_X0_81 (by decide) hr1 (fvR (o := 7) rfl) dX0_firstHeard_6 ?_
  refine PW.getN0 C cf_6 fl_X0_35 (by decide) (sf_8_3 hr1) (fvI rfl) dX0_firstHeard_9 ?_
  refine PW.icmp_ge (tgt := 35) C dX0_firstHeard_12 (by decide) (fun c => ?_) (fun c => ?_)
  · rw [if_pos c] at hw
    exact PW.wk (wk_n (wk_n (wk_n (wk_n (wk_n wk_0))))) (hk35 _ hw)
  · rw [if_neg c] at hw
    refine PW.ald0n C dX0_firstHeard_15 ?_
    refine PW.ild4 C dX0_firstHeard_16 ?_
    refine PW.ild2n C dX0_firstHeard_18 ?_
    refine PW.ild3n C dX0_firstHeard_19 ?_
    refine PW.callVI3 C ms_X0_isHeard ml_X0_118 dX0_firstHeard_20 ht ⟨_, _, rfl⟩ (Nat.le_of_ble_eq_true rfl) (by decide) (Nat.le_of_ble_eq_true rfl) (s_X0_isHeard ht hw) ?_
    clear hw
    intro z2 h1 hw
    refine PW.if_eq (tgt := 29) C dX0_firstHeard_23 (by decide) (fun c => ?_) (fun c => ?_)
    · rw [if_pos c] at hw
      refine PW.inc4 (v := 1) C dX0_firstHeard_29 (by decide) rfl (by decide) ?_
      refine PW.goto (tgt := 3) C dX0_firstHeard_32 (by decide) ?_
      exact PW.wk (wk_s (wk_s (wk_s (wk_s (wk_s wk_0))))) (hkb _ _ hw)
    · rw [if_neg c] at hw
      exact PW.wk (wk_n (wk_n (wk_n (wk_n (wk_s wk_0))))) (hk26 _ _ hw)
theorem l_X0_firstHeard_3 {D : va_G} {ca : Nat → ClassId} {ad : Nat → Nat} {K : Kt} {t : Nat} {r1 : Nat} {k26 : Int32 → PH → Prop} {k35 : PH → Prop} {Q : Int32 → PH → Prop} {x2 : Int32} {x3 : Int32} (C : CX (GX D ca ad) (XS (GX D ca ad)) cX0_firstHeard RX0 5 (some .int) 2 K) (ht : oX t 0) (hr1 : oX r1 8) (hk26 : ∀ (x4 : Int32) (h : PH), k26 x4 h → PW (GX D ca ad) K 5 (qI Q) h 26 [none, none, none, none, some (.int x4)] []) (hk35 : ∀ (h : PH), k35 h → PW (GX D ca ad) K 5 (qI Q) h 35 [none, none, none, none, none] []) : ∀ (n : Nat) (x4 : Int32) (h : PH), Lp1 (w_X0_firstHeard_3 t r1 k26 k35 Q x2 x3) n x4 h → PW (GX D ca ad) K 5 (qI Q) h 3 [some (.ref t), some (.ref r1), some (.int x2), some (.int x3), some (.int x4)] [] := by
  intro n
  induction n with
  | zero => intro x4 h hw; exact hw.elim
  | succ n ih => intro x4 h hw; exact b_X0_firstHeard_3 C ht hr1 hk26 hk35 (fun x4 h hw => ih x4 h hw) hw
def w_X0_firstHeard (t : Nat) (r1 : Nat) (x2 : Int32) (x3 : Int32) (h : PH) (Q : Int32 → PH → Prop) : Prop :=
  ∃ n, Lp1 (w_X0_firstHeard_3 t r1 (fun y4 h3 => Q y4 h3) (fun h5 => Q (-1) h5) Q x2 x3) n 0 h
set_option maxRecDepth 8000 in
theorem s_X0_firstHeard {D : va_G} {ca : Nat → ClassId} {ad : Nat → Nat} {l : Launch} {t : Nat} {r1 : Nat} {x2 : Int32} {x3 : Int32} {h : PH} {Q : Int32 → PH → Prop} (ht : oX t 0) (hr1 : oX r1 8) (hw : w_X0_firstHeard t r1 x2 x3 h Q) : Sp (GX D ca ad) (XS (GX D ca ad)) l 2 yX0_firstHeard cX0_firstHeard 5 (some .int) [.ref t, .ref r1, .int x2, .int x3] h (qI Q) := by
  refine Sp.of (own := RX0) [some (.ref t), some (.ref r1), some (.int x2), some (.int x3), none] (by decide +kernel) rfl rfl (Nat.le_of_ble_eq_true rfl) (fun K hl C => ?_)
  subst hl
  unfold w_X0_firstHeard at hw
  refine PW.iconst (v := 0) C dX0_firstHeard_0 (by decide) ?_
  refine PW.ist4 C dX0_firstHeard_1 (by decide) rfl ?_
  obtain ⟨n, hw⟩ := hw
  refine PW.wk (wk_s (wk_s (wk_s (wk_s (wk_s wk_0))))) (l_X0_firstHeard_3 C ht hr1 ?_ ?_ n _ _ hw)
  · intro y4 h3 hw
    refine PW.ild4 C dX0_firstHeard_26 ?_
    exact PW.iret C dX0_firstHeard_28 ⟨_, rfl, hw⟩
  · intro h5 hw
    refine PW.iconst (v := (-1)) C dX0_firstHeard_35 (by decide) ?_
    exact PW.iret C dX0_firstHeard_36 ⟨_, rfl, hw⟩
def w_X0_settlePlace_6 (t : Nat) (r1 : Nat) (k96 : PH → Prop) (Q : PH → Prop) (x2 : Int32) (kb : Int32 → Int32 → PH → Prop) (x3 : Int32) (x4 : Int32) (h : PH) : Prop :=
  if 48 ≤ x4 then (k96 h) else (∀ (y1 : Int32), y1 = ((x2 * 48) + x4) → w_X0_isSilent t x2 x4 h (fun z3 h2 => if z3 = 0 then (w_X0_firstHeard t r1 x2 x4 h2 (fun z11 h10 => w_X6_at (r1 + 7) z11 1 h10 (fun z13 h12 => vp_in y1 288 ∧ ∀ h15, h15 = sI h12 (t + 5) (iN y1) (-3) → kb z13 (x4 + 1) h15))) else (vp_in y1 288 ∧ if (gI h2 (t + 4) (iN y1)) = (-1) then (vp_in y1 288 ∧ ∀ h9, h9 = sI h2 (t + 5) (iN y1) x3 → kb x3 (x4 + 1) h9) else (vp_in y1 288 ∧ vp_in y1 288 ∧ ∀ h7, h7 = sI h2 (t + 5) (iN y1) (gI h2 (t + 4) (iN y1)) → kb x3 (x4 + 1) h7))))
set_option maxRecDepth 8000 in
theorem b_X0_settlePlace_6 {D : va_G} {ca : Nat → ClassId} {ad : Nat → Nat} {K : Kt} {t : Nat} {r1 : Nat} {k96 : PH → Prop} {kb : Int32 → Int32 → PH → Prop} {Q : PH → Prop} {x2 : Int32} {x3 : Int32} {x4 : Int32} {h : PH} (C : CX (GX D ca ad) (XS (GX D ca ad)) cX0_settlePlace RX0 6 none 3 K) (ht : oX t 0) (hr1 : oX r1 8) (hk96 : ∀ (h : PH), k96 h → PW (GX D ca ad) K 6 (qV Q) h 96 [none, none, none, none, none, none] []) (hkb : ∀ (x3 : Int32) (x4 : Int32) (h : PH), kb x3 x4 h → PW (GX D ca ad) K 6 (qV Q) h 6 [some (.ref t), some (.ref r1), some (.int x2), some (.int x3), some (.int x4), none] []) (hw : w_X0_settlePlace_6 t r1 k96 Q x2 kb x3 x4 h) : PW (GX D ca ad) K 6 (qV Q) h 6 [some (.ref t), some (.ref r1), some (.int x2), some (.int x3), some (.int x4), none] [] := by
  unfold w_X0_settlePlace_6 at hw
  refine PW.ild4 C dX0_settlePlace_6 ?_
  refine PW.bipush (v := 48) C dX0_settlePlace_8 (by decide) ?_
  refine PW.icmp_ge (tgt := 96) C dX0_settlePlace_10 (by decide) (fun c => ?_) (fun c => ?_)
  · rw [if_pos c] at hw
    exact PW.wk (wk_n (wk_n (wk_n (wk_n (wk_n (wk_n wk_0)))))) (hk96 _ hw)
  · rw [if_neg c] at hw
    refine PW.ild2n C dX0_settlePlace_13 ?_
    refine PW.bipush (v := 48) C dX0_settlePlace_14 (by decide) ?_
    refine PW.imul C dX0_settlePlace_16 ?_
    refine PW.ild4 C dX0_settlePlace_17 ?_
    refine PW.iadd C dX0_settlePlace_19 ?_
    replace hw := hw _ rfl
    refine PW.ist5 C dX0_settlePlace_20 (by decide) rfl ?_
    refine PW.ald0n C dX0_settlePlace_22 ?_
    refine PW.ild2n C dX0_settlePlace_23 ?_
    refine PW.ild4 C dX0_settlePlace_24 ?_
    refine PW.callVI2 C ms_X0_isSilent ml_X0_100 dX0_settlePlace_26 ht ⟨_, _, rfl⟩ (Nat.le_of_ble_eq_true rfl) (by decide) (Nat.le_of_ble_eq_true rfl) (s_X0_isSilent ht hw) ?_
    clear hw
    intro z3 h2 hw
    refine PW.if_ne (tgt := 61) C dX0_settlePlace_29 (by decide) (fun c => ?_) (fun c => ?_)
    · rw [if_neg c] at hw
      refine PW.ald0n C dX0_settlePlace_61 ?_
      refine PW.get0 C cf_0 fl_X0_25 (by decide) ht (fvR (o := 5) rfl) dX0_settlePlace_62 ?_
      refine PW.ild5 C dX0_settlePlace_65 ?_
      refine PW.ald0n C dX0_settlePlace_67 ?_
      refine PW.get0 C cf_0 fl_X0_22 (by decide) ht (fvR (o := 4) rfl) dX0_settlePlace_68 ?_
      refine PW.ild5 C dX0_settlePlace_71 ?_
      obtain ⟨hc4, hw⟩ := hw
      refine PW.iald C dX0_settlePlace_73 (sf_0_3 ht) hc4 ?_
      refine PW.iconst (v := (-1)) C dX0_settlePlace_74 (by decide) ?_
      refine PW.icmp_ne (tgt := 82) C dX0_settlePlace_75 (by decide) (fun c => ?_) (fun c => ?_)
      · rw [if_neg c] at hw
        refine PW.ald0n C dX0_settlePlace_82 ?_
        refine PW.get0 C cf_0 fl_X0_22 (by decide) ht (fvR (o := 4) rfl) dX0_settlePlace_83 ?_
        refine PW.ild5 C dX0_settlePlace_86 ?_
        obtain ⟨hc5, hw⟩ := hw
        refine PW.iald C dX0_settlePlace_88 (sf_0_3 ht) hc5 ?_
        obtain ⟨hc6, hw⟩ := hw
        replace hw := hw _ rfl
        refine PW.iast C dX0_settlePlace_89 (sf_0_4 ht) hc6 ?_
        refine PW.inc4 (v := 1) C dX0_settlePlace_90 (by decide) rfl (by decide) ?_
        refine PW.goto (tgt := 6) C dX0_settlePlace_93 (by decide) ?_
        exact PW.wk (wk_s (wk_s (wk_s (wk_s (wk_s (wk_n wk_0)))))) (hkb _ _ _ hw)
      · rw [if_pos c] at hw
        refine PW.ild3n C dX0_settlePlace_78 ?_
        refine PW.goto (tgt := 89) C dX0_settlePlace_79 (by decide) ?_
        obtain ⟨hc8, hw⟩ := hw
        replace hw := hw _ rfl
        refine PW.iast C dX0_settlePlace_89 (sf_0_4 ht) hc8 ?_
        refine PW.inc4 (v := 1) C dX0_settlePlace_90 (by decide) rfl (by decide) ?_
        refine PW.goto (tgt := 6) C dX0_settlePlace_93 (by decide) ?_
        exact PW.wk (wk_s (wk_s (wk_s (wk_s (wk_s (wk_n wk_0)))))) (hkb _ _ _ hw)
    · rw [if_pos c] at hw
      refine PW.ald1n C dX0_settlePlace_32 ?_
      refine PW.getN0 C cf_8 fl_X0_81 (by decide) hr1 (fvR (o := 7) rfl) dX0_settlePlace_33 ?_
      refine PW.ald0n C dX0_settlePlace_36 ?_
      refine PW.ald1n C dX0_settlePlace_37 ?_
      refine PW.ild2n C dX0_settlePlace_38 ?_
      refine PW.ild4 C dX0_settlePlace_39 ?_
      refine PW.callVI3 C ms_X0_firstHeard ml_X0_104 dX0_settlePlace_41 ht ⟨_, _, rfl⟩ (Nat.le_of_ble_eq_true rfl) (by decide) (Nat.le_of_ble_eq_true rfl) (s_X0_firstHeard ht hr1 hw) ?_
      clear hw
      intro z11 h10 hw
      refine PW.iconst (v := 1) C dX0_settlePlace_44 (by decide) ?_
      refine PW.callVI2 C ms_X6_at ml_X0_41 dX0_settlePlace_45 (sf_8_3 hr1) ⟨_, _, rfl⟩ (Nat.le_of_ble_eq_true rfl) (by decide) (Nat.le_of_ble_eq_true rfl) (s_X6_at (sf_8_3 hr1) hw) ?_
      clear hw
      intro z13 h12 hw
      refine PW.ist3n C dX0_settlePlace_48 (by decide) rfl ?_
      refine PW.ald0n C dX0_settlePlace_49 ?_
      refine PW.get0 C cf_0 fl_X0_25 (by decide) ht (fvR (o := 5) rfl) dX0_settlePlace_50 ?_
      refine PW.ild5 C dX0_settlePlace_53 ?_
      refine PW.bipush (v := (-3)) C dX0_settlePlace_55 (by decide) ?_
      obtain ⟨hc14, hw⟩ := hw
      replace hw := hw _ rfl
      refine PW.iast C dX0_settlePlace_57 (sf_0_4 ht) hc14 ?_
      refine PW.goto (tgt := 90) C dX0_settlePlace_58 (by decide) ?_
      refine PW.inc4 (v := 1) C dX0_settlePlace_90 (by decide) rfl (by decide) ?_
      refine PW.goto (tgt := 6) C dX0_settlePlace_93 (by decide) ?_
      exact PW.wk (wk_s (wk_s (wk_s (wk_s (wk_s (wk_n wk_0)))))) (hkb _ _ _ hw)
theorem l_X0_settlePlace_6 {D : va_G} {ca : Nat → ClassId} {ad : Nat → Nat} {K : Kt} {t : Nat} {r1 : Nat} {k96 : PH → Prop} {Q : PH → Prop} {x2 : Int32} (C : CX (GX D ca ad) (XS (GX D ca ad)) cX0_settlePlace RX0 6 none 3 K) (ht : oX t 0) (hr1 : oX r1 8) (hk96 : ∀ (h : PH), k96 h → PW (GX D ca ad) K 6 (qV Q) h 96 [none, none, none, none, none, none] []) : ∀ (n : Nat) (x3 : Int32) (x4 : Int32) (h : PH), Lp2 (w_X0_settlePlace_6 t r1 k96 Q x2) n x3 x4 h → PW (GX D ca ad) K 6 (qV Q) h 6 [some (.ref t), some (.ref r1), some (.int x2), some (.int x3), some (.int x4), none] [] := by
  intro n
  induction n with
  | zero => intro x3 x4 h hw; exact hw.elim
  | succ n ih => intro x3 x4 h hw; exact b_X0_settlePlace_6 C ht hr1 hk96 (fun x3 x4 h hw => ih x3 x4 h hw) hw
def w_X0_settlePlace (t : Nat) (r1 : Nat) (x2 : Int32) (h : PH) (Q : PH → Prop) : Prop :=
  ∃ n, Lp2 (w_X0_settlePlace_6 t r1 (fun h16 => Q h16) Q x2) n (-2) 0 h
set_option maxRecDepth 8000 in
theorem s_X0_settlePlace {D : va_G} {ca : Nat → ClassId} {ad : Nat → Nat} {l : Launch} {t : Nat} {r1 : Nat} {x2 : Int32} {h : PH} {Q : PH → Prop} (ht : oX t 0) (hr1 : oX r1 8) (hw : w_X0_settlePlace t r1 x2 h Q) : Sp (GX D ca ad) (XS (GX D ca ad)) l 3 yX0_settlePlace cX0_settlePlace 6 none [.ref t, .ref r1, .int x2] h (qV Q) := by
  refine Sp.of (own := RX0) [some (.ref t), some (.ref r1), some (.int x2), none, none, none] (by decide +kernel) rfl rfl (Nat.le_of_ble_eq_true rfl) (fun K hl C => ?_)
  subst hl
  unfold w_X0_settlePlace at hw
  refine PW.bipush (v := (-2)) C dX0_settlePlace_0 (by decide) ?_
  refine PW.ist3n C dX0_settlePlace_2 (by decide) rfl ?_
  refine PW.iconst (v := 0) C dX0_settlePlace_3 (by decide) ?_
  refine PW.ist4 C dX0_settlePlace_4 (by decide) rfl ?_
  obtain ⟨n, hw⟩ := hw
  refine PW.wk (wk_s (wk_s (wk_s (wk_s (wk_s (wk_n wk_0)))))) (l_X0_settlePlace_6 C ht hr1 ?_ n _ _ _ hw)
  · intro h16 hw
    exact PW.vret C dX0_settlePlace_96 ⟨rfl, hw⟩
def w_X0_settle_2 (t : Nat) (r1 : Nat) (k24 : PH → Prop) (Q : PH → Prop) (kb : Int32 → PH → Prop) (x2 : Int32) (h : PH) : Prop :=
  if 288 ≤ x2 then (k24 h) else (vp_in x2 288 ∧ ∀ h2, h2 = sI h (t + 4) (iN x2) (-1) → kb (x2 + 1) h2)
set_option maxRecDepth 8000 in
theorem b_X0_settle_2 {D : va_G} {ca : Nat → ClassId} {ad : Nat → Nat} {K : Kt} {t : Nat} {r1 : Nat} {k24 : PH → Prop} {kb : Int32 → PH → Prop} {Q : PH → Prop} {x2 : Int32} {h : PH} (C : CX (GX D ca ad) (XS (GX D ca ad)) cX0_settle RX0 6 none 4 K) (ht : oX t 0) (hr1 : oX r1 8) (hk24 : ∀ (h : PH), k24 h → PW (GX D ca ad) K 6 (qV Q) h 24 [some (.ref t), some (.ref r1), none, none, none, none] []) (hkb : ∀ (x2 : Int32) (h : PH), kb x2 h → PW (GX D ca ad) K 6 (qV Q) h 2 [some (.ref t), some (.ref r1), some (.int x2), none, none, none] []) (hw : w_X0_settle_2 t r1 k24 Q kb x2 h) : PW (GX D ca ad) K 6 (qV Q) h 2 [some (.ref t), some (.ref r1), some (.int x2), none, none, none] [] := by
  unfold w_X0_settle_2 at hw
  refine PW.ild2n C dX0_settle_2 ?_
  refine PW.ald0n C dX0_settle_3 ?_
  refine PW.get0 C cf_0 fl_X0_22 (by decide) ht (fvR (o := 4) rfl) dX0_settle_4 ?_
  refine PW.alen (v := 288) C dX0_settle_7 (sf_0_3 ht) (by decide) (by decide) ?_
  refine PW.icmp_ge (tgt := 24) C dX0_settle_8 (by decide) (fun c => ?_) (fun c => ?_)
  · rw [if_pos c] at hw
    exact PW.wk (wk_s (wk_s (wk_n (wk_n (wk_n (wk_n wk_0)))))) (hk24 _ hw)
  · rw [if_neg c] at hw
    refine PW.ald0n C dX0_settle_11 ?_
    refine PW.get0 C cf_0 fl_X0_22 (by decide) ht (fvR (o := 4) rfl) dX0_settle_12 ?_
    refine PW.ild2n C dX0_settle_15 ?_
    refine PW.iconst (v := (-1)) C dX0_settle_16 (by decide) ?_
    obtain ⟨hc1, hw⟩ := hw
    replace hw := hw _ rfl
    refine PW.iast C dX0_settle_17 (sf_0_3 ht) hc1 ?_
    refine PW.inc2 (v := 1) C dX0_settle_18 (by decide) rfl (by decide) ?_
    refine PW.goto (tgt := 2) C dX0_settle_21 (by decide) ?_
    exact PW.wk (wk_s (wk_s (wk_s (wk_n (wk_n (wk_n wk_0)))))) (hkb _ _ hw)
theorem l_X0_settle_2 {D : va_G} {ca : Nat → ClassId} {ad : Nat → Nat} {K : Kt} {t : Nat} {r1 : Nat} {k24 : PH → Prop} {Q : PH → Prop} (C : CX (GX D ca ad) (XS (GX D ca ad)) cX0_settle RX0 6 none 4 K) (ht : oX t 0) (hr1 : oX r1 8) (hk24 : ∀ (h : PH), k24 h → PW (GX D ca ad) K 6 (qV Q) h 24 [some (.ref t), some (.ref r1), none, none, none, none] []) : ∀ (n : Nat) (x2 : Int32) (h : PH), Lp1 (w_X0_settle_2 t r1 k24 Q) n x2 h → PW (GX D ca ad) K 6 (qV Q) h 2 [some (.ref t), some (.ref r1), some (.int x2), none, none, none] [] := by
  intro n
  induction n with
  | zero => intro x2 h hw; exact hw.elim
  | succ n ih => intro x2 h hw; exact b_X0_settle_2 C ht hr1 hk24 (fun x2 h hw => ih x2 h hw) hw
def w_X0_settle_73 (t : Nat) (r1 : Nat) (k125 : PH → Prop) (Q : PH → Prop) (x2 : Int32) (x3 : Int32) (x4 : Int32) (kb : Int32 → PH → Prop) (x5 : Int32) (h : PH) : Prop :=
  if x4 < x5 then (k125 h) else (w_X9_isMinute x5 h (fun z13 h12 => if z13 = 0 then (kb (x5 + 1) h12) else (if x3 < 0 then (kb (x5 + 1) h12) else (if 288 ≤ x3 then (kb (x5 + 1) h12) else (w_X6_at (r1 + 9) x2 0 h12 (fun z15 h14 => vp_in (x3 + x5) 288 ∧ ∀ h17, h17 = sI h14 (t + 4) (iN (x3 + x5)) z15 → kb (x5 + 1) h17))))))
set_option maxRecDepth 8000 in
theorem b_X0_settle_73 {D : va_G} {ca : Nat → ClassId} {ad : Nat → Nat} {K : Kt} {t : Nat} {r1 : Nat} {k125 : PH → Prop} {kb : Int32 → PH → Prop} {Q : PH → Prop} {x2 : Int32} {x3 : Int32} {x4 : Int32} {x5 : Int32} {h : PH} (C : CX (GX D ca ad) (XS (GX D ca ad)) cX0_settle RX0 6 none 4 K) (ht : oX t 0) (hr1 : oX r1 8) (hk125 : ∀ (h : PH), k125 h → PW (GX D ca ad) K 6 (qV Q) h 125 [some (.ref t), some (.ref r1), some (.int x2), none, none, none] []) (hkb : ∀ (x5 : Int32) (h : PH), kb x5 h → PW (GX D ca ad) K 6 (qV Q) h 73 [some (.ref t), some (.ref r1), some (.int x2), some (.int x3), some (.int x4), some (.int x5)] []) (hw : w_X0_settle_73 t r1 k125 Q x2 x3 x4 kb x5 h) : PW (GX D ca ad) K 6 (qV Q) h 73 [some (.ref t), some (.ref r1), some (.int x2), some (.int x3), some (.int x4), some (.int x5)] [] := by
  unfold w_X0_settle_73 at hw
  refine PW.ild5 C dX0_settle_73 ?_
  refine PW.ild4 C dX0_settle_75 ?_
  refine PW.icmp_gt (tgt := 125) C dX0_settle_77 (by decide) (fun c => ?_) (fun c => ?_)
  · rw [if_pos c] at hw
    exact PW.wk (wk_s (wk_s (wk_s (wk_n (wk_n (wk_n wk_0)))))) (hk125 _ hw)
  · rw [if_neg c] at hw
    refine PW.ild5 C dX0_settle_80 ?_
    refine PW.callSNI1 C ms_X9_isMinute ml_X0_93 dX0_settle_82 (Nat.le_of_ble_eq_true rfl) (by decide) (Nat.le_of_ble_eq_true rfl) (s_X9_isMinute hw) ?_
    clear hw
    intro z13 h12 hw
    refine PW.if_eq (tgt := 119) C dX0_settle_85 (by decide) (fun c => ?_) (fun c => ?_)
    · rw [if_pos c] at hw
      refine PW.inc5 (v := 1) C dX0_settle_119 (by decide) rfl (by decide) ?_
      refine PW.goto (tgt := 73) C dX0_settle_122 (by decide) ?_
      exact PW.wk (wk_s (wk_s (wk_s (wk_s (wk_s (wk_s wk_0)))))) (hkb _ _ hw)
    · rw [if_neg c] at hw
      refine PW.ild3n C dX0_settle_88 ?_
      refine PW.if_lt (tgt := 119) C dX0_settle_89 (by decide) (fun c => ?_) (fun c => ?_)
      · rw [if_pos c] at hw
        refine PW.inc5 (v := 1) C dX0_settle_119 (by decide) rfl (by decide) ?_
        refine PW.goto (tgt := 73) C dX0_settle_122 (by decide) ?_
        exact PW.wk (wk_s (wk_s (wk_s (wk_s (wk_s (wk_s wk_0)))))) (hkb _ _ hw)
      · rw [if_neg c] at hw
        refine PW.ild3n C dX0_settle_92 ?_
        refine PW.ald0n C dX0_settle_93 ?_
        refine PW.get0 C cf_0 fl_X0_22 (by decide) ht (fvR (o := 4) rfl) dX0_settle_94 ?_
        refine PW.alen (v := 288) C dX0_settle_97 (sf_0_3 ht) (by decide) (by decide) ?_
        refine PW.icmp_ge (tgt := 119) C dX0_settle_98 (by decide) (fun c => ?_) (fun c => ?_)
        · rw [if_pos c] at hw
          refine PW.inc5 (v := 1) C dX0_settle_119 (by decide) rfl (by decide) ?_
          refine PW.goto (tgt := 73) C dX0_settle_122 (by decide) ?_
          exact PW.wk (wk_s (wk_s (wk_s (wk_s (wk_s (wk_s wk_0)))))) (hkb _ _ hw)
        · rw [if_neg c] at hw
          refine PW.ald0n C dX0_settle_101 ?_
          refine PW.get0 C cf_0 fl_X0_22 (by decide) ht (fvR (o := 4) rfl) dX0_settle_102 ?_
          refine PW.ild3n C dX0_settle_105 ?_
          refine PW.ild5 C dX0_settle_106 ?_
          refine PW.iadd C dX0_settle_108 ?_
          refine PW.ald1n C dX0_settle_109 ?_
          refine PW.getN0 C cf_8 fl_X0_90 (by decide) hr1 (fvR (o := 9) rfl) dX0_settle_110 ?_
          refine PW.ild2n C dX0_settle_113 ?_
          refine PW.iconst (v := 0) C dX0_settle_114 (by decide) ?_
          refine PW.callVI2 C ms_X6_at ml_X0_41 dX0_settle_115 (sf_8_4 hr1) ⟨_, _, rfl⟩ (Nat.le_of_ble_eq_true rfl) (by decide) (Nat.le_of_ble_eq_true rfl) (s_X6_at (sf_8_4 hr1) hw) ?_
          clear hw
          intro z15 h14 hw
          obtain ⟨hc16, hw⟩ := hw
          replace hw := hw _ rfl
          refine PW.iast C dX0_settle_118 (sf_0_3 ht) hc16 ?_
          refine PW.inc5 (v := 1) C dX0_settle_119 (by decide) rfl (by decide) ?_
          refine PW.goto (tgt := 73) C dX0_settle_122 (by decide) ?_
          exact PW.wk (wk_s (wk_s (wk_s (wk_s (wk_s (wk_s wk_0)))))) (hkb _ _ hw)
theorem l_X0_settle_73 {D : va_G} {ca : Nat → ClassId} {ad : Nat → Nat} {K : Kt} {t : Nat} {r1 : Nat} {k125 : PH → Prop} {Q : PH → Prop} {x2 : Int32} {x3 : Int32} {x4 : Int32} (C : CX (GX D ca ad) (XS (GX D ca ad)) cX0_settle RX0 6 none 4 K) (ht : oX t 0) (hr1 : oX r1 8) (hk125 : ∀ (h : PH), k125 h → PW (GX D ca ad) K 6 (qV Q) h 125 [some (.ref t), some (.ref r1), some (.int x2), none, none, none] []) : ∀ (n : Nat) (x5 : Int32) (h : PH), Lp1 (w_X0_settle_73 t r1 k125 Q x2 x3 x4) n x5 h → PW (GX D ca ad) K 6 (qV Q) h 73 [some (.ref t), some (.ref r1), some (.int x2), some (.int x3), some (.int x4), some (.int x5)] [] := by
  intro n
  induction n with
  | zero => intro x5 h hw; exact hw.elim
  | succ n ih => intro x5 h hw; exact b_X0_settle_73 C ht hr1 hk125 (fun x5 h hw => ih x5 h hw) hw
def w_X0_settle_34 (t : Nat) (r1 : Nat) (k131 : PH → Prop) (Q : PH → Prop) (kb : Int32 → PH → Prop) (x2 : Int32) (h : PH) : Prop :=
  if x2 < 0 then (k131 h) else (w_X6_at (r1 + 9) x2 1 h (fun z6 h5 => ∀ (y7 : Int32), y7 = (z6 * 48) → w_X6_at (r1 + 9) x2 3 h5 (fun z9 h8 => w_X6_at (r1 + 9) x2 2 h8 (fun z11 h10 => ∃ n, Lp1 (w_X0_settle_73 t r1 (fun h18 => kb (x2 + (-1)) h18) Q x2 y7 z9) n z11 h10))))
set_option maxRecDepth 8000 in
theorem b_X0_settle_34 {D : va_G} {ca : Nat → ClassId} {ad : Nat → Nat} {K : Kt} {t : Nat} {r1 : Nat} {k131 : PH → Prop} {kb : Int32 → PH → Prop} {Q : PH → Prop} {x2 : Int32} {h : PH} (C : CX (GX D ca ad) (XS (GX D ca ad)) cX0_settle RX0 6 none 4 K) (ht : oX t 0) (hr1 : oX r1 8) (hk131 : ∀ (h : PH), k131 h → PW (GX D ca ad) K 6 (qV Q) h 131 [some (.ref t), some (.ref r1), none, none, none, none] []) (hkb : ∀ (x2 : Int32) (h : PH), kb x2 h → PW (GX D ca ad) K 6 (qV Q) h 34 [some (.ref t), some (.ref r1), some (.int x2), none, none, none] []) (hw : w_X0_settle_34 t r1 k131 Q kb x2 h) : PW (GX D ca ad) K 6 (qV Q) h 34 [some (.ref t), some (.ref r1), some (.int x2), none, none, none] [] := by
  unfold w_X0_settle_34 at hw
  refine PW.ild2n C dX0_settle_34 ?_
  refine PW.if_lt (tgt := 131) C dX0_settle_35 (by decide) (fun c => ?_) (fun c => ?_)
  · rw [if_pos c] at hw
    exact PW.wk (wk_s (wk_s (wk_n (wk_n (wk_n (wk_n wk_0)))))) (hk131 _ hw)
  · rw [if_neg c] at hw
    refine PW.ald1n C dX0_settle_38 ?_
    refine PW.getN0 C cf_8 fl_X0_90 (by decide) hr1 (fvR (o := 9) rfl) dX0_settle_39 ?_
    refine PW.ild2n C dX0_settle_42 ?_
    refine PW.iconst (v := 1) C dX0_settle_43 (by decide) ?_
    refine PW.callVI2 C ms_X6_at ml_X0_41 dX0_settle_44 (sf_8_4 hr1) ⟨_, _, rfl⟩ (Nat.le_of_ble_eq_true rfl) (by decide) (Nat.le_of_ble_eq_true rfl) (s_X6_at (sf_8_4 hr1) hw) ?_
    clear hw
    intro z6 h5 hw
    refine PW.bipush (v := 48) C dX0_settle_47 (by decide) ?_
    refine PW.imul C dX0_settle_49 ?_
    replace hw := hw _ rfl
    refine PW.ist3n C dX0_settle_50 (by decide) rfl ?_
    refine PW.ald1n C dX0_settle_51 ?_
    refine PW.getN0 C cf_8 fl_X0_90 (by decide) hr1 (fvR (o := 9) rfl) dX0_settle_52 ?_
    refine PW.ild2n C dX0_settle_55 ?_
    refine PW.iconst (v := 3) C dX0_settle_56 (by decide) ?_
    refine PW.callVI2 C ms_X6_at ml_X0_41 dX0_settle_57 (sf_8_4 hr1) ⟨_, _, rfl⟩ (Nat.le_of_ble_eq_true rfl) (by decide) (Nat.le_of_ble_eq_true rfl) (s_X6_at (sf_8_4 hr1) hw) ?_
    clear hw
    intro z9 h8 hw
    refine PW.ist4 C dX0_settle_60 (by decide) rfl ?_
    refine PW.ald1n C dX0_settle_62 ?_
    refine PW.getN0 C cf_8 fl_X0_90 (by decide) hr1 (fvR (o := 9) rfl) dX0_settle_63 ?_
    refine PW.ild2n C dX0_settle_66 ?_
    refine PW.iconst (v := 2) C dX0_settle_67 (by decide) ?_
    refine PW.callVI2 C ms_X6_at ml_X0_41 dX0_settle_68 (sf_8_4 hr1) ⟨_, _, rfl⟩ (Nat.le_of_ble_eq_true rfl) (by decide) (Nat.le_of_ble_eq_true rfl) (s_X6_at (sf_8_4 hr1) hw) ?_
    clear hw
    intro z11 h10 hw
    refine PW.ist5 C dX0_settle_71 (by decide) rfl ?_
    obtain ⟨n, hw⟩ := hw
    refine PW.wk (wk_s (wk_s (wk_s (wk_s (wk_s (wk_s wk_0)))))) (l_X0_settle_73 C ht hr1 ?_ n _ _ hw)
    · intro h18 hw
      refine PW.inc2 (v := (-1)) C dX0_settle_125 (by decide) rfl (by decide) ?_
      refine PW.goto (tgt := 34) C dX0_settle_128 (by decide) ?_
      exact PW.wk (wk_s (wk_s (wk_s (wk_n (wk_n (wk_n wk_0)))))) (hkb _ _ hw)
theorem l_X0_settle_34 {D : va_G} {ca : Nat → ClassId} {ad : Nat → Nat} {K : Kt} {t : Nat} {r1 : Nat} {k131 : PH → Prop} {Q : PH → Prop} (C : CX (GX D ca ad) (XS (GX D ca ad)) cX0_settle RX0 6 none 4 K) (ht : oX t 0) (hr1 : oX r1 8) (hk131 : ∀ (h : PH), k131 h → PW (GX D ca ad) K 6 (qV Q) h 131 [some (.ref t), some (.ref r1), none, none, none, none] []) : ∀ (n : Nat) (x2 : Int32) (h : PH), Lp1 (w_X0_settle_34 t r1 k131 Q) n x2 h → PW (GX D ca ad) K 6 (qV Q) h 34 [some (.ref t), some (.ref r1), some (.int x2), none, none, none] [] := by
  intro n
  induction n with
  | zero => intro x2 h hw; exact hw.elim
  | succ n ih => intro x2 h hw; exact b_X0_settle_34 C ht hr1 hk131 (fun x2 h hw => ih x2 h hw) hw
def w_X0_settle_133 (t : Nat) (r1 : Nat) (k162 : PH → Prop) (Q : PH → Prop) (kb : Int32 → PH → Prop) (x2 : Int32) (h : PH) : Prop :=
  if (gI h (r1 + 1) 3) ≤ x2 then (k162 h) else (if 6 ≤ x2 then (k162 h) else (w_X0_settlePlace t r1 x2 h (fun h20 => kb (x2 + 1) h20)))
set_option maxRecDepth 8000 in
theorem b_X0_settle_133 {D : va_G} {ca : Nat → ClassId} {ad : Nat → Nat} {K : Kt} {t : Nat} {r1 : Nat} {k162 : PH → Prop} {kb : Int32 → PH → Prop} {Q : PH → Prop} {x2 : Int32} {h : PH} (C : CX (GX D ca ad) (XS (GX D ca ad)) cX0_settle RX0 6 none 4 K) (ht : oX t 0) (hr1 : oX r1 8) (hk162 : ∀ (h : PH), k162 h → PW (GX D ca ad) K 6 (qV Q) h 162 [none, none, none, none, none, none] []) (hkb : ∀ (x2 : Int32) (h : PH), kb x2 h → PW (GX D ca ad) K 6 (qV Q) h 133 [some (.ref t), some (.ref r1), some (.int x2), none, none, none] []) (hw : w_X0_settle_133 t r1 k162 Q kb x2 h) : PW (GX D ca ad) K 6 (qV Q) h 133 [some (.ref t), some (.ref r1), some (.int x2), none, none, none] [] := by
  unfold w_X0_settle_133 at hw
  refine PW.ild2n C dX0_settle_133 ?_
  refine PW.ald1n C dX0_settle_134 ?_
  refine PW.getN0 C cf_8 fl_X0_45 (by decide) hr1 (fvR (o := 1) rfl) dX0_settle_135 ?_
  refine PW.getN0 C cf_6 fl_X0_35 (by decide) (sf_8_0 hr1) (fvI rfl) dX0_settle_138 ?_
  refine PW.icmp_ge (tgt := 162) C dX0_settle_141 (by decide) (fun c => ?_) (fun c => ?_)
  · rw [if_pos c] at hw
    exact PW.wk (wk_n (wk_n (wk_n (wk_n (wk_n (wk_n wk_0)))))) (hk162 _ hw)
  · rw [if_neg c] at hw
    refine PW.ild2n C dX0_settle_144 ?_
    refine PW.bipush (v := 6) C dX0_settle_145 (by decide) ?_
    refine PW.icmp_ge (tgt := 162) C dX0_settle_147 (by decide) (fun c => ?_) (fun c => ?_)
    · rw [if_pos c] at hw
      exact PW.wk (wk_n (wk_n (wk_n (wk_n (wk_n (wk_n wk_0)))))) (hk162 _ hw)
    · rw [if_neg c] at hw
      refine PW.ald0n C dX0_settle_150 ?_
      refine PW.ald1n C dX0_settle_151 ?_
      refine PW.ild2n C dX0_settle_152 ?_
      refine PW.callVV2 C ms_X0_settlePlace ml_X0_96 dX0_settle_153 ht ⟨_, _, rfl⟩ (Nat.le_of_ble_eq_true rfl) (by decide) (Nat.le_of_ble_eq_true rfl) (s_X0_settlePlace ht hr1 hw) ?_
      clear hw
      intro h20 hw
      refine PW.inc2 (v := 1) C dX0_settle_156 (by decide) rfl (by decide) ?_
      refine PW.goto (tgt := 133) C dX0_settle_159 (by decide) ?_
      exact PW.wk (wk_s (wk_s (wk_s (wk_n (wk_n (wk_n wk_0)))))) (hkb _ _ hw)
theorem l_X0_settle_133 {D : va_G} {ca : Nat → ClassId} {ad : Nat → Nat} {K : Kt} {t : Nat} {r1 : Nat} {k162 : PH → Prop} {Q : PH → Prop} (C : CX (GX D ca ad) (XS (GX D ca ad)) cX0_settle RX0 6 none 4 K) (ht : oX t 0) (hr1 : oX r1 8) (hk162 : ∀ (h : PH), k162 h → PW (GX D ca ad) K 6 (qV Q) h 162 [none, none, none, none, none, none] []) : ∀ (n : Nat) (x2 : Int32) (h : PH), Lp1 (w_X0_settle_133 t r1 k162 Q) n x2 h → PW (GX D ca ad) K 6 (qV Q) h 133 [some (.ref t), some (.ref r1), some (.int x2), none, none, none] [] := by
  intro n
  induction n with
  | zero => intro x2 h hw; exact hw.elim
  | succ n ih => intro x2 h hw; exact b_X0_settle_133 C ht hr1 hk162 (fun x2 h hw => ih x2 h hw) hw
def w_X0_settle (t : Nat) (r1 : Nat) (h : PH) (Q : PH → Prop) : Prop :=
  ∃ n, Lp1 (w_X0_settle_2 t r1 (fun h3 => ∀ (y4 : Int32), y4 = ((gI h3 (r1 + 9) 3) - 1) → ∃ n, Lp1 (w_X0_settle_34 t r1 (fun h19 => ∃ n, Lp1 (w_X0_settle_133 t r1 (fun h21 => Q h21) Q) n 0 h19) Q) n y4 h3) Q) n 0 h
set_option maxRecDepth 8000 in
theorem s_X0_settle {D : va_G} {ca : Nat → ClassId} {ad : Nat → Nat} {l : Launch} {t : Nat} {r1 : Nat} {h : PH} {Q : PH → Prop} (ht : oX t 0) (hr1 : oX r1 8) (hw : w_X0_settle t r1 h Q) : Sp (GX D ca ad) (XS (GX D ca ad)) l 4 yX0_settle cX0_settle 6 none [.ref t, .ref r1] h (qV Q) := by
  refine Sp.of (own := RX0) [some (.ref t), some (.ref r1), none, none, none, none] (by decide +kernel) rfl rfl (Nat.le_of_ble_eq_true rfl) (fun K hl C => ?_)
  subst hl
  unfold w_X0_settle at hw
  refine PW.iconst (v := 0) C dX0_settle_0 (by decide) ?_
  refine PW.ist2n C dX0_settle_1 (by decide) rfl ?_
  obtain ⟨n, hw⟩ := hw
  refine PW.wk (wk_s (wk_s (wk_s (wk_n (wk_n (wk_n wk_0)))))) (l_X0_settle_2 C ht hr1 ?_ n _ _ hw)
  · intro h3 hw
    refine PW.ald1n C dX0_settle_24 ?_
    refine PW.getN0 C cf_8 fl_X0_90 (by decide) hr1 (fvR (o := 9) rfl) dX0_settle_25 ?_
    refine PW.getN0 C cf_6 fl_X0_35 (by decide) (sf_8_4 hr1) (fvI rfl) dX0_settle_28 ?_
    refine PW.iconst (v := 1) C dX0_settle_31 (by decide) ?_
    refine PW.isub C dX0_settle_32 ?_
    replace hw := hw _ rfl
    refine PW.ist2n C dX0_settle_33 (by decide) rfl ?_
    obtain ⟨n, hw⟩ := hw
    refine PW.wk (wk_s (wk_s (wk_s (wk_n (wk_n (wk_n wk_0)))))) (l_X0_settle_34 C ht hr1 ?_ n _ _ hw)
    · intro h19 hw
      refine PW.iconst (v := 0) C dX0_settle_131 (by decide) ?_
      refine PW.ist2n C dX0_settle_132 (by decide) rfl ?_
      obtain ⟨n, hw⟩ := hw
      refine PW.wk (wk_s (wk_s (wk_s (wk_n (wk_n (wk_n wk_0)))))) (l_X0_settle_133 C ht hr1 ?_ n _ _ hw)
      · intro h21 hw
        exact PW.vret C dX0_settle_162 ⟨rfl, hw⟩
def w_X0_isSpot (x0 : Int32) (x1 : Int32) (h : PH) (Q : Int32 → PH → Prop) : Prop :=
  if x0 < 0 then (Q 0 h) else (if 6 ≤ x0 then (Q 0 h) else (if x1 < 0 then (Q 0 h) else (if 48 ≤ x1 then (Q 0 h) else (Q 1 h))))
set_option maxRecDepth 8000 in
theorem s_X0_isSpot {D : va_G} {ca : Nat → ClassId} {ad : Nat → Nat} {l : Launch} {x0 : Int32} {x1 : Int32} {h : PH} {Q : Int32 → PH → Prop} (hw : w_X0_isSpot x0 x1 h Q) : Sp (GX D ca ad) (XS (GX D ca ad)) l 1 yX0_isSpot cX0_isSpot 2 (some .boolean) [.int x0, .int x1] h (qI Q) := by
  refine Sp.of (own := RX0) [some (.int x0), some (.int x1)] (by decide +kernel) rfl rfl (Nat.le_of_ble_eq_true rfl) (fun K hl C => ?_)
  subst hl
  unfold w_X0_isSpot at hw
  refine PW.ild0n C dX0_isSpot_0 ?_
  refine PW.if_lt (tgt := 24) C dX0_isSpot_1 (by decide) (fun c => ?_) (fun c => ?_)
  · rw [if_pos c] at hw
    refine PW.iconst (v := 0) C dX0_isSpot_24 (by decide) ?_
    exact PW.zret C dX0_isSpot_25 (by decide) ⟨_, rfl, hw⟩
  · rw [if_neg c] at hw
    refine PW.ild0n C dX0_isSpot_4 ?_
    refine PW.bipush (v := 6) C dX0_isSpot_5 (by decide) ?_
    refine PW.icmp_ge (tgt := 24) C dX0_isSpot_7 (by decide) (fun c => ?_) (fun c => ?_)
    · rw [if_pos c] at hw
      refine PW.iconst (v := 0) C dX0_isSpot_24 (by decide) ?_
      exact PW.zret C dX0_isSpot_25 (by decide) ⟨_, rfl, hw⟩
    · rw [if_neg c] at hw
      refine PW.ild1n C dX0_isSpot_10 ?_
      refine PW.if_lt (tgt := 24) C dX0_isSpot_11 (by decide) (fun c => ?_) (fun c => ?_)
      · rw [if_pos c] at hw
        refine PW.iconst (v := 0) C dX0_isSpot_24 (by decide) ?_
        exact PW.zret C dX0_isSpot_25 (by decide) ⟨_, rfl, hw⟩
      · rw [if_neg c] at hw
        refine PW.ild1n C dX0_isSpot_14 ?_
        refine PW.bipush (v := 48) C dX0_isSpot_15 (by decide) ?_
        refine PW.icmp_ge (tgt := 24) C dX0_isSpot_17 (by decide) (fun c => ?_) (fun c => ?_)
        · rw [if_pos c] at hw
          refine PW.iconst (v := 0) C dX0_isSpot_24 (by decide) ?_
          exact PW.zret C dX0_isSpot_25 (by decide) ⟨_, rfl, hw⟩
        · rw [if_neg c] at hw
          refine PW.iconst (v := 1) C dX0_isSpot_20 (by decide) ?_
          refine PW.goto (tgt := 25) C dX0_isSpot_21 (by decide) ?_
          exact PW.zret C dX0_isSpot_25 (by decide) ⟨_, rfl, hw⟩
def w_X0_silentMinutes_4 (t : Nat) (k28 : Int32 → PH → Prop) (Q : Int32 → PH → Prop) (kb : Int32 → Int32 → PH → Prop) (x1 : Int32) (x2 : Int32) (h : PH) : Prop :=
  if 6 ≤ x2 then (k28 x1 h) else (vp_in x2 6 ∧ w_J13_bitCount_95d88 (gJ h (t + 3) (iN x2)) h (fun z3 h2 => ∀ (y4 : Int32), y4 = (x1 + z3) → kb y4 (x2 + 1) h2))
set_option maxRecDepth 8000 in
theorem b_X0_silentMinutes_4 {D : va_G} {ca : Nat → ClassId} {ad : Nat → Nat} {K : Kt} {t : Nat} {k28 : Int32 → PH → Prop} {kb : Int32 → Int32 → PH → Prop} {Q : Int32 → PH → Prop} {x1 : Int32} {x2 : Int32} {h : PH} (C : CX (GX D ca ad) (XS (GX D ca ad)) cX0_silentMinutes RX0 3 (some .int) 2 K) (ht : oX t 0) (hk28 : ∀ (x1 : Int32) (h : PH), k28 x1 h → PW (GX D ca ad) K 3 (qI Q) h 28 [none, some (.int x1), none] []) (hkb : ∀ (x1 : Int32) (x2 : Int32) (h : PH), kb x1 x2 h → PW (GX D ca ad) K 3 (qI Q) h 4 [some (.ref t), some (.int x1), some (.int x2)] []) (hw : w_X0_silentMinutes_4 t k28 Q kb x1 x2 h) : PW (GX D ca ad) K 3 (qI Q) h 4 [some (.ref t), some (.int x1), some (.int x2)] [] := by
  unfold w_X0_silentMinutes_4 at hw
  refine PW.ild2n C dX0_silentMinutes_4 ?_
  refine PW.bipush (v := 6) C dX0_silentMinutes_5 (by decide) ?_
  refine PW.icmp_ge (tgt := 28) C dX0_silentMinutes_7 (by decide) (fun c => ?_) (fun c => ?_)
  · rw [if_pos c] at hw
    exact PW.wk (wk_n (wk_s (wk_n wk_0))) (hk28 _ _ hw)
  · rw [if_neg c] at hw
    refine PW.ild1n C dX0_silentMinutes_10 ?_
    refine PW.ald0n C dX0_silentMinutes_11 ?_
    refine PW.get0 C cf_0 fl_X0_19 (by decide) ht (fvR (o := 3) rfl) dX0_silentMinutes_12 ?_
    refine PW.ild2n C dX0_silentMinutes_15 ?_
    obtain ⟨hc1, hw⟩ := hw
    refine PW.lald C dX0_silentMinutes_16 (sf_0_2 ht) hc1 ?_
    refine PW.callSI1 C ms_J13_bitCount_95d88 ml_X0_112 dX0_silentMinutes_17 (Nat.le_of_ble_eq_true rfl) (by decide) (Nat.le_of_ble_eq_true rfl) (s_J13_bitCount_95d88 hw) ?_
    clear hw
    intro z3 h2 hw
    refine PW.iadd C dX0_silentMinutes_20 ?_
    replace hw := hw _ rfl
    refine PW.ist1n C dX0_silentMinutes_21 (by decide) rfl ?_
    refine PW.inc2 (v := 1) C dX0_silentMinutes_22 (by decide) rfl (by decide) ?_
    refine PW.goto (tgt := 4) C dX0_silentMinutes_25 (by decide) ?_
    exact PW.wk (wk_s (wk_s (wk_s wk_0))) (hkb _ _ _ hw)
theorem l_X0_silentMinutes_4 {D : va_G} {ca : Nat → ClassId} {ad : Nat → Nat} {K : Kt} {t : Nat} {k28 : Int32 → PH → Prop} {Q : Int32 → PH → Prop} (C : CX (GX D ca ad) (XS (GX D ca ad)) cX0_silentMinutes RX0 3 (some .int) 2 K) (ht : oX t 0) (hk28 : ∀ (x1 : Int32) (h : PH), k28 x1 h → PW (GX D ca ad) K 3 (qI Q) h 28 [none, some (.int x1), none] []) : ∀ (n : Nat) (x1 : Int32) (x2 : Int32) (h : PH), Lp2 (w_X0_silentMinutes_4 t k28 Q) n x1 x2 h → PW (GX D ca ad) K 3 (qI Q) h 4 [some (.ref t), some (.int x1), some (.int x2)] [] := by
  intro n
  induction n with
  | zero => intro x1 x2 h hw; exact hw.elim
  | succ n ih => intro x1 x2 h hw; exact b_X0_silentMinutes_4 C ht hk28 (fun x1 x2 h hw => ih x1 x2 h hw) hw
def w_X0_silentMinutes (t : Nat) (h : PH) (Q : Int32 → PH → Prop) : Prop :=
  ∃ n, Lp2 (w_X0_silentMinutes_4 t (fun y6 h5 => Q y6 h5) Q) n 0 0 h
set_option maxRecDepth 8000 in
theorem s_X0_silentMinutes {D : va_G} {ca : Nat → ClassId} {ad : Nat → Nat} {l : Launch} {t : Nat} {h : PH} {Q : Int32 → PH → Prop} (ht : oX t 0) (hw : w_X0_silentMinutes t h Q) : Sp (GX D ca ad) (XS (GX D ca ad)) l 2 yX0_silentMinutes cX0_silentMinutes 3 (some .int) [.ref t] h (qI Q) := by
  refine Sp.of (own := RX0) [some (.ref t), none, none] (by decide +kernel) rfl rfl (Nat.le_of_ble_eq_true rfl) (fun K hl C => ?_)
  subst hl
  unfold w_X0_silentMinutes at hw
  refine PW.iconst (v := 0) C dX0_silentMinutes_0 (by decide) ?_
  refine PW.ist1n C dX0_silentMinutes_1 (by decide) rfl ?_
  refine PW.iconst (v := 0) C dX0_silentMinutes_2 (by decide) ?_
  refine PW.ist2n C dX0_silentMinutes_3 (by decide) rfl ?_
  obtain ⟨n, hw⟩ := hw
  refine PW.wk (wk_s (wk_s (wk_s wk_0))) (l_X0_silentMinutes_4 C ht ?_ n _ _ _ hw)
  · intro y6 h5 hw
    refine PW.ild1n C dX0_silentMinutes_28 ?_
    exact PW.iret C dX0_silentMinutes_29 ⟨_, rfl, hw⟩
def w_X0_holder (t : Nat) (x1 : Int32) (x2 : Int32) (h : PH) (Q : Int32 → PH → Prop) : Prop :=
  w_X0_isSpot x1 x2 h (fun z2 h1 => if z2 = 0 then (Q (-1) h1) else (vp_in ((x1 * 48) + x2) 288 ∧ Q (gI h1 (t + 5) (iN ((x1 * 48) + x2))) h1))
set_option maxRecDepth 8000 in
theorem s_X0_holder {D : va_G} {ca : Nat → ClassId} {ad : Nat → Nat} {l : Launch} {t : Nat} {x1 : Int32} {x2 : Int32} {h : PH} {Q : Int32 → PH → Prop} (ht : oX t 0) (hw : w_X0_holder t x1 x2 h Q) : Sp (GX D ca ad) (XS (GX D ca ad)) l 2 yX0_holder cX0_holder 3 (some .int) [.ref t, .int x1, .int x2] h (qI Q) := by
  refine Sp.of (own := RX0) [some (.ref t), some (.int x1), some (.int x2)] (by decide +kernel) rfl rfl (Nat.le_of_ble_eq_true rfl) (fun K hl C => ?_)
  subst hl
  unfold w_X0_holder at hw
  refine PW.ild1n C dX0_holder_0 ?_
  refine PW.ild2n C dX0_holder_1 ?_
  refine PW.callSI2 C ms_X0_isSpot ml_X0_122 dX0_holder_2 (Nat.le_of_ble_eq_true rfl) (by decide) (Nat.le_of_ble_eq_true rfl) (s_X0_isSpot hw) ?_
  clear hw
  intro z2 h1 hw
  refine PW.if_eq (tgt := 22) C dX0_holder_5 (by decide) (fun c => ?_) (fun c => ?_)
  · rw [if_pos c] at hw
    refine PW.iconst (v := (-1)) C dX0_holder_22 (by decide) ?_
    exact PW.iret C dX0_holder_23 ⟨_, rfl, hw⟩
  · rw [if_neg c] at hw
    refine PW.ald0n C dX0_holder_8 ?_
    refine PW.get0 C cf_0 fl_X0_25 (by decide) ht (fvR (o := 5) rfl) dX0_holder_9 ?_
    refine PW.ild1n C dX0_holder_12 ?_
    refine PW.bipush (v := 48) C dX0_holder_13 (by decide) ?_
    refine PW.imul C dX0_holder_15 ?_
    refine PW.ild2n C dX0_holder_16 ?_
    refine PW.iadd C dX0_holder_17 ?_
    obtain ⟨hc3, hw⟩ := hw
    refine PW.iald C dX0_holder_18 (sf_0_4 ht) hc3 ?_
    refine PW.goto (tgt := 23) C dX0_holder_19 (by decide) ?_
    exact PW.iret C dX0_holder_23 ⟨_, rfl, hw⟩
def w_X0_minutesOf_13 (t : Nat) (k50 : Int32 → PH → Prop) (Q : Int32 → PH → Prop) (x1 : Int32) (x3 : Int32) (kb : Int32 → Int32 → PH → Prop) (x2 : Int32) (x4 : Int32) (h : PH) : Prop :=
  if 48 ≤ x4 then (k50 x2 h) else (w_X0_isSilent t x3 x4 h (fun z2 h1 => if z2 = 0 then (kb x2 (x4 + 1) h1) else (w_X0_holder t x3 x4 h1 (fun z4 h3 => if z4 = x1 then (kb (x2 + 1) (x4 + 1) h3) else (kb x2 (x4 + 1) h3)))))
set_option maxRecDepth 8000 in
theorem b_X0_minutesOf_13 {D : va_G} {ca : Nat → ClassId} {ad : Nat → Nat} {K : Kt} {t : Nat} {k50 : Int32 → PH → Prop} {kb : Int32 → Int32 → PH → Prop} {Q : Int32 → PH → Prop} {x1 : Int32} {x3 : Int32} {x2 : Int32} {x4 : Int32} {h : PH} (C : CX (GX D ca ad) (XS (GX D ca ad)) cX0_minutesOf RX0 5 (some .int) 3 K) (ht : oX t 0) (hk50 : ∀ (x2 : Int32) (h : PH), k50 x2 h → PW (GX D ca ad) K 5 (qI Q) h 50 [some (.ref t), some (.int x1), some (.int x2), some (.int x3), none] []) (hkb : ∀ (x2 : Int32) (x4 : Int32) (h : PH), kb x2 x4 h → PW (GX D ca ad) K 5 (qI Q) h 13 [some (.ref t), some (.int x1), some (.int x2), some (.int x3), some (.int x4)] []) (hw : w_X0_minutesOf_13 t k50 Q x1 x3 kb x2 x4 h) : PW (GX D ca ad) K 5 (qI Q) h 13 [some (.ref t), some (.int x1), some (.int x2), some (.int x3), some (.int x4)] [] := by
  unfold w_X0_minutesOf_13 at hw
  refine PW.ild4 C dX0_minutesOf_13 ?_
  refine PW.bipush (v := 48) C dX0_minutesOf_15 (by decide) ?_
  refine PW.icmp_ge (tgt := 50) C dX0_minutesOf_17 (by decide) (fun c => ?_) (fun c => ?_)
  · rw [if_pos c] at hw
    exact PW.wk (wk_s (wk_s (wk_s (wk_s (wk_n wk_0))))) (hk50 _ _ hw)
  · rw [if_neg c] at hw
    refine PW.ald0n C dX0_minutesOf_20 ?_
    refine PW.ild3n C dX0_minutesOf_21 ?_
    refine PW.ild4 C dX0_minutesOf_22 ?_
    refine PW.callVI2 C ms_X0_isSilent ml_X0_100 dX0_minutesOf_24 ht ⟨_, _, rfl⟩ (Nat.le_of_ble_eq_true rfl) (by decide) (Nat.le_of_ble_eq_true rfl) (s_X0_isSilent ht hw) ?_
    clear hw
    intro z2 h1 hw
    refine PW.if_eq (tgt := 44) C dX0_minutesOf_27 (by decide) (fun c => ?_) (fun c => ?_)
    · rw [if_pos c] at hw
      refine PW.inc4 (v := 1) C dX0_minutesOf_44 (by decide) rfl (by decide) ?_
      refine PW.goto (tgt := 13) C dX0_minutesOf_47 (by decide) ?_
      exact PW.wk (wk_s (wk_s (wk_s (wk_s (wk_s wk_0))))) (hkb _ _ _ hw)
    · rw [if_neg c] at hw
      refine PW.ald0n C dX0_minutesOf_30 ?_
      refine PW.ild3n C dX0_minutesOf_31 ?_
      refine PW.ild4 C dX0_minutesOf_32 ?_
      refine PW.callVI2 C ms_X0_holder ml_X0_125 dX0_minutesOf_34 ht ⟨_, _, rfl⟩ (Nat.le_of_ble_eq_true rfl) (by decide) (Nat.le_of_ble_eq_true rfl) (s_X0_holder ht hw) ?_
      clear hw
      intro z4 h3 hw
      refine PW.ild1n C dX0_minutesOf_37 ?_
      refine PW.icmp_ne (tgt := 44) C dX0_minutesOf_38 (by decide) (fun c => ?_) (fun c => ?_)
      · rw [if_neg c] at hw
        refine PW.inc4 (v := 1) C dX0_minutesOf_44 (by decide) rfl (by decide) ?_
        refine PW.goto (tgt := 13) C dX0_minutesOf_47 (by decide) ?_
        exact PW.wk (wk_s (wk_s (wk_s (wk_s (wk_s wk_0))))) (hkb _ _ _ hw)
      · rw [if_pos c] at hw
        refine PW.inc2 (v := 1) C dX0_minutesOf_41 (by decide) rfl (by decide) ?_
        refine PW.inc4 (v := 1) C dX0_minutesOf_44 (by decide) rfl (by decide) ?_
        refine PW.goto (tgt := 13) C dX0_minutesOf_47 (by decide) ?_
        exact PW.wk (wk_s (wk_s (wk_s (wk_s (wk_s wk_0))))) (hkb _ _ _ hw)
theorem l_X0_minutesOf_13 {D : va_G} {ca : Nat → ClassId} {ad : Nat → Nat} {K : Kt} {t : Nat} {k50 : Int32 → PH → Prop} {Q : Int32 → PH → Prop} {x1 : Int32} {x3 : Int32} (C : CX (GX D ca ad) (XS (GX D ca ad)) cX0_minutesOf RX0 5 (some .int) 3 K) (ht : oX t 0) (hk50 : ∀ (x2 : Int32) (h : PH), k50 x2 h → PW (GX D ca ad) K 5 (qI Q) h 50 [some (.ref t), some (.int x1), some (.int x2), some (.int x3), none] []) : ∀ (n : Nat) (x2 : Int32) (x4 : Int32) (h : PH), Lp2 (w_X0_minutesOf_13 t k50 Q x1 x3) n x2 x4 h → PW (GX D ca ad) K 5 (qI Q) h 13 [some (.ref t), some (.int x1), some (.int x2), some (.int x3), some (.int x4)] [] := by
  intro n
  induction n with
  | zero => intro x2 x4 h hw; exact hw.elim
  | succ n ih => intro x2 x4 h hw; exact b_X0_minutesOf_13 C ht hk50 (fun x2 x4 h hw => ih x2 x4 h hw) hw
def w_X0_minutesOf_4 (t : Nat) (k56 : Int32 → PH → Prop) (Q : Int32 → PH → Prop) (x1 : Int32) (kb : Int32 → Int32 → PH → Prop) (x2 : Int32) (x3 : Int32) (h : PH) : Prop :=
  if 6 ≤ x3 then (k56 x2 h) else (∃ n, Lp2 (w_X0_minutesOf_13 t (fun y6 h5 => kb y6 (x3 + 1) h5) Q x1 x3) n x2 0 h)
set_option maxRecDepth 8000 in
theorem b_X0_minutesOf_4 {D : va_G} {ca : Nat → ClassId} {ad : Nat → Nat} {K : Kt} {t : Nat} {k56 : Int32 → PH → Prop} {kb : Int32 → Int32 → PH → Prop} {Q : Int32 → PH → Prop} {x1 : Int32} {x2 : Int32} {x3 : Int32} {h : PH} (C : CX (GX D ca ad) (XS (GX D ca ad)) cX0_minutesOf RX0 5 (some .int) 3 K) (ht : oX t 0) (hk56 : ∀ (x2 : Int32) (h : PH), k56 x2 h → PW (GX D ca ad) K 5 (qI Q) h 56 [none, none, some (.int x2), none, none] []) (hkb : ∀ (x2 : Int32) (x3 : Int32) (h : PH), kb x2 x3 h → PW (GX D ca ad) K 5 (qI Q) h 4 [some (.ref t), some (.int x1), some (.int x2), some (.int x3), none] []) (hw : w_X0_minutesOf_4 t k56 Q x1 kb x2 x3 h) : PW (GX D ca ad) K 5 (qI Q) h 4 [some (.ref t), some (.int x1), some (.int x2), some (.int x3), none] [] := by
  unfold w_X0_minutesOf_4 at hw
  refine PW.ild3n C dX0_minutesOf_4 ?_
  refine PW.bipush (v := 6) C dX0_minutesOf_5 (by decide) ?_
  refine PW.icmp_ge (tgt := 56) C dX0_minutesOf_7 (by decide) (fun c => ?_) (fun c => ?_)
  · rw [if_pos c] at hw
    exact PW.wk (wk_n (wk_n (wk_s (wk_n (wk_n wk_0))))) (hk56 _ _ hw)
  · rw [if_neg c] at hw
    refine PW.iconst (v := 0) C dX0_minutesOf_10 (by decide) ?_
    refine PW.ist4 C dX0_minutesOf_11 (by decide) rfl ?_
    obtain ⟨n, hw⟩ := hw
    refine PW.wk (wk_s (wk_s (wk_s (wk_s (wk_s wk_0))))) (l_X0_minutesOf_13 C ht ?_ n _ _ _ hw)
    · intro y6 h5 hw
      refine PW.inc3 (v := 1) C dX0_minutesOf_50 (by decide) rfl (by decide) ?_
      refine PW.goto (tgt := 4) C dX0_minutesOf_53 (by decide) ?_
      exact PW.wk (wk_s (wk_s (wk_s (wk_s (wk_n wk_0))))) (hkb _ _ _ hw)
theorem l_X0_minutesOf_4 {D : va_G} {ca : Nat → ClassId} {ad : Nat → Nat} {K : Kt} {t : Nat} {k56 : Int32 → PH → Prop} {Q : Int32 → PH → Prop} {x1 : Int32} (C : CX (GX D ca ad) (XS (GX D ca ad)) cX0_minutesOf RX0 5 (some .int) 3 K) (ht : oX t 0) (hk56 : ∀ (x2 : Int32) (h : PH), k56 x2 h → PW (GX D ca ad) K 5 (qI Q) h 56 [none, none, some (.int x2), none, none] []) : ∀ (n : Nat) (x2 : Int32) (x3 : Int32) (h : PH), Lp2 (w_X0_minutesOf_4 t k56 Q x1) n x2 x3 h → PW (GX D ca ad) K 5 (qI Q) h 4 [some (.ref t), some (.int x1), some (.int x2), some (.int x3), none] [] := by
  intro n
  induction n with
  | zero => intro x2 x3 h hw; exact hw.elim
  | succ n ih => intro x2 x3 h hw; exact b_X0_minutesOf_4 C ht hk56 (fun x2 x3 h hw => ih x2 x3 h hw) hw
def w_X0_minutesOf (t : Nat) (x1 : Int32) (h : PH) (Q : Int32 → PH → Prop) : Prop :=
  ∃ n, Lp2 (w_X0_minutesOf_4 t (fun y8 h7 => Q y8 h7) Q x1) n 0 0 h
set_option maxRecDepth 8000 in
theorem s_X0_minutesOf {D : va_G} {ca : Nat → ClassId} {ad : Nat → Nat} {l : Launch} {t : Nat} {x1 : Int32} {h : PH} {Q : Int32 → PH → Prop} (ht : oX t 0) (hw : w_X0_minutesOf t x1 h Q) : Sp (GX D ca ad) (XS (GX D ca ad)) l 3 yX0_minutesOf cX0_minutesOf 5 (some .int) [.ref t, .int x1] h (qI Q) := by
  refine Sp.of (own := RX0) [some (.ref t), some (.int x1), none, none, none] (by decide +kernel) rfl rfl (Nat.le_of_ble_eq_true rfl) (fun K hl C => ?_)
  subst hl
  unfold w_X0_minutesOf at hw
  refine PW.iconst (v := 0) C dX0_minutesOf_0 (by decide) ?_
  refine PW.ist2n C dX0_minutesOf_1 (by decide) rfl ?_
  refine PW.iconst (v := 0) C dX0_minutesOf_2 (by decide) ?_
  refine PW.ist3n C dX0_minutesOf_3 (by decide) rfl ?_
  obtain ⟨n, hw⟩ := hw
  refine PW.wk (wk_s (wk_s (wk_s (wk_s (wk_n wk_0))))) (l_X0_minutesOf_4 C ht ?_ n _ _ _ hw)
  · intro y8 h7 hw
    refine PW.ild2n C dX0_minutesOf_56 ?_
    exact PW.iret C dX0_minutesOf_57 ⟨_, rfl, hw⟩
def w_X0_isForbidden (t : Nat) (r1 : Nat) (x2 : Int32) (x3 : Int32) (x4 : Int32) (h : PH) (Q : Int32 → PH → Prop) : Prop :=
  w_X0_isSpot x3 x4 h (fun z2 h1 => if z2 = 0 then (Q 0 h1) else (vp_in ((x3 * 48) + x4) 288 ∧ ∀ (y4 : Int32), y4 = (gI h1 (t + 4) (iN ((x3 * 48) + x4))) → if y4 = (-1) then (Q 0 h1) else (if y4 = x2 then (Q 0 h1) else (w_X8_hasRight r1 x2 x3 x4 h1 (fun z6 h5 => if z6 = 0 then (Q 1 h5) else (Q 0 h5))))))
set_option maxRecDepth 8000 in
theorem s_X0_isForbidden {D : va_G} {ca : Nat → ClassId} {ad : Nat → Nat} {l : Launch} {t : Nat} {r1 : Nat} {x2 : Int32} {x3 : Int32} {x4 : Int32} {h : PH} {Q : Int32 → PH → Prop} (ht : oX t 0) (hr1 : oX r1 8) (hw : w_X0_isForbidden t r1 x2 x3 x4 h Q) : Sp (GX D ca ad) (XS (GX D ca ad)) l 4 yX0_isForbidden cX0_isForbidden 6 (some .boolean) [.ref t, .ref r1, .int x2, .int x3, .int x4] h (qI Q) := by
  refine Sp.of (own := RX0) [some (.ref t), some (.ref r1), some (.int x2), some (.int x3), some (.int x4), none] (by decide +kernel) rfl rfl (Nat.le_of_ble_eq_true rfl) (fun K hl C => ?_)
  subst hl
  unfold w_X0_isForbidden at hw
  refine PW.ild3n C dX0_isForbidden_0 ?_
  refine PW.ild4 C dX0_isForbidden_1 ?_
  refine PW.callSI2 C ms_X0_isSpot ml_X0_122 dX0_isForbidden_3 (Nat.le_of_ble_eq_true rfl) (by decide) (Nat.le_of_ble_eq_true rfl) (s_X0_isSpot hw) ?_
  clear hw
  intro z2 h1 hw
  refine PW.if_ne (tgt := 11) C dX0_isForbidden_6 (by decide) (fun c => ?_) (fun c => ?_)
  · rw [if_neg c] at hw
    refine PW.ald0n C dX0_isForbidden_11 ?_
    refine PW.get0 C cf_0 fl_X0_22 (by decide) ht (fvR (o := 4) rfl) dX0_isForbidden_12 ?_
    refine PW.ild3n C dX0_isForbidden_15 ?_
    refine PW.bipush (v := 48) C dX0_isForbidden_16 (by decide) ?_
    refine PW.imul C dX0_isForbidden_18 ?_
    refine PW.ild4 C dX0_isForbidden_19 ?_
    refine PW.iadd C dX0_isForbidden_21 ?_
    obtain ⟨hc3, hw⟩ := hw
    refine PW.iald C dX0_isForbidden_22 (sf_0_3 ht) hc3 ?_
    replace hw := hw _ rfl
    refine PW.ist5 C dX0_isForbidden_23 (by decide) rfl ?_
    refine PW.ild5 C dX0_isForbidden_25 ?_
    refine PW.iconst (v := (-1)) C dX0_isForbidden_27 (by decide) ?_
    refine PW.icmp_eq (tgt := 52) C dX0_isForbidden_28 (by decide) (fun c => ?_) (fun c => ?_)
    · rw [if_pos c] at hw
      refine PW.iconst (v := 0) C dX0_isForbidden_52 (by decide) ?_
      exact PW.zret C dX0_isForbidden_53 (by decide) ⟨_, rfl, hw⟩
    · rw [if_neg c] at hw
      refine PW.ild5 C dX0_isForbidden_31 ?_
      refine PW.ild2n C dX0_isForbidden_33 ?_
      refine PW.icmp_eq (tgt := 52) C dX0_isForbidden_34 (by decide) (fun c => ?_) (fun c => ?_)
      · rw [if_pos c] at hw
        refine PW.iconst (v := 0) C dX0_isForbidden_52 (by decide) ?_
        exact PW.zret C dX0_isForbidden_53 (by decide) ⟨_, rfl, hw⟩
      · rw [if_neg c] at hw
        refine PW.ald1n C dX0_isForbidden_37 ?_
        refine PW.ild2n C dX0_isForbidden_38 ?_
        refine PW.ild3n C dX0_isForbidden_39 ?_
        refine PW.ild4 C dX0_isForbidden_40 ?_
        refine PW.callVI3 C ms_X8_hasRight ml_X0_128 dX0_isForbidden_42 hr1 ⟨_, _, rfl⟩ (Nat.le_of_ble_eq_true rfl) (by decide) (Nat.le_of_ble_eq_true rfl) (s_X8_hasRight hr1 hw) ?_
        clear hw
        intro z6 h5 hw
        refine PW.if_ne (tgt := 52) C dX0_isForbidden_45 (by decide) (fun c => ?_) (fun c => ?_)
        · rw [if_neg c] at hw
          refine PW.iconst (v := 0) C dX0_isForbidden_52 (by decide) ?_
          exact PW.zret C dX0_isForbidden_53 (by decide) ⟨_, rfl, hw⟩
        · rw [if_pos c] at hw
          refine PW.iconst (v := 1) C dX0_isForbidden_48 (by decide) ?_
          refine PW.goto (tgt := 53) C dX0_isForbidden_49 (by decide) ?_
          exact PW.zret C dX0_isForbidden_53 (by decide) ⟨_, rfl, hw⟩
  · rw [if_pos c] at hw
    refine PW.iconst (v := 0) C dX0_isForbidden_9 (by decide) ?_
    exact PW.zret C dX0_isForbidden_10 (by decide) ⟨_, rfl, hw⟩
def w_X0_isTrespass (t : Nat) (r1 : Nat) (x2 : Int32) (x3 : Int32) (x4 : Int32) (h : PH) (Q : Int32 → PH → Prop) : Prop :=
  w_X0_isHeard t x2 x3 x4 h (fun z2 h1 => if z2 = 0 then (Q 0 h1) else (w_X6_at (r1 + 7) x2 1 h1 (fun z4 h3 => w_X0_isForbidden t r1 z4 x3 x4 h3 (fun z6 h5 => if z6 = 0 then (Q 0 h5) else (Q 1 h5)))))
set_option maxRecDepth 8000 in
theorem s_X0_isTrespass {D : va_G} {ca : Nat → ClassId} {ad : Nat → Nat} {l : Launch} {t : Nat} {r1 : Nat} {x2 : Int32} {x3 : Int32} {x4 : Int32} {h : PH} {Q : Int32 → PH → Prop} (ht : oX t 0) (hr1 : oX r1 8) (hw : w_X0_isTrespass t r1 x2 x3 x4 h Q) : Sp (GX D ca ad) (XS (GX D ca ad)) l 5 yX0_isTrespass cX0_isTrespass 5 (some .boolean) [.ref t, .ref r1, .int x2, .int x3, .int x4] h (qI Q) := by
  refine Sp.of (own := RX0) [some (.ref t), some (.ref r1), some (.int x2), some (.int x3), some (.int x4)] (by decide +kernel) rfl rfl (Nat.le_of_ble_eq_true rfl) (fun K hl C => ?_)
  subst hl
  unfold w_X0_isTrespass at hw
  refine PW.ald0n C dX0_isTrespass_0 ?_
  refine PW.ild2n C dX0_isTrespass_1 ?_
  refine PW.ild3n C dX0_isTrespass_2 ?_
  refine PW.ild4 C dX0_isTrespass_3 ?_
  refine PW.callVI3 C ms_X0_isHeard ml_X0_118 dX0_isTrespass_5 ht ⟨_, _, rfl⟩ (Nat.le_of_ble_eq_true rfl) (by decide) (Nat.le_of_ble_eq_true rfl) (s_X0_isHeard ht hw) ?_
  clear hw
  intro z2 h1 hw
  refine PW.if_eq (tgt := 35) C dX0_isTrespass_8 (by decide) (fun c => ?_) (fun c => ?_)
  · rw [if_pos c] at hw
    refine PW.iconst (v := 0) C dX0_isTrespass_35 (by decide) ?_
    exact PW.zret C dX0_isTrespass_36 (by decide) ⟨_, rfl, hw⟩
  · rw [if_neg c] at hw
    refine PW.ald0n C dX0_isTrespass_11 ?_
    refine PW.ald1n C dX0_isTrespass_12 ?_
    refine PW.ald1n C dX0_isTrespass_13 ?_
    refine PW.getN0 C cf_8 fl_X0_81 (by decide) hr1 (fvR (o := 7) rfl) dX0_isTrespass_14 ?_
    refine PW.ild2n C dX0_isTrespass_17 ?_
    refine PW.iconst (v := 1) C dX0_isTrespass_18 (by decide) ?_
    refine PW.callVI2 C ms_X6_at ml_X0_41 dX0_isTrespass_19 (sf_8_3 hr1) ⟨_, _, rfl⟩ (Nat.le_of_ble_eq_true rfl) (by decide) (Nat.le_of_ble_eq_true rfl) (s_X6_at (sf_8_3 hr1) hw) ?_
    clear hw
    intro z4 h3 hw
    refine PW.ild3n C dX0_isTrespass_22 ?_
    refine PW.ild4 C dX0_isTrespass_23 ?_
    refine PW.callVI4 C ms_X0_isForbidden ml_X0_131 dX0_isTrespass_25 ht ⟨_, _, rfl⟩ (Nat.le_of_ble_eq_true rfl) (by decide) (Nat.le_of_ble_eq_true rfl) (s_X0_isForbidden ht hr1 hw) ?_
    clear hw
    intro z6 h5 hw
    refine PW.if_eq (tgt := 35) C dX0_isTrespass_28 (by decide) (fun c => ?_) (fun c => ?_)
    · rw [if_pos c] at hw
      refine PW.iconst (v := 0) C dX0_isTrespass_35 (by decide) ?_
      exact PW.zret C dX0_isTrespass_36 (by decide) ⟨_, rfl, hw⟩
    · rw [if_neg c] at hw
      refine PW.iconst (v := 1) C dX0_isTrespass_31 (by decide) ?_
      refine PW.goto (tgt := 36) C dX0_isTrespass_32 (by decide) ?_
      exact PW.zret C dX0_isTrespass_36 (by decide) ⟨_, rfl, hw⟩
def w_X0_trespasses_89 (t : Nat) (r1 : Nat) (Q : Int32 → PH → Prop) (kb : Int32 → Int32 → PH → Prop) (x2 : Int32) (x3 : Int32) (x4 : Int32) (x5 : Int32) (x6 : Int32) (s0 : Int32) (h : PH) : Prop :=
  if s0 = 0 then (kb x4 (x6 + 1) h) else (w_X0_isTrespass t r1 x6 (x5 / 48) (x5 - x5 / 48 * 48) h (fun z2 h1 => if z2 = 0 then (kb x4 (x6 + 1) h1) else (kb (x4 + 1) (x6 + 1) h1)))
set_option maxRecDepth 8000 in
theorem b_X0_trespasses_89 {D : va_G} {ca : Nat → ClassId} {ad : Nat → Nat} {K : Kt} {t : Nat} {r1 : Nat} {kb : Int32 → Int32 → PH → Prop} {Q : Int32 → PH → Prop} {x2 : Int32} {x3 : Int32} {x4 : Int32} {x5 : Int32} {x6 : Int32} {s0 : Int32} {h : PH} (C : CX (GX D ca ad) (XS (GX D ca ad)) cX0_trespasses RX0 8 (some .int) 6 K) (ht : oX t 0) (hr1 : oX r1 8) (hkb : ∀ (x4 : Int32) (x6 : Int32) (h : PH), kb x4 x6 h → PW (GX D ca ad) K 8 (qI Q) h 53 [some (.ref t), some (.ref r1), some (.int x2), some (.int x3), some (.int x4), some (.int x5), some (.int x6), none] []) (hw : w_X0_trespasses_89 t r1 Q kb x2 x3 x4 x5 x6 s0 h) : PW (GX D ca ad) K 8 (qI Q) h 89 [some (.ref t), some (.ref r1), some (.int x2), some (.int x3), some (.int x4), some (.int x5), some (.int x6), none] [.int s0] := by
  unfold w_X0_trespasses_89 at hw
  refine PW.ist7 C dX0_trespasses_89 (by decide) rfl ?_
  refine PW.ild7 C dX0_trespasses_91 ?_
  refine PW.if_eq (tgt := 119) C dX0_trespasses_93 (by decide) (fun c => ?_) (fun c => ?_)
  · rw [if_pos c] at hw
    refine PW.inc6 (v := 1) C dX0_trespasses_119 (by decide) rfl (by decide) ?_
    refine PW.goto (tgt := 53) C dX0_trespasses_122 (by decide) ?_
    exact PW.wk (wk_s (wk_s (wk_s (wk_s (wk_s (wk_s (wk_s (wk_n wk_0)))))))) (hkb _ _ _ hw)
  · rw [if_neg c] at hw
    refine PW.ald0n C dX0_trespasses_96 ?_
    refine PW.ald1n C dX0_trespasses_97 ?_
    refine PW.ild6 C dX0_trespasses_98 ?_
    refine PW.ild5 C dX0_trespasses_100 ?_
    refine PW.bipush (v := 48) C dX0_trespasses_102 (by decide) ?_
    refine PW.idiv C dX0_trespasses_104 (by decide) ?_
    refine PW.ild5 C dX0_trespasses_105 ?_
    refine PW.bipush (v := 48) C dX0_trespasses_107 (by decide) ?_
    refine PW.irem C dX0_trespasses_109 (by decide) ?_
    refine PW.callVI4 C ms_X0_isTrespass ml_X0_135 dX0_trespasses_110 ht ⟨_, _, rfl⟩ (Nat.le_of_ble_eq_true rfl) (by decide) (Nat.le_of_ble_eq_true rfl) (s_X0_isTrespass ht hr1 hw) ?_
    clear hw
    intro z2 h1 hw
    refine PW.if_eq (tgt := 119) C dX0_trespasses_113 (by decide) (fun c => ?_) (fun c => ?_)
    · rw [if_pos c] at hw
      refine PW.inc6 (v := 1) C dX0_trespasses_119 (by decide) rfl (by decide) ?_
      refine PW.goto (tgt := 53) C dX0_trespasses_122 (by decide) ?_
      exact PW.wk (wk_s (wk_s (wk_s (wk_s (wk_s (wk_s (wk_s (wk_n wk_0)))))))) (hkb _ _ _ hw)
    · rw [if_neg c] at hw
      refine PW.inc4 (v := 1) C dX0_trespasses_116 (by decide) rfl (by decide) ?_
      refine PW.inc6 (v := 1) C dX0_trespasses_119 (by decide) rfl (by decide) ?_
      refine PW.goto (tgt := 53) C dX0_trespasses_122 (by decide) ?_
      exact PW.wk (wk_s (wk_s (wk_s (wk_s (wk_s (wk_s (wk_s (wk_n wk_0)))))))) (hkb _ _ _ hw)
def w_X0_trespasses_84 (t : Nat) (r1 : Nat) (Q : Int32 → PH → Prop) (kb : Int32 → Int32 → PH → Prop) (x2 : Int32) (x3 : Int32) (x4 : Int32) (x5 : Int32) (x6 : Int32) (h : PH) : Prop :=
  w_X0_trespasses_89 t r1 Q kb x2 x3 x4 x5 x6 1 h
set_option maxRecDepth 8000 in
theorem b_X0_trespasses_84 {D : va_G} {ca : Nat → ClassId} {ad : Nat → Nat} {K : Kt} {t : Nat} {r1 : Nat} {kb : Int32 → Int32 → PH → Prop} {Q : Int32 → PH → Prop} {x2 : Int32} {x3 : Int32} {x4 : Int32} {x5 : Int32} {x6 : Int32} {h : PH} (C : CX (GX D ca ad) (XS (GX D ca ad)) cX0_trespasses RX0 8 (some .int) 6 K) (ht : oX t 0) (hr1 : oX r1 8) (hkb : ∀ (x4 : Int32) (x6 : Int32) (h : PH), kb x4 x6 h → PW (GX D ca ad) K 8 (qI Q) h 53 [some (.ref t), some (.ref r1), some (.int x2), some (.int x3), some (.int x4), some (.int x5), some (.int x6), none] []) (hw : w_X0_trespasses_84 t r1 Q kb x2 x3 x4 x5 x6 h) : PW (GX D ca ad) K 8 (qI Q) h 84 [some (.ref t), some (.ref r1), some (.int x2), some (.int x3), some (.int x4), some (.int x5), some (.int x6), none] [] := by
  unfold w_X0_trespasses_84 at hw
  refine PW.iconst (v := 1) C dX0_trespasses_84 (by decide) ?_
  refine PW.goto (tgt := 89) C dX0_trespasses_85 (by decide) ?_
  exact PW.wk (wk_s (wk_s (wk_s (wk_s (wk_s (wk_s (wk_s (wk_n wk_0)))))))) (b_X0_trespasses_89 C ht hr1 hkb hw)
def w_X0_trespasses_53 (t : Nat) (r1 : Nat) (k125 : Int32 → PH → Prop) (Q : Int32 → PH → Prop) (x2 : Int32) (x3 : Int32) (x5 : Int32) (kb : Int32 → Int32 → PH → Prop) (x4 : Int32) (x6 : Int32) (h : PH) : Prop :=
  if (gI h (r1 + 7) 3) ≤ x6 then (k125 x4 h) else (if x2 = (-1) then (w_X0_trespasses_84 t r1 Q kb x2 x3 x4 x5 x6 h) else (w_X6_at (r1 + 7) x6 1 h (fun z4 h3 => if z4 = x2 then (w_X0_trespasses_84 t r1 Q kb x2 x3 x4 x5 x6 h3) else (w_X0_trespasses_89 t r1 Q kb x2 x3 x4 x5 x6 0 h3))))
set_option maxRecDepth 8000 in
theorem b_X0_trespasses_53 {D : va_G} {ca : Nat → ClassId} {ad : Nat → Nat} {K : Kt} {t : Nat} {r1 : Nat} {k125 : Int32 → PH → Prop} {kb : Int32 → Int32 → PH → Prop} {Q : Int32 → PH → Prop} {x2 : Int32} {x3 : Int32} {x5 : Int32} {x4 : Int32} {x6 : Int32} {h : PH} (C : CX (GX D ca ad) (XS (GX D ca ad)) cX0_trespasses RX0 8 (some .int) 6 K) (ht : oX t 0) (hr1 : oX r1 8) (hk125 : ∀ (x4 : Int32) (h : PH), k125 x4 h → PW (GX D ca ad) K 8 (qI Q) h 125 [some (.ref t), some (.ref r1), some (.int x2), some (.int x3), some (.int x4), some (.int x5), none, none] []) (hkb : ∀ (x4 : Int32) (x6 : Int32) (h : PH), kb x4 x6 h → PW (GX D ca ad) K 8 (qI Q) h 53 [some (.ref t), some (.ref r1), some (.int x2), some (.int x3), some (.int x4), some (.int x5), some (.int x6), none] []) (hw : w_X0_trespasses_53 t r1 k125 Q x2 x3 x5 kb x4 x6 h) : PW (GX D ca ad) K 8 (qI Q) h 53 [some (.ref t), some (.ref r1), some (.int x2), some (.int x3), some (.int x4), some (.int x5), some (.int x6), none] [] := by
  unfold w_X0_trespasses_53 at hw
  refine PW.ild6 C dX0_trespasses_53 ?_
  refine PW.ald1n C dX0_trespasses_55 ?_
  refine PW.getN0 C cf_8 fl_X0_81 (by decide) hr1 (fvR (o := 7) rfl) dX0_trespasses_56 ?_
  refine PW.getN0 C cf_6 fl_X0_35 (by decide) (sf_8_3 hr1) (fvI rfl) dX0_trespasses_59 ?_
  refine PW.icmp_ge (tgt := 125) C dX0_trespasses_62 (by decide) (fun c => ?_) (fun c => ?_)
  · rw [if_pos c] at hw
    exact PW.wk (wk_s (wk_s (wk_s (wk_s (wk_s (wk_s (wk_n (wk_n wk_0)))))))) (hk125 _ _ hw)
  · rw [if_neg c] at hw
    refine PW.ild2n C dX0_trespasses_65 ?_
    refine PW.iconst (v := (-1)) C dX0_trespasses_66 (by decide) ?_
    refine PW.icmp_eq (tgt := 84) C dX0_trespasses_67 (by decide) (fun c => ?_) (fun c => ?_)
    · rw [if_pos c] at hw
      exact PW.wk (wk_s (wk_s (wk_s (wk_s (wk_s (wk_s (wk_s (wk_n wk_0)))))))) (b_X0_trespasses_84 C ht hr1 hkb hw)
    · rw [if_neg c] at hw
      refine PW.ald1n C dX0_trespasses_70 ?_
      refine PW.getN0 C cf_8 fl_X0_81 (by decide) hr1 (fvR (o := 7) rfl) dX0_trespasses_71 ?_
      refine PW.ild6 C dX0_trespasses_74 ?_
      refine PW.iconst (v := 1) C dX0_trespasses_76 (by decide) ?_
      refine PW.callVI2 C ms_X6_at ml_X0_41 dX0_trespasses_77 (sf_8_3 hr1) ⟨_, _, rfl⟩ (Nat.le_of_ble_eq_true rfl) (by decide) (Nat.le_of_ble_eq_true rfl) (s_X6_at (sf_8_3 hr1) hw) ?_
      clear hw
      intro z4 h3 hw
      refine PW.ild2n C dX0_trespasses_80 ?_
      refine PW.icmp_ne (tgt := 88) C dX0_trespasses_81 (by decide) (fun c => ?_) (fun c => ?_)
      · rw [if_neg c] at hw
        refine PW.iconst (v := 0) C dX0_trespasses_88 (by decide) ?_
        exact PW.wk (wk_s (wk_s (wk_s (wk_s (wk_s (wk_s (wk_s (wk_n wk_0)))))))) (b_X0_trespasses_89 C ht hr1 hkb hw)
      · rw [if_pos c] at hw
        exact PW.wk (wk_s (wk_s (wk_s (wk_s (wk_s (wk_s (wk_s (wk_n wk_0)))))))) (b_X0_trespasses_84 C ht hr1 hkb hw)
theorem l_X0_trespasses_53 {D : va_G} {ca : Nat → ClassId} {ad : Nat → Nat} {K : Kt} {t : Nat} {r1 : Nat} {k125 : Int32 → PH → Prop} {Q : Int32 → PH → Prop} {x2 : Int32} {x3 : Int32} {x5 : Int32} (C : CX (GX D ca ad) (XS (GX D ca ad)) cX0_trespasses RX0 8 (some .int) 6 K) (ht : oX t 0) (hr1 : oX r1 8) (hk125 : ∀ (x4 : Int32) (h : PH), k125 x4 h → PW (GX D ca ad) K 8 (qI Q) h 125 [some (.ref t), some (.ref r1), some (.int x2), some (.int x3), some (.int x4), some (.int x5), none, none] []) : ∀ (n : Nat) (x4 : Int32) (x6 : Int32) (h : PH), Lp2 (w_X0_trespasses_53 t r1 k125 Q x2 x3 x5) n x4 x6 h → PW (GX D ca ad) K 8 (qI Q) h 53 [some (.ref t), some (.ref r1), some (.int x2), some (.int x3), some (.int x4), some (.int x5), some (.int x6), none] [] := by
  intro n
  induction n with
  | zero => intro x4 x6 h hw; exact hw.elim
  | succ n ih => intro x4 x6 h hw; exact b_X0_trespasses_53 C ht hr1 hk125 (fun x4 x6 h hw => ih x4 x6 h hw) hw
def w_X0_trespasses_6 (t : Nat) (r1 : Nat) (k131 : Int32 → PH → Prop) (Q : Int32 → PH → Prop) (x2 : Int32) (x3 : Int32) (kb : Int32 → Int32 → PH → Prop) (x4 : Int32) (x5 : Int32) (h : PH) : Prop :=
  if ((gI h (r1 + 1) 3) * 48) ≤ x5 then (k131 x4 h) else (if 288 ≤ x5 then (k131 x4 h) else (if x3 = (-1) then (∃ n, Lp2 (w_X0_trespasses_53 t r1 (fun y6 h5 => kb y6 (x5 + 1) h5) Q x2 x3 x5) n x4 0 h) else (vp_in x5 288 ∧ if (gI h (t + 4) (iN x5)) = x3 then (∃ n, Lp2 (w_X0_trespasses_53 t r1 (fun y9 h8 => kb y9 (x5 + 1) h8) Q x2 x3 x5) n x4 0 h) else (kb x4 (x5 + 1) h))))
set_option maxRecDepth 8000 in
theorem b_X0_trespasses_6 {D : va_G} {ca : Nat → ClassId} {ad : Nat → Nat} {K : Kt} {t : Nat} {r1 : Nat} {k131 : Int32 → PH → Prop} {kb : Int32 → Int32 → PH → Prop} {Q : Int32 → PH → Prop} {x2 : Int32} {x3 : Int32} {x4 : Int32} {x5 : Int32} {h : PH} (C : CX (GX D ca ad) (XS (GX D ca ad)) cX0_trespasses RX0 8 (some .int) 6 K) (ht : oX t 0) (hr1 : oX r1 8) (hk131 : ∀ (x4 : Int32) (h : PH), k131 x4 h → PW (GX D ca ad) K 8 (qI Q) h 131 [none, none, none, none, some (.int x4), none, none, none] []) (hkb : ∀ (x4 : Int32) (x5 : Int32) (h : PH), kb x4 x5 h → PW (GX D ca ad) K 8 (qI Q) h 6 [some (.ref t), some (.ref r1), some (.int x2), some (.int x3), some (.int x4), some (.int x5), none, none] []) (hw : w_X0_trespasses_6 t r1 k131 Q x2 x3 kb x4 x5 h) : PW (GX D ca ad) K 8 (qI Q) h 6 [some (.ref t), some (.ref r1), some (.int x2), some (.int x3), some (.int x4), some (.int x5), none, none] [] := by
  unfold w_X0_trespasses_6 at hw
  refine PW.ild5 C dX0_trespasses_6 ?_
  refine PW.ald1n C dX0_trespasses_8 ?_
  refine PW.getN0 C cf_8 fl_X0_45 (by decide) hr1 (fvR (o := 1) rfl) dX0_trespasses_9 ?_
  refine PW.getN0 C cf_6 fl_X0_35 (by decide) (sf_8_0 hr1) (fvI rfl) dX0_trespasses_12 ?_
  refine PW.bipush (v := 48) C dX0_trespasses_15 (by decide) ?_
  refine PW.imul C dX0_trespasses_17 ?_
  refine PW.icmp_ge (tgt := 131) C dX0_trespasses_18 (by decide) (fun c => ?_) (fun c => ?_)
  · rw [if_pos c] at hw
    exact PW.wk (wk_n (wk_n (wk_n (wk_n (wk_s (wk_n (wk_n (wk_n wk_0)))))))) (hk131 _ _ hw)
  · rw [if_neg c] at hw
    refine PW.ild5 C dX0_trespasses_21 ?_
    refine PW.ald0n C dX0_trespasses_23 ?_
    refine PW.get0 C cf_0 fl_X0_22 (by decide) ht (fvR (o := 4) rfl) dX0_trespasses_24 ?_
    refine PW.alen (v := 288) C dX0_trespasses_27 (sf_0_3 ht) (by decide) (by decide) ?_
    refine PW.icmp_ge (tgt := 131) C dX0_trespasses_28 (by decide) (fun c => ?_) (fun c => ?_)
    · rw [if_pos c] at hw
      exact PW.wk (wk_n (wk_n (wk_n (wk_n (wk_s (wk_n (wk_n (wk_n wk_0)))))))) (hk131 _ _ hw)
    · rw [if_neg c] at hw
      refine PW.ild3n C dX0_trespasses_31 ?_
      refine PW.iconst (v := (-1)) C dX0_trespasses_32 (by decide) ?_
      refine PW.icmp_eq (tgt := 50) C dX0_trespasses_33 (by decide) (fun c => ?_) (fun c => ?_)
      · rw [if_pos c] at hw
        refine PW.iconst (v := 0) C dX0_trespasses_50 (by decide) ?_
        refine PW.ist6 C dX0_trespasses_51 (by decide) rfl ?_
        obtain ⟨n, hw⟩ := hw
        refine PW.wk (wk_s (wk_s (wk_s (wk_s (wk_s (wk_s (wk_s (wk_n wk_0)))))))) (l_X0_trespasses_53 C ht hr1 ?_ n _ _ _ hw)
        · intro y6 h5 hw
          refine PW.inc5 (v := 1) C dX0_trespasses_125 (by decide) rfl (by decide) ?_
          refine PW.goto (tgt := 6) C dX0_trespasses_128 (by decide) ?_
          exact PW.wk (wk_s (wk_s (wk_s (wk_s (wk_s (wk_s (wk_n (wk_n wk_0)))))))) (hkb _ _ _ hw)
      · rw [if_neg c] at hw
        refine PW.ald0n C dX0_trespasses_36 ?_
        refine PW.get0 C cf_0 fl_X0_22 (by decide) ht (fvR (o := 4) rfl) dX0_trespasses_37 ?_
        refine PW.ild5 C dX0_trespasses_40 ?_
        obtain ⟨hc7, hw⟩ := hw
        refine PW.iald C dX0_trespasses_42 (sf_0_3 ht) hc7 ?_
        refine PW.ild3n C dX0_trespasses_43 ?_
        refine PW.icmp_eq (tgt := 50) C dX0_trespasses_44 (by decide) (fun c => ?_) (fun c => ?_)
        · rw [if_pos c] at hw
          refine PW.iconst (v := 0) C dX0_trespasses_50 (by decide) ?_
          refine PW.ist6 C dX0_trespasses_51 (by decide) rfl ?_
          obtain ⟨n, hw⟩ := hw
          refine PW.wk (wk_s (wk_s (wk_s (wk_s (wk_s (wk_s (wk_s (wk_n wk_0)))))))) (l_X0_trespasses_53 C ht hr1 ?_ n _ _ _ hw)
          · intro y9 h8 hw
            refine PW.inc5 (v := 1) C dX0_trespasses_125 (by decide) rfl (by decide) ?_
            refine PW.goto (tgt := 6) C dX0_trespasses_128 (by decide) ?_
            exact PW.wk (wk_s (wk_s (wk_s (wk_s (wk_s (wk_s (wk_n (wk_n wk_0)))))))) (hkb _ _ _ hw)
        · rw [if_neg c] at hw
          refine PW.goto (tgt := 125) C dX0_trespasses_47 (by decide) ?_
          refine PW.inc5 (v := 1) C dX0_trespasses_125 (by decide) rfl (by decide) ?_
          refine PW.goto (tgt := 6) C dX0_trespasses_128 (by decide) ?_
          exact PW.wk (wk_s (wk_s (wk_s (wk_s (wk_s (wk_s (wk_n (wk_n wk_0)))))))) (hkb _ _ _ hw)
theorem l_X0_trespasses_6 {D : va_G} {ca : Nat → ClassId} {ad : Nat → Nat} {K : Kt} {t : Nat} {r1 : Nat} {k131 : Int32 → PH → Prop} {Q : Int32 → PH → Prop} {x2 : Int32} {x3 : Int32} (C : CX (GX D ca ad) (XS (GX D ca ad)) cX0_trespasses RX0 8 (some .int) 6 K) (ht : oX t 0) (hr1 : oX r1 8) (hk131 : ∀ (x4 : Int32) (h : PH), k131 x4 h → PW (GX D ca ad) K 8 (qI Q) h 131 [none, none, none, none, some (.int x4), none, none, none] []) : ∀ (n : Nat) (x4 : Int32) (x5 : Int32) (h : PH), Lp2 (w_X0_trespasses_6 t r1 k131 Q x2 x3) n x4 x5 h → PW (GX D ca ad) K 8 (qI Q) h 6 [some (.ref t), some (.ref r1), some (.int x2), some (.int x3), some (.int x4), some (.int x5), none, none] [] := by
  intro n
  induction n with
  | zero => intro x4 x5 h hw; exact hw.elim
  | succ n ih => intro x4 x5 h hw; exact b_X0_trespasses_6 C ht hr1 hk131 (fun x4 x5 h hw => ih x4 x5 h hw) hw
def w_X0_trespasses (t : Nat) (r1 : Nat) (x2 : Int32) (x3 : Int32) (h : PH) (Q : Int32 → PH → Prop) : Prop :=
  ∃ n, Lp2 (w_X0_trespasses_6 t r1 (fun y11 h10 => Q y11 h10) Q x2 x3) n 0 0 h
set_option maxRecDepth 8000 in
theorem s_X0_trespasses {D : va_G} {ca : Nat → ClassId} {ad : Nat → Nat} {l : Launch} {t : Nat} {r1 : Nat} {x2 : Int32} {x3 : Int32} {h : PH} {Q : Int32 → PH → Prop} (ht : oX t 0) (hr1 : oX r1 8) (hw : w_X0_trespasses t r1 x2 x3 h Q) : Sp (GX D ca ad) (XS (GX D ca ad)) l 6 yX0_trespasses cX0_trespasses 8 (some .int) [.ref t, .ref r1, .int x2, .int x3] h (qI Q) := by
  refine Sp.of (own := RX0) [some (.ref t), some (.ref r1), some (.int x2), some (.int x3), none, none, none, none] (by decide +kernel) rfl rfl (Nat.le_of_ble_eq_true rfl) (fun K hl C => ?_)
  subst hl
  unfold w_X0_trespasses at hw
  refine PW.iconst (v := 0) C dX0_trespasses_0 (by decide) ?_
  refine PW.ist4 C dX0_trespasses_1 (by decide) rfl ?_
  refine PW.iconst (v := 0) C dX0_trespasses_3 (by decide) ?_
  refine PW.ist5 C dX0_trespasses_4 (by decide) rfl ?_
  obtain ⟨n, hw⟩ := hw
  refine PW.wk (wk_s (wk_s (wk_s (wk_s (wk_s (wk_s (wk_n (wk_n wk_0)))))))) (l_X0_trespasses_6 C ht hr1 ?_ n _ _ _ hw)
  · intro y11 h10 hw
    refine PW.ild4 C dX0_trespasses_131 ?_
    exact PW.iret C dX0_trespasses_133 ⟨_, rfl, hw⟩
def w_X0_fineMinute_16 (t : Nat) (r1 : Nat) (k96 : PH → Prop) (Q : PH → Prop) (x2 : Int32) (x3 : Int32) (kb : Int32 → PH → Prop) (x4 : Int32) (h : PH) : Prop :=
  if (gI h (r1 + 7) 3) ≤ x4 then (k96 h) else (w_X0_isTrespass t r1 x4 x3 x2 h (fun z2 h1 => if z2 = 0 then (kb (x4 + 1) h1) else (w_X6_at (r1 + 7) x4 1 h1 (fun z4 h3 => w_X6_at (r1 + 5) z4 1 h3 (fun z6 h5 => ∀ (y7 : Int32), y7 = (mnI (gI h3 r1 10) z6) → vp_in ((x3 * 48) + x2) 288 ∧ w_X8_pay r1 z4 (gI h5 (t + 4) (iN ((x3 * 48) + x2))) y7 h5 (fun h9 => kb (x4 + 1) h9))))))
set_option maxRecDepth 8000 in
theorem b_X0_fineMinute_16 {D : va_G} {ca : Nat → ClassId} {ad : Nat → Nat} {K : Kt} {t : Nat} {r1 : Nat} {k96 : PH → Prop} {kb : Int32 → PH → Prop} {Q : PH → Prop} {x2 : Int32} {x3 : Int32} {x4 : Int32} {h : PH} (C : CX (GX D ca ad) (XS (GX D ca ad)) cX0_fineMinute RX0 7 none 6 K) (ht : oX t 0) (hr1 : oX r1 8) (hk96 : ∀ (h : PH), k96 h → PW (GX D ca ad) K 7 (qV Q) h 96 [some (.ref t), some (.ref r1), some (.int x2), some (.int x3), none, none, none] []) (hkb : ∀ (x4 : Int32) (h : PH), kb x4 h → PW (GX D ca ad) K 7 (qV Q) h 16 [some (.ref t), some (.ref r1), some (.int x2), some (.int x3), some (.int x4), none, none] []) (hw : w_X0_fineMinute_16 t r1 k96 Q x2 x3 kb x4 h) : PW (GX D ca ad) K 7 (qV Q) h 16 [some (.ref t), some (.ref r1), some (.int x2), some (.int x3), some (.int x4), none, none] [] := by
  unfold w_X0_fineMinute_16 at hw
  refine PW.ild4 C dX0_fineMinute_16 ?_
  refine PW.ald1n C dX0_fineMinute_18 ?_
  refine PW.getN0 C cf_8 fl_X0_81 (by decide) hr1 (fvR (o := 7) rfl) dX0_fineMinute_19 ?_
  refine PW.getN0 C cf_6 fl_X0_35 (by decide) (sf_8_3 hr1) (fvI rfl) dX0_fineMinute_22 ?_
  refine PW.icmp_ge (tgt := 96) C dX0_fineMinute_25 (by decide) (fun c => ?_) (fun c => ?_)
  · rw [if_pos c] at hw
    exact PW.wk (wk_s (wk_s (wk_s (wk_s (wk_n (wk_n (wk_n wk_0))))))) (hk96 _ hw)
  · rw [if_neg c] at hw
    refine PW.ald0n C dX0_fineMinute_28 ?_
    refine PW.ald1n C dX0_fineMinute_29 ?_
    refine PW.ild4 C dX0_fineMinute_30 ?_
    refine PW.ild3n C dX0_fineMinute_32 ?_
    refine PW.ild2n C dX0_fineMinute_33 ?_
    refine PW.callVI4 C ms_X0_isTrespass ml_X0_135 dX0_fineMinute_34 ht ⟨_, _, rfl⟩ (Nat.le_of_ble_eq_true rfl) (by decide) (Nat.le_of_ble_eq_true rfl) (s_X0_isTrespass ht hr1 hw) ?_
    clear hw
    intro z2 h1 hw
    refine PW.if_eq (tgt := 90) C dX0_fineMinute_37 (by decide) (fun c => ?_) (fun c => ?_)
    · rw [if_pos c] at hw
      refine PW.inc4 (v := 1) C dX0_fineMinute_90 (by decide) rfl (by decide) ?_
      refine PW.goto (tgt := 16) C dX0_fineMinute_93 (by decide) ?_
      exact PW.wk (wk_s (wk_s (wk_s (wk_s (wk_s (wk_n (wk_n wk_0))))))) (hkb _ _ hw)
    · rw [if_neg c] at hw
      refine PW.ald1n C dX0_fineMinute_40 ?_
      refine PW.getN0 C cf_8 fl_X0_81 (by decide) hr1 (fvR (o := 7) rfl) dX0_fineMinute_41 ?_
      refine PW.ild4 C dX0_fineMinute_44 ?_
      refine PW.iconst (v := 1) C dX0_fineMinute_46 (by decide) ?_
      refine PW.callVI2 C ms_X6_at ml_X0_41 dX0_fineMinute_47 (sf_8_3 hr1) ⟨_, _, rfl⟩ (Nat.le_of_ble_eq_true rfl) (by decide) (Nat.le_of_ble_eq_true rfl) (s_X6_at (sf_8_3 hr1) hw) ?_
      clear hw
      intro z4 h3 hw
      refine PW.ist5 C dX0_fineMinute_50 (by decide) rfl ?_
      refine PW.ald1n C dX0_fineMinute_52 ?_
      refine PW.getN0 C cf_8 fl_X0_138 (by decide) hr1 (fvI rfl) dX0_fineMinute_53 ?_
      refine PW.ald1n C dX0_fineMinute_56 ?_
      refine PW.getN0 C cf_8 fl_X0_141 (by decide) hr1 (fvR (o := 5) rfl) dX0_fineMinute_57 ?_
      refine PW.ild5 C dX0_fineMinute_60 ?_
      refine PW.iconst (v := 1) C dX0_fineMinute_62 (by decide) ?_
      refine PW.callVI2 C ms_X6_at ml_X0_41 dX0_fineMinute_63 (sf_8_2 hr1) ⟨_, _, rfl⟩ (Nat.le_of_ble_eq_true rfl) (by decide) (Nat.le_of_ble_eq_true rfl) (s_X6_at (sf_8_2 hr1) hw) ?_
      clear hw
      intro z6 h5 hw
      refine PW.mnI C ml_X0_55 (Nat.le_of_ble_eq_true rfl) (by decide) dX0_fineMinute_66 ?_
      replace hw := hw _ rfl
      refine PW.ist6 C dX0_fineMinute_69 (by decide) rfl ?_
      refine PW.ald1n C dX0_fineMinute_71 ?_
      refine PW.ild5 C dX0_fineMinute_72 ?_
      refine PW.ald0n C dX0_fineMinute_74 ?_
      refine PW.get0 C cf_0 fl_X0_22 (by decide) ht (fvR (o := 4) rfl) dX0_fineMinute_75 ?_
      refine PW.ild3n C dX0_fineMinute_78 ?_
      refine PW.bipush (v := 48) C dX0_fineMinute_79 (by decide) ?_
      refine PW.imul C dX0_fineMinute_81 ?_
      refine PW.ild2n C dX0_fineMinute_82 ?_
      refine PW.iadd C dX0_fineMinute_83 ?_
      obtain ⟨hc8, hw⟩ := hw
      refine PW.iald C dX0_fineMinute_84 (sf_0_3 ht) hc8 ?_
      refine PW.ild6 C dX0_fineMinute_85 ?_
      refine PW.callVV3 C ms_X8_pay ml_X0_144 dX0_fineMinute_87 hr1 ⟨_, _, rfl⟩ (Nat.le_of_ble_eq_true rfl) (by decide) (Nat.le_of_ble_eq_true rfl) (s_X8_pay hr1 hw) ?_
      clear hw
      intro h9 hw
      refine PW.inc4 (v := 1) C dX0_fineMinute_90 (by decide) rfl (by decide) ?_
      refine PW.goto (tgt := 16) C dX0_fineMinute_93 (by decide) ?_
      exact PW.wk (wk_s (wk_s (wk_s (wk_s (wk_s (wk_n (wk_n wk_0))))))) (hkb _ _ hw)
theorem l_X0_fineMinute_16 {D : va_G} {ca : Nat → ClassId} {ad : Nat → Nat} {K : Kt} {t : Nat} {r1 : Nat} {k96 : PH → Prop} {Q : PH → Prop} {x2 : Int32} {x3 : Int32} (C : CX (GX D ca ad) (XS (GX D ca ad)) cX0_fineMinute RX0 7 none 6 K) (ht : oX t 0) (hr1 : oX r1 8) (hk96 : ∀ (h : PH), k96 h → PW (GX D ca ad) K 7 (qV Q) h 96 [some (.ref t), some (.ref r1), some (.int x2), some (.int x3), none, none, none] []) : ∀ (n : Nat) (x4 : Int32) (h : PH), Lp1 (w_X0_fineMinute_16 t r1 k96 Q x2 x3) n x4 h → PW (GX D ca ad) K 7 (qV Q) h 16 [some (.ref t), some (.ref r1), some (.int x2), some (.int x3), some (.int x4), none, none] [] := by
  intro n
  induction n with
  | zero => intro x4 h hw; exact hw.elim
  | succ n ih => intro x4 h hw; exact b_X0_fineMinute_16 C ht hr1 hk96 (fun x4 h hw => ih x4 h hw) hw
def w_X0_fineMinute_2 (t : Nat) (r1 : Nat) (k102 : PH → Prop) (Q : PH → Prop) (x2 : Int32) (kb : Int32 → PH → Prop) (x3 : Int32) (h : PH) : Prop :=
  if (gI h (r1 + 1) 3) ≤ x3 then (k102 h) else (∃ n, Lp1 (w_X0_fineMinute_16 t r1 (fun h10 => kb (x3 + 1) h10) Q x2 x3) n 0 h)
set_option maxRecDepth 8000 in
theorem b_X0_fineMinute_2 {D : va_G} {ca : Nat → ClassId} {ad : Nat → Nat} {K : Kt} {t : Nat} {r1 : Nat} {k102 : PH → Prop} {kb : Int32 → PH → Prop} {Q : PH → Prop} {x2 : Int32} {x3 : Int32} {h : PH} (C : CX (GX D ca ad) (XS (GX D ca ad)) cX0_fineMinute RX0 7 none 6 K) (ht : oX t 0) (hr1 : oX r1 8) (hk102 : ∀ (h : PH), k102 h → PW (GX D ca ad) K 7 (qV Q) h 102 [none, none, none, none, none, none, none] []) (hkb : ∀ (x3 : Int32) (h : PH), kb x3 h → PW (GX D ca ad) K 7 (qV Q) h 2 [some (.ref t), some (.ref r1), some (.int x2), some (.int x3), none, none, none] []) (hw : w_X0_fineMinute_2 t r1 k102 Q x2 kb x3 h) : PW (GX D ca ad) K 7 (qV Q) h 2 [some (.ref t), some (.ref r1), some (.int x2), some (.int x3), none, none, none] [] := by
  unfold w_X0_fineMinute_2 at hw
  refine PW.ild3n C dX0_fineMinute_2 ?_
  refine PW.ald1n C dX0_fineMinute_3 ?_
  refine PW.getN0 C cf_8 fl_X0_45 (by decide) hr1 (fvR (o := 1) rfl) dX0_fineMinute_4 ?_
  refine PW.getN0 C cf_6 fl_X0_35 (by decide) (sf_8_0 hr1) (fvI rfl) dX0_fineMinute_7 ?_
  refine PW.icmp_ge (tgt := 102) C dX0_fineMinute_10 (by decide) (fun c => ?_) (fun c => ?_)
  · rw [if_pos c] at hw
    exact PW.wk (wk_n (wk_n (wk_n (wk_n (wk_n (wk_n (wk_n wk_0))))))) (hk102 _ hw)
  · rw [if_neg c] at hw
    refine PW.iconst (v := 0) C dX0_fineMinute_13 (by decide) ?_
    refine PW.ist4 C dX0_fineMinute_14 (by decide) rfl ?_
    obtain ⟨n, hw⟩ := hw
    refine PW.wk (wk_s (wk_s (wk_s (wk_s (wk_s (wk_n (wk_n wk_0))))))) (l_X0_fineMinute_16 C ht hr1 ?_ n _ _ hw)
    · intro h10 hw
      refine PW.inc3 (v := 1) C dX0_fineMinute_96 (by decide) rfl (by decide) ?_
      refine PW.goto (tgt := 2) C dX0_fineMinute_99 (by decide) ?_
      exact PW.wk (wk_s (wk_s (wk_s (wk_s (wk_n (wk_n (wk_n wk_0))))))) (hkb _ _ hw)
theorem l_X0_fineMinute_2 {D : va_G} {ca : Nat → ClassId} {ad : Nat → Nat} {K : Kt} {t : Nat} {r1 : Nat} {k102 : PH → Prop} {Q : PH → Prop} {x2 : Int32} (C : CX (GX D ca ad) (XS (GX D ca ad)) cX0_fineMinute RX0 7 none 6 K) (ht : oX t 0) (hr1 : oX r1 8) (hk102 : ∀ (h : PH), k102 h → PW (GX D ca ad) K 7 (qV Q) h 102 [none, none, none, none, none, none, none] []) : ∀ (n : Nat) (x3 : Int32) (h : PH), Lp1 (w_X0_fineMinute_2 t r1 k102 Q x2) n x3 h → PW (GX D ca ad) K 7 (qV Q) h 2 [some (.ref t), some (.ref r1), some (.int x2), some (.int x3), none, none, none] [] := by
  intro n
  induction n with
  | zero => intro x3 h hw; exact hw.elim
  | succ n ih => intro x3 h hw; exact b_X0_fineMinute_2 C ht hr1 hk102 (fun x3 h hw => ih x3 h hw) hw
def w_X0_fineMinute (t : Nat) (r1 : Nat) (x2 : Int32) (h : PH) (Q : PH → Prop) : Prop :=
  ∃ n, Lp1 (w_X0_fineMinute_2 t r1 (fun h11 => Q h11) Q x2) n 0 h
set_option maxRecDepth 8000 in
theorem s_X0_fineMinute {D : va_G} {ca : Nat → ClassId} {ad : Nat → Nat} {l : Launch} {t : Nat} {r1 : Nat} {x2 : Int32} {h : PH} {Q : PH → Prop} (ht : oX t 0) (hr1 : oX r1 8) (hw : w_X0_fineMinute t r1 x2 h Q) : Sp (GX D ca ad) (XS (GX D ca ad)) l 6 yX0_fineMinute cX0_fineMinute 7 none [.ref t, .ref r1, .int x2] h (qV Q) := by
  refine Sp.of (own := RX0) [some (.ref t), some (.ref r1), some (.int x2), none, none, none, none] (by decide +kernel) rfl rfl (Nat.le_of_ble_eq_true rfl) (fun K hl C => ?_)
  subst hl
  unfold w_X0_fineMinute at hw
  refine PW.iconst (v := 0) C dX0_fineMinute_0 (by decide) ?_
  refine PW.ist3n C dX0_fineMinute_1 (by decide) rfl ?_
  obtain ⟨n, hw⟩ := hw
  refine PW.wk (wk_s (wk_s (wk_s (wk_s (wk_n (wk_n (wk_n wk_0))))))) (l_X0_fineMinute_2 C ht hr1 ?_ n _ _ hw)
  · intro h11 hw
    exact PW.vret C dX0_fineMinute_102 ⟨rfl, hw⟩
def w_X0_longestHeld_65 (t : Nat) (r1 : Nat) (Q : Int32 → PH → Prop) (kb : Int32 → Int32 → Int32 → Int32 → PH → Prop) (x2 : Int32) (x3 : Int32) (x6 : Int32) (x7 : Int32) (s0 : Int32) (h : PH) : Prop :=
  ∀ (y3 : Int32), y3 = (mxI x2 s0) → kb y3 s0 x7 (x6 + 1) h
set_option maxRecDepth 8000 in
theorem b_X0_longestHeld_65 {D : va_G} {ca : Nat → ClassId} {ad : Nat → Nat} {K : Kt} {t : Nat} {r1 : Nat} {kb : Int32 → Int32 → Int32 → Int32 → PH → Prop} {Q : Int32 → PH → Prop} {x2 : Int32} {x3 : Int32} {x6 : Int32} {x7 : Int32} {s0 : Int32} {h : PH} (C : CX (GX D ca ad) (XS (GX D ca ad)) cX0_longestHeld RX0 8 (some .int) 3 K) (ht : oX t 0) (hr1 : oX r1 8) (hkb : ∀ (x2 : Int32) (x4 : Int32) (x5 : Int32) (x6 : Int32) (h : PH), kb x2 x4 x5 x6 h → PW (GX D ca ad) K 8 (qI Q) h 25 [some (.ref t), some (.ref r1), some (.int x2), some (.int x3), some (.int x4), some (.int x5), some (.int x6), none] []) (hw : w_X0_longestHeld_65 t r1 Q kb x2 x3 x6 x7 s0 h) : PW (GX D ca ad) K 8 (qI Q) h 65 [some (.ref t), some (.ref r1), some (.int x2), some (.int x3), none, none, some (.int x6), some (.int x7)] [.int s0] := by
  unfold w_X0_longestHeld_65 at hw
  refine PW.ist4 C dX0_longestHeld_65 (by decide) rfl ?_
  refine PW.ild7 C dX0_longestHeld_67 ?_
  refine PW.ist5 C dX0_longestHeld_69 (by decide) rfl ?_
  refine PW.ild2n C dX0_longestHeld_71 ?_
  refine PW.ild4 C dX0_longestHeld_72 ?_
  refine PW.mxI C ml_X0_148 (Nat.le_of_ble_eq_true rfl) (by decide) dX0_longestHeld_74 ?_
  replace hw := hw _ rfl
  refine PW.ist2n C dX0_longestHeld_77 (by decide) rfl ?_
  refine PW.inc6 (v := 1) C dX0_longestHeld_78 (by decide) rfl (by decide) ?_
  refine PW.goto (tgt := 25) C dX0_longestHeld_81 (by decide) ?_
  exact PW.wk (wk_s (wk_s (wk_s (wk_s (wk_s (wk_s (wk_s (wk_n wk_0)))))))) (hkb _ _ _ _ _ hw)
def w_X0_longestHeld_25 (t : Nat) (r1 : Nat) (k84 : Int32 → PH → Prop) (Q : Int32 → PH → Prop) (x3 : Int32) (kb : Int32 → Int32 → Int32 → Int32 → PH → Prop) (x2 : Int32) (x4 : Int32) (x5 : Int32) (x6 : Int32) (h : PH) : Prop :=
  if 48 ≤ x6 then (k84 x2 h) else (w_X0_holder t x3 x6 h (fun z2 h1 => if 0 ≤ z2 then (if z2 = x5 then (w_X0_longestHeld_65 t r1 Q kb x2 x3 x6 z2 (x4 + 1) h1) else (w_X0_longestHeld_65 t r1 Q kb x2 x3 x6 z2 1 h1)) else (w_X0_longestHeld_65 t r1 Q kb x2 x3 x6 z2 0 h1)))
set_option maxRecDepth 8000 in
theorem b_X0_longestHeld_25 {D : va_G} {ca : Nat → ClassId} {ad : Nat → Nat} {K : Kt} {t : Nat} {r1 : Nat} {k84 : Int32 → PH → Prop} {kb : Int32 → Int32 → Int32 → Int32 → PH → Prop} {Q : Int32 → PH → Prop} {x3 : Int32} {x2 : Int32} {x4 : Int32} {x5 : Int32} {x6 : Int32} {h : PH} (C : CX (GX D ca ad) (XS (GX D ca ad)) cX0_longestHeld RX0 8 (some .int) 3 K) (ht : oX t 0) (hr1 : oX r1 8) (hk84 : ∀ (x2 : Int32) (h : PH), k84 x2 h → PW (GX D ca ad) K 8 (qI Q) h 84 [some (.ref t), some (.ref r1), some (.int x2), some (.int x3), none, none, none, none] []) (hkb : ∀ (x2 : Int32) (x4 : Int32) (x5 : Int32) (x6 : Int32) (h : PH), kb x2 x4 x5 x6 h → PW (GX D ca ad) K 8 (qI Q) h 25 [some (.ref t), some (.ref r1), some (.int x2), some (.int x3), some (.int x4), some (.int x5), some (.int x6), none] []) (hw : w_X0_longestHeld_25 t r1 k84 Q x3 kb x2 x4 x5 x6 h) : PW (GX D ca ad) K 8 (qI Q) h 25 [some (.ref t), some (.ref r1), some (.int x2), some (.int x3), some (.int x4), some (.int x5), some (.int x6), none] [] := by
  unfold w_X0_longestHeld_25 at hw
  refine PW.ild6 C dX0_longestHeld_25 ?_
  refine PW.bipush (v := 48) C dX0_longestHeld_27 (by decide) ?_
  refine PW.icmp_ge (tgt := 84) C dX0_longestHeld_29 (by decide) (fun c => ?_) (fun c => ?_)
  · rw [if_pos c] at hw
    exact PW.wk (wk_s (wk_s (wk_s (wk_s (wk_n (wk_n (wk_n (wk_n wk_0)))))))) (hk84 _ _ hw)
  · rw [if_neg c] at hw
    refine PW.ald0n C dX0_longestHeld_32 ?_
    refine PW.ild3n C dX0_longestHeld_33 ?_
    refine PW.ild6 C dX0_longestHeld_34 ?_
    refine PW.callVI2 C ms_X0_holder ml_X0_125 dX0_longestHeld_36 ht ⟨_, _, rfl⟩ (Nat.le_of_ble_eq_true rfl) (by decide) (Nat.le_of_ble_eq_true rfl) (s_X0_holder ht hw) ?_
    clear hw
    intro z2 h1 hw
    refine PW.ist7 C dX0_longestHeld_39 (by decide) rfl ?_
    refine PW.ild7 C dX0_longestHeld_41 ?_
    refine PW.if_ge (tgt := 50) C dX0_longestHeld_43 (by decide) (fun c => ?_) (fun c => ?_)
    · rw [if_pos c] at hw
      refine PW.ild7 C dX0_longestHeld_50 ?_
      refine PW.ild5 C dX0_longestHeld_52 ?_
      refine PW.icmp_ne (tgt := 64) C dX0_longestHeld_54 (by decide) (fun c => ?_) (fun c => ?_)
      · rw [if_neg c] at hw
        refine PW.iconst (v := 1) C dX0_longestHeld_64 (by decide) ?_
        exact PW.wk (wk_s (wk_s (wk_s (wk_s (wk_n (wk_n (wk_s (wk_s wk_0)))))))) (b_X0_longestHeld_65 C ht hr1 hkb hw)
      · rw [if_pos c] at hw
        refine PW.ild4 C dX0_longestHeld_57 ?_
        refine PW.iconst (v := 1) C dX0_longestHeld_59 (by decide) ?_
        refine PW.iadd C dX0_longestHeld_60 ?_
        refine PW.goto (tgt := 65) C dX0_longestHeld_61 (by decide) ?_
        exact PW.wk (wk_s (wk_s (wk_s (wk_s (wk_n (wk_n (wk_s (wk_s wk_0)))))))) (b_X0_longestHeld_65 C ht hr1 hkb hw)
    · rw [if_neg c] at hw
      refine PW.iconst (v := 0) C dX0_longestHeld_46 (by decide) ?_
      refine PW.goto (tgt := 65) C dX0_longestHeld_47 (by decide) ?_
      exact PW.wk (wk_s (wk_s (wk_s (wk_s (wk_n (wk_n (wk_s (wk_s wk_0)))))))) (b_X0_longestHeld_65 C ht hr1 hkb hw)
theorem l_X0_longestHeld_25 {D : va_G} {ca : Nat → ClassId} {ad : Nat → Nat} {K : Kt} {t : Nat} {r1 : Nat} {k84 : Int32 → PH → Prop} {Q : Int32 → PH → Prop} {x3 : Int32} (C : CX (GX D ca ad) (XS (GX D ca ad)) cX0_longestHeld RX0 8 (some .int) 3 K) (ht : oX t 0) (hr1 : oX r1 8) (hk84 : ∀ (x2 : Int32) (h : PH), k84 x2 h → PW (GX D ca ad) K 8 (qI Q) h 84 [some (.ref t), some (.ref r1), some (.int x2), some (.int x3), none, none, none, none] []) : ∀ (n : Nat) (x2 : Int32) (x4 : Int32) (x5 : Int32) (x6 : Int32) (h : PH), Lp4 (w_X0_longestHeld_25 t r1 k84 Q x3) n x2 x4 x5 x6 h → PW (GX D ca ad) K 8 (qI Q) h 25 [some (.ref t), some (.ref r1), some (.int x2), some (.int x3), some (.int x4), some (.int x5), some (.int x6), none] [] := by
  intro n
  induction n with
  | zero => intro x2 x4 x5 x6 h hw; exact hw.elim
  | succ n ih => intro x2 x4 x5 x6 h hw; exact b_X0_longestHeld_25 C ht hr1 hk84 (fun x2 x4 x5 x6 h hw => ih x2 x4 x5 x6 h hw) hw
def w_X0_longestHeld_4 (t : Nat) (r1 : Nat) (k90 : Int32 → PH → Prop) (Q : Int32 → PH → Prop) (kb : Int32 → Int32 → PH → Prop) (x2 : Int32) (x3 : Int32) (h : PH) : Prop :=
  if (gI h (r1 + 1) 3) ≤ x3 then (k90 x2 h) else (∃ n, Lp4 (w_X0_longestHeld_25 t r1 (fun y5 h4 => kb y5 (x3 + 1) h4) Q x3) n x2 0 (-2) 0 h)
set_option maxRecDepth 8000 in
theorem b_X0_longestHeld_4 {D : va_G} {ca : Nat → ClassId} {ad : Nat → Nat} {K : Kt} {t : Nat} {r1 : Nat} {k90 : Int32 → PH → Prop} {kb : Int32 → Int32 → PH → Prop} {Q : Int32 → PH → Prop} {x2 : Int32} {x3 : Int32} {h : PH} (C : CX (GX D ca ad) (XS (GX D ca ad)) cX0_longestHeld RX0 8 (some .int) 3 K) (ht : oX t 0) (hr1 : oX r1 8) (hk90 : ∀ (x2 : Int32) (h : PH), k90 x2 h → PW (GX D ca ad) K 8 (qI Q) h 90 [none, none, some (.int x2), none, none, none, none, none] []) (hkb : ∀ (x2 : Int32) (x3 : Int32) (h : PH), kb x2 x3 h → PW (GX D ca ad) K 8 (qI Q) h 4 [some (.ref t), some (.ref r1), some (.int x2), some (.int x3), none, none, none, none] []) (hw : w_X0_longestHeld_4 t r1 k90 Q kb x2 x3 h) : PW (GX D ca ad) K 8 (qI Q) h 4 [some (.ref t), some (.ref r1), some (.int x2), some (.int x3), none, none, none, none] [] := by
  unfold w_X0_longestHeld_4 at hw
  refine PW.ild3n C dX0_longestHeld_4 ?_
  refine PW.ald1n C dX0_longestHeld_5 ?_
  refine PW.getN0 C cf_8 fl_X0_45 (by decide) hr1 (fvR (o := 1) rfl) dX0_longestHeld_6 ?_
  refine PW.getN0 C cf_6 fl_X0_35 (by decide) (sf_8_0 hr1) (fvI rfl) dX0_longestHeld_9 ?_
  refine PW.icmp_ge (tgt := 90) C dX0_longestHeld_12 (by decide) (fun c => ?_) (fun c => ?_)
  · rw [if_pos c] at hw
    exact PW.wk (wk_n (wk_n (wk_s (wk_n (wk_n (wk_n (wk_n (wk_n wk_0)))))))) (hk90 _ _ hw)
  · rw [if_neg c] at hw
    refine PW.iconst (v := 0) C dX0_longestHeld_15 (by decide) ?_
    refine PW.ist4 C dX0_longestHeld_16 (by decide) rfl ?_
    refine PW.bipush (v := (-2)) C dX0_longestHeld_18 (by decide) ?_
    refine PW.ist5 C dX0_longestHeld_20 (by decide) rfl ?_
    refine PW.iconst (v := 0) C dX0_longestHeld_22 (by decide) ?_
    refine PW.ist6 C dX0_longestHeld_23 (by decide) rfl ?_
    obtain ⟨n, hw⟩ := hw
    refine PW.wk (wk_s (wk_s (wk_s (wk_s (wk_s (wk_s (wk_s (wk_n wk_0)))))))) (l_X0_longestHeld_25 C ht hr1 ?_ n _ _ _ _ _ hw)
    · intro y5 h4 hw
      refine PW.inc3 (v := 1) C dX0_longestHeld_84 (by decide) rfl (by decide) ?_
      refine PW.goto (tgt := 4) C dX0_longestHeld_87 (by decide) ?_
      exact PW.wk (wk_s (wk_s (wk_s (wk_s (wk_n (wk_n (wk_n (wk_n wk_0)))))))) (hkb _ _ _ hw)
theorem l_X0_longestHeld_4 {D : va_G} {ca : Nat → ClassId} {ad : Nat → Nat} {K : Kt} {t : Nat} {r1 : Nat} {k90 : Int32 → PH → Prop} {Q : Int32 → PH → Prop} (C : CX (GX D ca ad) (XS (GX D ca ad)) cX0_longestHeld RX0 8 (some .int) 3 K) (ht : oX t 0) (hr1 : oX r1 8) (hk90 : ∀ (x2 : Int32) (h : PH), k90 x2 h → PW (GX D ca ad) K 8 (qI Q) h 90 [none, none, some (.int x2), none, none, none, none, none] []) : ∀ (n : Nat) (x2 : Int32) (x3 : Int32) (h : PH), Lp2 (w_X0_longestHeld_4 t r1 k90 Q) n x2 x3 h → PW (GX D ca ad) K 8 (qI Q) h 4 [some (.ref t), some (.ref r1), some (.int x2), some (.int x3), none, none, none, none] [] := by
  intro n
  induction n with
  | zero => intro x2 x3 h hw; exact hw.elim
  | succ n ih => intro x2 x3 h hw; exact b_X0_longestHeld_4 C ht hr1 hk90 (fun x2 x3 h hw => ih x2 x3 h hw) hw
def w_X0_longestHeld (t : Nat) (r1 : Nat) (h : PH) (Q : Int32 → PH → Prop) : Prop :=
  ∃ n, Lp2 (w_X0_longestHeld_4 t r1 (fun y7 h6 => Q y7 h6) Q) n 0 0 h
set_option maxRecDepth 8000 in
theorem s_X0_longestHeld {D : va_G} {ca : Nat → ClassId} {ad : Nat → Nat} {l : Launch} {t : Nat} {r1 : Nat} {h : PH} {Q : Int32 → PH → Prop} (ht : oX t 0) (hr1 : oX r1 8) (hw : w_X0_longestHeld t r1 h Q) : Sp (GX D ca ad) (XS (GX D ca ad)) l 3 yX0_longestHeld cX0_longestHeld 8 (some .int) [.ref t, .ref r1] h (qI Q) := by
  refine Sp.of (own := RX0) [some (.ref t), some (.ref r1), none, none, none, none, none, none] (by decide +kernel) rfl rfl (Nat.le_of_ble_eq_true rfl) (fun K hl C => ?_)
  subst hl
  unfold w_X0_longestHeld at hw
  refine PW.iconst (v := 0) C dX0_longestHeld_0 (by decide) ?_
  refine PW.ist2n C dX0_longestHeld_1 (by decide) rfl ?_
  refine PW.iconst (v := 0) C dX0_longestHeld_2 (by decide) ?_
  refine PW.ist3n C dX0_longestHeld_3 (by decide) rfl ?_
  obtain ⟨n, hw⟩ := hw
  refine PW.wk (wk_s (wk_s (wk_s (wk_s (wk_n (wk_n (wk_n (wk_n wk_0)))))))) (l_X0_longestHeld_4 C ht hr1 ?_ n _ _ _ hw)
  · intro y7 h6 hw
    refine PW.ild2n C dX0_longestHeld_90 ?_
    exact PW.iret C dX0_longestHeld_91 ⟨_, rfl, hw⟩
def w_X3_findSpans_75 (r1 : Nat) (r2 : Nat) (Q : PH → Prop) (kb : Int32 → Int32 → PH → Prop) (x3 : Int32) (x4 : Int32) (x5 : Int32) (x6 : Int32) (h : PH) : Prop :=
  if x6 = 0 then (if x4 = (-1) then (kb x4 (x5 + 1) h) else (w_X6_add 113 x3 x4 (x5 - 1) (-1) 0 h (fun z3 h2 => kb (-1) (x5 + 1) h2))) else (kb x4 (x5 + 1) h)
set_option maxRecDepth 8000 in
theorem b_X3_findSpans_75 {D : va_G} {ca : Nat → ClassId} {ad : Nat → Nat} {K : Kt} {r1 : Nat} {r2 : Nat} {kb : Int32 → Int32 → PH → Prop} {Q : PH → Prop} {x3 : Int32} {x4 : Int32} {x5 : Int32} {x6 : Int32} {h : PH} (C : CX (GX D ca ad) (XS (GX D ca ad)) cX3_findSpans RX3 7 none 4 K) (hr1 : oX r1 8) (hr2 : oX r2 0) (hkb : ∀ (x4 : Int32) (x5 : Int32) (h : PH), kb x4 x5 h → PW (GX D ca ad) K 7 (qV Q) h 26 [some (.ref 112), some (.ref r1), some (.ref r2), some (.int x3), some (.int x4), some (.int x5), none] []) (hw : w_X3_findSpans_75 r1 r2 Q kb x3 x4 x5 x6 h) : PW (GX D ca ad) K 7 (qV Q) h 75 [some (.ref 112), some (.ref r1), some (.ref r2), some (.int x3), some (.int x4), some (.int x5), some (.int x6)] [] := by
  unfold w_X3_findSpans_75 at hw
  refine PW.ild6 C dX3_findSpans_75 ?_
  refine PW.if_ne (tgt := 106) C dX3_findSpans_77 (by decide) (fun c => ?_) (fun c => ?_)
  · rw [if_neg c] at hw
    refine PW.inc5 (v := 1) C dX3_findSpans_106 (by decide) rfl (by decide) ?_
    refine PW.goto (tgt := 26) C dX3_findSpans_109 (by decide) ?_
    exact PW.wk (wk_s (wk_s (wk_s (wk_s (wk_s (wk_s (wk_n wk_0))))))) (hkb _ _ _ hw)
  · rw [if_pos c] at hw
    refine PW.ild4 C dX3_findSpans_80 ?_
    refine PW.iconst (v := (-1)) C dX3_findSpans_82 (by decide) ?_
    refine PW.icmp_eq (tgt := 106) C dX3_findSpans_83 (by decide) (fun c => ?_) (fun c => ?_)
    · rw [if_pos c] at hw
      refine PW.inc5 (v := 1) C dX3_findSpans_106 (by decide) rfl (by decide) ?_
      refine PW.goto (tgt := 26) C dX3_findSpans_109 (by decide) ?_
      exact PW.wk (wk_s (wk_s (wk_s (wk_s (wk_s (wk_s (wk_n wk_0))))))) (hkb _ _ _ hw)
    · rw [if_neg c] at hw
      refine PW.ald0n C dX3_findSpans_86 ?_
      refine PW.get0 (v := .ref 113) C cf_3 fl_X3_16 (by decide) oX_112 (fvR (o := 1) rfl) dX3_findSpans_87 ?_
      refine PW.ild3n C dX3_findSpans_90 ?_
      refine PW.ild4 C dX3_findSpans_91 ?_
      refine PW.ild5 C dX3_findSpans_93 ?_
      refine PW.iconst (v := 1) C dX3_findSpans_95 (by decide) ?_
      refine PW.isub C dX3_findSpans_96 ?_
      refine PW.iconst (v := (-1)) C dX3_findSpans_97 (by decide) ?_
      refine PW.iconst (v := 0) C dX3_findSpans_98 (by decide) ?_
      refine PW.callVI5 C ms_X6_add ml_X3_57 dX3_findSpans_99 oX_113 ⟨_, _, rfl⟩ (Nat.le_of_ble_eq_true rfl) (by decide) (Nat.le_of_ble_eq_true rfl) (s_X6_add oX_113 hw) ?_
      clear hw
      intro z3 h2 hw
      refine PW.pop C dX3_findSpans_102 rfl ?_
      refine PW.iconst (v := (-1)) C dX3_findSpans_103 (by decide) ?_
      refine PW.ist4 C dX3_findSpans_104 (by decide) rfl ?_
      refine PW.inc5 (v := 1) C dX3_findSpans_106 (by decide) rfl (by decide) ?_
      refine PW.goto (tgt := 26) C dX3_findSpans_109 (by decide) ?_
      exact PW.wk (wk_s (wk_s (wk_s (wk_s (wk_s (wk_s (wk_n wk_0))))))) (hkb _ _ _ hw)
def w_X3_findSpans_55 (r1 : Nat) (r2 : Nat) (Q : PH → Prop) (kb : Int32 → Int32 → PH → Prop) (x3 : Int32) (x4 : Int32) (x5 : Int32) (s0 : Int32) (h : PH) : Prop :=
  if s0 = 0 then (w_X3_findSpans_75 r1 r2 Q kb x3 x4 x5 s0 h) else (if x4 = (-1) then (kb x5 (x5 + 1) h) else (w_X3_findSpans_75 r1 r2 Q kb x3 x4 x5 s0 h))
set_option maxRecDepth 8000 in
theorem b_X3_findSpans_55 {D : va_G} {ca : Nat → ClassId} {ad : Nat → Nat} {K : Kt} {r1 : Nat} {r2 : Nat} {kb : Int32 → Int32 → PH → Prop} {Q : PH → Prop} {x3 : Int32} {x4 : Int32} {x5 : Int32} {s0 : Int32} {h : PH} (C : CX (GX D ca ad) (XS (GX D ca ad)) cX3_findSpans RX3 7 none 4 K) (hr1 : oX r1 8) (hr2 : oX r2 0) (hkb : ∀ (x4 : Int32) (x5 : Int32) (h : PH), kb x4 x5 h → PW (GX D ca ad) K 7 (qV Q) h 26 [some (.ref 112), some (.ref r1), some (.ref r2), some (.int x3), some (.int x4), some (.int x5), none] []) (hw : w_X3_findSpans_55 r1 r2 Q kb x3 x4 x5 s0 h) : PW (GX D ca ad) K 7 (qV Q) h 55 [some (.ref 112), some (.ref r1), some (.ref r2), some (.int x3), some (.int x4), some (.int x5), none] [.int s0] := by
  unfold w_X3_findSpans_55 at hw
  refine PW.ist6 C dX3_findSpans_55 (by decide) rfl ?_
  refine PW.ild6 C dX3_findSpans_57 ?_
  refine PW.if_eq (tgt := 75) C dX3_findSpans_59 (by decide) (fun c => ?_) (fun c => ?_)
  · rw [if_pos c] at hw
    exact PW.wk (wk_s (wk_s (wk_s (wk_s (wk_s (wk_s (wk_s wk_0))))))) (b_X3_findSpans_75 C hr1 hr2 hkb hw)
  · rw [if_neg c] at hw
    refine PW.ild4 C dX3_findSpans_62 ?_
    refine PW.iconst (v := (-1)) C dX3_findSpans_64 (by decide) ?_
    refine PW.icmp_ne (tgt := 75) C dX3_findSpans_65 (by decide) (fun c => ?_) (fun c => ?_)
    · rw [if_neg c] at hw
      exact PW.wk (wk_s (wk_s (wk_s (wk_s (wk_s (wk_s (wk_s wk_0))))))) (b_X3_findSpans_75 C hr1 hr2 hkb hw)
    · rw [if_pos c] at hw
      refine PW.ild5 C dX3_findSpans_68 ?_
      refine PW.ist4 C dX3_findSpans_70 (by decide) rfl ?_
      refine PW.goto (tgt := 106) C dX3_findSpans_72 (by decide) ?_
      refine PW.inc5 (v := 1) C dX3_findSpans_106 (by decide) rfl (by decide) ?_
      refine PW.goto (tgt := 26) C dX3_findSpans_109 (by decide) ?_
      exact PW.wk (wk_s (wk_s (wk_s (wk_s (wk_s (wk_s (wk_n wk_0))))))) (hkb _ _ _ hw)
def w_X3_findSpans_54 (r1 : Nat) (r2 : Nat) (Q : PH → Prop) (kb : Int32 → Int32 → PH → Prop) (x3 : Int32) (x4 : Int32) (x5 : Int32) (h : PH) : Prop :=
  w_X3_findSpans_55 r1 r2 Q kb x3 x4 x5 0 h
set_option maxRecDepth 8000 in
theorem b_X3_findSpans_54 {D : va_G} {ca : Nat → ClassId} {ad : Nat → Nat} {K : Kt} {r1 : Nat} {r2 : Nat} {kb : Int32 → Int32 → PH → Prop} {Q : PH → Prop} {x3 : Int32} {x4 : Int32} {x5 : Int32} {h : PH} (C : CX (GX D ca ad) (XS (GX D ca ad)) cX3_findSpans RX3 7 none 4 K) (hr1 : oX r1 8) (hr2 : oX r2 0) (hkb : ∀ (x4 : Int32) (x5 : Int32) (h : PH), kb x4 x5 h → PW (GX D ca ad) K 7 (qV Q) h 26 [some (.ref 112), some (.ref r1), some (.ref r2), some (.int x3), some (.int x4), some (.int x5), none] []) (hw : w_X3_findSpans_54 r1 r2 Q kb x3 x4 x5 h) : PW (GX D ca ad) K 7 (qV Q) h 54 [some (.ref 112), some (.ref r1), some (.ref r2), some (.int x3), some (.int x4), some (.int x5), none] [] := by
  unfold w_X3_findSpans_54 at hw
  refine PW.iconst (v := 0) C dX3_findSpans_54 (by decide) ?_
  exact PW.wk (wk_s (wk_s (wk_s (wk_s (wk_s (wk_s (wk_n wk_0))))))) (b_X3_findSpans_55 C hr1 hr2 hkb hw)
def w_X3_findSpans_26 (r1 : Nat) (r2 : Nat) (k112 : PH → Prop) (Q : PH → Prop) (x3 : Int32) (kb : Int32 → Int32 → PH → Prop) (x4 : Int32) (x5 : Int32) (h : PH) : Prop :=
  if 48 < x5 then (k112 h) else (if 48 ≤ x5 then (w_X3_findSpans_54 r1 r2 Q kb x3 x4 x5 h) else (w_X0_isSilent r2 x3 x5 h (fun z5 h4 => if z5 = 0 then (w_X3_findSpans_54 r1 r2 Q kb x3 x4 x5 h4) else (w_X3_findSpans_55 r1 r2 Q kb x3 x4 x5 1 h4))))
set_option maxRecDepth 8000 in
theorem b_X3_findSpans_26 {D : va_G} {ca : Nat → ClassId} {ad : Nat → Nat} {K : Kt} {r1 : Nat} {r2 : Nat} {k112 : PH → Prop} {kb : Int32 → Int32 → PH → Prop} {Q : PH → Prop} {x3 : Int32} {x4 : Int32} {x5 : Int32} {h : PH} (C : CX (GX D ca ad) (XS (GX D ca ad)) cX3_findSpans RX3 7 none 4 K) (hr1 : oX r1 8) (hr2 : oX r2 0) (hk112 : ∀ (h : PH), k112 h → PW (GX D ca ad) K 7 (qV Q) h 112 [some (.ref 112), some (.ref r1), some (.ref r2), some (.int x3), none, none, none] []) (hkb : ∀ (x4 : Int32) (x5 : Int32) (h : PH), kb x4 x5 h → PW (GX D ca ad) K 7 (qV Q) h 26 [some (.ref 112), some (.ref r1), some (.ref r2), some (.int x3), some (.int x4), some (.int x5), none] []) (hw : w_X3_findSpans_26 r1 r2 k112 Q x3 kb x4 x5 h) : PW (GX D ca ad) K 7 (qV Q) h 26 [some (.ref 112), some (.ref r1), some (.ref r2), some (.int x3), some (.int x4), some (.int x5), none] [] := by
  unfold w_X3_findSpans_26 at hw
  refine PW.ild5 C dX3_findSpans_26 ?_
  refine PW.bipush (v := 48) C dX3_findSpans_28 (by decide) ?_
  refine PW.icmp_gt (tgt := 112) C dX3_findSpans_30 (by decide) (fun c => ?_) (fun c => ?_)
  · rw [if_pos c] at hw
    exact PW.wk (wk_s (wk_s (wk_s (wk_s (wk_n (wk_n (wk_n wk_0))))))) (hk112 _ hw)
  · rw [if_neg c] at hw
    refine PW.ild5 C dX3_findSpans_33 ?_
    refine PW.bipush (v := 48) C dX3_findSpans_35 (by decide) ?_
    refine PW.icmp_ge (tgt := 54) C dX3_findSpans_37 (by decide) (fun c => ?_) (fun c => ?_)
    · rw [if_pos c] at hw
      exact PW.wk (wk_s (wk_s (wk_s (wk_s (wk_s (wk_s (wk_n wk_0))))))) (b_X3_findSpans_54 C hr1 hr2 hkb hw)
    · rw [if_neg c] at hw
      refine PW.ald2n C dX3_findSpans_40 ?_
      refine PW.ild3n C dX3_findSpans_41 ?_
      refine PW.ild5 C dX3_findSpans_42 ?_
      refine PW.callVI2 C ms_X0_isSilent ml_X3_51 dX3_findSpans_44 hr2 ⟨_, _, rfl⟩ (Nat.le_of_ble_eq_true rfl) (by decide) (Nat.le_of_ble_eq_true rfl) (s_X0_isSilent hr2 hw) ?_
      clear hw
      intro z5 h4 hw
      refine PW.if_eq (tgt := 54) C dX3_findSpans_47 (by decide) (fun c => ?_) (fun c => ?_)
      · rw [if_pos c] at hw
        exact PW.wk (wk_s (wk_s (wk_s (wk_s (wk_s (wk_s (wk_n wk_0))))))) (b_X3_findSpans_54 C hr1 hr2 hkb hw)
      · rw [if_neg c] at hw
        refine PW.iconst (v := 1) C dX3_findSpans_50 (by decide) ?_
        refine PW.goto (tgt := 55) C dX3_findSpans_51 (by decide) ?_
        exact PW.wk (wk_s (wk_s (wk_s (wk_s (wk_s (wk_s (wk_n wk_0))))))) (b_X3_findSpans_55 C hr1 hr2 hkb hw)
theorem l_X3_findSpans_26 {D : va_G} {ca : Nat → ClassId} {ad : Nat → Nat} {K : Kt} {r1 : Nat} {r2 : Nat} {k112 : PH → Prop} {Q : PH → Prop} {x3 : Int32} (C : CX (GX D ca ad) (XS (GX D ca ad)) cX3_findSpans RX3 7 none 4 K) (hr1 : oX r1 8) (hr2 : oX r2 0) (hk112 : ∀ (h : PH), k112 h → PW (GX D ca ad) K 7 (qV Q) h 112 [some (.ref 112), some (.ref r1), some (.ref r2), some (.int x3), none, none, none] []) : ∀ (n : Nat) (x4 : Int32) (x5 : Int32) (h : PH), Lp2 (w_X3_findSpans_26 r1 r2 k112 Q x3) n x4 x5 h → PW (GX D ca ad) K 7 (qV Q) h 26 [some (.ref 112), some (.ref r1), some (.ref r2), some (.int x3), some (.int x4), some (.int x5), none] [] := by
  intro n
  induction n with
  | zero => intro x4 x5 h hw; exact hw.elim
  | succ n ih => intro x4 x5 h hw; exact b_X3_findSpans_26 C hr1 hr2 hk112 (fun x4 x5 h hw => ih x4 x5 h hw) hw
def w_X3_findSpans_9 (r1 : Nat) (r2 : Nat) (k118 : PH → Prop) (Q : PH → Prop) (kb : Int32 → PH → Prop) (x3 : Int32) (h : PH) : Prop :=
  if (gI h (r1 + 1) 3) ≤ x3 then (k118 h) else (∃ n, Lp2 (w_X3_findSpans_26 r1 r2 (fun h6 => kb (x3 + 1) h6) Q x3) n (-1) 0 h)
set_option maxRecDepth 8000 in
theorem b_X3_findSpans_9 {D : va_G} {ca : Nat → ClassId} {ad : Nat → Nat} {K : Kt} {r1 : Nat} {r2 : Nat} {k118 : PH → Prop} {kb : Int32 → PH → Prop} {Q : PH → Prop} {x3 : Int32} {h : PH} (C : CX (GX D ca ad) (XS (GX D ca ad)) cX3_findSpans RX3 7 none 4 K) (hr1 : oX r1 8) (hr2 : oX r2 0) (hk118 : ∀ (h : PH), k118 h → PW (GX D ca ad) K 7 (qV Q) h 118 [none, none, none, none, none, none, none] []) (hkb : ∀ (x3 : Int32) (h : PH), kb x3 h → PW (GX D ca ad) K 7 (qV Q) h 9 [some (.ref 112), some (.ref r1), some (.ref r2), some (.int x3), none, none, none] []) (hw : w_X3_findSpans_9 r1 r2 k118 Q kb x3 h) : PW (GX D ca ad) K 7 (qV Q) h 9 [some (.ref 112), some (.ref r1), some (.ref r2), some (.int x3), none, none, none] [] := by
  unfold w_X3_findSpans_9 at hw
  refine PW.ild3n C dX3_findSpans_9 ?_
  refine PW.ald1n C dX3_findSpans_10 ?_
  refine PW.getN0 C cf_8 fl_X3_42 (by decide) hr1 (fvR (o := 1) rfl) dX3_findSpans_11 ?_
  refine PW.getN0 C cf_6 fl_X3_47 (by decide) (sf_8_0 hr1) (fvI rfl) dX3_findSpans_14 ?_
  refine PW.icmp_ge (tgt := 118) C dX3_findSpans_17 (by decide) (fun c => ?_) (fun c => ?_)
  · rw [if_pos c] at hw
    exact PW.wk (wk_n (wk_n (wk_n (wk_n (wk_n (wk_n (wk_n wk_0))))))) (hk118 _ hw)
  · rw [if_neg c] at hw
    refine PW.iconst (v := (-1)) C dX3_findSpans_20 (by decide) ?_
    refine PW.ist4 C dX3_findSpans_21 (by decide) rfl ?_
    refine PW.iconst (v := 0) C dX3_findSpans_23 (by decide) ?_
    refine PW.ist5 C dX3_findSpans_24 (by decide) rfl ?_
    obtain ⟨n, hw⟩ := hw
    refine PW.wk (wk_s (wk_s (wk_s (wk_s (wk_s (wk_s (wk_n wk_0))))))) (l_X3_findSpans_26 C hr1 hr2 ?_ n _ _ _ hw)
    · intro h6 hw
      refine PW.inc3 (v := 1) C dX3_findSpans_112 (by decide) rfl (by decide) ?_
      refine PW.goto (tgt := 9) C dX3_findSpans_115 (by decide) ?_
      exact PW.wk (wk_s (wk_s (wk_s (wk_s (wk_n (wk_n (wk_n wk_0))))))) (hkb _ _ hw)
theorem l_X3_findSpans_9 {D : va_G} {ca : Nat → ClassId} {ad : Nat → Nat} {K : Kt} {r1 : Nat} {r2 : Nat} {k118 : PH → Prop} {Q : PH → Prop} (C : CX (GX D ca ad) (XS (GX D ca ad)) cX3_findSpans RX3 7 none 4 K) (hr1 : oX r1 8) (hr2 : oX r2 0) (hk118 : ∀ (h : PH), k118 h → PW (GX D ca ad) K 7 (qV Q) h 118 [none, none, none, none, none, none, none] []) : ∀ (n : Nat) (x3 : Int32) (h : PH), Lp1 (w_X3_findSpans_9 r1 r2 k118 Q) n x3 h → PW (GX D ca ad) K 7 (qV Q) h 9 [some (.ref 112), some (.ref r1), some (.ref r2), some (.int x3), none, none, none] [] := by
  intro n
  induction n with
  | zero => intro x3 h hw; exact hw.elim
  | succ n ih => intro x3 h hw; exact b_X3_findSpans_9 C hr1 hr2 hk118 (fun x3 h hw => ih x3 h hw) hw
def w_X3_findSpans (r1 : Nat) (r2 : Nat) (h : PH) (Q : PH → Prop) : Prop :=
  w_X6_clear 113 h (fun h1 => ∃ n, Lp1 (w_X3_findSpans_9 r1 r2 (fun h7 => Q h7) Q) n 0 h1)
set_option maxRecDepth 8000 in
theorem s_X3_findSpans {D : va_G} {ca : Nat → ClassId} {ad : Nat → Nat} {l : Launch} {r1 : Nat} {r2 : Nat} {h : PH} {Q : PH → Prop} (hr1 : oX r1 8) (hr2 : oX r2 0) (hw : w_X3_findSpans r1 r2 h Q) : Sp (GX D ca ad) (XS (GX D ca ad)) l 4 yX3_findSpans cX3_findSpans 7 none [.ref 112, .ref r1, .ref r2] h (qV Q) := by
  refine Sp.of (own := RX3) [some (.ref 112), some (.ref r1), some (.ref r2), none, none, none, none] (by decide +kernel) rfl rfl (Nat.le_of_ble_eq_true rfl) (fun K hl C => ?_)
  subst hl
  unfold w_X3_findSpans at hw
  refine PW.ald0n C dX3_findSpans_0 ?_
  refine PW.get0 (v := .ref 113) C cf_3 fl_X3_16 (by decide) oX_112 (fvR (o := 1) rfl) dX3_findSpans_1 ?_
  refine PW.callVV0 C ms_X6_clear ml_X3_39 dX3_findSpans_4 oX_113 ⟨_, _, rfl⟩ (Nat.le_of_ble_eq_true rfl) (by decide) (Nat.le_of_ble_eq_true rfl) (s_X6_clear oX_113 hw) ?_
  clear hw
  intro h1 hw
  refine PW.iconst (v := 0) C dX3_findSpans_7 (by decide) ?_
  refine PW.ist3n C dX3_findSpans_8 (by decide) rfl ?_
  obtain ⟨n, hw⟩ := hw
  refine PW.wk (wk_s (wk_s (wk_s (wk_s (wk_n (wk_n (wk_n wk_0))))))) (l_X3_findSpans_9 C hr1 hr2 ?_ n _ _ hw)
  · intro h7 hw
    exact PW.vret C dX3_findSpans_118 ⟨rfl, hw⟩
def w_X3_touch (x1 : Int32) (x2 : Int32) (h : PH) (Q : Int32 → PH → Prop) : Prop :=
  w_X6_at 113 x1 0 h (fun z2 h1 => if z2 < 0 then (Q 0 h1) else (if 6 ≤ z2 then (Q 0 h1) else (vp_in z2 6 ∧ w_X6_at 113 x2 0 h1 (fun z5 h4 => if ((((gI h1 117 (iN z2)) : Int32) >>> ((z5 : Int32) &&& 31)) &&& 1) = 1 then (w_X6_at 113 x1 1 h4 (fun z7 h6 => w_X6_at 113 x2 2 h6 (fun z9 h8 => if z9 < z7 then (Q 0 h8) else (w_X6_at 113 x2 1 h8 (fun z11 h10 => w_X6_at 113 x1 2 h10 (fun z13 h12 => if z13 < z11 then (Q 0 h12) else (Q 1 h12))))))) else (Q 0 h4)))))
set_option maxRecDepth 8000 in
theorem s_X3_touch {D : va_G} {ca : Nat → ClassId} {ad : Nat → Nat} {l : Launch} {x1 : Int32} {x2 : Int32} {h : PH} {Q : Int32 → PH → Prop} (hw : w_X3_touch x1 x2 h Q) : Sp (GX D ca ad) (XS (GX D ca ad)) l 3 yX3_touch cX3_touch 4 (some .boolean) [.ref 112, .int x1, .int x2] h (qI Q) := by
  refine Sp.of (own := RX3) [some (.ref 112), some (.int x1), some (.int x2), none] (by decide +kernel) rfl rfl (Nat.le_of_ble_eq_true rfl) (fun K hl C => ?_)
  subst hl
  unfold w_X3_touch at hw
  refine PW.ald0n C dX3_touch_0 ?_
  refine PW.get0 (v := .ref 113) C cf_3 fl_X3_16 (by decide) oX_112 (fvR (o := 1) rfl) dX3_touch_1 ?_
  refine PW.ild1n C dX3_touch_4 ?_
  refine PW.iconst (v := 0) C dX3_touch_5 (by decide) ?_
  refine PW.callVI2 C ms_X6_at ml_X3_64 dX3_touch_6 oX_113 ⟨_, _, rfl⟩ (Nat.le_of_ble_eq_true rfl) (by decide) (Nat.le_of_ble_eq_true rfl) (s_X6_at oX_113 hw) ?_
  clear hw
  intro z2 h1 hw
  refine PW.ist3n C dX3_touch_9 (by decide) rfl ?_
  refine PW.ild3n C dX3_touch_10 ?_
  refine PW.if_lt (tgt := 88) C dX3_touch_11 (by decide) (fun c => ?_) (fun c => ?_)
  · rw [if_pos c] at hw
    refine PW.iconst (v := 0) C dX3_touch_88 (by decide) ?_
    exact PW.zret C dX3_touch_89 (by decide) ⟨_, rfl, hw⟩
  · rw [if_neg c] at hw
    refine PW.ild3n C dX3_touch_14 ?_
    refine PW.bipush (v := 6) C dX3_touch_15 (by decide) ?_
    refine PW.icmp_ge (tgt := 88) C dX3_touch_17 (by decide) (fun c => ?_) (fun c => ?_)
    · rw [if_pos c] at hw
      refine PW.iconst (v := 0) C dX3_touch_88 (by decide) ?_
      exact PW.zret C dX3_touch_89 (by decide) ⟨_, rfl, hw⟩
    · rw [if_neg c] at hw
      refine PW.ald0n C dX3_touch_20 ?_
      refine PW.get0 (v := .ref 117) C cf_3 fl_X3_23 (by decide) oX_112 (fvR (o := 5) rfl) dX3_touch_21 ?_
      refine PW.ild3n C dX3_touch_24 ?_
      obtain ⟨hc3, hw⟩ := hw
      refine PW.iald C dX3_touch_25 aX_117 hc3 ?_
      refine PW.ald0n C dX3_touch_26 ?_
      refine PW.get0 (v := .ref 113) C cf_3 fl_X3_16 (by decide) oX_112 (fvR (o := 1) rfl) dX3_touch_27 ?_
      refine PW.ild2n C dX3_touch_30 ?_
      refine PW.iconst (v := 0) C dX3_touch_31 (by decide) ?_
      refine PW.callVI2 C ms_X6_at ml_X3_64 dX3_touch_32 oX_113 ⟨_, _, rfl⟩ (Nat.le_of_ble_eq_true rfl) (by decide) (Nat.le_of_ble_eq_true rfl) (s_X6_at oX_113 hw) ?_
      clear hw
      intro z5 h4 hw
      refine PW.ishr C dX3_touch_35 ?_
      refine PW.iconst (v := 1) C dX3_touch_36 (by decide) ?_
      refine PW.iand C dX3_touch_37 ?_
      refine PW.iconst (v := 1) C dX3_touch_38 (by decide) ?_
      refine PW.icmp_ne (tgt := 88) C dX3_touch_39 (by decide) (fun c => ?_) (fun c => ?_)
      · rw [if_neg c] at hw
        refine PW.iconst (v := 0) C dX3_touch_88 (by decide) ?_
        exact PW.zret C dX3_touch_89 (by decide) ⟨_, rfl, hw⟩
      · rw [if_pos c] at hw
        refine PW.ald0n C dX3_touch_42 ?_
        refine PW.get0 (v := .ref 113) C cf_3 fl_X3_16 (by decide) oX_112 (fvR (o := 1) rfl) dX3_touch_43 ?_
        refine PW.ild1n C dX3_touch_46 ?_
        refine PW.iconst (v := 1) C dX3_touch_47 (by decide) ?_
        refine PW.callVI2 C ms_X6_at ml_X3_64 dX3_touch_48 oX_113 ⟨_, _, rfl⟩ (Nat.le_of_ble_eq_true rfl) (by decide) (Nat.le_of_ble_eq_true rfl) (s_X6_at oX_113 hw) ?_
        clear hw
        intro z7 h6 hw
        refine PW.ald0n C dX3_touch_51 ?_
        refine PW.get0 (v := .ref 113) C cf_3 fl_X3_16 (by decide) oX_112 (fvR (o := 1) rfl) dX3_touch_52 ?_
        refine PW.ild2n C dX3_touch_55 ?_
        refine PW.iconst (v := 2) C dX3_touch_56 (by decide) ?_
        refine PW.callVI2 C ms_X6_at ml_X3_64 dX3_touch_57 oX_113 ⟨_, _, rfl⟩ (Nat.le_of_ble_eq_true rfl) (by decide) (Nat.le_of_ble_eq_true rfl) (s_X6_at oX_113 hw) ?_
        clear hw
        intro z9 h8 hw
        refine PW.icmp_gt (tgt := 88) C dX3_touch_60 (by decide) (fun c => ?_) (fun c => ?_)
        · rw [if_pos c] at hw
          refine PW.iconst (v := 0) C dX3_touch_88 (by decide) ?_
          exact PW.zret C dX3_touch_89 (by decide) ⟨_, rfl, hw⟩
        · rw [if_neg c] at hw
          refine PW.ald0n C dX3_touch_63 ?_
          refine PW.get0 (v := .ref 113) C cf_3 fl_X3_16 (by decide) oX_112 (fvR (o := 1) rfl) dX3_touch_64 ?_
          refine PW.ild2n C dX3_touch_67 ?_
          refine PW.iconst (v := 1) C dX3_touch_68 (by decide) ?_
          refine PW.callVI2 C ms_X6_at ml_X3_64 dX3_touch_69 oX_113 ⟨_, _, rfl⟩ (Nat.le_of_ble_eq_true rfl) (by decide) (Nat.le_of_ble_eq_true rfl) (s_X6_at oX_113 hw) ?_
          clear hw
          intro z11 h10 hw
          refine PW.ald0n C dX3_touch_72 ?_
          refine PW.get0 (v := .ref 113) C cf_3 fl_X3_16 (by decide) oX_112 (fvR (o := 1) rfl) dX3_touch_73 ?_
          refine PW.ild1n C dX3_touch_76 ?_
          refine PW.iconst (v := 2) C dX3_touch_77 (by decide) ?_
          refine PW.callVI2 C ms_X6_at ml_X3_64 dX3_touch_78 oX_113 ⟨_, _, rfl⟩ (Nat.le_of_ble_eq_true rfl) (by decide) (Nat.le_of_ble_eq_true rfl) (s_X6_at oX_113 hw) ?_
          clear hw
          intro z13 h12 hw
          refine PW.icmp_gt (tgt := 88) C dX3_touch_81 (by decide) (fun c => ?_) (fun c => ?_)
          · rw [if_pos c] at hw
            refine PW.iconst (v := 0) C dX3_touch_88 (by decide) ?_
            exact PW.zret C dX3_touch_89 (by decide) ⟨_, rfl, hw⟩
          · rw [if_neg c] at hw
            refine PW.iconst (v := 1) C dX3_touch_84 (by decide) ?_
            refine PW.goto (tgt := 89) C dX3_touch_85 (by decide) ?_
            exact PW.zret C dX3_touch_89 (by decide) ⟨_, rfl, hw⟩
def w_X3_spread_44 (k121 : Int32 → PH → Prop) (Q : PH → Prop) (x1 : Int32) (x2 : Int32) (x4 : Int32) (kb : Int32 → Int32 → PH → Prop) (x3 : Int32) (x5 : Int32) (h : PH) : Prop :=
  if (gI h 113 3) ≤ x5 then (k121 x3 h) else (if 144 ≤ x3 then (k121 x3 h) else (w_X6_at 113 x5 3 h (fun z5 h4 => if z5 = (-1) then (vp_in x4 144 ∧ w_X3_touch (gI h4 118 (iN x4)) x5 h4 (fun z8 h7 => if z8 = 0 then (kb x3 (x5 + 1) h7) else (w_X6_put 113 x5 3 x2 h7 (fun h9 => vp_in x3 144 ∧ ∀ h11, h11 = sI h9 118 (iN x3) x5 → kb (x3 + 1) (x5 + 1) h11)))) else (kb x3 (x5 + 1) h4))))
set_option maxRecDepth 8000 in
theorem b_X3_spread_44 {D : va_G} {ca : Nat → ClassId} {ad : Nat → Nat} {K : Kt} {k121 : Int32 → PH → Prop} {kb : Int32 → Int32 → PH → Prop} {Q : PH → Prop} {x1 : Int32} {x2 : Int32} {x4 : Int32} {x3 : Int32} {x5 : Int32} {h : PH} (C : CX (GX D ca ad) (XS (GX D ca ad)) cX3_spread RX3 6 none 4 K) (hk121 : ∀ (x3 : Int32) (h : PH), k121 x3 h → PW (GX D ca ad) K 6 (qV Q) h 121 [some (.ref 112), some (.int x1), some (.int x2), some (.int x3), some (.int x4), none] []) (hkb : ∀ (x3 : Int32) (x5 : Int32) (h : PH), kb x3 x5 h → PW (GX D ca ad) K 6 (qV Q) h 44 [some (.ref 112), some (.int x1), some (.int x2), some (.int x3), some (.int x4), some (.int x5)] []) (hw : w_X3_spread_44 k121 Q x1 x2 x4 kb x3 x5 h) : PW (GX D ca ad) K 6 (qV Q) h 44 [some (.ref 112), some (.int x1), some (.int x2), some (.int x3), some (.int x4), some (.int x5)] [] := by
  unfold w_X3_spread_44 at hw
  refine PW.ild5 C dX3_spread_44 ?_
  refine PW.ald0n C dX3_spread_46 ?_
  refine PW.get0 (v := .ref 113) C cf_3 fl_X3_16 (by decide) oX_112 (fvR (o := 1) rfl) dX3_spread_47 ?_
  refine PW.getN0 C cf_6 fl_X3_47 (by decide) oX_113 (fvI rfl) dX3_spread_50 ?_
  refine PW.icmp_ge (tgt := 121) C dX3_spread_53 (by decide) (fun c => ?_) (fun c => ?_)
  · rw [if_pos c] at hw
    exact PW.wk (wk_s (wk_s (wk_s (wk_s (wk_s (wk_n wk_0)))))) (hk121 _ _ hw)
  · rw [if_neg c] at hw
    refine PW.ild3n C dX3_spread_56 ?_
    refine PW.sipush (v := 144) C dX3_spread_57 (by decide) ?_
    refine PW.icmp_ge (tgt := 121) C dX3_spread_60 (by decide) (fun c => ?_) (fun c => ?_)
    · rw [if_pos c] at hw
      exact PW.wk (wk_s (wk_s (wk_s (wk_s (wk_s (wk_n wk_0)))))) (hk121 _ _ hw)
    · rw [if_neg c] at hw
      refine PW.ald0n C dX3_spread_63 ?_
      refine PW.get0 (v := .ref 113) C cf_3 fl_X3_16 (by decide) oX_112 (fvR (o := 1) rfl) dX3_spread_64 ?_
      refine PW.ild5 C dX3_spread_67 ?_
      refine PW.iconst (v := 3) C dX3_spread_69 (by decide) ?_
      refine PW.callVI2 C ms_X6_at ml_X3_64 dX3_spread_70 oX_113 ⟨_, _, rfl⟩ (Nat.le_of_ble_eq_true rfl) (by decide) (Nat.le_of_ble_eq_true rfl) (s_X6_at oX_113 hw) ?_
      clear hw
      intro z5 h4 hw
      refine PW.iconst (v := (-1)) C dX3_spread_73 (by decide) ?_
      refine PW.icmp_ne (tgt := 115) C dX3_spread_74 (by decide) (fun c => ?_) (fun c => ?_)
      · rw [if_neg c] at hw
        refine PW.inc5 (v := 1) C dX3_spread_115 (by decide) rfl (by decide) ?_
        refine PW.goto (tgt := 44) C dX3_spread_118 (by decide) ?_
        exact PW.wk (wk_s (wk_s (wk_s (wk_s (wk_s (wk_s wk_0)))))) (hkb _ _ _ hw)
      · rw [if_pos c] at hw
        refine PW.ald0n C dX3_spread_77 ?_
        refine PW.ald0n C dX3_spread_78 ?_
        refine PW.get0 (v := .ref 118) C cf_3 fl_X3_27 (by decide) oX_112 (fvR (o := 6) rfl) dX3_spread_79 ?_
        refine PW.ild4 C dX3_spread_82 ?_
        obtain ⟨hc6, hw⟩ := hw
        refine PW.iald C dX3_spread_84 aX_118 hc6 ?_
        refine PW.ild5 C dX3_spread_85 ?_
        refine PW.callVI2 C ms_X3_touch ml_X3_79 dX3_spread_87 oX_112 ⟨_, _, rfl⟩ (Nat.le_of_ble_eq_true rfl) (by decide) (Nat.le_of_ble_eq_true rfl) (s_X3_touch hw) ?_
        clear hw
        intro z8 h7 hw
        refine PW.if_eq (tgt := 115) C dX3_spread_90 (by decide) (fun c => ?_) (fun c => ?_)
        · rw [if_pos c] at hw
          refine PW.inc5 (v := 1) C dX3_spread_115 (by decide) rfl (by decide) ?_
          refine PW.goto (tgt := 44) C dX3_spread_118 (by decide) ?_
          exact PW.wk (wk_s (wk_s (wk_s (wk_s (wk_s (wk_s wk_0)))))) (hkb _ _ _ hw)
        · rw [if_neg c] at hw
          refine PW.ald0n C dX3_spread_93 ?_
          refine PW.get0 (v := .ref 113) C cf_3 fl_X3_16 (by decide) oX_112 (fvR (o := 1) rfl) dX3_spread_94 ?_
          refine PW.ild5 C dX3_spread_97 ?_
          refine PW.iconst (v := 3) C dX3_spread_99 (by decide) ?_
          refine PW.ild2n C dX3_spread_100 ?_
          refine PW.callVV3 C ms_X6_put ml_X3_75 dX3_spread_101 oX_113 ⟨_, _, rfl⟩ (Nat.le_of_ble_eq_true rfl) (by decide) (Nat.le_of_ble_eq_true rfl) (s_X6_put oX_113 hw) ?_
          clear hw
          intro h9 hw
          refine PW.ald0n C dX3_spread_104 ?_
          refine PW.get0 (v := .ref 118) C cf_3 fl_X3_27 (by decide) oX_112 (fvR (o := 6) rfl) dX3_spread_105 ?_
          refine PW.ild3n C dX3_spread_108 ?_
          refine PW.inc3 (v := 1) C dX3_spread_109 (by decide) rfl (by decide) ?_
          refine PW.ild5 C dX3_spread_112 ?_
          obtain ⟨hc10, hw⟩ := hw
          replace hw := hw _ rfl
          refine PW.iast C dX3_spread_114 aX_118 hc10 ?_
          refine PW.inc5 (v := 1) C dX3_spread_115 (by decide) rfl (by decide) ?_
          refine PW.goto (tgt := 44) C dX3_spread_118 (by decide) ?_
          exact PW.wk (wk_s (wk_s (wk_s (wk_s (wk_s (wk_s wk_0)))))) (hkb _ _ _ hw)
theorem l_X3_spread_44 {D : va_G} {ca : Nat → ClassId} {ad : Nat → Nat} {K : Kt} {k121 : Int32 → PH → Prop} {Q : PH → Prop} {x1 : Int32} {x2 : Int32} {x4 : Int32} (C : CX (GX D ca ad) (XS (GX D ca ad)) cX3_spread RX3 6 none 4 K) (hk121 : ∀ (x3 : Int32) (h : PH), k121 x3 h → PW (GX D ca ad) K 6 (qV Q) h 121 [some (.ref 112), some (.int x1), some (.int x2), some (.int x3), some (.int x4), none] []) : ∀ (n : Nat) (x3 : Int32) (x5 : Int32) (h : PH), Lp2 (w_X3_spread_44 k121 Q x1 x2 x4) n x3 x5 h → PW (GX D ca ad) K 6 (qV Q) h 44 [some (.ref 112), some (.int x1), some (.int x2), some (.int x3), some (.int x4), some (.int x5)] [] := by
  intro n
  induction n with
  | zero => intro x3 x5 h hw; exact hw.elim
  | succ n ih => intro x3 x5 h hw; exact b_X3_spread_44 C hk121 (fun x3 x5 h hw => ih x3 x5 h hw) hw
def w_X3_spread_25 (k127 : PH → Prop) (Q : PH → Prop) (x1 : Int32) (x2 : Int32) (kb : Int32 → Int32 → PH → Prop) (x3 : Int32) (x4 : Int32) (h : PH) : Prop :=
  if x3 ≤ x4 then (k127 h) else (if 144 ≤ x4 then (k127 h) else (∀ (y3 : Int32), y3 = (x1 + 1) → ∃ n, Lp2 (w_X3_spread_44 (fun y13 h12 => kb y13 (x4 + 1) h12) Q x1 x2 x4) n x3 y3 h))
set_option maxRecDepth 8000 in
theorem b_X3_spread_25 {D : va_G} {ca : Nat → ClassId} {ad : Nat → Nat} {K : Kt} {k127 : PH → Prop} {kb : Int32 → Int32 → PH → Prop} {Q : PH → Prop} {x1 : Int32} {x2 : Int32} {x3 : Int32} {x4 : Int32} {h : PH} (C : CX (GX D ca ad) (XS (GX D ca ad)) cX3_spread RX3 6 none 4 K) (hk127 : ∀ (h : PH), k127 h → PW (GX D ca ad) K 6 (qV Q) h 127 [none, none, none, none, none, none] []) (hkb : ∀ (x3 : Int32) (x4 : Int32) (h : PH), kb x3 x4 h → PW (GX D ca ad) K 6 (qV Q) h 25 [some (.ref 112), some (.int x1), some (.int x2), some (.int x3), some (.int x4), none] []) (hw : w_X3_spread_25 k127 Q x1 x2 kb x3 x4 h) : PW (GX D ca ad) K 6 (qV Q) h 25 [some (.ref 112), some (.int x1), some (.int x2), some (.int x3), some (.int x4), none] [] := by
  unfold w_X3_spread_25 at hw
  refine PW.ild4 C dX3_spread_25 ?_
  refine PW.ild3n C dX3_spread_27 ?_
  refine PW.icmp_ge (tgt := 127) C dX3_spread_28 (by decide) (fun c => ?_) (fun c => ?_)
  · rw [if_pos c] at hw
    exact PW.wk (wk_n (wk_n (wk_n (wk_n (wk_n (wk_n wk_0)))))) (hk127 _ hw)
  · rw [if_neg c] at hw
    refine PW.ild4 C dX3_spread_31 ?_
    refine PW.sipush (v := 144) C dX3_spread_33 (by decide) ?_
    refine PW.icmp_ge (tgt := 127) C dX3_spread_36 (by decide) (fun c => ?_) (fun c => ?_)
    · rw [if_pos c] at hw
      exact PW.wk (wk_n (wk_n (wk_n (wk_n (wk_n (wk_n wk_0)))))) (hk127 _ hw)
    · rw [if_neg c] at hw
      refine PW.ild1n C dX3_spread_39 ?_
      refine PW.iconst (v := 1) C dX3_spread_40 (by decide) ?_
      refine PW.iadd C dX3_spread_41 ?_
      replace hw := hw _ rfl
      refine PW.ist5 C dX3_spread_42 (by decide) rfl ?_
      obtain ⟨n, hw⟩ := hw
      refine PW.wk (wk_s (wk_s (wk_s (wk_s (wk_s (wk_s wk_0)))))) (l_X3_spread_44 C ?_ n _ _ _ hw)
      · intro y13 h12 hw
        refine PW.inc4 (v := 1) C dX3_spread_121 (by decide) rfl (by decide) ?_
        refine PW.goto (tgt := 25) C dX3_spread_124 (by decide) ?_
        exact PW.wk (wk_s (wk_s (wk_s (wk_s (wk_s (wk_n wk_0)))))) (hkb _ _ _ hw)
theorem l_X3_spread_25 {D : va_G} {ca : Nat → ClassId} {ad : Nat → Nat} {K : Kt} {k127 : PH → Prop} {Q : PH → Prop} {x1 : Int32} {x2 : Int32} (C : CX (GX D ca ad) (XS (GX D ca ad)) cX3_spread RX3 6 none 4 K) (hk127 : ∀ (h : PH), k127 h → PW (GX D ca ad) K 6 (qV Q) h 127 [none, none, none, none, none, none] []) : ∀ (n : Nat) (x3 : Int32) (x4 : Int32) (h : PH), Lp2 (w_X3_spread_25 k127 Q x1 x2) n x3 x4 h → PW (GX D ca ad) K 6 (qV Q) h 25 [some (.ref 112), some (.int x1), some (.int x2), some (.int x3), some (.int x4), none] [] := by
  intro n
  induction n with
  | zero => intro x3 x4 h hw; exact hw.elim
  | succ n ih => intro x3 x4 h hw; exact b_X3_spread_25 C hk127 (fun x3 x4 h hw => ih x3 x4 h hw) hw
def w_X3_spread (x1 : Int32) (x2 : Int32) (h : PH) (Q : PH → Prop) : Prop :=
  ∀ h1, h1 = sI h 118 (iN 0) x1 → w_X6_put 113 x1 3 x2 h1 (fun h2 => ∃ n, Lp2 (w_X3_spread_25 (fun h14 => Q h14) Q x1 x2) n (0 + 1) 0 h2)
set_option maxRecDepth 8000 in
theorem s_X3_spread {D : va_G} {ca : Nat → ClassId} {ad : Nat → Nat} {l : Launch} {x1 : Int32} {x2 : Int32} {h : PH} {Q : PH → Prop} (hw : w_X3_spread x1 x2 h Q) : Sp (GX D ca ad) (XS (GX D ca ad)) l 4 yX3_spread cX3_spread 6 none [.ref 112, .int x1, .int x2] h (qV Q) := by
  refine Sp.of (own := RX3) [some (.ref 112), some (.int x1), some (.int x2), none, none, none] (by decide +kernel) rfl rfl (Nat.le_of_ble_eq_true rfl) (fun K hl C => ?_)
  subst hl
  unfold w_X3_spread at hw
  refine PW.iconst (v := 0) C dX3_spread_0 (by decide) ?_
  refine PW.ist3n C dX3_spread_1 (by decide) rfl ?_
  refine PW.ald0n C dX3_spread_2 ?_
  refine PW.get0 (v := .ref 118) C cf_3 fl_X3_27 (by decide) oX_112 (fvR (o := 6) rfl) dX3_spread_3 ?_
  refine PW.ild3n C dX3_spread_6 ?_
  refine PW.inc3 (v := 1) C dX3_spread_7 (by decide) rfl (by decide) ?_
  refine PW.ild1n C dX3_spread_10 ?_
  replace hw := hw _ rfl
  refine PW.iast C dX3_spread_11 aX_118 (vpl (by decide)) ?_
  refine PW.ald0n C dX3_spread_12 ?_
  refine PW.get0 (v := .ref 113) C cf_3 fl_X3_16 (by decide) oX_112 (fvR (o := 1) rfl) dX3_spread_13 ?_
  refine PW.ild1n C dX3_spread_16 ?_
  refine PW.iconst (v := 3) C dX3_spread_17 (by decide) ?_
  refine PW.ild2n C dX3_spread_18 ?_
  refine PW.callVV3 C ms_X6_put ml_X3_75 dX3_spread_19 oX_113 ⟨_, _, rfl⟩ (Nat.le_of_ble_eq_true rfl) (by decide) (Nat.le_of_ble_eq_true rfl) (s_X6_put oX_113 hw) ?_
  clear hw
  intro h2 hw
  refine PW.iconst (v := 0) C dX3_spread_22 (by decide) ?_
  refine PW.ist4 C dX3_spread_23 (by decide) rfl ?_
  obtain ⟨n, hw⟩ := hw
  refine PW.wk (wk_s (wk_s (wk_s (wk_s (wk_s (wk_n wk_0)))))) (l_X3_spread_25 C ?_ n _ _ _ hw)
  · intro h14 hw
    exact PW.vret C dX3_spread_127 ⟨rfl, hw⟩
def w_X3_joinSpans_2 (r1 : Nat) (k21 : PH → Prop) (Q : PH → Prop) (kb : Int32 → PH → Prop) (x2 : Int32) (h : PH) : Prop :=
  if 6 ≤ x2 then (k21 h) else (vp_in x2 6 ∧ ∀ h2, h2 = sI h 117 (iN x2) 0 → kb (x2 + 1) h2)
set_option maxRecDepth 8000 in
theorem b_X3_joinSpans_2 {D : va_G} {ca : Nat → ClassId} {ad : Nat → Nat} {K : Kt} {r1 : Nat} {k21 : PH → Prop} {kb : Int32 → PH → Prop} {Q : PH → Prop} {x2 : Int32} {h : PH} (C : CX (GX D ca ad) (XS (GX D ca ad)) cX3_joinSpans RX3 5 none 5 K) (hr1 : oX r1 8) (hk21 : ∀ (h : PH), k21 h → PW (GX D ca ad) K 5 (qV Q) h 21 [some (.ref 112), some (.ref r1), none, none, none] []) (hkb : ∀ (x2 : Int32) (h : PH), kb x2 h → PW (GX D ca ad) K 5 (qV Q) h 2 [some (.ref 112), some (.ref r1), some (.int x2), none, none] []) (hw : w_X3_joinSpans_2 r1 k21 Q kb x2 h) : PW (GX D ca ad) K 5 (qV Q) h 2 [some (.ref 112), some (.ref r1), some (.int x2), none, none] [] := by
  unfold w_X3_joinSpans_2 at hw
  refine PW.ild2n C dX3_joinSpans_2 ?_
  refine PW.bipush (v := 6) C dX3_joinSpans_3 (by decide) ?_
  refine PW.icmp_ge (tgt := 21) C dX3_joinSpans_5 (by decide) (fun c => ?_) (fun c => ?_)
  · rw [if_pos c] at hw
    exact PW.wk (wk_s (wk_s (wk_n (wk_n (wk_n wk_0))))) (hk21 _ hw)
  · rw [if_neg c] at hw
    refine PW.ald0n C dX3_joinSpans_8 ?_
    refine PW.get0 (v := .ref 117) C cf_3 fl_X3_23 (by decide) oX_112 (fvR (o := 5) rfl) dX3_joinSpans_9 ?_
    refine PW.ild2n C dX3_joinSpans_12 ?_
    refine PW.iconst (v := 0) C dX3_joinSpans_13 (by decide) ?_
    obtain ⟨hc1, hw⟩ := hw
    replace hw := hw _ rfl
    refine PW.iast C dX3_joinSpans_14 aX_117 hc1 ?_
    refine PW.inc2 (v := 1) C dX3_joinSpans_15 (by decide) rfl (by decide) ?_
    refine PW.goto (tgt := 2) C dX3_joinSpans_18 (by decide) ?_
    exact PW.wk (wk_s (wk_s (wk_s (wk_n (wk_n wk_0))))) (hkb _ _ hw)
theorem l_X3_joinSpans_2 {D : va_G} {ca : Nat → ClassId} {ad : Nat → Nat} {K : Kt} {r1 : Nat} {k21 : PH → Prop} {Q : PH → Prop} (C : CX (GX D ca ad) (XS (GX D ca ad)) cX3_joinSpans RX3 5 none 5 K) (hr1 : oX r1 8) (hk21 : ∀ (h : PH), k21 h → PW (GX D ca ad) K 5 (qV Q) h 21 [some (.ref 112), some (.ref r1), none, none, none] []) : ∀ (n : Nat) (x2 : Int32) (h : PH), Lp1 (w_X3_joinSpans_2 r1 k21 Q) n x2 h → PW (GX D ca ad) K 5 (qV Q) h 2 [some (.ref 112), some (.ref r1), some (.int x2), none, none] [] := by
  intro n
  induction n with
  | zero => intro x2 h hw; exact hw.elim
  | succ n ih => intro x2 h hw; exact b_X3_joinSpans_2 C hr1 hk21 (fun x2 h hw => ih x2 h hw) hw
def w_X3_joinSpans_23 (r1 : Nat) (k122 : PH → Prop) (Q : PH → Prop) (kb : Int32 → PH → Prop) (x2 : Int32) (h : PH) : Prop :=
  if (gI h (r1 + 3) 3) ≤ x2 then (k122 h) else (w_X6_at (r1 + 3) x2 0 h (fun z5 h4 => w_X6_at (r1 + 3) x2 1 h4 (fun z7 h6 => w_X6_at (r1 + 3) x2 3 h6 (fun z9 h8 => if z9 = 0 then (w_X6_has (r1 + 1) z5 h8 (fun z11 h10 => if z11 = 0 then (kb (x2 + 1) h10) else (w_X6_has (r1 + 1) z7 h10 (fun z13 h12 => if z13 = 0 then (kb (x2 + 1) h12) else (vp_in z5 6 ∧ vp_in z5 6 ∧ ∀ h16, h16 = sI h12 117 (iN z5) ((gI h12 117 (iN z5)) ||| ((1 : Int32) <<< ((z7 : Int32) &&& 31))) → vp_in z7 6 ∧ vp_in z7 6 ∧ ∀ h19, h19 = sI h16 117 (iN z7) ((gI h16 117 (iN z7)) ||| ((1 : Int32) <<< ((z5 : Int32) &&& 31))) → kb (x2 + 1) h19))))) else (kb (x2 + 1) h8)))))
set_option maxRecDepth 8000 in
theorem b_X3_joinSpans_23 {D : va_G} {ca : Nat → ClassId} {ad : Nat → Nat} {K : Kt} {r1 : Nat} {k122 : PH → Prop} {kb : Int32 → PH → Prop} {Q : PH → Prop} {x2 : Int32} {h : PH} (C : CX (GX D ca ad) (XS (GX D ca ad)) cX3_joinSpans RX3 5 none 5 K) (hr1 : oX r1 8) (hk122 : ∀ (h : PH), k122 h → PW (GX D ca ad) K 5 (qV Q) h 122 [some (.ref 112), none, none, none, none] []) (hkb : ∀ (x2 : Int32) (h : PH), kb x2 h → PW (GX D ca ad) K 5 (qV Q) h 23 [some (.ref 112), some (.ref r1), some (.int x2), none, none] []) (hw : w_X3_joinSpans_23 r1 k122 Q kb x2 h) : PW (GX D ca ad) K 5 (qV Q) h 23 [some (.ref 112), some (.ref r1), some (.int x2), none, none] [] := by
  unfold w_X3_joinSpans_23 at hw
  refine PW.ild2n C dX3_joinSpans_23 ?_
  refine PW.ald1n C dX3_joinSpans_24 ?_
  refine PW.getN0 C cf_8 fl_X3_61 (by decide) hr1 (fvR (o := 3) rfl) dX3_joinSpans_25 ?_
  refine PW.getN0 C cf_6 fl_X3_47 (by decide) (sf_8_1 hr1) (fvI rfl) dX3_joinSpans_28 ?_
  refine PW.icmp_ge (tgt := 122) C dX3_joinSpans_31 (by decide) (fun c => ?_) (fun c => ?_)
  · rw [if_pos c] at hw
    exact PW.wk (wk_s (wk_n (wk_n (wk_n (wk_n wk_0))))) (hk122 _ hw)
  · rw [if_neg c] at hw
    refine PW.ald1n C dX3_joinSpans_34 ?_
    refine PW.getN0 C cf_8 fl_X3_61 (by decide) hr1 (fvR (o := 3) rfl) dX3_joinSpans_35 ?_
    refine PW.ild2n C dX3_joinSpans_38 ?_
    refine PW.iconst (v := 0) C dX3_joinSpans_39 (by decide) ?_
    refine PW.callVI2 C ms_X6_at ml_X3_64 dX3_joinSpans_40 (sf_8_1 hr1) ⟨_, _, rfl⟩ (Nat.le_of_ble_eq_true rfl) (by decide) (Nat.le_of_ble_eq_true rfl) (s_X6_at (sf_8_1 hr1) hw) ?_
    clear hw
    intro z5 h4 hw
    refine PW.ist3n C dX3_joinSpans_43 (by decide) rfl ?_
    refine PW.ald1n C dX3_joinSpans_44 ?_
    refine PW.getN0 C cf_8 fl_X3_61 (by decide) hr1 (fvR (o := 3) rfl) dX3_joinSpans_45 ?_
    refine PW.ild2n C dX3_joinSpans_48 ?_
    refine PW.iconst (v := 1) C dX3_joinSpans_49 (by decide) ?_
    refine PW.callVI2 C ms_X6_at ml_X3_64 dX3_joinSpans_50 (sf_8_1 hr1) ⟨_, _, rfl⟩ (Nat.le_of_ble_eq_true rfl) (by decide) (Nat.le_of_ble_eq_true rfl) (s_X6_at (sf_8_1 hr1) hw) ?_
    clear hw
    intro z7 h6 hw
    refine PW.ist4 C dX3_joinSpans_53 (by decide) rfl ?_
    refine PW.ald1n C dX3_joinSpans_55 ?_
    refine PW.getN0 C cf_8 fl_X3_61 (by decide) hr1 (fvR (o := 3) rfl) dX3_joinSpans_56 ?_
    refine PW.ild2n C dX3_joinSpans_59 ?_
    refine PW.iconst (v := 3) C dX3_joinSpans_60 (by decide) ?_
    refine PW.callVI2 C ms_X6_at ml_X3_64 dX3_joinSpans_61 (sf_8_1 hr1) ⟨_, _, rfl⟩ (Nat.le_of_ble_eq_true rfl) (by decide) (Nat.le_of_ble_eq_true rfl) (s_X6_at (sf_8_1 hr1) hw) ?_
    clear hw
    intro z9 h8 hw
    refine PW.if_ne (tgt := 116) C dX3_joinSpans_64 (by decide) (fun c => ?_) (fun c => ?_)
    · rw [if_neg c] at hw
      refine PW.inc2 (v := 1) C dX3_joinSpans_116 (by decide) rfl (by decide) ?_
      refine PW.goto (tgt := 23) C dX3_joinSpans_119 (by decide) ?_
      exact PW.wk (wk_s (wk_s (wk_s (wk_n (wk_n wk_0))))) (hkb _ _ hw)
    · rw [if_pos c] at hw
      refine PW.ald1n C dX3_joinSpans_67 ?_
      refine PW.getN0 C cf_8 fl_X3_42 (by decide) hr1 (fvR (o := 1) rfl) dX3_joinSpans_68 ?_
      refine PW.ild3n C dX3_joinSpans_71 ?_
      refine PW.callVI1 C ms_X6_has ml_X3_68 dX3_joinSpans_72 (sf_8_0 hr1) ⟨_, _, rfl⟩ (Nat.le_of_ble_eq_true rfl) (by decide) (Nat.le_of_ble_eq_true rfl) (s_X6_has (sf_8_0 hr1) hw) ?_
      clear hw
      intro z11 h10 hw
      refine PW.if_eq (tgt := 116) C dX3_joinSpans_75 (by decide) (fun c => ?_) (fun c => ?_)
      · rw [if_pos c] at hw
        refine PW.inc2 (v := 1) C dX3_joinSpans_116 (by decide) rfl (by decide) ?_
        refine PW.goto (tgt := 23) C dX3_joinSpans_119 (by decide) ?_
        exact PW.wk (wk_s (wk_s (wk_s (wk_n (wk_n wk_0))))) (hkb _ _ hw)
      · rw [if_neg c] at hw
        refine PW.ald1n C dX3_joinSpans_78 ?_
        refine PW.getN0 C cf_8 fl_X3_42 (by decide) hr1 (fvR (o := 1) rfl) dX3_joinSpans_79 ?_
        refine PW.ild4 C dX3_joinSpans_82 ?_
        refine PW.callVI1 C ms_X6_has ml_X3_68 dX3_joinSpans_84 (sf_8_0 hr1) ⟨_, _, rfl⟩ (Nat.le_of_ble_eq_true rfl) (by decide) (Nat.le_of_ble_eq_true rfl) (s_X6_has (sf_8_0 hr1) hw) ?_
        clear hw
        intro z13 h12 hw
        refine PW.if_eq (tgt := 116) C dX3_joinSpans_87 (by decide) (fun c => ?_) (fun c => ?_)
        · rw [if_pos c] at hw
          refine PW.inc2 (v := 1) C dX3_joinSpans_116 (by decide) rfl (by decide) ?_
          refine PW.goto (tgt := 23) C dX3_joinSpans_119 (by decide) ?_
          exact PW.wk (wk_s (wk_s (wk_s (wk_n (wk_n wk_0))))) (hkb _ _ hw)
        · rw [if_neg c] at hw
          refine PW.ald0n C dX3_joinSpans_90 ?_
          refine PW.get0 (v := .ref 117) C cf_3 fl_X3_23 (by decide) oX_112 (fvR (o := 5) rfl) dX3_joinSpans_91 ?_
          refine PW.ild3n C dX3_joinSpans_94 ?_
          refine PW.dup2 C dX3_joinSpans_95 rfl rfl ?_
          obtain ⟨hc14, hw⟩ := hw
          refine PW.iald C dX3_joinSpans_96 aX_117 hc14 ?_
          refine PW.iconst (v := 1) C dX3_joinSpans_97 (by decide) ?_
          refine PW.ild4 C dX3_joinSpans_98 ?_
          refine PW.ishl C dX3_joinSpans_100 ?_
          refine PW.ior C dX3_joinSpans_101 ?_
          obtain ⟨hc15, hw⟩ := hw
          replace hw := hw _ rfl
          refine PW.iast C dX3_joinSpans_102 aX_117 hc15 ?_
          refine PW.ald0n C dX3_joinSpans_103 ?_
          refine PW.get0 (v := .ref 117) C cf_3 fl_X3_23 (by decide) oX_112 (fvR (o := 5) rfl) dX3_joinSpans_104 ?_
          refine PW.ild4 C dX3_joinSpans_107 ?_
          refine PW.dup2 C dX3_joinSpans_109 rfl rfl ?_
          obtain ⟨hc17, hw⟩ := hw
          refine PW.iald C dX3_joinSpans_110 aX_117 hc17 ?_
          refine PW.iconst (v := 1) C dX3_joinSpans_111 (by decide) ?_
          refine PW.ild3n C dX3_joinSpans_112 ?_
          refine PW.ishl C dX3_joinSpans_113 ?_
          refine PW.ior C dX3_joinSpans_114 ?_
          obtain ⟨hc18, hw⟩ := hw
          replace hw := hw _ rfl
          refine PW.iast C dX3_joinSpans_115 aX_117 hc18 ?_
          refine PW.inc2 (v := 1) C dX3_joinSpans_116 (by decide) rfl (by decide) ?_
          refine PW.goto (tgt := 23) C dX3_joinSpans_119 (by decide) ?_
          exact PW.wk (wk_s (wk_s (wk_s (wk_n (wk_n wk_0))))) (hkb _ _ hw)
theorem l_X3_joinSpans_23 {D : va_G} {ca : Nat → ClassId} {ad : Nat → Nat} {K : Kt} {r1 : Nat} {k122 : PH → Prop} {Q : PH → Prop} (C : CX (GX D ca ad) (XS (GX D ca ad)) cX3_joinSpans RX3 5 none 5 K) (hr1 : oX r1 8) (hk122 : ∀ (h : PH), k122 h → PW (GX D ca ad) K 5 (qV Q) h 122 [some (.ref 112), none, none, none, none] []) : ∀ (n : Nat) (x2 : Int32) (h : PH), Lp1 (w_X3_joinSpans_23 r1 k122 Q) n x2 h → PW (GX D ca ad) K 5 (qV Q) h 23 [some (.ref 112), some (.ref r1), some (.int x2), none, none] [] := by
  intro n
  induction n with
  | zero => intro x2 h hw; exact hw.elim
  | succ n ih => intro x2 h hw; exact b_X3_joinSpans_23 C hr1 hk122 (fun x2 h hw => ih x2 h hw) hw
def w_X3_joinSpans_131 (r1 : Nat) (k178 : PH → Prop) (Q : PH → Prop) (kb : Int32 → PH → Prop) (x2 : Int32) (h : PH) : Prop :=
  if (gI h 113 3) ≤ x2 then (k178 h) else (w_X6_at 113 x2 3 h (fun z23 h22 => if z23 = (-1) then (w_X6_add 115 0 0 0 0 0 h22 (fun z25 h24 => w_X3_spread x2 z25 h24 (fun h26 => kb (x2 + 1) h26))) else (kb (x2 + 1) h22)))
set_option maxRecDepth 8000 in
theorem b_X3_joinSpans_131 {D : va_G} {ca : Nat → ClassId} {ad : Nat → Nat} {K : Kt} {r1 : Nat} {k178 : PH → Prop} {kb : Int32 → PH → Prop} {Q : PH → Prop} {x2 : Int32} {h : PH} (C : CX (GX D ca ad) (XS (GX D ca ad)) cX3_joinSpans RX3 5 none 5 K) (hr1 : oX r1 8) (hk178 : ∀ (h : PH), k178 h → PW (GX D ca ad) K 5 (qV Q) h 178 [none, none, none, none, none] []) (hkb : ∀ (x2 : Int32) (h : PH), kb x2 h → PW (GX D ca ad) K 5 (qV Q) h 131 [some (.ref 112), none, some (.int x2), none, none] []) (hw : w_X3_joinSpans_131 r1 k178 Q kb x2 h) : PW (GX D ca ad) K 5 (qV Q) h 131 [some (.ref 112), none, some (.int x2), none, none] [] := by
  unfold w_X3_joinSpans_131 at hw
  refine PW.ild2n C dX3_joinSpans_131 ?_
  refine PW.ald0n C dX3_joinSpans_132 ?_
  refine PW.get0 (v := .ref 113) C cf_3 fl_X3_16 (by decide) oX_112 (fvR (o := 1) rfl) dX3_joinSpans_133 ?_
  refine PW.getN0 C cf_6 fl_X3_47 (by decide) oX_113 (fvI rfl) dX3_joinSpans_136 ?_
  refine PW.icmp_ge (tgt := 178) C dX3_joinSpans_139 (by decide) (fun c => ?_) (fun c => ?_)
  · rw [if_pos c] at hw
    exact PW.wk (wk_n (wk_n (wk_n (wk_n (wk_n wk_0))))) (hk178 _ hw)
  · rw [if_neg c] at hw
    refine PW.ald0n C dX3_joinSpans_142 ?_
    refine PW.get0 (v := .ref 113) C cf_3 fl_X3_16 (by decide) oX_112 (fvR (o := 1) rfl) dX3_joinSpans_143 ?_
    refine PW.ild2n C dX3_joinSpans_146 ?_
    refine PW.iconst (v := 3) C dX3_joinSpans_147 (by decide) ?_
    refine PW.callVI2 C ms_X6_at ml_X3_64 dX3_joinSpans_148 oX_113 ⟨_, _, rfl⟩ (Nat.le_of_ble_eq_true rfl) (by decide) (Nat.le_of_ble_eq_true rfl) (s_X6_at oX_113 hw) ?_
    clear hw
    intro z23 h22 hw
    refine PW.iconst (v := (-1)) C dX3_joinSpans_151 (by decide) ?_
    refine PW.icmp_ne (tgt := 172) C dX3_joinSpans_152 (by decide) (fun c => ?_) (fun c => ?_)
    · rw [if_neg c] at hw
      refine PW.inc2 (v := 1) C dX3_joinSpans_172 (by decide) rfl (by decide) ?_
      refine PW.goto (tgt := 131) C dX3_joinSpans_175 (by decide) ?_
      exact PW.wk (wk_s (wk_n (wk_s (wk_n (wk_n wk_0))))) (hkb _ _ hw)
    · rw [if_pos c] at hw
      refine PW.ald0n C dX3_joinSpans_155 ?_
      refine PW.ild2n C dX3_joinSpans_156 ?_
      refine PW.ald0n C dX3_joinSpans_157 ?_
      refine PW.get0 (v := .ref 115) C cf_3 fl_X3_20 (by decide) oX_112 (fvR (o := 3) rfl) dX3_joinSpans_158 ?_
      refine PW.iconst (v := 0) C dX3_joinSpans_161 (by decide) ?_
      refine PW.iconst (v := 0) C dX3_joinSpans_162 (by decide) ?_
      refine PW.iconst (v := 0) C dX3_joinSpans_163 (by decide) ?_
      refine PW.iconst (v := 0) C dX3_joinSpans_164 (by decide) ?_
      refine PW.iconst (v := 0) C dX3_joinSpans_165 (by decide) ?_
      refine PW.callVI5 C ms_X6_add ml_X3_57 dX3_joinSpans_166 oX_115 ⟨_, _, rfl⟩ (Nat.le_of_ble_eq_true rfl) (by decide) (Nat.le_of_ble_eq_true rfl) (s_X6_add oX_115 hw) ?_
      clear hw
      intro z25 h24 hw
      refine PW.callVV2 C ms_X3_spread ml_X3_72 dX3_joinSpans_169 oX_112 ⟨_, _, rfl⟩ (Nat.le_of_ble_eq_true rfl) (by decide) (Nat.le_of_ble_eq_true rfl) (s_X3_spread hw) ?_
      clear hw
      intro h26 hw
      refine PW.inc2 (v := 1) C dX3_joinSpans_172 (by decide) rfl (by decide) ?_
      refine PW.goto (tgt := 131) C dX3_joinSpans_175 (by decide) ?_
      exact PW.wk (wk_s (wk_n (wk_s (wk_n (wk_n wk_0))))) (hkb _ _ hw)
theorem l_X3_joinSpans_131 {D : va_G} {ca : Nat → ClassId} {ad : Nat → Nat} {K : Kt} {r1 : Nat} {k178 : PH → Prop} {Q : PH → Prop} (C : CX (GX D ca ad) (XS (GX D ca ad)) cX3_joinSpans RX3 5 none 5 K) (hr1 : oX r1 8) (hk178 : ∀ (h : PH), k178 h → PW (GX D ca ad) K 5 (qV Q) h 178 [none, none, none, none, none] []) : ∀ (n : Nat) (x2 : Int32) (h : PH), Lp1 (w_X3_joinSpans_131 r1 k178 Q) n x2 h → PW (GX D ca ad) K 5 (qV Q) h 131 [some (.ref 112), none, some (.int x2), none, none] [] := by
  intro n
  induction n with
  | zero => intro x2 h hw; exact hw.elim
  | succ n ih => intro x2 h hw; exact b_X3_joinSpans_131 C hr1 hk178 (fun x2 h hw => ih x2 h hw) hw
def w_X3_joinSpans (r1 : Nat) (h : PH) (Q : PH → Prop) : Prop :=
  ∃ n, Lp1 (w_X3_joinSpans_2 r1 (fun h3 => ∃ n, Lp1 (w_X3_joinSpans_23 r1 (fun h20 => w_X6_clear 115 h20 (fun h21 => ∃ n, Lp1 (w_X3_joinSpans_131 r1 (fun h27 => Q h27) Q) n 0 h21)) Q) n 0 h3) Q) n 0 h
set_option maxRecDepth 8000 in
theorem s_X3_joinSpans {D : va_G} {ca : Nat → ClassId} {ad : Nat → Nat} {l : Launch} {r1 : Nat} {h : PH} {Q : PH → Prop} (hr1 : oX r1 8) (hw : w_X3_joinSpans r1 h Q) : Sp (GX D ca ad) (XS (GX D ca ad)) l 5 yX3_joinSpans cX3_joinSpans 5 none [.ref 112, .ref r1] h (qV Q) := by
  refine Sp.of (own := RX3) [some (.ref 112), some (.ref r1), none, none, none] (by decide +kernel) rfl rfl (Nat.le_of_ble_eq_true rfl) (fun K hl C => ?_)
  subst hl
  unfold w_X3_joinSpans at hw
  refine PW.iconst (v := 0) C dX3_joinSpans_0 (by decide) ?_
  refine PW.ist2n C dX3_joinSpans_1 (by decide) rfl ?_
  obtain ⟨n, hw⟩ := hw
  refine PW.wk (wk_s (wk_s (wk_s (wk_n (wk_n wk_0))))) (l_X3_joinSpans_2 C hr1 ?_ n _ _ hw)
  · intro h3 hw
    refine PW.iconst (v := 0) C dX3_joinSpans_21 (by decide) ?_
    refine PW.ist2n C dX3_joinSpans_22 (by decide) rfl ?_
    obtain ⟨n, hw⟩ := hw
    refine PW.wk (wk_s (wk_s (wk_s (wk_n (wk_n wk_0))))) (l_X3_joinSpans_23 C hr1 ?_ n _ _ hw)
    · intro h20 hw
      refine PW.ald0n C dX3_joinSpans_122 ?_
      refine PW.get0 (v := .ref 115) C cf_3 fl_X3_20 (by decide) oX_112 (fvR (o := 3) rfl) dX3_joinSpans_123 ?_
      refine PW.callVV0 C ms_X6_clear ml_X3_39 dX3_joinSpans_126 oX_115 ⟨_, _, rfl⟩ (Nat.le_of_ble_eq_true rfl) (by decide) (Nat.le_of_ble_eq_true rfl) (s_X6_clear oX_115 hw) ?_
      clear hw
      intro h21 hw
      refine PW.iconst (v := 0) C dX3_joinSpans_129 (by decide) ?_
      refine PW.ist2n C dX3_joinSpans_130 (by decide) rfl ?_
      obtain ⟨n, hw⟩ := hw
      refine PW.wk (wk_s (wk_n (wk_s (wk_n (wk_n wk_0))))) (l_X3_joinSpans_131 C hr1 ?_ n _ _ hw)
      · intro h27 hw
        exact PW.vret C dX3_joinSpans_178 ⟨rfl, hw⟩
def w_X3_surveySpan_32 (r1 : Nat) (k108 : PH → Prop) (Q : PH → Prop) (x3 : Int32) (x4 : Int32) (kb : Int32 → PH → Prop) (x5 : Int32) (h : PH) : Prop :=
  if x4 < x5 then (k108 h) else (w_X0_holder r1 x3 x5 h (fun z8 h7 => if z8 < 0 then (kb (x5 + 1) h7) else (if 4 ≤ z8 then (kb (x5 + 1) h7) else (vp_in z8 4 ∧ vp_in z8 4 ∧ ∀ h11, h11 = sI h7 119 (iN z8) ((gI h7 119 (iN z8)) + 1) → vp_in z8 4 ∧ vp_in z8 4 ∧ ∀ h14, h14 = sI h11 120 (iN z8) ((gI h11 120 (iN z8)) ||| ((1 : Int32) <<< ((x3 : Int32) &&& 31))) → vp_in z8 4 ∧ vp_in z8 4 ∧ ∀ h17, h17 = sI h14 121 (iN z8) (mnI (gI h14 121 (iN z8)) x5) → kb (x5 + 1) h17))))
set_option maxRecDepth 8000 in
theorem b_X3_surveySpan_32 {D : va_G} {ca : Nat → ClassId} {ad : Nat → Nat} {K : Kt} {r1 : Nat} {k108 : PH → Prop} {kb : Int32 → PH → Prop} {Q : PH → Prop} {x3 : Int32} {x4 : Int32} {x5 : Int32} {h : PH} (C : CX (GX D ca ad) (XS (GX D ca ad)) cX3_surveySpan RX3 7 none 3 K) (hr1 : oX r1 0) (hk108 : ∀ (h : PH), k108 h → PW (GX D ca ad) K 7 (qV Q) h 108 [none, none, none, none, none, none, none] []) (hkb : ∀ (x5 : Int32) (h : PH), kb x5 h → PW (GX D ca ad) K 7 (qV Q) h 32 [some (.ref 112), some (.ref r1), none, some (.int x3), some (.int x4), some (.int x5), none] []) (hw : w_X3_surveySpan_32 r1 k108 Q x3 x4 kb x5 h) : PW (GX D ca ad) K 7 (qV Q) h 32 [some (.ref 112), some (.ref r1), none, some (.int x3), some (.int x4), some (.int x5), none] [] := by
  unfold w_X3_surveySpan_32 at hw
  refine PW.ild5 C dX3_surveySpan_32 ?_
  refine PW.ild4 C dX3_surveySpan_34 ?_
  refine PW.icmp_gt (tgt := 108) C dX3_surveySpan_36 (by decide) (fun c => ?_) (fun c => ?_)
  · rw [if_pos c] at hw
    exact PW.wk (wk_n (wk_n (wk_n (wk_n (wk_n (wk_n (wk_n wk_0))))))) (hk108 _ hw)
  · rw [if_neg c] at hw
    refine PW.ald1n C dX3_surveySpan_39 ?_
    refine PW.ild3n C dX3_surveySpan_40 ?_
    refine PW.ild5 C dX3_surveySpan_41 ?_
    refine PW.callVI2 C ms_X0_holder ml_X3_127 dX3_surveySpan_43 hr1 ⟨_, _, rfl⟩ (Nat.le_of_ble_eq_true rfl) (by decide) (Nat.le_of_ble_eq_true rfl) (s_X0_holder hr1 hw) ?_
    clear hw
    intro z8 h7 hw
    refine PW.ist6 C dX3_surveySpan_46 (by decide) rfl ?_
    refine PW.ild6 C dX3_surveySpan_48 ?_
    refine PW.if_lt (tgt := 102) C dX3_surveySpan_50 (by decide) (fun c => ?_) (fun c => ?_)
    · rw [if_pos c] at hw
      refine PW.inc5 (v := 1) C dX3_surveySpan_102 (by decide) rfl (by decide) ?_
      refine PW.goto (tgt := 32) C dX3_surveySpan_105 (by decide) ?_
      exact PW.wk (wk_s (wk_s (wk_n (wk_s (wk_s (wk_s (wk_n wk_0))))))) (hkb _ _ hw)
    · rw [if_neg c] at hw
      refine PW.ild6 C dX3_surveySpan_53 ?_
      refine PW.iconst (v := 4) C dX3_surveySpan_55 (by decide) ?_
      refine PW.icmp_ge (tgt := 102) C dX3_surveySpan_56 (by decide) (fun c => ?_) (fun c => ?_)
      · rw [if_pos c] at hw
        refine PW.inc5 (v := 1) C dX3_surveySpan_102 (by decide) rfl (by decide) ?_
        refine PW.goto (tgt := 32) C dX3_surveySpan_105 (by decide) ?_
        exact PW.wk (wk_s (wk_s (wk_n (wk_s (wk_s (wk_s (wk_n wk_0))))))) (hkb _ _ hw)
      · rw [if_neg c] at hw
        refine PW.ald0n C dX3_surveySpan_59 ?_
        refine PW.get0 (v := .ref 119) C cf_3 fl_X3_30 (by decide) oX_112 (fvR (o := 7) rfl) dX3_surveySpan_60 ?_
        refine PW.ild6 C dX3_surveySpan_63 ?_
        refine PW.dup2 C dX3_surveySpan_65 rfl rfl ?_
        obtain ⟨hc9, hw⟩ := hw
        refine PW.iald C dX3_surveySpan_66 aX_119 hc9 ?_
        refine PW.iconst (v := 1) C dX3_surveySpan_67 (by decide) ?_
        refine PW.iadd C dX3_surveySpan_68 ?_
        obtain ⟨hc10, hw⟩ := hw
        replace hw := hw _ rfl
        refine PW.iast C dX3_surveySpan_69 aX_119 hc10 ?_
        refine PW.ald0n C dX3_surveySpan_70 ?_
        refine PW.get0 (v := .ref 120) C cf_3 fl_X3_33 (by decide) oX_112 (fvR (o := 8) rfl) dX3_surveySpan_71 ?_
        refine PW.ild6 C dX3_surveySpan_74 ?_
        refine PW.dup2 C dX3_surveySpan_76 rfl rfl ?_
        obtain ⟨hc12, hw⟩ := hw
        refine PW.iald C dX3_surveySpan_77 aX_120 hc12 ?_
        refine PW.iconst (v := 1) C dX3_surveySpan_78 (by decide) ?_
        refine PW.ild3n C dX3_surveySpan_79 ?_
        refine PW.ishl C dX3_surveySpan_80 ?_
        refine PW.ior C dX3_surveySpan_81 ?_
        obtain ⟨hc13, hw⟩ := hw
        replace hw := hw _ rfl
        refine PW.iast C dX3_surveySpan_82 aX_120 hc13 ?_
        refine PW.ald0n C dX3_surveySpan_83 ?_
        refine PW.get0 (v := .ref 121) C cf_3 fl_X3_36 (by decide) oX_112 (fvR (o := 9) rfl) dX3_surveySpan_84 ?_
        refine PW.ild6 C dX3_surveySpan_87 ?_
        refine PW.ald0n C dX3_surveySpan_89 ?_
        refine PW.get0 (v := .ref 121) C cf_3 fl_X3_36 (by decide) oX_112 (fvR (o := 9) rfl) dX3_surveySpan_90 ?_
        refine PW.ild6 C dX3_surveySpan_93 ?_
        obtain ⟨hc15, hw⟩ := hw
        refine PW.iald C dX3_surveySpan_95 aX_121 hc15 ?_
        refine PW.ild5 C dX3_surveySpan_96 ?_
        refine PW.mnI C ml_X3_86 (Nat.le_of_ble_eq_true rfl) (by decide) dX3_surveySpan_98 ?_
        obtain ⟨hc16, hw⟩ := hw
        replace hw := hw _ rfl
        refine PW.iast C dX3_surveySpan_101 aX_121 hc16 ?_
        refine PW.inc5 (v := 1) C dX3_surveySpan_102 (by decide) rfl (by decide) ?_
        refine PW.goto (tgt := 32) C dX3_surveySpan_105 (by decide) ?_
        exact PW.wk (wk_s (wk_s (wk_n (wk_s (wk_s (wk_s (wk_n wk_0))))))) (hkb _ _ hw)
theorem l_X3_surveySpan_32 {D : va_G} {ca : Nat → ClassId} {ad : Nat → Nat} {K : Kt} {r1 : Nat} {k108 : PH → Prop} {Q : PH → Prop} {x3 : Int32} {x4 : Int32} (C : CX (GX D ca ad) (XS (GX D ca ad)) cX3_surveySpan RX3 7 none 3 K) (hr1 : oX r1 0) (hk108 : ∀ (h : PH), k108 h → PW (GX D ca ad) K 7 (qV Q) h 108 [none, none, none, none, none, none, none] []) : ∀ (n : Nat) (x5 : Int32) (h : PH), Lp1 (w_X3_surveySpan_32 r1 k108 Q x3 x4) n x5 h → PW (GX D ca ad) K 7 (qV Q) h 32 [some (.ref 112), some (.ref r1), none, some (.int x3), some (.int x4), some (.int x5), none] [] := by
  intro n
  induction n with
  | zero => intro x5 h hw; exact hw.elim
  | succ n ih => intro x5 h hw; exact b_X3_surveySpan_32 C hr1 hk108 (fun x5 h hw => ih x5 h hw) hw
def w_X3_surveySpan (r1 : Nat) (x2 : Int32) (h : PH) (Q : PH → Prop) : Prop :=
  w_X6_at 113 x2 0 h (fun z2 h1 => w_X6_at 113 x2 2 h1 (fun z4 h3 => w_X6_at 113 x2 1 h3 (fun z6 h5 => ∃ n, Lp1 (w_X3_surveySpan_32 r1 (fun h18 => Q h18) Q z2 z4) n z6 h5)))
set_option maxRecDepth 8000 in
theorem s_X3_surveySpan {D : va_G} {ca : Nat → ClassId} {ad : Nat → Nat} {l : Launch} {r1 : Nat} {x2 : Int32} {h : PH} {Q : PH → Prop} (hr1 : oX r1 0) (hw : w_X3_surveySpan r1 x2 h Q) : Sp (GX D ca ad) (XS (GX D ca ad)) l 3 yX3_surveySpan cX3_surveySpan 7 none [.ref 112, .ref r1, .int x2] h (qV Q) := by
  refine Sp.of (own := RX3) [some (.ref 112), some (.ref r1), some (.int x2), none, none, none, none] (by decide +kernel) rfl rfl (Nat.le_of_ble_eq_true rfl) (fun K hl C => ?_)
  subst hl
  unfold w_X3_surveySpan at hw
  refine PW.ald0n C dX3_surveySpan_0 ?_
  refine PW.get0 (v := .ref 113) C cf_3 fl_X3_16 (by decide) oX_112 (fvR (o := 1) rfl) dX3_surveySpan_1 ?_
  refine PW.ild2n C dX3_surveySpan_4 ?_
  refine PW.iconst (v := 0) C dX3_surveySpan_5 (by decide) ?_
  refine PW.callVI2 C ms_X6_at ml_X3_64 dX3_surveySpan_6 oX_113 ⟨_, _, rfl⟩ (Nat.le_of_ble_eq_true rfl) (by decide) (Nat.le_of_ble_eq_true rfl) (s_X6_at oX_113 hw) ?_
  clear hw
  intro z2 h1 hw
  refine PW.ist3n C dX3_surveySpan_9 (by decide) rfl ?_
  refine PW.ald0n C dX3_surveySpan_10 ?_
  refine PW.get0 (v := .ref 113) C cf_3 fl_X3_16 (by decide) oX_112 (fvR (o := 1) rfl) dX3_surveySpan_11 ?_
  refine PW.ild2n C dX3_surveySpan_14 ?_
  refine PW.iconst (v := 2) C dX3_surveySpan_15 (by decide) ?_
  refine PW.callVI2 C ms_X6_at ml_X3_64 dX3_surveySpan_16 oX_113 ⟨_, _, rfl⟩ (Nat.le_of_ble_eq_true rfl) (by decide) (Nat.le_of_ble_eq_true rfl) (s_X6_at oX_113 hw) ?_
  clear hw
  intro z4 h3 hw
  refine PW.ist4 C dX3_surveySpan_19 (by decide) rfl ?_
  refine PW.ald0n C dX3_surveySpan_21 ?_
  refine PW.get0 (v := .ref 113) C cf_3 fl_X3_16 (by decide) oX_112 (fvR (o := 1) rfl) dX3_surveySpan_22 ?_
  refine PW.ild2n C dX3_surveySpan_25 ?_
  refine PW.iconst (v := 1) C dX3_surveySpan_26 (by decide) ?_
  refine PW.callVI2 C ms_X6_at ml_X3_64 dX3_surveySpan_27 oX_113 ⟨_, _, rfl⟩ (Nat.le_of_ble_eq_true rfl) (by decide) (Nat.le_of_ble_eq_true rfl) (s_X6_at oX_113 hw) ?_
  clear hw
  intro z6 h5 hw
  refine PW.ist5 C dX3_surveySpan_30 (by decide) rfl ?_
  obtain ⟨n, hw⟩ := hw
  refine PW.wk (wk_s (wk_s (wk_n (wk_s (wk_s (wk_s (wk_n wk_0))))))) (l_X3_surveySpan_32 C hr1 ?_ n _ _ hw)
  · intro h18 hw
    exact PW.vret C dX3_surveySpan_108 ⟨rfl, hw⟩
def w_X3_survey_2 (r1 : Nat) (k35 : PH → Prop) (Q : PH → Prop) (x2 : Int32) (kb : Int32 → PH → Prop) (x3 : Int32) (h : PH) : Prop :=
  if 4 ≤ x3 then (k35 h) else (vp_in x3 4 ∧ ∀ h2, h2 = sI h 119 (iN x3) 0 → vp_in x3 4 ∧ ∀ h4, h4 = sI h2 120 (iN x3) 0 → vp_in x3 4 ∧ ∀ h6, h6 = sI h4 121 (iN x3) 48 → kb (x3 + 1) h6)
set_option maxRecDepth 8000 in
theorem b_X3_survey_2 {D : va_G} {ca : Nat → ClassId} {ad : Nat → Nat} {K : Kt} {r1 : Nat} {k35 : PH → Prop} {kb : Int32 → PH → Prop} {Q : PH → Prop} {x2 : Int32} {x3 : Int32} {h : PH} (C : CX (GX D ca ad) (XS (GX D ca ad)) cX3_survey RX3 4 none 4 K) (hr1 : oX r1 0) (hk35 : ∀ (h : PH), k35 h → PW (GX D ca ad) K 4 (qV Q) h 35 [some (.ref 112), some (.ref r1), some (.int x2), none] []) (hkb : ∀ (x3 : Int32) (h : PH), kb x3 h → PW (GX D ca ad) K 4 (qV Q) h 2 [some (.ref 112), some (.ref r1), some (.int x2), some (.int x3)] []) (hw : w_X3_survey_2 r1 k35 Q x2 kb x3 h) : PW (GX D ca ad) K 4 (qV Q) h 2 [some (.ref 112), some (.ref r1), some (.int x2), some (.int x3)] [] := by
  unfold w_X3_survey_2 at hw
  refine PW.ild3n C dX3_survey_2 ?_
  refine PW.iconst (v := 4) C dX3_survey_3 (by decide) ?_
  refine PW.icmp_ge (tgt := 35) C dX3_survey_4 (by decide) (fun c => ?_) (fun c => ?_)
  · rw [if_pos c] at hw
    exact PW.wk (wk_s (wk_s (wk_s (wk_n wk_0)))) (hk35 _ hw)
  · rw [if_neg c] at hw
    refine PW.ald0n C dX3_survey_7 ?_
    refine PW.get0 (v := .ref 119) C cf_3 fl_X3_30 (by decide) oX_112 (fvR (o := 7) rfl) dX3_survey_8 ?_
    refine PW.ild3n C dX3_survey_11 ?_
    refine PW.iconst (v := 0) C dX3_survey_12 (by decide) ?_
    obtain ⟨hc1, hw⟩ := hw
    replace hw := hw _ rfl
    refine PW.iast C dX3_survey_13 aX_119 hc1 ?_
    refine PW.ald0n C dX3_survey_14 ?_
    refine PW.get0 (v := .ref 120) C cf_3 fl_X3_33 (by decide) oX_112 (fvR (o := 8) rfl) dX3_survey_15 ?_
    refine PW.ild3n C dX3_survey_18 ?_
    refine PW.iconst (v := 0) C dX3_survey_19 (by decide) ?_
    obtain ⟨hc3, hw⟩ := hw
    replace hw := hw _ rfl
    refine PW.iast C dX3_survey_20 aX_120 hc3 ?_
    refine PW.ald0n C dX3_survey_21 ?_
    refine PW.get0 (v := .ref 121) C cf_3 fl_X3_36 (by decide) oX_112 (fvR (o := 9) rfl) dX3_survey_22 ?_
    refine PW.ild3n C dX3_survey_25 ?_
    refine PW.bipush (v := 48) C dX3_survey_26 (by decide) ?_
    obtain ⟨hc5, hw⟩ := hw
    replace hw := hw _ rfl
    refine PW.iast C dX3_survey_28 aX_121 hc5 ?_
    refine PW.inc3 (v := 1) C dX3_survey_29 (by decide) rfl (by decide) ?_
    refine PW.goto (tgt := 2) C dX3_survey_32 (by decide) ?_
    exact PW.wk (wk_s (wk_s (wk_s (wk_s wk_0)))) (hkb _ _ hw)
theorem l_X3_survey_2 {D : va_G} {ca : Nat → ClassId} {ad : Nat → Nat} {K : Kt} {r1 : Nat} {k35 : PH → Prop} {Q : PH → Prop} {x2 : Int32} (C : CX (GX D ca ad) (XS (GX D ca ad)) cX3_survey RX3 4 none 4 K) (hr1 : oX r1 0) (hk35 : ∀ (h : PH), k35 h → PW (GX D ca ad) K 4 (qV Q) h 35 [some (.ref 112), some (.ref r1), some (.int x2), none] []) : ∀ (n : Nat) (x3 : Int32) (h : PH), Lp1 (w_X3_survey_2 r1 k35 Q x2) n x3 h → PW (GX D ca ad) K 4 (qV Q) h 2 [some (.ref 112), some (.ref r1), some (.int x2), some (.int x3)] [] := by
  intro n
  induction n with
  | zero => intro x3 h hw; exact hw.elim
  | succ n ih => intro x3 h hw; exact b_X3_survey_2 C hr1 hk35 (fun x3 h hw => ih x3 h hw) hw
def w_X3_survey_37 (r1 : Nat) (k73 : PH → Prop) (Q : PH → Prop) (x2 : Int32) (kb : Int32 → PH → Prop) (x3 : Int32) (h : PH) : Prop :=
  if (gI h 113 3) ≤ x3 then (k73 h) else (w_X6_at 113 x3 3 h (fun z9 h8 => if z9 = x2 then (w_X3_surveySpan r1 x3 h8 (fun h10 => kb (x3 + 1) h10)) else (kb (x3 + 1) h8)))
set_option maxRecDepth 8000 in
theorem b_X3_survey_37 {D : va_G} {ca : Nat → ClassId} {ad : Nat → Nat} {K : Kt} {r1 : Nat} {k73 : PH → Prop} {kb : Int32 → PH → Prop} {Q : PH → Prop} {x2 : Int32} {x3 : Int32} {h : PH} (C : CX (GX D ca ad) (XS (GX D ca ad)) cX3_survey RX3 4 none 4 K) (hr1 : oX r1 0) (hk73 : ∀ (h : PH), k73 h → PW (GX D ca ad) K 4 (qV Q) h 73 [none, none, none, none] []) (hkb : ∀ (x3 : Int32) (h : PH), kb x3 h → PW (GX D ca ad) K 4 (qV Q) h 37 [some (.ref 112), some (.ref r1), some (.int x2), some (.int x3)] []) (hw : w_X3_survey_37 r1 k73 Q x2 kb x3 h) : PW (GX D ca ad) K 4 (qV Q) h 37 [some (.ref 112), some (.ref r1), some (.int x2), some (.int x3)] [] := by
  unfold w_X3_survey_37 at hw
  refine PW.ild3n C dX3_survey_37 ?_
  refine PW.ald0n C dX3_survey_38 ?_
  refine PW.get0 (v := .ref 113) C cf_3 fl_X3_16 (by decide) oX_112 (fvR (o := 1) rfl) dX3_survey_39 ?_
  refine PW.getN0 C cf_6 fl_X3_47 (by decide) oX_113 (fvI rfl) dX3_survey_42 ?_
  refine PW.icmp_ge (tgt := 73) C dX3_survey_45 (by decide) (fun c => ?_) (fun c => ?_)
  · rw [if_pos c] at hw
    exact PW.wk (wk_n (wk_n (wk_n (wk_n wk_0)))) (hk73 _ hw)
  · rw [if_neg c] at hw
    refine PW.ald0n C dX3_survey_48 ?_
    refine PW.get0 (v := .ref 113) C cf_3 fl_X3_16 (by decide) oX_112 (fvR (o := 1) rfl) dX3_survey_49 ?_
    refine PW.ild3n C dX3_survey_52 ?_
    refine PW.iconst (v := 3) C dX3_survey_53 (by decide) ?_
    refine PW.callVI2 C ms_X6_at ml_X3_64 dX3_survey_54 oX_113 ⟨_, _, rfl⟩ (Nat.le_of_ble_eq_true rfl) (by decide) (Nat.le_of_ble_eq_true rfl) (s_X6_at oX_113 hw) ?_
    clear hw
    intro z9 h8 hw
    refine PW.ild2n C dX3_survey_57 ?_
    refine PW.icmp_ne (tgt := 67) C dX3_survey_58 (by decide) (fun c => ?_) (fun c => ?_)
    · rw [if_neg c] at hw
      refine PW.inc3 (v := 1) C dX3_survey_67 (by decide) rfl (by decide) ?_
      refine PW.goto (tgt := 37) C dX3_survey_70 (by decide) ?_
      exact PW.wk (wk_s (wk_s (wk_s (wk_s wk_0)))) (hkb _ _ hw)
    · rw [if_pos c] at hw
      refine PW.ald0n C dX3_survey_61 ?_
      refine PW.ald1n C dX3_survey_62 ?_
      refine PW.ild3n C dX3_survey_63 ?_
      refine PW.callVV2 C ms_X3_surveySpan ml_X3_124 dX3_survey_64 oX_112 ⟨_, _, rfl⟩ (Nat.le_of_ble_eq_true rfl) (by decide) (Nat.le_of_ble_eq_true rfl) (s_X3_surveySpan hr1 hw) ?_
      clear hw
      intro h10 hw
      refine PW.inc3 (v := 1) C dX3_survey_67 (by decide) rfl (by decide) ?_
      refine PW.goto (tgt := 37) C dX3_survey_70 (by decide) ?_
      exact PW.wk (wk_s (wk_s (wk_s (wk_s wk_0)))) (hkb _ _ hw)
theorem l_X3_survey_37 {D : va_G} {ca : Nat → ClassId} {ad : Nat → Nat} {K : Kt} {r1 : Nat} {k73 : PH → Prop} {Q : PH → Prop} {x2 : Int32} (C : CX (GX D ca ad) (XS (GX D ca ad)) cX3_survey RX3 4 none 4 K) (hr1 : oX r1 0) (hk73 : ∀ (h : PH), k73 h → PW (GX D ca ad) K 4 (qV Q) h 73 [none, none, none, none] []) : ∀ (n : Nat) (x3 : Int32) (h : PH), Lp1 (w_X3_survey_37 r1 k73 Q x2) n x3 h → PW (GX D ca ad) K 4 (qV Q) h 37 [some (.ref 112), some (.ref r1), some (.int x2), some (.int x3)] [] := by
  intro n
  induction n with
  | zero => intro x3 h hw; exact hw.elim
  | succ n ih => intro x3 h hw; exact b_X3_survey_37 C hr1 hk73 (fun x3 h hw => ih x3 h hw) hw
def w_X3_survey (r1 : Nat) (x2 : Int32) (h : PH) (Q : PH → Prop) : Prop :=
  ∃ n, Lp1 (w_X3_survey_2 r1 (fun h7 => ∃ n, Lp1 (w_X3_survey_37 r1 (fun h11 => Q h11) Q x2) n 0 h7) Q x2) n 0 h
set_option maxRecDepth 8000 in
theorem s_X3_survey {D : va_G} {ca : Nat → ClassId} {ad : Nat → Nat} {l : Launch} {r1 : Nat} {x2 : Int32} {h : PH} {Q : PH → Prop} (hr1 : oX r1 0) (hw : w_X3_survey r1 x2 h Q) : Sp (GX D ca ad) (XS (GX D ca ad)) l 4 yX3_survey cX3_survey 4 none [.ref 112, .ref r1, .int x2] h (qV Q) := by
  refine Sp.of (own := RX3) [some (.ref 112), some (.ref r1), some (.int x2), none] (by decide +kernel) rfl rfl (Nat.le_of_ble_eq_true rfl) (fun K hl C => ?_)
  subst hl
  unfold w_X3_survey at hw
  refine PW.iconst (v := 0) C dX3_survey_0 (by decide) ?_
  refine PW.ist3n C dX3_survey_1 (by decide) rfl ?_
  obtain ⟨n, hw⟩ := hw
  refine PW.wk (wk_s (wk_s (wk_s (wk_s wk_0)))) (l_X3_survey_2 C hr1 ?_ n _ _ hw)
  · intro h7 hw
    refine PW.iconst (v := 0) C dX3_survey_35 (by decide) ?_
    refine PW.ist3n C dX3_survey_36 (by decide) rfl ?_
    obtain ⟨n, hw⟩ := hw
    refine PW.wk (wk_s (wk_s (wk_s (wk_s wk_0)))) (l_X3_survey_37 C hr1 ?_ n _ _ hw)
    · intro h11 hw
      exact PW.vret C dX3_survey_73 ⟨rfl, hw⟩
def w_X3_holdersSurveyed_4 (k30 : Int32 → PH → Prop) (Q : Int32 → PH → Prop) (kb : Int32 → Int32 → PH → Prop) (x1 : Int32) (x2 : Int32) (h : PH) : Prop :=
  if 4 ≤ x2 then (k30 x1 h) else (vp_in x2 4 ∧ if (gI h 119 (iN x2)) ≤ 0 then (kb x1 (x2 + 1) h) else (∀ (y2 : Int32), y2 = (x1 ||| ((1 : Int32) <<< ((x2 : Int32) &&& 31))) → kb y2 (x2 + 1) h))
set_option maxRecDepth 8000 in
theorem b_X3_holdersSurveyed_4 {D : va_G} {ca : Nat → ClassId} {ad : Nat → Nat} {K : Kt} {k30 : Int32 → PH → Prop} {kb : Int32 → Int32 → PH → Prop} {Q : Int32 → PH → Prop} {x1 : Int32} {x2 : Int32} {h : PH} (C : CX (GX D ca ad) (XS (GX D ca ad)) cX3_holdersSurveyed RX3 3 (some .int) 1 K) (hk30 : ∀ (x1 : Int32) (h : PH), k30 x1 h → PW (GX D ca ad) K 3 (qI Q) h 30 [none, some (.int x1), none] []) (hkb : ∀ (x1 : Int32) (x2 : Int32) (h : PH), kb x1 x2 h → PW (GX D ca ad) K 3 (qI Q) h 4 [some (.ref 112), some (.int x1), some (.int x2)] []) (hw : w_X3_holdersSurveyed_4 k30 Q kb x1 x2 h) : PW (GX D ca ad) K 3 (qI Q) h 4 [some (.ref 112), some (.int x1), some (.int x2)] [] := by
  unfold w_X3_holdersSurveyed_4 at hw
  refine PW.ild2n C dX3_holdersSurveyed_4 ?_
  refine PW.iconst (v := 4) C dX3_holdersSurveyed_5 (by decide) ?_
  refine PW.icmp_ge (tgt := 30) C dX3_holdersSurveyed_6 (by decide) (fun c => ?_) (fun c => ?_)
  · rw [if_pos c] at hw
    exact PW.wk (wk_n (wk_s (wk_n wk_0))) (hk30 _ _ hw)
  · rw [if_neg c] at hw
    refine PW.ald0n C dX3_holdersSurveyed_9 ?_
    refine PW.get0 (v := .ref 119) C cf_3 fl_X3_30 (by decide) oX_112 (fvR (o := 7) rfl) dX3_holdersSurveyed_10 ?_
    refine PW.ild2n C dX3_holdersSurveyed_13 ?_
    obtain ⟨hc1, hw⟩ := hw
    refine PW.iald C dX3_holdersSurveyed_14 aX_119 hc1 ?_
    refine PW.if_le (tgt := 24) C dX3_holdersSurveyed_15 (by decide) (fun c => ?_) (fun c => ?_)
    · rw [if_pos c] at hw
      refine PW.inc2 (v := 1) C dX3_holdersSurveyed_24 (by decide) rfl (by decide) ?_
      refine PW.goto (tgt := 4) C dX3_holdersSurveyed_27 (by decide) ?_
      exact PW.wk (wk_s (wk_s (wk_s wk_0))) (hkb _ _ _ hw)
    · rw [if_neg c] at hw
      refine PW.ild1n C dX3_holdersSurveyed_18 ?_
      refine PW.iconst (v := 1) C dX3_holdersSurveyed_19 (by decide) ?_
      refine PW.ild2n C dX3_holdersSurveyed_20 ?_
      refine PW.ishl C dX3_holdersSurveyed_21 ?_
      refine PW.ior C dX3_holdersSurveyed_22 ?_
      replace hw := hw _ rfl
      refine PW.ist1n C dX3_holdersSurveyed_23 (by decide) rfl ?_
      refine PW.inc2 (v := 1) C dX3_holdersSurveyed_24 (by decide) rfl (by decide) ?_
      refine PW.goto (tgt := 4) C dX3_holdersSurveyed_27 (by decide) ?_
      exact PW.wk (wk_s (wk_s (wk_s wk_0))) (hkb _ _ _ hw)
theorem l_X3_holdersSurveyed_4 {D : va_G} {ca : Nat → ClassId} {ad : Nat → Nat} {K : Kt} {k30 : Int32 → PH → Prop} {Q : Int32 → PH → Prop} (C : CX (GX D ca ad) (XS (GX D ca ad)) cX3_holdersSurveyed RX3 3 (some .int) 1 K) (hk30 : ∀ (x1 : Int32) (h : PH), k30 x1 h → PW (GX D ca ad) K 3 (qI Q) h 30 [none, some (.int x1), none] []) : ∀ (n : Nat) (x1 : Int32) (x2 : Int32) (h : PH), Lp2 (w_X3_holdersSurveyed_4 k30 Q) n x1 x2 h → PW (GX D ca ad) K 3 (qI Q) h 4 [some (.ref 112), some (.int x1), some (.int x2)] [] := by
  intro n
  induction n with
  | zero => intro x1 x2 h hw; exact hw.elim
  | succ n ih => intro x1 x2 h hw; exact b_X3_holdersSurveyed_4 C hk30 (fun x1 x2 h hw => ih x1 x2 h hw) hw
def w_X3_holdersSurveyed (h : PH) (Q : Int32 → PH → Prop) : Prop :=
  ∃ n, Lp2 (w_X3_holdersSurveyed_4 (fun y4 h3 => Q y4 h3) Q) n 0 0 h
set_option maxRecDepth 8000 in
theorem s_X3_holdersSurveyed {D : va_G} {ca : Nat → ClassId} {ad : Nat → Nat} {l : Launch} {h : PH} {Q : Int32 → PH → Prop} (hw : w_X3_holdersSurveyed h Q) : Sp (GX D ca ad) (XS (GX D ca ad)) l 1 yX3_holdersSurveyed cX3_holdersSurveyed 3 (some .int) [.ref 112] h (qI Q) := by
  refine Sp.of (own := RX3) [some (.ref 112), none, none] (by decide +kernel) rfl rfl (Nat.le_of_ble_eq_true rfl) (fun K hl C => ?_)
  subst hl
  unfold w_X3_holdersSurveyed at hw
  refine PW.iconst (v := 0) C dX3_holdersSurveyed_0 (by decide) ?_
  refine PW.ist1n C dX3_holdersSurveyed_1 (by decide) rfl ?_
  refine PW.iconst (v := 0) C dX3_holdersSurveyed_2 (by decide) ?_
  refine PW.ist2n C dX3_holdersSurveyed_3 (by decide) rfl ?_
  obtain ⟨n, hw⟩ := hw
  refine PW.wk (wk_s (wk_s (wk_s wk_0))) (l_X3_holdersSurveyed_4 C ?_ n _ _ _ hw)
  · intro y4 h3 hw
    refine PW.ild1n C dX3_holdersSurveyed_30 ?_
    exact PW.iret C dX3_holdersSurveyed_31 ⟨_, rfl, hw⟩
def w_X3_worth (r0 : Nat) (x1 : Int32) (x2 : Int32) (x3 : Int32) (x4 : Int32) (h : PH) (Q : Int32 → PH → Prop) : Prop :=
  w_X1_value (r0 + 19) 0 0 x4 x1 x2 x3 h (fun z2 h1 => if (lg_cmp z2 (-9223372036854775808)) = 0 then (Q x1 h1) else (Q (((mxJ 0 (mnJ z2 9999)) : Int64).toInt32) h1))
set_option maxRecDepth 8000 in
theorem s_X3_worth {D : va_G} {ca : Nat → ClassId} {ad : Nat → Nat} {l : Launch} {r0 : Nat} {x1 : Int32} {x2 : Int32} {x3 : Int32} {x4 : Int32} {h : PH} {Q : Int32 → PH → Prop} (hr0 : oX r0 8) (hw : w_X3_worth r0 x1 x2 x3 x4 h Q) : Sp (GX D ca ad) (XS (GX D ca ad)) l 3 yX3_worth cX3_worth 7 (some .int) [.ref r0, .int x1, .int x2, .int x3, .int x4] h (qI Q) := by
  refine Sp.of (own := RX3) [some (.ref r0), some (.int x1), some (.int x2), some (.int x3), some (.int x4), none, none] (by decide +kernel) rfl rfl (Nat.le_of_ble_eq_true rfl) (fun K hl C => ?_)
  subst hl
  unfold w_X3_worth at hw
  refine PW.ald0n C dX3_worth_0 ?_
  refine PW.getN0 C cf_8 fl_X3_105 (by decide) hr0 (fvR (o := 19) rfl) dX3_worth_1 ?_
  refine PW.iconst (v := 0) C dX3_worth_4 (by decide) ?_
  refine PW.iconst (v := 0) C dX3_worth_5 (by decide) ?_
  refine PW.ild4 C dX3_worth_6 ?_
  refine PW.ild1n C dX3_worth_8 ?_
  refine PW.ild2n C dX3_worth_9 ?_
  refine PW.ild3n C dX3_worth_10 ?_
  refine PW.callVJ6 C ms_X1_value ml_X3_108 dX3_worth_11 (sf_8_8 hr0) ⟨_, _, rfl⟩ (Nat.le_of_ble_eq_true rfl) (by decide) (Nat.le_of_ble_eq_true rfl) (s_X1_value (sf_8_8 hr0) hw) ?_
  clear hw
  intro z2 h1 hw
  refine PW.lst5 C dX3_worth_14 (by decide) rfl ?_
  refine PW.lld5 C dX3_worth_16 ?_
  refine PW.ldc2 (v := (-9223372036854775808)) C cs_X3_114 dX3_worth_18 ?_
  refine PW.lcmp C dX3_worth_21 ?_
  refine PW.if_ne (tgt := 27) C dX3_worth_22 (by decide) (fun c => ?_) (fun c => ?_)
  · rw [if_neg c] at hw
    refine PW.lconst (v := 0) C dX3_worth_27 (by decide) ?_
    refine PW.lld5 C dX3_worth_28 ?_
    refine PW.ldc2 (v := 9999) C cs_X3_116 dX3_worth_30 ?_
    refine PW.mnJ C ml_X3_118 (Nat.le_of_ble_eq_true rfl) (by decide) dX3_worth_33 ?_
    refine PW.mxJ C ml_X3_121 (Nat.le_of_ble_eq_true rfl) (by decide) dX3_worth_36 ?_
    refine PW.l2i C dX3_worth_39 ?_
    exact PW.iret C dX3_worth_40 ⟨_, rfl, hw⟩
  · rw [if_pos c] at hw
    refine PW.ild1n C dX3_worth_25 ?_
    exact PW.iret C dX3_worth_26 ⟨_, rfl, hw⟩
def w_X3_weigh_35 (r1 : Nat) (r2 : Nat) (k132 : Int32 → Int32 → Int32 → Int32 → PH → Prop) (Q : PH → Prop) (x3 : Int32) (kb : Int32 → Int32 → Int32 → Int32 → Int32 → PH → Prop) (x4 : Int32) (x5 : Int32) (x6 : Int32) (x7 : Int32) (x8 : Int32) (h : PH) : Prop :=
  if (gI h 113 3) ≤ x8 then (k132 x4 x5 x6 x7 h) else (w_X6_at 113 x8 3 h (fun z3 h2 => if z3 = x3 then (w_X6_at 113 x8 2 h2 (fun z5 h4 => w_X6_at 113 x8 1 h4 (fun z7 h6 => ∀ (y8 : Int32), y8 = (x4 + ((z5 - z7) + 1)) → w_X6_at 113 x8 0 h6 (fun z10 h9 => ∀ (y11 : Int32), y11 = (x5 ||| ((1 : Int32) <<< ((z10 : Int32) &&& 31))) → w_X6_at 113 x8 1 h9 (fun z13 h12 => ∀ (y14 : Int32), y14 = (mnI x6 z13) → kb y8 y11 y14 (x7 + 1) (x8 + 1) h12))))) else (kb x4 x5 x6 x7 (x8 + 1) h2)))
set_option maxRecDepth 8000 in
theorem b_X3_weigh_35 {D : va_G} {ca : Nat → ClassId} {ad : Nat → Nat} {K : Kt} {r1 : Nat} {r2 : Nat} {k132 : Int32 → Int32 → Int32 → Int32 → PH → Prop} {kb : Int32 → Int32 → Int32 → Int32 → Int32 → PH → Prop} {Q : PH → Prop} {x3 : Int32} {x4 : Int32} {x5 : Int32} {x6 : Int32} {x7 : Int32} {x8 : Int32} {h : PH} (C : CX (GX D ca ad) (XS (GX D ca ad)) cX3_weigh RX3 10 none 5 K) (hr1 : oX r1 8) (hr2 : oX r2 0) (hk132 : ∀ (x4 : Int32) (x5 : Int32) (x6 : Int32) (x7 : Int32) (h : PH), k132 x4 x5 x6 x7 h → PW (GX D ca ad) K 10 (qV Q) h 132 [some (.ref 112), some (.ref r1), some (.ref r2), some (.int x3), some (.int x4), some (.int x5), some (.int x6), some (.int x7), none, none] []) (hkb : ∀ (x4 : Int32) (x5 : Int32) (x6 : Int32) (x7 : Int32) (x8 : Int32) (h : PH), kb x4 x5 x6 x7 x8 h → PW (GX D ca ad) K 10 (qV Q) h 35 [some (.ref 112), some (.ref r1), some (.ref r2), some (.int x3), some (.int x4), some (.int x5), some (.int x6), some (.int x7), some (.int x8), none] []) (hw : w_X3_weigh_35 r1 r2 k132 Q x3 kb x4 x5 x6 x7 x8 h) : PW (GX D ca ad) K 10 (qV Q) h 35 [some (.ref 112), some (.ref r1), some (.ref r2), some (.int x3), some (.int x4), some (.int x5), some (.int x6), some (.int x7), some (.int x8), none] [] := by
  unfold w_X3_weigh_35 at hw
  refine PW.ild8 C dX3_weigh_35 ?_
  refine PW.ald0n C dX3_weigh_37 ?_
  refine PW.get0 (v := .ref 113) C cf_3 fl_X3_16 (by decide) oX_112 (fvR (o := 1) rfl) dX3_weigh_38 ?_
  refine PW.getN0 C cf_6 fl_X3_47 (by decide) oX_113 (fvI rfl) dX3_weigh_41 ?_
  refine PW.icmp_ge (tgt := 132) C dX3_weigh_44 (by decide) (fun c => ?_) (fun c => ?_)
  · rw [if_pos c] at hw
    exact PW.wk (wk_s (wk_s (wk_s (wk_s (wk_s (wk_s (wk_s (wk_s (wk_n (wk_n wk_0)))))))))) (hk132 _ _ _ _ _ hw)
  · rw [if_neg c] at hw
    refine PW.ald0n C dX3_weigh_47 ?_
    refine PW.get0 (v := .ref 113) C cf_3 fl_X3_16 (by decide) oX_112 (fvR (o := 1) rfl) dX3_weigh_48 ?_
    refine PW.ild8 C dX3_weigh_51 ?_
    refine PW.iconst (v := 3) C dX3_weigh_53 (by decide) ?_
    refine PW.callVI2 C ms_X6_at ml_X3_64 dX3_weigh_54 oX_113 ⟨_, _, rfl⟩ (Nat.le_of_ble_eq_true rfl) (by decide) (Nat.le_of_ble_eq_true rfl) (s_X6_at oX_113 hw) ?_
    clear hw
    intro z3 h2 hw
    refine PW.ild3n C dX3_weigh_57 ?_
    refine PW.icmp_ne (tgt := 126) C dX3_weigh_58 (by decide) (fun c => ?_) (fun c => ?_)
    · rw [if_neg c] at hw
      refine PW.inc8 (v := 1) C dX3_weigh_126 (by decide) rfl (by decide) ?_
      refine PW.goto (tgt := 35) C dX3_weigh_129 (by decide) ?_
      exact PW.wk (wk_s (wk_s (wk_s (wk_s (wk_s (wk_s (wk_s (wk_s (wk_s (wk_n wk_0)))))))))) (hkb _ _ _ _ _ _ hw)
    · rw [if_pos c] at hw
      refine PW.ild4 C dX3_weigh_61 ?_
      refine PW.ald0n C dX3_weigh_63 ?_
      refine PW.get0 (v := .ref 113) C cf_3 fl_X3_16 (by decide) oX_112 (fvR (o := 1) rfl) dX3_weigh_64 ?_
      refine PW.ild8 C dX3_weigh_67 ?_
      refine PW.iconst (v := 2) C dX3_weigh_69 (by decide) ?_
      refine PW.callVI2 C ms_X6_at ml_X3_64 dX3_weigh_70 oX_113 ⟨_, _, rfl⟩ (Nat.le_of_ble_eq_true rfl) (by decide) (Nat.le_of_ble_eq_true rfl) (s_X6_at oX_113 hw) ?_
      clear hw
      intro z5 h4 hw
      refine PW.ald0n C dX3_weigh_73 ?_
      refine PW.get0 (v := .ref 113) C cf_3 fl_X3_16 (by decide) oX_112 (fvR (o := 1) rfl) dX3_weigh_74 ?_
      refine PW.ild8 C dX3_weigh_77 ?_
      refine PW.iconst (v := 1) C dX3_weigh_79 (by decide) ?_
      refine PW.callVI2 C ms_X6_at ml_X3_64 dX3_weigh_80 oX_113 ⟨_, _, rfl⟩ (Nat.le_of_ble_eq_true rfl) (by decide) (Nat.le_of_ble_eq_true rfl) (s_X6_at oX_113 hw) ?_
      clear hw
      intro z7 h6 hw
      refine PW.isub C dX3_weigh_83 ?_
      refine PW.iconst (v := 1) C dX3_weigh_84 (by decide) ?_
      refine PW.iadd C dX3_weigh_85 ?_
      refine PW.iadd C dX3_weigh_86 ?_
      replace hw := hw _ rfl
      refine PW.ist4 C dX3_weigh_87 (by decide) rfl ?_
      refine PW.ild5 C dX3_weigh_89 ?_
      refine PW.iconst (v := 1) C dX3_weigh_91 (by decide) ?_
      refine PW.ald0n C dX3_weigh_92 ?_
      refine PW.get0 (v := .ref 113) C cf_3 fl_X3_16 (by decide) oX_112 (fvR (o := 1) rfl) dX3_weigh_93 ?_
      refine PW.ild8 C dX3_weigh_96 ?_
      refine PW.iconst (v := 0) C dX3_weigh_98 (by decide) ?_
      refine PW.callVI2 C ms_X6_at ml_X3_64 dX3_weigh_99 oX_113 ⟨_, _, rfl⟩ (Nat.le_of_ble_eq_true rfl) (by decide) (Nat.le_of_ble_eq_true rfl) (s_X6_at oX_113 hw) ?_
      clear hw
      intro z10 h9 hw
      refine PW.ishl C dX3_weigh_102 ?_
      refine PW.ior C dX3_weigh_103 ?_
      replace hw := hw _ rfl
      refine PW.ist5 C dX3_weigh_104 (by decide) rfl ?_
      refine PW.ild6 C dX3_weigh_106 ?_
      refine PW.ald0n C dX3_weigh_108 ?_
      refine PW.get0 (v := .ref 113) C cf_3 fl_X3_16 (by decide) oX_112 (fvR (o := 1) rfl) dX3_weigh_109 ?_
      refine PW.ild8 C dX3_weigh_112 ?_
      refine PW.iconst (v := 1) C dX3_weigh_114 (by decide) ?_
      refine PW.callVI2 C ms_X6_at ml_X3_64 dX3_weigh_115 oX_113 ⟨_, _, rfl⟩ (Nat.le_of_ble_eq_true rfl) (by decide) (Nat.le_of_ble_eq_true rfl) (s_X6_at oX_113 hw) ?_
      clear hw
      intro z13 h12 hw
      refine PW.mnI C ml_X3_86 (Nat.le_of_ble_eq_true rfl) (by decide) dX3_weigh_118 ?_
      replace hw := hw _ rfl
      refine PW.ist6 C dX3_weigh_121 (by decide) rfl ?_
      refine PW.inc7 (v := 1) C dX3_weigh_123 (by decide) rfl (by decide) ?_
      refine PW.inc8 (v := 1) C dX3_weigh_126 (by decide) rfl (by decide) ?_
      refine PW.goto (tgt := 35) C dX3_weigh_129 (by decide) ?_
      exact PW.wk (wk_s (wk_s (wk_s (wk_s (wk_s (wk_s (wk_s (wk_s (wk_s (wk_n wk_0)))))))))) (hkb _ _ _ _ _ _ hw)
theorem l_X3_weigh_35 {D : va_G} {ca : Nat → ClassId} {ad : Nat → Nat} {K : Kt} {r1 : Nat} {r2 : Nat} {k132 : Int32 → Int32 → Int32 → Int32 → PH → Prop} {Q : PH → Prop} {x3 : Int32} (C : CX (GX D ca ad) (XS (GX D ca ad)) cX3_weigh RX3 10 none 5 K) (hr1 : oX r1 8) (hr2 : oX r2 0) (hk132 : ∀ (x4 : Int32) (x5 : Int32) (x6 : Int32) (x7 : Int32) (h : PH), k132 x4 x5 x6 x7 h → PW (GX D ca ad) K 10 (qV Q) h 132 [some (.ref 112), some (.ref r1), some (.ref r2), some (.int x3), some (.int x4), some (.int x5), some (.int x6), some (.int x7), none, none] []) : ∀ (n : Nat) (x4 : Int32) (x5 : Int32) (x6 : Int32) (x7 : Int32) (x8 : Int32) (h : PH), Lp5 (w_X3_weigh_35 r1 r2 k132 Q x3) n x4 x5 x6 x7 x8 h → PW (GX D ca ad) K 10 (qV Q) h 35 [some (.ref 112), some (.ref r1), some (.ref r2), some (.int x3), some (.int x4), some (.int x5), some (.int x6), some (.int x7), some (.int x8), none] [] := by
  intro n
  induction n with
  | zero => intro x4 x5 x6 x7 x8 h hw; exact hw.elim
  | succ n ih => intro x4 x5 x6 x7 x8 h hw; exact b_X3_weigh_35 C hr1 hr2 hk132 (fun x4 x5 x6 x7 x8 h hw => ih x4 x5 x6 x7 x8 h hw) hw
def w_X3_weigh_2 (r1 : Nat) (r2 : Nat) (k233 : PH → Prop) (Q : PH → Prop) (kb : Int32 → PH → Prop) (x3 : Int32) (h : PH) : Prop :=
  if (gI h 115 3) ≤ x3 then (k233 h) else (w_X3_survey r2 x3 h (fun h1 => ∃ n, Lp5 (w_X3_weigh_35 r1 r2 (fun y16 y17 y18 y19 h15 => w_X3_holdersSurveyed h15 (fun z21 h20 => w_J6_bitCount_0f7a4 y17 h20 (fun z23 h22 => w_J6_bitCount_0f7a4 z21 h22 (fun z25 h24 => w_X3_worth r1 y16 z23 z25 y18 h24 (fun z27 h26 => w_X6_put 115 x3 0 y16 h26 (fun h28 => w_J6_bitCount_0f7a4 y17 h28 (fun z30 h29 => w_X6_put 115 x3 1 z30 h29 (fun h31 => w_X6_put 115 x3 2 z21 h31 (fun h32 => w_X6_put 115 x3 3 z27 h32 (fun h33 => w_X6_put 115 x3 4 y18 h33 (fun h34 => w_X6_put 115 x3 5 y19 h34 (fun h35 => kb (x3 + 1) h35)))))))))))) Q x3) n 0 0 48 0 0 h1))
set_option maxRecDepth 8000 in
theorem b_X3_weigh_2 {D : va_G} {ca : Nat → ClassId} {ad : Nat → Nat} {K : Kt} {r1 : Nat} {r2 : Nat} {k233 : PH → Prop} {kb : Int32 → PH → Prop} {Q : PH → Prop} {x3 : Int32} {h : PH} (C : CX (GX D ca ad) (XS (GX D ca ad)) cX3_weigh RX3 10 none 5 K) (hr1 : oX r1 8) (hr2 : oX r2 0) (hk233 : ∀ (h : PH), k233 h → PW (GX D ca ad) K 10 (qV Q) h 233 [none, none, none, none, none, none, none, none, none, none] []) (hkb : ∀ (x3 : Int32) (h : PH), kb x3 h → PW (GX D ca ad) K 10 (qV Q) h 2 [some (.ref 112), some (.ref r1), some (.ref r2), some (.int x3), none, none, none, none, none, none] []) (hw : w_X3_weigh_2 r1 r2 k233 Q kb x3 h) : PW (GX D ca ad) K 10 (qV Q) h 2 [some (.ref 112), some (.ref r1), some (.ref r2), some (.int x3), none, none, none, none, none, none] [] := by
  unfold w_X3_weigh_2 at hw
  refine PW.ild3n C dX3_weigh_2 ?_
  refine PW.ald0n C dX3_weigh_3 ?_
  refine PW.get0 (v := .ref 115) C cf_3 fl_X3_20 (by decide) oX_112 (fvR (o := 3) rfl) dX3_weigh_4 ?_
  refine PW.getN0 C cf_6 fl_X3_47 (by decide) oX_115 (fvI rfl) dX3_weigh_7 ?_
  refine PW.icmp_ge (tgt := 233) C dX3_weigh_10 (by decide) (fun c => ?_) (fun c => ?_)
  · rw [if_pos c] at hw
    exact PW.wk (wk_n (wk_n (wk_n (wk_n (wk_n (wk_n (wk_n (wk_n (wk_n (wk_n wk_0)))))))))) (hk233 _ hw)
  · rw [if_neg c] at hw
    refine PW.ald0n C dX3_weigh_13 ?_
    refine PW.ald2n C dX3_weigh_14 ?_
    refine PW.ild3n C dX3_weigh_15 ?_
    refine PW.callVV2 C ms_X3_survey ml_X3_82 dX3_weigh_16 oX_112 ⟨_, _, rfl⟩ (Nat.le_of_ble_eq_true rfl) (by decide) (Nat.le_of_ble_eq_true rfl) (s_X3_survey hr2 hw) ?_
    clear hw
    intro h1 hw
    refine PW.iconst (v := 0) C dX3_weigh_19 (by decide) ?_
    refine PW.ist4 C dX3_weigh_20 (by decide) rfl ?_
    refine PW.iconst (v := 0) C dX3_weigh_22 (by decide) ?_
    refine PW.ist5 C dX3_weigh_23 (by decide) rfl ?_
    refine PW.bipush (v := 48) C dX3_weigh_25 (by decide) ?_
    refine PW.ist6 C dX3_weigh_27 (by decide) rfl ?_
    refine PW.iconst (v := 0) C dX3_weigh_29 (by decide) ?_
    refine PW.ist7 C dX3_weigh_30 (by decide) rfl ?_
    refine PW.iconst (v := 0) C dX3_weigh_32 (by decide) ?_
    refine PW.ist8 C dX3_weigh_33 (by decide) rfl ?_
    obtain ⟨n, hw⟩ := hw
    refine PW.wk (wk_s (wk_s (wk_s (wk_s (wk_s (wk_s (wk_s (wk_s (wk_s (wk_n wk_0)))))))))) (l_X3_weigh_35 C hr1 hr2 ?_ n _ _ _ _ _ _ hw)
    · intro y16 y17 y18 y19 h15 hw
      refine PW.ald0n C dX3_weigh_132 ?_
      refine PW.callVI0 C ms_X3_holdersSurveyed ml_X3_91 dX3_weigh_133 oX_112 ⟨_, _, rfl⟩ (Nat.le_of_ble_eq_true rfl) (by decide) (Nat.le_of_ble_eq_true rfl) (s_X3_holdersSurveyed hw) ?_
      clear hw
      intro z21 h20 hw
      refine PW.ist8 C dX3_weigh_136 (by decide) rfl ?_
      refine PW.ald1n C dX3_weigh_138 ?_
      refine PW.ild4 C dX3_weigh_139 ?_
      refine PW.ild5 C dX3_weigh_141 ?_
      refine PW.callSI1 C ms_J6_bitCount_0f7a4 ml_X3_95 dX3_weigh_143 (Nat.le_of_ble_eq_true rfl) (by decide) (Nat.le_of_ble_eq_true rfl) (s_J6_bitCount_0f7a4 hw) ?_
      clear hw
      intro z23 h22 hw
      refine PW.ild8 C dX3_weigh_146 ?_
      refine PW.callSI1 C ms_J6_bitCount_0f7a4 ml_X3_95 dX3_weigh_148 (Nat.le_of_ble_eq_true rfl) (by decide) (Nat.le_of_ble_eq_true rfl) (s_J6_bitCount_0f7a4 hw) ?_
      clear hw
      intro z25 h24 hw
      refine PW.ild6 C dX3_weigh_151 ?_
      refine PW.callSI5 C ms_X3_worth ml_X3_101 dX3_weigh_153 (Nat.le_of_ble_eq_true rfl) (by decide) (Nat.le_of_ble_eq_true rfl) (s_X3_worth hr1 hw) ?_
      clear hw
      intro z27 h26 hw
      refine PW.ist9 C dX3_weigh_156 (by decide) rfl ?_
      refine PW.ald0n C dX3_weigh_158 ?_
      refine PW.get0 (v := .ref 115) C cf_3 fl_X3_20 (by decide) oX_112 (fvR (o := 3) rfl) dX3_weigh_159 ?_
      refine PW.ild3n C dX3_weigh_162 ?_
      refine PW.iconst (v := 0) C dX3_weigh_163 (by decide) ?_
      refine PW.ild4 C dX3_weigh_164 ?_
      refine PW.callVV3 C ms_X6_put ml_X3_75 dX3_weigh_166 oX_115 ⟨_, _, rfl⟩ (Nat.le_of_ble_eq_true rfl) (by decide) (Nat.le_of_ble_eq_true rfl) (s_X6_put oX_115 hw) ?_
      clear hw
      intro h28 hw
      refine PW.ald0n C dX3_weigh_169 ?_
      refine PW.get0 (v := .ref 115) C cf_3 fl_X3_20 (by decide) oX_112 (fvR (o := 3) rfl) dX3_weigh_170 ?_
      refine PW.ild3n C dX3_weigh_173 ?_
      refine PW.iconst (v := 1) C dX3_weigh_174 (by decide) ?_
      refine PW.ild5 C dX3_weigh_175 ?_
      refine PW.callSI1 C ms_J6_bitCount_0f7a4 ml_X3_95 dX3_weigh_177 (Nat.le_of_ble_eq_true rfl) (by decide) (Nat.le_of_ble_eq_true rfl) (s_J6_bitCount_0f7a4 hw) ?_
      clear hw
      intro z30 h29 hw
      refine PW.callVV3 C ms_X6_put ml_X3_75 dX3_weigh_180 oX_115 ⟨_, _, rfl⟩ (Nat.le_of_ble_eq_true rfl) (by decide) (Nat.le_of_ble_eq_true rfl) (s_X6_put oX_115 hw) ?_
      clear hw
      intro h31 hw
      refine PW.ald0n C dX3_weigh_183 ?_
      refine PW.get0 (v := .ref 115) C cf_3 fl_X3_20 (by decide) oX_112 (fvR (o := 3) rfl) dX3_weigh_184 ?_
      refine PW.ild3n C dX3_weigh_187 ?_
      refine PW.iconst (v := 2) C dX3_weigh_188 (by decide) ?_
      refine PW.ild8 C dX3_weigh_189 ?_
      refine PW.callVV3 C ms_X6_put ml_X3_75 dX3_weigh_191 oX_115 ⟨_, _, rfl⟩ (Nat.le_of_ble_eq_true rfl) (by decide) (Nat.le_of_ble_eq_true rfl) (s_X6_put oX_115 hw) ?_
      clear hw
      intro h32 hw
      refine PW.ald0n C dX3_weigh_194 ?_
      refine PW.get0 (v := .ref 115) C cf_3 fl_X3_20 (by decide) oX_112 (fvR (o := 3) rfl) dX3_weigh_195 ?_
      refine PW.ild3n C dX3_weigh_198 ?_
      refine PW.iconst (v := 3) C dX3_weigh_199 (by decide) ?_
      refine PW.ild9 C dX3_weigh_200 ?_
      refine PW.callVV3 C ms_X6_put ml_X3_75 dX3_weigh_202 oX_115 ⟨_, _, rfl⟩ (Nat.le_of_ble_eq_true rfl) (by decide) (Nat.le_of_ble_eq_true rfl) (s_X6_put oX_115 hw) ?_
      clear hw
      intro h33 hw
      refine PW.ald0n C dX3_weigh_205 ?_
      refine PW.get0 (v := .ref 115) C cf_3 fl_X3_20 (by decide) oX_112 (fvR (o := 3) rfl) dX3_weigh_206 ?_
      refine PW.ild3n C dX3_weigh_209 ?_
      refine PW.iconst (v := 4) C dX3_weigh_210 (by decide) ?_
      refine PW.ild6 C dX3_weigh_211 ?_
      refine PW.callVV3 C ms_X6_put ml_X3_75 dX3_weigh_213 oX_115 ⟨_, _, rfl⟩ (Nat.le_of_ble_eq_true rfl) (by decide) (Nat.le_of_ble_eq_true rfl) (s_X6_put oX_115 hw) ?_
      clear hw
      intro h34 hw
      refine PW.ald0n C dX3_weigh_216 ?_
      refine PW.get0 (v := .ref 115) C cf_3 fl_X3_20 (by decide) oX_112 (fvR (o := 3) rfl) dX3_weigh_217 ?_
      refine PW.ild3n C dX3_weigh_220 ?_
      refine PW.iconst (v := 5) C dX3_weigh_221 (by decide) ?_
      refine PW.ild7 C dX3_weigh_222 ?_
      refine PW.callVV3 C ms_X6_put ml_X3_75 dX3_weigh_224 oX_115 ⟨_, _, rfl⟩ (Nat.le_of_ble_eq_true rfl) (by decide) (Nat.le_of_ble_eq_true rfl) (s_X6_put oX_115 hw) ?_
      clear hw
      intro h35 hw
      refine PW.inc3 (v := 1) C dX3_weigh_227 (by decide) rfl (by decide) ?_
      refine PW.goto (tgt := 2) C dX3_weigh_230 (by decide) ?_
      exact PW.wk (wk_s (wk_s (wk_s (wk_s (wk_n (wk_n (wk_n (wk_n (wk_n (wk_n wk_0)))))))))) (hkb _ _ hw)
theorem l_X3_weigh_2 {D : va_G} {ca : Nat → ClassId} {ad : Nat → Nat} {K : Kt} {r1 : Nat} {r2 : Nat} {k233 : PH → Prop} {Q : PH → Prop} (C : CX (GX D ca ad) (XS (GX D ca ad)) cX3_weigh RX3 10 none 5 K) (hr1 : oX r1 8) (hr2 : oX r2 0) (hk233 : ∀ (h : PH), k233 h → PW (GX D ca ad) K 10 (qV Q) h 233 [none, none, none, none, none, none, none, none, none, none] []) : ∀ (n : Nat) (x3 : Int32) (h : PH), Lp1 (w_X3_weigh_2 r1 r2 k233 Q) n x3 h → PW (GX D ca ad) K 10 (qV Q) h 2 [some (.ref 112), some (.ref r1), some (.ref r2), some (.int x3), none, none, none, none, none, none] [] := by
  intro n
  induction n with
  | zero => intro x3 h hw; exact hw.elim
  | succ n ih => intro x3 h hw; exact b_X3_weigh_2 C hr1 hr2 hk233 (fun x3 h hw => ih x3 h hw) hw
def w_X3_weigh (r1 : Nat) (r2 : Nat) (h : PH) (Q : PH → Prop) : Prop :=
  ∃ n, Lp1 (w_X3_weigh_2 r1 r2 (fun h36 => Q h36) Q) n 0 h
set_option maxRecDepth 8000 in
theorem s_X3_weigh {D : va_G} {ca : Nat → ClassId} {ad : Nat → Nat} {l : Launch} {r1 : Nat} {r2 : Nat} {h : PH} {Q : PH → Prop} (hr1 : oX r1 8) (hr2 : oX r2 0) (hw : w_X3_weigh r1 r2 h Q) : Sp (GX D ca ad) (XS (GX D ca ad)) l 5 yX3_weigh cX3_weigh 10 none [.ref 112, .ref r1, .ref r2] h (qV Q) := by
  refine Sp.of (own := RX3) [some (.ref 112), some (.ref r1), some (.ref r2), none, none, none, none, none, none, none] (by decide +kernel) rfl rfl (Nat.le_of_ble_eq_true rfl) (fun K hl C => ?_)
  subst hl
  unfold w_X3_weigh at hw
  refine PW.iconst (v := 0) C dX3_weigh_0 (by decide) ?_
  refine PW.ist3n C dX3_weigh_1 (by decide) rfl ?_
  obtain ⟨n, hw⟩ := hw
  refine PW.wk (wk_s (wk_s (wk_s (wk_s (wk_n (wk_n (wk_n (wk_n (wk_n (wk_n wk_0)))))))))) (l_X3_weigh_2 C hr1 hr2 ?_ n _ _ hw)
  · intro h36 hw
    exact PW.vret C dX3_weigh_233 ⟨rfl, hw⟩
def w_X3_minutesOfSet_4 (k30 : Int32 → PH → Prop) (Q : Int32 → PH → Prop) (x1 : Int32) (kb : Int32 → Int32 → PH → Prop) (x2 : Int32) (x3 : Int32) (h : PH) : Prop :=
  if 4 ≤ x3 then (k30 x2 h) else (vp_in x3 4 ∧ ∀ (y2 : Int32), y2 = (x2 + ((((x1 : Int32) >>> ((x3 : Int32) &&& 31)) &&& 1) * (gI h 119 (iN x3)))) → kb y2 (x3 + 1) h)
set_option maxRecDepth 8000 in
theorem b_X3_minutesOfSet_4 {D : va_G} {ca : Nat → ClassId} {ad : Nat → Nat} {K : Kt} {k30 : Int32 → PH → Prop} {kb : Int32 → Int32 → PH → Prop} {Q : Int32 → PH → Prop} {x1 : Int32} {x2 : Int32} {x3 : Int32} {h : PH} (C : CX (GX D ca ad) (XS (GX D ca ad)) cX3_minutesOfSet RX3 4 (some .int) 1 K) (hk30 : ∀ (x2 : Int32) (h : PH), k30 x2 h → PW (GX D ca ad) K 4 (qI Q) h 30 [none, none, some (.int x2), none] []) (hkb : ∀ (x2 : Int32) (x3 : Int32) (h : PH), kb x2 x3 h → PW (GX D ca ad) K 4 (qI Q) h 4 [some (.ref 112), some (.int x1), some (.int x2), some (.int x3)] []) (hw : w_X3_minutesOfSet_4 k30 Q x1 kb x2 x3 h) : PW (GX D ca ad) K 4 (qI Q) h 4 [some (.ref 112), some (.int x1), some (.int x2), some (.int x3)] [] := by
  unfold w_X3_minutesOfSet_4 at hw
  refine PW.ild3n C dX3_minutesOfSet_4 ?_
  refine PW.iconst (v := 4) C dX3_minutesOfSet_5 (by decide) ?_
  refine PW.icmp_ge (tgt := 30) C dX3_minutesOfSet_6 (by decide) (fun c => ?_) (fun c => ?_)
  · rw [if_pos c] at hw
    exact PW.wk (wk_n (wk_n (wk_s (wk_n wk_0)))) (hk30 _ _ hw)
  · rw [if_neg c] at hw
    refine PW.ild2n C dX3_minutesOfSet_9 ?_
    refine PW.ild1n C dX3_minutesOfSet_10 ?_
    refine PW.ild3n C dX3_minutesOfSet_11 ?_
    refine PW.ishr C dX3_minutesOfSet_12 ?_
    refine PW.iconst (v := 1) C dX3_minutesOfSet_13 (by decide) ?_
    refine PW.iand C dX3_minutesOfSet_14 ?_
    refine PW.ald0n C dX3_minutesOfSet_15 ?_
    refine PW.get0 (v := .ref 119) C cf_3 fl_X3_30 (by decide) oX_112 (fvR (o := 7) rfl) dX3_minutesOfSet_16 ?_
    refine PW.ild3n C dX3_minutesOfSet_19 ?_
    obtain ⟨hc1, hw⟩ := hw
    refine PW.iald C dX3_minutesOfSet_20 aX_119 hc1 ?_
    refine PW.imul C dX3_minutesOfSet_21 ?_
    refine PW.iadd C dX3_minutesOfSet_22 ?_
    replace hw := hw _ rfl
    refine PW.ist2n C dX3_minutesOfSet_23 (by decide) rfl ?_
    refine PW.inc3 (v := 1) C dX3_minutesOfSet_24 (by decide) rfl (by decide) ?_
    refine PW.goto (tgt := 4) C dX3_minutesOfSet_27 (by decide) ?_
    exact PW.wk (wk_s (wk_s (wk_s (wk_s wk_0)))) (hkb _ _ _ hw)
theorem l_X3_minutesOfSet_4 {D : va_G} {ca : Nat → ClassId} {ad : Nat → Nat} {K : Kt} {k30 : Int32 → PH → Prop} {Q : Int32 → PH → Prop} {x1 : Int32} (C : CX (GX D ca ad) (XS (GX D ca ad)) cX3_minutesOfSet RX3 4 (some .int) 1 K) (hk30 : ∀ (x2 : Int32) (h : PH), k30 x2 h → PW (GX D ca ad) K 4 (qI Q) h 30 [none, none, some (.int x2), none] []) : ∀ (n : Nat) (x2 : Int32) (x3 : Int32) (h : PH), Lp2 (w_X3_minutesOfSet_4 k30 Q x1) n x2 x3 h → PW (GX D ca ad) K 4 (qI Q) h 4 [some (.ref 112), some (.int x1), some (.int x2), some (.int x3)] [] := by
  intro n
  induction n with
  | zero => intro x2 x3 h hw; exact hw.elim
  | succ n ih => intro x2 x3 h hw; exact b_X3_minutesOfSet_4 C hk30 (fun x2 x3 h hw => ih x2 x3 h hw) hw
def w_X3_minutesOfSet (x1 : Int32) (h : PH) (Q : Int32 → PH → Prop) : Prop :=
  ∃ n, Lp2 (w_X3_minutesOfSet_4 (fun y4 h3 => Q y4 h3) Q x1) n 0 0 h
set_option maxRecDepth 8000 in
theorem s_X3_minutesOfSet {D : va_G} {ca : Nat → ClassId} {ad : Nat → Nat} {l : Launch} {x1 : Int32} {h : PH} {Q : Int32 → PH → Prop} (hw : w_X3_minutesOfSet x1 h Q) : Sp (GX D ca ad) (XS (GX D ca ad)) l 1 yX3_minutesOfSet cX3_minutesOfSet 4 (some .int) [.ref 112, .int x1] h (qI Q) := by
  refine Sp.of (own := RX3) [some (.ref 112), some (.int x1), none, none] (by decide +kernel) rfl rfl (Nat.le_of_ble_eq_true rfl) (fun K hl C => ?_)
  subst hl
  unfold w_X3_minutesOfSet at hw
  refine PW.iconst (v := 0) C dX3_minutesOfSet_0 (by decide) ?_
  refine PW.ist2n C dX3_minutesOfSet_1 (by decide) rfl ?_
  refine PW.iconst (v := 0) C dX3_minutesOfSet_2 (by decide) ?_
  refine PW.ist3n C dX3_minutesOfSet_3 (by decide) rfl ?_
  obtain ⟨n, hw⟩ := hw
  refine PW.wk (wk_s (wk_s (wk_s (wk_s wk_0)))) (l_X3_minutesOfSet_4 C ?_ n _ _ _ hw)
  · intro y4 h3 hw
    refine PW.ild2n C dX3_minutesOfSet_30 ?_
    exact PW.iret C dX3_minutesOfSet_31 ⟨_, rfl, hw⟩
def w_X3_worthOfSet_15 (r1 : Nat) (k61 : Int32 → Int32 → PH → Prop) (Q : Int32 → PH → Prop) (x2 : Int32) (kb : Int32 → Int32 → Int32 → PH → Prop) (x3 : Int32) (x4 : Int32) (x5 : Int32) (h : PH) : Prop :=
  if 4 ≤ x5 then (k61 x3 x4 h) else (if (((x2 : Int32) >>> ((x5 : Int32) &&& 31)) &&& 1) = 1 then (vp_in x5 4 ∧ ∀ (y2 : Int32), y2 = (x3 ||| (gI h 120 (iN x5))) → vp_in x5 4 ∧ ∀ (y4 : Int32), y4 = (mnI x4 (gI h 121 (iN x5))) → kb y2 y4 (x5 + 1) h) else (kb x3 x4 (x5 + 1) h))
set_option maxRecDepth 8000 in
theorem b_X3_worthOfSet_15 {D : va_G} {ca : Nat → ClassId} {ad : Nat → Nat} {K : Kt} {r1 : Nat} {k61 : Int32 → Int32 → PH → Prop} {kb : Int32 → Int32 → Int32 → PH → Prop} {Q : Int32 → PH → Prop} {x2 : Int32} {x3 : Int32} {x4 : Int32} {x5 : Int32} {h : PH} (C : CX (GX D ca ad) (XS (GX D ca ad)) cX3_worthOfSet RX3 6 (some .int) 4 K) (hr1 : oX r1 8) (hk61 : ∀ (x3 : Int32) (x4 : Int32) (h : PH), k61 x3 x4 h → PW (GX D ca ad) K 6 (qI Q) h 61 [some (.ref 112), some (.ref r1), some (.int x2), some (.int x3), some (.int x4), none] []) (hkb : ∀ (x3 : Int32) (x4 : Int32) (x5 : Int32) (h : PH), kb x3 x4 x5 h → PW (GX D ca ad) K 6 (qI Q) h 15 [some (.ref 112), some (.ref r1), some (.int x2), some (.int x3), some (.int x4), some (.int x5)] []) (hw : w_X3_worthOfSet_15 r1 k61 Q x2 kb x3 x4 x5 h) : PW (GX D ca ad) K 6 (qI Q) h 15 [some (.ref 112), some (.ref r1), some (.int x2), some (.int x3), some (.int x4), some (.int x5)] [] := by
  unfold w_X3_worthOfSet_15 at hw
  refine PW.ild5 C dX3_worthOfSet_15 ?_
  refine PW.iconst (v := 4) C dX3_worthOfSet_17 (by decide) ?_
  refine PW.icmp_ge (tgt := 61) C dX3_worthOfSet_18 (by decide) (fun c => ?_) (fun c => ?_)
  · rw [if_pos c] at hw
    exact PW.wk (wk_s (wk_s (wk_s (wk_s (wk_s (wk_n wk_0)))))) (hk61 _ _ _ hw)
  · rw [if_neg c] at hw
    refine PW.ild2n C dX3_worthOfSet_21 ?_
    refine PW.ild5 C dX3_worthOfSet_22 ?_
    refine PW.ishr C dX3_worthOfSet_24 ?_
    refine PW.iconst (v := 1) C dX3_worthOfSet_25 (by decide) ?_
    refine PW.iand C dX3_worthOfSet_26 ?_
    refine PW.iconst (v := 1) C dX3_worthOfSet_27 (by decide) ?_
    refine PW.icmp_ne (tgt := 55) C dX3_worthOfSet_28 (by decide) (fun c => ?_) (fun c => ?_)
    · rw [if_neg c] at hw
      refine PW.inc5 (v := 1) C dX3_worthOfSet_55 (by decide) rfl (by decide) ?_
      refine PW.goto (tgt := 15) C dX3_worthOfSet_58 (by decide) ?_
      exact PW.wk (wk_s (wk_s (wk_s (wk_s (wk_s (wk_s wk_0)))))) (hkb _ _ _ _ hw)
    · rw [if_pos c] at hw
      refine PW.ild3n C dX3_worthOfSet_31 ?_
      refine PW.ald0n C dX3_worthOfSet_32 ?_
      refine PW.get0 (v := .ref 120) C cf_3 fl_X3_33 (by decide) oX_112 (fvR (o := 8) rfl) dX3_worthOfSet_33 ?_
      refine PW.ild5 C dX3_worthOfSet_36 ?_
      obtain ⟨hc1, hw⟩ := hw
      refine PW.iald C dX3_worthOfSet_38 aX_120 hc1 ?_
      refine PW.ior C dX3_worthOfSet_39 ?_
      replace hw := hw _ rfl
      refine PW.ist3n C dX3_worthOfSet_40 (by decide) rfl ?_
      refine PW.ild4 C dX3_worthOfSet_41 ?_
      refine PW.ald0n C dX3_worthOfSet_43 ?_
      refine PW.get0 (v := .ref 121) C cf_3 fl_X3_36 (by decide) oX_112 (fvR (o := 9) rfl) dX3_worthOfSet_44 ?_
      refine PW.ild5 C dX3_worthOfSet_47 ?_
      obtain ⟨hc3, hw⟩ := hw
      refine PW.iald C dX3_worthOfSet_49 aX_121 hc3 ?_
      refine PW.mnI C ml_X3_86 (Nat.le_of_ble_eq_true rfl) (by decide) dX3_worthOfSet_50 ?_
      replace hw := hw _ rfl
      refine PW.ist4 C dX3_worthOfSet_53 (by decide) rfl ?_
      refine PW.inc5 (v := 1) C dX3_worthOfSet_55 (by decide) rfl (by decide) ?_
      refine PW.goto (tgt := 15) C dX3_worthOfSet_58 (by decide) ?_
      exact PW.wk (wk_s (wk_s (wk_s (wk_s (wk_s (wk_s wk_0)))))) (hkb _ _ _ _ hw)
theorem l_X3_worthOfSet_15 {D : va_G} {ca : Nat → ClassId} {ad : Nat → Nat} {K : Kt} {r1 : Nat} {k61 : Int32 → Int32 → PH → Prop} {Q : Int32 → PH → Prop} {x2 : Int32} (C : CX (GX D ca ad) (XS (GX D ca ad)) cX3_worthOfSet RX3 6 (some .int) 4 K) (hr1 : oX r1 8) (hk61 : ∀ (x3 : Int32) (x4 : Int32) (h : PH), k61 x3 x4 h → PW (GX D ca ad) K 6 (qI Q) h 61 [some (.ref 112), some (.ref r1), some (.int x2), some (.int x3), some (.int x4), none] []) : ∀ (n : Nat) (x3 : Int32) (x4 : Int32) (x5 : Int32) (h : PH), Lp3 (w_X3_worthOfSet_15 r1 k61 Q x2) n x3 x4 x5 h → PW (GX D ca ad) K 6 (qI Q) h 15 [some (.ref 112), some (.ref r1), some (.int x2), some (.int x3), some (.int x4), some (.int x5)] [] := by
  intro n
  induction n with
  | zero => intro x3 x4 x5 h hw; exact hw.elim
  | succ n ih => intro x3 x4 x5 h hw; exact b_X3_worthOfSet_15 C hr1 hk61 (fun x3 x4 x5 h hw => ih x3 x4 x5 h hw) hw
def w_X3_worthOfSet (r1 : Nat) (x2 : Int32) (h : PH) (Q : Int32 → PH → Prop) : Prop :=
  if x2 = 0 then (Q 0 h) else (∃ n, Lp3 (w_X3_worthOfSet_15 r1 (fun y6 y7 h5 => w_X3_minutesOfSet x2 h5 (fun z9 h8 => w_J6_bitCount_0f7a4 y6 h8 (fun z11 h10 => w_J6_bitCount_0f7a4 x2 h10 (fun z13 h12 => w_X3_worth r1 z9 z11 z13 y7 h12 (fun z15 h14 => Q z15 h14))))) Q x2) n 0 48 0 h)
set_option maxRecDepth 8000 in
theorem s_X3_worthOfSet {D : va_G} {ca : Nat → ClassId} {ad : Nat → Nat} {l : Launch} {r1 : Nat} {x2 : Int32} {h : PH} {Q : Int32 → PH → Prop} (hr1 : oX r1 8) (hw : w_X3_worthOfSet r1 x2 h Q) : Sp (GX D ca ad) (XS (GX D ca ad)) l 4 yX3_worthOfSet cX3_worthOfSet 6 (some .int) [.ref 112, .ref r1, .int x2] h (qI Q) := by
  refine Sp.of (own := RX3) [some (.ref 112), some (.ref r1), some (.int x2), none, none, none] (by decide +kernel) rfl rfl (Nat.le_of_ble_eq_true rfl) (fun K hl C => ?_)
  subst hl
  unfold w_X3_worthOfSet at hw
  refine PW.ild2n C dX3_worthOfSet_0 ?_
  refine PW.if_ne (tgt := 6) C dX3_worthOfSet_1 (by decide) (fun c => ?_) (fun c => ?_)
  · rw [if_neg c] at hw
    refine PW.iconst (v := 0) C dX3_worthOfSet_6 (by decide) ?_
    refine PW.ist3n C dX3_worthOfSet_7 (by decide) rfl ?_
    refine PW.bipush (v := 48) C dX3_worthOfSet_8 (by decide) ?_
    refine PW.ist4 C dX3_worthOfSet_10 (by decide) rfl ?_
    refine PW.iconst (v := 0) C dX3_worthOfSet_12 (by decide) ?_
    refine PW.ist5 C dX3_worthOfSet_13 (by decide) rfl ?_
    obtain ⟨n, hw⟩ := hw
    refine PW.wk (wk_s (wk_s (wk_s (wk_s (wk_s (wk_s wk_0)))))) (l_X3_worthOfSet_15 C hr1 ?_ n _ _ _ _ hw)
    · intro y6 y7 h5 hw
      refine PW.ald1n C dX3_worthOfSet_61 ?_
      refine PW.ald0n C dX3_worthOfSet_62 ?_
      refine PW.ild2n C dX3_worthOfSet_63 ?_
      refine PW.callVI1 C ms_X3_minutesOfSet ml_X3_130 dX3_worthOfSet_64 oX_112 ⟨_, _, rfl⟩ (Nat.le_of_ble_eq_true rfl) (by decide) (Nat.le_of_ble_eq_true rfl) (s_X3_minutesOfSet hw) ?_
      clear hw
      intro z9 h8 hw
      refine PW.ild3n C dX3_worthOfSet_67 ?_
      refine PW.callSI1 C ms_J6_bitCount_0f7a4 ml_X3_95 dX3_worthOfSet_68 (Nat.le_of_ble_eq_true rfl) (by decide) (Nat.le_of_ble_eq_true rfl) (s_J6_bitCount_0f7a4 hw) ?_
      clear hw
      intro z11 h10 hw
      refine PW.ild2n C dX3_worthOfSet_71 ?_
      refine PW.callSI1 C ms_J6_bitCount_0f7a4 ml_X3_95 dX3_worthOfSet_72 (Nat.le_of_ble_eq_true rfl) (by decide) (Nat.le_of_ble_eq_true rfl) (s_J6_bitCount_0f7a4 hw) ?_
      clear hw
      intro z13 h12 hw
      refine PW.ild4 C dX3_worthOfSet_75 ?_
      refine PW.callSI5 C ms_X3_worth ml_X3_101 dX3_worthOfSet_77 (Nat.le_of_ble_eq_true rfl) (by decide) (Nat.le_of_ble_eq_true rfl) (s_X3_worth hr1 hw) ?_
      clear hw
      intro z15 h14 hw
      exact PW.iret C dX3_worthOfSet_80 ⟨_, rfl, hw⟩
  · rw [if_pos c] at hw
    refine PW.iconst (v := 0) C dX3_worthOfSet_4 (by decide) ?_
    exact PW.iret C dX3_worthOfSet_5 ⟨_, rfl, hw⟩
def w_X3_minutesOf (r1 : Nat) (x2 : Int32) (x3 : Int32) (h : PH) (Q : Int32 → PH → Prop) : Prop :=
  w_X3_survey r1 x2 h (fun h1 => w_X3_minutesOfSet ((1 : Int32) <<< ((x3 : Int32) &&& 31)) h1 (fun z3 h2 => Q z3 h2))
set_option maxRecDepth 8000 in
theorem s_X3_minutesOf {D : va_G} {ca : Nat → ClassId} {ad : Nat → Nat} {l : Launch} {r1 : Nat} {x2 : Int32} {x3 : Int32} {h : PH} {Q : Int32 → PH → Prop} (hr1 : oX r1 0) (hw : w_X3_minutesOf r1 x2 x3 h Q) : Sp (GX D ca ad) (XS (GX D ca ad)) l 5 yX3_minutesOf cX3_minutesOf 4 (some .int) [.ref 112, .ref r1, .int x2, .int x3] h (qI Q) := by
  refine Sp.of (own := RX3) [some (.ref 112), some (.ref r1), some (.int x2), some (.int x3)] (by decide +kernel) rfl rfl (Nat.le_of_ble_eq_true rfl) (fun K hl C => ?_)
  subst hl
  unfold w_X3_minutesOf at hw
  refine PW.ald0n C dX3_minutesOf_0 ?_
  refine PW.ald1n C dX3_minutesOf_1 ?_
  refine PW.ild2n C dX3_minutesOf_2 ?_
  refine PW.callVV2 C ms_X3_survey ml_X3_82 dX3_minutesOf_3 oX_112 ⟨_, _, rfl⟩ (Nat.le_of_ble_eq_true rfl) (by decide) (Nat.le_of_ble_eq_true rfl) (s_X3_survey hr1 hw) ?_
  clear hw
  intro h1 hw
  refine PW.ald0n C dX3_minutesOf_6 ?_
  refine PW.iconst (v := 1) C dX3_minutesOf_7 (by decide) ?_
  refine PW.ild3n C dX3_minutesOf_8 ?_
  refine PW.ishl C dX3_minutesOf_9 ?_
  refine PW.callVI1 C ms_X3_minutesOfSet ml_X3_130 dX3_minutesOf_10 oX_112 ⟨_, _, rfl⟩ (Nat.le_of_ble_eq_true rfl) (by decide) (Nat.le_of_ble_eq_true rfl) (s_X3_minutesOfSet hw) ?_
  clear hw
  intro z3 h2 hw
  exact PW.iret C dX3_minutesOf_13 ⟨_, rfl, hw⟩
def w_X3_partOf_43 (r1 : Nat) (r2 : Nat) (k129 : Int32 → PH → Prop) (Q : Int32 → PH → Prop) (x5 : Int32) (x6 : Int32) (x7 : Int32) (kb : Int32 → Int32 → PH → Prop) (x8 : Int32) (x9 : Int32) (h : PH) : Prop :=
  if 16 ≤ x9 then (k129 x8 h) else (w_J6_bitCount_0f7a4 x9 h (fun z9 h8 => if (x9 &&& ((x5 &&& (x6 ^^^ (-1))) ^^^ (-1))) = 0 then (if x7 < z9 then (kb x8 (x9 + 1) h8) else (vp_in z9 5 ∧ vp_in (x7 - z9) 5 ∧ ∀ (y12 : Int32), y12 = ((sORDERS (iN z9)) * (sORDERS (iN (x7 - z9)))) → w_X3_worthOfSet r1 (x9 ||| x6) h8 (fun z14 h13 => w_X3_worthOfSet r1 x9 h13 (fun z16 h15 => ∀ (y17 : Int32), y17 = (x8 + (y12 * (z14 - z16))) → kb y17 (x9 + 1) h15)))) else (kb x8 (x9 + 1) h8)))
set_option maxRecDepth 8000 in
theorem b_X3_partOf_43 {D : va_G} {ca : Nat → ClassId} {ad : Nat → Nat} {K : Kt} {r1 : Nat} {r2 : Nat} {k129 : Int32 → PH → Prop} {kb : Int32 → Int32 → PH → Prop} {Q : Int32 → PH → Prop} {x5 : Int32} {x6 : Int32} {x7 : Int32} {x8 : Int32} {x9 : Int32} {h : PH} (C : CX (GX D ca ad) (XS (GX D ca ad)) cX3_partOf RX3 12 (some .int) 5 K) (hr1 : oX r1 8) (hr2 : oX r2 0) (hk129 : ∀ (x8 : Int32) (h : PH), k129 x8 h → PW (GX D ca ad) K 12 (qI Q) h 129 [none, none, none, none, none, none, none, none, some (.int x8), none, none, none] []) (hkb : ∀ (x8 : Int32) (x9 : Int32) (h : PH), kb x8 x9 h → PW (GX D ca ad) K 12 (qI Q) h 43 [some (.ref 112), some (.ref r1), none, none, none, some (.int x5), some (.int x6), some (.int x7), some (.int x8), some (.int x9), none, none] []) (hw : w_X3_partOf_43 r1 r2 k129 Q x5 x6 x7 kb x8 x9 h) : PW (GX D ca ad) K 12 (qI Q) h 43 [some (.ref 112), some (.ref r1), none, none, none, some (.int x5), some (.int x6), some (.int x7), some (.int x8), some (.int x9), none, none] [] := by
  unfold w_X3_partOf_43 at hw
  refine PW.ild9 C dX3_partOf_43 ?_
  refine PW.bipush (v := 16) C dX3_partOf_45 (by decide) ?_
  refine PW.icmp_ge (tgt := 129) C dX3_partOf_47 (by decide) (fun c => ?_) (fun c => ?_)
  · rw [if_pos c] at hw
    exact PW.wk (wk_n (wk_n (wk_n (wk_n (wk_n (wk_n (wk_n (wk_n (wk_s (wk_n (wk_n (wk_n wk_0)))))))))))) (hk129 _ _ hw)
  · rw [if_neg c] at hw
    refine PW.ild9 C dX3_partOf_50 ?_
    refine PW.callSI1 C ms_J6_bitCount_0f7a4 ml_X3_95 dX3_partOf_52 (Nat.le_of_ble_eq_true rfl) (by decide) (Nat.le_of_ble_eq_true rfl) (s_J6_bitCount_0f7a4 hw) ?_
    clear hw
    intro z9 h8 hw
    refine PW.ist10 C dX3_partOf_55 (by decide) rfl ?_
    refine PW.ild9 C dX3_partOf_57 ?_
    refine PW.ild5 C dX3_partOf_59 ?_
    refine PW.ild6 C dX3_partOf_61 ?_
    refine PW.iconst (v := (-1)) C dX3_partOf_63 (by decide) ?_
    refine PW.ixor C dX3_partOf_64 ?_
    refine PW.iand C dX3_partOf_65 ?_
    refine PW.iconst (v := (-1)) C dX3_partOf_66 (by decide) ?_
    refine PW.ixor C dX3_partOf_67 ?_
    refine PW.iand C dX3_partOf_68 ?_
    refine PW.if_ne (tgt := 123) C dX3_partOf_69 (by decide) (fun c => ?_) (fun c => ?_)
    · rw [if_neg c] at hw
      refine PW.inc9 (v := 1) C dX3_partOf_123 (by decide) rfl (by decide) ?_
      refine PW.goto (tgt := 43) C dX3_partOf_126 (by decide) ?_
      exact PW.wk (wk_s (wk_s (wk_n (wk_n (wk_n (wk_s (wk_s (wk_s (wk_s (wk_s (wk_n (wk_n wk_0)))))))))))) (hkb _ _ _ hw)
    · rw [if_pos c] at hw
      refine PW.ild10 C dX3_partOf_72 ?_
      refine PW.ild7 C dX3_partOf_74 ?_
      refine PW.icmp_gt (tgt := 123) C dX3_partOf_76 (by decide) (fun c => ?_) (fun c => ?_)
      · rw [if_pos c] at hw
        refine PW.inc9 (v := 1) C dX3_partOf_123 (by decide) rfl (by decide) ?_
        refine PW.goto (tgt := 43) C dX3_partOf_126 (by decide) ?_
        exact PW.wk (wk_s (wk_s (wk_n (wk_n (wk_n (wk_s (wk_s (wk_s (wk_s (wk_s (wk_n (wk_n wk_0)))))))))))) (hkb _ _ _ hw)
      · rw [if_neg c] at hw
        refine PW.getORDERS C dX3_partOf_79 ?_
        refine PW.ild10 C dX3_partOf_82 ?_
        obtain ⟨hc10, hw⟩ := hw
        refine PW.stORDERS C dX3_partOf_84 hc10 ?_
        refine PW.getORDERS C dX3_partOf_85 ?_
        refine PW.ild7 C dX3_partOf_88 ?_
        refine PW.ild10 C dX3_partOf_90 ?_
        refine PW.isub C dX3_partOf_92 ?_
        obtain ⟨hc11, hw⟩ := hw
        refine PW.stORDERS C dX3_partOf_93 hc11 ?_
        refine PW.imul C dX3_partOf_94 ?_
        replace hw := hw _ rfl
        refine PW.ist11 C dX3_partOf_95 (by decide) rfl ?_
        refine PW.ild8 C dX3_partOf_97 ?_
        refine PW.ild11 C dX3_partOf_99 ?_
        refine PW.ald0n C dX3_partOf_101 ?_
        refine PW.ald1n C dX3_partOf_102 ?_
        refine PW.ild9 C dX3_partOf_103 ?_
        refine PW.ild6 C dX3_partOf_105 ?_
        refine PW.ior C dX3_partOf_107 ?_
        refine PW.callVI2 C ms_X3_worthOfSet ml_X3_136 dX3_partOf_108 oX_112 ⟨_, _, rfl⟩ (Nat.le_of_ble_eq_true rfl) (by decide) (Nat.le_of_ble_eq_true rfl) (s_X3_worthOfSet hr1 hw) ?_
        clear hw
        intro z14 h13 hw
        refine PW.ald0n C dX3_partOf_111 ?_
        refine PW.ald1n C dX3_partOf_112 ?_
        refine PW.ild9 C dX3_partOf_113 ?_
        refine PW.callVI2 C ms_X3_worthOfSet ml_X3_136 dX3_partOf_115 oX_112 ⟨_, _, rfl⟩ (Nat.le_of_ble_eq_true rfl) (by decide) (Nat.le_of_ble_eq_true rfl) (s_X3_worthOfSet hr1 hw) ?_
        clear hw
        intro z16 h15 hw
        refine PW.isub C dX3_partOf_118 ?_
        refine PW.imul C dX3_partOf_119 ?_
        refine PW.iadd C dX3_partOf_120 ?_
        replace hw := hw _ rfl
        refine PW.ist8 C dX3_partOf_121 (by decide) rfl ?_
        refine PW.inc9 (v := 1) C dX3_partOf_123 (by decide) rfl (by decide) ?_
        refine PW.goto (tgt := 43) C dX3_partOf_126 (by decide) ?_
        exact PW.wk (wk_s (wk_s (wk_n (wk_n (wk_n (wk_s (wk_s (wk_s (wk_s (wk_s (wk_n (wk_n wk_0)))))))))))) (hkb _ _ _ hw)
theorem l_X3_partOf_43 {D : va_G} {ca : Nat → ClassId} {ad : Nat → Nat} {K : Kt} {r1 : Nat} {r2 : Nat} {k129 : Int32 → PH → Prop} {Q : Int32 → PH → Prop} {x5 : Int32} {x6 : Int32} {x7 : Int32} (C : CX (GX D ca ad) (XS (GX D ca ad)) cX3_partOf RX3 12 (some .int) 5 K) (hr1 : oX r1 8) (hr2 : oX r2 0) (hk129 : ∀ (x8 : Int32) (h : PH), k129 x8 h → PW (GX D ca ad) K 12 (qI Q) h 129 [none, none, none, none, none, none, none, none, some (.int x8), none, none, none] []) : ∀ (n : Nat) (x8 : Int32) (x9 : Int32) (h : PH), Lp2 (w_X3_partOf_43 r1 r2 k129 Q x5 x6 x7) n x8 x9 h → PW (GX D ca ad) K 12 (qI Q) h 43 [some (.ref 112), some (.ref r1), none, none, none, some (.int x5), some (.int x6), some (.int x7), some (.int x8), some (.int x9), none, none] [] := by
  intro n
  induction n with
  | zero => intro x8 x9 h hw; exact hw.elim
  | succ n ih => intro x8 x9 h hw; exact b_X3_partOf_43 C hr1 hr2 hk129 (fun x8 x9 h hw => ih x8 x9 h hw) hw
def w_X3_partOf (r1 : Nat) (r2 : Nat) (x3 : Int32) (x4 : Int32) (h : PH) (Q : Int32 → PH → Prop) : Prop :=
  w_X3_survey r2 x3 h (fun h1 => w_X3_holdersSurveyed h1 (fun z3 h2 => ∀ (y4 : Int32), y4 = ((1 : Int32) <<< ((x4 : Int32) &&& 31)) → if (z3 &&& y4) = 0 then (Q 0 h2) else (w_J6_bitCount_0f7a4 z3 h2 (fun z6 h5 => ∀ (y7 : Int32), y7 = (z6 - 1) → ∃ n, Lp2 (w_X3_partOf_43 r1 r2 (fun y19 h18 => Q y19 h18) Q z3 y4 y7) n 0 0 h5))))
set_option maxRecDepth 8000 in
theorem s_X3_partOf {D : va_G} {ca : Nat → ClassId} {ad : Nat → Nat} {l : Launch} {r1 : Nat} {r2 : Nat} {x3 : Int32} {x4 : Int32} {h : PH} {Q : Int32 → PH → Prop} (hr1 : oX r1 8) (hr2 : oX r2 0) (hw : w_X3_partOf r1 r2 x3 x4 h Q) : Sp (GX D ca ad) (XS (GX D ca ad)) l 5 yX3_partOf cX3_partOf 12 (some .int) [.ref 112, .ref r1, .ref r2, .int x3, .int x4] h (qI Q) := by
  refine Sp.of (own := RX3) [some (.ref 112), some (.ref r1), some (.ref r2), some (.int x3), some (.int x4), none, none, none, none, none, none, none] (by decide +kernel) rfl rfl (Nat.le_of_ble_eq_true rfl) (fun K hl C => ?_)
  subst hl
  unfold w_X3_partOf at hw
  refine PW.ald0n C dX3_partOf_0 ?_
  refine PW.ald2n C dX3_partOf_1 ?_
  refine PW.ild3n C dX3_partOf_2 ?_
  refine PW.callVV2 C ms_X3_survey ml_X3_82 dX3_partOf_3 oX_112 ⟨_, _, rfl⟩ (Nat.le_of_ble_eq_true rfl) (by decide) (Nat.le_of_ble_eq_true rfl) (s_X3_survey hr2 hw) ?_
  clear hw
  intro h1 hw
  refine PW.ald0n C dX3_partOf_6 ?_
  refine PW.callVI0 C ms_X3_holdersSurveyed ml_X3_91 dX3_partOf_7 oX_112 ⟨_, _, rfl⟩ (Nat.le_of_ble_eq_true rfl) (by decide) (Nat.le_of_ble_eq_true rfl) (s_X3_holdersSurveyed hw) ?_
  clear hw
  intro z3 h2 hw
  refine PW.ist5 C dX3_partOf_10 (by decide) rfl ?_
  refine PW.iconst (v := 1) C dX3_partOf_12 (by decide) ?_
  refine PW.ild4 C dX3_partOf_13 ?_
  refine PW.ishl C dX3_partOf_15 ?_
  replace hw := hw _ rfl
  refine PW.ist6 C dX3_partOf_16 (by decide) rfl ?_
  refine PW.ild5 C dX3_partOf_18 ?_
  refine PW.ild6 C dX3_partOf_20 ?_
  refine PW.iand C dX3_partOf_22 ?_
  refine PW.if_ne (tgt := 28) C dX3_partOf_23 (by decide) (fun c => ?_) (fun c => ?_)
  · rw [if_neg c] at hw
    refine PW.ild5 C dX3_partOf_28 ?_
    refine PW.callSI1 C ms_J6_bitCount_0f7a4 ml_X3_95 dX3_partOf_30 (Nat.le_of_ble_eq_true rfl) (by decide) (Nat.le_of_ble_eq_true rfl) (s_J6_bitCount_0f7a4 hw) ?_
    clear hw
    intro z6 h5 hw
    refine PW.iconst (v := 1) C dX3_partOf_33 (by decide) ?_
    refine PW.isub C dX3_partOf_34 ?_
    replace hw := hw _ rfl
    refine PW.ist7 C dX3_partOf_35 (by decide) rfl ?_
    refine PW.iconst (v := 0) C dX3_partOf_37 (by decide) ?_
    refine PW.ist8 C dX3_partOf_38 (by decide) rfl ?_
    refine PW.iconst (v := 0) C dX3_partOf_40 (by decide) ?_
    refine PW.ist9 C dX3_partOf_41 (by decide) rfl ?_
    obtain ⟨n, hw⟩ := hw
    refine PW.wk (wk_s (wk_s (wk_n (wk_n (wk_n (wk_s (wk_s (wk_s (wk_s (wk_s (wk_n (wk_n wk_0)))))))))))) (l_X3_partOf_43 C hr1 hr2 ?_ n _ _ _ hw)
    · intro y19 h18 hw
      refine PW.ild8 C dX3_partOf_129 ?_
      exact PW.iret C dX3_partOf_131 ⟨_, rfl, hw⟩
  · rw [if_pos c] at hw
    refine PW.iconst (v := 0) C dX3_partOf_26 (by decide) ?_
    exact PW.iret C dX3_partOf_27 ⟨_, rfl, hw⟩
def w_X3_leaversOf_27 (r1 : Nat) (r2 : Nat) (k74 : Int32 → PH → Prop) (k83 : PH → Prop) (Q : Int32 → PH → Prop) (x4 : Int32) (x5 : Int64) (kb : Int32 → PH → Prop) (x7 : Int32) (h : PH) : Prop :=
  if 16 ≤ x7 then (k83 h) else (if (x7 &&& (x4 ^^^ (-1))) = 0 then (w_X3_worthOfSet r1 x7 h (fun z8 h7 => w_X3_minutesOfSet x4 h7 (fun z10 h9 => w_X3_minutesOfSet x7 h9 (fun z12 h11 => if (lg_cmp ((z8 : Int32).toInt64 * (z10 : Int32).toInt64) (x5 * (z12 : Int32).toInt64)) ≤ 0 then (kb (x7 + 1) h11) else (k74 x7 h11))))) else (kb (x7 + 1) h))
set_option maxRecDepth 8000 in
theorem b_X3_leaversOf_27 {D : va_G} {ca : Nat → ClassId} {ad : Nat → Nat} {K : Kt} {r1 : Nat} {r2 : Nat} {k74 : Int32 → PH → Prop} {k83 : PH → Prop} {kb : Int32 → PH → Prop} {Q : Int32 → PH → Prop} {x4 : Int32} {x5 : Int64} {x7 : Int32} {h : PH} (C : CX (GX D ca ad) (XS (GX D ca ad)) cX3_leaversOf RX3 8 (some .int) 5 K) (hr1 : oX r1 8) (hr2 : oX r2 0) (hk74 : ∀ (x7 : Int32) (h : PH), k74 x7 h → PW (GX D ca ad) K 8 (qI Q) h 74 [none, none, none, none, none, none, none, some (.int x7)] []) (hk83 : ∀ (h : PH), k83 h → PW (GX D ca ad) K 8 (qI Q) h 83 [none, none, none, none, none, none, none, none] []) (hkb : ∀ (x7 : Int32) (h : PH), kb x7 h → PW (GX D ca ad) K 8 (qI Q) h 27 [some (.ref 112), some (.ref r1), none, none, some (.int x4), some (.long x5), none, some (.int x7)] []) (hw : w_X3_leaversOf_27 r1 r2 k74 k83 Q x4 x5 kb x7 h) : PW (GX D ca ad) K 8 (qI Q) h 27 [some (.ref 112), some (.ref r1), none, none, some (.int x4), some (.long x5), none, some (.int x7)] [] := by
  unfold w_X3_leaversOf_27 at hw
  refine PW.ild7 C dX3_leaversOf_27 ?_
  refine PW.bipush (v := 16) C dX3_leaversOf_29 (by decide) ?_
  refine PW.icmp_ge (tgt := 83) C dX3_leaversOf_31 (by decide) (fun c => ?_) (fun c => ?_)
  · rw [if_pos c] at hw
    exact PW.wk (wk_n (wk_n (wk_n (wk_n (wk_n (wk_n (wk_n (wk_n wk_0)))))))) (hk83 _ hw)
  · rw [if_neg c] at hw
    refine PW.ild7 C dX3_leaversOf_34 ?_
    refine PW.ild4 C dX3_leaversOf_36 ?_
    refine PW.iconst (v := (-1)) C dX3_leaversOf_38 (by decide) ?_
    refine PW.ixor C dX3_leaversOf_39 ?_
    refine PW.iand C dX3_leaversOf_40 ?_
    refine PW.if_ne (tgt := 77) C dX3_leaversOf_41 (by decide) (fun c => ?_) (fun c => ?_)
    · rw [if_neg c] at hw
      refine PW.inc7 (v := 1) C dX3_leaversOf_77 (by decide) rfl (by decide) ?_
      refine PW.goto (tgt := 27) C dX3_leaversOf_80 (by decide) ?_
      exact PW.wk (wk_s (wk_s (wk_n (wk_n (wk_s (wk_s (wk_n (wk_s wk_0)))))))) (hkb _ _ hw)
    · rw [if_pos c] at hw
      refine PW.ald0n C dX3_leaversOf_44 ?_
      refine PW.ald1n C dX3_leaversOf_45 ?_
      refine PW.ild7 C dX3_leaversOf_46 ?_
      refine PW.callVI2 C ms_X3_worthOfSet ml_X3_136 dX3_leaversOf_48 oX_112 ⟨_, _, rfl⟩ (Nat.le_of_ble_eq_true rfl) (by decide) (Nat.le_of_ble_eq_true rfl) (s_X3_worthOfSet hr1 hw) ?_
      clear hw
      intro z8 h7 hw
      refine PW.i2l C dX3_leaversOf_51 ?_
      refine PW.ald0n C dX3_leaversOf_52 ?_
      refine PW.ild4 C dX3_leaversOf_53 ?_
      refine PW.callVI1 C ms_X3_minutesOfSet ml_X3_130 dX3_leaversOf_55 oX_112 ⟨_, _, rfl⟩ (Nat.le_of_ble_eq_true rfl) (by decide) (Nat.le_of_ble_eq_true rfl) (s_X3_minutesOfSet hw) ?_
      clear hw
      intro z10 h9 hw
      refine PW.i2l C dX3_leaversOf_58 ?_
      refine PW.lmul C dX3_leaversOf_59 ?_
      refine PW.lld5 C dX3_leaversOf_60 ?_
      refine PW.ald0n C dX3_leaversOf_62 ?_
      refine PW.ild7 C dX3_leaversOf_63 ?_
      refine PW.callVI1 C ms_X3_minutesOfSet ml_X3_130 dX3_leaversOf_65 oX_112 ⟨_, _, rfl⟩ (Nat.le_of_ble_eq_true rfl) (by decide) (Nat.le_of_ble_eq_true rfl) (s_X3_minutesOfSet hw) ?_
      clear hw
      intro z12 h11 hw
      refine PW.i2l C dX3_leaversOf_68 ?_
      refine PW.lmul C dX3_leaversOf_69 ?_
      refine PW.lcmp C dX3_leaversOf_70 ?_
      refine PW.if_le (tgt := 77) C dX3_leaversOf_71 (by decide) (fun c => ?_) (fun c => ?_)
      · rw [if_pos c] at hw
        refine PW.inc7 (v := 1) C dX3_leaversOf_77 (by decide) rfl (by decide) ?_
        refine PW.goto (tgt := 27) C dX3_leaversOf_80 (by decide) ?_
        exact PW.wk (wk_s (wk_s (wk_n (wk_n (wk_s (wk_s (wk_n (wk_s wk_0)))))))) (hkb _ _ hw)
      · rw [if_neg c] at hw
        exact PW.wk (wk_n (wk_n (wk_n (wk_n (wk_n (wk_n (wk_n (wk_s wk_0)))))))) (hk74 _ _ hw)
theorem l_X3_leaversOf_27 {D : va_G} {ca : Nat → ClassId} {ad : Nat → Nat} {K : Kt} {r1 : Nat} {r2 : Nat} {k74 : Int32 → PH → Prop} {k83 : PH → Prop} {Q : Int32 → PH → Prop} {x4 : Int32} {x5 : Int64} (C : CX (GX D ca ad) (XS (GX D ca ad)) cX3_leaversOf RX3 8 (some .int) 5 K) (hr1 : oX r1 8) (hr2 : oX r2 0) (hk74 : ∀ (x7 : Int32) (h : PH), k74 x7 h → PW (GX D ca ad) K 8 (qI Q) h 74 [none, none, none, none, none, none, none, some (.int x7)] []) (hk83 : ∀ (h : PH), k83 h → PW (GX D ca ad) K 8 (qI Q) h 83 [none, none, none, none, none, none, none, none] []) : ∀ (n : Nat) (x7 : Int32) (h : PH), Lp1 (w_X3_leaversOf_27 r1 r2 k74 k83 Q x4 x5) n x7 h → PW (GX D ca ad) K 8 (qI Q) h 27 [some (.ref 112), some (.ref r1), none, none, some (.int x4), some (.long x5), none, some (.int x7)] [] := by
  intro n
  induction n with
  | zero => intro x7 h hw; exact hw.elim
  | succ n ih => intro x7 h hw; exact b_X3_leaversOf_27 C hr1 hr2 hk74 hk83 (fun x7 h hw => ih x7 h hw) hw
def w_X3_leaversOf (r1 : Nat) (r2 : Nat) (x3 : Int32) (h : PH) (Q : Int32 → PH → Prop) : Prop :=
  w_X3_survey r2 x3 h (fun h1 => w_X3_holdersSurveyed h1 (fun z3 h2 => w_X6_at 115 x3 3 h2 (fun z5 h4 => ∀ (y6 : Int64), y6 = (z5 : Int32).toInt64 → ∃ n, Lp1 (w_X3_leaversOf_27 r1 r2 (fun y14 h13 => Q y14 h13) (fun h15 => Q 0 h15) Q z3 y6) n 1 h4)))
set_option maxRecDepth 8000 in
theorem s_X3_leaversOf {D : va_G} {ca : Nat → ClassId} {ad : Nat → Nat} {l : Launch} {r1 : Nat} {r2 : Nat} {x3 : Int32} {h : PH} {Q : Int32 → PH → Prop} (hr1 : oX r1 8) (hr2 : oX r2 0) (hw : w_X3_leaversOf r1 r2 x3 h Q) : Sp (GX D ca ad) (XS (GX D ca ad)) l 5 yX3_leaversOf cX3_leaversOf 8 (some .int) [.ref 112, .ref r1, .ref r2, .int x3] h (qI Q) := by
  refine Sp.of (own := RX3) [some (.ref 112), some (.ref r1), some (.ref r2), some (.int x3), none, none, none, none] (by decide +kernel) rfl rfl (Nat.le_of_ble_eq_true rfl) (fun K hl C => ?_)
  subst hl
  unfold w_X3_leaversOf at hw
  refine PW.ald0n C dX3_leaversOf_0 ?_
  refine PW.ald2n C dX3_leaversOf_1 ?_
  refine PW.ild3n C dX3_leaversOf_2 ?_
  refine PW.callVV2 C ms_X3_survey ml_X3_82 dX3_leaversOf_3 oX_112 ⟨_, _, rfl⟩ (Nat.le_of_ble_eq_true rfl) (by decide) (Nat.le_of_ble_eq_true rfl) (s_X3_survey hr2 hw) ?_
  clear hw
  intro h1 hw
  refine PW.ald0n C dX3_leaversOf_6 ?_
  refine PW.callVI0 C ms_X3_holdersSurveyed ml_X3_91 dX3_leaversOf_7 oX_112 ⟨_, _, rfl⟩ (Nat.le_of_ble_eq_true rfl) (by decide) (Nat.le_of_ble_eq_true rfl) (s_X3_holdersSurveyed hw) ?_
  clear hw
  intro z3 h2 hw
  refine PW.ist4 C dX3_leaversOf_10 (by decide) rfl ?_
  refine PW.ald0n C dX3_leaversOf_12 ?_
  refine PW.get0 (v := .ref 115) C cf_3 fl_X3_20 (by decide) oX_112 (fvR (o := 3) rfl) dX3_leaversOf_13 ?_
  refine PW.ild3n C dX3_leaversOf_16 ?_
  refine PW.iconst (v := 3) C dX3_leaversOf_17 (by decide) ?_
  refine PW.callVI2 C ms_X6_at ml_X3_64 dX3_leaversOf_18 oX_115 ⟨_, _, rfl⟩ (Nat.le_of_ble_eq_true rfl) (by decide) (Nat.le_of_ble_eq_true rfl) (s_X6_at oX_115 hw) ?_
  clear hw
  intro z5 h4 hw
  refine PW.i2l C dX3_leaversOf_21 ?_
  replace hw := hw _ rfl
  refine PW.lst5 C dX3_leaversOf_22 (by decide) rfl ?_
  refine PW.iconst (v := 1) C dX3_leaversOf_24 (by decide) ?_
  refine PW.ist7 C dX3_leaversOf_25 (by decide) rfl ?_
  obtain ⟨n, hw⟩ := hw
  refine PW.wk (wk_s (wk_s (wk_n (wk_n (wk_s (wk_s (wk_n (wk_s wk_0)))))))) (l_X3_leaversOf_27 C hr1 hr2 ?_ ?_ n _ _ hw)
  · intro y14 h13 hw
    refine PW.ild7 C dX3_leaversOf_74 ?_
    exact PW.iret C dX3_leaversOf_76 ⟨_, rfl, hw⟩
  · intro h15 hw
    refine PW.iconst (v := 0) C dX3_leaversOf_83 (by decide) ?_
    exact PW.iret C dX3_leaversOf_84 ⟨_, rfl, hw⟩
