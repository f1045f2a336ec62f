def w_X4_forbiddenMinutes_69 (r0 : Nat) (r1 : Nat) (k116 : Int64 → PH → Prop) (Q : Int64 → PH → Prop) (x3 : Int32) (x4 : Int32) (x5 : Int32) (x8 : Int32) (x9 : Int64) (kb : Int64 → Int32 → PH → Prop) (x6 : Int64) (x11 : Int32) (h : PH) : Prop :=
  if 48 ≤ x11 then (k116 x6 h) else (if (lg_cmp (((x9 : Int64) >>> ((x11 : Int32).toInt64 &&& 63)) &&& 1) 1) = 0 then (w_X0_isForbidden r1 r0 x3 x8 x11 h (fun z10 h9 => if z10 = 0 then (kb x6 (x11 + 1) h9) else (∀ (y11 : Int64), y11 = (x6 ||| ((1 : Int64) <<< ((x11 : Int32).toInt64 &&& 63))) → kb y11 (x11 + 1) h9))) else (kb x6 (x11 + 1) h))
set_option maxRecDepth 8000 in
theorem b_X4_forbiddenMinutes_69 {D : va_G} {ca : Nat → ClassId} {ad : Nat → Nat} {K : Kt} {r0 : Nat} {r1 : Nat} {k116 : Int64 → PH → Prop} {kb : Int64 → Int32 → PH → Prop} {Q : Int64 → PH → Prop} {x3 : Int32} {x4 : Int32} {x5 : Int32} {x8 : Int32} {x9 : Int64} {x6 : Int64} {x11 : Int32} {h : PH} (C : CX (GX D ca ad) (XS (GX D ca ad)) cX4_forbiddenMinutes RX4 12 (some .long) 5 K) (hr0 : oX r0 8) (hr1 : oX r1 0) (hk116 : ∀ (x6 : Int64) (h : PH), k116 x6 h → PW (GX D ca ad) K 12 (qJ Q) h 116 [some (.ref r0), some (.ref r1), none, some (.int x3), some (.int x4), some (.int x5), some (.long x6), none, some (.int x8), none, none, none] []) (hkb : ∀ (x6 : Int64) (x11 : Int32) (h : PH), kb x6 x11 h → PW (GX D ca ad) K 12 (qJ Q) h 69 [some (.ref r0), some (.ref r1), none, some (.int x3), some (.int x4), some (.int x5), some (.long x6), none, some (.int x8), some (.long x9), none, some (.int x11)] []) (hw : w_X4_forbiddenMinutes_69 r0 r1 k116 Q x3 x4 x5 x8 x9 kb x6 x11 h) : PW (GX D ca ad) K 12 (qJ Q) h 69 [some (.ref r0), some (.ref r1), none, some (.int x3), some (.int x4), some (.int x5), some (.long x6), none, some (.int x8), some (.long x9), none, some (.int x11)] [] := by
  unfold w_X4_forbiddenMinutes_69 at hw
  refine PW.ild11 C dX4_forbiddenMinutes_69 ?_
  refine PW.bipush (v := 48) C dX4_forbiddenMinutes_71 (by decide) ?_
  refine PW.icmp_ge (tgt := 116) C dX4_forbiddenMinutes_73 (by decide) (fun c => ?_) (fun c => ?_)
  · rw [if_pos c] at hw
    exact PW.wk (wk_s (wk_s (wk_n (wk_s (wk_s (wk_s (wk_s (wk_n (wk_s (wk_n (wk_n (wk_n wk_0)))))))))))) (hk116 _ _ hw)
  · rw [if_neg c] at hw
    refine PW.lld9 C dX4_forbiddenMinutes_76 ?_
    refine PW.ild11 C dX4_forbiddenMinutes_78 ?_
    refine PW.lshr C dX4_forbiddenMinutes_80 ?_
    refine PW.lconst (v := 1) C dX4_forbiddenMinutes_81 (by decide) ?_
    refine PW.land C dX4_forbiddenMinutes_82 ?_
    refine PW.lconst (v := 1) C dX4_forbiddenMinutes_83 (by decide) ?_
    refine PW.lcmp C dX4_forbiddenMinutes_84 ?_
    refine PW.if_ne (tgt := 110) C dX4_forbiddenMinutes_85 (by decide) (fun c => ?_) (fun c => ?_)
    · rw [if_neg c] at hw
      refine PW.inc11 (v := 1) C dX4_forbiddenMinutes_110 (by decide) rfl (by decide) ?_
      refine PW.goto (tgt := 69) C dX4_forbiddenMinutes_113 (by decide) ?_
      exact PW.wk (wk_s (wk_s (wk_n (wk_s (wk_s (wk_s (wk_s (wk_n (wk_s (wk_s (wk_n (wk_s wk_0)))))))))))) (hkb _ _ _ hw)
    · rw [if_pos c] at hw
      refine PW.ald1n C dX4_forbiddenMinutes_88 ?_
      refine PW.ald0n C dX4_forbiddenMinutes_89 ?_
      refine PW.ild3n C dX4_forbiddenMinutes_90 ?_
      refine PW.ild8 C dX4_forbiddenMinutes_91 ?_
      refine PW.ild11 C dX4_forbiddenMinutes_93 ?_
      refine PW.callVI4 C ms_X0_isForbidden ml_X4_82 dX4_forbiddenMinutes_95 hr1 ⟨_, _, rfl⟩ (Nat.le_of_ble_eq_true rfl) (by decide) (Nat.le_of_ble_eq_true rfl) (s_X0_isForbidden hr1 hr0 hw) ?_
      clear hw
      intro z10 h9 hw
      refine PW.if_eq (tgt := 110) C dX4_forbiddenMinutes_98 (by decide) (fun c => ?_) (fun c => ?_)
      · rw [if_pos c] at hw
        refine PW.inc11 (v := 1) C dX4_forbiddenMinutes_110 (by decide) rfl (by decide) ?_
        refine PW.goto (tgt := 69) C dX4_forbiddenMinutes_113 (by decide) ?_
        exact PW.wk (wk_s (wk_s (wk_n (wk_s (wk_s (wk_s (wk_s (wk_n (wk_s (wk_s (wk_n (wk_s wk_0)))))))))))) (hkb _ _ _ hw)
      · rw [if_neg c] at hw
        refine PW.lld6 C dX4_forbiddenMinutes_101 ?_
        refine PW.lconst (v := 1) C dX4_forbiddenMinutes_103 (by decide) ?_
        refine PW.ild11 C dX4_forbiddenMinutes_104 ?_
        refine PW.lshl C dX4_forbiddenMinutes_106 ?_
        refine PW.lor C dX4_forbiddenMinutes_107 ?_
        replace hw := hw _ rfl
        refine PW.lst6 C dX4_forbiddenMinutes_108 (by decide) rfl ?_
        refine PW.inc11 (v := 1) C dX4_forbiddenMinutes_110 (by decide) rfl (by decide) ?_
        refine PW.goto (tgt := 69) C dX4_forbiddenMinutes_113 (by decide) ?_
        exact PW.wk (wk_s (wk_s (wk_n (wk_s (wk_s (wk_s (wk_s (wk_n (wk_s (wk_s (wk_n (wk_s wk_0)))))))))))) (hkb _ _ _ hw)
theorem l_X4_forbiddenMinutes_69 {D : va_G} {ca : Nat → ClassId} {ad : Nat → Nat} {K : Kt} {r0 : Nat} {r1 : Nat} {k116 : Int64 → PH → Prop} {Q : Int64 → PH → Prop} {x3 : Int32} {x4 : Int32} {x5 : Int32} {x8 : Int32} {x9 : Int64} (C : CX (GX D ca ad) (XS (GX D ca ad)) cX4_forbiddenMinutes RX4 12 (some .long) 5 K) (hr0 : oX r0 8) (hr1 : oX r1 0) (hk116 : ∀ (x6 : Int64) (h : PH), k116 x6 h → PW (GX D ca ad) K 12 (qJ Q) h 116 [some (.ref r0), some (.ref r1), none, some (.int x3), some (.int x4), some (.int x5), some (.long x6), none, some (.int x8), none, none, none] []) : ∀ (n : Nat) (x6 : Int64) (x11 : Int32) (h : PH), Lp2 (w_X4_forbiddenMinutes_69 r0 r1 k116 Q x3 x4 x5 x8 x9) n x6 x11 h → PW (GX D ca ad) K 12 (qJ Q) h 69 [some (.ref r0), some (.ref r1), none, some (.int x3), some (.int x4), some (.int x5), some (.long x6), none, some (.int x8), some (.long x9), none, some (.int x11)] [] := by
  intro n
  induction n with
  | zero => intro x6 x11 h hw; exact hw.elim
  | succ n ih => intro x6 x11 h hw; exact b_X4_forbiddenMinutes_69 C hr0 hr1 hk116 (fun x6 x11 h hw => ih x6 x11 h hw) hw
def w_X4_forbiddenMinutes_38 (r0 : Nat) (r1 : Nat) (k122 : Int64 → PH → Prop) (Q : Int64 → PH → Prop) (x3 : Int32) (x4 : Int32) (x5 : Int32) (kb : Int64 → Int32 → PH → Prop) (x6 : Int64) (x8 : Int32) (h : PH) : Prop :=
  if (gI h (r0 + 1) 3) ≤ x8 then (k122 x6 h) else (w_X0_minutesHeard r1 r0 x4 0 47 x5 x8 h (fun z8 h7 => ∃ n, Lp2 (w_X4_forbiddenMinutes_69 r0 r1 (fun y13 h12 => kb y13 (x8 + 1) h12) Q x3 x4 x5 x8 z8) n x6 0 h7))
set_option maxRecDepth 8000 in
theorem b_X4_forbiddenMinutes_38 {D : va_G} {ca : Nat → ClassId} {ad : Nat → Nat} {K : Kt} {r0 : Nat} {r1 : Nat} {k122 : Int64 → PH → Prop} {kb : Int64 → Int32 → PH → Prop} {Q : Int64 → PH → Prop} {x3 : Int32} {x4 : Int32} {x5 : Int32} {x6 : Int64} {x8 : Int32} {h : PH} (C : CX (GX D ca ad) (XS (GX D ca ad)) cX4_forbiddenMinutes RX4 12 (some .long) 5 K) (hr0 : oX r0 8) (hr1 : oX r1 0) (hk122 : ∀ (x6 : Int64) (h : PH), k122 x6 h → PW (GX D ca ad) K 12 (qJ Q) h 122 [none, none, none, none, none, none, some (.long x6), none, none, none, none, none] []) (hkb : ∀ (x6 : Int64) (x8 : Int32) (h : PH), kb x6 x8 h → PW (GX D ca ad) K 12 (qJ Q) h 38 [some (.ref r0), some (.ref r1), none, some (.int x3), some (.int x4), some (.int x5), some (.long x6), none, some (.int x8), none, none, none] []) (hw : w_X4_forbiddenMinutes_38 r0 r1 k122 Q x3 x4 x5 kb x6 x8 h) : PW (GX D ca ad) K 12 (qJ Q) h 38 [some (.ref r0), some (.ref r1), none, some (.int x3), some (.int x4), some (.int x5), some (.long x6), none, some (.int x8), none, none, none] [] := by
  unfold w_X4_forbiddenMinutes_38 at hw
  refine PW.ild8 C dX4_forbiddenMinutes_38 ?_
  refine PW.ald0n C dX4_forbiddenMinutes_40 ?_
  refine PW.getN0 C cf_8 fl_X4_73 (by decide) hr0 (fvR (o := 1) rfl) dX4_forbiddenMinutes_41 ?_
  refine PW.getN0 C cf_6 fl_X4_37 (by decide) (sf_8_0 hr0) (fvI rfl) dX4_forbiddenMinutes_44 ?_
  refine PW.icmp_ge (tgt := 122) C dX4_forbiddenMinutes_47 (by decide) (fun c => ?_) (fun c => ?_)
  · rw [if_pos c] at hw
    exact PW.wk (wk_n (wk_n (wk_n (wk_n (wk_n (wk_n (wk_s (wk_n (wk_n (wk_n (wk_n (wk_n wk_0)))))))))))) (hk122 _ _ hw)
  · rw [if_neg c] at hw
    refine PW.ald1n C dX4_forbiddenMinutes_50 ?_
    refine PW.ald0n C dX4_forbiddenMinutes_51 ?_
    refine PW.ild4 C dX4_forbiddenMinutes_52 ?_
    refine PW.iconst (v := 0) C dX4_forbiddenMinutes_54 (by decide) ?_
    refine PW.bipush (v := 47) C dX4_forbiddenMinutes_55 (by decide) ?_
    refine PW.ild5 C dX4_forbiddenMinutes_57 ?_
    refine PW.ild8 C dX4_forbiddenMinutes_59 ?_
    refine PW.callVJ6 C ms_X0_minutesHeard ml_X4_76 dX4_forbiddenMinutes_61 hr1 ⟨_, _, rfl⟩ (Nat.le_of_ble_eq_true rfl) (by decide) (Nat.le_of_ble_eq_true rfl) (s_X0_minutesHeard hr1 hr0 hw) ?_
    clear hw
    intro z8 h7 hw
    refine PW.lst9 C dX4_forbiddenMinutes_64 (by decide) rfl ?_
    refine PW.iconst (v := 0) C dX4_forbiddenMinutes_66 (by decide) ?_
    refine PW.ist11 C dX4_forbiddenMinutes_67 (by decide) rfl ?_
    obtain ⟨n, hw⟩ := hw
    refine PW.wk (wk_s (wk_s (wk_n (wk_s (wk_s (wk_s (wk_s (wk_n (wk_s (wk_s (wk_n (wk_s wk_0)))))))))))) (l_X4_forbiddenMinutes_69 C hr0 hr1 ?_ n _ _ _ hw)
    · intro y13 h12 hw
      refine PW.inc8 (v := 1) C dX4_forbiddenMinutes_116 (by decide) rfl (by decide) ?_
      refine PW.goto (tgt := 38) C dX4_forbiddenMinutes_119 (by decide) ?_
      exact PW.wk (wk_s (wk_s (wk_n (wk_s (wk_s (wk_s (wk_s (wk_n (wk_s (wk_n (wk_n (wk_n wk_0)))))))))))) (hkb _ _ _ hw)
theorem l_X4_forbiddenMinutes_38 {D : va_G} {ca : Nat → ClassId} {ad : Nat → Nat} {K : Kt} {r0 : Nat} {r1 : Nat} {k122 : Int64 → PH → Prop} {Q : Int64 → PH → Prop} {x3 : Int32} {x4 : Int32} {x5 : Int32} (C : CX (GX D ca ad) (XS (GX D ca ad)) cX4_forbiddenMinutes RX4 12 (some .long) 5 K) (hr0 : oX r0 8) (hr1 : oX r1 0) (hk122 : ∀ (x6 : Int64) (h : PH), k122 x6 h → PW (GX D ca ad) K 12 (qJ Q) h 122 [none, none, none, none, none, none, some (.long x6), none, none, none, none, none] []) : ∀ (n : Nat) (x6 : Int64) (x8 : Int32) (h : PH), Lp2 (w_X4_forbiddenMinutes_38 r0 r1 k122 Q x3 x4 x5) n x6 x8 h → PW (GX D ca ad) K 12 (qJ Q) h 38 [some (.ref r0), some (.ref r1), none, some (.int x3), some (.int x4), some (.int x5), some (.long x6), none, some (.int x8), none, none, none] [] := by
  intro n
  induction n with
  | zero => intro x6 x8 h hw; exact hw.elim
  | succ n ih => intro x6 x8 h hw; exact b_X4_forbiddenMinutes_38 C hr0 hr1 hk122 (fun x6 x8 h hw => ih x6 x8 h hw) hw
def w_X4_forbiddenMinutes (r0 : Nat) (r1 : Nat) (x2 : Int32) (h : PH) (Q : Int64 → PH → Prop) : Prop :=
  w_X6_at (r0 + 13) x2 0 h (fun z2 h1 => w_X6_at (r0 + 13) x2 1 h1 (fun z4 h3 => w_X6_at (r0 + 13) x2 3 h3 (fun z6 h5 => ∃ n, Lp2 (w_X4_forbiddenMinutes_38 r0 r1 (fun y15 h14 => Q y15 h14) Q z2 z4 z6) n 0 0 h5)))
set_option maxRecDepth 8000 in
theorem s_X4_forbiddenMinutes {D : va_G} {ca : Nat → ClassId} {ad : Nat → Nat} {l : Launch} {r0 : Nat} {r1 : Nat} {x2 : Int32} {h : PH} {Q : Int64 → PH → Prop} (hr0 : oX r0 8) (hr1 : oX r1 0) (hw : w_X4_forbiddenMinutes r0 r1 x2 h Q) : Sp (GX D ca ad) (XS (GX D ca ad)) l 5 yX4_forbiddenMinutes cX4_forbiddenMinutes 12 (some .long) [.ref r0, .ref r1, .int x2] h (qJ Q) := by
  refine Sp.of (own := RX4) [some (.ref r0), some (.ref r1), some (.int x2), none, none, none, none, none, none, none, none, none] (by decide +kernel) rfl rfl (Nat.le_of_ble_eq_true rfl) (fun K hl C => ?_)
  subst hl
  unfold w_X4_forbiddenMinutes at hw
  refine PW.ald0n C dX4_forbiddenMinutes_0 ?_
  refine PW.getN0 C cf_8 fl_X4_31 (by decide) hr0 (fvR (o := 13) rfl) dX4_forbiddenMinutes_1 ?_
  refine PW.ild2n C dX4_forbiddenMinutes_4 ?_
  refine PW.iconst (v := 0) C dX4_forbiddenMinutes_5 (by decide) ?_
  refine PW.callVI2 C ms_X6_at ml_X4_70 dX4_forbiddenMinutes_6 (sf_8_6 hr0) ⟨_, _, rfl⟩ (Nat.le_of_ble_eq_true rfl) (by decide) (Nat.le_of_ble_eq_true rfl) (s_X6_at (sf_8_6 hr0) hw) ?_
  clear hw
  intro z2 h1 hw
  refine PW.ist3n C dX4_forbiddenMinutes_9 (by decide) rfl ?_
  refine PW.ald0n C dX4_forbiddenMinutes_10 ?_
  refine PW.getN0 C cf_8 fl_X4_31 (by decide) hr0 (fvR (o := 13) rfl) dX4_forbiddenMinutes_11 ?_
  refine PW.ild2n C dX4_forbiddenMinutes_14 ?_
  refine PW.iconst (v := 1) C dX4_forbiddenMinutes_15 (by decide) ?_
  refine PW.callVI2 C ms_X6_at ml_X4_70 dX4_forbiddenMinutes_16 (sf_8_6 hr0) ⟨_, _, rfl⟩ (Nat.le_of_ble_eq_true rfl) (by decide) (Nat.le_of_ble_eq_true rfl) (s_X6_at (sf_8_6 hr0) hw) ?_
  clear hw
  intro z4 h3 hw
  refine PW.ist4 C dX4_forbiddenMinutes_19 (by decide) rfl ?_
  refine PW.ald0n C dX4_forbiddenMinutes_21 ?_
  refine PW.getN0 C cf_8 fl_X4_31 (by decide) hr0 (fvR (o := 13) rfl) dX4_forbiddenMinutes_22 ?_
  refine PW.ild2n C dX4_forbiddenMinutes_25 ?_
  refine PW.iconst (v := 3) C dX4_forbiddenMinutes_26 (by decide) ?_
  refine PW.callVI2 C ms_X6_at ml_X4_70 dX4_forbiddenMinutes_27 (sf_8_6 hr0) ⟨_, _, rfl⟩ (Nat.le_of_ble_eq_true rfl) (by decide) (Nat.le_of_ble_eq_true rfl) (s_X6_at (sf_8_6 hr0) hw) ?_
  clear hw
  intro z6 h5 hw
  refine PW.ist5 C dX4_forbiddenMinutes_30 (by decide) rfl ?_
  refine PW.lconst (v := 0) C dX4_forbiddenMinutes_32 (by decide) ?_
  refine PW.lst6 C dX4_forbiddenMinutes_33 (by decide) rfl ?_
  refine PW.iconst (v := 0) C dX4_forbiddenMinutes_35 (by decide) ?_
  refine PW.ist8 C dX4_forbiddenMinutes_36 (by decide) rfl ?_
  obtain ⟨n, hw⟩ := hw
  refine PW.wk (wk_s (wk_s (wk_n (wk_s (wk_s (wk_s (wk_s (wk_n (wk_s (wk_n (wk_n (wk_n wk_0)))))))))))) (l_X4_forbiddenMinutes_38 C hr0 hr1 ?_ n _ _ _ hw)
  · intro y15 h14 hw
    refine PW.lld6 C dX4_forbiddenMinutes_122 ?_
    exact PW.lret C dX4_forbiddenMinutes_124 ⟨_, rfl, hw⟩
def w_X4_earliest_2 (k24 : Int32 → PH → Prop) (k32 : PH → Prop) (Q : Int32 → PH → Prop) (x0 : Int64) (x2 : Int32) (kb : Int32 → PH → Prop) (x3 : Int32) (h : PH) : Prop :=
  if 48 < (x3 + x2) then (k32 h) else (if (lg_cmp ((((((1 : Int64) <<< ((x2 : Int32).toInt64 &&& 63)) - 1) : Int64) <<< ((x3 : Int32).toInt64 &&& 63)) &&& x0) 0) = 0 then (k24 x3 h) else (kb (x3 + 1) h))
set_option maxRecDepth 8000 in
theorem b_X4_earliest_2 {D : va_G} {ca : Nat → ClassId} {ad : Nat → Nat} {K : Kt} {k24 : Int32 → PH → Prop} {k32 : PH → Prop} {kb : Int32 → PH → Prop} {Q : Int32 → PH → Prop} {x0 : Int64} {x2 : Int32} {x3 : Int32} {h : PH} (C : CX (GX D ca ad) (XS (GX D ca ad)) cX4_earliest RX4 4 (some .int) 1 K) (hk24 : ∀ (x3 : Int32) (h : PH), k24 x3 h → PW (GX D ca ad) K 4 (qI Q) h 24 [none, none, none, some (.int x3)] []) (hk32 : ∀ (h : PH), k32 h → PW (GX D ca ad) K 4 (qI Q) h 32 [none, none, none, none] []) (hkb : ∀ (x3 : Int32) (h : PH), kb x3 h → PW (GX D ca ad) K 4 (qI Q) h 2 [some (.long x0), none, some (.int x2), some (.int x3)] []) (hw : w_X4_earliest_2 k24 k32 Q x0 x2 kb x3 h) : PW (GX D ca ad) K 4 (qI Q) h 2 [some (.long x0), none, some (.int x2), some (.int x3)] [] := by
  unfold w_X4_earliest_2 at hw
  refine PW.ild3n C dX4_earliest_2 ?_
  refine PW.ild2n C dX4_earliest_3 ?_
  refine PW.iadd C dX4_earliest_4 ?_
  refine PW.bipush (v := 48) C dX4_earliest_5 (by decide) ?_
  refine PW.icmp_gt (tgt := 32) C dX4_earliest_7 (by decide) (fun c => ?_) (fun c => ?_)
  · rw [if_pos c] at hw
    exact PW.wk (wk_n (wk_n (wk_n (wk_n wk_0)))) (hk32 _ hw)
  · rw [if_neg c] at hw
    refine PW.lconst (v := 1) C dX4_earliest_10 (by decide) ?_
    refine PW.ild2n C dX4_earliest_11 ?_
    refine PW.lshl C dX4_earliest_12 ?_
    refine PW.lconst (v := 1) C dX4_earliest_13 (by decide) ?_
    refine PW.lsub C dX4_earliest_14 ?_
    refine PW.ild3n C dX4_earliest_15 ?_
    refine PW.lshl C dX4_earliest_16 ?_
    refine PW.lld0n C dX4_earliest_17 ?_
    refine PW.land C dX4_earliest_18 ?_
    refine PW.lconst (v := 0) C dX4_earliest_19 (by decide) ?_
    refine PW.lcmp C dX4_earliest_20 ?_
    refine PW.if_ne (tgt := 26) C dX4_earliest_21 (by decide) (fun c => ?_) (fun c => ?_)
    · rw [if_neg c] at hw
      refine PW.inc3 (v := 1) C dX4_earliest_26 (by decide) rfl (by decide) ?_
      refine PW.goto (tgt := 2) C dX4_earliest_29 (by decide) ?_
      exact PW.wk (wk_s (wk_n (wk_s (wk_s wk_0)))) (hkb _ _ hw)
    · rw [if_pos c] at hw
      exact PW.wk (wk_n (wk_n (wk_n (wk_s wk_0)))) (hk24 _ _ hw)
theorem l_X4_earliest_2 {D : va_G} {ca : Nat → ClassId} {ad : Nat → Nat} {K : Kt} {k24 : Int32 → PH → Prop} {k32 : PH → Prop} {Q : Int32 → PH → Prop} {x0 : Int64} {x2 : Int32} (C : CX (GX D ca ad) (XS (GX D ca ad)) cX4_earliest RX4 4 (some .int) 1 K) (hk24 : ∀ (x3 : Int32) (h : PH), k24 x3 h → PW (GX D ca ad) K 4 (qI Q) h 24 [none, none, none, some (.int x3)] []) (hk32 : ∀ (h : PH), k32 h → PW (GX D ca ad) K 4 (qI Q) h 32 [none, none, none, none] []) : ∀ (n : Nat) (x3 : Int32) (h : PH), Lp1 (w_X4_earliest_2 k24 k32 Q x0 x2) n x3 h → PW (GX D ca ad) K 4 (qI Q) h 2 [some (.long x0), none, some (.int x2), some (.int x3)] [] := by
  intro n
  induction n with
  | zero => intro x3 h hw; exact hw.elim
  | succ n ih => intro x3 h hw; exact b_X4_earliest_2 C hk24 hk32 (fun x3 h hw => ih x3 h hw) hw
def w_X4_earliest (x0 : Int64) (x2 : Int32) (h : PH) (Q : Int32 → PH → Prop) : Prop :=
  ∃ n, Lp1 (w_X4_earliest_2 (fun y2 h1 => Q y2 h1) (fun h3 => Q (-2) h3) Q x0 x2) n 0 h
set_option maxRecDepth 8000 in
theorem s_X4_earliest {D : va_G} {ca : Nat → ClassId} {ad : Nat → Nat} {l : Launch} {x0 : Int64} {x2 : Int32} {h : PH} {Q : Int32 → PH → Prop} (hw : w_X4_earliest x0 x2 h Q) : Sp (GX D ca ad) (XS (GX D ca ad)) l 1 yX4_earliest cX4_earliest 4 (some .int) [.long x0, .int x2] h (qI Q) := by
  refine Sp.of (own := RX4) [some (.long x0), none, some (.int x2), none] (by decide +kernel) rfl rfl (Nat.le_of_ble_eq_true rfl) (fun K hl C => ?_)
  subst hl
  unfold w_X4_earliest at hw
  refine PW.iconst (v := 0) C dX4_earliest_0 (by decide) ?_
  refine PW.ist3n C dX4_earliest_1 (by decide) rfl ?_
  obtain ⟨n, hw⟩ := hw
  refine PW.wk (wk_s (wk_n (wk_s (wk_s wk_0)))) (l_X4_earliest_2 C ?_ ?_ n _ _ hw)
  · intro y2 h1 hw
    refine PW.ild3n C dX4_earliest_24 ?_
    exact PW.iret C dX4_earliest_25 ⟨_, rfl, hw⟩
  · intro h3 hw
    refine PW.bipush (v := (-2)) C dX4_earliest_32 (by decide) ?_
    exact PW.iret C dX4_earliest_34 ⟨_, rfl, hw⟩
def w_X4_endOfOrder_2 (r1 : Nat) (k20 : PH → Prop) (Q : Int32 → PH → Prop) (x2 : Int32) (kb : Int32 → PH → Prop) (x3 : Int32) (h : PH) : Prop :=
  if 4 ≤ x3 then (k20 h) else (vp_in x3 4 ∧ ∀ h2, h2 = sJ h 124 (iN x3) 0 → kb (x3 + 1) h2)
set_option maxRecDepth 8000 in
theorem b_X4_endOfOrder_2 {D : va_G} {ca : Nat → ClassId} {ad : Nat → Nat} {K : Kt} {r1 : Nat} {k20 : PH → Prop} {kb : Int32 → PH → Prop} {Q : Int32 → PH → Prop} {x2 : Int32} {x3 : Int32} {h : PH} (C : CX (GX D ca ad) (XS (GX D ca ad)) cX4_endOfOrder RX4 9 (some .int) 3 K) (hr1 : oX r1 8) (hk20 : ∀ (h : PH), k20 h → PW (GX D ca ad) K 9 (qI Q) h 20 [some (.ref 122), some (.ref r1), some (.int x2), none, none, none, none, none, none] []) (hkb : ∀ (x3 : Int32) (h : PH), kb x3 h → PW (GX D ca ad) K 9 (qI Q) h 2 [some (.ref 122), some (.ref r1), some (.int x2), some (.int x3), none, none, none, none, none] []) (hw : w_X4_endOfOrder_2 r1 k20 Q x2 kb x3 h) : PW (GX D ca ad) K 9 (qI Q) h 2 [some (.ref 122), some (.ref r1), some (.int x2), some (.int x3), none, none, none, none, none] [] := by
  unfold w_X4_endOfOrder_2 at hw
  refine PW.ild3n C dX4_endOfOrder_2 ?_
  refine PW.iconst (v := 4) C dX4_endOfOrder_3 (by decide) ?_
  refine PW.icmp_ge (tgt := 20) C dX4_endOfOrder_4 (by decide) (fun c => ?_) (fun c => ?_)
  · rw [if_pos c] at hw
    exact PW.wk (wk_s (wk_s (wk_s (wk_n (wk_n (wk_n (wk_n (wk_n (wk_n wk_0))))))))) (hk20 _ hw)
  · rw [if_neg c] at hw
    refine PW.ald0n C dX4_endOfOrder_7 ?_
    refine PW.get0 (v := .ref 124) C cf_4 fl_X4_15 (by decide) oX_122 (fvR (o := 2) rfl) dX4_endOfOrder_8 ?_
    refine PW.ild3n C dX4_endOfOrder_11 ?_
    refine PW.lconst (v := 0) C dX4_endOfOrder_12 (by decide) ?_
    obtain ⟨hc1, hw⟩ := hw
    replace hw := hw _ rfl
    refine PW.last C dX4_endOfOrder_13 aX_124 hc1 ?_
    refine PW.inc3 (v := 1) C dX4_endOfOrder_14 (by decide) rfl (by decide) ?_
    refine PW.goto (tgt := 2) C dX4_endOfOrder_17 (by decide) ?_
    exact PW.wk (wk_s (wk_s (wk_s (wk_s (wk_n (wk_n (wk_n (wk_n (wk_n wk_0))))))))) (hkb _ _ hw)
theorem l_X4_endOfOrder_2 {D : va_G} {ca : Nat → ClassId} {ad : Nat → Nat} {K : Kt} {r1 : Nat} {k20 : PH → Prop} {Q : Int32 → PH → Prop} {x2 : Int32} (C : CX (GX D ca ad) (XS (GX D ca ad)) cX4_endOfOrder RX4 9 (some .int) 3 K) (hr1 : oX r1 8) (hk20 : ∀ (h : PH), k20 h → PW (GX D ca ad) K 9 (qI Q) h 20 [some (.ref 122), some (.ref r1), some (.int x2), none, none, none, none, none, none] []) : ∀ (n : Nat) (x3 : Int32) (h : PH), Lp1 (w_X4_endOfOrder_2 r1 k20 Q x2) n x3 h → PW (GX D ca ad) K 9 (qI Q) h 2 [some (.ref 122), some (.ref r1), some (.int x2), some (.int x3), none, none, none, none, none] [] := by
  intro n
  induction n with
  | zero => intro x3 h hw; exact hw.elim
  | succ n ih => intro x3 h hw; exact b_X4_endOfOrder_2 C hr1 hk20 (fun x3 h hw => ih x3 h hw) hw
def w_X4_endOfOrder_25 (r1 : Nat) (k92 : PH → Prop) (k124 : PH → Prop) (k173 : Int32 → PH → Prop) (Q : Int32 → PH → Prop) (x2 : Int32) (kb : Int32 → Int32 → PH → Prop) (x3 : Int32) (x4 : Int32) (h : PH) : Prop :=
  if x2 ≤ x4 then (k173 x3 h) else (if 4 ≤ x4 then (k173 x3 h) else (vp_in x4 4 ∧ ∀ (y5 : Int32), y5 = (gI h 125 (iN x4)) → w_X6_at (r1 + 13) y5 0 h (fun z7 h6 => w_X6_at (r1 + 13) y5 2 h6 (fun z9 h8 => if y5 < 0 then (k92 h8) else (if 4 ≤ y5 then (k92 h8) else (if z7 < 0 then (k92 h8) else (if z7 < 4 then (vp_in y5 4 ∧ vp_in z7 4 ∧ w_X4_earliest ((gJ h8 123 (iN y5)) ||| (gJ h8 124 (iN z7))) z9 h8 (fun z13 h12 => if z13 = (-2) then (k124 h12) else (vp_in x4 4 ∧ ∀ h15, h15 = sI h12 126 (iN x4) z13 → vp_in z7 4 ∧ vp_in z7 4 ∧ ∀ h18, h18 = sJ h15 124 (iN z7) ((gJ h15 124 (iN z7)) ||| (((((1 : Int64) <<< ((z9 : Int32).toInt64 &&& 63)) - 1) : Int64) <<< ((z13 : Int32).toInt64 &&& 63))) → ∀ (y19 : Int32), y19 = (mxI x3 ((z13 + z9) - 1)) → kb y19 (x4 + 1) h18))) else (k92 h8))))))))
set_option maxRecDepth 8000 in
theorem b_X4_endOfOrder_25 {D : va_G} {ca : Nat → ClassId} {ad : Nat → Nat} {K : Kt} {r1 : Nat} {k92 : PH → Prop} {k124 : PH → Prop} {k173 : Int32 → PH → Prop} {kb : Int32 → Int32 → PH → Prop} {Q : Int32 → PH → Prop} {x2 : Int32} {x3 : Int32} {x4 : Int32} {h : PH} (C : CX (GX D ca ad) (XS (GX D ca ad)) cX4_endOfOrder RX4 9 (some .int) 3 K) (hr1 : oX r1 8) (hk92 : ∀ (h : PH), k92 h → PW (GX D ca ad) K 9 (qI Q) h 92 [none, none, none, none, none, none, none, none, none] []) (hk124 : ∀ (h : PH), k124 h → PW (GX D ca ad) K 9 (qI Q) h 124 [none, none, none, none, none, none, none, none, none] []) (hk173 : ∀ (x3 : Int32) (h : PH), k173 x3 h → PW (GX D ca ad) K 9 (qI Q) h 173 [none, none, none, some (.int x3), none, none, none, none, none] []) (hkb : ∀ (x3 : Int32) (x4 : Int32) (h : PH), kb x3 x4 h → PW (GX D ca ad) K 9 (qI Q) h 25 [some (.ref 122), some (.ref r1), some (.int x2), some (.int x3), some (.int x4), none, none, none, none] []) (hw : w_X4_endOfOrder_25 r1 k92 k124 k173 Q x2 kb x3 x4 h) : PW (GX D ca ad) K 9 (qI Q) h 25 [some (.ref 122), some (.ref r1), some (.int x2), some (.int x3), some (.int x4), none, none, none, none] [] := by
  unfold w_X4_endOfOrder_25 at hw
  refine PW.ild4 C dX4_endOfOrder_25 ?_
  refine PW.ild2n C dX4_endOfOrder_27 ?_
  refine PW.icmp_ge (tgt := 173) C dX4_endOfOrder_28 (by decide) (fun c => ?_) (fun c => ?_)
  · rw [if_pos c] at hw
    exact PW.wk (wk_n (wk_n (wk_n (wk_s (wk_n (wk_n (wk_n (wk_n (wk_n wk_0))))))))) (hk173 _ _ hw)
  · rw [if_neg c] at hw
    refine PW.ild4 C dX4_endOfOrder_31 ?_
    refine PW.iconst (v := 4) C dX4_endOfOrder_33 (by decide) ?_
    refine PW.icmp_ge (tgt := 173) C dX4_endOfOrder_34 (by decide) (fun c => ?_) (fun c => ?_)
    · rw [if_pos c] at hw
      exact PW.wk (wk_n (wk_n (wk_n (wk_s (wk_n (wk_n (wk_n (wk_n (wk_n wk_0))))))))) (hk173 _ _ hw)
    · rw [if_neg c] at hw
      refine PW.ald0n C dX4_endOfOrder_37 ?_
      refine PW.get0 (v := .ref 125) C cf_4 fl_X4_18 (by decide) oX_122 (fvR (o := 3) rfl) dX4_endOfOrder_38 ?_
      refine PW.ild4 C dX4_endOfOrder_41 ?_
      obtain ⟨hc4, hw⟩ := hw
      refine PW.iald C dX4_endOfOrder_43 aX_125 hc4 ?_
      replace hw := hw _ rfl
      refine PW.ist5 C dX4_endOfOrder_44 (by decide) rfl ?_
      refine PW.ald1n C dX4_endOfOrder_46 ?_
      refine PW.getN0 C cf_8 fl_X4_31 (by decide) hr1 (fvR (o := 13) rfl) dX4_endOfOrder_47 ?_
      refine PW.ild5 C dX4_endOfOrder_50 ?_
      refine PW.iconst (v := 0) C dX4_endOfOrder_52 (by decide) ?_
      refine PW.callVI2 C ms_X6_at ml_X4_70 dX4_endOfOrder_53 (sf_8_6 hr1) ⟨_, _, rfl⟩ (Nat.le_of_ble_eq_true rfl) (by decide) (Nat.le_of_ble_eq_true rfl) (s_X6_at (sf_8_6 hr1) hw) ?_
      clear hw
      intro z7 h6 hw
      refine PW.ist6 C dX4_endOfOrder_56 (by decide) rfl ?_
      refine PW.ald1n C dX4_endOfOrder_58 ?_
      refine PW.getN0 C cf_8 fl_X4_31 (by decide) hr1 (fvR (o := 13) rfl) dX4_endOfOrder_59 ?_
      refine PW.ild5 C dX4_endOfOrder_62 ?_
      refine PW.iconst (v := 2) C dX4_endOfOrder_64 (by decide) ?_
      refine PW.callVI2 C ms_X6_at ml_X4_70 dX4_endOfOrder_65 (sf_8_6 hr1) ⟨_, _, rfl⟩ (Nat.le_of_ble_eq_true rfl) (by decide) (Nat.le_of_ble_eq_true rfl) (s_X6_at (sf_8_6 hr1) hw) ?_
      clear hw
      intro z9 h8 hw
      refine PW.ist7 C dX4_endOfOrder_68 (by decide) rfl ?_
      refine PW.ild5 C dX4_endOfOrder_70 ?_
      refine PW.if_lt (tgt := 92) C dX4_endOfOrder_72 (by decide) (fun c => ?_) (fun c => ?_)
      · rw [if_pos c] at hw
        exact PW.wk (wk_n (wk_n (wk_n (wk_n (wk_n (wk_n (wk_n (wk_n (wk_n wk_0))))))))) (hk92 _ hw)
      · rw [if_neg c] at hw
        refine PW.ild5 C dX4_endOfOrder_75 ?_
        refine PW.iconst (v := 4) C dX4_endOfOrder_77 (by decide) ?_
        refine PW.icmp_ge (tgt := 92) C dX4_endOfOrder_78 (by decide) (fun c => ?_) (fun c => ?_)
        · rw [if_pos c] at hw
          exact PW.wk (wk_n (wk_n (wk_n (wk_n (wk_n (wk_n (wk_n (wk_n (wk_n wk_0))))))))) (hk92 _ hw)
        · rw [if_neg c] at hw
          refine PW.ild6 C dX4_endOfOrder_81 ?_
          refine PW.if_lt (tgt := 92) C dX4_endOfOrder_83 (by decide) (fun c => ?_) (fun c => ?_)
          · rw [if_pos c] at hw
            exact PW.wk (wk_n (wk_n (wk_n (wk_n (wk_n (wk_n (wk_n (wk_n (wk_n wk_0))))))))) (hk92 _ hw)
          · rw [if_neg c] at hw
            refine PW.ild6 C dX4_endOfOrder_86 ?_
            refine PW.iconst (v := 4) C dX4_endOfOrder_88 (by decide) ?_
            refine PW.icmp_lt (tgt := 95) C dX4_endOfOrder_89 (by decide) (fun c => ?_) (fun c => ?_)
            · rw [if_pos c] at hw
              refine PW.ald0n C dX4_endOfOrder_95 ?_
              refine PW.get0 (v := .ref 123) C cf_4 fl_X4_9 (by decide) oX_122 (fvR (o := 1) rfl) dX4_endOfOrder_96 ?_
              refine PW.ild5 C dX4_endOfOrder_99 ?_
              obtain ⟨hc10, hw⟩ := hw
              refine PW.lald C dX4_endOfOrder_101 aX_123 hc10 ?_
              refine PW.ald0n C dX4_endOfOrder_102 ?_
              refine PW.get0 (v := .ref 124) C cf_4 fl_X4_15 (by decide) oX_122 (fvR (o := 2) rfl) dX4_endOfOrder_103 ?_
              refine PW.ild6 C dX4_endOfOrder_106 ?_
              obtain ⟨hc11, hw⟩ := hw
              refine PW.lald C dX4_endOfOrder_108 aX_124 hc11 ?_
              refine PW.lor C dX4_endOfOrder_109 ?_
              refine PW.ild7 C dX4_endOfOrder_110 ?_
              refine PW.callSI2 C ms_X4_earliest ml_X4_86 dX4_endOfOrder_112 (Nat.le_of_ble_eq_true rfl) (by decide) (Nat.le_of_ble_eq_true rfl) (s_X4_earliest hw) ?_
              clear hw
              intro z13 h12 hw
              refine PW.ist8 C dX4_endOfOrder_115 (by decide) rfl ?_
              refine PW.ild8 C dX4_endOfOrder_117 ?_
              refine PW.bipush (v := (-2)) C dX4_endOfOrder_119 (by decide) ?_
              refine PW.icmp_ne (tgt := 127) C dX4_endOfOrder_121 (by decide) (fun c => ?_) (fun c => ?_)
              · rw [if_neg c] at hw
                refine PW.ald0n C dX4_endOfOrder_127 ?_
                refine PW.get0 (v := .ref 126) C cf_4 fl_X4_22 (by decide) oX_122 (fvR (o := 4) rfl) dX4_endOfOrder_128 ?_
                refine PW.ild4 C dX4_endOfOrder_131 ?_
                refine PW.ild8 C dX4_endOfOrder_133 ?_
                obtain ⟨hc14, hw⟩ := hw
                replace hw := hw _ rfl
                refine PW.iast C dX4_endOfOrder_135 aX_126 hc14 ?_
                refine PW.ald0n C dX4_endOfOrder_136 ?_
                refine PW.get0 (v := .ref 124) C cf_4 fl_X4_15 (by decide) oX_122 (fvR (o := 2) rfl) dX4_endOfOrder_137 ?_
                refine PW.ild6 C dX4_endOfOrder_140 ?_
                refine PW.dup2 C dX4_endOfOrder_142 rfl rfl ?_
                obtain ⟨hc16, hw⟩ := hw
                refine PW.lald C dX4_endOfOrder_143 aX_124 hc16 ?_
                refine PW.lconst (v := 1) C dX4_endOfOrder_144 (by decide) ?_
                refine PW.ild7 C dX4_endOfOrder_145 ?_
                refine PW.lshl C dX4_endOfOrder_147 ?_
                refine PW.lconst (v := 1) C dX4_endOfOrder_148 (by decide) ?_
                refine PW.lsub C dX4_endOfOrder_149 ?_
                refine PW.ild8 C dX4_endOfOrder_150 ?_
                refine PW.lshl C dX4_endOfOrder_152 ?_
                refine PW.lor C dX4_endOfOrder_153 ?_
                obtain ⟨hc17, hw⟩ := hw
                replace hw := hw _ rfl
                refine PW.last C dX4_endOfOrder_154 aX_124 hc17 ?_
                refine PW.ild3n C dX4_endOfOrder_155 ?_
                refine PW.ild8 C dX4_endOfOrder_156 ?_
                refine PW.ild7 C dX4_endOfOrder_158 ?_
                refine PW.iadd C dX4_endOfOrder_160 ?_
                refine PW.iconst (v := 1) C dX4_endOfOrder_161 (by decide) ?_
                refine PW.isub C dX4_endOfOrder_162 ?_
                refine PW.mxI C ml_X4_90 (Nat.le_of_ble_eq_true rfl) (by decide) dX4_endOfOrder_163 ?_
                replace hw := hw _ rfl
                refine PW.ist3n C dX4_endOfOrder_166 (by decide) rfl ?_
                refine PW.inc4 (v := 1) C dX4_endOfOrder_167 (by decide) rfl (by decide) ?_
                refine PW.goto (tgt := 25) C dX4_endOfOrder_170 (by decide) ?_
                exact PW.wk (wk_s (wk_s (wk_s (wk_s (wk_s (wk_n (wk_n (wk_n (wk_n wk_0))))))))) (hkb _ _ _ hw)
              · rw [if_pos c] at hw
                exact PW.wk (wk_n (wk_n (wk_n (wk_n (wk_n (wk_n (wk_n (wk_n (wk_n wk_0))))))))) (hk124 _ hw)
            · rw [if_neg c] at hw
              exact PW.wk (wk_n (wk_n (wk_n (wk_n (wk_n (wk_n (wk_n (wk_n (wk_n wk_0))))))))) (hk92 _ hw)
theorem l_X4_endOfOrder_25 {D : va_G} {ca : Nat → ClassId} {ad : Nat → Nat} {K : Kt} {r1 : Nat} {k92 : PH → Prop} {k124 : PH → Prop} {k173 : Int32 → PH → Prop} {Q : Int32 → PH → Prop} {x2 : Int32} (C : CX (GX D ca ad) (XS (GX D ca ad)) cX4_endOfOrder RX4 9 (some .int) 3 K) (hr1 : oX r1 8) (hk92 : ∀ (h : PH), k92 h → PW (GX D ca ad) K 9 (qI Q) h 92 [none, none, none, none, none, none, none, none, none] []) (hk124 : ∀ (h : PH), k124 h → PW (GX D ca ad) K 9 (qI Q) h 124 [none, none, none, none, none, none, none, none, none] []) (hk173 : ∀ (x3 : Int32) (h : PH), k173 x3 h → PW (GX D ca ad) K 9 (qI Q) h 173 [none, none, none, some (.int x3), none, none, none, none, none] []) : ∀ (n : Nat) (x3 : Int32) (x4 : Int32) (h : PH), Lp2 (w_X4_endOfOrder_25 r1 k92 k124 k173 Q x2) n x3 x4 h → PW (GX D ca ad) K 9 (qI Q) h 25 [some (.ref 122), some (.ref r1), some (.int x2), some (.int x3), some (.int x4), none, none, none, none] [] := by
  intro n
  induction n with
  | zero => intro x3 x4 h hw; exact hw.elim
  | succ n ih => intro x3 x4 h hw; exact b_X4_endOfOrder_25 C hr1 hk92 hk124 hk173 (fun x3 x4 h hw => ih x3 x4 h hw) hw
def w_X4_endOfOrder (r1 : Nat) (x2 : Int32) (h : PH) (Q : Int32 → PH → Prop) : Prop :=
  ∃ n, Lp1 (w_X4_endOfOrder_2 r1 (fun h3 => ∃ n, Lp2 (w_X4_endOfOrder_25 r1 (fun h20 => Q (-2) h20) (fun h21 => Q (-2) h21) (fun y23 h22 => Q y23 h22) Q x2) n 0 0 h3) Q x2) n 0 h
set_option maxRecDepth 8000 in
theorem s_X4_endOfOrder {D : va_G} {ca : Nat → ClassId} {ad : Nat → Nat} {l : Launch} {r1 : Nat} {x2 : Int32} {h : PH} {Q : Int32 → PH → Prop} (hr1 : oX r1 8) (hw : w_X4_endOfOrder r1 x2 h Q) : Sp (GX D ca ad) (XS (GX D ca ad)) l 3 yX4_endOfOrder cX4_endOfOrder 9 (some .int) [.ref 122, .ref r1, .int x2] h (qI Q) := by
  refine Sp.of (own := RX4) [some (.ref 122), some (.ref r1), some (.int x2), none, none, none, none, none, none] (by decide +kernel) rfl rfl (Nat.le_of_ble_eq_true rfl) (fun K hl C => ?_)
  subst hl
  unfold w_X4_endOfOrder at hw
  refine PW.iconst (v := 0) C dX4_endOfOrder_0 (by decide) ?_
  refine PW.ist3n C dX4_endOfOrder_1 (by decide) rfl ?_
  obtain ⟨n, hw⟩ := hw
  refine PW.wk (wk_s (wk_s (wk_s (wk_s (wk_n (wk_n (wk_n (wk_n (wk_n wk_0))))))))) (l_X4_endOfOrder_2 C hr1 ?_ n _ _ hw)
  · intro h3 hw
    refine PW.iconst (v := 0) C dX4_endOfOrder_20 (by decide) ?_
    refine PW.ist3n C dX4_endOfOrder_21 (by decide) rfl ?_
    refine PW.iconst (v := 0) C dX4_endOfOrder_22 (by decide) ?_
    refine PW.ist4 C dX4_endOfOrder_23 (by decide) rfl ?_
    obtain ⟨n, hw⟩ := hw
    refine PW.wk (wk_s (wk_s (wk_s (wk_s (wk_s (wk_n (wk_n (wk_n (wk_n wk_0))))))))) (l_X4_endOfOrder_25 C hr1 ?_ ?_ ?_ n _ _ _ hw)
    · intro h20 hw
      refine PW.bipush (v := (-2)) C dX4_endOfOrder_92 (by decide) ?_
      exact PW.iret C dX4_endOfOrder_94 ⟨_, rfl, hw⟩
    · intro h21 hw
      refine PW.bipush (v := (-2)) C dX4_endOfOrder_124 (by decide) ?_
      exact PW.iret C dX4_endOfOrder_126 ⟨_, rfl, hw⟩
    · intro y23 h22 hw
      refine PW.ild3n C dX4_endOfOrder_173 ?_
      exact PW.iret C dX4_endOfOrder_174 ⟨_, rfl, hw⟩
def w_X4_swap (x1 : Int32) (x2 : Int32) (h : PH) (Q : PH → Prop) : Prop :=
  vp_in x1 4 ∧ ∀ (y2 : Int32), y2 = (gI h 125 (iN x1)) → vp_in x2 4 ∧ vp_in x1 4 ∧ ∀ h5, h5 = sI h 125 (iN x1) (gI h 125 (iN x2)) → vp_in x2 4 ∧ ∀ h7, h7 = sI h5 125 (iN x2) y2 → Q h7
set_option maxRecDepth 8000 in
theorem s_X4_swap {D : va_G} {ca : Nat → ClassId} {ad : Nat → Nat} {l : Launch} {x1 : Int32} {x2 : Int32} {h : PH} {Q : PH → Prop} (hw : w_X4_swap x1 x2 h Q) : Sp (GX D ca ad) (XS (GX D ca ad)) l 1 yX4_swap cX4_swap 4 none [.ref 122, .int x1, .int x2] h (qV Q) := by
  refine Sp.of (own := RX4) [some (.ref 122), some (.int x1), some (.int x2), none] (by decide +kernel) rfl rfl (Nat.le_of_ble_eq_true rfl) (fun K hl C => ?_)
  subst hl
  unfold w_X4_swap at hw
  refine PW.ald0n C dX4_swap_0 ?_
  refine PW.get0 (v := .ref 125) C cf_4 fl_X4_18 (by decide) oX_122 (fvR (o := 3) rfl) dX4_swap_1 ?_
  refine PW.ild1n C dX4_swap_4 ?_
  obtain ⟨hc1, hw⟩ := hw
  refine PW.iald C dX4_swap_5 aX_125 hc1 ?_
  replace hw := hw _ rfl
  refine PW.ist3n C dX4_swap_6 (by decide) rfl ?_
  refine PW.ald0n C dX4_swap_7 ?_
  refine PW.get0 (v := .ref 125) C cf_4 fl_X4_18 (by decide) oX_122 (fvR (o := 3) rfl) dX4_swap_8 ?_
  refine PW.ild1n C dX4_swap_11 ?_
  refine PW.ald0n C dX4_swap_12 ?_
  refine PW.get0 (v := .ref 125) C cf_4 fl_X4_18 (by decide) oX_122 (fvR (o := 3) rfl) dX4_swap_13 ?_
  refine PW.ild2n C dX4_swap_16 ?_
  obtain ⟨hc3, hw⟩ := hw
  refine PW.iald C dX4_swap_17 aX_125 hc3 ?_
  obtain ⟨hc4, hw⟩ := hw
  replace hw := hw _ rfl
  refine PW.iast C dX4_swap_18 aX_125 hc4 ?_
  refine PW.ald0n C dX4_swap_19 ?_
  refine PW.get0 (v := .ref 125) C cf_4 fl_X4_18 (by decide) oX_122 (fvR (o := 3) rfl) dX4_swap_20 ?_
  refine PW.ild2n C dX4_swap_23 ?_
  refine PW.ild3n C dX4_swap_24 ?_
  obtain ⟨hc6, hw⟩ := hw
  replace hw := hw _ rfl
  refine PW.iast C dX4_swap_25 aX_125 hc6 ?_
  exact PW.vret C dX4_swap_26 ⟨rfl, hw⟩
def w_X4_nextOrder_4 (k31 : Int32 → PH → Prop) (Q : Int32 → PH → Prop) (x1 : Int32) (kb : Int32 → PH → Prop) (x2 : Int32) (h : PH) : Prop :=
  if x2 < 0 then (k31 x2 h) else (vp_in x2 4 ∧ vp_in (x2 + 1) 4 ∧ if (gI h 125 (iN x2)) ≤ (gI h 125 (iN (x2 + 1))) then (k31 x2 h) else (kb (x2 + (-1)) h))
set_option maxRecDepth 8000 in
theorem b_X4_nextOrder_4 {D : va_G} {ca : Nat → ClassId} {ad : Nat → Nat} {K : Kt} {k31 : Int32 → PH → Prop} {kb : Int32 → PH → Prop} {Q : Int32 → PH → Prop} {x1 : Int32} {x2 : Int32} {h : PH} (C : CX (GX D ca ad) (XS (GX D ca ad)) cX4_nextOrder RX4 6 (some .boolean) 2 K) (hk31 : ∀ (x2 : Int32) (h : PH), k31 x2 h → PW (GX D ca ad) K 6 (qI Q) h 31 [some (.ref 122), some (.int x1), some (.int x2), none, none, none] []) (hkb : ∀ (x2 : Int32) (h : PH), kb x2 h → PW (GX D ca ad) K 6 (qI Q) h 4 [some (.ref 122), some (.int x1), some (.int x2), none, none, none] []) (hw : w_X4_nextOrder_4 k31 Q x1 kb x2 h) : PW (GX D ca ad) K 6 (qI Q) h 4 [some (.ref 122), some (.int x1), some (.int x2), none, none, none] [] := by
  unfold w_X4_nextOrder_4 at hw
  refine PW.ild2n C dX4_nextOrder_4 ?_
  refine PW.if_lt (tgt := 31) C dX4_nextOrder_5 (by decide) (fun c => ?_) (fun c => ?_)
  · rw [if_pos c] at hw
    exact PW.wk (wk_s (wk_s (wk_s (wk_n (wk_n (wk_n wk_0)))))) (hk31 _ _ hw)
  · rw [if_neg c] at hw
    refine PW.ald0n C dX4_nextOrder_8 ?_
    refine PW.get0 (v := .ref 125) C cf_4 fl_X4_18 (by decide) oX_122 (fvR (o := 3) rfl) dX4_nextOrder_9 ?_
    refine PW.ild2n C dX4_nextOrder_12 ?_
    obtain ⟨hc2, hw⟩ := hw
    refine PW.iald C dX4_nextOrder_13 aX_125 hc2 ?_
    refine PW.ald0n C dX4_nextOrder_14 ?_
    refine PW.get0 (v := .ref 125) C cf_4 fl_X4_18 (by decide) oX_122 (fvR (o := 3) rfl) dX4_nextOrder_15 ?_
    refine PW.ild2n C dX4_nextOrder_18 ?_
    refine PW.iconst (v := 1) C dX4_nextOrder_19 (by decide) ?_
    refine PW.iadd C dX4_nextOrder_20 ?_
    obtain ⟨hc3, hw⟩ := hw
    refine PW.iald C dX4_nextOrder_21 aX_125 hc3 ?_
    refine PW.icmp_le (tgt := 31) C dX4_nextOrder_22 (by decide) (fun c => ?_) (fun c => ?_)
    · rw [if_pos c] at hw
      exact PW.wk (wk_s (wk_s (wk_s (wk_n (wk_n (wk_n wk_0)))))) (hk31 _ _ hw)
    · rw [if_neg c] at hw
      refine PW.inc2 (v := (-1)) C dX4_nextOrder_25 (by decide) rfl (by decide) ?_
      refine PW.goto (tgt := 4) C dX4_nextOrder_28 (by decide) ?_
      exact PW.wk (wk_s (wk_s (wk_s (wk_n (wk_n (wk_n wk_0)))))) (hkb _ _ hw)
theorem l_X4_nextOrder_4 {D : va_G} {ca : Nat → ClassId} {ad : Nat → Nat} {K : Kt} {k31 : Int32 → PH → Prop} {Q : Int32 → PH → Prop} {x1 : Int32} (C : CX (GX D ca ad) (XS (GX D ca ad)) cX4_nextOrder RX4 6 (some .boolean) 2 K) (hk31 : ∀ (x2 : Int32) (h : PH), k31 x2 h → PW (GX D ca ad) K 6 (qI Q) h 31 [some (.ref 122), some (.int x1), some (.int x2), none, none, none] []) : ∀ (n : Nat) (x2 : Int32) (h : PH), Lp1 (w_X4_nextOrder_4 k31 Q x1) n x2 h → PW (GX D ca ad) K 6 (qI Q) h 4 [some (.ref 122), some (.int x1), some (.int x2), none, none, none] [] := by
  intro n
  induction n with
  | zero => intro x2 h hw; exact hw.elim
  | succ n ih => intro x2 h hw; exact b_X4_nextOrder_4 C hk31 (fun x2 h hw => ih x2 h hw) hw
def w_X4_nextOrder_41 (k67 : Int32 → PH → Prop) (Q : Int32 → PH → Prop) (x1 : Int32) (x2 : Int32) (kb : Int32 → PH → Prop) (x3 : Int32) (h : PH) : Prop :=
  if x3 ≤ x2 then (k67 x3 h) else (vp_in x3 4 ∧ vp_in x2 4 ∧ if (gI h 125 (iN x2)) ≤ (gI h 125 (iN x3)) then (k67 x3 h) else (kb (x3 + (-1)) h))
set_option maxRecDepth 8000 in
theorem b_X4_nextOrder_41 {D : va_G} {ca : Nat → ClassId} {ad : Nat → Nat} {K : Kt} {k67 : Int32 → PH → Prop} {kb : Int32 → PH → Prop} {Q : Int32 → PH → Prop} {x1 : Int32} {x2 : Int32} {x3 : Int32} {h : PH} (C : CX (GX D ca ad) (XS (GX D ca ad)) cX4_nextOrder RX4 6 (some .boolean) 2 K) (hk67 : ∀ (x3 : Int32) (h : PH), k67 x3 h → PW (GX D ca ad) K 6 (qI Q) h 67 [some (.ref 122), some (.int x1), some (.int x2), some (.int x3), none, none] []) (hkb : ∀ (x3 : Int32) (h : PH), kb x3 h → PW (GX D ca ad) K 6 (qI Q) h 41 [some (.ref 122), some (.int x1), some (.int x2), some (.int x3), none, none] []) (hw : w_X4_nextOrder_41 k67 Q x1 x2 kb x3 h) : PW (GX D ca ad) K 6 (qI Q) h 41 [some (.ref 122), some (.int x1), some (.int x2), some (.int x3), none, none] [] := by
  unfold w_X4_nextOrder_41 at hw
  refine PW.ild3n C dX4_nextOrder_41 ?_
  refine PW.ild2n C dX4_nextOrder_42 ?_
  refine PW.icmp_le (tgt := 67) C dX4_nextOrder_43 (by decide) (fun c => ?_) (fun c => ?_)
  · rw [if_pos c] at hw
    exact PW.wk (wk_s (wk_s (wk_s (wk_s (wk_n (wk_n wk_0)))))) (hk67 _ _ hw)
  · rw [if_neg c] at hw
    refine PW.ald0n C dX4_nextOrder_46 ?_
    refine PW.get0 (v := .ref 125) C cf_4 fl_X4_18 (by decide) oX_122 (fvR (o := 3) rfl) dX4_nextOrder_47 ?_
    refine PW.ild3n C dX4_nextOrder_50 ?_
    obtain ⟨hc7, hw⟩ := hw
    refine PW.iald C dX4_nextOrder_51 aX_125 hc7 ?_
    refine PW.ald0n C dX4_nextOrder_52 ?_
    refine PW.get0 (v := .ref 125) C cf_4 fl_X4_18 (by decide) oX_122 (fvR (o := 3) rfl) dX4_nextOrder_53 ?_
    refine PW.ild2n C dX4_nextOrder_56 ?_
    obtain ⟨hc8, hw⟩ := hw
    refine PW.iald C dX4_nextOrder_57 aX_125 hc8 ?_
    refine PW.icmp_ge (tgt := 67) C dX4_nextOrder_58 (by decide) (fun c => ?_) (fun c => ?_)
    · rw [if_pos c] at hw
      exact PW.wk (wk_s (wk_s (wk_s (wk_s (wk_n (wk_n wk_0)))))) (hk67 _ _ hw)
    · rw [if_neg c] at hw
      refine PW.inc3 (v := (-1)) C dX4_nextOrder_61 (by decide) rfl (by decide) ?_
      refine PW.goto (tgt := 41) C dX4_nextOrder_64 (by decide) ?_
      exact PW.wk (wk_s (wk_s (wk_s (wk_s (wk_n (wk_n wk_0)))))) (hkb _ _ hw)
theorem l_X4_nextOrder_41 {D : va_G} {ca : Nat → ClassId} {ad : Nat → Nat} {K : Kt} {k67 : Int32 → PH → Prop} {Q : Int32 → PH → Prop} {x1 : Int32} {x2 : Int32} (C : CX (GX D ca ad) (XS (GX D ca ad)) cX4_nextOrder RX4 6 (some .boolean) 2 K) (hk67 : ∀ (x3 : Int32) (h : PH), k67 x3 h → PW (GX D ca ad) K 6 (qI Q) h 67 [some (.ref 122), some (.int x1), some (.int x2), some (.int x3), none, none] []) : ∀ (n : Nat) (x3 : Int32) (h : PH), Lp1 (w_X4_nextOrder_41 k67 Q x1 x2) n x3 h → PW (GX D ca ad) K 6 (qI Q) h 41 [some (.ref 122), some (.int x1), some (.int x2), some (.int x3), none, none] [] := by
  intro n
  induction n with
  | zero => intro x3 h hw; exact hw.elim
  | succ n ih => intro x3 h hw; exact b_X4_nextOrder_41 C hk67 (fun x3 h hw => ih x3 h hw) hw
def w_X4_nextOrder_83 (k107 : PH → Prop) (Q : Int32 → PH → Prop) (kb : Int32 → Int32 → PH → Prop) (x4 : Int32) (x5 : Int32) (h : PH) : Prop :=
  if x5 ≤ x4 then (k107 h) else (w_X4_swap x4 x5 h (fun h14 => kb (x4 + 1) (x5 + (-1)) h14))
set_option maxRecDepth 8000 in
theorem b_X4_nextOrder_83 {D : va_G} {ca : Nat → ClassId} {ad : Nat → Nat} {K : Kt} {k107 : PH → Prop} {kb : Int32 → Int32 → PH → Prop} {Q : Int32 → PH → Prop} {x4 : Int32} {x5 : Int32} {h : PH} (C : CX (GX D ca ad) (XS (GX D ca ad)) cX4_nextOrder RX4 6 (some .boolean) 2 K) (hk107 : ∀ (h : PH), k107 h → PW (GX D ca ad) K 6 (qI Q) h 107 [none, none, none, none, none, none] []) (hkb : ∀ (x4 : Int32) (x5 : Int32) (h : PH), kb x4 x5 h → PW (GX D ca ad) K 6 (qI Q) h 83 [some (.ref 122), none, none, none, some (.int x4), some (.int x5)] []) (hw : w_X4_nextOrder_83 k107 Q kb x4 x5 h) : PW (GX D ca ad) K 6 (qI Q) h 83 [some (.ref 122), none, none, none, some (.int x4), some (.int x5)] [] := by
  unfold w_X4_nextOrder_83 at hw
  refine PW.ild5 C dX4_nextOrder_83 ?_
  refine PW.ild4 C dX4_nextOrder_85 ?_
  refine PW.icmp_le (tgt := 107) C dX4_nextOrder_87 (by decide) (fun c => ?_) (fun c => ?_)
  · rw [if_pos c] at hw
    exact PW.wk (wk_n (wk_n (wk_n (wk_n (wk_n (wk_n wk_0)))))) (hk107 _ hw)
  · rw [if_neg c] at hw
    refine PW.ald0n C dX4_nextOrder_90 ?_
    refine PW.ild4 C dX4_nextOrder_91 ?_
    refine PW.ild5 C dX4_nextOrder_93 ?_
    refine PW.callVV2 C ms_X4_swap ml_X4_93 dX4_nextOrder_95 oX_122 ⟨_, _, rfl⟩ (Nat.le_of_ble_eq_true rfl) (by decide) (Nat.le_of_ble_eq_true rfl) (s_X4_swap hw) ?_
    clear hw
    intro h14 hw
    refine PW.inc4 (v := 1) C dX4_nextOrder_98 (by decide) rfl (by decide) ?_
    refine PW.inc5 (v := (-1)) C dX4_nextOrder_101 (by decide) rfl (by decide) ?_
    refine PW.goto (tgt := 83) C dX4_nextOrder_104 (by decide) ?_
    exact PW.wk (wk_s (wk_n (wk_n (wk_n (wk_s (wk_s wk_0)))))) (hkb _ _ _ hw)
theorem l_X4_nextOrder_83 {D : va_G} {ca : Nat → ClassId} {ad : Nat → Nat} {K : Kt} {k107 : PH → Prop} {Q : Int32 → PH → Prop} (C : CX (GX D ca ad) (XS (GX D ca ad)) cX4_nextOrder RX4 6 (some .boolean) 2 K) (hk107 : ∀ (h : PH), k107 h → PW (GX D ca ad) K 6 (qI Q) h 107 [none, none, none, none, none, none] []) : ∀ (n : Nat) (x4 : Int32) (x5 : Int32) (h : PH), Lp2 (w_X4_nextOrder_83 k107 Q) n x4 x5 h → PW (GX D ca ad) K 6 (qI Q) h 83 [some (.ref 122), none, none, none, some (.int x4), some (.int x5)] [] := by
  intro n
  induction n with
  | zero => intro x4 x5 h hw; exact hw.elim
  | succ n ih => intro x4 x5 h hw; exact b_X4_nextOrder_83 C hk107 (fun x4 x5 h hw => ih x4 x5 h hw) hw
def w_X4_nextOrder_67 (Q : Int32 → PH → Prop) (x1 : Int32) (x2 : Int32) (x3 : Int32) (h : PH) : Prop :=
  w_X4_swap x2 x3 h (fun h11 => ∀ (y12 : Int32), y12 = (x2 + 1) → ∀ (y13 : Int32), y13 = (x1 - 1) → ∃ n, Lp2 (w_X4_nextOrder_83 (fun h15 => Q 1 h15) Q) n y12 y13 h11)
set_option maxRecDepth 8000 in
theorem b_X4_nextOrder_67 {D : va_G} {ca : Nat → ClassId} {ad : Nat → Nat} {K : Kt} {Q : Int32 → PH → Prop} {x1 : Int32} {x2 : Int32} {x3 : Int32} {h : PH} (C : CX (GX D ca ad) (XS (GX D ca ad)) cX4_nextOrder RX4 6 (some .boolean) 2 K) (hw : w_X4_nextOrder_67 Q x1 x2 x3 h) : PW (GX D ca ad) K 6 (qI Q) h 67 [some (.ref 122), some (.int x1), some (.int x2), some (.int x3), none, none] [] := by
  unfold w_X4_nextOrder_67 at hw
  refine PW.ald0n C dX4_nextOrder_67 ?_
  refine PW.ild2n C dX4_nextOrder_68 ?_
  refine PW.ild3n C dX4_nextOrder_69 ?_
  refine PW.callVV2 C ms_X4_swap ml_X4_93 dX4_nextOrder_70 oX_122 ⟨_, _, rfl⟩ (Nat.le_of_ble_eq_true rfl) (by decide) (Nat.le_of_ble_eq_true rfl) (s_X4_swap hw) ?_
  clear hw
  intro h11 hw
  refine PW.ild2n C dX4_nextOrder_73 ?_
  refine PW.iconst (v := 1) C dX4_nextOrder_74 (by decide) ?_
  refine PW.iadd C dX4_nextOrder_75 ?_
  replace hw := hw _ rfl
  refine PW.ist4 C dX4_nextOrder_76 (by decide) rfl ?_
  refine PW.ild1n C dX4_nextOrder_78 ?_
  refine PW.iconst (v := 1) C dX4_nextOrder_79 (by decide) ?_
  refine PW.isub C dX4_nextOrder_80 ?_
  replace hw := hw _ rfl
  refine PW.ist5 C dX4_nextOrder_81 (by decide) rfl ?_
  obtain ⟨n, hw⟩ := hw
  refine PW.wk (wk_s (wk_n (wk_n (wk_n (wk_s (wk_s wk_0)))))) (l_X4_nextOrder_83 C ?_ n _ _ _ hw)
  · intro h15 hw
    refine PW.iconst (v := 1) C dX4_nextOrder_107 (by decide) ?_
    exact PW.zret C dX4_nextOrder_108 (by decide) ⟨_, rfl, hw⟩
def w_X4_nextOrder_31 (Q : Int32 → PH → Prop) (x1 : Int32) (x2 : Int32) (h : PH) : Prop :=
  if 0 ≤ x2 then (∀ (y6 : Int32), y6 = (x1 - 1) → ∃ n, Lp1 (w_X4_nextOrder_41 (fun y10 h9 => w_X4_nextOrder_67 Q x1 x2 y10 h9) Q x1 x2) n y6 h) else (Q 0 h)
set_option maxRecDepth 8000 in
theorem b_X4_nextOrder_31 {D : va_G} {ca : Nat → ClassId} {ad : Nat → Nat} {K : Kt} {Q : Int32 → PH → Prop} {x1 : Int32} {x2 : Int32} {h : PH} (C : CX (GX D ca ad) (XS (GX D ca ad)) cX4_nextOrder RX4 6 (some .boolean) 2 K) (hw : w_X4_nextOrder_31 Q x1 x2 h) : PW (GX D ca ad) K 6 (qI Q) h 31 [some (.ref 122), some (.int x1), some (.int x2), none, none, none] [] := by
  unfold w_X4_nextOrder_31 at hw
  refine PW.ild2n C dX4_nextOrder_31 ?_
  refine PW.if_ge (tgt := 37) C dX4_nextOrder_32 (by decide) (fun c => ?_) (fun c => ?_)
  · rw [if_pos c] at hw
    refine PW.ild1n C dX4_nextOrder_37 ?_
    refine PW.iconst (v := 1) C dX4_nextOrder_38 (by decide) ?_
    refine PW.isub C dX4_nextOrder_39 ?_
    replace hw := hw _ rfl
    refine PW.ist3n C dX4_nextOrder_40 (by decide) rfl ?_
    obtain ⟨n, hw⟩ := hw
    refine PW.wk (wk_s (wk_s (wk_s (wk_s (wk_n (wk_n wk_0)))))) (l_X4_nextOrder_41 C ?_ n _ _ hw)
    · intro y10 h9 hw
      exact PW.wk (wk_s (wk_s (wk_s (wk_s (wk_n (wk_n wk_0)))))) (b_X4_nextOrder_67 C hw)
  · rw [if_neg c] at hw
    refine PW.iconst (v := 0) C dX4_nextOrder_35 (by decide) ?_
    exact PW.zret C dX4_nextOrder_36 (by decide) ⟨_, rfl, hw⟩
def w_X4_nextOrder (x1 : Int32) (h : PH) (Q : Int32 → PH → Prop) : Prop :=
  ∀ (y1 : Int32), y1 = (x1 - 2) → ∃ n, Lp1 (w_X4_nextOrder_4 (fun y5 h4 => w_X4_nextOrder_31 Q x1 y5 h4) Q x1) n y1 h
set_option maxRecDepth 8000 in
theorem s_X4_nextOrder {D : va_G} {ca : Nat → ClassId} {ad : Nat → Nat} {l : Launch} {x1 : Int32} {h : PH} {Q : Int32 → PH → Prop} (hw : w_X4_nextOrder x1 h Q) : Sp (GX D ca ad) (XS (GX D ca ad)) l 2 yX4_nextOrder cX4_nextOrder 6 (some .boolean) [.ref 122, .int x1] h (qI Q) := by
  refine Sp.of (own := RX4) [some (.ref 122), some (.int x1), none, none, none, none] (by decide +kernel) rfl rfl (Nat.le_of_ble_eq_true rfl) (fun K hl C => ?_)
  subst hl
  unfold w_X4_nextOrder at hw
  refine PW.ild1n C dX4_nextOrder_0 ?_
  refine PW.iconst (v := 2) C dX4_nextOrder_1 (by decide) ?_
  refine PW.isub C dX4_nextOrder_2 ?_
  replace hw := hw _ rfl
  refine PW.ist2n C dX4_nextOrder_3 (by decide) rfl ?_
  obtain ⟨n, hw⟩ := hw
  refine PW.wk (wk_s (wk_s (wk_s (wk_n (wk_n (wk_n wk_0)))))) (l_X4_nextOrder_4 C ?_ n _ _ hw)
  · intro y5 h4 hw
    exact PW.wk (wk_s (wk_s (wk_s (wk_n (wk_n (wk_n wk_0)))))) (b_X4_nextOrder_31 C hw)
def w_X4_search_29 (r1 : Nat) (r2 : Nat) (k64 : PH → Prop) (Q : PH → Prop) (x3 : Int32) (kb : Int32 → PH → Prop) (x4 : Int32) (h : PH) : Prop :=
  if x3 ≤ x4 then (k64 h) else (w_X4_forbiddenMinutes r1 r2 x4 h (fun z4 h3 => vp_in x4 4 ∧ ∀ h6, h6 = sJ h3 123 (iN x4) z4 → vp_in x4 4 ∧ ∀ h8, h8 = sI h6 125 (iN x4) x4 → kb (x4 + 1) h8))
set_option maxRecDepth 8000 in
theorem b_X4_search_29 {D : va_G} {ca : Nat → ClassId} {ad : Nat → Nat} {K : Kt} {r1 : Nat} {r2 : Nat} {k64 : PH → Prop} {kb : Int32 → PH → Prop} {Q : PH → Prop} {x3 : Int32} {x4 : Int32} {h : PH} (C : CX (GX D ca ad) (XS (GX D ca ad)) cX4_search RX4 7 none 6 K) (hr1 : oX r1 8) (hr2 : oX r2 0) (hk64 : ∀ (h : PH), k64 h → PW (GX D ca ad) K 7 (qV Q) h 64 [some (.ref 122), some (.ref r1), none, some (.int x3), none, none, none] []) (hkb : ∀ (x4 : Int32) (h : PH), kb x4 h → PW (GX D ca ad) K 7 (qV Q) h 29 [some (.ref 122), some (.ref r1), some (.ref r2), some (.int x3), some (.int x4), none, none] []) (hw : w_X4_search_29 r1 r2 k64 Q x3 kb x4 h) : PW (GX D ca ad) K 7 (qV Q) h 29 [some (.ref 122), some (.ref r1), some (.ref r2), some (.int x3), some (.int x4), none, none] [] := by
  unfold w_X4_search_29 at hw
  refine PW.ild4 C dX4_search_29 ?_
  refine PW.ild3n C dX4_search_31 ?_
  refine PW.icmp_ge (tgt := 64) C dX4_search_32 (by decide) (fun c => ?_) (fun c => ?_)
  · rw [if_pos c] at hw
    exact PW.wk (wk_s (wk_s (wk_n (wk_s (wk_n (wk_n (wk_n wk_0))))))) (hk64 _ hw)
  · rw [if_neg c] at hw
    refine PW.ald0n C dX4_search_35 ?_
    refine PW.get0 (v := .ref 123) C cf_4 fl_X4_9 (by decide) oX_122 (fvR (o := 1) rfl) dX4_search_36 ?_
    refine PW.ild4 C dX4_search_39 ?_
    refine PW.ald1n C dX4_search_41 ?_
    refine PW.ald2n C dX4_search_42 ?_
    refine PW.ild4 C dX4_search_43 ?_
    refine PW.callSJ3 C ms_X4_forbiddenMinutes ml_X4_52 dX4_search_45 (Nat.le_of_ble_eq_true rfl) (by decide) (Nat.le_of_ble_eq_true rfl) (s_X4_forbiddenMinutes hr1 hr2 hw) ?_
    clear hw
    intro z4 h3 hw
    obtain ⟨hc5, hw⟩ := hw
    replace hw := hw _ rfl
    refine PW.last C dX4_search_48 aX_123 hc5 ?_
    refine PW.ald0n C dX4_search_49 ?_
    refine PW.get0 (v := .ref 125) C cf_4 fl_X4_18 (by decide) oX_122 (fvR (o := 3) rfl) dX4_search_50 ?_
    refine PW.ild4 C dX4_search_53 ?_
    refine PW.ild4 C dX4_search_55 ?_
    obtain ⟨hc7, hw⟩ := hw
    replace hw := hw _ rfl
    refine PW.iast C dX4_search_57 aX_125 hc7 ?_
    refine PW.inc4 (v := 1) C dX4_search_58 (by decide) rfl (by decide) ?_
    refine PW.goto (tgt := 29) C dX4_search_61 (by decide) ?_
    exact PW.wk (wk_s (wk_s (wk_s (wk_s (wk_s (wk_n (wk_n wk_0))))))) (hkb _ _ hw)
theorem l_X4_search_29 {D : va_G} {ca : Nat → ClassId} {ad : Nat → Nat} {K : Kt} {r1 : Nat} {r2 : Nat} {k64 : PH → Prop} {Q : PH → Prop} {x3 : Int32} (C : CX (GX D ca ad) (XS (GX D ca ad)) cX4_search RX4 7 none 6 K) (hr1 : oX r1 8) (hr2 : oX r2 0) (hk64 : ∀ (h : PH), k64 h → PW (GX D ca ad) K 7 (qV Q) h 64 [some (.ref 122), some (.ref r1), none, some (.int x3), none, none, none] []) : ∀ (n : Nat) (x4 : Int32) (h : PH), Lp1 (w_X4_search_29 r1 r2 k64 Q x3) n x4 h → PW (GX D ca ad) K 7 (qV Q) h 29 [some (.ref 122), some (.ref r1), some (.ref r2), some (.int x3), some (.int x4), none, none] [] := by
  intro n
  induction n with
  | zero => intro x4 h hw; exact hw.elim
  | succ n ih => intro x4 h hw; exact b_X4_search_29 C hr1 hr2 hk64 (fun x4 h hw => ih x4 h hw) hw
def w_X4_search_157 (r1 : Nat) (r2 : Nat) (Q : PH → Prop) (kb : Int32 → Int32 → PH → Prop) (x3 : Int32) (x5 : Int32) (h : PH) : Prop :=
  w_X4_nextOrder x3 h (fun z13 h12 => kb z13 (x5 + 1) h12)
set_option maxRecDepth 8000 in
theorem b_X4_search_157 {D : va_G} {ca : Nat → ClassId} {ad : Nat → Nat} {K : Kt} {r1 : Nat} {r2 : Nat} {kb : Int32 → Int32 → PH → Prop} {Q : PH → Prop} {x3 : Int32} {x5 : Int32} {h : PH} (C : CX (GX D ca ad) (XS (GX D ca ad)) cX4_search RX4 7 none 6 K) (hr1 : oX r1 8) (hr2 : oX r2 0) (hkb : ∀ (x4 : Int32) (x5 : Int32) (h : PH), kb x4 x5 h → PW (GX D ca ad) K 7 (qV Q) h 78 [some (.ref 122), some (.ref r1), none, some (.int x3), some (.int x4), some (.int x5), none] []) (hw : w_X4_search_157 r1 r2 Q kb x3 x5 h) : PW (GX D ca ad) K 7 (qV Q) h 157 [some (.ref 122), some (.ref r1), none, some (.int x3), none, some (.int x5), none] [] := by
  unfold w_X4_search_157 at hw
  refine PW.ald0n C dX4_search_157 ?_
  refine PW.ild3n C dX4_search_158 ?_
  refine PW.callVI1 C ms_X4_nextOrder ml_X4_66 dX4_search_159 oX_122 ⟨_, _, rfl⟩ (Nat.le_of_ble_eq_true rfl) (by decide) (Nat.le_of_ble_eq_true rfl) (s_X4_nextOrder hw) ?_
  clear hw
  intro z13 h12 hw
  refine PW.ist4 C dX4_search_162 (by decide) rfl ?_
  refine PW.inc5 (v := 1) C dX4_search_164 (by decide) rfl (by decide) ?_
  refine PW.goto (tgt := 78) C dX4_search_167 (by decide) ?_
  exact PW.wk (wk_s (wk_s (wk_n (wk_s (wk_s (wk_s (wk_n wk_0))))))) (hkb _ _ _ hw)
def w_X4_search_123 (r1 : Nat) (r2 : Nat) (Q : PH → Prop) (kb : Int32 → Int32 → PH → Prop) (x3 : Int32) (x5 : Int32) (x6 : Int32) (h : PH) : Prop :=
  ∀ h14, h14 = sI h 122 6 x6 → ¬ (0 : Int32) < 0 ∧ ¬ (0 : Int32) < 0 ∧ ¬ (4 : Int32) < 0 ∧ iN 0 + iN 4 ≤ 4 ∧ iN 0 + iN 4 ≤ 4 ∧ ∀ h20, h20 = cpI h14 125 127 (iN 0) (iN 0) (iN 4) → ¬ (0 : Int32) < 0 ∧ ¬ (0 : Int32) < 0 ∧ ¬ (4 : Int32) < 0 ∧ iN 0 + iN 4 ≤ 4 ∧ iN 0 + iN 4 ≤ 4 ∧ ∀ h26, h26 = cpI h20 126 128 (iN 0) (iN 0) (iN 4) → w_X4_search_157 r1 r2 Q kb x3 x5 h26
set_option maxRecDepth 8000 in
theorem b_X4_search_123 {D : va_G} {ca : Nat → ClassId} {ad : Nat → Nat} {K : Kt} {r1 : Nat} {r2 : Nat} {kb : Int32 → Int32 → PH → Prop} {Q : PH → Prop} {x3 : Int32} {x5 : Int32} {x6 : Int32} {h : PH} (C : CX (GX D ca ad) (XS (GX D ca ad)) cX4_search RX4 7 none 6 K) (hr1 : oX r1 8) (hr2 : oX r2 0) (hkb : ∀ (x4 : Int32) (x5 : Int32) (h : PH), kb x4 x5 h → PW (GX D ca ad) K 7 (qV Q) h 78 [some (.ref 122), some (.ref r1), none, some (.int x3), some (.int x4), some (.int x5), none] []) (hw : w_X4_search_123 r1 r2 Q kb x3 x5 x6 h) : PW (GX D ca ad) K 7 (qV Q) h 123 [some (.ref 122), some (.ref r1), none, some (.int x3), none, some (.int x5), some (.int x6)] [] := by
  unfold w_X4_search_123 at hw
  refine PW.ald0n C dX4_search_123 ?_
  refine PW.ild6 C dX4_search_124 ?_
  replace hw := hw _ rfl
  refine PW.put0 C cf_4 fl_X4_49 (by decide) oX_122 rfl rfl rfl (pw_sI oX_122 (by decide) rfl) dX4_search_126 ?_
  refine PW.ald0n C dX4_search_129 ?_
  refine PW.get0 (v := .ref 125) C cf_4 fl_X4_18 (by decide) oX_122 (fvR (o := 3) rfl) dX4_search_130 ?_
  refine PW.iconst (v := 0) C dX4_search_133 (by decide) ?_
  refine PW.ald0n C dX4_search_134 ?_
  refine PW.get0 (v := .ref 127) C cf_4 fl_X4_25 (by decide) oX_122 (fvR (o := 5) rfl) dX4_search_135 ?_
  refine PW.iconst (v := 0) C dX4_search_138 (by decide) ?_
  refine PW.iconst (v := 4) C dX4_search_139 (by decide) ?_
  obtain ⟨hc15, hc16, hc17, hc18, hc19, hw⟩ := hw
  replace hw := hw _ rfl
  refine PW.acp C ml_X4_60 (Nat.le_of_ble_eq_true rfl) (by decide) dX4_search_140 aX_125 aX_127 hc15 hc16 hc17 hc18 hc19 ?_
  refine PW.ald0n C dX4_search_143 ?_
  refine PW.get0 (v := .ref 126) C cf_4 fl_X4_22 (by decide) oX_122 (fvR (o := 4) rfl) dX4_search_144 ?_
  refine PW.iconst (v := 0) C dX4_search_147 (by decide) ?_
  refine PW.ald0n C dX4_search_148 ?_
  refine PW.get0 (v := .ref 128) C cf_4 fl_X4_28 (by decide) oX_122 (fvR (o := 6) rfl) dX4_search_149 ?_
  refine PW.iconst (v := 0) C dX4_search_152 (by decide) ?_
  refine PW.iconst (v := 4) C dX4_search_153 (by decide) ?_
  obtain ⟨hc21, hc22, hc23, hc24, hc25, hw⟩ := hw
  replace hw := hw _ rfl
  refine PW.acp C ml_X4_60 (Nat.le_of_ble_eq_true rfl) (by decide) dX4_search_154 aX_126 aX_128 hc21 hc22 hc23 hc24 hc25 ?_
  exact PW.wk (wk_s (wk_s (wk_n (wk_s (wk_n (wk_s (wk_n wk_0))))))) (b_X4_search_157 C hr1 hr2 hkb hw)
def w_X4_search_78 (r1 : Nat) (r2 : Nat) (k170 : PH → Prop) (Q : PH → Prop) (x3 : Int32) (kb : Int32 → Int32 → PH → Prop) (x4 : Int32) (x5 : Int32) (h : PH) : Prop :=
  if 24 ≤ x5 then (k170 h) else (if x4 = 0 then (k170 h) else (w_X4_endOfOrder r1 x3 h (fun z11 h10 => if z11 = (-2) then (w_X4_search_157 r1 r2 Q kb x3 x5 h10) else (if (gI h10 122 6) = (-2) then (w_X4_search_123 r1 r2 Q kb x3 x5 z11 h10) else (if (gI h10 122 6) ≤ z11 then (w_X4_search_157 r1 r2 Q kb x3 x5 h10) else (w_X4_search_123 r1 r2 Q kb x3 x5 z11 h10))))))
set_option maxRecDepth 8000 in
theorem b_X4_search_78 {D : va_G} {ca : Nat → ClassId} {ad : Nat → Nat} {K : Kt} {r1 : Nat} {r2 : Nat} {k170 : PH → Prop} {kb : Int32 → Int32 → PH → Prop} {Q : PH → Prop} {x3 : Int32} {x4 : Int32} {x5 : Int32} {h : PH} (C : CX (GX D ca ad) (XS (GX D ca ad)) cX4_search RX4 7 none 6 K) (hr1 : oX r1 8) (hr2 : oX r2 0) (hk170 : ∀ (h : PH), k170 h → PW (GX D ca ad) K 7 (qV Q) h 170 [none, none, none, none, none, none, none] []) (hkb : ∀ (x4 : Int32) (x5 : Int32) (h : PH), kb x4 x5 h → PW (GX D ca ad) K 7 (qV Q) h 78 [some (.ref 122), some (.ref r1), none, some (.int x3), some (.int x4), some (.int x5), none] []) (hw : w_X4_search_78 r1 r2 k170 Q x3 kb x4 x5 h) : PW (GX D ca ad) K 7 (qV Q) h 78 [some (.ref 122), some (.ref r1), none, some (.int x3), some (.int x4), some (.int x5), none] [] := by
  unfold w_X4_search_78 at hw
  refine PW.ild5 C dX4_search_78 ?_
  refine PW.bipush (v := 24) C dX4_search_80 (by decide) ?_
  refine PW.icmp_ge (tgt := 170) C dX4_search_82 (by decide) (fun c => ?_) (fun c => ?_)
  · rw [if_pos c] at hw
    exact PW.wk (wk_n (wk_n (wk_n (wk_n (wk_n (wk_n (wk_n wk_0))))))) (hk170 _ hw)
  · rw [if_neg c] at hw
    refine PW.ild4 C dX4_search_85 ?_
    refine PW.if_eq (tgt := 170) C dX4_search_87 (by decide) (fun c => ?_) (fun c => ?_)
    · rw [if_pos c] at hw
      exact PW.wk (wk_n (wk_n (wk_n (wk_n (wk_n (wk_n (wk_n wk_0))))))) (hk170 _ hw)
    · rw [if_neg c] at hw
      refine PW.ald0n C dX4_search_90 ?_
      refine PW.ald1n C dX4_search_91 ?_
      refine PW.ild3n C dX4_search_92 ?_
      refine PW.callVI2 C ms_X4_endOfOrder ml_X4_56 dX4_search_93 oX_122 ⟨_, _, rfl⟩ (Nat.le_of_ble_eq_true rfl) (by decide) (Nat.le_of_ble_eq_true rfl) (s_X4_endOfOrder hr1 hw) ?_
      clear hw
      intro z11 h10 hw
      refine PW.ist6 C dX4_search_96 (by decide) rfl ?_
      refine PW.ild6 C dX4_search_98 ?_
      refine PW.bipush (v := (-2)) C dX4_search_100 (by decide) ?_
      refine PW.icmp_eq (tgt := 157) C dX4_search_102 (by decide) (fun c => ?_) (fun c => ?_)
      · rw [if_pos c] at hw
        exact PW.wk (wk_s (wk_s (wk_n (wk_s (wk_n (wk_s (wk_n wk_0))))))) (b_X4_search_157 C hr1 hr2 hkb hw)
      · rw [if_neg c] at hw
        refine PW.ald0n C dX4_search_105 ?_
        refine PW.get0 C cf_4 fl_X4_49 (by decide) oX_122 (fvI rfl) dX4_search_106 ?_
        refine PW.bipush (v := (-2)) C dX4_search_109 (by decide) ?_
        refine PW.icmp_eq (tgt := 123) C dX4_search_111 (by decide) (fun c => ?_) (fun c => ?_)
        · rw [if_pos c] at hw
          exact PW.wk (wk_s (wk_s (wk_n (wk_s (wk_n (wk_s (wk_s wk_0))))))) (b_X4_search_123 C hr1 hr2 hkb hw)
        · rw [if_neg c] at hw
          refine PW.ild6 C dX4_search_114 ?_
          refine PW.ald0n C dX4_search_116 ?_
          refine PW.get0 C cf_4 fl_X4_49 (by decide) oX_122 (fvI rfl) dX4_search_117 ?_
          refine PW.icmp_ge (tgt := 157) C dX4_search_120 (by decide) (fun c => ?_) (fun c => ?_)
          · rw [if_pos c] at hw
            exact PW.wk (wk_s (wk_s (wk_n (wk_s (wk_n (wk_s (wk_n wk_0))))))) (b_X4_search_157 C hr1 hr2 hkb hw)
          · rw [if_neg c] at hw
            exact PW.wk (wk_s (wk_s (wk_n (wk_s (wk_n (wk_s (wk_s wk_0))))))) (b_X4_search_123 C hr1 hr2 hkb hw)
theorem l_X4_search_78 {D : va_G} {ca : Nat → ClassId} {ad : Nat → Nat} {K : Kt} {r1 : Nat} {r2 : Nat} {k170 : PH → Prop} {Q : PH → Prop} {x3 : Int32} (C : CX (GX D ca ad) (XS (GX D ca ad)) cX4_search RX4 7 none 6 K) (hr1 : oX r1 8) (hr2 : oX r2 0) (hk170 : ∀ (h : PH), k170 h → PW (GX D ca ad) K 7 (qV Q) h 170 [none, none, none, none, none, none, none] []) : ∀ (n : Nat) (x4 : Int32) (x5 : Int32) (h : PH), Lp2 (w_X4_search_78 r1 r2 k170 Q x3) n x4 x5 h → PW (GX D ca ad) K 7 (qV Q) h 78 [some (.ref 122), some (.ref r1), none, some (.int x3), some (.int x4), some (.int x5), none] [] := by
  intro n
  induction n with
  | zero => intro x4 x5 h hw; exact hw.elim
  | succ n ih => intro x4 x5 h hw; exact b_X4_search_78 C hr1 hr2 hk170 (fun x4 x5 h hw => ih x4 x5 h hw) hw
def w_X4_search (r1 : Nat) (r2 : Nat) (h : PH) (Q : PH → Prop) : Prop :=
  ∀ (y1 : Int32), y1 = (mnI (gI h (r1 + 13) 3) 4) → if y1 = 0 then (∀ h29, h29 = sI h 122 6 (-1) → ∃ n, Lp1 (w_X4_search_29 r1 r2 (fun h30 => if y1 ≤ 0 then (∃ n, Lp2 (w_X4_search_78 r1 r2 (fun h31 => Q h31) Q y1) n 0 0 h30) else (∃ n, Lp2 (w_X4_search_78 r1 r2 (fun h32 => Q h32) Q y1) n 1 0 h30)) Q y1) n 0 h29) else (∀ h2, h2 = sI h 122 6 (-2) → ∃ n, Lp1 (w_X4_search_29 r1 r2 (fun h9 => if y1 ≤ 0 then (∃ n, Lp2 (w_X4_search_78 r1 r2 (fun h27 => Q h27) Q y1) n 0 0 h9) else (∃ n, Lp2 (w_X4_search_78 r1 r2 (fun h28 => Q h28) Q y1) n 1 0 h9)) Q y1) n 0 h2)
set_option maxRecDepth 8000 in
theorem s_X4_search {D : va_G} {ca : Nat → ClassId} {ad : Nat → Nat} {l : Launch} {r1 : Nat} {r2 : Nat} {h : PH} {Q : PH → Prop} (hr1 : oX r1 8) (hr2 : oX r2 0) (hw : w_X4_search r1 r2 h Q) : Sp (GX D ca ad) (XS (GX D ca ad)) l 6 yX4_search cX4_search 7 none [.ref 122, .ref r1, .ref r2] h (qV Q) := by
  refine Sp.of (own := RX4) [some (.ref 122), some (.ref r1), some (.ref r2), none, none, none, none] (by decide +kernel) rfl rfl (Nat.le_of_ble_eq_true rfl) (fun K hl C => ?_)
  subst hl
  unfold w_X4_search at hw
  refine PW.ald1n C dX4_search_0 ?_
  refine PW.getN0 C cf_8 fl_X4_31 (by decide) hr1 (fvR (o := 13) rfl) dX4_search_1 ?_
  refine PW.getN0 C cf_6 fl_X4_37 (by decide) (sf_8_6 hr1) (fvI rfl) dX4_search_4 ?_
  refine PW.iconst (v := 4) C dX4_search_7 (by decide) ?_
  refine PW.mnI C ml_X4_43 (Nat.le_of_ble_eq_true rfl) (by decide) dX4_search_8 ?_
  replace hw := hw _ rfl
  refine PW.ist3n C dX4_search_11 (by decide) rfl ?_
  refine PW.ald0n C dX4_search_12 ?_
  refine PW.ild3n C dX4_search_13 ?_
  refine PW.if_ne (tgt := 21) C dX4_search_14 (by decide) (fun c => ?_) (fun c => ?_)
  · rw [if_neg c] at hw
    refine PW.bipush (v := (-2)) C dX4_search_21 (by decide) ?_
    replace hw := hw _ rfl
    refine PW.put0 C cf_4 fl_X4_49 (by decide) oX_122 rfl rfl rfl (pw_sI oX_122 (by decide) rfl) dX4_search_23 ?_
    refine PW.iconst (v := 0) C dX4_search_26 (by decide) ?_
    refine PW.ist4 C dX4_search_27 (by decide) rfl ?_
    obtain ⟨n, hw⟩ := hw
    refine PW.wk (wk_s (wk_s (wk_s (wk_s (wk_s (wk_n (wk_n wk_0))))))) (l_X4_search_29 C hr1 hr2 ?_ n _ _ hw)
    · intro h9 hw
      refine PW.ild3n C dX4_search_64 ?_
      refine PW.if_le (tgt := 72) C dX4_search_65 (by decide) (fun c => ?_) (fun c => ?_)
      · rw [if_pos c] at hw
        refine PW.iconst (v := 0) C dX4_search_72 (by decide) ?_
        refine PW.ist4 C dX4_search_73 (by decide) rfl ?_
        refine PW.iconst (v := 0) C dX4_search_75 (by decide) ?_
        refine PW.ist5 C dX4_search_76 (by decide) rfl ?_
        obtain ⟨n, hw⟩ := hw
        refine PW.wk (wk_s (wk_s (wk_n (wk_s (wk_s (wk_s (wk_n wk_0))))))) (l_X4_search_78 C hr1 hr2 ?_ n _ _ _ hw)
        · intro h27 hw
          exact PW.vret C dX4_search_170 ⟨rfl, hw⟩
      · rw [if_neg c] at hw
        refine PW.iconst (v := 1) C dX4_search_68 (by decide) ?_
        refine PW.goto (tgt := 73) C dX4_search_69 (by decide) ?_
        refine PW.ist4 C dX4_search_73 (by decide) rfl ?_
        refine PW.iconst (v := 0) C dX4_search_75 (by decide) ?_
        refine PW.ist5 C dX4_search_76 (by decide) rfl ?_
        obtain ⟨n, hw⟩ := hw
        refine PW.wk (wk_s (wk_s (wk_n (wk_s (wk_s (wk_s (wk_n wk_0))))))) (l_X4_search_78 C hr1 hr2 ?_ n _ _ _ hw)
        · intro h28 hw
          exact PW.vret C dX4_search_170 ⟨rfl, hw⟩
  · rw [if_pos c] at hw
    refine PW.iconst (v := (-1)) C dX4_search_17 (by decide) ?_
    refine PW.goto (tgt := 23) C dX4_search_18 (by decide) ?_
    replace hw := hw _ rfl
    refine PW.put0 C cf_4 fl_X4_49 (by decide) oX_122 rfl rfl rfl (pw_sI oX_122 (by decide) rfl) dX4_search_23 ?_
    refine PW.iconst (v := 0) C dX4_search_26 (by decide) ?_
    refine PW.ist4 C dX4_search_27 (by decide) rfl ?_
    obtain ⟨n, hw⟩ := hw
    refine PW.wk (wk_s (wk_s (wk_s (wk_s (wk_s (wk_n (wk_n wk_0))))))) (l_X4_search_29 C hr1 hr2 ?_ n _ _ hw)
    · intro h30 hw
      refine PW.ild3n C dX4_search_64 ?_
      refine PW.if_le (tgt := 72) C dX4_search_65 (by decide) (fun c => ?_) (fun c => ?_)
      · rw [if_pos c] at hw
        refine PW.iconst (v := 0) C dX4_search_72 (by decide) ?_
        refine PW.ist4 C dX4_search_73 (by decide) rfl ?_
        refine PW.iconst (v := 0) C dX4_search_75 (by decide) ?_
        refine PW.ist5 C dX4_search_76 (by decide) rfl ?_
        obtain ⟨n, hw⟩ := hw
        refine PW.wk (wk_s (wk_s (wk_n (wk_s (wk_s (wk_s (wk_n wk_0))))))) (l_X4_search_78 C hr1 hr2 ?_ n _ _ _ hw)
        · intro h31 hw
          exact PW.vret C dX4_search_170 ⟨rfl, hw⟩
      · rw [if_neg c] at hw
        refine PW.iconst (v := 1) C dX4_search_68 (by decide) ?_
        refine PW.goto (tgt := 73) C dX4_search_69 (by decide) ?_
        refine PW.ist4 C dX4_search_73 (by decide) rfl ?_
        refine PW.iconst (v := 0) C dX4_search_75 (by decide) ?_
        refine PW.ist5 C dX4_search_76 (by decide) rfl ?_
        obtain ⟨n, hw⟩ := hw
        refine PW.wk (wk_s (wk_s (wk_n (wk_s (wk_s (wk_s (wk_n wk_0))))))) (l_X4_search_78 C hr1 hr2 ?_ n _ _ _ hw)
        · intro h32 hw
          exact PW.vret C dX4_search_170 ⟨rfl, hw⟩
def w_X4_taskAt (x1 : Int32) (h : PH) (Q : Int32 → PH → Prop) : Prop :=
  if x1 < 0 then (Q (-1) h) else (if 4 ≤ x1 then (Q (-1) h) else (vp_in x1 4 ∧ Q (gI h 127 (iN x1)) h))
set_option maxRecDepth 8000 in
theorem s_X4_taskAt {D : va_G} {ca : Nat → ClassId} {ad : Nat → Nat} {l : Launch} {x1 : Int32} {h : PH} {Q : Int32 → PH → Prop} (hw : w_X4_taskAt x1 h Q) : Sp (GX D ca ad) (XS (GX D ca ad)) l 1 yX4_taskAt cX4_taskAt 2 (some .int) [.ref 122, .int x1] h (qI Q) := by
  refine Sp.of (own := RX4) [some (.ref 122), some (.int x1)] (by decide +kernel) rfl rfl (Nat.le_of_ble_eq_true rfl) (fun K hl C => ?_)
  subst hl
  unfold w_X4_taskAt at hw
  refine PW.ild1n C dX4_taskAt_0 ?_
  refine PW.if_lt (tgt := 18) C dX4_taskAt_1 (by decide) (fun c => ?_) (fun c => ?_)
  · rw [if_pos c] at hw
    refine PW.iconst (v := (-1)) C dX4_taskAt_18 (by decide) ?_
    exact PW.iret C dX4_taskAt_19 ⟨_, rfl, hw⟩
  · rw [if_neg c] at hw
    refine PW.ild1n C dX4_taskAt_4 ?_
    refine PW.iconst (v := 4) C dX4_taskAt_5 (by decide) ?_
    refine PW.icmp_ge (tgt := 18) C dX4_taskAt_6 (by decide) (fun c => ?_) (fun c => ?_)
    · rw [if_pos c] at hw
      refine PW.iconst (v := (-1)) C dX4_taskAt_18 (by decide) ?_
      exact PW.iret C dX4_taskAt_19 ⟨_, rfl, hw⟩
    · rw [if_neg c] at hw
      refine PW.ald0n C dX4_taskAt_9 ?_
      refine PW.get0 (v := .ref 127) C cf_4 fl_X4_25 (by decide) oX_122 (fvR (o := 5) rfl) dX4_taskAt_10 ?_
      refine PW.ild1n C dX4_taskAt_13 ?_
      obtain ⟨hc1, hw⟩ := hw
      refine PW.iald C dX4_taskAt_14 aX_127 hc1 ?_
      refine PW.goto (tgt := 19) C dX4_taskAt_15 (by decide) ?_
      exact PW.iret C dX4_taskAt_19 ⟨_, rfl, hw⟩
def w_X4_startAt (x1 : Int32) (h : PH) (Q : Int32 → PH → Prop) : Prop :=
  if x1 < 0 then (Q (-1) h) else (if 4 ≤ x1 then (Q (-1) h) else (vp_in x1 4 ∧ Q (gI h 128 (iN x1)) h))
set_option maxRecDepth 8000 in
theorem s_X4_startAt {D : va_G} {ca : Nat → ClassId} {ad : Nat → Nat} {l : Launch} {x1 : Int32} {h : PH} {Q : Int32 → PH → Prop} (hw : w_X4_startAt x1 h Q) : Sp (GX D ca ad) (XS (GX D ca ad)) l 1 yX4_startAt cX4_startAt 2 (some .int) [.ref 122, .int x1] h (qI Q) := by
  refine Sp.of (own := RX4) [some (.ref 122), some (.int x1)] (by decide +kernel) rfl rfl (Nat.le_of_ble_eq_true rfl) (fun K hl C => ?_)
  subst hl
  unfold w_X4_startAt at hw
  refine PW.ild1n C dX4_startAt_0 ?_
  refine PW.if_lt (tgt := 18) C dX4_startAt_1 (by decide) (fun c => ?_) (fun c => ?_)
  · rw [if_pos c] at hw
    refine PW.iconst (v := (-1)) C dX4_startAt_18 (by decide) ?_
    exact PW.iret C dX4_startAt_19 ⟨_, rfl, hw⟩
  · rw [if_neg c] at hw
    refine PW.ild1n C dX4_startAt_4 ?_
    refine PW.iconst (v := 4) C dX4_startAt_5 (by decide) ?_
    refine PW.icmp_ge (tgt := 18) C dX4_startAt_6 (by decide) (fun c => ?_) (fun c => ?_)
    · rw [if_pos c] at hw
      refine PW.iconst (v := (-1)) C dX4_startAt_18 (by decide) ?_
      exact PW.iret C dX4_startAt_19 ⟨_, rfl, hw⟩
    · rw [if_neg c] at hw
      refine PW.ald0n C dX4_startAt_9 ?_
      refine PW.get0 (v := .ref 128) C cf_4 fl_X4_28 (by decide) oX_122 (fvR (o := 6) rfl) dX4_startAt_10 ?_
      refine PW.ild1n C dX4_startAt_13 ?_
      obtain ⟨hc1, hw⟩ := hw
      refine PW.iald C dX4_startAt_14 aX_128 hc1 ?_
      refine PW.goto (tgt := 19) C dX4_startAt_15 (by decide) ?_
      exact PW.iret C dX4_startAt_19 ⟨_, rfl, hw⟩
def w_X2_clear (h : PH) (Q : PH → Prop) : Prop :=
  w_X6_clear 130 h (fun h1 => ∀ h2, h2 = sI h1 129 4 (-1) → Q h2)
set_option maxRecDepth 8000 in
theorem s_X2_clear {D : va_G} {ca : Nat → ClassId} {ad : Nat → Nat} {l : Launch} {h : PH} {Q : PH → Prop} (hw : w_X2_clear h Q) : Sp (GX D ca ad) (XS (GX D ca ad)) l 2 yX2_clear cX2_clear 1 none [.ref 129] h (qV Q) := by
  refine Sp.of (own := RX2) [some (.ref 129)] (by decide +kernel) rfl rfl (Nat.le_of_ble_eq_true rfl) (fun K hl C => ?_)
  subst hl
  unfold w_X2_clear at hw
  refine PW.ald0n C dX2_clear_0 ?_
  refine PW.get0 (v := .ref 130) C cf_2 fl_X2_16 (by decide) oX_129 (fvR (o := 1) rfl) dX2_clear_1 ?_
  refine PW.callVV0 C ms_X6_clear ml_X2_35 dX2_clear_4 oX_130 ⟨_, _, rfl⟩ (Nat.le_of_ble_eq_true rfl) (by decide) (Nat.le_of_ble_eq_true rfl) (s_X6_clear oX_130 hw) ?_
  clear hw
  intro h1 hw
  refine PW.ald0n C dX2_clear_7 ?_
  refine PW.iconst (v := (-1)) C dX2_clear_8 (by decide) ?_
  replace hw := hw _ rfl
  refine PW.put0 C cf_2 fl_X2_31 (by decide) oX_129 rfl rfl rfl (pw_sI oX_129 (by decide) rfl) dX2_clear_9 ?_
  exact PW.vret C dX2_clear_12 ⟨rfl, hw⟩
def w_X2_knownMany (h : PH) (Q : Int32 → PH → Prop) : Prop :=
  if (gI h 129 4) = (-1) then (Q (gI h 130 3) h) else (Q (gI h 129 4) h)
set_option maxRecDepth 8000 in
theorem s_X2_knownMany {D : va_G} {ca : Nat → ClassId} {ad : Nat → Nat} {l : Launch} {h : PH} {Q : Int32 → PH → Prop} (hw : w_X2_knownMany h Q) : Sp (GX D ca ad) (XS (GX D ca ad)) l 1 yX2_knownMany cX2_knownMany 1 (some .int) [.ref 129] h (qI Q) := by
  refine Sp.of (own := RX2) [some (.ref 129)] (by decide +kernel) rfl rfl (Nat.le_of_ble_eq_true rfl) (fun K hl C => ?_)
  subst hl
  unfold w_X2_knownMany at hw
  refine PW.ald0n C dX2_knownMany_0 ?_
  refine PW.get0 C cf_2 fl_X2_31 (by decide) oX_129 (fvI rfl) dX2_knownMany_1 ?_
  refine PW.iconst (v := (-1)) C dX2_knownMany_4 (by decide) ?_
  refine PW.icmp_ne (tgt := 18) C dX2_knownMany_5 (by decide) (fun c => ?_) (fun c => ?_)
  · rw [if_neg c] at hw
    refine PW.ald0n C dX2_knownMany_18 ?_
    refine PW.get0 C cf_2 fl_X2_31 (by decide) oX_129 (fvI rfl) dX2_knownMany_19 ?_
    exact PW.iret C dX2_knownMany_22 ⟨_, rfl, hw⟩
  · rw [if_pos c] at hw
    refine PW.ald0n C dX2_knownMany_8 ?_
    refine PW.get0 (v := .ref 130) C cf_2 fl_X2_16 (by decide) oX_129 (fvR (o := 1) rfl) dX2_knownMany_9 ?_
    refine PW.getN0 C cf_6 fl_X2_38 (by decide) oX_130 (fvI rfl) dX2_knownMany_12 ?_
    refine PW.goto (tgt := 22) C dX2_knownMany_15 (by decide) ?_
    exact PW.iret C dX2_knownMany_22 ⟨_, rfl, hw⟩
def w_X2_markStruck_2 (k21 : PH → Prop) (Q : PH → Prop) (kb : Int32 → PH → Prop) (x1 : Int32) (h : PH) : Prop :=
  if 24 ≤ x1 then (k21 h) else (vp_in x1 24 ∧ ∀ h2, h2 = sI h 132 (iN x1) (vp_nar .boolean 0) → kb (x1 + 1) h2)
set_option maxRecDepth 8000 in
theorem b_X2_markStruck_2 {D : va_G} {ca : Nat → ClassId} {ad : Nat → Nat} {K : Kt} {k21 : PH → Prop} {kb : Int32 → PH → Prop} {Q : PH → Prop} {x1 : Int32} {h : PH} (C : CX (GX D ca ad) (XS (GX D ca ad)) cX2_markStruck RX2 3 none 3 K) (hk21 : ∀ (h : PH), k21 h → PW (GX D ca ad) K 3 (qV Q) h 21 [some (.ref 129), none, none] []) (hkb : ∀ (x1 : Int32) (h : PH), kb x1 h → PW (GX D ca ad) K 3 (qV Q) h 2 [some (.ref 129), some (.int x1), none] []) (hw : w_X2_markStruck_2 k21 Q kb x1 h) : PW (GX D ca ad) K 3 (qV Q) h 2 [some (.ref 129), some (.int x1), none] [] := by
  unfold w_X2_markStruck_2 at hw
  refine PW.ild1n C dX2_markStruck_2 ?_
  refine PW.bipush (v := 24) C dX2_markStruck_3 (by decide) ?_
  refine PW.icmp_ge (tgt := 21) C dX2_markStruck_5 (by decide) (fun c => ?_) (fun c => ?_)
  · rw [if_pos c] at hw
    exact PW.wk (wk_s (wk_n (wk_n wk_0))) (hk21 _ hw)
  · rw [if_neg c] at hw
    refine PW.ald0n C dX2_markStruck_8 ?_
    refine PW.get0 (v := .ref 132) C cf_2 fl_X2_20 (by decide) oX_129 (fvR (o := 3) rfl) dX2_markStruck_9 ?_
    refine PW.ild1n C dX2_markStruck_12 ?_
    refine PW.iconst (v := 0) C dX2_markStruck_13 (by decide) ?_
    obtain ⟨hc1, hw⟩ := hw
    replace hw := hw _ rfl
    refine PW.zast C dX2_markStruck_14 aX_132 hc1 ?_
    refine PW.inc1 (v := 1) C dX2_markStruck_15 (by decide) rfl (by decide) ?_
    refine PW.goto (tgt := 2) C dX2_markStruck_18 (by decide) ?_
    exact PW.wk (wk_s (wk_s (wk_n wk_0))) (hkb _ _ hw)
theorem l_X2_markStruck_2 {D : va_G} {ca : Nat → ClassId} {ad : Nat → Nat} {K : Kt} {k21 : PH → Prop} {Q : PH → Prop} (C : CX (GX D ca ad) (XS (GX D ca ad)) cX2_markStruck RX2 3 none 3 K) (hk21 : ∀ (h : PH), k21 h → PW (GX D ca ad) K 3 (qV Q) h 21 [some (.ref 129), none, none] []) : ∀ (n : Nat) (x1 : Int32) (h : PH), Lp1 (w_X2_markStruck_2 k21 Q) n x1 h → PW (GX D ca ad) K 3 (qV Q) h 2 [some (.ref 129), some (.int x1), none] [] := by
  intro n
  induction n with
  | zero => intro x1 h hw; exact hw.elim
  | succ n ih => intro x1 h hw; exact b_X2_markStruck_2 C hk21 (fun x1 h hw => ih x1 h hw) hw
def w_X2_markStruck_33 (k92 : PH → Prop) (Q : PH → Prop) (kb : Int32 → PH → Prop) (x1 : Int32) (h : PH) : Prop :=
  if x1 < 0 then (k92 h) else (w_X6_at 130 x1 1 h (fun z8 h7 => w_X6_at 130 x1 0 h7 (fun z10 h9 => if z10 = 2 then (vp_in x1 24 ∧ if (gI h9 132 (iN x1)) = 0 then (if z8 < 0 then (kb (x1 + (-1)) h9) else (if 24 ≤ z8 then (kb (x1 + (-1)) h9) else (vp_in z8 24 ∧ ∀ h13, h13 = sI h9 132 (iN z8) (vp_nar .boolean 1) → kb (x1 + (-1)) h13))) else (kb (x1 + (-1)) h9)) else (kb (x1 + (-1)) h9))))
set_option maxRecDepth 8000 in
theorem b_X2_markStruck_33 {D : va_G} {ca : Nat → ClassId} {ad : Nat → Nat} {K : Kt} {k92 : PH → Prop} {kb : Int32 → PH → Prop} {Q : PH → Prop} {x1 : Int32} {h : PH} (C : CX (GX D ca ad) (XS (GX D ca ad)) cX2_markStruck RX2 3 none 3 K) (hk92 : ∀ (h : PH), k92 h → PW (GX D ca ad) K 3 (qV Q) h 92 [none, none, none] []) (hkb : ∀ (x1 : Int32) (h : PH), kb x1 h → PW (GX D ca ad) K 3 (qV Q) h 33 [some (.ref 129), some (.int x1), none] []) (hw : w_X2_markStruck_33 k92 Q kb x1 h) : PW (GX D ca ad) K 3 (qV Q) h 33 [some (.ref 129), some (.int x1), none] [] := by
  unfold w_X2_markStruck_33 at hw
  refine PW.ild1n C dX2_markStruck_33 ?_
  refine PW.if_lt (tgt := 92) C dX2_markStruck_34 (by decide) (fun c => ?_) (fun c => ?_)
  · rw [if_pos c] at hw
    exact PW.wk (wk_n (wk_n (wk_n wk_0))) (hk92 _ hw)
  · rw [if_neg c] at hw
    refine PW.ald0n C dX2_markStruck_37 ?_
    refine PW.get0 (v := .ref 130) C cf_2 fl_X2_16 (by decide) oX_129 (fvR (o := 1) rfl) dX2_markStruck_38 ?_
    refine PW.ild1n C dX2_markStruck_41 ?_
    refine PW.iconst (v := 1) C dX2_markStruck_42 (by decide) ?_
    refine PW.callVI2 C ms_X6_at ml_X2_74 dX2_markStruck_43 oX_130 ⟨_, _, rfl⟩ (Nat.le_of_ble_eq_true rfl) (by decide) (Nat.le_of_ble_eq_true rfl) (s_X6_at oX_130 hw) ?_
    clear hw
    intro z8 h7 hw
    refine PW.ist2n C dX2_markStruck_46 (by decide) rfl ?_
    refine PW.ald0n C dX2_markStruck_47 ?_
    refine PW.get0 (v := .ref 130) C cf_2 fl_X2_16 (by decide) oX_129 (fvR (o := 1) rfl) dX2_markStruck_48 ?_
    refine PW.ild1n C dX2_markStruck_51 ?_
    refine PW.iconst (v := 0) C dX2_markStruck_52 (by decide) ?_
    refine PW.callVI2 C ms_X6_at ml_X2_74 dX2_markStruck_53 oX_130 ⟨_, _, rfl⟩ (Nat.le_of_ble_eq_true rfl) (by decide) (Nat.le_of_ble_eq_true rfl) (s_X6_at oX_130 hw) ?_
    clear hw
    intro z10 h9 hw
    refine PW.iconst (v := 2) C dX2_markStruck_56 (by decide) ?_
    refine PW.icmp_ne (tgt := 86) C dX2_markStruck_57 (by decide) (fun c => ?_) (fun c => ?_)
    · rw [if_neg c] at hw
      refine PW.inc1 (v := (-1)) C dX2_markStruck_86 (by decide) rfl (by decide) ?_
      refine PW.goto (tgt := 33) C dX2_markStruck_89 (by decide) ?_
      exact PW.wk (wk_s (wk_s (wk_n wk_0))) (hkb _ _ hw)
    · rw [if_pos c] at hw
      refine PW.ald0n C dX2_markStruck_60 ?_
      refine PW.get0 (v := .ref 132) C cf_2 fl_X2_20 (by decide) oX_129 (fvR (o := 3) rfl) dX2_markStruck_61 ?_
      refine PW.ild1n C dX2_markStruck_64 ?_
      obtain ⟨hc11, hw⟩ := hw
      refine PW.zald C dX2_markStruck_65 aX_132 hc11 ?_
      refine PW.if_ne (tgt := 86) C dX2_markStruck_66 (by decide) (fun c => ?_) (fun c => ?_)
      · rw [if_neg c] at hw
        refine PW.inc1 (v := (-1)) C dX2_markStruck_86 (by decide) rfl (by decide) ?_
        refine PW.goto (tgt := 33) C dX2_markStruck_89 (by decide) ?_
        exact PW.wk (wk_s (wk_s (wk_n wk_0))) (hkb _ _ hw)
      · rw [if_pos c] at hw
        refine PW.ild2n C dX2_markStruck_69 ?_
        refine PW.if_lt (tgt := 86) C dX2_markStruck_70 (by decide) (fun c => ?_) (fun c => ?_)
        · rw [if_pos c] at hw
          refine PW.inc1 (v := (-1)) C dX2_markStruck_86 (by decide) rfl (by decide) ?_
          refine PW.goto (tgt := 33) C dX2_markStruck_89 (by decide) ?_
          exact PW.wk (wk_s (wk_s (wk_n wk_0))) (hkb _ _ hw)
        · rw [if_neg c] at hw
          refine PW.ild2n C dX2_markStruck_73 ?_
          refine PW.bipush (v := 24) C dX2_markStruck_74 (by decide) ?_
          refine PW.icmp_ge (tgt := 86) C dX2_markStruck_76 (by decide) (fun c => ?_) (fun c => ?_)
          · rw [if_pos c] at hw
            refine PW.inc1 (v := (-1)) C dX2_markStruck_86 (by decide) rfl (by decide) ?_
            refine PW.goto (tgt := 33) C dX2_markStruck_89 (by decide) ?_
            exact PW.wk (wk_s (wk_s (wk_n wk_0))) (hkb _ _ hw)
          · rw [if_neg c] at hw
            refine PW.ald0n C dX2_markStruck_79 ?_
            refine PW.get0 (v := .ref 132) C cf_2 fl_X2_20 (by decide) oX_129 (fvR (o := 3) rfl) dX2_markStruck_80 ?_
            refine PW.ild2n C dX2_markStruck_83 ?_
            refine PW.iconst (v := 1) C dX2_markStruck_84 (by decide) ?_
            obtain ⟨hc12, hw⟩ := hw
            replace hw := hw _ rfl
            refine PW.zast C dX2_markStruck_85 aX_132 hc12 ?_
            refine PW.inc1 (v := (-1)) C dX2_markStruck_86 (by decide) rfl (by decide) ?_
            refine PW.goto (tgt := 33) C dX2_markStruck_89 (by decide) ?_
            exact PW.wk (wk_s (wk_s (wk_n wk_0))) (hkb _ _ hw)
theorem l_X2_markStruck_33 {D : va_G} {ca : Nat → ClassId} {ad : Nat → Nat} {K : Kt} {k92 : PH → Prop} {Q : PH → Prop} (C : CX (GX D ca ad) (XS (GX D ca ad)) cX2_markStruck RX2 3 none 3 K) (hk92 : ∀ (h : PH), k92 h → PW (GX D ca ad) K 3 (qV Q) h 92 [none, none, none] []) : ∀ (n : Nat) (x1 : Int32) (h : PH), Lp1 (w_X2_markStruck_33 k92 Q) n x1 h → PW (GX D ca ad) K 3 (qV Q) h 33 [some (.ref 129), some (.int x1), none] [] := by
  intro n
  induction n with
  | zero => intro x1 h hw; exact hw.elim
  | succ n ih => intro x1 h hw; exact b_X2_markStruck_33 C hk92 (fun x1 h hw => ih x1 h hw) hw
def w_X2_markStruck (h : PH) (Q : PH → Prop) : Prop :=
  ∃ n, Lp1 (w_X2_markStruck_2 (fun h3 => w_X2_knownMany h3 (fun z5 h4 => ∀ (y6 : Int32), y6 = ((mnI z5 24) - 1) → ∃ n, Lp1 (w_X2_markStruck_33 (fun h14 => Q h14) Q) n y6 h4)) Q) n 0 h
set_option maxRecDepth 8000 in
theorem s_X2_markStruck {D : va_G} {ca : Nat → ClassId} {ad : Nat → Nat} {l : Launch} {h : PH} {Q : PH → Prop} (hw : w_X2_markStruck h Q) : Sp (GX D ca ad) (XS (GX D ca ad)) l 3 yX2_markStruck cX2_markStruck 3 none [.ref 129] h (qV Q) := by
  refine Sp.of (own := RX2) [some (.ref 129), none, none] (by decide +kernel) rfl rfl (Nat.le_of_ble_eq_true rfl) (fun K hl C => ?_)
  subst hl
  unfold w_X2_markStruck at hw
  refine PW.iconst (v := 0) C dX2_markStruck_0 (by decide) ?_
  refine PW.ist1n C dX2_markStruck_1 (by decide) rfl ?_
  obtain ⟨n, hw⟩ := hw
  refine PW.wk (wk_s (wk_s (wk_n wk_0))) (l_X2_markStruck_2 C ?_ n _ _ hw)
  · intro h3 hw
    refine PW.ald0n C dX2_markStruck_21 ?_
    refine PW.callVI0 C ms_X2_knownMany ml_X2_70 dX2_markStruck_22 oX_129 ⟨_, _, rfl⟩ (Nat.le_of_ble_eq_true rfl) (by decide) (Nat.le_of_ble_eq_true rfl) (s_X2_knownMany hw) ?_
    clear hw
    intro z5 h4 hw
    refine PW.bipush (v := 24) C dX2_markStruck_25 (by decide) ?_
    refine PW.mnI C ml_X2_84 (Nat.le_of_ble_eq_true rfl) (by decide) dX2_markStruck_27 ?_
    refine PW.iconst (v := 1) C dX2_markStruck_30 (by decide) ?_
    refine PW.isub C dX2_markStruck_31 ?_
    replace hw := hw _ rfl
    refine PW.ist1n C dX2_markStruck_32 (by decide) rfl ?_
    obtain ⟨n, hw⟩ := hw
    refine PW.wk (wk_s (wk_s (wk_n wk_0))) (l_X2_markStruck_33 C ?_ n _ _ hw)
    · intro h14 hw
      exact PW.vret C dX2_markStruck_92 ⟨rfl, hw⟩
def w_X2_sortNotes_2 (r1 : Nat) (k28 : PH → Prop) (Q : Int32 → PH → Prop) (kb : Int32 → PH → Prop) (x2 : Int32) (h : PH) : Prop :=
  if 48 ≤ x2 then (k28 h) else (vp_in x2 48 ∧ ∀ h2, h2 = sI h 133 (iN x2) 0 → vp_in x2 48 ∧ ∀ h4, h4 = sI h2 134 (iN x2) 0 → kb (x2 + 1) h4)
set_option maxRecDepth 8000 in
theorem b_X2_sortNotes_2 {D : va_G} {ca : Nat → ClassId} {ad : Nat → Nat} {K : Kt} {r1 : Nat} {k28 : PH → Prop} {kb : Int32 → PH → Prop} {Q : Int32 → PH → Prop} {x2 : Int32} {h : PH} (C : CX (GX D ca ad) (XS (GX D ca ad)) cX2_sortNotes RX2 7 (some .boolean) 4 K) (hr1 : oX r1 0) (hk28 : ∀ (h : PH), k28 h → PW (GX D ca ad) K 7 (qI Q) h 28 [some (.ref 129), some (.ref r1), none, none, none, none, none] []) (hkb : ∀ (x2 : Int32) (h : PH), kb x2 h → PW (GX D ca ad) K 7 (qI Q) h 2 [some (.ref 129), some (.ref r1), some (.int x2), none, none, none, none] []) (hw : w_X2_sortNotes_2 r1 k28 Q kb x2 h) : PW (GX D ca ad) K 7 (qI Q) h 2 [some (.ref 129), some (.ref r1), some (.int x2), none, none, none, none] [] := by
  unfold w_X2_sortNotes_2 at hw
  refine PW.ild2n C dX2_sortNotes_2 ?_
  refine PW.bipush (v := 48) C dX2_sortNotes_3 (by decide) ?_
  refine PW.icmp_ge (tgt := 28) C dX2_sortNotes_5 (by decide) (fun c => ?_) (fun c => ?_)
  · rw [if_pos c] at hw
    exact PW.wk (wk_s (wk_s (wk_n (wk_n (wk_n (wk_n (wk_n wk_0))))))) (hk28 _ hw)
  · rw [if_neg c] at hw
    refine PW.ald0n C dX2_sortNotes_8 ?_
    refine PW.get0 (v := .ref 133) C cf_2 fl_X2_24 (by decide) oX_129 (fvR (o := 4) rfl) dX2_sortNotes_9 ?_
    refine PW.ild2n C dX2_sortNotes_12 ?_
    refine PW.iconst (v := 0) C dX2_sortNotes_13 (by decide) ?_
    obtain ⟨hc1, hw⟩ := hw
    replace hw := hw _ rfl
    refine PW.iast C dX2_sortNotes_14 aX_133 hc1 ?_
    refine PW.ald0n C dX2_sortNotes_15 ?_
    refine PW.get0 (v := .ref 134) C cf_2 fl_X2_28 (by decide) oX_129 (fvR (o := 5) rfl) dX2_sortNotes_16 ?_
    refine PW.ild2n C dX2_sortNotes_19 ?_
    refine PW.iconst (v := 0) C dX2_sortNotes_20 (by decide) ?_
    obtain ⟨hc3, hw⟩ := hw
    replace hw := hw _ rfl
    refine PW.iast C dX2_sortNotes_21 aX_134 hc3 ?_
    refine PW.inc2 (v := 1) C dX2_sortNotes_22 (by decide) rfl (by decide) ?_
    refine PW.goto (tgt := 2) C dX2_sortNotes_25 (by decide) ?_
    exact PW.wk (wk_s (wk_s (wk_s (wk_n (wk_n (wk_n (wk_n wk_0))))))) (hkb _ _ hw)
theorem l_X2_sortNotes_2 {D : va_G} {ca : Nat → ClassId} {ad : Nat → Nat} {K : Kt} {r1 : Nat} {k28 : PH → Prop} {Q : Int32 → PH → Prop} (C : CX (GX D ca ad) (XS (GX D ca ad)) cX2_sortNotes RX2 7 (some .boolean) 4 K) (hr1 : oX r1 0) (hk28 : ∀ (h : PH), k28 h → PW (GX D ca ad) K 7 (qI Q) h 28 [some (.ref 129), some (.ref r1), none, none, none, none, none] []) : ∀ (n : Nat) (x2 : Int32) (h : PH), Lp1 (w_X2_sortNotes_2 r1 k28 Q) n x2 h → PW (GX D ca ad) K 7 (qI Q) h 2 [some (.ref 129), some (.ref r1), some (.int x2), none, none, none, none] [] := by
  intro n
  induction n with
  | zero => intro x2 h hw; exact hw.elim
  | succ n ih => intro x2 h hw; exact b_X2_sortNotes_2 C hr1 hk28 (fun x2 h hw => ih x2 h hw) hw
def w_X2_sortNotes_130 (r1 : Nat) (Q : Int32 → PH → Prop) (kb : Int32 → PH → Prop) (x2 : Int32) (x3 : Int32) (x4 : Int32) (x5 : Int32) (x6 : Int32) (h : PH) : Prop :=
  if x3 = 0 then (vp_in x5 48 ∧ vp_in x5 48 ∧ ∀ h23, h23 = sI h 134 (iN x5) ((gI h 134 (iN x5)) ||| ((1 : Int32) <<< ((x4 : Int32) &&& 31))) → kb (x2 + 1) h23) else (if x6 = 0 then (kb (x2 + 1) h) else (vp_in x5 48 ∧ vp_in x5 48 ∧ ∀ h20, h20 = sI h 133 (iN x5) ((gI h 133 (iN x5)) ||| ((1 : Int32) <<< ((x4 : Int32) &&& 31))) → kb (x2 + 1) h20))
set_option maxRecDepth 8000 in
theorem b_X2_sortNotes_130 {D : va_G} {ca : Nat → ClassId} {ad : Nat → Nat} {K : Kt} {r1 : Nat} {kb : Int32 → PH → Prop} {Q : Int32 → PH → Prop} {x2 : Int32} {x3 : Int32} {x4 : Int32} {x5 : Int32} {x6 : Int32} {h : PH} (C : CX (GX D ca ad) (XS (GX D ca ad)) cX2_sortNotes RX2 7 (some .boolean) 4 K) (hr1 : oX r1 0) (hkb : ∀ (x2 : Int32) (h : PH), kb x2 h → PW (GX D ca ad) K 7 (qI Q) h 34 [some (.ref 129), some (.ref r1), some (.int x2), none, none, none, none] []) (hw : w_X2_sortNotes_130 r1 Q kb x2 x3 x4 x5 x6 h) : PW (GX D ca ad) K 7 (qI Q) h 130 [some (.ref 129), some (.ref r1), some (.int x2), some (.int x3), some (.int x4), some (.int x5), some (.int x6)] [] := by
  unfold w_X2_sortNotes_130 at hw
  refine PW.ild3n C dX2_sortNotes_130 ?_
  refine PW.if_ne (tgt := 151) C dX2_sortNotes_131 (by decide) (fun c => ?_) (fun c => ?_)
  · rw [if_neg c] at hw
    refine PW.ild6 C dX2_sortNotes_151 ?_
    refine PW.if_eq (tgt := 170) C dX2_sortNotes_153 (by decide) (fun c => ?_) (fun c => ?_)
    · rw [if_pos c] at hw
      refine PW.inc2 (v := 1) C dX2_sortNotes_170 (by decide) rfl (by decide) ?_
      refine PW.goto (tgt := 34) C dX2_sortNotes_173 (by decide) ?_
      exact PW.wk (wk_s (wk_s (wk_s (wk_n (wk_n (wk_n (wk_n wk_0))))))) (hkb _ _ hw)
    · rw [if_neg c] at hw
      refine PW.ald0n C dX2_sortNotes_156 ?_
      refine PW.get0 (v := .ref 133) C cf_2 fl_X2_24 (by decide) oX_129 (fvR (o := 4) rfl) dX2_sortNotes_157 ?_
      refine PW.ild5 C dX2_sortNotes_160 ?_
      refine PW.dup2 C dX2_sortNotes_162 rfl rfl ?_
      obtain ⟨hc18, hw⟩ := hw
      refine PW.iald C dX2_sortNotes_163 aX_133 hc18 ?_
      refine PW.iconst (v := 1) C dX2_sortNotes_164 (by decide) ?_
      refine PW.ild4 C dX2_sortNotes_165 ?_
      refine PW.ishl C dX2_sortNotes_167 ?_
      refine PW.ior C dX2_sortNotes_168 ?_
      obtain ⟨hc19, hw⟩ := hw
      replace hw := hw _ rfl
      refine PW.iast C dX2_sortNotes_169 aX_133 hc19 ?_
      refine PW.inc2 (v := 1) C dX2_sortNotes_170 (by decide) rfl (by decide) ?_
      refine PW.goto (tgt := 34) C dX2_sortNotes_173 (by decide) ?_
      exact PW.wk (wk_s (wk_s (wk_s (wk_n (wk_n (wk_n (wk_n wk_0))))))) (hkb _ _ hw)
  · rw [if_pos c] at hw
    refine PW.ald0n C dX2_sortNotes_134 ?_
    refine PW.get0 (v := .ref 134) C cf_2 fl_X2_28 (by decide) oX_129 (fvR (o := 5) rfl) dX2_sortNotes_135 ?_
    refine PW.ild5 C dX2_sortNotes_138 ?_
    refine PW.dup2 C dX2_sortNotes_140 rfl rfl ?_
    obtain ⟨hc21, hw⟩ := hw
    refine PW.iald C dX2_sortNotes_141 aX_134 hc21 ?_
    refine PW.iconst (v := 1) C dX2_sortNotes_142 (by decide) ?_
    refine PW.ild4 C dX2_sortNotes_143 ?_
    refine PW.ishl C dX2_sortNotes_145 ?_
    refine PW.ior C dX2_sortNotes_146 ?_
    obtain ⟨hc22, hw⟩ := hw
    replace hw := hw _ rfl
    refine PW.iast C dX2_sortNotes_147 aX_134 hc22 ?_
    refine PW.goto (tgt := 170) C dX2_sortNotes_148 (by decide) ?_
    refine PW.inc2 (v := 1) C dX2_sortNotes_170 (by decide) rfl (by decide) ?_
    refine PW.goto (tgt := 34) C dX2_sortNotes_173 (by decide) ?_
    exact PW.wk (wk_s (wk_s (wk_s (wk_n (wk_n (wk_n (wk_n wk_0))))))) (hkb _ _ hw)
def w_X2_sortNotes_34 (r1 : Nat) (k128 : PH → Prop) (k176 : PH → Prop) (Q : Int32 → PH → Prop) (kb : Int32 → PH → Prop) (x2 : Int32) (h : PH) : Prop :=
  w_X2_knownMany h (fun z8 h7 => if z8 ≤ x2 then (k176 h7) else (if 24 ≤ x2 then (k176 h7) else (w_X6_at 130 x2 0 h7 (fun z10 h9 => w_X6_at 130 x2 1 h9 (fun z12 h11 => w_X6_at 130 x2 2 h11 (fun z14 h13 => vp_in x2 24 ∧ if (gI h13 132 (iN x2)) = 0 then (if z10 = 2 then (kb (x2 + 1) h13) else (if z14 < 0 then (kb (x2 + 1) h13) else (if z14 < 48 then (w_X0_isSilent r1 z12 z14 h13 (fun z17 h16 => if z10 = 0 then (if z17 = 0 then (k128 h16) else (w_X2_sortNotes_130 r1 Q kb x2 z10 z12 z14 z17 h16)) else (w_X2_sortNotes_130 r1 Q kb x2 z10 z12 z14 z17 h16))) else (kb (x2 + 1) h13)))) else (kb (x2 + 1) h13)))))))
set_option maxRecDepth 8000 in
theorem b_X2_sortNotes_34 {D : va_G} {ca : Nat → ClassId} {ad : Nat → Nat} {K : Kt} {r1 : Nat} {k128 : PH → Prop} {k176 : PH → Prop} {kb : Int32 → PH → Prop} {Q : Int32 → PH → Prop} {x2 : Int32} {h : PH} (C : CX (GX D ca ad) (XS (GX D ca ad)) cX2_sortNotes RX2 7 (some .boolean) 4 K) (hr1 : oX r1 0) (hk128 : ∀ (h : PH), k128 h → PW (GX D ca ad) K 7 (qI Q) h 128 [none, none, none, none, none, none, none] []) (hk176 : ∀ (h : PH), k176 h → PW (GX D ca ad) K 7 (qI Q) h 176 [none, none, none, none, none, none, none] []) (hkb : ∀ (x2 : Int32) (h : PH), kb x2 h → PW (GX D ca ad) K 7 (qI Q) h 34 [some (.ref 129), some (.ref r1), some (.int x2), none, none, none, none] []) (hw : w_X2_sortNotes_34 r1 k128 k176 Q kb x2 h) : PW (GX D ca ad) K 7 (qI Q) h 34 [some (.ref 129), some (.ref r1), some (.int x2), none, none, none, none] [] := by
  unfold w_X2_sortNotes_34 at hw
  refine PW.ild2n C dX2_sortNotes_34 ?_
  refine PW.ald0n C dX2_sortNotes_35 ?_
  refine PW.callVI0 C ms_X2_knownMany ml_X2_70 dX2_sortNotes_36 oX_129 ⟨_, _, rfl⟩ (Nat.le_of_ble_eq_true rfl) (by decide) (Nat.le_of_ble_eq_true rfl) (s_X2_knownMany hw) ?_
  clear hw
  intro z8 h7 hw
  refine PW.icmp_ge (tgt := 176) C dX2_sortNotes_39 (by decide) (fun c => ?_) (fun c => ?_)
  · rw [if_pos c] at hw
    exact PW.wk (wk_n (wk_n (wk_n (wk_n (wk_n (wk_n (wk_n wk_0))))))) (hk176 _ hw)
  · rw [if_neg c] at hw
    refine PW.ild2n C dX2_sortNotes_42 ?_
    refine PW.bipush (v := 24) C dX2_sortNotes_43 (by decide) ?_
    refine PW.icmp_ge (tgt := 176) C dX2_sortNotes_45 (by decide) (fun c => ?_) (fun c => ?_)
    · rw [if_pos c] at hw
      exact PW.wk (wk_n (wk_n (wk_n (wk_n (wk_n (wk_n (wk_n wk_0))))))) (hk176 _ hw)
    · rw [if_neg c] at hw
      refine PW.ald0n C dX2_sortNotes_48 ?_
      refine PW.get0 (v := .ref 130) C cf_2 fl_X2_16 (by decide) oX_129 (fvR (o := 1) rfl) dX2_sortNotes_49 ?_
      refine PW.ild2n C dX2_sortNotes_52 ?_
      refine PW.iconst (v := 0) C dX2_sortNotes_53 (by decide) ?_
      refine PW.callVI2 C ms_X6_at ml_X2_74 dX2_sortNotes_54 oX_130 ⟨_, _, rfl⟩ (Nat.le_of_ble_eq_true rfl) (by decide) (Nat.le_of_ble_eq_true rfl) (s_X6_at oX_130 hw) ?_
      clear hw
      intro z10 h9 hw
      refine PW.ist3n C dX2_sortNotes_57 (by decide) rfl ?_
      refine PW.ald0n C dX2_sortNotes_58 ?_
      refine PW.get0 (v := .ref 130) C cf_2 fl_X2_16 (by decide) oX_129 (fvR (o := 1) rfl) dX2_sortNotes_59 ?_
      refine PW.ild2n C dX2_sortNotes_62 ?_
      refine PW.iconst (v := 1) C dX2_sortNotes_63 (by decide) ?_
      refine PW.callVI2 C ms_X6_at ml_X2_74 dX2_sortNotes_64 oX_130 ⟨_, _, rfl⟩ (Nat.le_of_ble_eq_true rfl) (by decide) (Nat.le_of_ble_eq_true rfl) (s_X6_at oX_130 hw) ?_
      clear hw
      intro z12 h11 hw
      refine PW.ist4 C dX2_sortNotes_67 (by decide) rfl ?_
      refine PW.ald0n C dX2_sortNotes_69 ?_
      refine PW.get0 (v := .ref 130) C cf_2 fl_X2_16 (by decide) oX_129 (fvR (o := 1) rfl) dX2_sortNotes_70 ?_
      refine PW.ild2n C dX2_sortNotes_73 ?_
      refine PW.iconst (v := 2) C dX2_sortNotes_74 (by decide) ?_
      refine PW.callVI2 C ms_X6_at ml_X2_74 dX2_sortNotes_75 oX_130 ⟨_, _, rfl⟩ (Nat.le_of_ble_eq_true rfl) (by decide) (Nat.le_of_ble_eq_true rfl) (s_X6_at oX_130 hw) ?_
      clear hw
      intro z14 h13 hw
      refine PW.ist5 C dX2_sortNotes_78 (by decide) rfl ?_
      refine PW.ald0n C dX2_sortNotes_80 ?_
      refine PW.get0 (v := .ref 132) C cf_2 fl_X2_20 (by decide) oX_129 (fvR (o := 3) rfl) dX2_sortNotes_81 ?_
      refine PW.ild2n C dX2_sortNotes_84 ?_
      obtain ⟨hc15, hw⟩ := hw
      refine PW.zald C dX2_sortNotes_85 aX_132 hc15 ?_
      refine PW.if_ne (tgt := 170) C dX2_sortNotes_86 (by decide) (fun c => ?_) (fun c => ?_)
      · rw [if_neg c] at hw
        refine PW.inc2 (v := 1) C dX2_sortNotes_170 (by decide) rfl (by decide) ?_
        refine PW.goto (tgt := 34) C dX2_sortNotes_173 (by decide) ?_
        exact PW.wk (wk_s (wk_s (wk_s (wk_n (wk_n (wk_n (wk_n wk_0))))))) (hkb _ _ hw)
      · rw [if_pos c] at hw
        refine PW.ild3n C dX2_sortNotes_89 ?_
        refine PW.iconst (v := 2) C dX2_sortNotes_90 (by decide) ?_
        refine PW.icmp_eq (tgt := 170) C dX2_sortNotes_91 (by decide) (fun c => ?_) (fun c => ?_)
        · rw [if_pos c] at hw
          refine PW.inc2 (v := 1) C dX2_sortNotes_170 (by decide) rfl (by decide) ?_
          refine PW.goto (tgt := 34) C dX2_sortNotes_173 (by decide) ?_
          exact PW.wk (wk_s (wk_s (wk_s (wk_n (wk_n (wk_n (wk_n wk_0))))))) (hkb _ _ hw)
        · rw [if_neg c] at hw
          refine PW.ild5 C dX2_sortNotes_94 ?_
          refine PW.if_lt (tgt := 170) C dX2_sortNotes_96 (by decide) (fun c => ?_) (fun c => ?_)
          · rw [if_pos c] at hw
            refine PW.inc2 (v := 1) C dX2_sortNotes_170 (by decide) rfl (by decide) ?_
            refine PW.goto (tgt := 34) C dX2_sortNotes_173 (by decide) ?_
            exact PW.wk (wk_s (wk_s (wk_s (wk_n (wk_n (wk_n (wk_n wk_0))))))) (hkb _ _ hw)
          · rw [if_neg c] at hw
            refine PW.ild5 C dX2_sortNotes_99 ?_
            refine PW.bipush (v := 48) C dX2_sortNotes_101 (by decide) ?_
            refine PW.icmp_lt (tgt := 109) C dX2_sortNotes_103 (by decide) (fun c => ?_) (fun c => ?_)
            · rw [if_pos c] at hw
              refine PW.ald1n C dX2_sortNotes_109 ?_
              refine PW.ild4 C dX2_sortNotes_110 ?_
              refine PW.ild5 C dX2_sortNotes_112 ?_
              refine PW.callVI2 C ms_X0_isSilent ml_X2_78 dX2_sortNotes_114 hr1 ⟨_, _, rfl⟩ (Nat.le_of_ble_eq_true rfl) (by decide) (Nat.le_of_ble_eq_true rfl) (s_X0_isSilent hr1 hw) ?_
              clear hw
              intro z17 h16 hw
              refine PW.ist6 C dX2_sortNotes_117 (by decide) rfl ?_
              refine PW.ild3n C dX2_sortNotes_119 ?_
              refine PW.if_ne (tgt := 130) C dX2_sortNotes_120 (by decide) (fun c => ?_) (fun c => ?_)
              · rw [if_neg c] at hw
                exact PW.wk (wk_s (wk_s (wk_s (wk_s (wk_s (wk_s (wk_s wk_0))))))) (b_X2_sortNotes_130 C hr1 hkb hw)
              · rw [if_pos c] at hw
                refine PW.ild6 C dX2_sortNotes_123 ?_
                refine PW.if_ne (tgt := 130) C dX2_sortNotes_125 (by decide) (fun c => ?_) (fun c => ?_)
                · rw [if_neg c] at hw
                  exact PW.wk (wk_s (wk_s (wk_s (wk_s (wk_s (wk_s (wk_s wk_0))))))) (b_X2_sortNotes_130 C hr1 hkb hw)
                · rw [if_pos c] at hw
                  exact PW.wk (wk_n (wk_n (wk_n (wk_n (wk_n (wk_n (wk_n wk_0))))))) (hk128 _ hw)
            · rw [if_neg c] at hw
              refine PW.goto (tgt := 170) C dX2_sortNotes_106 (by decide) ?_
              refine PW.inc2 (v := 1) C dX2_sortNotes_170 (by decide) rfl (by decide) ?_
              refine PW.goto (tgt := 34) C dX2_sortNotes_173 (by decide) ?_
              exact PW.wk (wk_s (wk_s (wk_s (wk_n (wk_n (wk_n (wk_n wk_0))))))) (hkb _ _ hw)
theorem l_X2_sortNotes_34 {D : va_G} {ca : Nat → ClassId} {ad : Nat → Nat} {K : Kt} {r1 : Nat} {k128 : PH → Prop} {k176 : PH → Prop} {Q : Int32 → PH → Prop} (C : CX (GX D ca ad) (XS (GX D ca ad)) cX2_sortNotes RX2 7 (some .boolean) 4 K) (hr1 : oX r1 0) (hk128 : ∀ (h : PH), k128 h → PW (GX D ca ad) K 7 (qI Q) h 128 [none, none, none, none, none, none, none] []) (hk176 : ∀ (h : PH), k176 h → PW (GX D ca ad) K 7 (qI Q) h 176 [none, none, none, none, none, none, none] []) : ∀ (n : Nat) (x2 : Int32) (h : PH), Lp1 (w_X2_sortNotes_34 r1 k128 k176 Q) n x2 h → PW (GX D ca ad) K 7 (qI Q) h 34 [some (.ref 129), some (.ref r1), some (.int x2), none, none, none, none] [] := by
  intro n
  induction n with
  | zero => intro x2 h hw; exact hw.elim
  | succ n ih => intro x2 h hw; exact b_X2_sortNotes_34 C hr1 hk128 hk176 (fun x2 h hw => ih x2 h hw) hw
def w_X2_sortNotes (r1 : Nat) (h : PH) (Q : Int32 → PH → Prop) : Prop :=
  ∃ n, Lp1 (w_X2_sortNotes_2 r1 (fun h5 => w_X2_markStruck h5 (fun h6 => ∃ n, Lp1 (w_X2_sortNotes_34 r1 (fun h24 => Q 0 h24) (fun h25 => Q 1 h25) Q) n 0 h6)) Q) n 0 h
set_option maxRecDepth 8000 in
theorem s_X2_sortNotes {D : va_G} {ca : Nat → ClassId} {ad : Nat → Nat} {l : Launch} {r1 : Nat} {h : PH} {Q : Int32 → PH → Prop} (hr1 : oX r1 0) (hw : w_X2_sortNotes r1 h Q) : Sp (GX D ca ad) (XS (GX D ca ad)) l 4 yX2_sortNotes cX2_sortNotes 7 (some .boolean) [.ref 129, .ref r1] h (qI Q) := by
  refine Sp.of (own := RX2) [some (.ref 129), some (.ref r1), none, none, none, none, none] (by decide +kernel) rfl rfl (Nat.le_of_ble_eq_true rfl) (fun K hl C => ?_)
  subst hl
  unfold w_X2_sortNotes at hw
  refine PW.iconst (v := 0) C dX2_sortNotes_0 (by decide) ?_
  refine PW.ist2n C dX2_sortNotes_1 (by decide) rfl ?_
  obtain ⟨n, hw⟩ := hw
  refine PW.wk (wk_s (wk_s (wk_s (wk_n (wk_n (wk_n (wk_n wk_0))))))) (l_X2_sortNotes_2 C hr1 ?_ n _ _ hw)
  · intro h5 hw
    refine PW.ald0n C dX2_sortNotes_28 ?_
    refine PW.callVV0 C ms_X2_markStruck ml_X2_67 dX2_sortNotes_29 oX_129 ⟨_, _, rfl⟩ (Nat.le_of_ble_eq_true rfl) (by decide) (Nat.le_of_ble_eq_true rfl) (s_X2_markStruck hw) ?_
    clear hw
    intro h6 hw
    refine PW.iconst (v := 0) C dX2_sortNotes_32 (by decide) ?_
    refine PW.ist2n C dX2_sortNotes_33 (by decide) rfl ?_
    obtain ⟨n, hw⟩ := hw
    refine PW.wk (wk_s (wk_s (wk_s (wk_n (wk_n (wk_n (wk_n wk_0))))))) (l_X2_sortNotes_34 C hr1 ?_ ?_ n _ _ hw)
    · intro h24 hw
      refine PW.iconst (v := 0) C dX2_sortNotes_128 (by decide) ?_
      exact PW.zret C dX2_sortNotes_129 (by decide) ⟨_, rfl, hw⟩
    · intro h25 hw
      refine PW.iconst (v := 1) C dX2_sortNotes_176 (by decide) ?_
      exact PW.zret C dX2_sortNotes_177 (by decide) ⟨_, rfl, hw⟩
def w_X2_fits_97 (r1 : Nat) (r2 : Nat) (k121 : PH → Prop) (Q : Int32 → PH → Prop) (kb : Int32 → PH → Prop) (x3 : Int32) (x4 : Int32) (x5 : Int32) (x6 : Int32) (x7 : Int32) (x8 : Int32) (s0 : Int32) (s1 : Int32) (h : PH) : Prop :=
  if s0 = s1 then (if x8 = 0 then (kb (x7 + 1) h) else (vp_in x4 48 ∧ if ((((gI h 134 (iN x4)) : Int32) >>> ((x7 : Int32) &&& 31)) &&& 1) = 1 then (k121 h) else (kb (x7 + 1) h))) else (k121 h)
set_option maxRecDepth 8000 in
theorem b_X2_fits_97 {D : va_G} {ca : Nat → ClassId} {ad : Nat → Nat} {K : Kt} {r1 : Nat} {r2 : Nat} {k121 : PH → Prop} {kb : Int32 → PH → Prop} {Q : Int32 → PH → Prop} {x3 : Int32} {x4 : Int32} {x5 : Int32} {x6 : Int32} {x7 : Int32} {x8 : Int32} {s0 : Int32} {s1 : Int32} {h : PH} (C : CX (GX D ca ad) (XS (GX D ca ad)) cX2_fits RX2 9 (some .boolean) 4 K) (hr1 : oX r1 8) (hr2 : oX r2 0) (hk121 : ∀ (h : PH), k121 h → PW (GX D ca ad) K 9 (qI Q) h 121 [none, none, none, none, none, none, none, none, none] []) (hkb : ∀ (x7 : Int32) (h : PH), kb x7 h → PW (GX D ca ad) K 9 (qI Q) h 20 [some (.ref 129), some (.ref r1), some (.ref r2), some (.int x3), some (.int x4), some (.int x5), some (.int x6), some (.int x7), none] []) (hw : w_X2_fits_97 r1 r2 k121 Q kb x3 x4 x5 x6 x7 x8 s0 s1 h) : PW (GX D ca ad) K 9 (qI Q) h 97 [some (.ref 129), some (.ref r1), some (.ref r2), some (.int x3), some (.int x4), some (.int x5), some (.int x6), some (.int x7), some (.int x8)] [.int s1, .int s0] := by
  unfold w_X2_fits_97 at hw
  refine PW.icmp_ne (tgt := 121) C dX2_fits_97 (by decide) (fun c => ?_) (fun c => ?_)
  · rw [if_neg c] at hw
    exact PW.wk (wk_n (wk_n (wk_n (wk_n (wk_n (wk_n (wk_n (wk_n (wk_n wk_0))))))))) (hk121 _ hw)
  · rw [if_pos c] at hw
    refine PW.ild8 C dX2_fits_100 ?_
    refine PW.if_eq (tgt := 123) C dX2_fits_102 (by decide) (fun c => ?_) (fun c => ?_)
    · rw [if_pos c] at hw
      refine PW.inc7 (v := 1) C dX2_fits_123 (by decide) rfl (by decide) ?_
      refine PW.goto (tgt := 20) C dX2_fits_126 (by decide) ?_
      exact PW.wk (wk_s (wk_s (wk_s (wk_s (wk_s (wk_s (wk_s (wk_s (wk_n wk_0))))))))) (hkb _ _ hw)
    · rw [if_neg c] at hw
      refine PW.ald0n C dX2_fits_105 ?_
      refine PW.get0 (v := .ref 134) C cf_2 fl_X2_28 (by decide) oX_129 (fvR (o := 5) rfl) dX2_fits_106 ?_
      refine PW.ild4 C dX2_fits_109 ?_
      obtain ⟨hc7, hw⟩ := hw
      refine PW.iald C dX2_fits_111 aX_134 hc7 ?_
      refine PW.ild7 C dX2_fits_112 ?_
      refine PW.ishr C dX2_fits_114 ?_
      refine PW.iconst (v := 1) C dX2_fits_115 (by decide) ?_
      refine PW.iand C dX2_fits_116 ?_
      refine PW.iconst (v := 1) C dX2_fits_117 (by decide) ?_
      refine PW.icmp_ne (tgt := 123) C dX2_fits_118 (by decide) (fun c => ?_) (fun c => ?_)
      · rw [if_neg c] at hw
        refine PW.inc7 (v := 1) C dX2_fits_123 (by decide) rfl (by decide) ?_
        refine PW.goto (tgt := 20) C dX2_fits_126 (by decide) ?_
        exact PW.wk (wk_s (wk_s (wk_s (wk_s (wk_s (wk_s (wk_s (wk_s (wk_n wk_0))))))))) (hkb _ _ hw)
      · rw [if_pos c] at hw
        exact PW.wk (wk_n (wk_n (wk_n (wk_n (wk_n (wk_n (wk_n (wk_n (wk_n wk_0))))))))) (hk121 _ hw)
def w_X2_fits_72 (r1 : Nat) (r2 : Nat) (k121 : PH → Prop) (Q : Int32 → PH → Prop) (kb : Int32 → PH → Prop) (x3 : Int32) (x4 : Int32) (x5 : Int32) (x6 : Int32) (x7 : Int32) (s0 : Int32) (h : PH) : Prop :=
  vp_in x4 48 ∧ if ((((gI h 133 (iN x4)) : Int32) >>> ((x7 : Int32) &&& 31)) &&& 1) = 1 then (w_X2_fits_97 r1 r2 k121 Q kb x3 x4 x5 x6 x7 s0 s0 1 h) else (w_X2_fits_97 r1 r2 k121 Q kb x3 x4 x5 x6 x7 s0 s0 0 h)
set_option maxRecDepth 8000 in
theorem b_X2_fits_72 {D : va_G} {ca : Nat → ClassId} {ad : Nat → Nat} {K : Kt} {r1 : Nat} {r2 : Nat} {k121 : PH → Prop} {kb : Int32 → PH → Prop} {Q : Int32 → PH → Prop} {x3 : Int32} {x4 : Int32} {x5 : Int32} {x6 : Int32} {x7 : Int32} {s0 : Int32} {h : PH} (C : CX (GX D ca ad) (XS (GX D ca ad)) cX2_fits RX2 9 (some .boolean) 4 K) (hr1 : oX r1 8) (hr2 : oX r2 0) (hk121 : ∀ (h : PH), k121 h → PW (GX D ca ad) K 9 (qI Q) h 121 [none, none, none, none, none, none, none, none, none] []) (hkb : ∀ (x7 : Int32) (h : PH), kb x7 h → PW (GX D ca ad) K 9 (qI Q) h 20 [some (.ref 129), some (.ref r1), some (.ref r2), some (.int x3), some (.int x4), some (.int x5), some (.int x6), some (.int x7), none] []) (hw : w_X2_fits_72 r1 r2 k121 Q kb x3 x4 x5 x6 x7 s0 h) : PW (GX D ca ad) K 9 (qI Q) h 72 [some (.ref 129), some (.ref r1), some (.ref r2), some (.int x3), some (.int x4), some (.int x5), some (.int x6), some (.int x7), none] [.int s0] := by
  unfold w_X2_fits_72 at hw
  refine PW.ist8 C dX2_fits_72 (by decide) rfl ?_
  refine PW.ild8 C dX2_fits_74 ?_
  refine PW.ald0n C dX2_fits_76 ?_
  refine PW.get0 (v := .ref 133) C cf_2 fl_X2_24 (by decide) oX_129 (fvR (o := 4) rfl) dX2_fits_77 ?_
  refine PW.ild4 C dX2_fits_80 ?_
  obtain ⟨hc6, hw⟩ := hw
  refine PW.iald C dX2_fits_82 aX_133 hc6 ?_
  refine PW.ild7 C dX2_fits_83 ?_
  refine PW.ishr C dX2_fits_85 ?_
  refine PW.iconst (v := 1) C dX2_fits_86 (by decide) ?_
  refine PW.iand C dX2_fits_87 ?_
  refine PW.iconst (v := 1) C dX2_fits_88 (by decide) ?_
  refine PW.icmp_ne (tgt := 96) C dX2_fits_89 (by decide) (fun c => ?_) (fun c => ?_)
  · rw [if_neg c] at hw
    refine PW.iconst (v := 0) C dX2_fits_96 (by decide) ?_
    exact PW.wk (wk_s (wk_s (wk_s (wk_s (wk_s (wk_s (wk_s (wk_s (wk_s wk_0))))))))) (b_X2_fits_97 C hr1 hr2 hk121 hkb hw)
  · rw [if_pos c] at hw
    refine PW.iconst (v := 1) C dX2_fits_92 (by decide) ?_
    refine PW.goto (tgt := 97) C dX2_fits_93 (by decide) ?_
    exact PW.wk (wk_s (wk_s (wk_s (wk_s (wk_s (wk_s (wk_s (wk_s (wk_s wk_0))))))))) (b_X2_fits_97 C hr1 hr2 hk121 hkb hw)
def w_X2_fits_20 (r1 : Nat) (r2 : Nat) (k121 : PH → Prop) (k129 : PH → Prop) (Q : Int32 → PH → Prop) (x3 : Int32) (x4 : Int32) (x5 : Int32) (x6 : Int32) (kb : Int32 → PH → Prop) (x7 : Int32) (h : PH) : Prop :=
  if (gI h (r1 + 1) 3) ≤ x7 then (k129 h) else (if x6 = 0 then (k129 h) else (if (((x6 : Int32) >>> ((x7 : Int32) &&& 31)) &&& 1) = 1 then (w_X0_minutesHeard r2 r1 x3 x4 x4 x5 x7 h (fun z5 h4 => if (lg_cmp z5 0) = 0 then (w_X2_fits_72 r1 r2 k121 Q kb x3 x4 x5 x6 x7 0 h4) else (w_X2_fits_72 r1 r2 k121 Q kb x3 x4 x5 x6 x7 1 h4))) else (kb (x7 + 1) h)))
set_option maxRecDepth 8000 in
theorem b_X2_fits_20 {D : va_G} {ca : Nat → ClassId} {ad : Nat → Nat} {K : Kt} {r1 : Nat} {r2 : Nat} {k121 : PH → Prop} {k129 : PH → Prop} {kb : Int32 → PH → Prop} {Q : Int32 → PH → Prop} {x3 : Int32} {x4 : Int32} {x5 : Int32} {x6 : Int32} {x7 : Int32} {h : PH} (C : CX (GX D ca ad) (XS (GX D ca ad)) cX2_fits RX2 9 (some .boolean) 4 K) (hr1 : oX r1 8) (hr2 : oX r2 0) (hk121 : ∀ (h : PH), k121 h → PW (GX D ca ad) K 9 (qI Q) h 121 [none, none, none, none, none, none, none, none, none] []) (hk129 : ∀ (h : PH), k129 h → PW (GX D ca ad) K 9 (qI Q) h 129 [none, none, none, none, none, none, none, none, none] []) (hkb : ∀ (x7 : Int32) (h : PH), kb x7 h → PW (GX D ca ad) K 9 (qI Q) h 20 [some (.ref 129), some (.ref r1), some (.ref r2), some (.int x3), some (.int x4), some (.int x5), some (.int x6), some (.int x7), none] []) (hw : w_X2_fits_20 r1 r2 k121 k129 Q x3 x4 x5 x6 kb x7 h) : PW (GX D ca ad) K 9 (qI Q) h 20 [some (.ref 129), some (.ref r1), some (.ref r2), some (.int x3), some (.int x4), some (.int x5), some (.int x6), some (.int x7), none] [] := by
  unfold w_X2_fits_20 at hw
  refine PW.ild7 C dX2_fits_20 ?_
  refine PW.ald1n C dX2_fits_22 ?_
  refine PW.getN0 C cf_8 fl_X2_45 (by decide) hr1 (fvR (o := 1) rfl) dX2_fits_23 ?_
  refine PW.getN0 C cf_6 fl_X2_38 (by decide) (sf_8_0 hr1) (fvI rfl) dX2_fits_26 ?_
  refine PW.icmp_ge (tgt := 129) C dX2_fits_29 (by decide) (fun c => ?_) (fun c => ?_)
  · rw [if_pos c] at hw
    exact PW.wk (wk_n (wk_n (wk_n (wk_n (wk_n (wk_n (wk_n (wk_n (wk_n wk_0))))))))) (hk129 _ hw)
  · rw [if_neg c] at hw
    refine PW.ild6 C dX2_fits_32 ?_
    refine PW.if_eq (tgt := 129) C dX2_fits_34 (by decide) (fun c => ?_) (fun c => ?_)
    · rw [if_pos c] at hw
      exact PW.wk (wk_n (wk_n (wk_n (wk_n (wk_n (wk_n (wk_n (wk_n (wk_n wk_0))))))))) (hk129 _ hw)
    · rw [if_neg c] at hw
      refine PW.ild6 C dX2_fits_37 ?_
      refine PW.ild7 C dX2_fits_39 ?_
      refine PW.ishr C dX2_fits_41 ?_
      refine PW.iconst (v := 1) C dX2_fits_42 (by decide) ?_
      refine PW.iand C dX2_fits_43 ?_
      refine PW.iconst (v := 1) C dX2_fits_44 (by decide) ?_
      refine PW.icmp_ne (tgt := 123) C dX2_fits_45 (by decide) (fun c => ?_) (fun c => ?_)
      · rw [if_neg c] at hw
        refine PW.inc7 (v := 1) C dX2_fits_123 (by decide) rfl (by decide) ?_
        refine PW.goto (tgt := 20) C dX2_fits_126 (by decide) ?_
        exact PW.wk (wk_s (wk_s (wk_s (wk_s (wk_s (wk_s (wk_s (wk_s (wk_n wk_0))))))))) (hkb _ _ hw)
      · rw [if_pos c] at hw
        refine PW.ald2n C dX2_fits_48 ?_
        refine PW.ald1n C dX2_fits_49 ?_
        refine PW.ild3n C dX2_fits_50 ?_
        refine PW.ild4 C dX2_fits_51 ?_
        refine PW.ild4 C dX2_fits_53 ?_
        refine PW.ild5 C dX2_fits_55 ?_
        refine PW.ild7 C dX2_fits_57 ?_
        refine PW.callVJ6 C ms_X0_minutesHeard ml_X2_89 dX2_fits_59 hr2 ⟨_, _, rfl⟩ (Nat.le_of_ble_eq_true rfl) (by decide) (Nat.le_of_ble_eq_true rfl) (s_X0_minutesHeard hr2 hr1 hw) ?_
        clear hw
        intro z5 h4 hw
        refine PW.lconst (v := 0) C dX2_fits_62 (by decide) ?_
        refine PW.lcmp C dX2_fits_63 ?_
        refine PW.if_eq (tgt := 71) C dX2_fits_64 (by decide) (fun c => ?_) (fun c => ?_)
        · rw [if_pos c] at hw
          refine PW.iconst (v := 0) C dX2_fits_71 (by decide) ?_
          exact PW.wk (wk_s (wk_s (wk_s (wk_s (wk_s (wk_s (wk_s (wk_s (wk_n wk_0))))))))) (b_X2_fits_72 C hr1 hr2 hk121 hkb hw)
        · rw [if_neg c] at hw
          refine PW.iconst (v := 1) C dX2_fits_67 (by decide) ?_
          refine PW.goto (tgt := 72) C dX2_fits_68 (by decide) ?_
          exact PW.wk (wk_s (wk_s (wk_s (wk_s (wk_s (wk_s (wk_s (wk_s (wk_n wk_0))))))))) (b_X2_fits_72 C hr1 hr2 hk121 hkb hw)
theorem l_X2_fits_20 {D : va_G} {ca : Nat → ClassId} {ad : Nat → Nat} {K : Kt} {r1 : Nat} {r2 : Nat} {k121 : PH → Prop} {k129 : PH → Prop} {Q : Int32 → PH → Prop} {x3 : Int32} {x4 : Int32} {x5 : Int32} {x6 : Int32} (C : CX (GX D ca ad) (XS (GX D ca ad)) cX2_fits RX2 9 (some .boolean) 4 K) (hr1 : oX r1 8) (hr2 : oX r2 0) (hk121 : ∀ (h : PH), k121 h → PW (GX D ca ad) K 9 (qI Q) h 121 [none, none, none, none, none, none, none, none, none] []) (hk129 : ∀ (h : PH), k129 h → PW (GX D ca ad) K 9 (qI Q) h 129 [none, none, none, none, none, none, none, none, none] []) : ∀ (n : Nat) (x7 : Int32) (h : PH), Lp1 (w_X2_fits_20 r1 r2 k121 k129 Q x3 x4 x5 x6) n x7 h → PW (GX D ca ad) K 9 (qI Q) h 20 [some (.ref 129), some (.ref r1), some (.ref r2), some (.int x3), some (.int x4), some (.int x5), some (.int x6), some (.int x7), none] [] := by
  intro n
  induction n with
  | zero => intro x7 h hw; exact hw.elim
  | succ n ih => intro x7 h hw; exact b_X2_fits_20 C hr1 hr2 hk121 hk129 (fun x7 h hw => ih x7 h hw) hw
def w_X2_fits (r1 : Nat) (r2 : Nat) (x3 : Int32) (x4 : Int32) (x5 : Int32) (h : PH) (Q : Int32 → PH → Prop) : Prop :=
  vp_in x4 48 ∧ vp_in x4 48 ∧ ∀ (y3 : Int32), y3 = ((gI h 133 (iN x4)) ||| (gI h 134 (iN x4))) → ∃ n, Lp1 (w_X2_fits_20 r1 r2 (fun h8 => Q 0 h8) (fun h9 => Q 1 h9) Q x3 x4 x5 y3) n 0 h
set_option maxRecDepth 8000 in
theorem s_X2_fits {D : va_G} {ca : Nat → ClassId} {ad : Nat → Nat} {l : Launch} {r1 : Nat} {r2 : Nat} {x3 : Int32} {x4 : Int32} {x5 : Int32} {h : PH} {Q : Int32 → PH → Prop} (hr1 : oX r1 8) (hr2 : oX r2 0) (hw : w_X2_fits r1 r2 x3 x4 x5 h Q) : Sp (GX D ca ad) (XS (GX D ca ad)) l 4 yX2_fits cX2_fits 9 (some .boolean) [.ref 129, .ref r1, .ref r2, .int x3, .int x4, .int x5] h (qI Q) := by
  refine Sp.of (own := RX2) [some (.ref 129), some (.ref r1), some (.ref r2), some (.int x3), some (.int x4), some (.int x5), none, none, none] (by decide +kernel) rfl rfl (Nat.le_of_ble_eq_true rfl) (fun K hl C => ?_)
  subst hl
  unfold w_X2_fits at hw
  refine PW.ald0n C dX2_fits_0 ?_
  refine PW.get0 (v := .ref 133) C cf_2 fl_X2_24 (by decide) oX_129 (fvR (o := 4) rfl) dX2_fits_1 ?_
  refine PW.ild4 C dX2_fits_4 ?_
  obtain ⟨hc1, hw⟩ := hw
  refine PW.iald C dX2_fits_6 aX_133 hc1 ?_
  refine PW.ald0n C dX2_fits_7 ?_
  refine PW.get0 (v := .ref 134) C cf_2 fl_X2_28 (by decide) oX_129 (fvR (o := 5) rfl) dX2_fits_8 ?_
  refine PW.ild4 C dX2_fits_11 ?_
  obtain ⟨hc2, hw⟩ := hw
  refine PW.iald C dX2_fits_13 aX_134 hc2 ?_
  refine PW.ior C dX2_fits_14 ?_
  replace hw := hw _ rfl
  refine PW.ist6 C dX2_fits_15 (by decide) rfl ?_
  refine PW.iconst (v := 0) C dX2_fits_17 (by decide) ?_
  refine PW.ist7 C dX2_fits_18 (by decide) rfl ?_
  obtain ⟨n, hw⟩ := hw
  refine PW.wk (wk_s (wk_s (wk_s (wk_s (wk_s (wk_s (wk_s (wk_s (wk_n wk_0))))))))) (l_X2_fits_20 C hr1 hr2 ?_ ?_ n _ _ hw)
  · intro h8 hw
    refine PW.iconst (v := 0) C dX2_fits_121 (by decide) ?_
    exact PW.zret C dX2_fits_122 (by decide) ⟨_, rfl, hw⟩
  · intro h9 hw
    refine PW.iconst (v := 1) C dX2_fits_129 (by decide) ?_
    exact PW.zret C dX2_fits_130 (by decide) ⟨_, rfl, hw⟩
def w_X2_seekAt_7 (r1 : Nat) (r2 : Nat) (k71 : Int32 → PH → Prop) (Q : Int32 → PH → Prop) (x3 : Int32) (x5 : Int32) (kb : Int32 → Int32 → PH → Prop) (x6 : Int32) (x7 : Int32) (h : PH) : Prop :=
  if 20 < x7 then (k71 x6 h) else (if x5 < x6 then (k71 x6 h) else (w_X2_fits r1 r2 (x3 / 48) (x3 - x3 / 48 * 48) x7 h (fun z2 h1 => if z2 = 0 then (kb x6 (x7 + 1) h1) else (∀ h3, h3 = sI h1 129 5 (x3 / 48) → ∀ h4, h4 = sI h3 129 6 (x3 - x3 / 48 * 48) → ∀ h5, h5 = sI h4 129 7 x7 → kb (x6 + 1) (x7 + 1) h5))))
set_option maxRecDepth 8000 in
theorem b_X2_seekAt_7 {D : va_G} {ca : Nat → ClassId} {ad : Nat → Nat} {K : Kt} {r1 : Nat} {r2 : Nat} {k71 : Int32 → PH → Prop} {kb : Int32 → Int32 → PH → Prop} {Q : Int32 → PH → Prop} {x3 : Int32} {x5 : Int32} {x6 : Int32} {x7 : Int32} {h : PH} (C : CX (GX D ca ad) (XS (GX D ca ad)) cX2_seekAt RX2 8 (some .int) 5 K) (hr1 : oX r1 8) (hr2 : oX r2 0) (hk71 : ∀ (x6 : Int32) (h : PH), k71 x6 h → PW (GX D ca ad) K 8 (qI Q) h 71 [none, none, none, none, none, none, some (.int x6), none] []) (hkb : ∀ (x6 : Int32) (x7 : Int32) (h : PH), kb x6 x7 h → PW (GX D ca ad) K 8 (qI Q) h 7 [some (.ref 129), some (.ref r1), some (.ref r2), some (.int x3), none, some (.int x5), some (.int x6), some (.int x7)] []) (hw : w_X2_seekAt_7 r1 r2 k71 Q x3 x5 kb x6 x7 h) : PW (GX D ca ad) K 8 (qI Q) h 7 [some (.ref 129), some (.ref r1), some (.ref r2), some (.int x3), none, some (.int x5), some (.int x6), some (.int x7)] [] := by
  unfold w_X2_seekAt_7 at hw
  refine PW.ild7 C dX2_seekAt_7 ?_
  refine PW.bipush (v := 20) C dX2_seekAt_9 (by decide) ?_
  refine PW.icmp_gt (tgt := 71) C dX2_seekAt_11 (by decide) (fun c => ?_) (fun c => ?_)
  · rw [if_pos c] at hw
    exact PW.wk (wk_n (wk_n (wk_n (wk_n (wk_n (wk_n (wk_s (wk_n wk_0)))))))) (hk71 _ _ hw)
  · rw [if_neg c] at hw
    refine PW.ild6 C dX2_seekAt_14 ?_
    refine PW.ild5 C dX2_seekAt_16 ?_
    refine PW.icmp_gt (tgt := 71) C dX2_seekAt_18 (by decide) (fun c => ?_) (fun c => ?_)
    · rw [if_pos c] at hw
      exact PW.wk (wk_n (wk_n (wk_n (wk_n (wk_n (wk_n (wk_s (wk_n wk_0)))))))) (hk71 _ _ hw)
    · rw [if_neg c] at hw
      refine PW.ald0n C dX2_seekAt_21 ?_
      refine PW.ald1n C dX2_seekAt_22 ?_
      refine PW.ald2n C dX2_seekAt_23 ?_
      refine PW.ild3n C dX2_seekAt_24 ?_
      refine PW.bipush (v := 48) C dX2_seekAt_25 (by decide) ?_
      refine PW.idiv C dX2_seekAt_27 (by decide) ?_
      refine PW.ild3n C dX2_seekAt_28 ?_
      refine PW.bipush (v := 48) C dX2_seekAt_29 (by decide) ?_
      refine PW.irem C dX2_seekAt_31 (by decide) ?_
      refine PW.ild7 C dX2_seekAt_32 ?_
      refine PW.callVI5 C ms_X2_fits ml_X2_54 dX2_seekAt_34 oX_129 ⟨_, _, rfl⟩ (Nat.le_of_ble_eq_true rfl) (by decide) (Nat.le_of_ble_eq_true rfl) (s_X2_fits hr1 hr2 hw) ?_
      clear hw
      intro z2 h1 hw
      refine PW.if_eq (tgt := 65) C dX2_seekAt_37 (by decide) (fun c => ?_) (fun c => ?_)
      · rw [if_pos c] at hw
        refine PW.inc7 (v := 1) C dX2_seekAt_65 (by decide) rfl (by decide) ?_
        refine PW.goto (tgt := 7) C dX2_seekAt_68 (by decide) ?_
        exact PW.wk (wk_s (wk_s (wk_s (wk_s (wk_n (wk_s (wk_s (wk_s wk_0)))))))) (hkb _ _ _ hw)
      · rw [if_neg c] at hw
        refine PW.ald0n C dX2_seekAt_40 ?_
        refine PW.ild3n C dX2_seekAt_41 ?_
        refine PW.bipush (v := 48) C dX2_seekAt_42 (by decide) ?_
        refine PW.idiv C dX2_seekAt_44 (by decide) ?_
        replace hw := hw _ rfl
        refine PW.put0 C cf_2 fl_X2_58 (by decide) oX_129 rfl rfl rfl (pw_sI oX_129 (by decide) rfl) dX2_seekAt_45 ?_
        refine PW.ald0n C dX2_seekAt_48 ?_
        refine PW.ild3n C dX2_seekAt_49 ?_
        refine PW.bipush (v := 48) C dX2_seekAt_50 (by decide) ?_
        refine PW.irem C dX2_seekAt_52 (by decide) ?_
        replace hw := hw _ rfl
        refine PW.put0 C cf_2 fl_X2_61 (by decide) oX_129 rfl rfl rfl (pw_sI oX_129 (by decide) rfl) dX2_seekAt_53 ?_
        refine PW.ald0n C dX2_seekAt_56 ?_
        refine PW.ild7 C dX2_seekAt_57 ?_
        replace hw := hw _ rfl
        refine PW.put0 C cf_2 fl_X2_64 (by decide) oX_129 rfl rfl rfl (pw_sI oX_129 (by decide) rfl) dX2_seekAt_59 ?_
        refine PW.inc6 (v := 1) C dX2_seekAt_62 (by decide) rfl (by decide) ?_
        refine PW.inc7 (v := 1) C dX2_seekAt_65 (by decide) rfl (by decide) ?_
        refine PW.goto (tgt := 7) C dX2_seekAt_68 (by decide) ?_
        exact PW.wk (wk_s (wk_s (wk_s (wk_s (wk_n (wk_s (wk_s (wk_s wk_0)))))))) (hkb _ _ _ hw)
theorem l_X2_seekAt_7 {D : va_G} {ca : Nat → ClassId} {ad : Nat → Nat} {K : Kt} {r1 : Nat} {r2 : Nat} {k71 : Int32 → PH → Prop} {Q : Int32 → PH → Prop} {x3 : Int32} {x5 : Int32} (C : CX (GX D ca ad) (XS (GX D ca ad)) cX2_seekAt RX2 8 (some .int) 5 K) (hr1 : oX r1 8) (hr2 : oX r2 0) (hk71 : ∀ (x6 : Int32) (h : PH), k71 x6 h → PW (GX D ca ad) K 8 (qI Q) h 71 [none, none, none, none, none, none, some (.int x6), none] []) : ∀ (n : Nat) (x6 : Int32) (x7 : Int32) (h : PH), Lp2 (w_X2_seekAt_7 r1 r2 k71 Q x3 x5) n x6 x7 h → PW (GX D ca ad) K 8 (qI Q) h 7 [some (.ref 129), some (.ref r1), some (.ref r2), some (.int x3), none, some (.int x5), some (.int x6), some (.int x7)] [] := by
  intro n
  induction n with
  | zero => intro x6 x7 h hw; exact hw.elim
  | succ n ih => intro x6 x7 h hw; exact b_X2_seekAt_7 C hr1 hr2 hk71 (fun x6 x7 h hw => ih x6 x7 h hw) hw
def w_X2_seekAt (r1 : Nat) (r2 : Nat) (x3 : Int32) (x4 : Int32) (x5 : Int32) (h : PH) (Q : Int32 → PH → Prop) : Prop :=
  ∃ n, Lp2 (w_X2_seekAt_7 r1 r2 (fun y7 h6 => Q y7 h6) Q x3 x5) n x4 1 h
set_option maxRecDepth 8000 in
theorem s_X2_seekAt {D : va_G} {ca : Nat → ClassId} {ad : Nat → Nat} {l : Launch} {r1 : Nat} {r2 : Nat} {x3 : Int32} {x4 : Int32} {x5 : Int32} {h : PH} {Q : Int32 → PH → Prop} (hr1 : oX r1 8) (hr2 : oX r2 0) (hw : w_X2_seekAt r1 r2 x3 x4 x5 h Q) : Sp (GX D ca ad) (XS (GX D ca ad)) l 5 yX2_seekAt cX2_seekAt 8 (some .int) [.ref 129, .ref r1, .ref r2, .int x3, .int x4, .int x5] h (qI Q) := by
  refine Sp.of (own := RX2) [some (.ref 129), some (.ref r1), some (.ref r2), some (.int x3), some (.int x4), some (.int x5), none, none] (by decide +kernel) rfl rfl (Nat.le_of_ble_eq_true rfl) (fun K hl C => ?_)
  subst hl
  unfold w_X2_seekAt at hw
  refine PW.ild4 C dX2_seekAt_0 ?_
  refine PW.ist6 C dX2_seekAt_2 (by decide) rfl ?_
  refine PW.iconst (v := 1) C dX2_seekAt_4 (by decide) ?_
  refine PW.ist7 C dX2_seekAt_5 (by decide) rfl ?_
  obtain ⟨n, hw⟩ := hw
  refine PW.wk (wk_s (wk_s (wk_s (wk_s (wk_n (wk_s (wk_s (wk_s wk_0)))))))) (l_X2_seekAt_7 C hr1 hr2 ?_ n _ _ _ hw)
  · intro y7 h6 hw
    refine PW.ild6 C dX2_seekAt_71 ?_
    exact PW.iret C dX2_seekAt_73 ⟨_, rfl, hw⟩
def w_X2_seek_41 (r1 : Nat) (r2 : Nat) (Q : Int32 → PH → Prop) (kb : Int32 → Int32 → PH → Prop) (x3 : Int32) (x4 : Int32) (x5 : Int32) (h : PH) : Prop :=
  vp_in x5 48 ∧ if (gI h 133 (iN x5)) = 0 then (kb x4 (x5 + 1) h) else (kb x5 (x5 + 1) h)
set_option maxRecDepth 8000 in
theorem b_X2_seek_41 {D : va_G} {ca : Nat → ClassId} {ad : Nat → Nat} {K : Kt} {r1 : Nat} {r2 : Nat} {kb : Int32 → Int32 → PH → Prop} {Q : Int32 → PH → Prop} {x3 : Int32} {x4 : Int32} {x5 : Int32} {h : PH} (C : CX (GX D ca ad) (XS (GX D ca ad)) cX2_seek RX2 7 (some .int) 6 K) (hr1 : oX r1 8) (hr2 : oX r2 0) (hkb : ∀ (x4 : Int32) (x5 : Int32) (h : PH), kb x4 x5 h → PW (GX D ca ad) K 7 (qI Q) h 16 [some (.ref 129), some (.ref r1), some (.ref r2), some (.int x3), some (.int x4), some (.int x5), none] []) (hw : w_X2_seek_41 r1 r2 Q kb x3 x4 x5 h) : PW (GX D ca ad) K 7 (qI Q) h 41 [some (.ref 129), some (.ref r1), some (.ref r2), some (.int x3), some (.int x4), some (.int x5), none] [] := by
  unfold w_X2_seek_41 at hw
  refine PW.ald0n C dX2_seek_41 ?_
  refine PW.get0 (v := .ref 133) C cf_2 fl_X2_24 (by decide) oX_129 (fvR (o := 4) rfl) dX2_seek_42 ?_
  refine PW.ild5 C dX2_seek_45 ?_
  obtain ⟨hc4, hw⟩ := hw
  refine PW.iald C dX2_seek_47 aX_133 hc4 ?_
  refine PW.if_eq (tgt := 56) C dX2_seek_48 (by decide) (fun c => ?_) (fun c => ?_)
  · rw [if_pos c] at hw
    refine PW.ild4 C dX2_seek_56 ?_
    refine PW.ist4 C dX2_seek_58 (by decide) rfl ?_
    refine PW.inc5 (v := 1) C dX2_seek_60 (by decide) rfl (by decide) ?_
    refine PW.goto (tgt := 16) C dX2_seek_63 (by decide) ?_
    exact PW.wk (wk_s (wk_s (wk_s (wk_s (wk_s (wk_s (wk_n wk_0))))))) (hkb _ _ _ hw)
  · rw [if_neg c] at hw
    refine PW.ild5 C dX2_seek_51 ?_
    refine PW.goto (tgt := 58) C dX2_seek_53 (by decide) ?_
    refine PW.ist4 C dX2_seek_58 (by decide) rfl ?_
    refine PW.inc5 (v := 1) C dX2_seek_60 (by decide) rfl (by decide) ?_
    refine PW.goto (tgt := 16) C dX2_seek_63 (by decide) ?_
    exact PW.wk (wk_s (wk_s (wk_s (wk_s (wk_s (wk_s (wk_n wk_0))))))) (hkb _ _ _ hw)
def w_X2_seek_16 (r1 : Nat) (r2 : Nat) (k39 : PH → Prop) (k66 : Int32 → PH → Prop) (Q : Int32 → PH → Prop) (x3 : Int32) (kb : Int32 → Int32 → PH → Prop) (x4 : Int32) (x5 : Int32) (h : PH) : Prop :=
  if 48 ≤ x5 then (k66 x4 h) else (vp_in x5 48 ∧ if (gI h 133 (iN x5)) = 0 then (w_X2_seek_41 r1 r2 Q kb x3 x4 x5 h) else (if x4 = (-1) then (w_X2_seek_41 r1 r2 Q kb x3 x4 x5 h) else (k39 h)))
set_option maxRecDepth 8000 in
theorem b_X2_seek_16 {D : va_G} {ca : Nat → ClassId} {ad : Nat → Nat} {K : Kt} {r1 : Nat} {r2 : Nat} {k39 : PH → Prop} {k66 : Int32 → PH → Prop} {kb : Int32 → Int32 → PH → Prop} {Q : Int32 → PH → Prop} {x3 : Int32} {x4 : Int32} {x5 : Int32} {h : PH} (C : CX (GX D ca ad) (XS (GX D ca ad)) cX2_seek RX2 7 (some .int) 6 K) (hr1 : oX r1 8) (hr2 : oX r2 0) (hk39 : ∀ (h : PH), k39 h → PW (GX D ca ad) K 7 (qI Q) h 39 [none, none, none, none, none, none, none] []) (hk66 : ∀ (x4 : Int32) (h : PH), k66 x4 h → PW (GX D ca ad) K 7 (qI Q) h 66 [some (.ref 129), some (.ref r1), some (.ref r2), some (.int x3), some (.int x4), none, none] []) (hkb : ∀ (x4 : Int32) (x5 : Int32) (h : PH), kb x4 x5 h → PW (GX D ca ad) K 7 (qI Q) h 16 [some (.ref 129), some (.ref r1), some (.ref r2), some (.int x3), some (.int x4), some (.int x5), none] []) (hw : w_X2_seek_16 r1 r2 k39 k66 Q x3 kb x4 x5 h) : PW (GX D ca ad) K 7 (qI Q) h 16 [some (.ref 129), some (.ref r1), some (.ref r2), some (.int x3), some (.int x4), some (.int x5), none] [] := by
  unfold w_X2_seek_16 at hw
  refine PW.ild5 C dX2_seek_16 ?_
  refine PW.bipush (v := 48) C dX2_seek_18 (by decide) ?_
  refine PW.icmp_ge (tgt := 66) C dX2_seek_20 (by decide) (fun c => ?_) (fun c => ?_)
  · rw [if_pos c] at hw
    exact PW.wk (wk_s (wk_s (wk_s (wk_s (wk_s (wk_n (wk_n wk_0))))))) (hk66 _ _ hw)
  · rw [if_neg c] at hw
    refine PW.ald0n C dX2_seek_23 ?_
    refine PW.get0 (v := .ref 133) C cf_2 fl_X2_24 (by decide) oX_129 (fvR (o := 4) rfl) dX2_seek_24 ?_
    refine PW.ild5 C dX2_seek_27 ?_
    obtain ⟨hc3, hw⟩ := hw
    refine PW.iald C dX2_seek_29 aX_133 hc3 ?_
    refine PW.if_eq (tgt := 41) C dX2_seek_30 (by decide) (fun c => ?_) (fun c => ?_)
    · rw [if_pos c] at hw
      exact PW.wk (wk_s (wk_s (wk_s (wk_s (wk_s (wk_s (wk_n wk_0))))))) (b_X2_seek_41 C hr1 hr2 hkb hw)
    · rw [if_neg c] at hw
      refine PW.ild4 C dX2_seek_33 ?_
      refine PW.iconst (v := (-1)) C dX2_seek_35 (by decide) ?_
      refine PW.icmp_eq (tgt := 41) C dX2_seek_36 (by decide) (fun c => ?_) (fun c => ?_)
      · rw [if_pos c] at hw
        exact PW.wk (wk_s (wk_s (wk_s (wk_s (wk_s (wk_s (wk_n wk_0))))))) (b_X2_seek_41 C hr1 hr2 hkb hw)
      · rw [if_neg c] at hw
        exact PW.wk (wk_n (wk_n (wk_n (wk_n (wk_n (wk_n (wk_n wk_0))))))) (hk39 _ hw)
theorem l_X2_seek_16 {D : va_G} {ca : Nat → ClassId} {ad : Nat → Nat} {K : Kt} {r1 : Nat} {r2 : Nat} {k39 : PH → Prop} {k66 : Int32 → PH → Prop} {Q : Int32 → PH → Prop} {x3 : Int32} (C : CX (GX D ca ad) (XS (GX D ca ad)) cX2_seek RX2 7 (some .int) 6 K) (hr1 : oX r1 8) (hr2 : oX r2 0) (hk39 : ∀ (h : PH), k39 h → PW (GX D ca ad) K 7 (qI Q) h 39 [none, none, none, none, none, none, none] []) (hk66 : ∀ (x4 : Int32) (h : PH), k66 x4 h → PW (GX D ca ad) K 7 (qI Q) h 66 [some (.ref 129), some (.ref r1), some (.ref r2), some (.int x3), some (.int x4), none, none] []) : ∀ (n : Nat) (x4 : Int32) (x5 : Int32) (h : PH), Lp2 (w_X2_seek_16 r1 r2 k39 k66 Q x3) n x4 x5 h → PW (GX D ca ad) K 7 (qI Q) h 16 [some (.ref 129), some (.ref r1), some (.ref r2), some (.int x3), some (.int x4), some (.int x5), none] [] := by
  intro n
  induction n with
  | zero => intro x4 x5 h hw; exact hw.elim
  | succ n ih => intro x4 x5 h hw; exact b_X2_seek_16 C hr1 hr2 hk39 hk66 (fun x4 x5 h hw => ih x4 x5 h hw) hw
def w_X2_seek_109 (r1 : Nat) (r2 : Nat) (Q : Int32 → PH → Prop) (kb : Int32 → Int32 → PH → Prop) (x3 : Int32) (x4 : Int32) (x5 : Int32) (x6 : Int32) (h : PH) : Prop :=
  w_X2_seekAt r1 r2 x6 x5 x3 h (fun z9 h8 => kb z9 (x6 + 1) h8)
set_option maxRecDepth 8000 in
theorem b_X2_seek_109 {D : va_G} {ca : Nat → ClassId} {ad : Nat → Nat} {K : Kt} {r1 : Nat} {r2 : Nat} {kb : Int32 → Int32 → PH → Prop} {Q : Int32 → PH → Prop} {x3 : Int32} {x4 : Int32} {x5 : Int32} {x6 : Int32} {h : PH} (C : CX (GX D ca ad) (XS (GX D ca ad)) cX2_seek RX2 7 (some .int) 6 K) (hr1 : oX r1 8) (hr2 : oX r2 0) (hkb : ∀ (x5 : Int32) (x6 : Int32) (h : PH), kb x5 x6 h → PW (GX D ca ad) K 7 (qI Q) h 72 [some (.ref 129), some (.ref r1), some (.ref r2), some (.int x3), some (.int x4), some (.int x5), some (.int x6)] []) (hw : w_X2_seek_109 r1 r2 Q kb x3 x4 x5 x6 h) : PW (GX D ca ad) K 7 (qI Q) h 109 [some (.ref 129), some (.ref r1), some (.ref r2), some (.int x3), some (.int x4), some (.int x5), some (.int x6)] [] := by
  unfold w_X2_seek_109 at hw
  refine PW.ald0n C dX2_seek_109 ?_
  refine PW.ald1n C dX2_seek_110 ?_
  refine PW.ald2n C dX2_seek_111 ?_
  refine PW.ild6 C dX2_seek_112 ?_
  refine PW.ild5 C dX2_seek_114 ?_
  refine PW.ild3n C dX2_seek_116 ?_
  refine PW.callVI5 C ms_X2_seekAt ml_X2_50 dX2_seek_117 oX_129 ⟨_, _, rfl⟩ (Nat.le_of_ble_eq_true rfl) (by decide) (Nat.le_of_ble_eq_true rfl) (s_X2_seekAt hr1 hr2 hw) ?_
  clear hw
  intro z9 h8 hw
  refine PW.ist5 C dX2_seek_120 (by decide) rfl ?_
  refine PW.inc6 (v := 1) C dX2_seek_122 (by decide) rfl (by decide) ?_
  refine PW.goto (tgt := 72) C dX2_seek_125 (by decide) ?_
  exact PW.wk (wk_s (wk_s (wk_s (wk_s (wk_s (wk_s (wk_s wk_0))))))) (hkb _ _ _ hw)
def w_X2_seek_72 (r1 : Nat) (r2 : Nat) (k128 : Int32 → PH → Prop) (Q : Int32 → PH → Prop) (x3 : Int32) (x4 : Int32) (kb : Int32 → Int32 → PH → Prop) (x5 : Int32) (x6 : Int32) (h : PH) : Prop :=
  if ((gI h (r1 + 1) 3) * 48) ≤ x6 then (k128 x5 h) else (if x3 < x5 then (k128 x5 h) else (if x4 = (-1) then (w_X2_seek_109 r1 r2 Q kb x3 x4 x5 x6 h) else (if x4 = (x6 - x6 / 48 * 48) then (w_X2_seek_109 r1 r2 Q kb x3 x4 x5 x6 h) else (kb x5 (x6 + 1) h))))
set_option maxRecDepth 8000 in
theorem b_X2_seek_72 {D : va_G} {ca : Nat → ClassId} {ad : Nat → Nat} {K : Kt} {r1 : Nat} {r2 : Nat} {k128 : Int32 → PH → Prop} {kb : Int32 → Int32 → PH → Prop} {Q : Int32 → PH → Prop} {x3 : Int32} {x4 : Int32} {x5 : Int32} {x6 : Int32} {h : PH} (C : CX (GX D ca ad) (XS (GX D ca ad)) cX2_seek RX2 7 (some .int) 6 K) (hr1 : oX r1 8) (hr2 : oX r2 0) (hk128 : ∀ (x5 : Int32) (h : PH), k128 x5 h → PW (GX D ca ad) K 7 (qI Q) h 128 [none, none, none, none, none, some (.int x5), none] []) (hkb : ∀ (x5 : Int32) (x6 : Int32) (h : PH), kb x5 x6 h → PW (GX D ca ad) K 7 (qI Q) h 72 [some (.ref 129), some (.ref r1), some (.ref r2), some (.int x3), some (.int x4), some (.int x5), some (.int x6)] []) (hw : w_X2_seek_72 r1 r2 k128 Q x3 x4 kb x5 x6 h) : PW (GX D ca ad) K 7 (qI Q) h 72 [some (.ref 129), some (.ref r1), some (.ref r2), some (.int x3), some (.int x4), some (.int x5), some (.int x6)] [] := by
  unfold w_X2_seek_72 at hw
  refine PW.ild6 C dX2_seek_72 ?_
  refine PW.ald1n C dX2_seek_74 ?_
  refine PW.getN0 C cf_8 fl_X2_45 (by decide) hr1 (fvR (o := 1) rfl) dX2_seek_75 ?_
  refine PW.getN0 C cf_6 fl_X2_38 (by decide) (sf_8_0 hr1) (fvI rfl) dX2_seek_78 ?_
  refine PW.bipush (v := 48) C dX2_seek_81 (by decide) ?_
  refine PW.imul C dX2_seek_83 ?_
  refine PW.icmp_ge (tgt := 128) C dX2_seek_84 (by decide) (fun c => ?_) (fun c => ?_)
  · rw [if_pos c] at hw
    exact PW.wk (wk_n (wk_n (wk_n (wk_n (wk_n (wk_s (wk_n wk_0))))))) (hk128 _ _ hw)
  · rw [if_neg c] at hw
    refine PW.ild5 C dX2_seek_87 ?_
    refine PW.ild3n C dX2_seek_89 ?_
    refine PW.icmp_gt (tgt := 128) C dX2_seek_90 (by decide) (fun c => ?_) (fun c => ?_)
    · rw [if_pos c] at hw
      exact PW.wk (wk_n (wk_n (wk_n (wk_n (wk_n (wk_s (wk_n wk_0))))))) (hk128 _ _ hw)
    · rw [if_neg c] at hw
      refine PW.ild4 C dX2_seek_93 ?_
      refine PW.iconst (v := (-1)) C dX2_seek_95 (by decide) ?_
      refine PW.icmp_eq (tgt := 109) C dX2_seek_96 (by decide) (fun c => ?_) (fun c => ?_)
      · rw [if_pos c] at hw
        exact PW.wk (wk_s (wk_s (wk_s (wk_s (wk_s (wk_s (wk_s wk_0))))))) (b_X2_seek_109 C hr1 hr2 hkb hw)
      · rw [if_neg c] at hw
        refine PW.ild4 C dX2_seek_99 ?_
        refine PW.ild6 C dX2_seek_101 ?_
        refine PW.bipush (v := 48) C dX2_seek_103 (by decide) ?_
        refine PW.irem C dX2_seek_105 (by decide) ?_
        refine PW.icmp_ne (tgt := 122) C dX2_seek_106 (by decide) (fun c => ?_) (fun c => ?_)
        · rw [if_neg c] at hw
          refine PW.inc6 (v := 1) C dX2_seek_122 (by decide) rfl (by decide) ?_
          refine PW.goto (tgt := 72) C dX2_seek_125 (by decide) ?_
          exact PW.wk (wk_s (wk_s (wk_s (wk_s (wk_s (wk_s (wk_s wk_0))))))) (hkb _ _ _ hw)
        · rw [if_pos c] at hw
          exact PW.wk (wk_s (wk_s (wk_s (wk_s (wk_s (wk_s (wk_s wk_0))))))) (b_X2_seek_109 C hr1 hr2 hkb hw)
theorem l_X2_seek_72 {D : va_G} {ca : Nat → ClassId} {ad : Nat → Nat} {K : Kt} {r1 : Nat} {r2 : Nat} {k128 : Int32 → PH → Prop} {Q : Int32 → PH → Prop} {x3 : Int32} {x4 : Int32} (C : CX (GX D ca ad) (XS (GX D ca ad)) cX2_seek RX2 7 (some .int) 6 K) (hr1 : oX r1 8) (hr2 : oX r2 0) (hk128 : ∀ (x5 : Int32) (h : PH), k128 x5 h → PW (GX D ca ad) K 7 (qI Q) h 128 [none, none, none, none, none, some (.int x5), none] []) : ∀ (n : Nat) (x5 : Int32) (x6 : Int32) (h : PH), Lp2 (w_X2_seek_72 r1 r2 k128 Q x3 x4) n x5 x6 h → PW (GX D ca ad) K 7 (qI Q) h 72 [some (.ref 129), some (.ref r1), some (.ref r2), some (.int x3), some (.int x4), some (.int x5), some (.int x6)] [] := by
  intro n
  induction n with
  | zero => intro x5 x6 h hw; exact hw.elim
  | succ n ih => intro x5 x6 h hw; exact b_X2_seek_72 C hr1 hr2 hk128 (fun x5 x6 h hw => ih x5 x6 h hw) hw
def w_X2_seek (r1 : Nat) (r2 : Nat) (x3 : Int32) (h : PH) (Q : Int32 → PH → Prop) : Prop :=
  w_X2_sortNotes r2 h (fun z2 h1 => if z2 = 0 then (Q 0 h1) else (∃ n, Lp2 (w_X2_seek_16 r1 r2 (fun h5 => Q 0 h5) (fun y7 h6 => ∃ n, Lp2 (w_X2_seek_72 r1 r2 (fun y11 h10 => Q y11 h10) Q x3 y7) n 0 0 h6) Q x3) n (-1) 0 h1))
set_option maxRecDepth 8000 in
theorem s_X2_seek {D : va_G} {ca : Nat → ClassId} {ad : Nat → Nat} {l : Launch} {r1 : Nat} {r2 : Nat} {x3 : Int32} {h : PH} {Q : Int32 → PH → Prop} (hr1 : oX r1 8) (hr2 : oX r2 0) (hw : w_X2_seek r1 r2 x3 h Q) : Sp (GX D ca ad) (XS (GX D ca ad)) l 6 yX2_seek cX2_seek 7 (some .int) [.ref 129, .ref r1, .ref r2, .int x3] h (qI Q) := by
  refine Sp.of (own := RX2) [some (.ref 129), some (.ref r1), some (.ref r2), some (.int x3), none, none, none] (by decide +kernel) rfl rfl (Nat.le_of_ble_eq_true rfl) (fun K hl C => ?_)
  subst hl
  unfold w_X2_seek at hw
  refine PW.iconst (v := (-1)) C dX2_seek_0 (by decide) ?_
  refine PW.ist4 C dX2_seek_1 (by decide) rfl ?_
  refine PW.ald0n C dX2_seek_3 ?_
  refine PW.ald2n C dX2_seek_4 ?_
  refine PW.callVI1 C ms_X2_sortNotes ml_X2_41 dX2_seek_5 oX_129 ⟨_, _, rfl⟩ (Nat.le_of_ble_eq_true rfl) (by decide) (Nat.le_of_ble_eq_true rfl) (s_X2_sortNotes hr2 hw) ?_
  clear hw
  intro z2 h1 hw
  refine PW.if_ne (tgt := 13) C dX2_seek_8 (by decide) (fun c => ?_) (fun c => ?_)
  · rw [if_neg c] at hw
    refine PW.iconst (v := 0) C dX2_seek_13 (by decide) ?_
    refine PW.ist5 C dX2_seek_14 (by decide) rfl ?_
    obtain ⟨n, hw⟩ := hw
    refine PW.wk (wk_s (wk_s (wk_s (wk_s (wk_s (wk_s (wk_n wk_0))))))) (l_X2_seek_16 C hr1 hr2 ?_ ?_ n _ _ _ hw)
    · intro h5 hw
      refine PW.iconst (v := 0) C dX2_seek_39 (by decide) ?_
      exact PW.iret C dX2_seek_40 ⟨_, rfl, hw⟩
    · intro y7 h6 hw
      refine PW.iconst (v := 0) C dX2_seek_66 (by decide) ?_
      refine PW.ist5 C dX2_seek_67 (by decide) rfl ?_
      refine PW.iconst (v := 0) C dX2_seek_69 (by decide) ?_
      refine PW.ist6 C dX2_seek_70 (by decide) rfl ?_
      obtain ⟨n, hw⟩ := hw
      refine PW.wk (wk_s (wk_s (wk_s (wk_s (wk_s (wk_s (wk_s wk_0))))))) (l_X2_seek_72 C hr1 hr2 ?_ n _ _ _ hw)
      · intro y11 h10 hw
        refine PW.ild5 C dX2_seek_128 ?_
        exact PW.iret C dX2_seek_130 ⟨_, rfl, hw⟩
  · rw [if_pos c] at hw
    refine PW.iconst (v := 0) C dX2_seek_11 (by decide) ?_
    exact PW.iret C dX2_seek_12 ⟨_, rfl, hw⟩
def w_X9_tapeNumber_3 (k46 : PH → Prop) (Q : PH → Prop) (x1 : Int32) (kb : Int32 → PH → Prop) (x2 : Int32) (h : PH) : Prop :=
  if x2 < 0 then (k46 h) else (if 700 ≤ (gI h 0 1) then (k46 h) else (vp_in (gI h 0 1) 700 ∧ ∀ h2, h2 = sI h 1 (iN (gI h 0 1)) (vp_nar .byte ((((x1 : Int32).toUInt32 >>> ((x2 : Int32).toUInt32 &&& Int32.toUInt32 31)).toInt32 : Int32).toInt8.toInt32)) → ∀ h3, h3 = sI h2 0 1 ((gI h2 0 1) + 1) → kb (x2 + (-8)) h3))
set_option maxRecDepth 8000 in
theorem b_X9_tapeNumber_3 {D : va_G} {ca : Nat → ClassId} {ad : Nat → Nat} {K : Kt} {k46 : PH → Prop} {kb : Int32 → PH → Prop} {Q : PH → Prop} {x1 : Int32} {x2 : Int32} {h : PH} (C : CX (GX D ca ad) (XS (GX D ca ad)) cX9_tapeNumber RX9 3 none 1 K) (hk46 : ∀ (h : PH), k46 h → PW (GX D ca ad) K 3 (qV Q) h 46 [none, none, none] []) (hkb : ∀ (x2 : Int32) (h : PH), kb x2 h → PW (GX D ca ad) K 3 (qV Q) h 3 [some (.ref 0), some (.int x1), some (.int x2)] []) (hw : w_X9_tapeNumber_3 k46 Q x1 kb x2 h) : PW (GX D ca ad) K 3 (qV Q) h 3 [some (.ref 0), some (.int x1), some (.int x2)] [] := by
  unfold w_X9_tapeNumber_3 at hw
  refine PW.ild2n C dX9_tapeNumber_3 ?_
  refine PW.if_lt (tgt := 46) C dX9_tapeNumber_4 (by decide) (fun c => ?_) (fun c => ?_)
  · rw [if_pos c] at hw
    exact PW.wk (wk_n (wk_n (wk_n wk_0))) (hk46 _ hw)
  · rw [if_neg c] at hw
    refine PW.ald0n C dX9_tapeNumber_7 ?_
    refine PW.get0 C cf_9 fl_X9_83 (by decide) oX_0 (fvI rfl) dX9_tapeNumber_8 ?_
    refine PW.sipush (v := 700) C dX9_tapeNumber_11 (by decide) ?_
    refine PW.icmp_ge (tgt := 46) C dX9_tapeNumber_14 (by decide) (fun c => ?_) (fun c => ?_)
    · rw [if_pos c] at hw
      exact PW.wk (wk_n (wk_n (wk_n wk_0))) (hk46 _ hw)
    · rw [if_neg c] at hw
      refine PW.ald0n C dX9_tapeNumber_17 ?_
      refine PW.get0 (v := .ref 1) C cf_9 fl_X9_9 (by decide) oX_0 (fvR (o := 1) rfl) dX9_tapeNumber_18 ?_
      refine PW.ald0n C dX9_tapeNumber_21 ?_
      refine PW.get0 C cf_9 fl_X9_83 (by decide) oX_0 (fvI rfl) dX9_tapeNumber_22 ?_
      refine PW.ild1n C dX9_tapeNumber_25 ?_
      refine PW.ild2n C dX9_tapeNumber_26 ?_
      refine PW.iushr C dX9_tapeNumber_27 ?_
      refine PW.i2b C dX9_tapeNumber_28 ?_
      obtain ⟨hc1, hw⟩ := hw
      replace hw := hw _ rfl
      refine PW.bast C dX9_tapeNumber_29 aX_1 hc1 ?_
      refine PW.ald0n C dX9_tapeNumber_30 ?_
      refine PW.dup C dX9_tapeNumber_31 rfl ?_
      refine PW.get0 C cf_9 fl_X9_83 (by decide) oX_0 (fvI rfl) dX9_tapeNumber_32 ?_
      refine PW.iconst (v := 1) C dX9_tapeNumber_35 (by decide) ?_
      refine PW.iadd C dX9_tapeNumber_36 ?_
      replace hw := hw _ rfl
      refine PW.put0 C cf_9 fl_X9_83 (by decide) oX_0 rfl rfl rfl (pw_sI oX_0 (by decide) rfl) dX9_tapeNumber_37 ?_
      refine PW.inc2 (v := (-8)) C dX9_tapeNumber_40 (by decide) rfl (by decide) ?_
      refine PW.goto (tgt := 3) C dX9_tapeNumber_43 (by decide) ?_
      exact PW.wk (wk_s (wk_s (wk_s wk_0))) (hkb _ _ hw)
theorem l_X9_tapeNumber_3 {D : va_G} {ca : Nat → ClassId} {ad : Nat → Nat} {K : Kt} {k46 : PH → Prop} {Q : PH → Prop} {x1 : Int32} (C : CX (GX D ca ad) (XS (GX D ca ad)) cX9_tapeNumber RX9 3 none 1 K) (hk46 : ∀ (h : PH), k46 h → PW (GX D ca ad) K 3 (qV Q) h 46 [none, none, none] []) : ∀ (n : Nat) (x2 : Int32) (h : PH), Lp1 (w_X9_tapeNumber_3 k46 Q x1) n x2 h → PW (GX D ca ad) K 3 (qV Q) h 3 [some (.ref 0), some (.int x1), some (.int x2)] [] := by
  intro n
  induction n with
  | zero => intro x2 h hw; exact hw.elim
  | succ n ih => intro x2 h hw; exact b_X9_tapeNumber_3 C hk46 (fun x2 h hw => ih x2 h hw) hw
def w_X9_tapeNumber (x1 : Int32) (h : PH) (Q : PH → Prop) : Prop :=
  ∃ n, Lp1 (w_X9_tapeNumber_3 (fun h4 => Q h4) Q x1) n 24 h
set_option maxRecDepth 8000 in
theorem s_X9_tapeNumber {D : va_G} {ca : Nat → ClassId} {ad : Nat → Nat} {l : Launch} {x1 : Int32} {h : PH} {Q : PH → Prop} (hw : w_X9_tapeNumber x1 h Q) : Sp (GX D ca ad) (XS (GX D ca ad)) l 1 yX9_tapeNumber cX9_tapeNumber 3 none [.ref 0, .int x1] h (qV Q) := by
  refine Sp.of (own := RX9) [some (.ref 0), some (.int x1), none] (by decide +kernel) rfl rfl (Nat.le_of_ble_eq_true rfl) (fun K hl C => ?_)
  subst hl
  unfold w_X9_tapeNumber at hw
  refine PW.bipush (v := 24) C dX9_tapeNumber_0 (by decide) ?_
  refine PW.ist2n C dX9_tapeNumber_2 (by decide) rfl ?_
  obtain ⟨n, hw⟩ := hw
  refine PW.wk (wk_s (wk_s (wk_s wk_0))) (l_X9_tapeNumber_3 C ?_ n _ _ hw)
  · intro h4 hw
    exact PW.vret C dX9_tapeNumber_46 ⟨rfl, hw⟩
def w_X9_feed (x1 : Int32) (x2 : Int32) (x3 : Int32) (x4 : Int32) (x5 : Int32) (h : PH) (Q : Int32 → PH → Prop) : Prop :=
  if ((gI h 0 1) + 20) ≤ 700 then (w_X9_tapeNumber x1 h (fun h1 => w_X9_tapeNumber x2 h1 (fun h2 => w_X9_tapeNumber x3 h2 (fun h3 => w_X9_tapeNumber x4 h3 (fun h4 => w_X9_tapeNumber x5 h4 (fun h5 => Q (gI h5 0 1) h5)))))) else (Q (-1) h)
set_option maxRecDepth 8000 in
theorem s_X9_feed {D : va_G} {ca : Nat → ClassId} {ad : Nat → Nat} {l : Launch} {x1 : Int32} {x2 : Int32} {x3 : Int32} {x4 : Int32} {x5 : Int32} {h : PH} {Q : Int32 → PH → Prop} (hw : w_X9_feed x1 x2 x3 x4 x5 h Q) : Sp (GX D ca ad) (XS (GX D ca ad)) l 2 yX9_feed cX9_feed 6 (some .int) [.ref 0, .int x1, .int x2, .int x3, .int x4, .int x5] h (qI Q) := by
  refine Sp.of (own := RX9) [some (.ref 0), some (.int x1), some (.int x2), some (.int x3), some (.int x4), some (.int x5)] (by decide +kernel) rfl rfl (Nat.le_of_ble_eq_true rfl) (fun K hl C => ?_)
  subst hl
  unfold w_X9_feed at hw
  refine PW.ald0n C dX9_feed_0 ?_
  refine PW.get0 C cf_9 fl_X9_83 (by decide) oX_0 (fvI rfl) dX9_feed_1 ?_
  refine PW.bipush (v := 20) C dX9_feed_4 (by decide) ?_
  refine PW.iadd C dX9_feed_6 ?_
  refine PW.sipush (v := 700) C dX9_feed_7 (by decide) ?_
  refine PW.icmp_le (tgt := 15) C dX9_feed_10 (by decide) (fun c => ?_) (fun c => ?_)
  · rw [if_pos c] at hw
    refine PW.ald0n C dX9_feed_15 ?_
    refine PW.ild1n C dX9_feed_16 ?_
    refine PW.callVV1 C ms_X9_tapeNumber ml_X9_87 dX9_feed_17 oX_0 ⟨_, _, rfl⟩ (Nat.le_of_ble_eq_true rfl) (by decide) (Nat.le_of_ble_eq_true rfl) (s_X9_tapeNumber hw) ?_
    clear hw
    intro h1 hw
    refine PW.ald0n C dX9_feed_20 ?_
    refine PW.ild2n C dX9_feed_21 ?_
    refine PW.callVV1 C ms_X9_tapeNumber ml_X9_87 dX9_feed_22 oX_0 ⟨_, _, rfl⟩ (Nat.le_of_ble_eq_true rfl) (by decide) (Nat.le_of_ble_eq_true rfl) (s_X9_tapeNumber hw) ?_
    clear hw
    intro h2 hw
    refine PW.ald0n C dX9_feed_25 ?_
    refine PW.ild3n C dX9_feed_26 ?_
    refine PW.callVV1 C ms_X9_tapeNumber ml_X9_87 dX9_feed_27 oX_0 ⟨_, _, rfl⟩ (Nat.le_of_ble_eq_true rfl) (by decide) (Nat.le_of_ble_eq_true rfl) (s_X9_tapeNumber hw) ?_
    clear hw
    intro h3 hw
    refine PW.ald0n C dX9_feed_30 ?_
    refine PW.ild4 C dX9_feed_31 ?_
    refine PW.callVV1 C ms_X9_tapeNumber ml_X9_87 dX9_feed_33 oX_0 ⟨_, _, rfl⟩ (Nat.le_of_ble_eq_true rfl) (by decide) (Nat.le_of_ble_eq_true rfl) (s_X9_tapeNumber hw) ?_
    clear hw
    intro h4 hw
    refine PW.ald0n C dX9_feed_36 ?_
    refine PW.ild5 C dX9_feed_37 ?_
    refine PW.callVV1 C ms_X9_tapeNumber ml_X9_87 dX9_feed_39 oX_0 ⟨_, _, rfl⟩ (Nat.le_of_ble_eq_true rfl) (by decide) (Nat.le_of_ble_eq_true rfl) (s_X9_tapeNumber hw) ?_
    clear hw
    intro h5 hw
    refine PW.ald0n C dX9_feed_42 ?_
    refine PW.get0 C cf_9 fl_X9_83 (by decide) oX_0 (fvI rfl) dX9_feed_43 ?_
    exact PW.iret C dX9_feed_46 ⟨_, rfl, hw⟩
  · rw [if_neg c] at hw
    refine PW.iconst (v := (-1)) C dX9_feed_13 (by decide) ?_
    exact PW.iret C dX9_feed_14 ⟨_, rfl, hw⟩
def w_X9_changed (h : PH) (Q : PH → Prop) : Prop :=
  ∀ h1, h1 = sI h 0 9 0 → ∀ h2, h2 = sI h1 0 12 0 → Q h2
set_option maxRecDepth 8000 in
theorem s_X9_changed {D : va_G} {ca : Nat → ClassId} {ad : Nat → Nat} {l : Launch} {h : PH} {Q : PH → Prop} (hw : w_X9_changed h Q) : Sp (GX D ca ad) (XS (GX D ca ad)) l 1 yX9_changed cX9_changed 1 none [.ref 0] h (qV Q) := by
  refine Sp.of (own := RX9) [some (.ref 0)] (by decide +kernel) rfl rfl (Nat.le_of_ble_eq_true rfl) (fun K hl C => ?_)
  subst hl
  unfold w_X9_changed at hw
  refine PW.ald0n C dX9_changed_0 ?_
  refine PW.iconst (v := 0) C dX9_changed_1 (by decide) ?_
  replace hw := hw _ rfl
  refine PW.put0 C cf_9 fl_X9_399 (by decide) oX_0 rfl (z_nar (by decide)).1 (z_nar (by decide)).2 (pw_sI oX_0 (by decide) rfl) dX9_changed_2 ?_
  refine PW.ald0n C dX9_changed_5 ?_
  refine PW.iconst (v := 0) C dX9_changed_6 (by decide) ?_
  replace hw := hw _ rfl
  refine PW.put0 C cf_9 fl_X9_402 (by decide) oX_0 rfl (z_nar (by decide)).1 (z_nar (by decide)).2 (pw_sI oX_0 (by decide) rfl) dX9_changed_7 ?_
  exact PW.vret C dX9_changed_10 ⟨rfl, hw⟩
def w_X9_text (x1 : Int32) (h : PH) (Q : Int32 → PH → Prop) : Prop :=
  if x1 < 0 then (Q (-2) h) else (if x1 ≤ (gI h 0 1) then (∀ h1, h1 = sI h 0 1 0 → gP h1 0 4 ≠ 0 ∧ oX (gP h1 0 4 - 1) 8 ∧ w_X5_read 1 (gP h1 0 4 - 1) x1 h1 (fun z5 h4 => if z5 = 0 then (Q (-1) h4) else (gP h4 0 3 ≠ 0 ∧ oX (gP h4 0 3 - 1) 8 ∧ gP h4 0 4 ≠ 0 ∧ oX (gP h4 0 4 - 1) 8 ∧ ∀ h10, h10 = sP h4 0 3 ((gP h4 0 4 - 1) + 1) → ∀ h11, h11 = sP h10 0 4 ((gP h4 0 3 - 1) + 1) → ∀ h12, h12 = sI h11 0 6 0 → w_X2_clear h12 (fun h13 => w_X6_clear 135 h13 (fun h14 => w_X9_changed h14 (fun h15 => gP h15 0 3 ≠ 0 ∧ oX (gP h15 0 3 - 1) 8 ∧ Q (gI h15 (gP h15 0 3 - 1) 12) h15)))))) else (Q (-2) h))
set_option maxRecDepth 8000 in
theorem s_X9_text {D : va_G} {ca : Nat → ClassId} {ad : Nat → Nat} {l : Launch} {x1 : Int32} {h : PH} {Q : Int32 → PH → Prop} (hw : w_X9_text x1 h Q) : Sp (GX D ca ad) (XS (GX D ca ad)) l 11 yX9_text cX9_text 3 (some .int) [.ref 0, .int x1] h (qI Q) := by
  refine Sp.of (own := RX9) [some (.ref 0), some (.int x1), none] (by decide +kernel) rfl rfl (Nat.le_of_ble_eq_true rfl) (fun K hl C => ?_)
  subst hl
  unfold w_X9_text at hw
  refine PW.ild1n C dX9_text_0 ?_
  refine PW.if_lt (tgt := 12) C dX9_text_1 (by decide) (fun c => ?_) (fun c => ?_)
  · rw [if_pos c] at hw
    refine PW.bipush (v := (-2)) C dX9_text_12 (by decide) ?_
    exact PW.iret C dX9_text_14 ⟨_, rfl, hw⟩
  · rw [if_neg c] at hw
    refine PW.ild1n C dX9_text_4 ?_
    refine PW.ald0n C dX9_text_5 ?_
    refine PW.get0 C cf_9 fl_X9_83 (by decide) oX_0 (fvI rfl) dX9_text_6 ?_
    refine PW.icmp_le (tgt := 15) C dX9_text_9 (by decide) (fun c => ?_) (fun c => ?_)
    · rw [if_pos c] at hw
      refine PW.ald0n C dX9_text_15 ?_
      refine PW.iconst (v := 0) C dX9_text_16 (by decide) ?_
      replace hw := hw _ rfl
      refine PW.put0 C cf_9 fl_X9_83 (by decide) oX_0 rfl rfl rfl (pw_sI oX_0 (by decide) rfl) dX9_text_17 ?_
      refine PW.ald0n C dX9_text_20 ?_
      refine PW.get0 (v := .ref 2) C cf_9 fl_X9_16 (by decide) oX_0 (fvR (o := 2) rfl) dX9_text_21 ?_
      refine PW.ald0n C dX9_text_24 ?_
      refine PW.get0 (v := .ref 1) C cf_9 fl_X9_9 (by decide) oX_0 (fvR (o := 1) rfl) dX9_text_25 ?_
      refine PW.ild1n C dX9_text_28 ?_
      refine PW.ald0n C dX9_text_29 ?_
      obtain ⟨hz3, hq2, hw⟩ := hw
      refine PW.get0 C cf_9 fl_X9_27 (by decide) oX_0 (fvP rfl hz3) dX9_text_30 ?_
      refine PW.callVI3 C ms_X5_read ml_X9_91 dX9_text_33 oX_2 ⟨_, _, rfl⟩ (Nat.le_of_ble_eq_true rfl) (by decide) (Nat.le_of_ble_eq_true rfl) (s_X5_read aX_1 hq2 hw) ?_
      clear hw
      intro z5 h4 hw
      refine PW.if_ne (tgt := 41) C dX9_text_36 (by decide) (fun c => ?_) (fun c => ?_)
      · rw [if_neg c] at hw
        refine PW.ald0n C dX9_text_41 ?_
        obtain ⟨hz7, hq6, hw⟩ := hw
        refine PW.get0 C cf_9 fl_X9_23 (by decide) oX_0 (fvP rfl hz7) dX9_text_42 ?_
        refine PW.ast2n C dX9_text_45 (by decide) rfl ?_
        refine PW.ald0n C dX9_text_46 ?_
        refine PW.ald0n C dX9_text_47 ?_
        obtain ⟨hz9, hq8, hw⟩ := hw
        refine PW.get0 C cf_9 fl_X9_27 (by decide) oX_0 (fvP rfl hz9) dX9_text_48 ?_
        replace hw := hw _ rfl
        refine PW.put0 C cf_9 fl_X9_23 (by decide) oX_0 rfl rfl rfl (pw_sP oX_0 (by decide) rfl) dX9_text_51 ?_
        refine PW.ald0n C dX9_text_54 ?_
        refine PW.ald2n C dX9_text_55 ?_
        replace hw := hw _ rfl
        refine PW.put0 C cf_9 fl_X9_27 (by decide) oX_0 rfl rfl rfl (pw_sP oX_0 (by decide) rfl) dX9_text_56 ?_
        refine PW.ald0n C dX9_text_59 ?_
        refine PW.iconst (v := 0) C dX9_text_60 (by decide) ?_
        replace hw := hw _ rfl
        refine PW.put0 C cf_9 fl_X9_95 (by decide) oX_0 rfl (z_nar (by decide)).1 (z_nar (by decide)).2 (pw_sI oX_0 (by decide) rfl) dX9_text_61 ?_
        refine PW.ald0n C dX9_text_64 ?_
        refine PW.get0 (v := .ref 129) C cf_9 fl_X9_63 (by decide) oX_0 (fvR (o := 129) rfl) dX9_text_65 ?_
        refine PW.callVV0 C ms_X2_clear ml_X9_99 dX9_text_68 oX_129 ⟨_, _, rfl⟩ (Nat.le_of_ble_eq_true rfl) (by decide) (Nat.le_of_ble_eq_true rfl) (s_X2_clear hw) ?_
        clear hw
        intro h13 hw
        refine PW.ald0n C dX9_text_71 ?_
        refine PW.get0 (v := .ref 135) C cf_9 fl_X9_72 (by decide) oX_0 (fvR (o := 135) rfl) dX9_text_72 ?_
        refine PW.callVV0 C ms_X6_clear ml_X9_102 dX9_text_75 oX_135 ⟨_, _, rfl⟩ (Nat.le_of_ble_eq_true rfl) (by decide) (Nat.le_of_ble_eq_true rfl) (s_X6_clear oX_135 hw) ?_
        clear hw
        intro h14 hw
        refine PW.ald0n C dX9_text_78 ?_
        refine PW.callVV0 C ms_X9_changed ml_X9_103 dX9_text_79 oX_0 ⟨_, _, rfl⟩ (Nat.le_of_ble_eq_true rfl) (by decide) (Nat.le_of_ble_eq_true rfl) (s_X9_changed hw) ?_
        clear hw
        intro h15 hw
        refine PW.ald0n C dX9_text_82 ?_
        obtain ⟨hz17, hq16, hw⟩ := hw
        refine PW.get0 C cf_9 fl_X9_23 (by decide) oX_0 (fvP rfl hz17) dX9_text_83 ?_
        refine PW.getN0 C cf_8 fl_X9_106 (by decide) hq16 (fvI rfl) dX9_text_86 ?_
        exact PW.iret C dX9_text_89 ⟨_, rfl, hw⟩
      · rw [if_pos c] at hw
        refine PW.iconst (v := (-1)) C dX9_text_39 (by decide) ?_
        exact PW.iret C dX9_text_40 ⟨_, rfl, hw⟩
    · rw [if_neg c] at hw
      refine PW.bipush (v := (-2)) C dX9_text_12 (by decide) ?_
      exact PW.iret C dX9_text_14 ⟨_, rfl, hw⟩
def w_X9_fault (x1 : Int32) (h : PH) (Q : Int32 → PH → Prop) : Prop :=
  if x1 = 0 then (Q (gI h 2 8) h) else (if x1 = 1 then (Q (gI h 2 9) h) else (Q (-1) h))
set_option maxRecDepth 8000 in
theorem s_X9_fault {D : va_G} {ca : Nat → ClassId} {ad : Nat → Nat} {l : Launch} {x1 : Int32} {h : PH} {Q : Int32 → PH → Prop} (hw : w_X9_fault x1 h Q) : Sp (GX D ca ad) (XS (GX D ca ad)) l 1 yX9_fault cX9_fault 2 (some .int) [.ref 0, .int x1] h (qI Q) := by
  refine Sp.of (own := RX9) [some (.ref 0), some (.int x1)] (by decide +kernel) rfl rfl (Nat.le_of_ble_eq_true rfl) (fun K hl C => ?_)
  subst hl
  unfold w_X9_fault at hw
  refine PW.ild1n C dX9_fault_0 ?_
  refine PW.if_ne (tgt := 12) C dX9_fault_1 (by decide) (fun c => ?_) (fun c => ?_)
  · rw [if_neg c] at hw
    refine PW.ild1n C dX9_fault_12 ?_
    refine PW.iconst (v := 1) C dX9_fault_13 (by decide) ?_
    refine PW.icmp_ne (tgt := 27) C dX9_fault_14 (by decide) (fun c => ?_) (fun c => ?_)
    · rw [if_neg c] at hw
      refine PW.iconst (v := (-1)) C dX9_fault_27 (by decide) ?_
      exact PW.iret C dX9_fault_28 ⟨_, rfl, hw⟩
    · rw [if_pos c] at hw
      refine PW.ald0n C dX9_fault_17 ?_
      refine PW.get0 (v := .ref 2) C cf_9 fl_X9_16 (by decide) oX_0 (fvR (o := 2) rfl) dX9_fault_18 ?_
      refine PW.getN0 C cf_5 fl_X9_112 (by decide) oX_2 (fvI rfl) dX9_fault_21 ?_
      refine PW.goto (tgt := 28) C dX9_fault_24 (by decide) ?_
      exact PW.iret C dX9_fault_28 ⟨_, rfl, hw⟩
  · rw [if_pos c] at hw
    refine PW.ald0n C dX9_fault_4 ?_
    refine PW.get0 (v := .ref 2) C cf_9 fl_X9_16 (by decide) oX_0 (fvR (o := 2) rfl) dX9_fault_5 ?_
    refine PW.getN0 C cf_5 fl_X9_109 (by decide) oX_2 (fvI rfl) dX9_fault_8 ?_
    exact PW.iret C dX9_fault_11 ⟨_, rfl, hw⟩
def w_X9_named (x1 : Int32) (x2 : Int32) (h : PH) (Q : Int32 → PH → Prop) : Prop :=
  if x1 = 0 then (gP h 0 3 ≠ 0 ∧ oX (gP h 0 3 - 1) 8 ∧ w_X6_find ((gP h 0 3 - 1) + 1) 0 x2 h (fun z8 h7 => Q z8 h7)) else (if x1 = 1 then (gP h 0 3 ≠ 0 ∧ oX (gP h 0 3 - 1) 8 ∧ w_X6_find ((gP h 0 3 - 1) + 5) 0 x2 h (fun z4 h3 => Q z4 h3)) else (Q (-1) h))
set_option maxRecDepth 8000 in
theorem s_X9_named {D : va_G} {ca : Nat → ClassId} {ad : Nat → Nat} {l : Launch} {x1 : Int32} {x2 : Int32} {h : PH} {Q : Int32 → PH → Prop} (hw : w_X9_named x1 x2 h Q) : Sp (GX D ca ad) (XS (GX D ca ad)) l 4 yX9_named cX9_named 3 (some .int) [.ref 0, .int x1, .int x2] h (qI Q) := by
  refine Sp.of (own := RX9) [some (.ref 0), some (.int x1), some (.int x2)] (by decide +kernel) rfl rfl (Nat.le_of_ble_eq_true rfl) (fun K hl C => ?_)
  subst hl
  unfold w_X9_named at hw
  refine PW.ild1n C dX9_named_0 ?_
  refine PW.if_ne (tgt := 17) C dX9_named_1 (by decide) (fun c => ?_) (fun c => ?_)
  · rw [if_neg c] at hw
    refine PW.ild1n C dX9_named_17 ?_
    refine PW.iconst (v := 1) C dX9_named_18 (by decide) ?_
    refine PW.icmp_ne (tgt := 37) C dX9_named_19 (by decide) (fun c => ?_) (fun c => ?_)
    · rw [if_neg c] at hw
      refine PW.iconst (v := (-1)) C dX9_named_37 (by decide) ?_
      exact PW.iret C dX9_named_38 ⟨_, rfl, hw⟩
    · rw [if_pos c] at hw
      refine PW.ald0n C dX9_named_22 ?_
      obtain ⟨hz2, hq1, hw⟩ := hw
      refine PW.get0 C cf_9 fl_X9_23 (by decide) oX_0 (fvP rfl hz2) dX9_named_23 ?_
      refine PW.getN0 C cf_8 fl_X9_122 (by decide) hq1 (fvR (o := 5) rfl) dX9_named_26 ?_
      refine PW.iconst (v := 0) C dX9_named_29 (by decide) ?_
      refine PW.ild2n C dX9_named_30 ?_
      refine PW.callVI2 C ms_X6_find ml_X9_118 dX9_named_31 (sf_8_2 hq1) ⟨_, _, rfl⟩ (Nat.le_of_ble_eq_true rfl) (by decide) (Nat.le_of_ble_eq_true rfl) (s_X6_find (sf_8_2 hq1) hw) ?_
      clear hw
      intro z4 h3 hw
      refine PW.goto (tgt := 38) C dX9_named_34 (by decide) ?_
      exact PW.iret C dX9_named_38 ⟨_, rfl, hw⟩
  · rw [if_pos c] at hw
    refine PW.ald0n C dX9_named_4 ?_
    obtain ⟨hz6, hq5, hw⟩ := hw
    refine PW.get0 C cf_9 fl_X9_23 (by decide) oX_0 (fvP rfl hz6) dX9_named_5 ?_
    refine PW.getN0 C cf_8 fl_X9_115 (by decide) hq5 (fvR (o := 1) rfl) dX9_named_8 ?_
    refine PW.iconst (v := 0) C dX9_named_11 (by decide) ?_
    refine PW.ild2n C dX9_named_12 ?_
    refine PW.callVI2 C ms_X6_find ml_X9_118 dX9_named_13 (sf_8_0 hq5) ⟨_, _, rfl⟩ (Nat.le_of_ble_eq_true rfl) (by decide) (Nat.le_of_ble_eq_true rfl) (s_X6_find (sf_8_0 hq5) hw) ?_
    clear hw
    intro z8 h7 hw
    exact PW.iret C dX9_named_16 ⟨_, rfl, hw⟩
def w_X9_noise (x1 : Int32) (x2 : Int32) (h : PH) (Q : Int32 → PH → Prop) : Prop :=
  gP h 0 3 ≠ 0 ∧ oX (gP h 0 3 - 1) 8 ∧ w_X6_at ((gP h 0 3 - 1) + 7) x1 x2 h (fun z4 h3 => Q z4 h3)
set_option maxRecDepth 8000 in
theorem s_X9_noise {D : va_G} {ca : Nat → ClassId} {ad : Nat → Nat} {l : Launch} {x1 : Int32} {x2 : Int32} {h : PH} {Q : Int32 → PH → Prop} (hw : w_X9_noise x1 x2 h Q) : Sp (GX D ca ad) (XS (GX D ca ad)) l 3 yX9_noise cX9_noise 3 (some .int) [.ref 0, .int x1, .int x2] h (qI Q) := by
  refine Sp.of (own := RX9) [some (.ref 0), some (.int x1), some (.int x2)] (by decide +kernel) rfl rfl (Nat.le_of_ble_eq_true rfl) (fun K hl C => ?_)
  subst hl
  unfold w_X9_noise at hw
  refine PW.ald0n C dX9_noise_0 ?_
  obtain ⟨hz2, hq1, hw⟩ := hw
  refine PW.get0 C cf_9 fl_X9_23 (by decide) oX_0 (fvP rfl hz2) dX9_noise_1 ?_
  refine PW.getN0 C cf_8 fl_X9_156 (by decide) hq1 (fvR (o := 7) rfl) dX9_noise_4 ?_
  refine PW.ild1n C dX9_noise_7 ?_
  refine PW.ild2n C dX9_noise_8 ?_
  refine PW.callVI2 C ms_X6_at ml_X9_136 dX9_noise_9 (sf_8_3 hq1) ⟨_, _, rfl⟩ (Nat.le_of_ble_eq_true rfl) (by decide) (Nat.le_of_ble_eq_true rfl) (s_X6_at (sf_8_3 hq1) hw) ?_
  clear hw
  intro z4 h3 hw
  exact PW.iret C dX9_noise_12 ⟨_, rfl, hw⟩
def w_X9_claim (x1 : Int32) (x2 : Int32) (h : PH) (Q : Int32 → PH → Prop) : Prop :=
  gP h 0 3 ≠ 0 ∧ oX (gP h 0 3 - 1) 8 ∧ w_X6_at ((gP h 0 3 - 1) + 9) x1 x2 h (fun z4 h3 => Q z4 h3)
set_option maxRecDepth 8000 in
theorem s_X9_claim {D : va_G} {ca : Nat → ClassId} {ad : Nat → Nat} {l : Launch} {x1 : Int32} {x2 : Int32} {h : PH} {Q : Int32 → PH → Prop} (hw : w_X9_claim x1 x2 h Q) : Sp (GX D ca ad) (XS (GX D ca ad)) l 3 yX9_claim cX9_claim 3 (some .int) [.ref 0, .int x1, .int x2] h (qI Q) := by
  refine Sp.of (own := RX9) [some (.ref 0), some (.int x1), some (.int x2)] (by decide +kernel) rfl rfl (Nat.le_of_ble_eq_true rfl) (fun K hl C => ?_)
  subst hl
  unfold w_X9_claim at hw
  refine PW.ald0n C dX9_claim_0 ?_
  obtain ⟨hz2, hq1, hw⟩ := hw
  refine PW.get0 C cf_9 fl_X9_23 (by decide) oX_0 (fvP rfl hz2) dX9_claim_1 ?_
  refine PW.getN0 C cf_8 fl_X9_159 (by decide) hq1 (fvR (o := 9) rfl) dX9_claim_4 ?_
  refine PW.ild1n C dX9_claim_7 ?_
  refine PW.ild2n C dX9_claim_8 ?_
  refine PW.callVI2 C ms_X6_at ml_X9_136 dX9_claim_9 (sf_8_4 hq1) ⟨_, _, rfl⟩ (Nat.le_of_ble_eq_true rfl) (by decide) (Nat.le_of_ble_eq_true rfl) (s_X6_at (sf_8_4 hq1) hw) ?_
  clear hw
  intro z4 h3 hw
  exact PW.iret C dX9_claim_12 ⟨_, rfl, hw⟩
def w_X9_link (x1 : Int32) (x2 : Int32) (h : PH) (Q : Int32 → PH → Prop) : Prop :=
  gP h 0 3 ≠ 0 ∧ oX (gP h 0 3 - 1) 8 ∧ w_X6_at ((gP h 0 3 - 1) + 3) x1 x2 h (fun z4 h3 => Q z4 h3)
set_option maxRecDepth 8000 in
theorem s_X9_link {D : va_G} {ca : Nat → ClassId} {ad : Nat → Nat} {l : Launch} {x1 : Int32} {x2 : Int32} {h : PH} {Q : Int32 → PH → Prop} (hw : w_X9_link x1 x2 h Q) : Sp (GX D ca ad) (XS (GX D ca ad)) l 3 yX9_link cX9_link 3 (some .int) [.ref 0, .int x1, .int x2] h (qI Q) := by
  refine Sp.of (own := RX9) [some (.ref 0), some (.int x1), some (.int x2)] (by decide +kernel) rfl rfl (Nat.le_of_ble_eq_true rfl) (fun K hl C => ?_)
  subst hl
  unfold w_X9_link at hw
  refine PW.ald0n C dX9_link_0 ?_
  obtain ⟨hz2, hq1, hw⟩ := hw
  refine PW.get0 C cf_9 fl_X9_23 (by decide) oX_0 (fvP rfl hz2) dX9_link_1 ?_
  refine PW.getN0 C cf_8 fl_X9_162 (by decide) hq1 (fvR (o := 3) rfl) dX9_link_4 ?_
  refine PW.ild1n C dX9_link_7 ?_
  refine PW.ild2n C dX9_link_8 ?_
  refine PW.callVI2 C ms_X6_at ml_X9_136 dX9_link_9 (sf_8_1 hq1) ⟨_, _, rfl⟩ (Nat.le_of_ble_eq_true rfl) (by decide) (Nat.le_of_ble_eq_true rfl) (s_X6_at (sf_8_1 hq1) hw) ?_
  clear hw
  intro z4 h3 hw
  exact PW.iret C dX9_link_12 ⟨_, rfl, hw⟩
def w_X9_freshAir (h : PH) (Q : Nat → PH → Prop) : Prop :=
  if (gI h 0 9) = 0 then (gP h 0 3 ≠ 0 ∧ oX (gP h 0 3 - 1) 8 ∧ w_X0_measureWays 100 (gP h 0 3 - 1) (-1) h (fun h3 => gP h3 0 3 ≠ 0 ∧ oX (gP h3 0 3 - 1) 8 ∧ w_X0_listen 100 (gP h3 0 3 - 1) h3 (fun h6 => gP h6 0 3 ≠ 0 ∧ oX (gP h6 0 3 - 1) 8 ∧ w_X0_settle 100 (gP h6 0 3 - 1) h6 (fun h9 => ∀ h10, h10 = sI h9 0 9 1 → Q 100 h10)))) else (Q 100 h)
set_option maxRecDepth 8000 in
theorem s_X9_freshAir {D : va_G} {ca : Nat → ClassId} {ad : Nat → Nat} {l : Launch} {h : PH} {Q : Nat → PH → Prop} (hw : w_X9_freshAir h Q) : Sp (GX D ca ad) (XS (GX D ca ad)) l 5 yX9_freshAir cX9_freshAir 1 (some (.object "OwnedSilence$Air")) [.ref 0] h (qR Q) := by
  refine Sp.of (own := RX9) [some (.ref 0)] (by decide +kernel) rfl rfl (Nat.le_of_ble_eq_true rfl) (fun K hl C => ?_)
  subst hl
  unfold w_X9_freshAir at hw
  refine PW.ald0n C dX9_freshAir_0 ?_
  refine PW.get0 C cf_9 fl_X9_399 (by decide) oX_0 (fvI rfl) dX9_freshAir_1 ?_
  refine PW.if_ne (tgt := 46) C dX9_freshAir_4 (by decide) (fun c => ?_) (fun c => ?_)
  · rw [if_neg c] at hw
    refine PW.ald0n C dX9_freshAir_46 ?_
    refine PW.get0 (v := .ref 100) C cf_9 fl_X9_39 (by decide) oX_0 (fvR (o := 100) rfl) dX9_freshAir_47 ?_
    exact PW.aret C dX9_freshAir_50 ⟨_, rfl, hw⟩
  · rw [if_pos c] at hw
    refine PW.ald0n C dX9_freshAir_7 ?_
    refine PW.get0 (v := .ref 100) C cf_9 fl_X9_39 (by decide) oX_0 (fvR (o := 100) rfl) dX9_freshAir_8 ?_
    refine PW.ald0n C dX9_freshAir_11 ?_
    obtain ⟨hz2, hq1, hw⟩ := hw
    refine PW.get0 C cf_9 fl_X9_23 (by decide) oX_0 (fvP rfl hz2) dX9_freshAir_12 ?_
    refine PW.iconst (v := (-1)) C dX9_freshAir_15 (by decide) ?_
    refine PW.callVV2 C ms_X0_measureWays ml_X9_279 dX9_freshAir_16 oX_100 ⟨_, _, rfl⟩ (Nat.le_of_ble_eq_true rfl) (by decide) (Nat.le_of_ble_eq_true rfl) (s_X0_measureWays oX_100 hq1 hw) ?_
    clear hw
    intro h3 hw
    refine PW.ald0n C dX9_freshAir_19 ?_
    refine PW.get0 (v := .ref 100) C cf_9 fl_X9_39 (by decide) oX_0 (fvR (o := 100) rfl) dX9_freshAir_20 ?_
    refine PW.ald0n C dX9_freshAir_23 ?_
    obtain ⟨hz5, hq4, hw⟩ := hw
    refine PW.get0 C cf_9 fl_X9_23 (by decide) oX_0 (fvP rfl hz5) dX9_freshAir_24 ?_
    refine PW.callVV1 C ms_X0_listen ml_X9_376 dX9_freshAir_27 oX_100 ⟨_, _, rfl⟩ (Nat.le_of_ble_eq_true rfl) (by decide) (Nat.le_of_ble_eq_true rfl) (s_X0_listen oX_100 hq4 hw) ?_
    clear hw
    intro h6 hw
    refine PW.ald0n C dX9_freshAir_30 ?_
    refine PW.get0 (v := .ref 100) C cf_9 fl_X9_39 (by decide) oX_0 (fvR (o := 100) rfl) dX9_freshAir_31 ?_
    refine PW.ald0n C dX9_freshAir_34 ?_
    obtain ⟨hz8, hq7, hw⟩ := hw
    refine PW.get0 C cf_9 fl_X9_23 (by decide) oX_0 (fvP rfl hz8) dX9_freshAir_35 ?_
    refine PW.callVV1 C ms_X0_settle ml_X9_379 dX9_freshAir_38 oX_100 ⟨_, _, rfl⟩ (Nat.le_of_ble_eq_true rfl) (by decide) (Nat.le_of_ble_eq_true rfl) (s_X0_settle oX_100 hq7 hw) ?_
    clear hw
    intro h9 hw
    refine PW.ald0n C dX9_freshAir_41 ?_
    refine PW.iconst (v := 1) C dX9_freshAir_42 (by decide) ?_
    replace hw := hw _ rfl
    refine PW.put0 C cf_9 fl_X9_399 (by decide) oX_0 rfl (z_nar (by decide)).1 (z_nar (by decide)).2 (pw_sI oX_0 (by decide) rfl) dX9_freshAir_43 ?_
    refine PW.ald0n C dX9_freshAir_46 ?_
    refine PW.get0 (v := .ref 100) C cf_9 fl_X9_39 (by decide) oX_0 (fvR (o := 100) rfl) dX9_freshAir_47 ?_
    exact PW.aret C dX9_freshAir_50 ⟨_, rfl, hw⟩
def w_X9_far (x1 : Int32) (x2 : Int32) (h : PH) (Q : Int32 → PH → Prop) : Prop :=
  gP h 0 3 ≠ 0 ∧ oX (gP h 0 3 - 1) 8 ∧ w_X6_has ((gP h 0 3 - 1) + 1) x1 h (fun z4 h3 => if z4 = 0 then (Q (-1) h3) else (gP h3 0 3 ≠ 0 ∧ oX (gP h3 0 3 - 1) 8 ∧ w_X6_has ((gP h3 0 3 - 1) + 1) x2 h3 (fun z8 h7 => if z8 = 0 then (Q (-1) h7) else (w_X9_freshAir h7 (fun z10 h9 => z10 = 100 ∧ w_X0_way 100 x1 x2 h9 (fun z13 h12 => Q z13 h12))))))
set_option maxRecDepth 8000 in
theorem s_X9_far {D : va_G} {ca : Nat → ClassId} {ad : Nat → Nat} {l : Launch} {x1 : Int32} {x2 : Int32} {h : PH} {Q : Int32 → PH → Prop} (hw : w_X9_far x1 x2 h Q) : Sp (GX D ca ad) (XS (GX D ca ad)) l 6 yX9_far cX9_far 3 (some .int) [.ref 0, .int x1, .int x2] h (qI Q) := by
  refine Sp.of (own := RX9) [some (.ref 0), some (.int x1), some (.int x2)] (by decide +kernel) rfl rfl (Nat.le_of_ble_eq_true rfl) (fun K hl C => ?_)
  subst hl
  unfold w_X9_far at hw
  refine PW.ald0n C dX9_far_0 ?_
  obtain ⟨hz2, hq1, hw⟩ := hw
  refine PW.get0 C cf_9 fl_X9_23 (by decide) oX_0 (fvP rfl hz2) dX9_far_1 ?_
  refine PW.getN0 C cf_8 fl_X9_115 (by decide) hq1 (fvR (o := 1) rfl) dX9_far_4 ?_
  refine PW.ild1n C dX9_far_7 ?_
  refine PW.callVI1 C ms_X6_has ml_X9_125 dX9_far_8 (sf_8_0 hq1) ⟨_, _, rfl⟩ (Nat.le_of_ble_eq_true rfl) (by decide) (Nat.le_of_ble_eq_true rfl) (s_X6_has (sf_8_0 hq1) hw) ?_
  clear hw
  intro z4 h3 hw
  refine PW.if_eq (tgt := 28) C dX9_far_11 (by decide) (fun c => ?_) (fun c => ?_)
  · rw [if_pos c] at hw
    refine PW.iconst (v := (-1)) C dX9_far_28 (by decide) ?_
    exact PW.iret C dX9_far_29 ⟨_, rfl, hw⟩
  · rw [if_neg c] at hw
    refine PW.ald0n C dX9_far_14 ?_
    obtain ⟨hz6, hq5, hw⟩ := hw
    refine PW.get0 C cf_9 fl_X9_23 (by decide) oX_0 (fvP rfl hz6) dX9_far_15 ?_
    refine PW.getN0 C cf_8 fl_X9_115 (by decide) hq5 (fvR (o := 1) rfl) dX9_far_18 ?_
    refine PW.ild2n C dX9_far_21 ?_
    refine PW.callVI1 C ms_X6_has ml_X9_125 dX9_far_22 (sf_8_0 hq5) ⟨_, _, rfl⟩ (Nat.le_of_ble_eq_true rfl) (by decide) (Nat.le_of_ble_eq_true rfl) (s_X6_has (sf_8_0 hq5) hw) ?_
    clear hw
    intro z8 h7 hw
    refine PW.if_ne (tgt := 30) C dX9_far_25 (by decide) (fun c => ?_) (fun c => ?_)
    · rw [if_neg c] at hw
      refine PW.ald0n C dX9_far_30 ?_
      refine PW.callVR0 C ms_X9_freshAir ml_X9_139 dX9_far_31 oX_0 ⟨_, _, rfl⟩ (Nat.le_of_ble_eq_true rfl) (by decide) (Nat.le_of_ble_eq_true rfl) (s_X9_freshAir hw) ?_
      clear hw
      intro z10 h9 hw
      obtain ⟨hq11, hw⟩ := hw
      subst hq11
      refine PW.ild1n C dX9_far_34 ?_
      refine PW.ild2n C dX9_far_35 ?_
      refine PW.callVI2 C ms_X0_way ml_X9_165 dX9_far_36 oX_100 ⟨_, _, rfl⟩ (Nat.le_of_ble_eq_true rfl) (by decide) (Nat.le_of_ble_eq_true rfl) (s_X0_way oX_100 hw) ?_
      clear hw
      intro z13 h12 hw
      exact PW.iret C dX9_far_39 ⟨_, rfl, hw⟩
    · rw [if_pos c] at hw
      refine PW.iconst (v := (-1)) C dX9_far_28 (by decide) ?_
      exact PW.iret C dX9_far_29 ⟨_, rfl, hw⟩
def w_X9_isLawNumber (x0 : Int32) (h : PH) (Q : Int32 → PH → Prop) : Prop :=
  if x0 < 0 then (Q 0 h) else (if 9999 < x0 then (Q 0 h) else (Q 1 h))
set_option maxRecDepth 8000 in
theorem s_X9_isLawNumber {D : va_G} {ca : Nat → ClassId} {ad : Nat → Nat} {l : Launch} {x0 : Int32} {h : PH} {Q : Int32 → PH → Prop} (hw : w_X9_isLawNumber x0 h Q) : Sp (GX D ca ad) (XS (GX D ca ad)) l 1 yX9_isLawNumber cX9_isLawNumber 1 (some .boolean) [.int x0] h (qI Q) := by
  refine Sp.of (own := RX9) [some (.int x0)] (by decide +kernel) rfl rfl (Nat.le_of_ble_eq_true rfl) (fun K hl C => ?_)
  subst hl
  unfold w_X9_isLawNumber at hw
  refine PW.ild0n C dX9_isLawNumber_0 ?_
  refine PW.if_lt (tgt := 15) C dX9_isLawNumber_1 (by decide) (fun c => ?_) (fun c => ?_)
  · rw [if_pos c] at hw
    refine PW.iconst (v := 0) C dX9_isLawNumber_15 (by decide) ?_
    exact PW.zret C dX9_isLawNumber_16 (by decide) ⟨_, rfl, hw⟩
  · rw [if_neg c] at hw
    refine PW.ild0n C dX9_isLawNumber_4 ?_
    refine PW.sipush (v := 9999) C dX9_isLawNumber_5 (by decide) ?_
    refine PW.icmp_gt (tgt := 15) C dX9_isLawNumber_8 (by decide) (fun c => ?_) (fun c => ?_)
    · rw [if_pos c] at hw
      refine PW.iconst (v := 0) C dX9_isLawNumber_15 (by decide) ?_
      exact PW.zret C dX9_isLawNumber_16 (by decide) ⟨_, rfl, hw⟩
    · rw [if_neg c] at hw
      refine PW.iconst (v := 1) C dX9_isLawNumber_11 (by decide) ?_
      refine PW.goto (tgt := 16) C dX9_isLawNumber_12 (by decide) ?_
      exact PW.zret C dX9_isLawNumber_16 (by decide) ⟨_, rfl, hw⟩
def w_X9_law (x1 : Int32) (x2 : Int32) (x3 : Int32) (x4 : Int32) (h : PH) (Q : Int64 → PH → Prop) : Prop :=
  w_X9_isLawNumber x2 h (fun z2 h1 => if z2 = 0 then (Q (-9223372036854775808) h1) else (w_X9_isLawNumber x3 h1 (fun z4 h3 => if z4 = 0 then (Q (-9223372036854775808) h3) else (w_X9_isLawNumber x4 h3 (fun z6 h5 => if z6 = 0 then (Q (-9223372036854775808) h5) else (if x1 = 0 then (gP h5 0 3 ≠ 0 ∧ oX (gP h5 0 3 - 1) 8 ∧ w_X1_value ((gP h5 0 3 - 1) + 15) x2 x3 x4 0 0 0 h5 (fun z14 h13 => Q z14 h13)) else (if x1 = 1 then (gP h5 0 3 ≠ 0 ∧ oX (gP h5 0 3 - 1) 8 ∧ w_X1_value ((gP h5 0 3 - 1) + 19) 0 0 0 x2 x3 x4 h5 (fun z10 h9 => Q z10 h9)) else (Q (-9223372036854775808) h5))))))))
set_option maxRecDepth 8000 in
theorem s_X9_law {D : va_G} {ca : Nat → ClassId} {ad : Nat → Nat} {l : Launch} {x1 : Int32} {x2 : Int32} {x3 : Int32} {x4 : Int32} {h : PH} {Q : Int64 → PH → Prop} (hw : w_X9_law x1 x2 x3 x4 h Q) : Sp (GX D ca ad) (XS (GX D ca ad)) l 3 yX9_law cX9_law 5 (some .long) [.ref 0, .int x1, .int x2, .int x3, .int x4] h (qJ Q) := by
  refine Sp.of (own := RX9) [some (.ref 0), some (.int x1), some (.int x2), some (.int x3), some (.int x4)] (by decide +kernel) rfl rfl (Nat.le_of_ble_eq_true rfl) (fun K hl C => ?_)
  subst hl
  unfold w_X9_law at hw
  refine PW.ild2n C dX9_law_0 ?_
  refine PW.callSI1 C ms_X9_isLawNumber ml_X9_168 dX9_law_1 (Nat.le_of_ble_eq_true rfl) (by decide) (Nat.le_of_ble_eq_true rfl) (s_X9_isLawNumber hw) ?_
  clear hw
  intro z2 h1 hw
  refine PW.if_eq (tgt := 22) C dX9_law_4 (by decide) (fun c => ?_) (fun c => ?_)
  · rw [if_pos c] at hw
    refine PW.ldc2 (v := (-9223372036854775808)) C cs_X9_173 dX9_law_22 ?_
    exact PW.lret C dX9_law_25 ⟨_, rfl, hw⟩
  · rw [if_neg c] at hw
    refine PW.ild3n C dX9_law_7 ?_
    refine PW.callSI1 C ms_X9_isLawNumber ml_X9_168 dX9_law_8 (Nat.le_of_ble_eq_true rfl) (by decide) (Nat.le_of_ble_eq_true rfl) (s_X9_isLawNumber hw) ?_
    clear hw
    intro z4 h3 hw
    refine PW.if_eq (tgt := 22) C dX9_law_11 (by decide) (fun c => ?_) (fun c => ?_)
    · rw [if_pos c] at hw
      refine PW.ldc2 (v := (-9223372036854775808)) C cs_X9_173 dX9_law_22 ?_
      exact PW.lret C dX9_law_25 ⟨_, rfl, hw⟩
    · rw [if_neg c] at hw
      refine PW.ild4 C dX9_law_14 ?_
      refine PW.callSI1 C ms_X9_isLawNumber ml_X9_168 dX9_law_16 (Nat.le_of_ble_eq_true rfl) (by decide) (Nat.le_of_ble_eq_true rfl) (s_X9_isLawNumber hw) ?_
      clear hw
      intro z6 h5 hw
      refine PW.if_ne (tgt := 26) C dX9_law_19 (by decide) (fun c => ?_) (fun c => ?_)
      · rw [if_neg c] at hw
        refine PW.ild1n C dX9_law_26 ?_
        refine PW.if_ne (tgt := 48) C dX9_law_27 (by decide) (fun c => ?_) (fun c => ?_)
        · rw [if_neg c] at hw
          refine PW.ild1n C dX9_law_48 ?_
          refine PW.iconst (v := 1) C dX9_law_49 (by decide) ?_
          refine PW.icmp_ne (tgt := 73) C dX9_law_50 (by decide) (fun c => ?_) (fun c => ?_)
          · rw [if_neg c] at hw
            refine PW.ldc2 (v := (-9223372036854775808)) C cs_X9_173 dX9_law_73 ?_
            exact PW.lret C dX9_law_76 ⟨_, rfl, hw⟩
          · rw [if_pos c] at hw
            refine PW.ald0n C dX9_law_53 ?_
            obtain ⟨hz8, hq7, hw⟩ := hw
            refine PW.get0 C cf_9 fl_X9_23 (by decide) oX_0 (fvP rfl hz8) dX9_law_54 ?_
            refine PW.getN0 C cf_8 fl_X9_183 (by decide) hq7 (fvR (o := 19) rfl) dX9_law_57 ?_
            refine PW.iconst (v := 0) C dX9_law_60 (by decide) ?_
            refine PW.iconst (v := 0) C dX9_law_61 (by decide) ?_
            refine PW.iconst (v := 0) C dX9_law_62 (by decide) ?_
            refine PW.ild2n C dX9_law_63 ?_
            refine PW.ild3n C dX9_law_64 ?_
            refine PW.ild4 C dX9_law_65 ?_
            refine PW.callVJ6 C ms_X1_value ml_X9_179 dX9_law_67 (sf_8_8 hq7) ⟨_, _, rfl⟩ (Nat.le_of_ble_eq_true rfl) (by decide) (Nat.le_of_ble_eq_true rfl) (s_X1_value (sf_8_8 hq7) hw) ?_
            clear hw
            intro z10 h9 hw
            refine PW.goto (tgt := 76) C dX9_law_70 (by decide) ?_
            exact PW.lret C dX9_law_76 ⟨_, rfl, hw⟩
        · rw [if_pos c] at hw
          refine PW.ald0n C dX9_law_30 ?_
          obtain ⟨hz12, hq11, hw⟩ := hw
          refine PW.get0 C cf_9 fl_X9_23 (by decide) oX_0 (fvP rfl hz12) dX9_law_31 ?_
          refine PW.getN0 C cf_8 fl_X9_175 (by decide) hq11 (fvR (o := 15) rfl) dX9_law_34 ?_
          refine PW.ild2n C dX9_law_37 ?_
          refine PW.ild3n C dX9_law_38 ?_
          refine PW.ild4 C dX9_law_39 ?_
          refine PW.iconst (v := 0) C dX9_law_41 (by decide) ?_
          refine PW.iconst (v := 0) C dX9_law_42 (by decide) ?_
          refine PW.iconst (v := 0) C dX9_law_43 (by decide) ?_
          refine PW.callVJ6 C ms_X1_value ml_X9_179 dX9_law_44 (sf_8_7 hq11) ⟨_, _, rfl⟩ (Nat.le_of_ble_eq_true rfl) (by decide) (Nat.le_of_ble_eq_true rfl) (s_X1_value (sf_8_7 hq11) hw) ?_
          clear hw
          intro z14 h13 hw
          exact PW.lret C dX9_law_47 ⟨_, rfl, hw⟩
      · rw [if_pos c] at hw
        refine PW.ldc2 (v := (-9223372036854775808)) C cs_X9_173 dX9_law_22 ?_
        exact PW.lret C dX9_law_25 ⟨_, rfl, hw⟩
def w_X9_heard (x1 : Int32) (x2 : Int32) (h : PH) (Q : Int32 → PH → Prop) : Prop :=
  gP h 0 3 ≠ 0 ∧ oX (gP h 0 3 - 1) 8 ∧ w_X6_has ((gP h 0 3 - 1) + 1) x1 h (fun z4 h3 => if z4 = 0 then (Q (-1) h3) else (w_X9_isMinute x2 h3 (fun z6 h5 => if z6 = 0 then (Q (-1) h5) else (w_X9_freshAir h5 (fun z8 h7 => z8 = 100 ∧ gP h7 0 3 ≠ 0 ∧ oX (gP h7 0 3 - 1) 8 ∧ w_X0_firstHeard 100 (gP h7 0 3 - 1) x1 x2 h7 (fun z13 h12 => if z13 = (-1) then (Q (-2) h12) else (Q z13 h12)))))))
set_option maxRecDepth 8000 in
theorem s_X9_heard {D : va_G} {ca : Nat → ClassId} {ad : Nat → Nat} {l : Launch} {x1 : Int32} {x2 : Int32} {h : PH} {Q : Int32 → PH → Prop} (hw : w_X9_heard x1 x2 h Q) : Sp (GX D ca ad) (XS (GX D ca ad)) l 6 yX9_heard cX9_heard 4 (some .int) [.ref 0, .int x1, .int x2] h (qI Q) := by
  refine Sp.of (own := RX9) [some (.ref 0), some (.int x1), some (.int x2), none] (by decide +kernel) rfl rfl (Nat.le_of_ble_eq_true rfl) (fun K hl C => ?_)
  subst hl
  unfold w_X9_heard at hw
  refine PW.ald0n C dX9_heard_0 ?_
  obtain ⟨hz2, hq1, hw⟩ := hw
  refine PW.get0 C cf_9 fl_X9_23 (by decide) oX_0 (fvP rfl hz2) dX9_heard_1 ?_
  refine PW.getN0 C cf_8 fl_X9_115 (by decide) hq1 (fvR (o := 1) rfl) dX9_heard_4 ?_
  refine PW.ild1n C dX9_heard_7 ?_
  refine PW.callVI1 C ms_X6_has ml_X9_125 dX9_heard_8 (sf_8_0 hq1) ⟨_, _, rfl⟩ (Nat.le_of_ble_eq_true rfl) (by decide) (Nat.le_of_ble_eq_true rfl) (s_X6_has (sf_8_0 hq1) hw) ?_
  clear hw
  intro z4 h3 hw
  refine PW.if_eq (tgt := 21) C dX9_heard_11 (by decide) (fun c => ?_) (fun c => ?_)
  · rw [if_pos c] at hw
    refine PW.iconst (v := (-1)) C dX9_heard_21 (by decide) ?_
    exact PW.iret C dX9_heard_22 ⟨_, rfl, hw⟩
  · rw [if_neg c] at hw
    refine PW.ild2n C dX9_heard_14 ?_
    refine PW.callSI1 C ms_X9_isMinute ml_X9_186 dX9_heard_15 (Nat.le_of_ble_eq_true rfl) (by decide) (Nat.le_of_ble_eq_true rfl) (s_X9_isMinute hw) ?_
    clear hw
    intro z6 h5 hw
    refine PW.if_ne (tgt := 23) C dX9_heard_18 (by decide) (fun c => ?_) (fun c => ?_)
    · rw [if_neg c] at hw
      refine PW.ald0n C dX9_heard_23 ?_
      refine PW.callVR0 C ms_X9_freshAir ml_X9_139 dX9_heard_24 oX_0 ⟨_, _, rfl⟩ (Nat.le_of_ble_eq_true rfl) (by decide) (Nat.le_of_ble_eq_true rfl) (s_X9_freshAir hw) ?_
      clear hw
      intro z8 h7 hw
      obtain ⟨hq9, hw⟩ := hw
      subst hq9
      refine PW.ald0n C dX9_heard_27 ?_
      obtain ⟨hz11, hq10, hw⟩ := hw
      refine PW.get0 C cf_9 fl_X9_23 (by decide) oX_0 (fvP rfl hz11) dX9_heard_28 ?_
      refine PW.ild1n C dX9_heard_31 ?_
      refine PW.ild2n C dX9_heard_32 ?_
      refine PW.callVI3 C ms_X0_firstHeard ml_X9_189 dX9_heard_33 oX_100 ⟨_, _, rfl⟩ (Nat.le_of_ble_eq_true rfl) (by decide) (Nat.le_of_ble_eq_true rfl) (s_X0_firstHeard oX_100 hq10 hw) ?_
      clear hw
      intro z13 h12 hw
      refine PW.ist3n C dX9_heard_36 (by decide) rfl ?_
      refine PW.ild3n C dX9_heard_37 ?_
      refine PW.iconst (v := (-1)) C dX9_heard_38 (by decide) ?_
      refine PW.icmp_ne (tgt := 47) C dX9_heard_39 (by decide) (fun c => ?_) (fun c => ?_)
      · rw [if_neg c] at hw
        refine PW.ild3n C dX9_heard_47 ?_
        exact PW.iret C dX9_heard_48 ⟨_, rfl, hw⟩
      · rw [if_pos c] at hw
        refine PW.bipush (v := (-2)) C dX9_heard_42 (by decide) ?_
        refine PW.goto (tgt := 48) C dX9_heard_44 (by decide) ?_
        exact PW.iret C dX9_heard_48 ⟨_, rfl, hw⟩
    · rw [if_pos c] at hw
      refine PW.iconst (v := (-1)) C dX9_heard_21 (by decide) ?_
      exact PW.iret C dX9_heard_22 ⟨_, rfl, hw⟩
def w_X9_hush (x1 : Int32) (h : PH) (Q : Int64 → PH → Prop) : Prop :=
  gP h 0 3 ≠ 0 ∧ oX (gP h 0 3 - 1) 8 ∧ w_X6_has ((gP h 0 3 - 1) + 1) x1 h (fun z4 h3 => if z4 = 0 then (Q (-1) h3) else (w_X9_freshAir h3 (fun z6 h5 => z6 = 100 ∧ w_X0_silentAt 100 x1 h5 (fun z9 h8 => Q z9 h8))))
set_option maxRecDepth 8000 in
theorem s_X9_hush {D : va_G} {ca : Nat → ClassId} {ad : Nat → Nat} {l : Launch} {x1 : Int32} {h : PH} {Q : Int64 → PH → Prop} (hw : w_X9_hush x1 h Q) : Sp (GX D ca ad) (XS (GX D ca ad)) l 6 yX9_hush cX9_hush 2 (some .long) [.ref 0, .int x1] h (qJ Q) := by
  refine Sp.of (own := RX9) [some (.ref 0), some (.int x1)] (by decide +kernel) rfl rfl (Nat.le_of_ble_eq_true rfl) (fun K hl C => ?_)
  subst hl
  unfold w_X9_hush at hw
  refine PW.ald0n C dX9_hush_0 ?_
  obtain ⟨hz2, hq1, hw⟩ := hw
  refine PW.get0 C cf_9 fl_X9_23 (by decide) oX_0 (fvP rfl hz2) dX9_hush_1 ?_
  refine PW.getN0 C cf_8 fl_X9_115 (by decide) hq1 (fvR (o := 1) rfl) dX9_hush_4 ?_
  refine PW.ild1n C dX9_hush_7 ?_
  refine PW.callVI1 C ms_X6_has ml_X9_125 dX9_hush_8 (sf_8_0 hq1) ⟨_, _, rfl⟩ (Nat.le_of_ble_eq_true rfl) (by decide) (Nat.le_of_ble_eq_true rfl) (s_X6_has (sf_8_0 hq1) hw) ?_
  clear hw
  intro z4 h3 hw
  refine PW.if_eq (tgt := 25) C dX9_hush_11 (by decide) (fun c => ?_) (fun c => ?_)
  · rw [if_pos c] at hw
    refine PW.ldc2 (v := (-1)) C cs_X9_196 dX9_hush_25 ?_
    exact PW.lret C dX9_hush_28 ⟨_, rfl, hw⟩
  · rw [if_neg c] at hw
    refine PW.ald0n C dX9_hush_14 ?_
    refine PW.callVR0 C ms_X9_freshAir ml_X9_139 dX9_hush_15 oX_0 ⟨_, _, rfl⟩ (Nat.le_of_ble_eq_true rfl) (by decide) (Nat.le_of_ble_eq_true rfl) (s_X9_freshAir hw) ?_
    clear hw
    intro z6 h5 hw
    obtain ⟨hq7, hw⟩ := hw
    subst hq7
    refine PW.ild1n C dX9_hush_18 ?_
    refine PW.callVJ1 C ms_X0_silentAt ml_X9_192 dX9_hush_19 oX_100 ⟨_, _, rfl⟩ (Nat.le_of_ble_eq_true rfl) (by decide) (Nat.le_of_ble_eq_true rfl) (s_X0_silentAt oX_100 hw) ?_
    clear hw
    intro z9 h8 hw
    refine PW.goto (tgt := 28) C dX9_hush_22 (by decide) ?_
    exact PW.lret C dX9_hush_28 ⟨_, rfl, hw⟩
def w_X9_whose (x1 : Int32) (x2 : Int32) (h : PH) (Q : Int32 → PH → Prop) : Prop :=
  gP h 0 3 ≠ 0 ∧ oX (gP h 0 3 - 1) 8 ∧ w_X6_has ((gP h 0 3 - 1) + 1) x1 h (fun z4 h3 => if z4 = 0 then (Q (-1) h3) else (w_X9_isMinute x2 h3 (fun z6 h5 => if z6 = 0 then (Q (-1) h5) else (w_X9_freshAir h5 (fun z8 h7 => z8 = 100 ∧ w_X0_holder 100 x1 x2 h7 (fun z11 h10 => Q z11 h10))))))
set_option maxRecDepth 8000 in
theorem s_X9_whose {D : va_G} {ca : Nat → ClassId} {ad : Nat → Nat} {l : Launch} {x1 : Int32} {x2 : Int32} {h : PH} {Q : Int32 → PH → Prop} (hw : w_X9_whose x1 x2 h Q) : Sp (GX D ca ad) (XS (GX D ca ad)) l 6 yX9_whose cX9_whose 3 (some .int) [.ref 0, .int x1, .int x2] h (qI Q) := by
  refine Sp.of (own := RX9) [some (.ref 0), some (.int x1), some (.int x2)] (by decide +kernel) rfl rfl (Nat.le_of_ble_eq_true rfl) (fun K hl C => ?_)
  subst hl
  unfold w_X9_whose at hw
  refine PW.ald0n C dX9_whose_0 ?_
  obtain ⟨hz2, hq1, hw⟩ := hw
  refine PW.get0 C cf_9 fl_X9_23 (by decide) oX_0 (fvP rfl hz2) dX9_whose_1 ?_
  refine PW.getN0 C cf_8 fl_X9_115 (by decide) hq1 (fvR (o := 1) rfl) dX9_whose_4 ?_
  refine PW.ild1n C dX9_whose_7 ?_
  refine PW.callVI1 C ms_X6_has ml_X9_125 dX9_whose_8 (sf_8_0 hq1) ⟨_, _, rfl⟩ (Nat.le_of_ble_eq_true rfl) (by decide) (Nat.le_of_ble_eq_true rfl) (s_X6_has (sf_8_0 hq1) hw) ?_
  clear hw
  intro z4 h3 hw
  refine PW.if_eq (tgt := 21) C dX9_whose_11 (by decide) (fun c => ?_) (fun c => ?_)
  · rw [if_pos c] at hw
    refine PW.iconst (v := (-1)) C dX9_whose_21 (by decide) ?_
    exact PW.iret C dX9_whose_22 ⟨_, rfl, hw⟩
  · rw [if_neg c] at hw
    refine PW.ild2n C dX9_whose_14 ?_
    refine PW.callSI1 C ms_X9_isMinute ml_X9_186 dX9_whose_15 (Nat.le_of_ble_eq_true rfl) (by decide) (Nat.le_of_ble_eq_true rfl) (s_X9_isMinute hw) ?_
    clear hw
    intro z6 h5 hw
    refine PW.if_ne (tgt := 23) C dX9_whose_18 (by decide) (fun c => ?_) (fun c => ?_)
    · rw [if_neg c] at hw
      refine PW.ald0n C dX9_whose_23 ?_
      refine PW.callVR0 C ms_X9_freshAir ml_X9_139 dX9_whose_24 oX_0 ⟨_, _, rfl⟩ (Nat.le_of_ble_eq_true rfl) (by decide) (Nat.le_of_ble_eq_true rfl) (s_X9_freshAir hw) ?_
      clear hw
      intro z8 h7 hw
      obtain ⟨hq9, hw⟩ := hw
      subst hq9
      refine PW.ild1n C dX9_whose_27 ?_
      refine PW.ild2n C dX9_whose_28 ?_
      refine PW.callVI2 C ms_X0_holder ml_X9_198 dX9_whose_29 oX_100 ⟨_, _, rfl⟩ (Nat.le_of_ble_eq_true rfl) (by decide) (Nat.le_of_ble_eq_true rfl) (s_X0_holder oX_100 hw) ?_
      clear hw
      intro z11 h10 hw
      exact PW.iret C dX9_whose_32 ⟨_, rfl, hw⟩
    · rw [if_pos c] at hw
      refine PW.iconst (v := (-1)) C dX9_whose_21 (by decide) ?_
      exact PW.iret C dX9_whose_22 ⟨_, rfl, hw⟩
def w_X9_freshPieces (h : PH) (Q : Nat → PH → Prop) : Prop :=
  if (gI h 0 12) = 0 then (w_X9_freshAir h (fun z2 h1 => z2 = 100 ∧ gP h1 0 3 ≠ 0 ∧ oX (gP h1 0 3 - 1) 8 ∧ w_X3_findSpans (gP h1 0 3 - 1) 100 h1 (fun h6 => gP h6 0 3 ≠ 0 ∧ oX (gP h6 0 3 - 1) 8 ∧ w_X3_joinSpans (gP h6 0 3 - 1) h6 (fun h9 => gP h9 0 3 ≠ 0 ∧ oX (gP h9 0 3 - 1) 8 ∧ w_X3_weigh (gP h9 0 3 - 1) 100 h9 (fun h12 => ∀ h13, h13 = sI h12 0 12 1 → Q 112 h13))))) else (Q 112 h)
set_option maxRecDepth 8000 in
theorem s_X9_freshPieces {D : va_G} {ca : Nat → ClassId} {ad : Nat → Nat} {l : Launch} {h : PH} {Q : Nat → PH → Prop} (hw : w_X9_freshPieces h Q) : Sp (GX D ca ad) (XS (GX D ca ad)) l 6 yX9_freshPieces cX9_freshPieces 1 (some (.object "OwnedSilence$Pieces")) [.ref 0] h (qR Q) := by
  refine Sp.of (own := RX9) [some (.ref 0)] (by decide +kernel) rfl rfl (Nat.le_of_ble_eq_true rfl) (fun K hl C => ?_)
  subst hl
  unfold w_X9_freshPieces at hw
  refine PW.ald0n C dX9_freshPieces_0 ?_
  refine PW.get0 C cf_9 fl_X9_402 (by decide) oX_0 (fvI rfl) dX9_freshPieces_1 ?_
  refine PW.if_ne (tgt := 58) C dX9_freshPieces_4 (by decide) (fun c => ?_) (fun c => ?_)
  · rw [if_neg c] at hw
    refine PW.ald0n C dX9_freshPieces_58 ?_
    refine PW.get0 (v := .ref 112) C cf_9 fl_X9_49 (by decide) oX_0 (fvR (o := 112) rfl) dX9_freshPieces_59 ?_
    exact PW.aret C dX9_freshPieces_62 ⟨_, rfl, hw⟩
  · rw [if_pos c] at hw
    refine PW.ald0n C dX9_freshPieces_7 ?_
    refine PW.callVR0 C ms_X9_freshAir ml_X9_139 dX9_freshPieces_8 oX_0 ⟨_, _, rfl⟩ (Nat.le_of_ble_eq_true rfl) (by decide) (Nat.le_of_ble_eq_true rfl) (s_X9_freshAir hw) ?_
    clear hw
    intro z2 h1 hw
    obtain ⟨hq3, hw⟩ := hw
    subst hq3
    refine PW.pop C dX9_freshPieces_11 rfl ?_
    refine PW.ald0n C dX9_freshPieces_12 ?_
    refine PW.get0 (v := .ref 112) C cf_9 fl_X9_49 (by decide) oX_0 (fvR (o := 112) rfl) dX9_freshPieces_13 ?_
    refine PW.ald0n C dX9_freshPieces_16 ?_
    obtain ⟨hz5, hq4, hw⟩ := hw
    refine PW.get0 C cf_9 fl_X9_23 (by decide) oX_0 (fvP rfl hz5) dX9_freshPieces_17 ?_
    refine PW.ald0n C dX9_freshPieces_20 ?_
    refine PW.get0 (v := .ref 100) C cf_9 fl_X9_39 (by decide) oX_0 (fvR (o := 100) rfl) dX9_freshPieces_21 ?_
    refine PW.callVV2 C ms_X3_findSpans ml_X9_405 dX9_freshPieces_24 oX_112 ⟨_, _, rfl⟩ (Nat.le_of_ble_eq_true rfl) (by decide) (Nat.le_of_ble_eq_true rfl) (s_X3_findSpans hq4 oX_100 hw) ?_
    clear hw
    intro h6 hw
    refine PW.ald0n C dX9_freshPieces_27 ?_
    refine PW.get0 (v := .ref 112) C cf_9 fl_X9_49 (by decide) oX_0 (fvR (o := 112) rfl) dX9_freshPieces_28 ?_
    refine PW.ald0n C dX9_freshPieces_31 ?_
    obtain ⟨hz8, hq7, hw⟩ := hw
    refine PW.get0 C cf_9 fl_X9_23 (by decide) oX_0 (fvP rfl hz8) dX9_freshPieces_32 ?_
    refine PW.callVV1 C ms_X3_joinSpans ml_X9_408 dX9_freshPieces_35 oX_112 ⟨_, _, rfl⟩ (Nat.le_of_ble_eq_true rfl) (by decide) (Nat.le_of_ble_eq_true rfl) (s_X3_joinSpans hq7 hw) ?_
    clear hw
    intro h9 hw
    refine PW.ald0n C dX9_freshPieces_38 ?_
    refine PW.get0 (v := .ref 112) C cf_9 fl_X9_49 (by decide) oX_0 (fvR (o := 112) rfl) dX9_freshPieces_39 ?_
    refine PW.ald0n C dX9_freshPieces_42 ?_
    obtain ⟨hz11, hq10, hw⟩ := hw
    refine PW.get0 C cf_9 fl_X9_23 (by decide) oX_0 (fvP rfl hz11) dX9_freshPieces_43 ?_
    refine PW.ald0n C dX9_freshPieces_46 ?_
    refine PW.get0 (v := .ref 100) C cf_9 fl_X9_39 (by decide) oX_0 (fvR (o := 100) rfl) dX9_freshPieces_47 ?_
    refine PW.callVV2 C ms_X3_weigh ml_X9_411 dX9_freshPieces_50 oX_112 ⟨_, _, rfl⟩ (Nat.le_of_ble_eq_true rfl) (by decide) (Nat.le_of_ble_eq_true rfl) (s_X3_weigh hq10 oX_100 hw) ?_
    clear hw
    intro h12 hw
    refine PW.ald0n C dX9_freshPieces_53 ?_
    refine PW.iconst (v := 1) C dX9_freshPieces_54 (by decide) ?_
    replace hw := hw _ rfl
    refine PW.put0 C cf_9 fl_X9_402 (by decide) oX_0 rfl (z_nar (by decide)).1 (z_nar (by decide)).2 (pw_sI oX_0 (by decide) rfl) dX9_freshPieces_55 ?_
    refine PW.ald0n C dX9_freshPieces_58 ?_
    refine PW.get0 (v := .ref 112) C cf_9 fl_X9_49 (by decide) oX_0 (fvR (o := 112) rfl) dX9_freshPieces_59 ?_
    exact PW.aret C dX9_freshPieces_62 ⟨_, rfl, hw⟩
def w_X9_spans (h : PH) (Q : Int32 → PH → Prop) : Prop :=
  w_X9_freshPieces h (fun z2 h1 => z2 = 112 ∧ Q (gI h1 113 3) h1)
set_option maxRecDepth 8000 in
theorem s_X9_spans {D : va_G} {ca : Nat → ClassId} {ad : Nat → Nat} {l : Launch} {h : PH} {Q : Int32 → PH → Prop} (hw : w_X9_spans h Q) : Sp (GX D ca ad) (XS (GX D ca ad)) l 7 yX9_spans cX9_spans 1 (some .int) [.ref 0] h (qI Q) := by
  refine Sp.of (own := RX9) [some (.ref 0)] (by decide +kernel) rfl rfl (Nat.le_of_ble_eq_true rfl) (fun K hl C => ?_)
  subst hl
  unfold w_X9_spans at hw
  refine PW.ald0n C dX9_spans_0 ?_
  refine PW.callVR0 C ms_X9_freshPieces ml_X9_201 dX9_spans_1 oX_0 ⟨_, _, rfl⟩ (Nat.le_of_ble_eq_true rfl) (by decide) (Nat.le_of_ble_eq_true rfl) (s_X9_freshPieces hw) ?_
  clear hw
  intro z2 h1 hw
  obtain ⟨hq3, hw⟩ := hw
  subst hq3
  refine PW.getN0 (v := .ref 113) C cf_3 fl_X9_205 (by decide) oX_112 (fvR (o := 1) rfl) dX9_spans_4 ?_
  refine PW.getN0 C cf_6 fl_X9_208 (by decide) oX_113 (fvI rfl) dX9_spans_7 ?_
  exact PW.iret C dX9_spans_10 ⟨_, rfl, hw⟩
def w_X9_span (x1 : Int32) (x2 : Int32) (h : PH) (Q : Int32 → PH → Prop) : Prop :=
  if x1 < 0 then (Q (-1) h) else (if x2 < 0 then (Q (-1) h) else (if x2 ≤ 3 then (w_X9_freshPieces h (fun z2 h1 => z2 = 112 ∧ w_X6_has 113 x1 h1 (fun z5 h4 => if z5 = 0 then (Q (-2) h4) else (w_X6_at 113 x1 x2 h4 (fun z7 h6 => Q z7 h6))))) else (Q (-1) h)))
set_option maxRecDepth 8000 in
theorem s_X9_span {D : va_G} {ca : Nat → ClassId} {ad : Nat → Nat} {l : Launch} {x1 : Int32} {x2 : Int32} {h : PH} {Q : Int32 → PH → Prop} (hw : w_X9_span x1 x2 h Q) : Sp (GX D ca ad) (XS (GX D ca ad)) l 7 yX9_span cX9_span 4 (some .int) [.ref 0, .int x1, .int x2] h (qI Q) := by
  refine Sp.of (own := RX9) [some (.ref 0), some (.int x1), some (.int x2), none] (by decide +kernel) rfl rfl (Nat.le_of_ble_eq_true rfl) (fun K hl C => ?_)
  subst hl
  unfold w_X9_span at hw
  refine PW.ild1n C dX9_span_0 ?_
  refine PW.if_lt (tgt := 13) C dX9_span_1 (by decide) (fun c => ?_) (fun c => ?_)
  · rw [if_pos c] at hw
    refine PW.iconst (v := (-1)) C dX9_span_13 (by decide) ?_
    exact PW.iret C dX9_span_14 ⟨_, rfl, hw⟩
  · rw [if_neg c] at hw
    refine PW.ild2n C dX9_span_4 ?_
    refine PW.if_lt (tgt := 13) C dX9_span_5 (by decide) (fun c => ?_) (fun c => ?_)
    · rw [if_pos c] at hw
      refine PW.iconst (v := (-1)) C dX9_span_13 (by decide) ?_
      exact PW.iret C dX9_span_14 ⟨_, rfl, hw⟩
    · rw [if_neg c] at hw
      refine PW.ild2n C dX9_span_8 ?_
      refine PW.iconst (v := 3) C dX9_span_9 (by decide) ?_
      refine PW.icmp_le (tgt := 15) C dX9_span_10 (by decide) (fun c => ?_) (fun c => ?_)
      · rw [if_pos c] at hw
        refine PW.ald0n C dX9_span_15 ?_
        refine PW.callVR0 C ms_X9_freshPieces ml_X9_201 dX9_span_16 oX_0 ⟨_, _, rfl⟩ (Nat.le_of_ble_eq_true rfl) (by decide) (Nat.le_of_ble_eq_true rfl) (s_X9_freshPieces hw) ?_
        clear hw
        intro z2 h1 hw
        obtain ⟨hq3, hw⟩ := hw
        subst hq3
        refine PW.getN0 (v := .ref 113) C cf_3 fl_X9_205 (by decide) oX_112 (fvR (o := 1) rfl) dX9_span_19 ?_
        refine PW.ast3n C dX9_span_22 (by decide) rfl ?_
        refine PW.ald3n C dX9_span_23 ?_
        refine PW.ild1n C dX9_span_24 ?_
        refine PW.callVI1 C ms_X6_has ml_X9_125 dX9_span_25 oX_113 ⟨_, _, rfl⟩ (Nat.le_of_ble_eq_true rfl) (by decide) (Nat.le_of_ble_eq_true rfl) (s_X6_has oX_113 hw) ?_
        clear hw
        intro z5 h4 hw
        refine PW.if_eq (tgt := 40) C dX9_span_28 (by decide) (fun c => ?_) (fun c => ?_)
        · rw [if_pos c] at hw
          refine PW.bipush (v := (-2)) C dX9_span_40 (by decide) ?_
          exact PW.iret C dX9_span_42 ⟨_, rfl, hw⟩
        · rw [if_neg c] at hw
          refine PW.ald3n C dX9_span_31 ?_
          refine PW.ild1n C dX9_span_32 ?_
          refine PW.ild2n C dX9_span_33 ?_
          refine PW.callVI2 C ms_X6_at ml_X9_136 dX9_span_34 oX_113 ⟨_, _, rfl⟩ (Nat.le_of_ble_eq_true rfl) (by decide) (Nat.le_of_ble_eq_true rfl) (s_X6_at oX_113 hw) ?_
          clear hw
          intro z7 h6 hw
          refine PW.goto (tgt := 42) C dX9_span_37 (by decide) ?_
          exact PW.iret C dX9_span_42 ⟨_, rfl, hw⟩
      · rw [if_neg c] at hw
        refine PW.iconst (v := (-1)) C dX9_span_13 (by decide) ?_
        exact PW.iret C dX9_span_14 ⟨_, rfl, hw⟩
def w_X9_pieces (h : PH) (Q : Int32 → PH → Prop) : Prop :=
  w_X9_freshPieces h (fun z2 h1 => z2 = 112 ∧ Q (gI h1 115 3) h1)
set_option maxRecDepth 8000 in
theorem s_X9_pieces {D : va_G} {ca : Nat → ClassId} {ad : Nat → Nat} {l : Launch} {h : PH} {Q : Int32 → PH → Prop} (hw : w_X9_pieces h Q) : Sp (GX D ca ad) (XS (GX D ca ad)) l 7 yX9_pieces cX9_pieces 1 (some .int) [.ref 0] h (qI Q) := by
  refine Sp.of (own := RX9) [some (.ref 0)] (by decide +kernel) rfl rfl (Nat.le_of_ble_eq_true rfl) (fun K hl C => ?_)
  subst hl
  unfold w_X9_pieces at hw
  refine PW.ald0n C dX9_pieces_0 ?_
  refine PW.callVR0 C ms_X9_freshPieces ml_X9_201 dX9_pieces_1 oX_0 ⟨_, _, rfl⟩ (Nat.le_of_ble_eq_true rfl) (by decide) (Nat.le_of_ble_eq_true rfl) (s_X9_freshPieces hw) ?_
  clear hw
  intro z2 h1 hw
  obtain ⟨hq3, hw⟩ := hw
  subst hq3
  refine PW.getN0 (v := .ref 115) C cf_3 fl_X9_211 (by decide) oX_112 (fvR (o := 3) rfl) dX9_pieces_4 ?_
  refine PW.getN0 C cf_6 fl_X9_208 (by decide) oX_115 (fvI rfl) dX9_pieces_7 ?_
  exact PW.iret C dX9_pieces_10 ⟨_, rfl, hw⟩
def w_X9_piece (x1 : Int32) (x2 : Int32) (h : PH) (Q : Int32 → PH → Prop) : Prop :=
  if x1 < 0 then (Q (-1) h) else (if x2 < 0 then (Q (-1) h) else (if x2 ≤ 5 then (w_X9_freshPieces h (fun z2 h1 => z2 = 112 ∧ w_X6_has 115 x1 h1 (fun z5 h4 => if z5 = 0 then (Q (-2) h4) else (w_X6_at 115 x1 x2 h4 (fun z7 h6 => Q z7 h6))))) else (Q (-1) h)))
set_option maxRecDepth 8000 in
theorem s_X9_piece {D : va_G} {ca : Nat → ClassId} {ad : Nat → Nat} {l : Launch} {x1 : Int32} {x2 : Int32} {h : PH} {Q : Int32 → PH → Prop} (hw : w_X9_piece x1 x2 h Q) : Sp (GX D ca ad) (XS (GX D ca ad)) l 7 yX9_piece cX9_piece 4 (some .int) [.ref 0, .int x1, .int x2] h (qI Q) := by
  refine Sp.of (own := RX9) [some (.ref 0), some (.int x1), some (.int x2), none] (by decide +kernel) rfl rfl (Nat.le_of_ble_eq_true rfl) (fun K hl C => ?_)
  subst hl
  unfold w_X9_piece at hw
  refine PW.ild1n C dX9_piece_0 ?_
  refine PW.if_lt (tgt := 13) C dX9_piece_1 (by decide) (fun c => ?_) (fun c => ?_)
  · rw [if_pos c] at hw
    refine PW.iconst (v := (-1)) C dX9_piece_13 (by decide) ?_
    exact PW.iret C dX9_piece_14 ⟨_, rfl, hw⟩
  · rw [if_neg c] at hw
    refine PW.ild2n C dX9_piece_4 ?_
    refine PW.if_lt (tgt := 13) C dX9_piece_5 (by decide) (fun c => ?_) (fun c => ?_)
    · rw [if_pos c] at hw
      refine PW.iconst (v := (-1)) C dX9_piece_13 (by decide) ?_
      exact PW.iret C dX9_piece_14 ⟨_, rfl, hw⟩
    · rw [if_neg c] at hw
      refine PW.ild2n C dX9_piece_8 ?_
      refine PW.iconst (v := 5) C dX9_piece_9 (by decide) ?_
      refine PW.icmp_le (tgt := 15) C dX9_piece_10 (by decide) (fun c => ?_) (fun c => ?_)
      · rw [if_pos c] at hw
        refine PW.ald0n C dX9_piece_15 ?_
        refine PW.callVR0 C ms_X9_freshPieces ml_X9_201 dX9_piece_16 oX_0 ⟨_, _, rfl⟩ (Nat.le_of_ble_eq_true rfl) (by decide) (Nat.le_of_ble_eq_true rfl) (s_X9_freshPieces hw) ?_
        clear hw
        intro z2 h1 hw
        obtain ⟨hq3, hw⟩ := hw
        subst hq3
        refine PW.getN0 (v := .ref 115) C cf_3 fl_X9_211 (by decide) oX_112 (fvR (o := 3) rfl) dX9_piece_19 ?_
        refine PW.ast3n C dX9_piece_22 (by decide) rfl ?_
        refine PW.ald3n C dX9_piece_23 ?_
        refine PW.ild1n C dX9_piece_24 ?_
        refine PW.callVI1 C ms_X6_has ml_X9_125 dX9_piece_25 oX_115 ⟨_, _, rfl⟩ (Nat.le_of_ble_eq_true rfl) (by decide) (Nat.le_of_ble_eq_true rfl) (s_X6_has oX_115 hw) ?_
        clear hw
        intro z5 h4 hw
        refine PW.if_eq (tgt := 40) C dX9_piece_28 (by decide) (fun c => ?_) (fun c => ?_)
        · rw [if_pos c] at hw
          refine PW.bipush (v := (-2)) C dX9_piece_40 (by decide) ?_
          exact PW.iret C dX9_piece_42 ⟨_, rfl, hw⟩
        · rw [if_neg c] at hw
          refine PW.ald3n C dX9_piece_31 ?_
          refine PW.ild1n C dX9_piece_32 ?_
          refine PW.ild2n C dX9_piece_33 ?_
          refine PW.callVI2 C ms_X6_at ml_X9_136 dX9_piece_34 oX_115 ⟨_, _, rfl⟩ (Nat.le_of_ble_eq_true rfl) (by decide) (Nat.le_of_ble_eq_true rfl) (s_X6_at oX_115 hw) ?_
          clear hw
          intro z7 h6 hw
          refine PW.goto (tgt := 42) C dX9_piece_37 (by decide) ?_
          exact PW.iret C dX9_piece_42 ⟨_, rfl, hw⟩
      · rw [if_neg c] at hw
        refine PW.iconst (v := (-1)) C dX9_piece_13 (by decide) ?_
        exact PW.iret C dX9_piece_14 ⟨_, rfl, hw⟩
def w_X9_share (x1 : Int32) (x2 : Int32) (h : PH) (Q : Int32 → PH → Prop) : Prop :=
  if x1 < 0 then (Q (-1) h) else (gP h 0 3 ≠ 0 ∧ oX (gP h 0 3 - 1) 8 ∧ w_X6_has ((gP h 0 3 - 1) + 5) x2 h (fun z4 h3 => if z4 = 0 then (Q (-1) h3) else (w_X9_freshPieces h3 (fun z6 h5 => z6 = 112 ∧ w_X6_has 115 x1 h5 (fun z9 h8 => if z9 = 0 then (Q (-2) h8) else (w_X3_minutesOf 100 x1 x2 h8 (fun z11 h10 => Q z11 h10)))))))
set_option maxRecDepth 8000 in
theorem s_X9_share {D : va_G} {ca : Nat → ClassId} {ad : Nat → Nat} {l : Launch} {x1 : Int32} {x2 : Int32} {h : PH} {Q : Int32 → PH → Prop} (hw : w_X9_share x1 x2 h Q) : Sp (GX D ca ad) (XS (GX D ca ad)) l 7 yX9_share cX9_share 3 (some .int) [.ref 0, .int x1, .int x2] h (qI Q) := by
  refine Sp.of (own := RX9) [some (.ref 0), some (.int x1), some (.int x2)] (by decide +kernel) rfl rfl (Nat.le_of_ble_eq_true rfl) (fun K hl C => ?_)
  subst hl
  unfold w_X9_share at hw
  refine PW.ild1n C dX9_share_0 ?_
  refine PW.if_lt (tgt := 18) C dX9_share_1 (by decide) (fun c => ?_) (fun c => ?_)
  · rw [if_pos c] at hw
    refine PW.iconst (v := (-1)) C dX9_share_18 (by decide) ?_
    exact PW.iret C dX9_share_19 ⟨_, rfl, hw⟩
  · rw [if_neg c] at hw
    refine PW.ald0n C dX9_share_4 ?_
    obtain ⟨hz2, hq1, hw⟩ := hw
    refine PW.get0 C cf_9 fl_X9_23 (by decide) oX_0 (fvP rfl hz2) dX9_share_5 ?_
    refine PW.getN0 C cf_8 fl_X9_122 (by decide) hq1 (fvR (o := 5) rfl) dX9_share_8 ?_
    refine PW.ild2n C dX9_share_11 ?_
    refine PW.callVI1 C ms_X6_has ml_X9_125 dX9_share_12 (sf_8_2 hq1) ⟨_, _, rfl⟩ (Nat.le_of_ble_eq_true rfl) (by decide) (Nat.le_of_ble_eq_true rfl) (s_X6_has (sf_8_2 hq1) hw) ?_
    clear hw
    intro z4 h3 hw
    refine PW.if_ne (tgt := 20) C dX9_share_15 (by decide) (fun c => ?_) (fun c => ?_)
    · rw [if_neg c] at hw
      refine PW.ald0n C dX9_share_20 ?_
      refine PW.callVR0 C ms_X9_freshPieces ml_X9_201 dX9_share_21 oX_0 ⟨_, _, rfl⟩ (Nat.le_of_ble_eq_true rfl) (by decide) (Nat.le_of_ble_eq_true rfl) (s_X9_freshPieces hw) ?_
      clear hw
      intro z6 h5 hw
      obtain ⟨hq7, hw⟩ := hw
      subst hq7
      refine PW.getN0 (v := .ref 115) C cf_3 fl_X9_211 (by decide) oX_112 (fvR (o := 3) rfl) dX9_share_24 ?_
      refine PW.ild1n C dX9_share_27 ?_
      refine PW.callVI1 C ms_X6_has ml_X9_125 dX9_share_28 oX_115 ⟨_, _, rfl⟩ (Nat.le_of_ble_eq_true rfl) (by decide) (Nat.le_of_ble_eq_true rfl) (s_X6_has oX_115 hw) ?_
      clear hw
      intro z9 h8 hw
      refine PW.if_ne (tgt := 37) C dX9_share_31 (by decide) (fun c => ?_) (fun c => ?_)
      · rw [if_neg c] at hw
        refine PW.ald0n C dX9_share_37 ?_
        refine PW.get0 (v := .ref 112) C cf_9 fl_X9_49 (by decide) oX_0 (fvR (o := 112) rfl) dX9_share_38 ?_
        refine PW.ald0n C dX9_share_41 ?_
        refine PW.get0 (v := .ref 100) C cf_9 fl_X9_39 (by decide) oX_0 (fvR (o := 100) rfl) dX9_share_42 ?_
        refine PW.ild1n C dX9_share_45 ?_
        refine PW.ild2n C dX9_share_46 ?_
        refine PW.callVI3 C ms_X3_minutesOf ml_X9_214 dX9_share_47 oX_112 ⟨_, _, rfl⟩ (Nat.le_of_ble_eq_true rfl) (by decide) (Nat.le_of_ble_eq_true rfl) (s_X3_minutesOf oX_100 hw) ?_
        clear hw
        intro z11 h10 hw
        exact PW.iret C dX9_share_50 ⟨_, rfl, hw⟩
      · rw [if_pos c] at hw
        refine PW.bipush (v := (-2)) C dX9_share_34 (by decide) ?_
        exact PW.iret C dX9_share_36 ⟨_, rfl, hw⟩
    · rw [if_pos c] at hw
      refine PW.iconst (v := (-1)) C dX9_share_18 (by decide) ?_
      exact PW.iret C dX9_share_19 ⟨_, rfl, hw⟩
def w_X9_part (x1 : Int32) (x2 : Int32) (h : PH) (Q : Int32 → PH → Prop) : Prop :=
  if x1 < 0 then (Q (-1) h) else (gP h 0 3 ≠ 0 ∧ oX (gP h 0 3 - 1) 8 ∧ w_X6_has ((gP h 0 3 - 1) + 5) x2 h (fun z4 h3 => if z4 = 0 then (Q (-1) h3) else (w_X9_freshPieces h3 (fun z6 h5 => z6 = 112 ∧ w_X6_has 115 x1 h5 (fun z9 h8 => if z9 = 0 then (Q (-2) h8) else (gP h8 0 3 ≠ 0 ∧ oX (gP h8 0 3 - 1) 8 ∧ w_X3_partOf (gP h8 0 3 - 1) 100 x1 x2 h8 (fun z13 h12 => Q z13 h12)))))))
set_option maxRecDepth 8000 in
theorem s_X9_part {D : va_G} {ca : Nat → ClassId} {ad : Nat → Nat} {l : Launch} {x1 : Int32} {x2 : Int32} {h : PH} {Q : Int32 → PH → Prop} (hw : w_X9_part x1 x2 h Q) : Sp (GX D ca ad) (XS (GX D ca ad)) l 7 yX9_part cX9_part 3 (some .int) [.ref 0, .int x1, .int x2] h (qI Q) := by
  refine Sp.of (own := RX9) [some (.ref 0), some (.int x1), some (.int x2)] (by decide +kernel) rfl rfl (Nat.le_of_ble_eq_true rfl) (fun K hl C => ?_)
  subst hl
  unfold w_X9_part at hw
  refine PW.ild1n C dX9_part_0 ?_
  refine PW.if_lt (tgt := 18) C dX9_part_1 (by decide) (fun c => ?_) (fun c => ?_)
  · rw [if_pos c] at hw
    refine PW.iconst (v := (-1)) C dX9_part_18 (by decide) ?_
    exact PW.iret C dX9_part_19 ⟨_, rfl, hw⟩
  · rw [if_neg c] at hw
    refine PW.ald0n C dX9_part_4 ?_
    obtain ⟨hz2, hq1, hw⟩ := hw
    refine PW.get0 C cf_9 fl_X9_23 (by decide) oX_0 (fvP rfl hz2) dX9_part_5 ?_
    refine PW.getN0 C cf_8 fl_X9_122 (by decide) hq1 (fvR (o := 5) rfl) dX9_part_8 ?_
    refine PW.ild2n C dX9_part_11 ?_
    refine PW.callVI1 C ms_X6_has ml_X9_125 dX9_part_12 (sf_8_2 hq1) ⟨_, _, rfl⟩ (Nat.le_of_ble_eq_true rfl) (by decide) (Nat.le_of_ble_eq_true rfl) (s_X6_has (sf_8_2 hq1) hw) ?_
    clear hw
    intro z4 h3 hw
    refine PW.if_ne (tgt := 20) C dX9_part_15 (by decide) (fun c => ?_) (fun c => ?_)
    · rw [if_neg c] at hw
      refine PW.ald0n C dX9_part_20 ?_
      refine PW.callVR0 C ms_X9_freshPieces ml_X9_201 dX9_part_21 oX_0 ⟨_, _, rfl⟩ (Nat.le_of_ble_eq_true rfl) (by decide) (Nat.le_of_ble_eq_true rfl) (s_X9_freshPieces hw) ?_
      clear hw
      intro z6 h5 hw
      obtain ⟨hq7, hw⟩ := hw
      subst hq7
      refine PW.getN0 (v := .ref 115) C cf_3 fl_X9_211 (by decide) oX_112 (fvR (o := 3) rfl) dX9_part_24 ?_
      refine PW.ild1n C dX9_part_27 ?_
      refine PW.callVI1 C ms_X6_has ml_X9_125 dX9_part_28 oX_115 ⟨_, _, rfl⟩ (Nat.le_of_ble_eq_true rfl) (by decide) (Nat.le_of_ble_eq_true rfl) (s_X6_has oX_115 hw) ?_
      clear hw
      intro z9 h8 hw
      refine PW.if_ne (tgt := 37) C dX9_part_31 (by decide) (fun c => ?_) (fun c => ?_)
      · rw [if_neg c] at hw
        refine PW.ald0n C dX9_part_37 ?_
        refine PW.get0 (v := .ref 112) C cf_9 fl_X9_49 (by decide) oX_0 (fvR (o := 112) rfl) dX9_part_38 ?_
        refine PW.ald0n C dX9_part_41 ?_
        obtain ⟨hz11, hq10, hw⟩ := hw
        refine PW.get0 C cf_9 fl_X9_23 (by decide) oX_0 (fvP rfl hz11) dX9_part_42 ?_
        refine PW.ald0n C dX9_part_45 ?_
        refine PW.get0 (v := .ref 100) C cf_9 fl_X9_39 (by decide) oX_0 (fvR (o := 100) rfl) dX9_part_46 ?_
        refine PW.ild1n C dX9_part_49 ?_
        refine PW.ild2n C dX9_part_50 ?_
        refine PW.callVI4 C ms_X3_partOf ml_X9_217 dX9_part_51 oX_112 ⟨_, _, rfl⟩ (Nat.le_of_ble_eq_true rfl) (by decide) (Nat.le_of_ble_eq_true rfl) (s_X3_partOf hq10 oX_100 hw) ?_
        clear hw
        intro z13 h12 hw
        exact PW.iret C dX9_part_54 ⟨_, rfl, hw⟩
      · rw [if_pos c] at hw
        refine PW.bipush (v := (-2)) C dX9_part_34 (by decide) ?_
        exact PW.iret C dX9_part_36 ⟨_, rfl, hw⟩
    · rw [if_pos c] at hw
      refine PW.iconst (v := (-1)) C dX9_part_18 (by decide) ?_
      exact PW.iret C dX9_part_19 ⟨_, rfl, hw⟩
def w_X9_leaves (x1 : Int32) (h : PH) (Q : Int32 → PH → Prop) : Prop :=
  if 0 ≤ x1 then (w_X9_freshPieces h (fun z2 h1 => z2 = 112 ∧ w_X6_has 115 x1 h1 (fun z5 h4 => if z5 = 0 then (Q (-2) h4) else (gP h4 0 3 ≠ 0 ∧ oX (gP h4 0 3 - 1) 8 ∧ w_X3_leaversOf (gP h4 0 3 - 1) 100 x1 h4 (fun z9 h8 => Q z9 h8))))) else (Q (-1) h)
set_option maxRecDepth 8000 in
theorem s_X9_leaves {D : va_G} {ca : Nat → ClassId} {ad : Nat → Nat} {l : Launch} {x1 : Int32} {h : PH} {Q : Int32 → PH → Prop} (hw : w_X9_leaves x1 h Q) : Sp (GX D ca ad) (XS (GX D ca ad)) l 7 yX9_leaves cX9_leaves 2 (some .int) [.ref 0, .int x1] h (qI Q) := by
  refine Sp.of (own := RX9) [some (.ref 0), some (.int x1)] (by decide +kernel) rfl rfl (Nat.le_of_ble_eq_true rfl) (fun K hl C => ?_)
  subst hl
  unfold w_X9_leaves at hw
  refine PW.ild1n C dX9_leaves_0 ?_
  refine PW.if_ge (tgt := 6) C dX9_leaves_1 (by decide) (fun c => ?_) (fun c => ?_)
  · rw [if_pos c] at hw
    refine PW.ald0n C dX9_leaves_6 ?_
    refine PW.callVR0 C ms_X9_freshPieces ml_X9_201 dX9_leaves_7 oX_0 ⟨_, _, rfl⟩ (Nat.le_of_ble_eq_true rfl) (by decide) (Nat.le_of_ble_eq_true rfl) (s_X9_freshPieces hw) ?_
    clear hw
    intro z2 h1 hw
    obtain ⟨hq3, hw⟩ := hw
    subst hq3
    refine PW.getN0 (v := .ref 115) C cf_3 fl_X9_211 (by decide) oX_112 (fvR (o := 3) rfl) dX9_leaves_10 ?_
    refine PW.ild1n C dX9_leaves_13 ?_
    refine PW.callVI1 C ms_X6_has ml_X9_125 dX9_leaves_14 oX_115 ⟨_, _, rfl⟩ (Nat.le_of_ble_eq_true rfl) (by decide) (Nat.le_of_ble_eq_true rfl) (s_X6_has oX_115 hw) ?_
    clear hw
    intro z5 h4 hw
    refine PW.if_ne (tgt := 23) C dX9_leaves_17 (by decide) (fun c => ?_) (fun c => ?_)
    · rw [if_neg c] at hw
      refine PW.ald0n C dX9_leaves_23 ?_
      refine PW.get0 (v := .ref 112) C cf_9 fl_X9_49 (by decide) oX_0 (fvR (o := 112) rfl) dX9_leaves_24 ?_
      refine PW.ald0n C dX9_leaves_27 ?_
      obtain ⟨hz7, hq6, hw⟩ := hw
      refine PW.get0 C cf_9 fl_X9_23 (by decide) oX_0 (fvP rfl hz7) dX9_leaves_28 ?_
      refine PW.ald0n C dX9_leaves_31 ?_
      refine PW.get0 (v := .ref 100) C cf_9 fl_X9_39 (by decide) oX_0 (fvR (o := 100) rfl) dX9_leaves_32 ?_
      refine PW.ild1n C dX9_leaves_35 ?_
      refine PW.callVI3 C ms_X3_leaversOf ml_X9_221 dX9_leaves_36 oX_112 ⟨_, _, rfl⟩ (Nat.le_of_ble_eq_true rfl) (by decide) (Nat.le_of_ble_eq_true rfl) (s_X3_leaversOf hq6 oX_100 hw) ?_
      clear hw
      intro z9 h8 hw
      exact PW.iret C dX9_leaves_39 ⟨_, rfl, hw⟩
    · rw [if_pos c] at hw
      refine PW.bipush (v := (-2)) C dX9_leaves_20 (by decide) ?_
      exact PW.iret C dX9_leaves_22 ⟨_, rfl, hw⟩
  · rw [if_neg c] at hw
    refine PW.iconst (v := (-1)) C dX9_leaves_4 (by decide) ?_
    exact PW.iret C dX9_leaves_5 ⟨_, rfl, hw⟩
def w_X9_logged_17 (Q : PH → Prop) (x1 : Int32) (x2 : Int32) (x3 : Int32) (x4 : Int32) (x5 : Int32) (h : PH) : Prop :=
  w_X6_add 135 x1 x2 x3 x4 x5 h (fun z4 h3 => w_X9_changed h3 (fun h5 => Q h5))
set_option maxRecDepth 8000 in
theorem b_X9_logged_17 {D : va_G} {ca : Nat → ClassId} {ad : Nat → Nat} {K : Kt} {Q : PH → Prop} {x1 : Int32} {x2 : Int32} {x3 : Int32} {x4 : Int32} {x5 : Int32} {h : PH} (C : CX (GX D ca ad) (XS (GX D ca ad)) cX9_logged RX9 6 none 4 K) (hw : w_X9_logged_17 Q x1 x2 x3 x4 x5 h) : PW (GX D ca ad) K 6 (qV Q) h 17 [some (.ref 0), some (.int x1), some (.int x2), some (.int x3), some (.int x4), some (.int x5)] [] := by
  unfold w_X9_logged_17 at hw
  refine PW.ald0n C dX9_logged_17 ?_
  refine PW.get0 (v := .ref 135) C cf_9 fl_X9_72 (by decide) oX_0 (fvR (o := 135) rfl) dX9_logged_18 ?_
  refine PW.ild1n C dX9_logged_21 ?_
  refine PW.ild2n C dX9_logged_22 ?_
  refine PW.ild3n C dX9_logged_23 ?_
  refine PW.ild4 C dX9_logged_24 ?_
  refine PW.ild5 C dX9_logged_26 ?_
  refine PW.callVI5 C ms_X6_add ml_X9_225 dX9_logged_28 oX_135 ⟨_, _, rfl⟩ (Nat.le_of_ble_eq_true rfl) (by decide) (Nat.le_of_ble_eq_true rfl) (s_X6_add oX_135 hw) ?_
  clear hw
  intro z4 h3 hw
  refine PW.pop C dX9_logged_31 rfl ?_
  refine PW.ald0n C dX9_logged_32 ?_
  refine PW.callVV0 C ms_X9_changed ml_X9_103 dX9_logged_33 oX_0 ⟨_, _, rfl⟩ (Nat.le_of_ble_eq_true rfl) (by decide) (Nat.le_of_ble_eq_true rfl) (s_X9_changed hw) ?_
  clear hw
  intro h5 hw
  exact PW.vret C dX9_logged_36 ⟨rfl, hw⟩
def w_X9_logged (x1 : Int32) (x2 : Int32) (x3 : Int32) (x4 : Int32) (x5 : Int32) (h : PH) (Q : PH → Prop) : Prop :=
  w_X6_isFull 135 h (fun z2 h1 => if z2 = 0 then (w_X9_logged_17 Q x1 x2 x3 x4 x5 h1) else (w_X6_removeFirst 135 h1 (fun h6 => w_X9_logged_17 Q x1 x2 x3 x4 x5 h6)))
set_option maxRecDepth 8000 in
theorem s_X9_logged {D : va_G} {ca : Nat → ClassId} {ad : Nat → Nat} {l : Launch} {x1 : Int32} {x2 : Int32} {x3 : Int32} {x4 : Int32} {x5 : Int32} {h : PH} {Q : PH → Prop} (hw : w_X9_logged x1 x2 x3 x4 x5 h Q) : Sp (GX D ca ad) (XS (GX D ca ad)) l 4 yX9_logged cX9_logged 6 none [.ref 0, .int x1, .int x2, .int x3, .int x4, .int x5] h (qV Q) := by
  refine Sp.of (own := RX9) [some (.ref 0), some (.int x1), some (.int x2), some (.int x3), some (.int x4), some (.int x5)] (by decide +kernel) rfl rfl (Nat.le_of_ble_eq_true rfl) (fun K hl C => ?_)
  subst hl
  unfold w_X9_logged at hw
  refine PW.ald0n C dX9_logged_0 ?_
  refine PW.get0 (v := .ref 135) C cf_9 fl_X9_72 (by decide) oX_0 (fvR (o := 135) rfl) dX9_logged_1 ?_
  refine PW.callVI0 C ms_X6_isFull ml_X9_385 dX9_logged_4 oX_135 ⟨_, _, rfl⟩ (Nat.le_of_ble_eq_true rfl) (by decide) (Nat.le_of_ble_eq_true rfl) (s_X6_isFull oX_135 hw) ?_
  clear hw
  intro z2 h1 hw
  refine PW.if_eq (tgt := 17) C dX9_logged_7 (by decide) (fun c => ?_) (fun c => ?_)
  · rw [if_pos c] at hw
    exact PW.wk (wk_s (wk_s (wk_s (wk_s (wk_s (wk_s wk_0)))))) (b_X9_logged_17 C hw)
  · rw [if_neg c] at hw
    refine PW.ald0n C dX9_logged_10 ?_
    refine PW.get0 (v := .ref 135) C cf_9 fl_X9_72 (by decide) oX_0 (fvR (o := 135) rfl) dX9_logged_11 ?_
    refine PW.callVV0 C ms_X6_removeFirst ml_X9_389 dX9_logged_14 oX_135 ⟨_, _, rfl⟩ (Nat.le_of_ble_eq_true rfl) (by decide) (Nat.le_of_ble_eq_true rfl) (s_X6_removeFirst oX_135 hw) ?_
    clear hw
    intro h6 hw
    exact PW.wk (wk_s (wk_s (wk_s (wk_s (wk_s (wk_s wk_0)))))) (b_X9_logged_17 C hw)
def w_X9_make (x1 : Int32) (x2 : Int32) (x3 : Int32) (x4 : Int32) (x5 : Int32) (h : PH) (Q : Int32 → PH → Prop) : Prop :=
  gP h 0 3 ≠ 0 ∧ oX (gP h 0 3 - 1) 8 ∧ w_X6_has ((gP h 0 3 - 1) + 1) x1 h (fun z4 h3 => if z4 = 0 then (Q (-1) h3) else (gP h3 0 3 ≠ 0 ∧ oX (gP h3 0 3 - 1) 8 ∧ w_X6_has ((gP h3 0 3 - 1) + 5) x2 h3 (fun z8 h7 => if z8 = 0 then (Q (-1) h7) else (gP h7 0 3 ≠ 0 ∧ oX (gP h7 0 3 - 1) 8 ∧ if (gI h7 ((gP h7 0 3 - 1) + 7) 3) < 12 then (w_X9_isMinute x3 h7 (fun z12 h11 => if z12 = 0 then (Q (-1) h11) else (w_X9_isMinute x4 h11 (fun z14 h13 => if z14 = 0 then (Q (-1) h13) else (if x4 < x3 then (Q (-1) h13) else (if x5 < 1 then (Q (-1) h13) else (if x5 ≤ 20 then (gP h13 0 3 ≠ 0 ∧ oX (gP h13 0 3 - 1) 8 ∧ w_X6_add ((gP h13 0 3 - 1) + 7) x1 x2 x3 x4 x5 h13 (fun z18 h17 => w_X9_logged 0 z18 0 0 0 h17 (fun h19 => Q z18 h19))) else (Q (-1) h13)))))))) else (Q (-1) h7)))))
set_option maxRecDepth 8000 in
theorem s_X9_make {D : va_G} {ca : Nat → ClassId} {ad : Nat → Nat} {l : Launch} {x1 : Int32} {x2 : Int32} {x3 : Int32} {x4 : Int32} {x5 : Int32} {h : PH} {Q : Int32 → PH → Prop} (hw : w_X9_make x1 x2 x3 x4 x5 h Q) : Sp (GX D ca ad) (XS (GX D ca ad)) l 5 yX9_make cX9_make 7 (some .int) [.ref 0, .int x1, .int x2, .int x3, .int x4, .int x5] h (qI Q) := by
  refine Sp.of (own := RX9) [some (.ref 0), some (.int x1), some (.int x2), some (.int x3), some (.int x4), some (.int x5), none] (by decide +kernel) rfl rfl (Nat.le_of_ble_eq_true rfl) (fun K hl C => ?_)
  subst hl
  unfold w_X9_make at hw
  refine PW.ald0n C dX9_make_0 ?_
  obtain ⟨hz2, hq1, hw⟩ := hw
  refine PW.get0 C cf_9 fl_X9_23 (by decide) oX_0 (fvP rfl hz2) dX9_make_1 ?_
  refine PW.getN0 C cf_8 fl_X9_115 (by decide) hq1 (fvR (o := 1) rfl) dX9_make_4 ?_
  refine PW.ild1n C dX9_make_7 ?_
  refine PW.callVI1 C ms_X6_has ml_X9_125 dX9_make_8 (sf_8_0 hq1) ⟨_, _, rfl⟩ (Nat.le_of_ble_eq_true rfl) (by decide) (Nat.le_of_ble_eq_true rfl) (s_X6_has (sf_8_0 hq1) hw) ?_
  clear hw
  intro z4 h3 hw
  refine PW.if_eq (tgt := 43) C dX9_make_11 (by decide) (fun c => ?_) (fun c => ?_)
  · rw [if_pos c] at hw
    refine PW.iconst (v := (-1)) C dX9_make_43 (by decide) ?_
    exact PW.iret C dX9_make_44 ⟨_, rfl, hw⟩
  · rw [if_neg c] at hw
    refine PW.ald0n C dX9_make_14 ?_
    obtain ⟨hz6, hq5, hw⟩ := hw
    refine PW.get0 C cf_9 fl_X9_23 (by decide) oX_0 (fvP rfl hz6) dX9_make_15 ?_
    refine PW.getN0 C cf_8 fl_X9_122 (by decide) hq5 (fvR (o := 5) rfl) dX9_make_18 ?_
    refine PW.ild2n C dX9_make_21 ?_
    refine PW.callVI1 C ms_X6_has ml_X9_125 dX9_make_22 (sf_8_2 hq5) ⟨_, _, rfl⟩ (Nat.le_of_ble_eq_true rfl) (by decide) (Nat.le_of_ble_eq_true rfl) (s_X6_has (sf_8_2 hq5) hw) ?_
    clear hw
    intro z8 h7 hw
    refine PW.if_eq (tgt := 43) C dX9_make_25 (by decide) (fun c => ?_) (fun c => ?_)
    · rw [if_pos c] at hw
      refine PW.iconst (v := (-1)) C dX9_make_43 (by decide) ?_
      exact PW.iret C dX9_make_44 ⟨_, rfl, hw⟩
    · rw [if_neg c] at hw
      refine PW.ald0n C dX9_make_28 ?_
      obtain ⟨hz10, hq9, hw⟩ := hw
      refine PW.get0 C cf_9 fl_X9_23 (by decide) oX_0 (fvP rfl hz10) dX9_make_29 ?_
      refine PW.getN0 C cf_8 fl_X9_156 (by decide) hq9 (fvR (o := 7) rfl) dX9_make_32 ?_
      refine PW.getN0 C cf_6 fl_X9_208 (by decide) (sf_8_3 hq9) (fvI rfl) dX9_make_35 ?_
      refine PW.bipush (v := 12) C dX9_make_38 (by decide) ?_
      refine PW.icmp_lt (tgt := 45) C dX9_make_40 (by decide) (fun c => ?_) (fun c => ?_)
      · rw [if_pos c] at hw
        refine PW.ild3n C dX9_make_45 ?_
        refine PW.callSI1 C ms_X9_isMinute ml_X9_186 dX9_make_46 (Nat.le_of_ble_eq_true rfl) (by decide) (Nat.le_of_ble_eq_true rfl) (s_X9_isMinute hw) ?_
        clear hw
        intro z12 h11 hw
        refine PW.if_eq (tgt := 79) C dX9_make_49 (by decide) (fun c => ?_) (fun c => ?_)
        · rw [if_pos c] at hw
          refine PW.iconst (v := (-1)) C dX9_make_79 (by decide) ?_
          exact PW.iret C dX9_make_80 ⟨_, rfl, hw⟩
        · rw [if_neg c] at hw
          refine PW.ild4 C dX9_make_52 ?_
          refine PW.callSI1 C ms_X9_isMinute ml_X9_186 dX9_make_54 (Nat.le_of_ble_eq_true rfl) (by decide) (Nat.le_of_ble_eq_true rfl) (s_X9_isMinute hw) ?_
          clear hw
          intro z14 h13 hw
          refine PW.if_eq (tgt := 79) C dX9_make_57 (by decide) (fun c => ?_) (fun c => ?_)
          · rw [if_pos c] at hw
            refine PW.iconst (v := (-1)) C dX9_make_79 (by decide) ?_
            exact PW.iret C dX9_make_80 ⟨_, rfl, hw⟩
          · rw [if_neg c] at hw
            refine PW.ild4 C dX9_make_60 ?_
            refine PW.ild3n C dX9_make_62 ?_
            refine PW.icmp_lt (tgt := 79) C dX9_make_63 (by decide) (fun c => ?_) (fun c => ?_)
            · rw [if_pos c] at hw
              refine PW.iconst (v := (-1)) C dX9_make_79 (by decide) ?_
              exact PW.iret C dX9_make_80 ⟨_, rfl, hw⟩
            · rw [if_neg c] at hw
              refine PW.ild5 C dX9_make_66 ?_
              refine PW.iconst (v := 1) C dX9_make_68 (by decide) ?_
              refine PW.icmp_lt (tgt := 79) C dX9_make_69 (by decide) (fun c => ?_) (fun c => ?_)
              · rw [if_pos c] at hw
                refine PW.iconst (v := (-1)) C dX9_make_79 (by decide) ?_
                exact PW.iret C dX9_make_80 ⟨_, rfl, hw⟩
              · rw [if_neg c] at hw
                refine PW.ild5 C dX9_make_72 ?_
                refine PW.bipush (v := 20) C dX9_make_74 (by decide) ?_
                refine PW.icmp_le (tgt := 81) C dX9_make_76 (by decide) (fun c => ?_) (fun c => ?_)
                · rw [if_pos c] at hw
                  refine PW.ald0n C dX9_make_81 ?_
                  obtain ⟨hz16, hq15, hw⟩ := hw
                  refine PW.get0 C cf_9 fl_X9_23 (by decide) oX_0 (fvP rfl hz16) dX9_make_82 ?_
                  refine PW.getN0 C cf_8 fl_X9_156 (by decide) hq15 (fvR (o := 7) rfl) dX9_make_85 ?_
                  refine PW.ild1n C dX9_make_88 ?_
                  refine PW.ild2n C dX9_make_89 ?_
                  refine PW.ild3n C dX9_make_90 ?_
                  refine PW.ild4 C dX9_make_91 ?_
                  refine PW.ild5 C dX9_make_93 ?_
                  refine PW.callVI5 C ms_X6_add ml_X9_225 dX9_make_95 (sf_8_3 hq15) ⟨_, _, rfl⟩ (Nat.le_of_ble_eq_true rfl) (by decide) (Nat.le_of_ble_eq_true rfl) (s_X6_add (sf_8_3 hq15) hw) ?_
                  clear hw
                  intro z18 h17 hw
                  refine PW.ist6 C dX9_make_98 (by decide) rfl ?_
                  refine PW.ald0n C dX9_make_100 ?_
                  refine PW.iconst (v := 0) C dX9_make_101 (by decide) ?_
                  refine PW.ild6 C dX9_make_102 ?_
                  refine PW.iconst (v := 0) C dX9_make_104 (by decide) ?_
                  refine PW.iconst (v := 0) C dX9_make_105 (by decide) ?_
                  refine PW.iconst (v := 0) C dX9_make_106 (by decide) ?_
                  refine PW.callVV5 C ms_X9_logged ml_X9_229 dX9_make_107 oX_0 ⟨_, _, rfl⟩ (Nat.le_of_ble_eq_true rfl) (by decide) (Nat.le_of_ble_eq_true rfl) (s_X9_logged hw) ?_
                  clear hw
                  intro h19 hw
                  refine PW.ild6 C dX9_make_110 ?_
                  exact PW.iret C dX9_make_112 ⟨_, rfl, hw⟩
                · rw [if_neg c] at hw
                  refine PW.iconst (v := (-1)) C dX9_make_79 (by decide) ?_
                  exact PW.iret C dX9_make_80 ⟨_, rfl, hw⟩
      · rw [if_neg c] at hw
        refine PW.iconst (v := (-1)) C dX9_make_43 (by decide) ?_
        exact PW.iret C dX9_make_44 ⟨_, rfl, hw⟩
def w_X9_stop (x1 : Int32) (h : PH) (Q : Int32 → PH → Prop) : Prop :=
  gP h 0 3 ≠ 0 ∧ oX (gP h 0 3 - 1) 8 ∧ w_X6_has ((gP h 0 3 - 1) + 7) x1 h (fun z4 h3 => if z4 = 0 then (Q 0 h3) else (gP h3 0 3 ≠ 0 ∧ oX (gP h3 0 3 - 1) 8 ∧ w_X6_at ((gP h3 0 3 - 1) + 7) x1 5 h3 (fun z8 h7 => if z8 = 0 then (gP h7 0 3 ≠ 0 ∧ oX (gP h7 0 3 - 1) 8 ∧ w_X6_put ((gP h7 0 3 - 1) + 7) x1 5 1 h7 (fun h11 => w_X9_logged 1 x1 0 0 0 h11 (fun h12 => Q 1 h12))) else (Q 0 h7))))
set_option maxRecDepth 8000 in
theorem s_X9_stop {D : va_G} {ca : Nat → ClassId} {ad : Nat → Nat} {l : Launch} {x1 : Int32} {h : PH} {Q : Int32 → PH → Prop} (hw : w_X9_stop x1 h Q) : Sp (GX D ca ad) (XS (GX D ca ad)) l 5 yX9_stop cX9_stop 2 (some .boolean) [.ref 0, .int x1] h (qI Q) := by
  refine Sp.of (own := RX9) [some (.ref 0), some (.int x1)] (by decide +kernel) rfl rfl (Nat.le_of_ble_eq_true rfl) (fun K hl C => ?_)
  subst hl
  unfold w_X9_stop at hw
  refine PW.ald0n C dX9_stop_0 ?_
  obtain ⟨hz2, hq1, hw⟩ := hw
  refine PW.get0 C cf_9 fl_X9_23 (by decide) oX_0 (fvP rfl hz2) dX9_stop_1 ?_
  refine PW.getN0 C cf_8 fl_X9_156 (by decide) hq1 (fvR (o := 7) rfl) dX9_stop_4 ?_
  refine PW.ild1n C dX9_stop_7 ?_
  refine PW.callVI1 C ms_X6_has ml_X9_125 dX9_stop_8 (sf_8_3 hq1) ⟨_, _, rfl⟩ (Nat.le_of_ble_eq_true rfl) (by decide) (Nat.le_of_ble_eq_true rfl) (s_X6_has (sf_8_3 hq1) hw) ?_
  clear hw
  intro z4 h3 hw
  refine PW.if_eq (tgt := 29) C dX9_stop_11 (by decide) (fun c => ?_) (fun c => ?_)
  · rw [if_pos c] at hw
    refine PW.iconst (v := 0) C dX9_stop_29 (by decide) ?_
    exact PW.zret C dX9_stop_30 (by decide) ⟨_, rfl, hw⟩
  · rw [if_neg c] at hw
    refine PW.ald0n C dX9_stop_14 ?_
    obtain ⟨hz6, hq5, hw⟩ := hw
    refine PW.get0 C cf_9 fl_X9_23 (by decide) oX_0 (fvP rfl hz6) dX9_stop_15 ?_
    refine PW.getN0 C cf_8 fl_X9_156 (by decide) hq5 (fvR (o := 7) rfl) dX9_stop_18 ?_
    refine PW.ild1n C dX9_stop_21 ?_
    refine PW.iconst (v := 5) C dX9_stop_22 (by decide) ?_
    refine PW.callVI2 C ms_X6_at ml_X9_136 dX9_stop_23 (sf_8_3 hq5) ⟨_, _, rfl⟩ (Nat.le_of_ble_eq_true rfl) (by decide) (Nat.le_of_ble_eq_true rfl) (s_X6_at (sf_8_3 hq5) hw) ?_
    clear hw
    intro z8 h7 hw
    refine PW.if_eq (tgt := 31) C dX9_stop_26 (by decide) (fun c => ?_) (fun c => ?_)
    · rw [if_pos c] at hw
      refine PW.ald0n C dX9_stop_31 ?_
      obtain ⟨hz10, hq9, hw⟩ := hw
      refine PW.get0 C cf_9 fl_X9_23 (by decide) oX_0 (fvP rfl hz10) dX9_stop_32 ?_
      refine PW.getN0 C cf_8 fl_X9_156 (by decide) hq9 (fvR (o := 7) rfl) dX9_stop_35 ?_
      refine PW.ild1n C dX9_stop_38 ?_
      refine PW.iconst (v := 5) C dX9_stop_39 (by decide) ?_
      refine PW.iconst (v := 1) C dX9_stop_40 (by decide) ?_
      refine PW.callVV3 C ms_X6_put ml_X9_233 dX9_stop_41 (sf_8_3 hq9) ⟨_, _, rfl⟩ (Nat.le_of_ble_eq_true rfl) (by decide) (Nat.le_of_ble_eq_true rfl) (s_X6_put (sf_8_3 hq9) hw) ?_
      clear hw
      intro h11 hw
      refine PW.ald0n C dX9_stop_44 ?_
      refine PW.iconst (v := 1) C dX9_stop_45 (by decide) ?_
      refine PW.ild1n C dX9_stop_46 ?_
      refine PW.iconst (v := 0) C dX9_stop_47 (by decide) ?_
      refine PW.iconst (v := 0) C dX9_stop_48 (by decide) ?_
      refine PW.iconst (v := 0) C dX9_stop_49 (by decide) ?_
      refine PW.callVV5 C ms_X9_logged ml_X9_229 dX9_stop_50 oX_0 ⟨_, _, rfl⟩ (Nat.le_of_ble_eq_true rfl) (by decide) (Nat.le_of_ble_eq_true rfl) (s_X9_logged hw) ?_
      clear hw
      intro h12 hw
      refine PW.iconst (v := 1) C dX9_stop_53 (by decide) ?_
      exact PW.zret C dX9_stop_54 (by decide) ⟨_, rfl, hw⟩
    · rw [if_neg c] at hw
      refine PW.iconst (v := 0) C dX9_stop_29 (by decide) ?_
      exact PW.zret C dX9_stop_30 (by decide) ⟨_, rfl, hw⟩
def w_X9_wall_9 (Q : Int32 → PH → Prop) (x1 : Int32) (s0 : Int32) (h : PH) : Prop :=
  gP h 0 3 ≠ 0 ∧ oX (gP h 0 3 - 1) 8 ∧ w_X6_has ((gP h 0 3 - 1) + 3) x1 h (fun z4 h3 => if z4 = 0 then (Q 0 h3) else (gP h3 0 3 ≠ 0 ∧ oX (gP h3 0 3 - 1) 8 ∧ w_X6_at ((gP h3 0 3 - 1) + 3) x1 3 h3 (fun z8 h7 => if z8 = s0 then (Q 0 h7) else (gP h7 0 3 ≠ 0 ∧ oX (gP h7 0 3 - 1) 8 ∧ w_X6_put ((gP h7 0 3 - 1) + 3) x1 3 s0 h7 (fun h11 => w_X9_logged 2 x1 (1 - s0) 0 0 h11 (fun h12 => Q 1 h12))))))
set_option maxRecDepth 8000 in
theorem b_X9_wall_9 {D : va_G} {ca : Nat → ClassId} {ad : Nat → Nat} {K : Kt} {Q : Int32 → PH → Prop} {x1 : Int32} {s0 : Int32} {h : PH} (C : CX (GX D ca ad) (XS (GX D ca ad)) cX9_wall RX9 4 (some .boolean) 5 K) (hw : w_X9_wall_9 Q x1 s0 h) : PW (GX D ca ad) K 4 (qI Q) h 9 [some (.ref 0), some (.int x1), none, none] [.int s0] := by
  unfold w_X9_wall_9 at hw
  refine PW.ist3n C dX9_wall_9 (by decide) rfl ?_
  refine PW.ald0n C dX9_wall_10 ?_
  obtain ⟨hz2, hq1, hw⟩ := hw
  refine PW.get0 C cf_9 fl_X9_23 (by decide) oX_0 (fvP rfl hz2) dX9_wall_11 ?_
  refine PW.getN0 C cf_8 fl_X9_162 (by decide) hq1 (fvR (o := 3) rfl) dX9_wall_14 ?_
  refine PW.ild1n C dX9_wall_17 ?_
  refine PW.callVI1 C ms_X6_has ml_X9_125 dX9_wall_18 (sf_8_1 hq1) ⟨_, _, rfl⟩ (Nat.le_of_ble_eq_true rfl) (by decide) (Nat.le_of_ble_eq_true rfl) (s_X6_has (sf_8_1 hq1) hw) ?_
  clear hw
  intro z4 h3 hw
  refine PW.if_eq (tgt := 40) C dX9_wall_21 (by decide) (fun c => ?_) (fun c => ?_)
  · rw [if_pos c] at hw
    refine PW.iconst (v := 0) C dX9_wall_40 (by decide) ?_
    exact PW.zret C dX9_wall_41 (by decide) ⟨_, rfl, hw⟩
  · rw [if_neg c] at hw
    refine PW.ald0n C dX9_wall_24 ?_
    obtain ⟨hz6, hq5, hw⟩ := hw
    refine PW.get0 C cf_9 fl_X9_23 (by decide) oX_0 (fvP rfl hz6) dX9_wall_25 ?_
    refine PW.getN0 C cf_8 fl_X9_162 (by decide) hq5 (fvR (o := 3) rfl) dX9_wall_28 ?_
    refine PW.ild1n C dX9_wall_31 ?_
    refine PW.iconst (v := 3) C dX9_wall_32 (by decide) ?_
    refine PW.callVI2 C ms_X6_at ml_X9_136 dX9_wall_33 (sf_8_1 hq5) ⟨_, _, rfl⟩ (Nat.le_of_ble_eq_true rfl) (by decide) (Nat.le_of_ble_eq_true rfl) (s_X6_at (sf_8_1 hq5) hw) ?_
    clear hw
    intro z8 h7 hw
    refine PW.ild3n C dX9_wall_36 ?_
    refine PW.icmp_ne (tgt := 42) C dX9_wall_37 (by decide) (fun c => ?_) (fun c => ?_)
    · rw [if_neg c] at hw
      refine PW.ald0n C dX9_wall_42 ?_
      obtain ⟨hz10, hq9, hw⟩ := hw
      refine PW.get0 C cf_9 fl_X9_23 (by decide) oX_0 (fvP rfl hz10) dX9_wall_43 ?_
      refine PW.getN0 C cf_8 fl_X9_162 (by decide) hq9 (fvR (o := 3) rfl) dX9_wall_46 ?_
      refine PW.ild1n C dX9_wall_49 ?_
      refine PW.iconst (v := 3) C dX9_wall_50 (by decide) ?_
      refine PW.ild3n C dX9_wall_51 ?_
      refine PW.callVV3 C ms_X6_put ml_X9_233 dX9_wall_52 (sf_8_1 hq9) ⟨_, _, rfl⟩ (Nat.le_of_ble_eq_true rfl) (by decide) (Nat.le_of_ble_eq_true rfl) (s_X6_put (sf_8_1 hq9) hw) ?_
      clear hw
      intro h11 hw
      refine PW.ald0n C dX9_wall_55 ?_
      refine PW.iconst (v := 2) C dX9_wall_56 (by decide) ?_
      refine PW.ild1n C dX9_wall_57 ?_
      refine PW.iconst (v := 1) C dX9_wall_58 (by decide) ?_
      refine PW.ild3n C dX9_wall_59 ?_
      refine PW.isub C dX9_wall_60 ?_
      refine PW.iconst (v := 0) C dX9_wall_61 (by decide) ?_
      refine PW.iconst (v := 0) C dX9_wall_62 (by decide) ?_
      refine PW.callVV5 C ms_X9_logged ml_X9_229 dX9_wall_63 oX_0 ⟨_, _, rfl⟩ (Nat.le_of_ble_eq_true rfl) (by decide) (Nat.le_of_ble_eq_true rfl) (s_X9_logged hw) ?_
      clear hw
      intro h12 hw
      refine PW.iconst (v := 1) C dX9_wall_66 (by decide) ?_
      exact PW.zret C dX9_wall_67 (by decide) ⟨_, rfl, hw⟩
    · rw [if_pos c] at hw
      refine PW.iconst (v := 0) C dX9_wall_40 (by decide) ?_
      exact PW.zret C dX9_wall_41 (by decide) ⟨_, rfl, hw⟩
def w_X9_wall (x1 : Int32) (x2 : Int32) (h : PH) (Q : Int32 → PH → Prop) : Prop :=
  if x2 = 0 then (w_X9_wall_9 Q x1 0 h) else (w_X9_wall_9 Q x1 1 h)
set_option maxRecDepth 8000 in
theorem s_X9_wall {D : va_G} {ca : Nat → ClassId} {ad : Nat → Nat} {l : Launch} {x1 : Int32} {x2 : Int32} {h : PH} {Q : Int32 → PH → Prop} (hw : w_X9_wall x1 x2 h Q) : Sp (GX D ca ad) (XS (GX D ca ad)) l 5 yX9_wall cX9_wall 4 (some .boolean) [.ref 0, .int x1, .int x2] h (qI Q) := by
  refine Sp.of (own := RX9) [some (.ref 0), some (.int x1), some (.int x2), none] (by decide +kernel) rfl rfl (Nat.le_of_ble_eq_true rfl) (fun K hl C => ?_)
  subst hl
  unfold w_X9_wall at hw
  refine PW.ild2n C dX9_wall_0 ?_
  refine PW.if_eq (tgt := 8) C dX9_wall_1 (by decide) (fun c => ?_) (fun c => ?_)
  · rw [if_pos c] at hw
    refine PW.iconst (v := 0) C dX9_wall_8 (by decide) ?_
    exact PW.wk (wk_s (wk_s (wk_n (wk_n wk_0)))) (b_X9_wall_9 C hw)
  · rw [if_neg c] at hw
    refine PW.iconst (v := 1) C dX9_wall_4 (by decide) ?_
    refine PW.goto (tgt := 9) C dX9_wall_5 (by decide) ?_
    exact PW.wk (wk_s (wk_s (wk_n (wk_n wk_0)))) (b_X9_wall_9 C hw)
def w_X9_sell (x1 : Int32) (x2 : Int32) (x3 : Int32) (h : PH) (Q : Int32 → PH → Prop) : Prop :=
  gP h 0 3 ≠ 0 ∧ oX (gP h 0 3 - 1) 8 ∧ w_X6_has ((gP h 0 3 - 1) + 9) x1 h (fun z4 h3 => if z4 = 0 then (Q 0 h3) else (gP h3 0 3 ≠ 0 ∧ oX (gP h3 0 3 - 1) 8 ∧ w_X6_has ((gP h3 0 3 - 1) + 5) x2 h3 (fun z8 h7 => if z8 = 0 then (Q 0 h7) else (if x3 < 0 then (Q 0 h7) else (if x3 ≤ 999 then (gP h7 0 3 ≠ 0 ∧ oX (gP h7 0 3 - 1) 8 ∧ w_X6_at ((gP h7 0 3 - 1) + 9) x1 0 h7 (fun z12 h11 => if z12 = x2 then (Q 0 h11) else (gP h11 0 3 ≠ 0 ∧ oX (gP h11 0 3 - 1) 8 ∧ w_X6_at ((gP h11 0 3 - 1) + 5) x2 1 h11 (fun z16 h15 => if x3 ≤ z16 then (gP h15 0 3 ≠ 0 ∧ oX (gP h15 0 3 - 1) 8 ∧ w_X6_put ((gP h15 0 3 - 1) + 9) x1 0 x2 h15 (fun h19 => gP h19 0 3 ≠ 0 ∧ oX (gP h19 0 3 - 1) 8 ∧ w_X8_pay (gP h19 0 3 - 1) x2 z12 x3 h19 (fun h22 => w_X9_logged 3 x1 z12 x2 x3 h22 (fun h23 => Q 1 h23)))) else (Q 0 h15))))) else (Q 0 h7))))))
set_option maxRecDepth 8000 in
theorem s_X9_sell {D : va_G} {ca : Nat → ClassId} {ad : Nat → Nat} {l : Launch} {x1 : Int32} {x2 : Int32} {x3 : Int32} {h : PH} {Q : Int32 → PH → Prop} (hw : w_X9_sell x1 x2 x3 h Q) : Sp (GX D ca ad) (XS (GX D ca ad)) l 5 yX9_sell cX9_sell 5 (some .boolean) [.ref 0, .int x1, .int x2, .int x3] h (qI Q) := by
  refine Sp.of (own := RX9) [some (.ref 0), some (.int x1), some (.int x2), some (.int x3), none] (by decide +kernel) rfl rfl (Nat.le_of_ble_eq_true rfl) (fun K hl C => ?_)
  subst hl
  unfold w_X9_sell at hw
  refine PW.ald0n C dX9_sell_0 ?_
  obtain ⟨hz2, hq1, hw⟩ := hw
  refine PW.get0 C cf_9 fl_X9_23 (by decide) oX_0 (fvP rfl hz2) dX9_sell_1 ?_
  refine PW.getN0 C cf_8 fl_X9_159 (by decide) hq1 (fvR (o := 9) rfl) dX9_sell_4 ?_
  refine PW.ild1n C dX9_sell_7 ?_
  refine PW.callVI1 C ms_X6_has ml_X9_125 dX9_sell_8 (sf_8_4 hq1) ⟨_, _, rfl⟩ (Nat.le_of_ble_eq_true rfl) (by decide) (Nat.le_of_ble_eq_true rfl) (s_X6_has (sf_8_4 hq1) hw) ?_
  clear hw
  intro z4 h3 hw
  refine PW.if_eq (tgt := 39) C dX9_sell_11 (by decide) (fun c => ?_) (fun c => ?_)
  · rw [if_pos c] at hw
    refine PW.iconst (v := 0) C dX9_sell_39 (by decide) ?_
    exact PW.zret C dX9_sell_40 (by decide) ⟨_, rfl, hw⟩
  · rw [if_neg c] at hw
    refine PW.ald0n C dX9_sell_14 ?_
    obtain ⟨hz6, hq5, hw⟩ := hw
    refine PW.get0 C cf_9 fl_X9_23 (by decide) oX_0 (fvP rfl hz6) dX9_sell_15 ?_
    refine PW.getN0 C cf_8 fl_X9_122 (by decide) hq5 (fvR (o := 5) rfl) dX9_sell_18 ?_
    refine PW.ild2n C dX9_sell_21 ?_
    refine PW.callVI1 C ms_X6_has ml_X9_125 dX9_sell_22 (sf_8_2 hq5) ⟨_, _, rfl⟩ (Nat.le_of_ble_eq_true rfl) (by decide) (Nat.le_of_ble_eq_true rfl) (s_X6_has (sf_8_2 hq5) hw) ?_
    clear hw
    intro z8 h7 hw
    refine PW.if_eq (tgt := 39) C dX9_sell_25 (by decide) (fun c => ?_) (fun c => ?_)
    · rw [if_pos c] at hw
      refine PW.iconst (v := 0) C dX9_sell_39 (by decide) ?_
      exact PW.zret C dX9_sell_40 (by decide) ⟨_, rfl, hw⟩
    · rw [if_neg c] at hw
      refine PW.ild3n C dX9_sell_28 ?_
      refine PW.if_lt (tgt := 39) C dX9_sell_29 (by decide) (fun c => ?_) (fun c => ?_)
      · rw [if_pos c] at hw
        refine PW.iconst (v := 0) C dX9_sell_39 (by decide) ?_
        exact PW.zret C dX9_sell_40 (by decide) ⟨_, rfl, hw⟩
      · rw [if_neg c] at hw
        refine PW.ild3n C dX9_sell_32 ?_
        refine PW.sipush (v := 999) C dX9_sell_33 (by decide) ?_
        refine PW.icmp_le (tgt := 41) C dX9_sell_36 (by decide) (fun c => ?_) (fun c => ?_)
        · rw [if_pos c] at hw
          refine PW.ald0n C dX9_sell_41 ?_
          obtain ⟨hz10, hq9, hw⟩ := hw
          refine PW.get0 C cf_9 fl_X9_23 (by decide) oX_0 (fvP rfl hz10) dX9_sell_42 ?_
          refine PW.getN0 C cf_8 fl_X9_159 (by decide) hq9 (fvR (o := 9) rfl) dX9_sell_45 ?_
          refine PW.ild1n C dX9_sell_48 ?_
          refine PW.iconst (v := 0) C dX9_sell_49 (by decide) ?_
          refine PW.callVI2 C ms_X6_at ml_X9_136 dX9_sell_50 (sf_8_4 hq9) ⟨_, _, rfl⟩ (Nat.le_of_ble_eq_true rfl) (by decide) (Nat.le_of_ble_eq_true rfl) (s_X6_at (sf_8_4 hq9) hw) ?_
          clear hw
          intro z12 h11 hw
          refine PW.ist4 C dX9_sell_53 (by decide) rfl ?_
          refine PW.ild4 C dX9_sell_55 ?_
          refine PW.ild2n C dX9_sell_57 ?_
          refine PW.icmp_eq (tgt := 77) C dX9_sell_58 (by decide) (fun c => ?_) (fun c => ?_)
          · rw [if_pos c] at hw
            refine PW.iconst (v := 0) C dX9_sell_77 (by decide) ?_
            exact PW.zret C dX9_sell_78 (by decide) ⟨_, rfl, hw⟩
          · rw [if_neg c] at hw
            refine PW.ald0n C dX9_sell_61 ?_
            obtain ⟨hz14, hq13, hw⟩ := hw
            refine PW.get0 C cf_9 fl_X9_23 (by decide) oX_0 (fvP rfl hz14) dX9_sell_62 ?_
            refine PW.getN0 C cf_8 fl_X9_122 (by decide) hq13 (fvR (o := 5) rfl) dX9_sell_65 ?_
            refine PW.ild2n C dX9_sell_68 ?_
            refine PW.iconst (v := 1) C dX9_sell_69 (by decide) ?_
            refine PW.callVI2 C ms_X6_at ml_X9_136 dX9_sell_70 (sf_8_2 hq13) ⟨_, _, rfl⟩ (Nat.le_of_ble_eq_true rfl) (by decide) (Nat.le_of_ble_eq_true rfl) (s_X6_at (sf_8_2 hq13) hw) ?_
            clear hw
            intro z16 h15 hw
            refine PW.ild3n C dX9_sell_73 ?_
            refine PW.icmp_ge (tgt := 79) C dX9_sell_74 (by decide) (fun c => ?_) (fun c => ?_)
            · rw [if_pos c] at hw
              refine PW.ald0n C dX9_sell_79 ?_
              obtain ⟨hz18, hq17, hw⟩ := hw
              refine PW.get0 C cf_9 fl_X9_23 (by decide) oX_0 (fvP rfl hz18) dX9_sell_80 ?_
              refine PW.getN0 C cf_8 fl_X9_159 (by decide) hq17 (fvR (o := 9) rfl) dX9_sell_83 ?_
              refine PW.ild1n C dX9_sell_86 ?_
              refine PW.iconst (v := 0) C dX9_sell_87 (by decide) ?_
              refine PW.ild2n C dX9_sell_88 ?_
              refine PW.callVV3 C ms_X6_put ml_X9_233 dX9_sell_89 (sf_8_4 hq17) ⟨_, _, rfl⟩ (Nat.le_of_ble_eq_true rfl) (by decide) (Nat.le_of_ble_eq_true rfl) (s_X6_put (sf_8_4 hq17) hw) ?_
              clear hw
              intro h19 hw
              refine PW.ald0n C dX9_sell_92 ?_
              obtain ⟨hz21, hq20, hw⟩ := hw
              refine PW.get0 C cf_9 fl_X9_23 (by decide) oX_0 (fvP rfl hz21) dX9_sell_93 ?_
              refine PW.ild2n C dX9_sell_96 ?_
              refine PW.ild4 C dX9_sell_97 ?_
              refine PW.ild3n C dX9_sell_99 ?_
              refine PW.callVV3 C ms_X8_pay ml_X9_237 dX9_sell_100 hq20 ⟨_, _, rfl⟩ (Nat.le_of_ble_eq_true rfl) (by decide) (Nat.le_of_ble_eq_true rfl) (s_X8_pay hq20 hw) ?_
              clear hw
              intro h22 hw
              refine PW.ald0n C dX9_sell_103 ?_
              refine PW.iconst (v := 3) C dX9_sell_104 (by decide) ?_
              refine PW.ild1n C dX9_sell_105 ?_
              refine PW.ild4 C dX9_sell_106 ?_
              refine PW.ild2n C dX9_sell_108 ?_
              refine PW.ild3n C dX9_sell_109 ?_
              refine PW.callVV5 C ms_X9_logged ml_X9_229 dX9_sell_110 oX_0 ⟨_, _, rfl⟩ (Nat.le_of_ble_eq_true rfl) (by decide) (Nat.le_of_ble_eq_true rfl) (s_X9_logged hw) ?_
              clear hw
              intro h23 hw
              refine PW.iconst (v := 1) C dX9_sell_113 (by decide) ?_
              exact PW.zret C dX9_sell_114 (by decide) ⟨_, rfl, hw⟩
            · rw [if_neg c] at hw
              refine PW.iconst (v := 0) C dX9_sell_77 (by decide) ?_
              exact PW.zret C dX9_sell_78 (by decide) ⟨_, rfl, hw⟩
        · rw [if_neg c] at hw
          refine PW.iconst (v := 0) C dX9_sell_39 (by decide) ?_
          exact PW.zret C dX9_sell_40 (by decide) ⟨_, rfl, hw⟩
def w_X9_go_22 (k64 : PH → Prop) (Q : Int32 → PH → Prop) (x1 : Int32) (kb : Int32 → PH → Prop) (x2 : Int32) (h : PH) : Prop :=
  if x1 ≤ x2 then (k64 h) else (w_X9_freshAir h (fun z4 h3 => z4 = 100 ∧ gP h3 0 3 ≠ 0 ∧ oX (gP h3 0 3 - 1) 8 ∧ gP h3 0 3 ≠ 0 ∧ oX (gP h3 0 3 - 1) 8 ∧ w_X0_fineMinute 100 (gP h3 0 3 - 1) (gI h3 (gP h3 0 3 - 1) 11) h3 (fun h10 => gP h10 0 3 ≠ 0 ∧ oX (gP h10 0 3 - 1) 8 ∧ ∀ h13, h13 = sI h10 (gP h10 0 3 - 1) 11 ((gI h10 (gP h10 0 3 - 1) 11) + 1) → kb (x2 + 1) h13)))
set_option maxRecDepth 8000 in
theorem b_X9_go_22 {D : va_G} {ca : Nat → ClassId} {ad : Nat → Nat} {K : Kt} {k64 : PH → Prop} {kb : Int32 → PH → Prop} {Q : Int32 → PH → Prop} {x1 : Int32} {x2 : Int32} {h : PH} (C : CX (GX D ca ad) (XS (GX D ca ad)) cX9_go RX9 3 (some .int) 7 K) (hk64 : ∀ (h : PH), k64 h → PW (GX D ca ad) K 3 (qI Q) h 64 [some (.ref 0), some (.int x1), none] []) (hkb : ∀ (x2 : Int32) (h : PH), kb x2 h → PW (GX D ca ad) K 3 (qI Q) h 22 [some (.ref 0), some (.int x1), some (.int x2)] []) (hw : w_X9_go_22 k64 Q x1 kb x2 h) : PW (GX D ca ad) K 3 (qI Q) h 22 [some (.ref 0), some (.int x1), some (.int x2)] [] := by
  unfold w_X9_go_22 at hw
  refine PW.ild2n C dX9_go_22 ?_
  refine PW.ild1n C dX9_go_23 ?_
  refine PW.icmp_ge (tgt := 64) C dX9_go_24 (by decide) (fun c => ?_) (fun c => ?_)
  · rw [if_pos c] at hw
    exact PW.wk (wk_s (wk_s (wk_n wk_0))) (hk64 _ hw)
  · rw [if_neg c] at hw
    refine PW.ald0n C dX9_go_27 ?_
    refine PW.callVR0 C ms_X9_freshAir ml_X9_139 dX9_go_28 oX_0 ⟨_, _, rfl⟩ (Nat.le_of_ble_eq_true rfl) (by decide) (Nat.le_of_ble_eq_true rfl) (s_X9_freshAir hw) ?_
    clear hw
    intro z4 h3 hw
    obtain ⟨hq5, hw⟩ := hw
    subst hq5
    refine PW.ald0n C dX9_go_31 ?_
    obtain ⟨hz7, hq6, hw⟩ := hw
    refine PW.get0 C cf_9 fl_X9_23 (by decide) oX_0 (fvP rfl hz7) dX9_go_32 ?_
    refine PW.ald0n C dX9_go_35 ?_
    obtain ⟨hz9, hq8, hw⟩ := hw
    refine PW.get0 C cf_9 fl_X9_23 (by decide) oX_0 (fvP rfl hz9) dX9_go_36 ?_
    refine PW.getN0 C cf_8 fl_X9_240 (by decide) hq8 (fvI rfl) dX9_go_39 ?_
    refine PW.callVV2 C ms_X0_fineMinute ml_X9_243 dX9_go_42 oX_100 ⟨_, _, rfl⟩ (Nat.le_of_ble_eq_true rfl) (by decide) (Nat.le_of_ble_eq_true rfl) (s_X0_fineMinute oX_100 hq6 hw) ?_
    clear hw
    intro h10 hw
    refine PW.ald0n C dX9_go_45 ?_
    obtain ⟨hz12, hq11, hw⟩ := hw
    refine PW.get0 C cf_9 fl_X9_23 (by decide) oX_0 (fvP rfl hz12) dX9_go_46 ?_
    refine PW.dup C dX9_go_49 rfl ?_
    refine PW.getN0 C cf_8 fl_X9_240 (by decide) hq11 (fvI rfl) dX9_go_50 ?_
    refine PW.iconst (v := 1) C dX9_go_53 (by decide) ?_
    refine PW.iadd C dX9_go_54 ?_
    replace hw := hw _ rfl
    refine PW.putN0 C cf_8 fl_X9_240 (by decide) hq11 rfl rfl rfl (pw_sI hq11 (by decide) rfl) dX9_go_55 ?_
    refine PW.inc2 (v := 1) C dX9_go_58 (by decide) rfl (by decide) ?_
    refine PW.goto (tgt := 22) C dX9_go_61 (by decide) ?_
    exact PW.wk (wk_s (wk_s (wk_s wk_0))) (hkb _ _ hw)
theorem l_X9_go_22 {D : va_G} {ca : Nat → ClassId} {ad : Nat → Nat} {K : Kt} {k64 : PH → Prop} {Q : Int32 → PH → Prop} {x1 : Int32} (C : CX (GX D ca ad) (XS (GX D ca ad)) cX9_go RX9 3 (some .int) 7 K) (hk64 : ∀ (h : PH), k64 h → PW (GX D ca ad) K 3 (qI Q) h 64 [some (.ref 0), some (.int x1), none] []) : ∀ (n : Nat) (x2 : Int32) (h : PH), Lp1 (w_X9_go_22 k64 Q x1) n x2 h → PW (GX D ca ad) K 3 (qI Q) h 22 [some (.ref 0), some (.int x1), some (.int x2)] [] := by
  intro n
  induction n with
  | zero => intro x2 h hw; exact hw.elim
  | succ n ih => intro x2 h hw; exact b_X9_go_22 C hk64 (fun x2 h hw => ih x2 h hw) hw
def w_X9_go_75 (Q : Int32 → PH → Prop) (h : PH) : Prop :=
  gP h 0 3 ≠ 0 ∧ oX (gP h 0 3 - 1) 8 ∧ Q (gI h (gP h 0 3 - 1) 11) h
set_option maxRecDepth 8000 in
theorem b_X9_go_75 {D : va_G} {ca : Nat → ClassId} {ad : Nat → Nat} {K : Kt} {Q : Int32 → PH → Prop} {h : PH} (C : CX (GX D ca ad) (XS (GX D ca ad)) cX9_go RX9 3 (some .int) 7 K) (hw : w_X9_go_75 Q h) : PW (GX D ca ad) K 3 (qI Q) h 75 [some (.ref 0), none, none] [] := by
  unfold w_X9_go_75 at hw
  refine PW.ald0n C dX9_go_75 ?_
  obtain ⟨hz16, hq15, hw⟩ := hw
  refine PW.get0 C cf_9 fl_X9_23 (by decide) oX_0 (fvP rfl hz16) dX9_go_76 ?_
  refine PW.getN0 C cf_8 fl_X9_240 (by decide) hq15 (fvI rfl) dX9_go_79 ?_
  exact PW.iret C dX9_go_82 ⟨_, rfl, hw⟩
def w_X9_go (x1 : Int32) (h : PH) (Q : Int32 → PH → Prop) : Prop :=
  if x1 < 0 then (Q (-1) h) else (gP h 0 3 ≠ 0 ∧ oX (gP h 0 3 - 1) 8 ∧ if x1 ≤ (48 - (gI h (gP h 0 3 - 1) 11)) then (∃ n, Lp1 (w_X9_go_22 (fun h14 => if x1 ≤ 0 then (w_X9_go_75 Q h14) else (w_X6_clear 135 h14 (fun h17 => w_X9_go_75 Q h17))) Q x1) n 0 h) else (Q (-1) h))
set_option maxRecDepth 8000 in
theorem s_X9_go {D : va_G} {ca : Nat → ClassId} {ad : Nat → Nat} {l : Launch} {x1 : Int32} {h : PH} {Q : Int32 → PH → Prop} (hw : w_X9_go x1 h Q) : Sp (GX D ca ad) (XS (GX D ca ad)) l 7 yX9_go cX9_go 3 (some .int) [.ref 0, .int x1] h (qI Q) := by
  refine Sp.of (own := RX9) [some (.ref 0), some (.int x1), none] (by decide +kernel) rfl rfl (Nat.le_of_ble_eq_true rfl) (fun K hl C => ?_)
  subst hl
  unfold w_X9_go at hw
  refine PW.ild1n C dX9_go_0 ?_
  refine PW.if_lt (tgt := 18) C dX9_go_1 (by decide) (fun c => ?_) (fun c => ?_)
  · rw [if_pos c] at hw
    refine PW.iconst (v := (-1)) C dX9_go_18 (by decide) ?_
    exact PW.iret C dX9_go_19 ⟨_, rfl, hw⟩
  · rw [if_neg c] at hw
    refine PW.ild1n C dX9_go_4 ?_
    refine PW.bipush (v := 48) C dX9_go_5 (by decide) ?_
    refine PW.ald0n C dX9_go_7 ?_
    obtain ⟨hz2, hq1, hw⟩ := hw
    refine PW.get0 C cf_9 fl_X9_23 (by decide) oX_0 (fvP rfl hz2) dX9_go_8 ?_
    refine PW.getN0 C cf_8 fl_X9_240 (by decide) hq1 (fvI rfl) dX9_go_11 ?_
    refine PW.isub C dX9_go_14 ?_
    refine PW.icmp_le (tgt := 20) C dX9_go_15 (by decide) (fun c => ?_) (fun c => ?_)
    · rw [if_pos c] at hw
      refine PW.iconst (v := 0) C dX9_go_20 (by decide) ?_
      refine PW.ist2n C dX9_go_21 (by decide) rfl ?_
      obtain ⟨n, hw⟩ := hw
      refine PW.wk (wk_s (wk_s (wk_s wk_0))) (l_X9_go_22 C ?_ n _ _ hw)
      · intro h14 hw
        refine PW.ild1n C dX9_go_64 ?_
        refine PW.if_le (tgt := 75) C dX9_go_65 (by decide) (fun c => ?_) (fun c => ?_)
        · rw [if_pos c] at hw
          exact PW.wk (wk_s (wk_n (wk_n wk_0))) (b_X9_go_75 C hw)
        · rw [if_neg c] at hw
          refine PW.ald0n C dX9_go_68 ?_
          refine PW.get0 (v := .ref 135) C cf_9 fl_X9_72 (by decide) oX_0 (fvR (o := 135) rfl) dX9_go_69 ?_
          refine PW.callVV0 C ms_X6_clear ml_X9_102 dX9_go_72 oX_135 ⟨_, _, rfl⟩ (Nat.le_of_ble_eq_true rfl) (by decide) (Nat.le_of_ble_eq_true rfl) (s_X6_clear oX_135 hw) ?_
          clear hw
          intro h17 hw
          exact PW.wk (wk_s (wk_n (wk_n wk_0))) (b_X9_go_75 C hw)
    · rw [if_neg c] at hw
      refine PW.iconst (v := (-1)) C dX9_go_18 (by decide) ?_
      exact PW.iret C dX9_go_19 ⟨_, rfl, hw⟩
def w_X9_plan (h : PH) (Q : Int32 → PH → Prop) : Prop :=
  gP h 0 3 ≠ 0 ∧ oX (gP h 0 3 - 1) 8 ∧ w_X9_freshAir h (fun z4 h3 => z4 = 100 ∧ w_X4_search (gP h 0 3 - 1) 100 h3 (fun h6 => Q (gI h6 122 6) h6))
set_option maxRecDepth 8000 in
theorem s_X9_plan {D : va_G} {ca : Nat → ClassId} {ad : Nat → Nat} {l : Launch} {h : PH} {Q : Int32 → PH → Prop} (hw : w_X9_plan h Q) : Sp (GX D ca ad) (XS (GX D ca ad)) l 7 yX9_plan cX9_plan 1 (some .int) [.ref 0] h (qI Q) := by
  refine Sp.of (own := RX9) [some (.ref 0)] (by decide +kernel) rfl rfl (Nat.le_of_ble_eq_true rfl) (fun K hl C => ?_)
  subst hl
  unfold w_X9_plan at hw
  refine PW.ald0n C dX9_plan_0 ?_
  refine PW.get0 (v := .ref 122) C cf_9 fl_X9_56 (by decide) oX_0 (fvR (o := 122) rfl) dX9_plan_1 ?_
  refine PW.ald0n C dX9_plan_4 ?_
  obtain ⟨hz2, hq1, hw⟩ := hw
  refine PW.get0 C cf_9 fl_X9_23 (by decide) oX_0 (fvP rfl hz2) dX9_plan_5 ?_
  refine PW.ald0n C dX9_plan_8 ?_
  refine PW.callVR0 C ms_X9_freshAir ml_X9_139 dX9_plan_9 oX_0 ⟨_, _, rfl⟩ (Nat.le_of_ble_eq_true rfl) (by decide) (Nat.le_of_ble_eq_true rfl) (s_X9_freshAir hw) ?_
  clear hw
  intro z4 h3 hw
  obtain ⟨hq5, hw⟩ := hw
  subst hq5
  refine PW.callVV2 C ms_X4_search ml_X9_247 dX9_plan_12 oX_122 ⟨_, _, rfl⟩ (Nat.le_of_ble_eq_true rfl) (by decide) (Nat.le_of_ble_eq_true rfl) (s_X4_search hq1 oX_100 hw) ?_
  clear hw
  intro h6 hw
  refine PW.ald0n C dX9_plan_15 ?_
  refine PW.get0 (v := .ref 122) C cf_9 fl_X9_56 (by decide) oX_0 (fvR (o := 122) rfl) dX9_plan_16 ?_
  refine PW.getN0 C cf_4 fl_X9_251 (by decide) oX_122 (fvI rfl) dX9_plan_19 ?_
  exact PW.iret C dX9_plan_22 ⟨_, rfl, hw⟩
def w_X9_planned (x1 : Int32) (x2 : Int32) (h : PH) (Q : Int32 → PH → Prop) : Prop :=
  if x1 < 0 then (Q (-1) h) else (if x2 < 0 then (Q (-1) h) else (if x2 ≤ 1 then (gP h 0 3 ≠ 0 ∧ oX (gP h 0 3 - 1) 8 ∧ w_X9_freshAir h (fun z4 h3 => z4 = 100 ∧ w_X4_search (gP h 0 3 - 1) 100 h3 (fun h6 => if (gI h6 122 6) < 0 then (Q (-2) h6) else (gP h6 0 3 ≠ 0 ∧ oX (gP h6 0 3 - 1) 8 ∧ if x1 < (gI h6 ((gP h6 0 3 - 1) + 13) 3) then (if x2 = 0 then (w_X4_taskAt x1 h6 (fun z12 h11 => Q z12 h11)) else (w_X4_startAt x1 h6 (fun z10 h9 => Q z10 h9))) else (Q (-2) h6))))) else (Q (-1) h)))
set_option maxRecDepth 8000 in
theorem s_X9_planned {D : va_G} {ca : Nat → ClassId} {ad : Nat → Nat} {l : Launch} {x1 : Int32} {x2 : Int32} {h : PH} {Q : Int32 → PH → Prop} (hw : w_X9_planned x1 x2 h Q) : Sp (GX D ca ad) (XS (GX D ca ad)) l 7 yX9_planned cX9_planned 3 (some .int) [.ref 0, .int x1, .int x2] h (qI Q) := by
  refine Sp.of (own := RX9) [some (.ref 0), some (.int x1), some (.int x2)] (by decide +kernel) rfl rfl (Nat.le_of_ble_eq_true rfl) (fun K hl C => ?_)
  subst hl
  unfold w_X9_planned at hw
  refine PW.ild1n C dX9_planned_0 ?_
  refine PW.if_lt (tgt := 13) C dX9_planned_1 (by decide) (fun c => ?_) (fun c => ?_)
  · rw [if_pos c] at hw
    refine PW.iconst (v := (-1)) C dX9_planned_13 (by decide) ?_
    exact PW.iret C dX9_planned_14 ⟨_, rfl, hw⟩
  · rw [if_neg c] at hw
    refine PW.ild2n C dX9_planned_4 ?_
    refine PW.if_lt (tgt := 13) C dX9_planned_5 (by decide) (fun c => ?_) (fun c => ?_)
    · rw [if_pos c] at hw
      refine PW.iconst (v := (-1)) C dX9_planned_13 (by decide) ?_
      exact PW.iret C dX9_planned_14 ⟨_, rfl, hw⟩
    · rw [if_neg c] at hw
      refine PW.ild2n C dX9_planned_8 ?_
      refine PW.iconst (v := 1) C dX9_planned_9 (by decide) ?_
      refine PW.icmp_le (tgt := 15) C dX9_planned_10 (by decide) (fun c => ?_) (fun c => ?_)
      · rw [if_pos c] at hw
        refine PW.ald0n C dX9_planned_15 ?_
        refine PW.get0 (v := .ref 122) C cf_9 fl_X9_56 (by decide) oX_0 (fvR (o := 122) rfl) dX9_planned_16 ?_
        refine PW.ald0n C dX9_planned_19 ?_
        obtain ⟨hz2, hq1, hw⟩ := hw
        refine PW.get0 C cf_9 fl_X9_23 (by decide) oX_0 (fvP rfl hz2) dX9_planned_20 ?_
        refine PW.ald0n C dX9_planned_23 ?_
        refine PW.callVR0 C ms_X9_freshAir ml_X9_139 dX9_planned_24 oX_0 ⟨_, _, rfl⟩ (Nat.le_of_ble_eq_true rfl) (by decide) (Nat.le_of_ble_eq_true rfl) (s_X9_freshAir hw) ?_
        clear hw
        intro z4 h3 hw
        obtain ⟨hq5, hw⟩ := hw
        subst hq5
        refine PW.callVV2 C ms_X4_search ml_X9_247 dX9_planned_27 oX_122 ⟨_, _, rfl⟩ (Nat.le_of_ble_eq_true rfl) (by decide) (Nat.le_of_ble_eq_true rfl) (s_X4_search hq1 oX_100 hw) ?_
        clear hw
        intro h6 hw
        refine PW.ald0n C dX9_planned_30 ?_
        refine PW.get0 (v := .ref 122) C cf_9 fl_X9_56 (by decide) oX_0 (fvR (o := 122) rfl) dX9_planned_31 ?_
        refine PW.getN0 C cf_4 fl_X9_251 (by decide) oX_122 (fvI rfl) dX9_planned_34 ?_
        refine PW.if_lt (tgt := 54) C dX9_planned_37 (by decide) (fun c => ?_) (fun c => ?_)
        · rw [if_pos c] at hw
          refine PW.bipush (v := (-2)) C dX9_planned_54 (by decide) ?_
          exact PW.iret C dX9_planned_56 ⟨_, rfl, hw⟩
        · rw [if_neg c] at hw
          refine PW.ild1n C dX9_planned_40 ?_
          refine PW.ald0n C dX9_planned_41 ?_
          obtain ⟨hz8, hq7, hw⟩ := hw
          refine PW.get0 C cf_9 fl_X9_23 (by decide) oX_0 (fvP rfl hz8) dX9_planned_42 ?_
          refine PW.getN0 C cf_8 fl_X9_254 (by decide) hq7 (fvR (o := 13) rfl) dX9_planned_45 ?_
          refine PW.getN0 C cf_6 fl_X9_208 (by decide) (sf_8_6 hq7) (fvI rfl) dX9_planned_48 ?_
          refine PW.icmp_lt (tgt := 57) C dX9_planned_51 (by decide) (fun c => ?_) (fun c => ?_)
          · rw [if_pos c] at hw
            refine PW.ild2n C dX9_planned_57 ?_
            refine PW.if_ne (tgt := 72) C dX9_planned_58 (by decide) (fun c => ?_) (fun c => ?_)
            · rw [if_neg c] at hw
              refine PW.ald0n C dX9_planned_72 ?_
              refine PW.get0 (v := .ref 122) C cf_9 fl_X9_56 (by decide) oX_0 (fvR (o := 122) rfl) dX9_planned_73 ?_
              refine PW.ild1n C dX9_planned_76 ?_
              refine PW.callVI1 C ms_X4_startAt ml_X9_260 dX9_planned_77 oX_122 ⟨_, _, rfl⟩ (Nat.le_of_ble_eq_true rfl) (by decide) (Nat.le_of_ble_eq_true rfl) (s_X4_startAt hw) ?_
              clear hw
              intro z10 h9 hw
              exact PW.iret C dX9_planned_80 ⟨_, rfl, hw⟩
            · rw [if_pos c] at hw
              refine PW.ald0n C dX9_planned_61 ?_
              refine PW.get0 (v := .ref 122) C cf_9 fl_X9_56 (by decide) oX_0 (fvR (o := 122) rfl) dX9_planned_62 ?_
              refine PW.ild1n C dX9_planned_65 ?_
              refine PW.callVI1 C ms_X4_taskAt ml_X9_257 dX9_planned_66 oX_122 ⟨_, _, rfl⟩ (Nat.le_of_ble_eq_true rfl) (by decide) (Nat.le_of_ble_eq_true rfl) (s_X4_taskAt hw) ?_
              clear hw
              intro z12 h11 hw
              refine PW.goto (tgt := 80) C dX9_planned_69 (by decide) ?_
              exact PW.iret C dX9_planned_80 ⟨_, rfl, hw⟩
          · rw [if_neg c] at hw
            refine PW.bipush (v := (-2)) C dX9_planned_54 (by decide) ?_
            exact PW.iret C dX9_planned_56 ⟨_, rfl, hw⟩
      · rw [if_neg c] at hw
        refine PW.iconst (v := (-1)) C dX9_planned_13 (by decide) ?_
        exact PW.iret C dX9_planned_14 ⟨_, rfl, hw⟩
def w_X9_buildOnTrial_49 (Q : Int32 → PH → Prop) (kb : Int32 → PH → Prop) (x1 : Int32) (x2 : Int32) (x3 : Int32) (x4 : Int32) (h : PH) : Prop :=
  w_X6_put 80 x2 3 (x3 + x4) h (fun h8 => kb (x2 + 1) h8)
set_option maxRecDepth 8000 in
theorem b_X9_buildOnTrial_49 {D : va_G} {ca : Nat → ClassId} {ad : Nat → Nat} {K : Kt} {kb : Int32 → PH → Prop} {Q : Int32 → PH → Prop} {x1 : Int32} {x2 : Int32} {x3 : Int32} {x4 : Int32} {h : PH} (C : CX (GX D ca ad) (XS (GX D ca ad)) cX9_buildOnTrial RX9 5 (some .boolean) 3 K) (hkb : ∀ (x2 : Int32) (h : PH), kb x2 h → PW (GX D ca ad) K 5 (qI Q) h 2 [some (.ref 0), some (.int x1), some (.int x2), none, none] []) (hw : w_X9_buildOnTrial_49 Q kb x1 x2 x3 x4 h) : PW (GX D ca ad) K 5 (qI Q) h 49 [some (.ref 0), some (.int x1), some (.int x2), some (.int x3), some (.int x4)] [] := by
  unfold w_X9_buildOnTrial_49 at hw
  refine PW.ald0n C dX9_buildOnTrial_49 ?_
  refine PW.get0 (v := .ref 77) C cf_9 fl_X9_33 (by decide) oX_0 (fvR (o := 77) rfl) dX9_buildOnTrial_50 ?_
  refine PW.getN0 (v := .ref 80) C cf_8 fl_X9_162 (by decide) oX_77 (fvR (o := 3) rfl) dX9_buildOnTrial_53 ?_
  refine PW.ild2n C dX9_buildOnTrial_56 ?_
  refine PW.iconst (v := 3) C dX9_buildOnTrial_57 (by decide) ?_
  refine PW.ild3n C dX9_buildOnTrial_58 ?_
  refine PW.ild4 C dX9_buildOnTrial_59 ?_
  refine PW.iadd C dX9_buildOnTrial_61 ?_
  refine PW.callVV3 C ms_X6_put ml_X9_233 dX9_buildOnTrial_62 oX_80 ⟨_, _, rfl⟩ (Nat.le_of_ble_eq_true rfl) (by decide) (Nat.le_of_ble_eq_true rfl) (s_X6_put oX_80 hw) ?_
  clear hw
  intro h8 hw
  refine PW.inc2 (v := 1) C dX9_buildOnTrial_65 (by decide) rfl (by decide) ?_
  refine PW.goto (tgt := 2) C dX9_buildOnTrial_68 (by decide) ?_
  exact PW.wk (wk_s (wk_s (wk_s (wk_n (wk_n wk_0))))) (hkb _ _ hw)
def w_X9_buildOnTrial_2 (k47 : PH → Prop) (k71 : PH → Prop) (Q : Int32 → PH → Prop) (x1 : Int32) (kb : Int32 → PH → Prop) (x2 : Int32) (h : PH) : Prop :=
  gP h 0 3 ≠ 0 ∧ oX (gP h 0 3 - 1) 8 ∧ if (gI h ((gP h 0 3 - 1) + 3) 3) ≤ x2 then (k71 h) else (gP h 0 3 ≠ 0 ∧ oX (gP h 0 3 - 1) 8 ∧ w_X6_at ((gP h 0 3 - 1) + 3) x2 3 h (fun z6 h5 => ∀ (y7 : Int32), y7 = (((x1 : Int32) >>> ((x2 : Int32) &&& 31)) &&& 1) → if z6 = 1 then (if y7 = 1 then (k47 h5) else (w_X9_buildOnTrial_49 Q kb x1 x2 z6 y7 h5)) else (w_X9_buildOnTrial_49 Q kb x1 x2 z6 y7 h5)))
set_option maxRecDepth 8000 in
theorem b_X9_buildOnTrial_2 {D : va_G} {ca : Nat → ClassId} {ad : Nat → Nat} {K : Kt} {k47 : PH → Prop} {k71 : PH → Prop} {kb : Int32 → PH → Prop} {Q : Int32 → PH → Prop} {x1 : Int32} {x2 : Int32} {h : PH} (C : CX (GX D ca ad) (XS (GX D ca ad)) cX9_buildOnTrial RX9 5 (some .boolean) 3 K) (hk47 : ∀ (h : PH), k47 h → PW (GX D ca ad) K 5 (qI Q) h 47 [none, none, none, none, none] []) (hk71 : ∀ (h : PH), k71 h → PW (GX D ca ad) K 5 (qI Q) h 71 [none, none, none, none, none] []) (hkb : ∀ (x2 : Int32) (h : PH), kb x2 h → PW (GX D ca ad) K 5 (qI Q) h 2 [some (.ref 0), some (.int x1), some (.int x2), none, none] []) (hw : w_X9_buildOnTrial_2 k47 k71 Q x1 kb x2 h) : PW (GX D ca ad) K 5 (qI Q) h 2 [some (.ref 0), some (.int x1), some (.int x2), none, none] [] := by
  unfold w_X9_buildOnTrial_2 at hw
  refine PW.ild2n C dX9_buildOnTrial_2 ?_
  refine PW.ald0n C dX9_buildOnTrial_3 ?_
  obtain ⟨hz2, hq1, hw⟩ := hw
  refine PW.get0 C cf_9 fl_X9_23 (by decide) oX_0 (fvP rfl hz2) dX9_buildOnTrial_4 ?_
  refine PW.getN0 C cf_8 fl_X9_162 (by decide) hq1 (fvR (o := 3) rfl) dX9_buildOnTrial_7 ?_
  refine PW.getN0 C cf_6 fl_X9_208 (by decide) (sf_8_1 hq1) (fvI rfl) dX9_buildOnTrial_10 ?_
  refine PW.icmp_ge (tgt := 71) C dX9_buildOnTrial_13 (by decide) (fun c => ?_) (fun c => ?_)
  · rw [if_pos c] at hw
    exact PW.wk (wk_n (wk_n (wk_n (wk_n (wk_n wk_0))))) (hk71 _ hw)
  · rw [if_neg c] at hw
    refine PW.ald0n C dX9_buildOnTrial_16 ?_
    obtain ⟨hz4, hq3, hw⟩ := hw
    refine PW.get0 C cf_9 fl_X9_23 (by decide) oX_0 (fvP rfl hz4) dX9_buildOnTrial_17 ?_
    refine PW.getN0 C cf_8 fl_X9_162 (by decide) hq3 (fvR (o := 3) rfl) dX9_buildOnTrial_20 ?_
    refine PW.ild2n C dX9_buildOnTrial_23 ?_
    refine PW.iconst (v := 3) C dX9_buildOnTrial_24 (by decide) ?_
    refine PW.callVI2 C ms_X6_at ml_X9_136 dX9_buildOnTrial_25 (sf_8_1 hq3) ⟨_, _, rfl⟩ (Nat.le_of_ble_eq_true rfl) (by decide) (Nat.le_of_ble_eq_true rfl) (s_X6_at (sf_8_1 hq3) hw) ?_
    clear hw
    intro z6 h5 hw
    refine PW.ist3n C dX9_buildOnTrial_28 (by decide) rfl ?_
    refine PW.ild1n C dX9_buildOnTrial_29 ?_
    refine PW.ild2n C dX9_buildOnTrial_30 ?_
    refine PW.ishr C dX9_buildOnTrial_31 ?_
    refine PW.iconst (v := 1) C dX9_buildOnTrial_32 (by decide) ?_
    refine PW.iand C dX9_buildOnTrial_33 ?_
    replace hw := hw _ rfl
    refine PW.ist4 C dX9_buildOnTrial_34 (by decide) rfl ?_
    refine PW.ild3n C dX9_buildOnTrial_36 ?_
    refine PW.iconst (v := 1) C dX9_buildOnTrial_37 (by decide) ?_
    refine PW.icmp_ne (tgt := 49) C dX9_buildOnTrial_38 (by decide) (fun c => ?_) (fun c => ?_)
    · rw [if_neg c] at hw
      exact PW.wk (wk_s (wk_s (wk_s (wk_s (wk_s wk_0))))) (b_X9_buildOnTrial_49 C hkb hw)
    · rw [if_pos c] at hw
      refine PW.ild4 C dX9_buildOnTrial_41 ?_
      refine PW.iconst (v := 1) C dX9_buildOnTrial_43 (by decide) ?_
      refine PW.icmp_ne (tgt := 49) C dX9_buildOnTrial_44 (by decide) (fun c => ?_) (fun c => ?_)
      · rw [if_neg c] at hw
        exact PW.wk (wk_s (wk_s (wk_s (wk_s (wk_s wk_0))))) (b_X9_buildOnTrial_49 C hkb hw)
      · rw [if_pos c] at hw
        exact PW.wk (wk_n (wk_n (wk_n (wk_n (wk_n wk_0))))) (hk47 _ hw)
theorem l_X9_buildOnTrial_2 {D : va_G} {ca : Nat → ClassId} {ad : Nat → Nat} {K : Kt} {k47 : PH → Prop} {k71 : PH → Prop} {Q : Int32 → PH → Prop} {x1 : Int32} (C : CX (GX D ca ad) (XS (GX D ca ad)) cX9_buildOnTrial RX9 5 (some .boolean) 3 K) (hk47 : ∀ (h : PH), k47 h → PW (GX D ca ad) K 5 (qI Q) h 47 [none, none, none, none, none] []) (hk71 : ∀ (h : PH), k71 h → PW (GX D ca ad) K 5 (qI Q) h 71 [none, none, none, none, none] []) : ∀ (n : Nat) (x2 : Int32) (h : PH), Lp1 (w_X9_buildOnTrial_2 k47 k71 Q x1) n x2 h → PW (GX D ca ad) K 5 (qI Q) h 2 [some (.ref 0), some (.int x1), some (.int x2), none, none] [] := by
  intro n
  induction n with
  | zero => intro x2 h hw; exact hw.elim
  | succ n ih => intro x2 h hw; exact b_X9_buildOnTrial_2 C hk47 hk71 (fun x2 h hw => ih x2 h hw) hw
def w_X9_buildOnTrial (x1 : Int32) (h : PH) (Q : Int32 → PH → Prop) : Prop :=
  ∃ n, Lp1 (w_X9_buildOnTrial_2 (fun h9 => Q 0 h9) (fun h10 => Q 1 h10) Q x1) n 0 h
set_option maxRecDepth 8000 in
theorem s_X9_buildOnTrial {D : va_G} {ca : Nat → ClassId} {ad : Nat → Nat} {l : Launch} {x1 : Int32} {h : PH} {Q : Int32 → PH → Prop} (hw : w_X9_buildOnTrial x1 h Q) : Sp (GX D ca ad) (XS (GX D ca ad)) l 3 yX9_buildOnTrial cX9_buildOnTrial 5 (some .boolean) [.ref 0, .int x1] h (qI Q) := by
  refine Sp.of (own := RX9) [some (.ref 0), some (.int x1), none, none, none] (by decide +kernel) rfl rfl (Nat.le_of_ble_eq_true rfl) (fun K hl C => ?_)
  subst hl
  unfold w_X9_buildOnTrial at hw
  refine PW.iconst (v := 0) C dX9_buildOnTrial_0 (by decide) ?_
  refine PW.ist2n C dX9_buildOnTrial_1 (by decide) rfl ?_
  obtain ⟨n, hw⟩ := hw
  refine PW.wk (wk_s (wk_s (wk_s (wk_n (wk_n wk_0))))) (l_X9_buildOnTrial_2 C ?_ ?_ n _ _ hw)
  · intro h9 hw
    refine PW.iconst (v := 0) C dX9_buildOnTrial_47 (by decide) ?_
    exact PW.zret C dX9_buildOnTrial_48 (by decide) ⟨_, rfl, hw⟩
  · intro h10 hw
    refine PW.iconst (v := 1) C dX9_buildOnTrial_71 (by decide) ?_
    exact PW.zret C dX9_buildOnTrial_72 (by decide) ⟨_, rfl, hw⟩
def w_X9_trialReaches_118 (Q : Int32 → PH → Prop) (x5 : Int32) (h : PH) : Prop :=
  vp_in x5 91 ∧ if (gI h 138 (iN x5)) = 1 then (Q 1 h) else (Q 0 h)
set_option maxRecDepth 8000 in
theorem b_X9_trialReaches_118 {D : va_G} {ca : Nat → ClassId} {ad : Nat → Nat} {K : Kt} {Q : Int32 → PH → Prop} {x5 : Int32} {h : PH} (C : CX (GX D ca ad) (XS (GX D ca ad)) cX9_trialReaches RX9 8 (some .boolean) 4 K) (hw : w_X9_trialReaches_118 Q x5 h) : PW (GX D ca ad) K 8 (qI Q) h 118 [some (.ref 0), none, none, none, none, some (.int x5), none, none] [] := by
  unfold w_X9_trialReaches_118 at hw
  refine PW.ald0n C dX9_trialReaches_118 ?_
  refine PW.get0 (v := .ref 138) C cf_9 fl_X9_80 (by decide) oX_0 (fvR (o := 138) rfl) dX9_trialReaches_119 ?_
  refine PW.ild5 C dX9_trialReaches_122 ?_
  obtain ⟨hc7, hw⟩ := hw
  refine PW.iald C dX9_trialReaches_124 aX_138 hc7 ?_
  refine PW.iconst (v := 1) C dX9_trialReaches_125 (by decide) ?_
  refine PW.icmp_ne (tgt := 133) C dX9_trialReaches_126 (by decide) (fun c => ?_) (fun c => ?_)
  · rw [if_neg c] at hw
    refine PW.iconst (v := 0) C dX9_trialReaches_133 (by decide) ?_
    exact PW.zret C dX9_trialReaches_134 (by decide) ⟨_, rfl, hw⟩
  · rw [if_pos c] at hw
    refine PW.iconst (v := 1) C dX9_trialReaches_129 (by decide) ?_
    refine PW.goto (tgt := 134) C dX9_trialReaches_130 (by decide) ?_
    exact PW.zret C dX9_trialReaches_134 (by decide) ⟨_, rfl, hw⟩
def w_X9_trialReaches_117 (Q : Int32 → PH → Prop) (x5 : Int32) (s1 : Int32) (s2 : Int32) (h : PH) : Prop :=
  vp_in s1 91 ∧ ∀ h17, h17 = sI h 138 (iN s1) s2 → w_X9_trialReaches_118 Q x5 h17
set_option maxRecDepth 8000 in
theorem b_X9_trialReaches_117 {D : va_G} {ca : Nat → ClassId} {ad : Nat → Nat} {K : Kt} {Q : Int32 → PH → Prop} {x5 : Int32} {s1 : Int32} {s2 : Int32} {h : PH} (C : CX (GX D ca ad) (XS (GX D ca ad)) cX9_trialReaches RX9 8 (some .boolean) 4 K) (hw : w_X9_trialReaches_117 Q x5 s1 s2 h) : PW (GX D ca ad) K 8 (qI Q) h 117 [some (.ref 0), none, none, none, none, some (.int x5), none, none] [.int s2, .int s1, .ref 138] := by
  unfold w_X9_trialReaches_117 at hw
  obtain ⟨hc16, hw⟩ := hw
  replace hw := hw _ rfl
  refine PW.iast C dX9_trialReaches_117 aX_138 hc16 ?_
  exact PW.wk (wk_s (wk_n (wk_n (wk_n (wk_n (wk_s (wk_n (wk_n wk_0)))))))) (b_X9_trialReaches_118 C hw)
def w_X9_trialReaches (x1 : Int32) (x2 : Int32) (h : PH) (Q : Int32 → PH → Prop) : Prop :=
  w_X0_measureWays 106 77 (-1) h (fun h1 => w_X6_at 84 x1 0 h1 (fun z3 h2 => w_X0_way 106 z3 x2 h2 (fun z5 h4 => if z5 < 0 then (Q 0 h4) else (if z5 ≤ 90 then (vp_in z5 91 ∧ if (gI h4 138 (iN z5)) = (-1) then (w_X6_at 84 x1 2 h4 (fun z9 h8 => w_X6_at 84 x1 3 h8 (fun z11 h10 => w_X6_at 84 x1 4 h10 (fun z13 h12 => w_X0_minutesHeard 106 77 z3 z9 z11 z13 x2 h12 (fun z15 h14 => if (lg_cmp z15 0) = 0 then (w_X9_trialReaches_117 Q z5 z5 0 h14) else (w_X9_trialReaches_117 Q z5 z5 1 h14)))))) else (w_X9_trialReaches_118 Q z5 h4)) else (Q 0 h4)))))
set_option maxRecDepth 8000 in
theorem s_X9_trialReaches {D : va_G} {ca : Nat → ClassId} {ad : Nat → Nat} {l : Launch} {x1 : Int32} {x2 : Int32} {h : PH} {Q : Int32 → PH → Prop} (hw : w_X9_trialReaches x1 x2 h Q) : Sp (GX D ca ad) (XS (GX D ca ad)) l 4 yX9_trialReaches cX9_trialReaches 8 (some .boolean) [.ref 0, .int x1, .int x2] h (qI Q) := by
  refine Sp.of (own := RX9) [some (.ref 0), some (.int x1), some (.int x2), none, none, none, none, none] (by decide +kernel) rfl rfl (Nat.le_of_ble_eq_true rfl) (fun K hl C => ?_)
  subst hl
  unfold w_X9_trialReaches at hw
  refine PW.ald0n C dX9_trialReaches_0 ?_
  refine PW.get0 (v := .ref 106) C cf_9 fl_X9_43 (by decide) oX_0 (fvR (o := 106) rfl) dX9_trialReaches_1 ?_
  refine PW.ald0n C dX9_trialReaches_4 ?_
  refine PW.get0 (v := .ref 77) C cf_9 fl_X9_33 (by decide) oX_0 (fvR (o := 77) rfl) dX9_trialReaches_5 ?_
  refine PW.iconst (v := (-1)) C dX9_trialReaches_8 (by decide) ?_
  refine PW.callVV2 C ms_X0_measureWays ml_X9_279 dX9_trialReaches_9 oX_106 ⟨_, _, rfl⟩ (Nat.le_of_ble_eq_true rfl) (by decide) (Nat.le_of_ble_eq_true rfl) (s_X0_measureWays oX_106 oX_77 hw) ?_
  clear hw
  intro h1 hw
  refine PW.ald0n C dX9_trialReaches_12 ?_
  refine PW.get0 (v := .ref 77) C cf_9 fl_X9_33 (by decide) oX_0 (fvR (o := 77) rfl) dX9_trialReaches_13 ?_
  refine PW.getN0 (v := .ref 84) C cf_8 fl_X9_156 (by decide) oX_77 (fvR (o := 7) rfl) dX9_trialReaches_16 ?_
  refine PW.ast3n C dX9_trialReaches_19 (by decide) rfl ?_
  refine PW.ald3n C dX9_trialReaches_20 ?_
  refine PW.ild1n C dX9_trialReaches_21 ?_
  refine PW.iconst (v := 0) C dX9_trialReaches_22 (by decide) ?_
  refine PW.callVI2 C ms_X6_at ml_X9_136 dX9_trialReaches_23 oX_84 ⟨_, _, rfl⟩ (Nat.le_of_ble_eq_true rfl) (by decide) (Nat.le_of_ble_eq_true rfl) (s_X6_at oX_84 hw) ?_
  clear hw
  intro z3 h2 hw
  refine PW.ist4 C dX9_trialReaches_26 (by decide) rfl ?_
  refine PW.ald0n C dX9_trialReaches_28 ?_
  refine PW.get0 (v := .ref 106) C cf_9 fl_X9_43 (by decide) oX_0 (fvR (o := 106) rfl) dX9_trialReaches_29 ?_
  refine PW.ild4 C dX9_trialReaches_32 ?_
  refine PW.ild2n C dX9_trialReaches_34 ?_
  refine PW.callVI2 C ms_X0_way ml_X9_165 dX9_trialReaches_35 oX_106 ⟨_, _, rfl⟩ (Nat.le_of_ble_eq_true rfl) (by decide) (Nat.le_of_ble_eq_true rfl) (s_X0_way oX_106 hw) ?_
  clear hw
  intro z5 h4 hw
  refine PW.ist5 C dX9_trialReaches_38 (by decide) rfl ?_
  refine PW.ild5 C dX9_trialReaches_40 ?_
  refine PW.if_lt (tgt := 52) C dX9_trialReaches_42 (by decide) (fun c => ?_) (fun c => ?_)
  · rw [if_pos c] at hw
    refine PW.iconst (v := 0) C dX9_trialReaches_52 (by decide) ?_
    exact PW.zret C dX9_trialReaches_53 (by decide) ⟨_, rfl, hw⟩
  · rw [if_neg c] at hw
    refine PW.ild5 C dX9_trialReaches_45 ?_
    refine PW.bipush (v := 90) C dX9_trialReaches_47 (by decide) ?_
    refine PW.icmp_le (tgt := 54) C dX9_trialReaches_49 (by decide) (fun c => ?_) (fun c => ?_)
    · rw [if_pos c] at hw
      refine PW.ald0n C dX9_trialReaches_54 ?_
      refine PW.get0 (v := .ref 138) C cf_9 fl_X9_80 (by decide) oX_0 (fvR (o := 138) rfl) dX9_trialReaches_55 ?_
      refine PW.ild5 C dX9_trialReaches_58 ?_
      obtain ⟨hc6, hw⟩ := hw
      refine PW.iald C dX9_trialReaches_60 aX_138 hc6 ?_
      refine PW.iconst (v := (-1)) C dX9_trialReaches_61 (by decide) ?_
      refine PW.icmp_ne (tgt := 118) C dX9_trialReaches_62 (by decide) (fun c => ?_) (fun c => ?_)
      · rw [if_neg c] at hw
        exact PW.wk (wk_s (wk_n (wk_n (wk_n (wk_n (wk_s (wk_n (wk_n wk_0)))))))) (b_X9_trialReaches_118 C hw)
      · rw [if_pos c] at hw
        refine PW.ald0n C dX9_trialReaches_65 ?_
        refine PW.get0 (v := .ref 106) C cf_9 fl_X9_43 (by decide) oX_0 (fvR (o := 106) rfl) dX9_trialReaches_66 ?_
        refine PW.ald0n C dX9_trialReaches_69 ?_
        refine PW.get0 (v := .ref 77) C cf_9 fl_X9_33 (by decide) oX_0 (fvR (o := 77) rfl) dX9_trialReaches_70 ?_
        refine PW.ild4 C dX9_trialReaches_73 ?_
        refine PW.ald3n C dX9_trialReaches_75 ?_
        refine PW.ild1n C dX9_trialReaches_76 ?_
        refine PW.iconst (v := 2) C dX9_trialReaches_77 (by decide) ?_
        refine PW.callVI2 C ms_X6_at ml_X9_136 dX9_trialReaches_78 oX_84 ⟨_, _, rfl⟩ (Nat.le_of_ble_eq_true rfl) (by decide) (Nat.le_of_ble_eq_true rfl) (s_X6_at oX_84 hw) ?_
        clear hw
        intro z9 h8 hw
        refine PW.ald3n C dX9_trialReaches_81 ?_
        refine PW.ild1n C dX9_trialReaches_82 ?_
        refine PW.iconst (v := 3) C dX9_trialReaches_83 (by decide) ?_
        refine PW.callVI2 C ms_X6_at ml_X9_136 dX9_trialReaches_84 oX_84 ⟨_, _, rfl⟩ (Nat.le_of_ble_eq_true rfl) (by decide) (Nat.le_of_ble_eq_true rfl) (s_X6_at oX_84 hw) ?_
        clear hw
        intro z11 h10 hw
        refine PW.ald3n C dX9_trialReaches_87 ?_
        refine PW.ild1n C dX9_trialReaches_88 ?_
        refine PW.iconst (v := 4) C dX9_trialReaches_89 (by decide) ?_
        refine PW.callVI2 C ms_X6_at ml_X9_136 dX9_trialReaches_90 oX_84 ⟨_, _, rfl⟩ (Nat.le_of_ble_eq_true rfl) (by decide) (Nat.le_of_ble_eq_true rfl) (s_X6_at oX_84 hw) ?_
        clear hw
        intro z13 h12 hw
        refine PW.ild2n C dX9_trialReaches_93 ?_
        refine PW.callVJ6 C ms_X0_minutesHeard ml_X9_282 dX9_trialReaches_94 oX_106 ⟨_, _, rfl⟩ (Nat.le_of_ble_eq_true rfl) (by decide) (Nat.le_of_ble_eq_true rfl) (s_X0_minutesHeard oX_106 oX_77 hw) ?_
        clear hw
        intro z15 h14 hw
        refine PW.lst6 C dX9_trialReaches_97 (by decide) rfl ?_
        refine PW.ald0n C dX9_trialReaches_99 ?_
        refine PW.get0 (v := .ref 138) C cf_9 fl_X9_80 (by decide) oX_0 (fvR (o := 138) rfl) dX9_trialReaches_100 ?_
        refine PW.ild5 C dX9_trialReaches_103 ?_
        refine PW.lld6 C dX9_trialReaches_105 ?_
        refine PW.lconst (v := 0) C dX9_trialReaches_107 (by decide) ?_
        refine PW.lcmp C dX9_trialReaches_108 ?_
        refine PW.if_ne (tgt := 116) C dX9_trialReaches_109 (by decide) (fun c => ?_) (fun c => ?_)
        · rw [if_neg c] at hw
          refine PW.iconst (v := 1) C dX9_trialReaches_116 (by decide) ?_
          exact PW.wk (wk_s (wk_n (wk_n (wk_n (wk_n (wk_s (wk_n (wk_n wk_0)))))))) (b_X9_trialReaches_117 C hw)
        · rw [if_pos c] at hw
          refine PW.iconst (v := 0) C dX9_trialReaches_112 (by decide) ?_
          refine PW.goto (tgt := 117) C dX9_trialReaches_113 (by decide) ?_
          exact PW.wk (wk_s (wk_n (wk_n (wk_n (wk_n (wk_s (wk_n (wk_n wk_0)))))))) (b_X9_trialReaches_117 C hw)
    · rw [if_neg c] at hw
      refine PW.iconst (v := 0) C dX9_trialReaches_52 (by decide) ?_
      exact PW.zret C dX9_trialReaches_53 (by decide) ⟨_, rfl, hw⟩
def w_X9_walls_60 (k79 : PH → Prop) (Q : Int32 → PH → Prop) (x1 : Int32) (x2 : Int32) (kb : Int32 → PH → Prop) (x3 : Int32) (h : PH) : Prop :=
  if 90 < x3 then (k79 h) else (vp_in x3 91 ∧ ∀ h17, h17 = sI h 138 (iN x3) (-1) → kb (x3 + 1) h17)
set_option maxRecDepth 8000 in
theorem b_X9_walls_60 {D : va_G} {ca : Nat → ClassId} {ad : Nat → Nat} {K : Kt} {k79 : PH → Prop} {kb : Int32 → PH → Prop} {Q : Int32 → PH → Prop} {x1 : Int32} {x2 : Int32} {x3 : Int32} {h : PH} (C : CX (GX D ca ad) (XS (GX D ca ad)) cX9_walls RX9 7 (some .int) 5 K) (hk79 : ∀ (h : PH), k79 h → PW (GX D ca ad) K 7 (qI Q) h 79 [some (.ref 0), some (.int x1), some (.int x2), none, none, none, none] []) (hkb : ∀ (x3 : Int32) (h : PH), kb x3 h → PW (GX D ca ad) K 7 (qI Q) h 60 [some (.ref 0), some (.int x1), some (.int x2), some (.int x3), none, none, none] []) (hw : w_X9_walls_60 k79 Q x1 x2 kb x3 h) : PW (GX D ca ad) K 7 (qI Q) h 60 [some (.ref 0), some (.int x1), some (.int x2), some (.int x3), none, none, none] [] := by
  unfold w_X9_walls_60 at hw
  refine PW.ild3n C dX9_walls_60 ?_
  refine PW.bipush (v := 90) C dX9_walls_61 (by decide) ?_
  refine PW.icmp_gt (tgt := 79) C dX9_walls_63 (by decide) (fun c => ?_) (fun c => ?_)
  · rw [if_pos c] at hw
    exact PW.wk (wk_s (wk_s (wk_s (wk_n (wk_n (wk_n (wk_n wk_0))))))) (hk79 _ hw)
  · rw [if_neg c] at hw
    refine PW.ald0n C dX9_walls_66 ?_
    refine PW.get0 (v := .ref 138) C cf_9 fl_X9_80 (by decide) oX_0 (fvR (o := 138) rfl) dX9_walls_67 ?_
    refine PW.ild3n C dX9_walls_70 ?_
    refine PW.iconst (v := (-1)) C dX9_walls_71 (by decide) ?_
    obtain ⟨hc16, hw⟩ := hw
    replace hw := hw _ rfl
    refine PW.iast C dX9_walls_72 aX_138 hc16 ?_
    refine PW.inc3 (v := 1) C dX9_walls_73 (by decide) rfl (by decide) ?_
    refine PW.goto (tgt := 60) C dX9_walls_76 (by decide) ?_
    exact PW.wk (wk_s (wk_s (wk_s (wk_s (wk_n (wk_n (wk_n wk_0))))))) (hkb _ _ hw)
theorem l_X9_walls_60 {D : va_G} {ca : Nat → ClassId} {ad : Nat → Nat} {K : Kt} {k79 : PH → Prop} {Q : Int32 → PH → Prop} {x1 : Int32} {x2 : Int32} (C : CX (GX D ca ad) (XS (GX D ca ad)) cX9_walls RX9 7 (some .int) 5 K) (hk79 : ∀ (h : PH), k79 h → PW (GX D ca ad) K 7 (qI Q) h 79 [some (.ref 0), some (.int x1), some (.int x2), none, none, none, none] []) : ∀ (n : Nat) (x3 : Int32) (h : PH), Lp1 (w_X9_walls_60 k79 Q x1 x2) n x3 h → PW (GX D ca ad) K 7 (qI Q) h 60 [some (.ref 0), some (.int x1), some (.int x2), some (.int x3), none, none, none] [] := by
  intro n
  induction n with
  | zero => intro x3 h hw; exact hw.elim
  | succ n ih => intro x3 h hw; exact b_X9_walls_60 C hk79 (fun x3 h hw => ih x3 h hw) hw
def w_X9_walls_89 (k151 : Int32 → PH → Prop) (Q : Int32 → PH → Prop) (x1 : Int32) (x2 : Int32) (kb : Int32 → Int32 → Int32 → PH → Prop) (x3 : Int32) (x4 : Int32) (x5 : Int32) (h : PH) : Prop :=
  gP h 0 3 ≠ 0 ∧ oX (gP h 0 3 - 1) 8 ∧ if ((1 : Int32) <<< (((gI h ((gP h 0 3 - 1) + 3) 3) : Int32) &&& 31)) ≤ x5 then (k151 x3 h) else (w_J6_bitCount_0f7a4 x5 h (fun z22 h21 => if x4 ≤ z22 then (kb x3 x4 (x5 + 1) h21) else (w_X9_buildOnTrial x5 h21 (fun z24 h23 => if z24 = 0 then (kb x3 x4 (x5 + 1) h23) else (w_X9_trialReaches x1 x2 h23 (fun z26 h25 => if z26 = 0 then (kb x5 z22 (x5 + 1) h25) else (kb x3 x4 (x5 + 1) h25)))))))
set_option maxRecDepth 8000 in
theorem b_X9_walls_89 {D : va_G} {ca : Nat → ClassId} {ad : Nat → Nat} {K : Kt} {k151 : Int32 → PH → Prop} {kb : Int32 → Int32 → Int32 → PH → Prop} {Q : Int32 → PH → Prop} {x1 : Int32} {x2 : Int32} {x3 : Int32} {x4 : Int32} {x5 : Int32} {h : PH} (C : CX (GX D ca ad) (XS (GX D ca ad)) cX9_walls RX9 7 (some .int) 5 K) (hk151 : ∀ (x3 : Int32) (h : PH), k151 x3 h → PW (GX D ca ad) K 7 (qI Q) h 151 [none, none, none, some (.int x3), none, none, none] []) (hkb : ∀ (x3 : Int32) (x4 : Int32) (x5 : Int32) (h : PH), kb x3 x4 x5 h → PW (GX D ca ad) K 7 (qI Q) h 89 [some (.ref 0), some (.int x1), some (.int x2), some (.int x3), some (.int x4), some (.int x5), none] []) (hw : w_X9_walls_89 k151 Q x1 x2 kb x3 x4 x5 h) : PW (GX D ca ad) K 7 (qI Q) h 89 [some (.ref 0), some (.int x1), some (.int x2), some (.int x3), some (.int x4), some (.int x5), none] [] := by
  unfold w_X9_walls_89 at hw
  refine PW.ild5 C dX9_walls_89 ?_
  refine PW.iconst (v := 1) C dX9_walls_91 (by decide) ?_
  refine PW.ald0n C dX9_walls_92 ?_
  obtain ⟨hz20, hq19, hw⟩ := hw
  refine PW.get0 C cf_9 fl_X9_23 (by decide) oX_0 (fvP rfl hz20) dX9_walls_93 ?_
  refine PW.getN0 C cf_8 fl_X9_162 (by decide) hq19 (fvR (o := 3) rfl) dX9_walls_96 ?_
  refine PW.getN0 C cf_6 fl_X9_208 (by decide) (sf_8_1 hq19) (fvI rfl) dX9_walls_99 ?_
  refine PW.ishl C dX9_walls_102 ?_
  refine PW.icmp_ge (tgt := 151) C dX9_walls_103 (by decide) (fun c => ?_) (fun c => ?_)
  · rw [if_pos c] at hw
    exact PW.wk (wk_n (wk_n (wk_n (wk_s (wk_n (wk_n (wk_n wk_0))))))) (hk151 _ _ hw)
  · rw [if_neg c] at hw
    refine PW.ild5 C dX9_walls_106 ?_
    refine PW.callSI1 C ms_J6_bitCount_0f7a4 ml_X9_267 dX9_walls_108 (Nat.le_of_ble_eq_true rfl) (by decide) (Nat.le_of_ble_eq_true rfl) (s_J6_bitCount_0f7a4 hw) ?_
    clear hw
    intro z22 h21 hw
    refine PW.ist6 C dX9_walls_111 (by decide) rfl ?_
    refine PW.ild6 C dX9_walls_113 ?_
    refine PW.ild4 C dX9_walls_115 ?_
    refine PW.icmp_ge (tgt := 145) C dX9_walls_117 (by decide) (fun c => ?_) (fun c => ?_)
    · rw [if_pos c] at hw
      refine PW.inc5 (v := 1) C dX9_walls_145 (by decide) rfl (by decide) ?_
      refine PW.goto (tgt := 89) C dX9_walls_148 (by decide) ?_
      exact PW.wk (wk_s (wk_s (wk_s (wk_s (wk_s (wk_s (wk_n wk_0))))))) (hkb _ _ _ _ hw)
    · rw [if_neg c] at hw
      refine PW.ald0n C dX9_walls_120 ?_
      refine PW.ild5 C dX9_walls_121 ?_
      refine PW.callVI1 C ms_X9_buildOnTrial ml_X9_272 dX9_walls_123 oX_0 ⟨_, _, rfl⟩ (Nat.le_of_ble_eq_true rfl) (by decide) (Nat.le_of_ble_eq_true rfl) (s_X9_buildOnTrial hw) ?_
      clear hw
      intro z24 h23 hw
      refine PW.if_eq (tgt := 145) C dX9_walls_126 (by decide) (fun c => ?_) (fun c => ?_)
      · rw [if_pos c] at hw
        refine PW.inc5 (v := 1) C dX9_walls_145 (by decide) rfl (by decide) ?_
        refine PW.goto (tgt := 89) C dX9_walls_148 (by decide) ?_
        exact PW.wk (wk_s (wk_s (wk_s (wk_s (wk_s (wk_s (wk_n wk_0))))))) (hkb _ _ _ _ hw)
      · rw [if_neg c] at hw
        refine PW.ald0n C dX9_walls_129 ?_
        refine PW.ild1n C dX9_walls_130 ?_
        refine PW.ild2n C dX9_walls_131 ?_
        refine PW.callVI2 C ms_X9_trialReaches ml_X9_275 dX9_walls_132 oX_0 ⟨_, _, rfl⟩ (Nat.le_of_ble_eq_true rfl) (by decide) (Nat.le_of_ble_eq_true rfl) (s_X9_trialReaches hw) ?_
        clear hw
        intro z26 h25 hw
        refine PW.if_ne (tgt := 145) C dX9_walls_135 (by decide) (fun c => ?_) (fun c => ?_)
        · rw [if_neg c] at hw
          refine PW.inc5 (v := 1) C dX9_walls_145 (by decide) rfl (by decide) ?_
          refine PW.goto (tgt := 89) C dX9_walls_148 (by decide) ?_
          exact PW.wk (wk_s (wk_s (wk_s (wk_s (wk_s (wk_s (wk_n wk_0))))))) (hkb _ _ _ _ hw)
        · rw [if_pos c] at hw
          refine PW.ild5 C dX9_walls_138 ?_
          refine PW.ist3n C dX9_walls_140 (by decide) rfl ?_
          refine PW.ild6 C dX9_walls_141 ?_
          refine PW.ist4 C dX9_walls_143 (by decide) rfl ?_
          refine PW.inc5 (v := 1) C dX9_walls_145 (by decide) rfl (by decide) ?_
          refine PW.goto (tgt := 89) C dX9_walls_148 (by decide) ?_
          exact PW.wk (wk_s (wk_s (wk_s (wk_s (wk_s (wk_s (wk_n wk_0))))))) (hkb _ _ _ _ hw)
theorem l_X9_walls_89 {D : va_G} {ca : Nat → ClassId} {ad : Nat → Nat} {K : Kt} {k151 : Int32 → PH → Prop} {Q : Int32 → PH → Prop} {x1 : Int32} {x2 : Int32} (C : CX (GX D ca ad) (XS (GX D ca ad)) cX9_walls RX9 7 (some .int) 5 K) (hk151 : ∀ (x3 : Int32) (h : PH), k151 x3 h → PW (GX D ca ad) K 7 (qI Q) h 151 [none, none, none, some (.int x3), none, none, none] []) : ∀ (n : Nat) (x3 : Int32) (x4 : Int32) (x5 : Int32) (h : PH), Lp3 (w_X9_walls_89 k151 Q x1 x2) n x3 x4 x5 h → PW (GX D ca ad) K 7 (qI Q) h 89 [some (.ref 0), some (.int x1), some (.int x2), some (.int x3), some (.int x4), some (.int x5), none] [] := by
  intro n
  induction n with
  | zero => intro x3 x4 x5 h hw; exact hw.elim
  | succ n ih => intro x3 x4 x5 h hw; exact b_X9_walls_89 C hk151 (fun x3 x4 x5 h hw => ih x3 x4 x5 h hw) hw
def w_X9_walls (x1 : Int32) (x2 : Int32) (h : PH) (Q : Int32 → PH → Prop) : Prop :=
  gP h 0 3 ≠ 0 ∧ oX (gP h 0 3 - 1) 8 ∧ w_X6_has ((gP h 0 3 - 1) + 7) x1 h (fun z4 h3 => if z4 = 0 then (Q (-1) h3) else (gP h3 0 3 ≠ 0 ∧ oX (gP h3 0 3 - 1) 8 ∧ w_X6_has ((gP h3 0 3 - 1) + 1) x2 h3 (fun z8 h7 => if z8 = 0 then (Q (-1) h7) else (gP h7 0 3 ≠ 0 ∧ oX (gP h7 0 3 - 1) 8 ∧ w_X6_at ((gP h7 0 3 - 1) + 7) x1 5 h7 (fun z12 h11 => if z12 = 0 then (gP h11 0 3 ≠ 0 ∧ oX (gP h11 0 3 - 1) 8 ∧ w_X8_copyFrom 77 (gP h11 0 3 - 1) h11 (fun h15 => ∃ n, Lp1 (w_X9_walls_60 (fun h18 => ∃ n, Lp3 (w_X9_walls_89 (fun y28 h27 => Q y28 h27) Q x1 x2) n (-2) 10 0 h18) Q x1 x2) n 0 h15)) else (Q 0 h11))))))
set_option maxRecDepth 8000 in
theorem s_X9_walls {D : va_G} {ca : Nat → ClassId} {ad : Nat → Nat} {l : Launch} {x1 : Int32} {x2 : Int32} {h : PH} {Q : Int32 → PH → Prop} (hw : w_X9_walls x1 x2 h Q) : Sp (GX D ca ad) (XS (GX D ca ad)) l 5 yX9_walls cX9_walls 7 (some .int) [.ref 0, .int x1, .int x2] h (qI Q) := by
  refine Sp.of (own := RX9) [some (.ref 0), some (.int x1), some (.int x2), none, none, none, none] (by decide +kernel) rfl rfl (Nat.le_of_ble_eq_true rfl) (fun K hl C => ?_)
  subst hl
  unfold w_X9_walls at hw
  refine PW.ald0n C dX9_walls_0 ?_
  obtain ⟨hz2, hq1, hw⟩ := hw
  refine PW.get0 C cf_9 fl_X9_23 (by decide) oX_0 (fvP rfl hz2) dX9_walls_1 ?_
  refine PW.getN0 C cf_8 fl_X9_156 (by decide) hq1 (fvR (o := 7) rfl) dX9_walls_4 ?_
  refine PW.ild1n C dX9_walls_7 ?_
  refine PW.callVI1 C ms_X6_has ml_X9_125 dX9_walls_8 (sf_8_3 hq1) ⟨_, _, rfl⟩ (Nat.le_of_ble_eq_true rfl) (by decide) (Nat.le_of_ble_eq_true rfl) (s_X6_has (sf_8_3 hq1) hw) ?_
  clear hw
  intro z4 h3 hw
  refine PW.if_eq (tgt := 28) C dX9_walls_11 (by decide) (fun c => ?_) (fun c => ?_)
  · rw [if_pos c] at hw
    refine PW.iconst (v := (-1)) C dX9_walls_28 (by decide) ?_
    exact PW.iret C dX9_walls_29 ⟨_, rfl, hw⟩
  · rw [if_neg c] at hw
    refine PW.ald0n C dX9_walls_14 ?_
    obtain ⟨hz6, hq5, hw⟩ := hw
    refine PW.get0 C cf_9 fl_X9_23 (by decide) oX_0 (fvP rfl hz6) dX9_walls_15 ?_
    refine PW.getN0 C cf_8 fl_X9_115 (by decide) hq5 (fvR (o := 1) rfl) dX9_walls_18 ?_
    refine PW.ild2n C dX9_walls_21 ?_
    refine PW.callVI1 C ms_X6_has ml_X9_125 dX9_walls_22 (sf_8_0 hq5) ⟨_, _, rfl⟩ (Nat.le_of_ble_eq_true rfl) (by decide) (Nat.le_of_ble_eq_true rfl) (s_X6_has (sf_8_0 hq5) hw) ?_
    clear hw
    intro z8 h7 hw
    refine PW.if_ne (tgt := 30) C dX9_walls_25 (by decide) (fun c => ?_) (fun c => ?_)
    · rw [if_neg c] at hw
      refine PW.ald0n C dX9_walls_30 ?_
      obtain ⟨hz10, hq9, hw⟩ := hw
      refine PW.get0 C cf_9 fl_X9_23 (by decide) oX_0 (fvP rfl hz10) dX9_walls_31 ?_
      refine PW.getN0 C cf_8 fl_X9_156 (by decide) hq9 (fvR (o := 7) rfl) dX9_walls_34 ?_
      refine PW.ild1n C dX9_walls_37 ?_
      refine PW.iconst (v := 5) C dX9_walls_38 (by decide) ?_
      refine PW.callVI2 C ms_X6_at ml_X9_136 dX9_walls_39 (sf_8_3 hq9) ⟨_, _, rfl⟩ (Nat.le_of_ble_eq_true rfl) (by decide) (Nat.le_of_ble_eq_true rfl) (s_X6_at (sf_8_3 hq9) hw) ?_
      clear hw
      intro z12 h11 hw
      refine PW.if_eq (tgt := 47) C dX9_walls_42 (by decide) (fun c => ?_) (fun c => ?_)
      · rw [if_pos c] at hw
        refine PW.ald0n C dX9_walls_47 ?_
        refine PW.get0 (v := .ref 77) C cf_9 fl_X9_33 (by decide) oX_0 (fvR (o := 77) rfl) dX9_walls_48 ?_
        refine PW.ald0n C dX9_walls_51 ?_
        obtain ⟨hz14, hq13, hw⟩ := hw
        refine PW.get0 C cf_9 fl_X9_23 (by decide) oX_0 (fvP rfl hz14) dX9_walls_52 ?_
        refine PW.callVV1 C ms_X8_copyFrom ml_X9_263 dX9_walls_55 oX_77 ⟨_, _, rfl⟩ (Nat.le_of_ble_eq_true rfl) (by decide) (Nat.le_of_ble_eq_true rfl) (s_X8_copyFrom oX_77 hq13 hw) ?_
        clear hw
        intro h15 hw
        refine PW.iconst (v := 0) C dX9_walls_58 (by decide) ?_
        refine PW.ist3n C dX9_walls_59 (by decide) rfl ?_
        obtain ⟨n, hw⟩ := hw
        refine PW.wk (wk_s (wk_s (wk_s (wk_s (wk_n (wk_n (wk_n wk_0))))))) (l_X9_walls_60 C ?_ n _ _ hw)
        · intro h18 hw
          refine PW.bipush (v := (-2)) C dX9_walls_79 (by decide) ?_
          refine PW.ist3n C dX9_walls_81 (by decide) rfl ?_
          refine PW.bipush (v := 10) C dX9_walls_82 (by decide) ?_
          refine PW.ist4 C dX9_walls_84 (by decide) rfl ?_
          refine PW.iconst (v := 0) C dX9_walls_86 (by decide) ?_
          refine PW.ist5 C dX9_walls_87 (by decide) rfl ?_
          obtain ⟨n, hw⟩ := hw
          refine PW.wk (wk_s (wk_s (wk_s (wk_s (wk_s (wk_s (wk_n wk_0))))))) (l_X9_walls_89 C ?_ n _ _ _ _ hw)
          · intro y28 h27 hw
            refine PW.ild3n C dX9_walls_151 ?_
            exact PW.iret C dX9_walls_152 ⟨_, rfl, hw⟩
      · rw [if_neg c] at hw
        refine PW.iconst (v := 0) C dX9_walls_45 (by decide) ?_
        exact PW.iret C dX9_walls_46 ⟨_, rfl, hw⟩
    · rw [if_pos c] at hw
      refine PW.iconst (v := (-1)) C dX9_walls_28 (by decide) ?_
      exact PW.iret C dX9_walls_29 ⟨_, rfl, hw⟩
def w_X9_isState (x0 : Int32) (h : PH) (Q : Int32 → PH → Prop) : Prop :=
  if x0 ≤ 0 then (Q 0 h) else (if 64 ≤ x0 then (Q 0 h) else (Q 1 h))
set_option maxRecDepth 8000 in
theorem s_X9_isState {D : va_G} {ca : Nat → ClassId} {ad : Nat → Nat} {l : Launch} {x0 : Int32} {h : PH} {Q : Int32 → PH → Prop} (hw : w_X9_isState x0 h Q) : Sp (GX D ca ad) (XS (GX D ca ad)) l 1 yX9_isState cX9_isState 1 (some .boolean) [.int x0] h (qI Q) := by
  refine Sp.of (own := RX9) [some (.int x0)] (by decide +kernel) rfl rfl (Nat.le_of_ble_eq_true rfl) (fun K hl C => ?_)
  subst hl
  unfold w_X9_isState at hw
  refine PW.ild0n C dX9_isState_0 ?_
  refine PW.if_le (tgt := 14) C dX9_isState_1 (by decide) (fun c => ?_) (fun c => ?_)
  · rw [if_pos c] at hw
    refine PW.iconst (v := 0) C dX9_isState_14 (by decide) ?_
    exact PW.zret C dX9_isState_15 (by decide) ⟨_, rfl, hw⟩
  · rw [if_neg c] at hw
    refine PW.ild0n C dX9_isState_4 ?_
    refine PW.bipush (v := 64) C dX9_isState_5 (by decide) ?_
    refine PW.icmp_ge (tgt := 14) C dX9_isState_7 (by decide) (fun c => ?_) (fun c => ?_)
    · rw [if_pos c] at hw
      refine PW.iconst (v := 0) C dX9_isState_14 (by decide) ?_
      exact PW.zret C dX9_isState_15 (by decide) ⟨_, rfl, hw⟩
    · rw [if_neg c] at hw
      refine PW.iconst (v := 1) C dX9_isState_10 (by decide) ?_
      refine PW.goto (tgt := 15) C dX9_isState_11 (by decide) ?_
      exact PW.zret C dX9_isState_15 (by decide) ⟨_, rfl, hw⟩
def w_X9_hearsAny_3 (r1 : Nat) (k51 : PH → Prop) (k59 : PH → Prop) (Q : Int32 → PH → Prop) (x2 : Int32) (x3 : Int32) (x4 : Int32) (kb : Int32 → PH → Prop) (x5 : Int32) (h : PH) : Prop :=
  gP h 0 3 ≠ 0 ∧ oX (gP h 0 3 - 1) 8 ∧ if (gI h ((gP h 0 3 - 1) + 1) 3) ≤ x5 then (k59 h) else (w_X0_way r1 x5 x2 h (fun z4 h3 => if (((x4 : Int32) >>> ((x5 : Int32) &&& 31)) &&& 1) = 1 then (if z4 = (-2) then (kb (x5 + 1) h3) else (if x3 < z4 then (kb (x5 + 1) h3) else (k51 h3))) else (kb (x5 + 1) h3)))
set_option maxRecDepth 8000 in
theorem b_X9_hearsAny_3 {D : va_G} {ca : Nat → ClassId} {ad : Nat → Nat} {K : Kt} {r1 : Nat} {k51 : PH → Prop} {k59 : PH → Prop} {kb : Int32 → PH → Prop} {Q : Int32 → PH → Prop} {x2 : Int32} {x3 : Int32} {x4 : Int32} {x5 : Int32} {h : PH} (C : CX (GX D ca ad) (XS (GX D ca ad)) cX9_hearsAny RX9 7 (some .boolean) 2 K) (hr1 : oX r1 0) (hk51 : ∀ (h : PH), k51 h → PW (GX D ca ad) K 7 (qI Q) h 51 [none, none, none, none, none, none, none] []) (hk59 : ∀ (h : PH), k59 h → PW (GX D ca ad) K 7 (qI Q) h 59 [none, none, none, none, none, none, none] []) (hkb : ∀ (x5 : Int32) (h : PH), kb x5 h → PW (GX D ca ad) K 7 (qI Q) h 3 [some (.ref 0), some (.ref r1), some (.int x2), some (.int x3), some (.int x4), some (.int x5), none] []) (hw : w_X9_hearsAny_3 r1 k51 k59 Q x2 x3 x4 kb x5 h) : PW (GX D ca ad) K 7 (qI Q) h 3 [some (.ref 0), some (.ref r1), some (.int x2), some (.int x3), some (.int x4), some (.int x5), none] [] := by
  unfold w_X9_hearsAny_3 at hw
  refine PW.ild5 C dX9_hearsAny_3 ?_
  refine PW.ald0n C dX9_hearsAny_5 ?_
  obtain ⟨hz2, hq1, hw⟩ := hw
  refine PW.get0 C cf_9 fl_X9_23 (by decide) oX_0 (fvP rfl hz2) dX9_hearsAny_6 ?_
  refine PW.getN0 C cf_8 fl_X9_115 (by decide) hq1 (fvR (o := 1) rfl) dX9_hearsAny_9 ?_
  refine PW.getN0 C cf_6 fl_X9_208 (by decide) (sf_8_0 hq1) (fvI rfl) dX9_hearsAny_12 ?_
  refine PW.icmp_ge (tgt := 59) C dX9_hearsAny_15 (by decide) (fun c => ?_) (fun c => ?_)
  · rw [if_pos c] at hw
    exact PW.wk (wk_n (wk_n (wk_n (wk_n (wk_n (wk_n (wk_n wk_0))))))) (hk59 _ hw)
  · rw [if_neg c] at hw
    refine PW.ald1n C dX9_hearsAny_18 ?_
    refine PW.ild5 C dX9_hearsAny_19 ?_
    refine PW.ild2n C dX9_hearsAny_21 ?_
    refine PW.callVI2 C ms_X0_way ml_X9_165 dX9_hearsAny_22 hr1 ⟨_, _, rfl⟩ (Nat.le_of_ble_eq_true rfl) (by decide) (Nat.le_of_ble_eq_true rfl) (s_X0_way hr1 hw) ?_
    clear hw
    intro z4 h3 hw
    refine PW.ist6 C dX9_hearsAny_25 (by decide) rfl ?_
    refine PW.ild4 C dX9_hearsAny_27 ?_
    refine PW.ild5 C dX9_hearsAny_29 ?_
    refine PW.ishr C dX9_hearsAny_31 ?_
    refine PW.iconst (v := 1) C dX9_hearsAny_32 (by decide) ?_
    refine PW.iand C dX9_hearsAny_33 ?_
    refine PW.iconst (v := 1) C dX9_hearsAny_34 (by decide) ?_
    refine PW.icmp_ne (tgt := 53) C dX9_hearsAny_35 (by decide) (fun c => ?_) (fun c => ?_)
    · rw [if_neg c] at hw
      refine PW.inc5 (v := 1) C dX9_hearsAny_53 (by decide) rfl (by decide) ?_
      refine PW.goto (tgt := 3) C dX9_hearsAny_56 (by decide) ?_
      exact PW.wk (wk_s (wk_s (wk_s (wk_s (wk_s (wk_s (wk_n wk_0))))))) (hkb _ _ hw)
    · rw [if_pos c] at hw
      refine PW.ild6 C dX9_hearsAny_38 ?_
      refine PW.bipush (v := (-2)) C dX9_hearsAny_40 (by decide) ?_
      refine PW.icmp_eq (tgt := 53) C dX9_hearsAny_42 (by decide) (fun c => ?_) (fun c => ?_)
      · rw [if_pos c] at hw
        refine PW.inc5 (v := 1) C dX9_hearsAny_53 (by decide) rfl (by decide) ?_
        refine PW.goto (tgt := 3) C dX9_hearsAny_56 (by decide) ?_
        exact PW.wk (wk_s (wk_s (wk_s (wk_s (wk_s (wk_s (wk_n wk_0))))))) (hkb _ _ hw)
      · rw [if_neg c] at hw
        refine PW.ild6 C dX9_hearsAny_45 ?_
        refine PW.ild3n C dX9_hearsAny_47 ?_
        refine PW.icmp_gt (tgt := 53) C dX9_hearsAny_48 (by decide) (fun c => ?_) (fun c => ?_)
        · rw [if_pos c] at hw
          refine PW.inc5 (v := 1) C dX9_hearsAny_53 (by decide) rfl (by decide) ?_
          refine PW.goto (tgt := 3) C dX9_hearsAny_56 (by decide) ?_
          exact PW.wk (wk_s (wk_s (wk_s (wk_s (wk_s (wk_s (wk_n wk_0))))))) (hkb _ _ hw)
        · rw [if_neg c] at hw
          exact PW.wk (wk_n (wk_n (wk_n (wk_n (wk_n (wk_n (wk_n wk_0))))))) (hk51 _ hw)
theorem l_X9_hearsAny_3 {D : va_G} {ca : Nat → ClassId} {ad : Nat → Nat} {K : Kt} {r1 : Nat} {k51 : PH → Prop} {k59 : PH → Prop} {Q : Int32 → PH → Prop} {x2 : Int32} {x3 : Int32} {x4 : Int32} (C : CX (GX D ca ad) (XS (GX D ca ad)) cX9_hearsAny RX9 7 (some .boolean) 2 K) (hr1 : oX r1 0) (hk51 : ∀ (h : PH), k51 h → PW (GX D ca ad) K 7 (qI Q) h 51 [none, none, none, none, none, none, none] []) (hk59 : ∀ (h : PH), k59 h → PW (GX D ca ad) K 7 (qI Q) h 59 [none, none, none, none, none, none, none] []) : ∀ (n : Nat) (x5 : Int32) (h : PH), Lp1 (w_X9_hearsAny_3 r1 k51 k59 Q x2 x3 x4) n x5 h → PW (GX D ca ad) K 7 (qI Q) h 3 [some (.ref 0), some (.ref r1), some (.int x2), some (.int x3), some (.int x4), some (.int x5), none] [] := by
  intro n
  induction n with
  | zero => intro x5 h hw; exact hw.elim
  | succ n ih => intro x5 h hw; exact b_X9_hearsAny_3 C hr1 hk51 hk59 (fun x5 h hw => ih x5 h hw) hw
def w_X9_hearsAny (r1 : Nat) (x2 : Int32) (x3 : Int32) (x4 : Int32) (h : PH) (Q : Int32 → PH → Prop) : Prop :=
  ∃ n, Lp1 (w_X9_hearsAny_3 r1 (fun h5 => Q 1 h5) (fun h6 => Q 0 h6) Q x2 x3 x4) n 0 h
set_option maxRecDepth 8000 in
theorem s_X9_hearsAny {D : va_G} {ca : Nat → ClassId} {ad : Nat → Nat} {l : Launch} {r1 : Nat} {x2 : Int32} {x3 : Int32} {x4 : Int32} {h : PH} {Q : Int32 → PH → Prop} (hr1 : oX r1 0) (hw : w_X9_hearsAny r1 x2 x3 x4 h Q) : Sp (GX D ca ad) (XS (GX D ca ad)) l 2 yX9_hearsAny cX9_hearsAny 7 (some .boolean) [.ref 0, .ref r1, .int x2, .int x3, .int x4] h (qI Q) := by
  refine Sp.of (own := RX9) [some (.ref 0), some (.ref r1), some (.int x2), some (.int x3), some (.int x4), none, none] (by decide +kernel) rfl rfl (Nat.le_of_ble_eq_true rfl) (fun K hl C => ?_)
  subst hl
  unfold w_X9_hearsAny at hw
  refine PW.iconst (v := 0) C dX9_hearsAny_0 (by decide) ?_
  refine PW.ist5 C dX9_hearsAny_1 (by decide) rfl ?_
  obtain ⟨n, hw⟩ := hw
  refine PW.wk (wk_s (wk_s (wk_s (wk_s (wk_s (wk_s (wk_n wk_0))))))) (l_X9_hearsAny_3 C hr1 ?_ ?_ n _ _ hw)
  · intro h5 hw
    refine PW.iconst (v := 1) C dX9_hearsAny_51 (by decide) ?_
    exact PW.zret C dX9_hearsAny_52 (by decide) ⟨_, rfl, hw⟩
  · intro h6 hw
    refine PW.iconst (v := 0) C dX9_hearsAny_59 (by decide) ?_
    exact PW.zret C dX9_hearsAny_60 (by decide) ⟨_, rfl, hw⟩
def w_X9_answering_5 (r1 : Nat) (k75 : Int32 → PH → Prop) (Q : Int32 → PH → Prop) (x2 : Int32) (kb : Int32 → Int32 → PH → Prop) (x3 : Int32) (x4 : Int32) (h : PH) : Prop :=
  gP h 0 3 ≠ 0 ∧ oX (gP h 0 3 - 1) 8 ∧ if (gI h ((gP h 0 3 - 1) + 1) 3) ≤ x4 then (k75 x3 h) else (gP h 0 3 ≠ 0 ∧ oX (gP h 0 3 - 1) 8 ∧ w_X6_at ((gP h 0 3 - 1) + 1) x4 1 h (fun z6 h5 => if z6 ≤ 0 then (kb x3 (x4 + 1) h5) else (if (((x2 : Int32) >>> ((x4 : Int32) &&& 31)) &&& 1) = 0 then (w_X9_hearsAny r1 x4 z6 x2 h5 (fun z8 h7 => if z8 = 0 then (kb x3 (x4 + 1) h7) else (∀ (y9 : Int32), y9 = (x3 ||| ((1 : Int32) <<< ((x4 : Int32) &&& 31))) → kb y9 (x4 + 1) h7))) else (kb x3 (x4 + 1) h5))))
set_option maxRecDepth 8000 in
theorem b_X9_answering_5 {D : va_G} {ca : Nat → ClassId} {ad : Nat → Nat} {K : Kt} {r1 : Nat} {k75 : Int32 → PH → Prop} {kb : Int32 → Int32 → PH → Prop} {Q : Int32 → PH → Prop} {x2 : Int32} {x3 : Int32} {x4 : Int32} {h : PH} (C : CX (GX D ca ad) (XS (GX D ca ad)) cX9_answering RX9 6 (some .int) 3 K) (hr1 : oX r1 0) (hk75 : ∀ (x3 : Int32) (h : PH), k75 x3 h → PW (GX D ca ad) K 6 (qI Q) h 75 [none, none, none, some (.int x3), none, none] []) (hkb : ∀ (x3 : Int32) (x4 : Int32) (h : PH), kb x3 x4 h → PW (GX D ca ad) K 6 (qI Q) h 5 [some (.ref 0), some (.ref r1), some (.int x2), some (.int x3), some (.int x4), none] []) (hw : w_X9_answering_5 r1 k75 Q x2 kb x3 x4 h) : PW (GX D ca ad) K 6 (qI Q) h 5 [some (.ref 0), some (.ref r1), some (.int x2), some (.int x3), some (.int x4), none] [] := by
  unfold w_X9_answering_5 at hw
  refine PW.ild4 C dX9_answering_5 ?_
  refine PW.ald0n C dX9_answering_7 ?_
  obtain ⟨hz2, hq1, hw⟩ := hw
  refine PW.get0 C cf_9 fl_X9_23 (by decide) oX_0 (fvP rfl hz2) dX9_answering_8 ?_
  refine PW.getN0 C cf_8 fl_X9_115 (by decide) hq1 (fvR (o := 1) rfl) dX9_answering_11 ?_
  refine PW.getN0 C cf_6 fl_X9_208 (by decide) (sf_8_0 hq1) (fvI rfl) dX9_answering_14 ?_
  refine PW.icmp_ge (tgt := 75) C dX9_answering_17 (by decide) (fun c => ?_) (fun c => ?_)
  · rw [if_pos c] at hw
    exact PW.wk (wk_n (wk_n (wk_n (wk_s (wk_n (wk_n wk_0)))))) (hk75 _ _ hw)
  · rw [if_neg c] at hw
    refine PW.ald0n C dX9_answering_20 ?_
    obtain ⟨hz4, hq3, hw⟩ := hw
    refine PW.get0 C cf_9 fl_X9_23 (by decide) oX_0 (fvP rfl hz4) dX9_answering_21 ?_
    refine PW.getN0 C cf_8 fl_X9_115 (by decide) hq3 (fvR (o := 1) rfl) dX9_answering_24 ?_
    refine PW.ild4 C dX9_answering_27 ?_
    refine PW.iconst (v := 1) C dX9_answering_29 (by decide) ?_
    refine PW.callVI2 C ms_X6_at ml_X9_136 dX9_answering_30 (sf_8_0 hq3) ⟨_, _, rfl⟩ (Nat.le_of_ble_eq_true rfl) (by decide) (Nat.le_of_ble_eq_true rfl) (s_X6_at (sf_8_0 hq3) hw) ?_
    clear hw
    intro z6 h5 hw
    refine PW.ist5 C dX9_answering_33 (by decide) rfl ?_
    refine PW.ild5 C dX9_answering_35 ?_
    refine PW.if_le (tgt := 69) C dX9_answering_37 (by decide) (fun c => ?_) (fun c => ?_)
    · rw [if_pos c] at hw
      refine PW.inc4 (v := 1) C dX9_answering_69 (by decide) rfl (by decide) ?_
      refine PW.goto (tgt := 5) C dX9_answering_72 (by decide) ?_
      exact PW.wk (wk_s (wk_s (wk_s (wk_s (wk_s (wk_n wk_0)))))) (hkb _ _ _ hw)
    · rw [if_neg c] at hw
      refine PW.ild2n C dX9_answering_40 ?_
      refine PW.ild4 C dX9_answering_41 ?_
      refine PW.ishr C dX9_answering_43 ?_
      refine PW.iconst (v := 1) C dX9_answering_44 (by decide) ?_
      refine PW.iand C dX9_answering_45 ?_
      refine PW.if_ne (tgt := 69) C dX9_answering_46 (by decide) (fun c => ?_) (fun c => ?_)
      · rw [if_neg c] at hw
        refine PW.inc4 (v := 1) C dX9_answering_69 (by decide) rfl (by decide) ?_
        refine PW.goto (tgt := 5) C dX9_answering_72 (by decide) ?_
        exact PW.wk (wk_s (wk_s (wk_s (wk_s (wk_s (wk_n wk_0)))))) (hkb _ _ _ hw)
      · rw [if_pos c] at hw
        refine PW.ald0n C dX9_answering_49 ?_
        refine PW.ald1n C dX9_answering_50 ?_
        refine PW.ild4 C dX9_answering_51 ?_
        refine PW.ild5 C dX9_answering_53 ?_
        refine PW.ild2n C dX9_answering_55 ?_
        refine PW.callVI4 C ms_X9_hearsAny ml_X9_302 dX9_answering_56 oX_0 ⟨_, _, rfl⟩ (Nat.le_of_ble_eq_true rfl) (by decide) (Nat.le_of_ble_eq_true rfl) (s_X9_hearsAny hr1 hw) ?_
        clear hw
        intro z8 h7 hw
        refine PW.if_eq (tgt := 69) C dX9_answering_59 (by decide) (fun c => ?_) (fun c => ?_)
        · rw [if_pos c] at hw
          refine PW.inc4 (v := 1) C dX9_answering_69 (by decide) rfl (by decide) ?_
          refine PW.goto (tgt := 5) C dX9_answering_72 (by decide) ?_
          exact PW.wk (wk_s (wk_s (wk_s (wk_s (wk_s (wk_n wk_0)))))) (hkb _ _ _ hw)
        · rw [if_neg c] at hw
          refine PW.ild3n C dX9_answering_62 ?_
          refine PW.iconst (v := 1) C dX9_answering_63 (by decide) ?_
          refine PW.ild4 C dX9_answering_64 ?_
          refine PW.ishl C dX9_answering_66 ?_
          refine PW.ior C dX9_answering_67 ?_
          replace hw := hw _ rfl
          refine PW.ist3n C dX9_answering_68 (by decide) rfl ?_
          refine PW.inc4 (v := 1) C dX9_answering_69 (by decide) rfl (by decide) ?_
          refine PW.goto (tgt := 5) C dX9_answering_72 (by decide) ?_
          exact PW.wk (wk_s (wk_s (wk_s (wk_s (wk_s (wk_n wk_0)))))) (hkb _ _ _ hw)
theorem l_X9_answering_5 {D : va_G} {ca : Nat → ClassId} {ad : Nat → Nat} {K : Kt} {r1 : Nat} {k75 : Int32 → PH → Prop} {Q : Int32 → PH → Prop} {x2 : Int32} (C : CX (GX D ca ad) (XS (GX D ca ad)) cX9_answering RX9 6 (some .int) 3 K) (hr1 : oX r1 0) (hk75 : ∀ (x3 : Int32) (h : PH), k75 x3 h → PW (GX D ca ad) K 6 (qI Q) h 75 [none, none, none, some (.int x3), none, none] []) : ∀ (n : Nat) (x3 : Int32) (x4 : Int32) (h : PH), Lp2 (w_X9_answering_5 r1 k75 Q x2) n x3 x4 h → PW (GX D ca ad) K 6 (qI Q) h 5 [some (.ref 0), some (.ref r1), some (.int x2), some (.int x3), some (.int x4), none] [] := by
  intro n
  induction n with
  | zero => intro x3 x4 h hw; exact hw.elim
  | succ n ih => intro x3 x4 h hw; exact b_X9_answering_5 C hr1 hk75 (fun x3 x4 h hw => ih x3 x4 h hw) hw
def w_X9_answering (r1 : Nat) (x2 : Int32) (h : PH) (Q : Int32 → PH → Prop) : Prop :=
  ∃ n, Lp2 (w_X9_answering_5 r1 (fun y11 h10 => Q y11 h10) Q x2) n 0 0 h
set_option maxRecDepth 8000 in
theorem s_X9_answering {D : va_G} {ca : Nat → ClassId} {ad : Nat → Nat} {l : Launch} {r1 : Nat} {x2 : Int32} {h : PH} {Q : Int32 → PH → Prop} (hr1 : oX r1 0) (hw : w_X9_answering r1 x2 h Q) : Sp (GX D ca ad) (XS (GX D ca ad)) l 3 yX9_answering cX9_answering 6 (some .int) [.ref 0, .ref r1, .int x2] h (qI Q) := by
  refine Sp.of (own := RX9) [some (.ref 0), some (.ref r1), some (.int x2), none, none, none] (by decide +kernel) rfl rfl (Nat.le_of_ble_eq_true rfl) (fun K hl C => ?_)
  subst hl
  unfold w_X9_answering at hw
  refine PW.iconst (v := 0) C dX9_answering_0 (by decide) ?_
  refine PW.ist3n C dX9_answering_1 (by decide) rfl ?_
  refine PW.iconst (v := 0) C dX9_answering_2 (by decide) ?_
  refine PW.ist4 C dX9_answering_3 (by decide) rfl ?_
  obtain ⟨n, hw⟩ := hw
  refine PW.wk (wk_s (wk_s (wk_s (wk_s (wk_s (wk_n wk_0)))))) (l_X9_answering_5 C hr1 ?_ n _ _ _ hw)
  · intro y11 h10 hw
    refine PW.ild3n C dX9_answering_75 ?_
    exact PW.iret C dX9_answering_76 ⟨_, rfl, hw⟩
def w_X9_bark_31 (k50 : PH → Prop) (Q : Int32 → PH → Prop) (x1 : Int32) (x2 : Int32) (kb : Int32 → PH → Prop) (x3 : Int32) (h : PH) : Prop :=
  if 64 ≤ x3 then (k50 h) else (vp_in x3 64 ∧ ∀ h6, h6 = sI h 137 (iN x3) (-1) → kb (x3 + 1) h6)
set_option maxRecDepth 8000 in
theorem b_X9_bark_31 {D : va_G} {ca : Nat → ClassId} {ad : Nat → Nat} {K : Kt} {k50 : PH → Prop} {kb : Int32 → PH → Prop} {Q : Int32 → PH → Prop} {x1 : Int32} {x2 : Int32} {x3 : Int32} {h : PH} (C : CX (GX D ca ad) (XS (GX D ca ad)) cX9_bark RX9 7 (some .int) 6 K) (hk50 : ∀ (h : PH), k50 h → PW (GX D ca ad) K 7 (qI Q) h 50 [some (.ref 0), some (.int x1), some (.int x2), none, none, none, none] []) (hkb : ∀ (x3 : Int32) (h : PH), kb x3 h → PW (GX D ca ad) K 7 (qI Q) h 31 [some (.ref 0), some (.int x1), some (.int x2), some (.int x3), none, none, none] []) (hw : w_X9_bark_31 k50 Q x1 x2 kb x3 h) : PW (GX D ca ad) K 7 (qI Q) h 31 [some (.ref 0), some (.int x1), some (.int x2), some (.int x3), none, none, none] [] := by
  unfold w_X9_bark_31 at hw
  refine PW.ild3n C dX9_bark_31 ?_
  refine PW.bipush (v := 64) C dX9_bark_32 (by decide) ?_
  refine PW.icmp_ge (tgt := 50) C dX9_bark_34 (by decide) (fun c => ?_) (fun c => ?_)
  · rw [if_pos c] at hw
    exact PW.wk (wk_s (wk_s (wk_s (wk_n (wk_n (wk_n (wk_n wk_0))))))) (hk50 _ hw)
  · rw [if_neg c] at hw
    refine PW.ald0n C dX9_bark_37 ?_
    refine PW.get0 (v := .ref 137) C cf_9 fl_X9_76 (by decide) oX_0 (fvR (o := 137) rfl) dX9_bark_38 ?_
    refine PW.ild3n C dX9_bark_41 ?_
    refine PW.iconst (v := (-1)) C dX9_bark_42 (by decide) ?_
    obtain ⟨hc5, hw⟩ := hw
    replace hw := hw _ rfl
    refine PW.iast C dX9_bark_43 aX_137 hc5 ?_
    refine PW.inc3 (v := 1) C dX9_bark_44 (by decide) rfl (by decide) ?_
    refine PW.goto (tgt := 31) C dX9_bark_47 (by decide) ?_
    exact PW.wk (wk_s (wk_s (wk_s (wk_s (wk_n (wk_n (wk_n wk_0))))))) (hkb _ _ hw)
theorem l_X9_bark_31 {D : va_G} {ca : Nat → ClassId} {ad : Nat → Nat} {K : Kt} {k50 : PH → Prop} {Q : Int32 → PH → Prop} {x1 : Int32} {x2 : Int32} (C : CX (GX D ca ad) (XS (GX D ca ad)) cX9_bark RX9 7 (some .int) 6 K) (hk50 : ∀ (h : PH), k50 h → PW (GX D ca ad) K 7 (qI Q) h 50 [some (.ref 0), some (.int x1), some (.int x2), none, none, none, none] []) : ∀ (n : Nat) (x3 : Int32) (h : PH), Lp1 (w_X9_bark_31 k50 Q x1 x2) n x3 h → PW (GX D ca ad) K 7 (qI Q) h 31 [some (.ref 0), some (.int x1), some (.int x2), some (.int x3), none, none, none] [] := by
  intro n
  induction n with
  | zero => intro x3 h hw; exact hw.elim
  | succ n ih => intro x3 h hw; exact b_X9_bark_31 C hk50 (fun x3 h hw => ih x3 h hw) hw
def w_X9_bark_64 (k126 : Int32 → Int32 → Int32 → PH → Prop) (Q : Int32 → PH → Prop) (x2 : Int32) (kb : Int32 → Int32 → Int32 → PH → Prop) (x4 : Int32) (x5 : Int32) (x6 : Int32) (h : PH) : Prop :=
  if 64 < x6 then (k126 x4 x5 x6 h) else (w_X9_isState x4 h (fun z12 h11 => if z12 = 0 then (k126 x4 x5 x6 h11) else (vp_in x4 64 ∧ if (gI h11 137 (iN x4)) = (-1) then (vp_in x4 64 ∧ ∀ h15, h15 = sI h11 137 (iN x4) x6 → w_J6_bitCount_0f7a4 x4 h15 (fun z17 h16 => ∀ (y18 : Int32), y18 = (mxI x5 z17) → w_X9_answering 100 x4 h16 (fun z20 h19 => kb z20 y18 (x6 + 1) h19))) else (k126 x4 x5 x6 h11))))
set_option maxRecDepth 8000 in
theorem b_X9_bark_64 {D : va_G} {ca : Nat → ClassId} {ad : Nat → Nat} {K : Kt} {k126 : Int32 → Int32 → Int32 → PH → Prop} {kb : Int32 → Int32 → Int32 → PH → Prop} {Q : Int32 → PH → Prop} {x2 : Int32} {x4 : Int32} {x5 : Int32} {x6 : Int32} {h : PH} (C : CX (GX D ca ad) (XS (GX D ca ad)) cX9_bark RX9 7 (some .int) 6 K) (hk126 : ∀ (x4 : Int32) (x5 : Int32) (x6 : Int32) (h : PH), k126 x4 x5 x6 h → PW (GX D ca ad) K 7 (qI Q) h 126 [some (.ref 0), none, some (.int x2), none, some (.int x4), some (.int x5), some (.int x6)] []) (hkb : ∀ (x4 : Int32) (x5 : Int32) (x6 : Int32) (h : PH), kb x4 x5 x6 h → PW (GX D ca ad) K 7 (qI Q) h 64 [some (.ref 0), none, some (.int x2), some (.ref 100), some (.int x4), some (.int x5), some (.int x6)] []) (hw : w_X9_bark_64 k126 Q x2 kb x4 x5 x6 h) : PW (GX D ca ad) K 7 (qI Q) h 64 [some (.ref 0), none, some (.int x2), some (.ref 100), some (.int x4), some (.int x5), some (.int x6)] [] := by
  unfold w_X9_bark_64 at hw
  refine PW.ild6 C dX9_bark_64 ?_
  refine PW.bipush (v := 64) C dX9_bark_66 (by decide) ?_
  refine PW.icmp_gt (tgt := 126) C dX9_bark_68 (by decide) (fun c => ?_) (fun c => ?_)
  · rw [if_pos c] at hw
    exact PW.wk (wk_s (wk_n (wk_s (wk_n (wk_s (wk_s (wk_s wk_0))))))) (hk126 _ _ _ _ hw)
  · rw [if_neg c] at hw
    refine PW.ild4 C dX9_bark_71 ?_
    refine PW.callSI1 C ms_X9_isState ml_X9_290 dX9_bark_73 (Nat.le_of_ble_eq_true rfl) (by decide) (Nat.le_of_ble_eq_true rfl) (s_X9_isState hw) ?_
    clear hw
    intro z12 h11 hw
    refine PW.if_eq (tgt := 126) C dX9_bark_76 (by decide) (fun c => ?_) (fun c => ?_)
    · rw [if_pos c] at hw
      exact PW.wk (wk_s (wk_n (wk_s (wk_n (wk_s (wk_s (wk_s wk_0))))))) (hk126 _ _ _ _ hw)
    · rw [if_neg c] at hw
      refine PW.ald0n C dX9_bark_79 ?_
      refine PW.get0 (v := .ref 137) C cf_9 fl_X9_76 (by decide) oX_0 (fvR (o := 137) rfl) dX9_bark_80 ?_
      refine PW.ild4 C dX9_bark_83 ?_
      obtain ⟨hc13, hw⟩ := hw
      refine PW.iald C dX9_bark_85 aX_137 hc13 ?_
      refine PW.iconst (v := (-1)) C dX9_bark_86 (by decide) ?_
      refine PW.icmp_ne (tgt := 126) C dX9_bark_87 (by decide) (fun c => ?_) (fun c => ?_)
      · rw [if_neg c] at hw
        exact PW.wk (wk_s (wk_n (wk_s (wk_n (wk_s (wk_s (wk_s wk_0))))))) (hk126 _ _ _ _ hw)
      · rw [if_pos c] at hw
        refine PW.ald0n C dX9_bark_90 ?_
        refine PW.get0 (v := .ref 137) C cf_9 fl_X9_76 (by decide) oX_0 (fvR (o := 137) rfl) dX9_bark_91 ?_
        refine PW.ild4 C dX9_bark_94 ?_
        refine PW.ild6 C dX9_bark_96 ?_
        obtain ⟨hc14, hw⟩ := hw
        replace hw := hw _ rfl
        refine PW.iast C dX9_bark_98 aX_137 hc14 ?_
        refine PW.ild5 C dX9_bark_99 ?_
        refine PW.ild4 C dX9_bark_101 ?_
        refine PW.callSI1 C ms_J6_bitCount_0f7a4 ml_X9_267 dX9_bark_103 (Nat.le_of_ble_eq_true rfl) (by decide) (Nat.le_of_ble_eq_true rfl) (s_J6_bitCount_0f7a4 hw) ?_
        clear hw
        intro z17 h16 hw
        refine PW.mxI C ml_X9_293 (Nat.le_of_ble_eq_true rfl) (by decide) dX9_bark_106 ?_
        replace hw := hw _ rfl
        refine PW.ist5 C dX9_bark_109 (by decide) rfl ?_
        refine PW.ald0n C dX9_bark_111 ?_
        refine PW.ald3n C dX9_bark_112 ?_
        refine PW.ild4 C dX9_bark_113 ?_
        refine PW.callVI2 C ms_X9_answering ml_X9_298 dX9_bark_115 oX_0 ⟨_, _, rfl⟩ (Nat.le_of_ble_eq_true rfl) (by decide) (Nat.le_of_ble_eq_true rfl) (s_X9_answering oX_100 hw) ?_
        clear hw
        intro z20 h19 hw
        refine PW.ist4 C dX9_bark_118 (by decide) rfl ?_
        refine PW.inc6 (v := 1) C dX9_bark_120 (by decide) rfl (by decide) ?_
        refine PW.goto (tgt := 64) C dX9_bark_123 (by decide) ?_
        exact PW.wk (wk_s (wk_n (wk_s (wk_s (wk_s (wk_s (wk_s wk_0))))))) (hkb _ _ _ _ hw)
theorem l_X9_bark_64 {D : va_G} {ca : Nat → ClassId} {ad : Nat → Nat} {K : Kt} {k126 : Int32 → Int32 → Int32 → PH → Prop} {Q : Int32 → PH → Prop} {x2 : Int32} (C : CX (GX D ca ad) (XS (GX D ca ad)) cX9_bark RX9 7 (some .int) 6 K) (hk126 : ∀ (x4 : Int32) (x5 : Int32) (x6 : Int32) (h : PH), k126 x4 x5 x6 h → PW (GX D ca ad) K 7 (qI Q) h 126 [some (.ref 0), none, some (.int x2), none, some (.int x4), some (.int x5), some (.int x6)] []) : ∀ (n : Nat) (x4 : Int32) (x5 : Int32) (x6 : Int32) (h : PH), Lp3 (w_X9_bark_64 k126 Q x2) n x4 x5 x6 h → PW (GX D ca ad) K 7 (qI Q) h 64 [some (.ref 0), none, some (.int x2), some (.ref 100), some (.int x4), some (.int x5), some (.int x6)] [] := by
  intro n
  induction n with
  | zero => intro x4 x5 x6 h hw; exact hw.elim
  | succ n ih => intro x4 x5 x6 h hw; exact b_X9_bark_64 C hk126 (fun x4 x5 x6 h hw => ih x4 x5 x6 h hw) hw
def w_X9_bark_126 (Q : Int32 → PH → Prop) (x2 : Int32) (x4 : Int32) (x5 : Int32) (x6 : Int32) (h : PH) : Prop :=
  if x2 = 2 then (Q x5 h) else (w_X9_isState x4 h (fun z26 h25 => if z26 = 0 then (if x2 = 0 then (Q x6 h25) else (Q 0 h25)) else (if x2 = 0 then (Q (-2) h25) else (vp_in x4 64 ∧ Q (x6 - (gI h25 137 (iN x4))) h25))))
set_option maxRecDepth 8000 in
theorem b_X9_bark_126 {D : va_G} {ca : Nat → ClassId} {ad : Nat → Nat} {K : Kt} {Q : Int32 → PH → Prop} {x2 : Int32} {x4 : Int32} {x5 : Int32} {x6 : Int32} {h : PH} (C : CX (GX D ca ad) (XS (GX D ca ad)) cX9_bark RX9 7 (some .int) 6 K) (hw : w_X9_bark_126 Q x2 x4 x5 x6 h) : PW (GX D ca ad) K 7 (qI Q) h 126 [some (.ref 0), none, some (.int x2), none, some (.int x4), some (.int x5), some (.int x6)] [] := by
  unfold w_X9_bark_126 at hw
  refine PW.ild2n C dX9_bark_126 ?_
  refine PW.iconst (v := 2) C dX9_bark_127 (by decide) ?_
  refine PW.icmp_ne (tgt := 134) C dX9_bark_128 (by decide) (fun c => ?_) (fun c => ?_)
  · rw [if_neg c] at hw
    refine PW.ild4 C dX9_bark_134 ?_
    refine PW.callSI1 C ms_X9_isState ml_X9_290 dX9_bark_136 (Nat.le_of_ble_eq_true rfl) (by decide) (Nat.le_of_ble_eq_true rfl) (s_X9_isState hw) ?_
    clear hw
    intro z26 h25 hw
    refine PW.if_ne (tgt := 153) C dX9_bark_139 (by decide) (fun c => ?_) (fun c => ?_)
    · rw [if_neg c] at hw
      refine PW.ild2n C dX9_bark_153 ?_
      refine PW.if_ne (tgt := 162) C dX9_bark_154 (by decide) (fun c => ?_) (fun c => ?_)
      · rw [if_neg c] at hw
        refine PW.ild6 C dX9_bark_162 ?_
        refine PW.ald0n C dX9_bark_164 ?_
        refine PW.get0 (v := .ref 137) C cf_9 fl_X9_76 (by decide) oX_0 (fvR (o := 137) rfl) dX9_bark_165 ?_
        refine PW.ild4 C dX9_bark_168 ?_
        obtain ⟨hc27, hw⟩ := hw
        refine PW.iald C dX9_bark_170 aX_137 hc27 ?_
        refine PW.isub C dX9_bark_171 ?_
        exact PW.iret C dX9_bark_172 ⟨_, rfl, hw⟩
      · rw [if_pos c] at hw
        refine PW.bipush (v := (-2)) C dX9_bark_157 (by decide) ?_
        refine PW.goto (tgt := 172) C dX9_bark_159 (by decide) ?_
        exact PW.iret C dX9_bark_172 ⟨_, rfl, hw⟩
    · rw [if_pos c] at hw
      refine PW.ild2n C dX9_bark_142 ?_
      refine PW.if_ne (tgt := 151) C dX9_bark_143 (by decide) (fun c => ?_) (fun c => ?_)
      · rw [if_neg c] at hw
        refine PW.iconst (v := 0) C dX9_bark_151 (by decide) ?_
        exact PW.iret C dX9_bark_152 ⟨_, rfl, hw⟩
      · rw [if_pos c] at hw
        refine PW.ild6 C dX9_bark_146 ?_
        refine PW.goto (tgt := 152) C dX9_bark_148 (by decide) ?_
        exact PW.iret C dX9_bark_152 ⟨_, rfl, hw⟩
  · rw [if_pos c] at hw
    refine PW.ild5 C dX9_bark_131 ?_
    exact PW.iret C dX9_bark_133 ⟨_, rfl, hw⟩
def w_X9_bark (x1 : Int32) (x2 : Int32) (h : PH) (Q : Int32 → PH → Prop) : Prop :=
  if x1 < 0 then (Q (-1) h) else (if x2 < 0 then (Q (-1) h) else (if 2 < x2 then (Q (-1) h) else (gP h 0 3 ≠ 0 ∧ oX (gP h 0 3 - 1) 8 ∧ w_X8_dogs (gP h 0 3 - 1) h (fun z4 h3 => if (x1 &&& (z4 ^^^ (-1))) = 0 then (∃ n, Lp1 (w_X9_bark_31 (fun h7 => w_X9_freshAir h7 (fun z9 h8 => z9 = 100 ∧ ∃ n, Lp3 (w_X9_bark_64 (fun y22 y23 y24 h21 => w_X9_bark_126 Q x2 y22 y23 y24 h21) Q x2) n x1 0 0 h8)) Q x1 x2) n 0 h3) else (Q (-1) h3)))))
set_option maxRecDepth 8000 in
theorem s_X9_bark {D : va_G} {ca : Nat → ClassId} {ad : Nat → Nat} {l : Launch} {x1 : Int32} {x2 : Int32} {h : PH} {Q : Int32 → PH → Prop} (hw : w_X9_bark x1 x2 h Q) : Sp (GX D ca ad) (XS (GX D ca ad)) l 6 yX9_bark cX9_bark 7 (some .int) [.ref 0, .int x1, .int x2] h (qI Q) := by
  refine Sp.of (own := RX9) [some (.ref 0), some (.int x1), some (.int x2), none, none, none, none] (by decide +kernel) rfl rfl (Nat.le_of_ble_eq_true rfl) (fun K hl C => ?_)
  subst hl
  unfold w_X9_bark at hw
  refine PW.ild1n C dX9_bark_0 ?_
  refine PW.if_lt (tgt := 27) C dX9_bark_1 (by decide) (fun c => ?_) (fun c => ?_)
  · rw [if_pos c] at hw
    refine PW.iconst (v := (-1)) C dX9_bark_27 (by decide) ?_
    exact PW.iret C dX9_bark_28 ⟨_, rfl, hw⟩
  · rw [if_neg c] at hw
    refine PW.ild2n C dX9_bark_4 ?_
    refine PW.if_lt (tgt := 27) C dX9_bark_5 (by decide) (fun c => ?_) (fun c => ?_)
    · rw [if_pos c] at hw
      refine PW.iconst (v := (-1)) C dX9_bark_27 (by decide) ?_
      exact PW.iret C dX9_bark_28 ⟨_, rfl, hw⟩
    · rw [if_neg c] at hw
      refine PW.ild2n C dX9_bark_8 ?_
      refine PW.iconst (v := 2) C dX9_bark_9 (by decide) ?_
      refine PW.icmp_gt (tgt := 27) C dX9_bark_10 (by decide) (fun c => ?_) (fun c => ?_)
      · rw [if_pos c] at hw
        refine PW.iconst (v := (-1)) C dX9_bark_27 (by decide) ?_
        exact PW.iret C dX9_bark_28 ⟨_, rfl, hw⟩
      · rw [if_neg c] at hw
        refine PW.ild1n C dX9_bark_13 ?_
        refine PW.ald0n C dX9_bark_14 ?_
        obtain ⟨hz2, hq1, hw⟩ := hw
        refine PW.get0 C cf_9 fl_X9_23 (by decide) oX_0 (fvP rfl hz2) dX9_bark_15 ?_
        refine PW.callVI0 C ms_X8_dogs ml_X9_286 dX9_bark_18 hq1 ⟨_, _, rfl⟩ (Nat.le_of_ble_eq_true rfl) (by decide) (Nat.le_of_ble_eq_true rfl) (s_X8_dogs hq1 hw) ?_
        clear hw
        intro z4 h3 hw
        refine PW.iconst (v := (-1)) C dX9_bark_21 (by decide) ?_
        refine PW.ixor C dX9_bark_22 ?_
        refine PW.iand C dX9_bark_23 ?_
        refine PW.if_eq (tgt := 29) C dX9_bark_24 (by decide) (fun c => ?_) (fun c => ?_)
        · rw [if_pos c] at hw
          refine PW.iconst (v := 0) C dX9_bark_29 (by decide) ?_
          refine PW.ist3n C dX9_bark_30 (by decide) rfl ?_
          obtain ⟨n, hw⟩ := hw
          refine PW.wk (wk_s (wk_s (wk_s (wk_s (wk_n (wk_n (wk_n wk_0))))))) (l_X9_bark_31 C ?_ n _ _ hw)
          · intro h7 hw
            refine PW.ald0n C dX9_bark_50 ?_
            refine PW.callVR0 C ms_X9_freshAir ml_X9_139 dX9_bark_51 oX_0 ⟨_, _, rfl⟩ (Nat.le_of_ble_eq_true rfl) (by decide) (Nat.le_of_ble_eq_true rfl) (s_X9_freshAir hw) ?_
            clear hw
            intro z9 h8 hw
            obtain ⟨hq10, hw⟩ := hw
            subst hq10
            refine PW.ast3n C dX9_bark_54 (by decide) rfl ?_
            refine PW.ild1n C dX9_bark_55 ?_
            refine PW.ist4 C dX9_bark_56 (by decide) rfl ?_
            refine PW.iconst (v := 0) C dX9_bark_58 (by decide) ?_
            refine PW.ist5 C dX9_bark_59 (by decide) rfl ?_
            refine PW.iconst (v := 0) C dX9_bark_61 (by decide) ?_
            refine PW.ist6 C dX9_bark_62 (by decide) rfl ?_
            obtain ⟨n, hw⟩ := hw
            refine PW.wk (wk_s (wk_n (wk_s (wk_s (wk_s (wk_s (wk_s wk_0))))))) (l_X9_bark_64 C ?_ n _ _ _ _ hw)
            · intro y22 y23 y24 h21 hw
              exact PW.wk (wk_s (wk_n (wk_s (wk_n (wk_s (wk_s (wk_s wk_0))))))) (b_X9_bark_126 C hw)
        · rw [if_neg c] at hw
          refine PW.iconst (v := (-1)) C dX9_bark_27 (by decide) ?_
          exact PW.iret C dX9_bark_28 ⟨_, rfl, hw⟩
def w_X9_note_39 (Q : Int32 → PH → Prop) (x1 : Int32) (x2 : Int32) (s1 : Int32) (h : PH) : Prop :=
  w_X6_add 130 s1 x1 x2 0 0 h (fun z8 h7 => Q z8 h7)
set_option maxRecDepth 8000 in
theorem b_X9_note_39 {D : va_G} {ca : Nat → ClassId} {ad : Nat → Nat} {K : Kt} {Q : Int32 → PH → Prop} {x1 : Int32} {x2 : Int32} {s1 : Int32} {h : PH} (C : CX (GX D ca ad) (XS (GX D ca ad)) cX9_note RX9 4 (some .int) 4 K) (hw : w_X9_note_39 Q x1 x2 s1 h) : PW (GX D ca ad) K 4 (qI Q) h 39 [none, some (.int x1), some (.int x2), none] [.int s1, .ref 130] := by
  unfold w_X9_note_39 at hw
  refine PW.ild1n C dX9_note_39 ?_
  refine PW.ild2n C dX9_note_40 ?_
  refine PW.iconst (v := 0) C dX9_note_41 (by decide) ?_
  refine PW.iconst (v := 0) C dX9_note_42 (by decide) ?_
  refine PW.callVI5 C ms_X6_add ml_X9_225 dX9_note_43 oX_130 ⟨_, _, rfl⟩ (Nat.le_of_ble_eq_true rfl) (by decide) (Nat.le_of_ble_eq_true rfl) (s_X6_add oX_130 hw) ?_
  clear hw
  intro z8 h7 hw
  exact PW.iret C dX9_note_46 ⟨_, rfl, hw⟩
def w_X9_note (x1 : Int32) (x2 : Int32) (x3 : Int32) (h : PH) (Q : Int32 → PH → Prop) : Prop :=
  gP h 0 3 ≠ 0 ∧ oX (gP h 0 3 - 1) 8 ∧ w_X6_has ((gP h 0 3 - 1) + 1) x1 h (fun z4 h3 => if z4 = 0 then (Q (-1) h3) else (w_X9_isMinute x2 h3 (fun z6 h5 => if z6 = 0 then (Q (-1) h5) else (if x3 = 0 then (w_X9_note_39 Q x1 x2 0 h5) else (w_X9_note_39 Q x1 x2 1 h5)))))
set_option maxRecDepth 8000 in
theorem s_X9_note {D : va_G} {ca : Nat → ClassId} {ad : Nat → Nat} {l : Launch} {x1 : Int32} {x2 : Int32} {x3 : Int32} {h : PH} {Q : Int32 → PH → Prop} (hw : w_X9_note x1 x2 x3 h Q) : Sp (GX D ca ad) (XS (GX D ca ad)) l 4 yX9_note cX9_note 4 (some .int) [.ref 0, .int x1, .int x2, .int x3] h (qI Q) := by
  refine Sp.of (own := RX9) [some (.ref 0), some (.int x1), some (.int x2), some (.int x3)] (by decide +kernel) rfl rfl (Nat.le_of_ble_eq_true rfl) (fun K hl C => ?_)
  subst hl
  unfold w_X9_note at hw
  refine PW.ald0n C dX9_note_0 ?_
  obtain ⟨hz2, hq1, hw⟩ := hw
  refine PW.get0 C cf_9 fl_X9_23 (by decide) oX_0 (fvP rfl hz2) dX9_note_1 ?_
  refine PW.getN0 C cf_8 fl_X9_115 (by decide) hq1 (fvR (o := 1) rfl) dX9_note_4 ?_
  refine PW.ild1n C dX9_note_7 ?_
  refine PW.callVI1 C ms_X6_has ml_X9_125 dX9_note_8 (sf_8_0 hq1) ⟨_, _, rfl⟩ (Nat.le_of_ble_eq_true rfl) (by decide) (Nat.le_of_ble_eq_true rfl) (s_X6_has (sf_8_0 hq1) hw) ?_
  clear hw
  intro z4 h3 hw
  refine PW.if_eq (tgt := 21) C dX9_note_11 (by decide) (fun c => ?_) (fun c => ?_)
  · rw [if_pos c] at hw
    refine PW.iconst (v := (-1)) C dX9_note_21 (by decide) ?_
    exact PW.iret C dX9_note_22 ⟨_, rfl, hw⟩
  · rw [if_neg c] at hw
    refine PW.ild2n C dX9_note_14 ?_
    refine PW.callSI1 C ms_X9_isMinute ml_X9_186 dX9_note_15 (Nat.le_of_ble_eq_true rfl) (by decide) (Nat.le_of_ble_eq_true rfl) (s_X9_isMinute hw) ?_
    clear hw
    intro z6 h5 hw
    refine PW.if_ne (tgt := 23) C dX9_note_18 (by decide) (fun c => ?_) (fun c => ?_)
    · rw [if_neg c] at hw
      refine PW.ald0n C dX9_note_23 ?_
      refine PW.get0 (v := .ref 129) C cf_9 fl_X9_63 (by decide) oX_0 (fvR (o := 129) rfl) dX9_note_24 ?_
      refine PW.getN0 (v := .ref 130) C cf_2 fl_X9_306 (by decide) oX_129 (fvR (o := 1) rfl) dX9_note_27 ?_
      refine PW.ild3n C dX9_note_30 ?_
      refine PW.if_eq (tgt := 38) C dX9_note_31 (by decide) (fun c => ?_) (fun c => ?_)
      · rw [if_pos c] at hw
        refine PW.iconst (v := 0) C dX9_note_38 (by decide) ?_
        exact PW.wk (wk_n (wk_s (wk_s (wk_n wk_0)))) (b_X9_note_39 C hw)
      · rw [if_neg c] at hw
        refine PW.iconst (v := 1) C dX9_note_34 (by decide) ?_
        refine PW.goto (tgt := 39) C dX9_note_35 (by decide) ?_
        exact PW.wk (wk_n (wk_s (wk_s (wk_n wk_0)))) (b_X9_note_39 C hw)
    · rw [if_pos c] at hw
      refine PW.iconst (v := (-1)) C dX9_note_21 (by decide) ?_
      exact PW.iret C dX9_note_22 ⟨_, rfl, hw⟩
def w_X9_strike (x1 : Int32) (h : PH) (Q : Int32 → PH → Prop) : Prop :=
  w_X6_has 130 x1 h (fun z2 h1 => if z2 = 0 then (Q (-1) h1) else (w_X6_add 130 2 x1 0 0 0 h1 (fun z4 h3 => Q z4 h3)))
set_option maxRecDepth 8000 in
theorem s_X9_strike {D : va_G} {ca : Nat → ClassId} {ad : Nat → Nat} {l : Launch} {x1 : Int32} {h : PH} {Q : Int32 → PH → Prop} (hw : w_X9_strike x1 h Q) : Sp (GX D ca ad) (XS (GX D ca ad)) l 4 yX9_strike cX9_strike 2 (some .int) [.ref 0, .int x1] h (qI Q) := by
  refine Sp.of (own := RX9) [some (.ref 0), some (.int x1)] (by decide +kernel) rfl rfl (Nat.le_of_ble_eq_true rfl) (fun K hl C => ?_)
  subst hl
  unfold w_X9_strike at hw
  refine PW.ald0n C dX9_strike_0 ?_
  refine PW.get0 (v := .ref 129) C cf_9 fl_X9_63 (by decide) oX_0 (fvR (o := 129) rfl) dX9_strike_1 ?_
  refine PW.getN0 (v := .ref 130) C cf_2 fl_X9_306 (by decide) oX_129 (fvR (o := 1) rfl) dX9_strike_4 ?_
  refine PW.ild1n C dX9_strike_7 ?_
  refine PW.callVI1 C ms_X6_has ml_X9_125 dX9_strike_8 oX_130 ⟨_, _, rfl⟩ (Nat.le_of_ble_eq_true rfl) (by decide) (Nat.le_of_ble_eq_true rfl) (s_X6_has oX_130 hw) ?_
  clear hw
  intro z2 h1 hw
  refine PW.if_ne (tgt := 16) C dX9_strike_11 (by decide) (fun c => ?_) (fun c => ?_)
  · rw [if_neg c] at hw
    refine PW.ald0n C dX9_strike_16 ?_
    refine PW.get0 (v := .ref 129) C cf_9 fl_X9_63 (by decide) oX_0 (fvR (o := 129) rfl) dX9_strike_17 ?_
    refine PW.getN0 (v := .ref 130) C cf_2 fl_X9_306 (by decide) oX_129 (fvR (o := 1) rfl) dX9_strike_20 ?_
    refine PW.iconst (v := 2) C dX9_strike_23 (by decide) ?_
    refine PW.ild1n C dX9_strike_24 ?_
    refine PW.iconst (v := 0) C dX9_strike_25 (by decide) ?_
    refine PW.iconst (v := 0) C dX9_strike_26 (by decide) ?_
    refine PW.iconst (v := 0) C dX9_strike_27 (by decide) ?_
    refine PW.callVI5 C ms_X6_add ml_X9_225 dX9_strike_28 oX_130 ⟨_, _, rfl⟩ (Nat.le_of_ble_eq_true rfl) (by decide) (Nat.le_of_ble_eq_true rfl) (s_X6_add oX_130 hw) ?_
    clear hw
    intro z4 h3 hw
    exact PW.iret C dX9_strike_31 ⟨_, rfl, hw⟩
  · rw [if_pos c] at hw
    refine PW.iconst (v := (-1)) C dX9_strike_14 (by decide) ?_
    exact PW.iret C dX9_strike_15 ⟨_, rfl, hw⟩
def w_X9_known (x1 : Int32) (h : PH) (Q : Int32 → PH → Prop) : Prop :=
  if x1 < (-1) then (Q 0 h) else (if x1 ≤ (gI h 130 3) then (∀ h1, h1 = sI h 129 4 x1 → Q 1 h1) else (Q 0 h))
set_option maxRecDepth 8000 in
theorem s_X9_known {D : va_G} {ca : Nat → ClassId} {ad : Nat → Nat} {l : Launch} {x1 : Int32} {h : PH} {Q : Int32 → PH → Prop} (hw : w_X9_known x1 h Q) : Sp (GX D ca ad) (XS (GX D ca ad)) l 1 yX9_known cX9_known 2 (some .boolean) [.ref 0, .int x1] h (qI Q) := by
  refine Sp.of (own := RX9) [some (.ref 0), some (.int x1)] (by decide +kernel) rfl rfl (Nat.le_of_ble_eq_true rfl) (fun K hl C => ?_)
  subst hl
  unfold w_X9_known at hw
  refine PW.ild1n C dX9_known_0 ?_
  refine PW.iconst (v := (-1)) C dX9_known_1 (by decide) ?_
  refine PW.icmp_lt (tgt := 19) C dX9_known_2 (by decide) (fun c => ?_) (fun c => ?_)
  · rw [if_pos c] at hw
    refine PW.iconst (v := 0) C dX9_known_19 (by decide) ?_
    exact PW.zret C dX9_known_20 (by decide) ⟨_, rfl, hw⟩
  · rw [if_neg c] at hw
    refine PW.ild1n C dX9_known_5 ?_
    refine PW.ald0n C dX9_known_6 ?_
    refine PW.get0 (v := .ref 129) C cf_9 fl_X9_63 (by decide) oX_0 (fvR (o := 129) rfl) dX9_known_7 ?_
    refine PW.getN0 (v := .ref 130) C cf_2 fl_X9_306 (by decide) oX_129 (fvR (o := 1) rfl) dX9_known_10 ?_
    refine PW.getN0 C cf_6 fl_X9_208 (by decide) oX_130 (fvI rfl) dX9_known_13 ?_
    refine PW.icmp_le (tgt := 21) C dX9_known_16 (by decide) (fun c => ?_) (fun c => ?_)
    · rw [if_pos c] at hw
      refine PW.ald0n C dX9_known_21 ?_
      refine PW.get0 (v := .ref 129) C cf_9 fl_X9_63 (by decide) oX_0 (fvR (o := 129) rfl) dX9_known_22 ?_
      refine PW.ild1n C dX9_known_25 ?_
      replace hw := hw _ rfl
      refine PW.putN0 C cf_2 fl_X9_309 (by decide) oX_129 rfl rfl rfl (pw_sI oX_129 (by decide) rfl) dX9_known_26 ?_
      refine PW.iconst (v := 1) C dX9_known_29 (by decide) ?_
      exact PW.zret C dX9_known_30 (by decide) ⟨_, rfl, hw⟩
    · rw [if_neg c] at hw
      refine PW.iconst (v := 0) C dX9_known_19 (by decide) ?_
      exact PW.zret C dX9_known_20 (by decide) ⟨_, rfl, hw⟩
def w_X9_thieves (h : PH) (Q : Int32 → PH → Prop) : Prop :=
  gP h 0 3 ≠ 0 ∧ oX (gP h 0 3 - 1) 8 ∧ w_X9_freshAir h (fun z4 h3 => z4 = 100 ∧ w_X2_seek (gP h 0 3 - 1) 100 2147483647 h3 (fun z7 h6 => Q z7 h6))
set_option maxRecDepth 8000 in
theorem s_X9_thieves {D : va_G} {ca : Nat → ClassId} {ad : Nat → Nat} {l : Launch} {h : PH} {Q : Int32 → PH → Prop} (hw : w_X9_thieves h Q) : Sp (GX D ca ad) (XS (GX D ca ad)) l 7 yX9_thieves cX9_thieves 1 (some .int) [.ref 0] h (qI Q) := by
  refine Sp.of (own := RX9) [some (.ref 0)] (by decide +kernel) rfl rfl (Nat.le_of_ble_eq_true rfl) (fun K hl C => ?_)
  subst hl
  unfold w_X9_thieves at hw
  refine PW.ald0n C dX9_thieves_0 ?_
  refine PW.get0 (v := .ref 129) C cf_9 fl_X9_63 (by decide) oX_0 (fvR (o := 129) rfl) dX9_thieves_1 ?_
  refine PW.ald0n C dX9_thieves_4 ?_
  obtain ⟨hz2, hq1, hw⟩ := hw
  refine PW.get0 C cf_9 fl_X9_23 (by decide) oX_0 (fvP rfl hz2) dX9_thieves_5 ?_
  refine PW.ald0n C dX9_thieves_8 ?_
  refine PW.callVR0 C ms_X9_freshAir ml_X9_139 dX9_thieves_9 oX_0 ⟨_, _, rfl⟩ (Nat.le_of_ble_eq_true rfl) (by decide) (Nat.le_of_ble_eq_true rfl) (s_X9_freshAir hw) ?_
  clear hw
  intro z4 h3 hw
  obtain ⟨hq5, hw⟩ := hw
  subst hq5
  refine PW.ldcw (v := 2147483647) C cs_X9_312 dX9_thieves_12 ?_
  refine PW.callVI3 C ms_X2_seek ml_X9_313 dX9_thieves_15 oX_129 ⟨_, _, rfl⟩ (Nat.le_of_ble_eq_true rfl) (by decide) (Nat.le_of_ble_eq_true rfl) (s_X2_seek hq1 oX_100 hw) ?_
  clear hw
  intro z7 h6 hw
  exact PW.iret C dX9_thieves_18 ⟨_, rfl, hw⟩
def w_X9_thief (x1 : Int32) (x2 : Int32) (h : PH) (Q : Int32 → PH → Prop) : Prop :=
  if x1 < 0 then (Q (-1) h) else (if x2 < 0 then (Q (-1) h) else (if x2 ≤ 2 then (gP h 0 3 ≠ 0 ∧ oX (gP h 0 3 - 1) 8 ∧ w_X9_freshAir h (fun z4 h3 => z4 = 100 ∧ w_X2_seek (gP h 0 3 - 1) 100 x1 h3 (fun z7 h6 => if x1 < z7 then (if x2 = 0 then (Q (gI h6 129 5) h6) else (if x2 = 1 then (Q (gI h6 129 6) h6) else (Q (gI h6 129 7) h6))) else (Q (-2) h6)))) else (Q (-1) h)))
set_option maxRecDepth 8000 in
theorem s_X9_thief {D : va_G} {ca : Nat → ClassId} {ad : Nat → Nat} {l : Launch} {x1 : Int32} {x2 : Int32} {h : PH} {Q : Int32 → PH → Prop} (hw : w_X9_thief x1 x2 h Q) : Sp (GX D ca ad) (XS (GX D ca ad)) l 7 yX9_thief cX9_thief 3 (some .int) [.ref 0, .int x1, .int x2] h (qI Q) := by
  refine Sp.of (own := RX9) [some (.ref 0), some (.int x1), some (.int x2)] (by decide +kernel) rfl rfl (Nat.le_of_ble_eq_true rfl) (fun K hl C => ?_)
  subst hl
  unfold w_X9_thief at hw
  refine PW.ild1n C dX9_thief_0 ?_
  refine PW.if_lt (tgt := 13) C dX9_thief_1 (by decide) (fun c => ?_) (fun c => ?_)
  · rw [if_pos c] at hw
    refine PW.iconst (v := (-1)) C dX9_thief_13 (by decide) ?_
    exact PW.iret C dX9_thief_14 ⟨_, rfl, hw⟩
  · rw [if_neg c] at hw
    refine PW.ild2n C dX9_thief_4 ?_
    refine PW.if_lt (tgt := 13) C dX9_thief_5 (by decide) (fun c => ?_) (fun c => ?_)
    · rw [if_pos c] at hw
      refine PW.iconst (v := (-1)) C dX9_thief_13 (by decide) ?_
      exact PW.iret C dX9_thief_14 ⟨_, rfl, hw⟩
    · rw [if_neg c] at hw
      refine PW.ild2n C dX9_thief_8 ?_
      refine PW.iconst (v := 2) C dX9_thief_9 (by decide) ?_
      refine PW.icmp_le (tgt := 15) C dX9_thief_10 (by decide) (fun c => ?_) (fun c => ?_)
      · rw [if_pos c] at hw
        refine PW.ald0n C dX9_thief_15 ?_
        refine PW.get0 (v := .ref 129) C cf_9 fl_X9_63 (by decide) oX_0 (fvR (o := 129) rfl) dX9_thief_16 ?_
        refine PW.ald0n C dX9_thief_19 ?_
        obtain ⟨hz2, hq1, hw⟩ := hw
        refine PW.get0 C cf_9 fl_X9_23 (by decide) oX_0 (fvP rfl hz2) dX9_thief_20 ?_
        refine PW.ald0n C dX9_thief_23 ?_
        refine PW.callVR0 C ms_X9_freshAir ml_X9_139 dX9_thief_24 oX_0 ⟨_, _, rfl⟩ (Nat.le_of_ble_eq_true rfl) (by decide) (Nat.le_of_ble_eq_true rfl) (s_X9_freshAir hw) ?_
        clear hw
        intro z4 h3 hw
        obtain ⟨hq5, hw⟩ := hw
        subst hq5
        refine PW.ild1n C dX9_thief_27 ?_
        refine PW.callVI3 C ms_X2_seek ml_X9_313 dX9_thief_28 oX_129 ⟨_, _, rfl⟩ (Nat.le_of_ble_eq_true rfl) (by decide) (Nat.le_of_ble_eq_true rfl) (s_X2_seek hq1 oX_100 hw) ?_
        clear hw
        intro z7 h6 hw
        refine PW.ild1n C dX9_thief_31 ?_
        refine PW.icmp_gt (tgt := 38) C dX9_thief_32 (by decide) (fun c => ?_) (fun c => ?_)
        · rw [if_pos c] at hw
          refine PW.ild2n C dX9_thief_38 ?_
          refine PW.if_ne (tgt := 50) C dX9_thief_39 (by decide) (fun c => ?_) (fun c => ?_)
          · rw [if_neg c] at hw
            refine PW.ild2n C dX9_thief_50 ?_
            refine PW.iconst (v := 1) C dX9_thief_51 (by decide) ?_
            refine PW.icmp_ne (tgt := 65) C dX9_thief_52 (by decide) (fun c => ?_) (fun c => ?_)
            · rw [if_neg c] at hw
              refine PW.ald0n C dX9_thief_65 ?_
              refine PW.get0 (v := .ref 129) C cf_9 fl_X9_63 (by decide) oX_0 (fvR (o := 129) rfl) dX9_thief_66 ?_
              refine PW.getN0 C cf_2 fl_X9_322 (by decide) oX_129 (fvI rfl) dX9_thief_69 ?_
              exact PW.iret C dX9_thief_72 ⟨_, rfl, hw⟩
            · rw [if_pos c] at hw
              refine PW.ald0n C dX9_thief_55 ?_
              refine PW.get0 (v := .ref 129) C cf_9 fl_X9_63 (by decide) oX_0 (fvR (o := 129) rfl) dX9_thief_56 ?_
              refine PW.getN0 C cf_2 fl_X9_319 (by decide) oX_129 (fvI rfl) dX9_thief_59 ?_
              refine PW.goto (tgt := 72) C dX9_thief_62 (by decide) ?_
              exact PW.iret C dX9_thief_72 ⟨_, rfl, hw⟩
          · rw [if_pos c] at hw
            refine PW.ald0n C dX9_thief_42 ?_
            refine PW.get0 (v := .ref 129) C cf_9 fl_X9_63 (by decide) oX_0 (fvR (o := 129) rfl) dX9_thief_43 ?_
            refine PW.getN0 C cf_2 fl_X9_316 (by decide) oX_129 (fvI rfl) dX9_thief_46 ?_
            exact PW.iret C dX9_thief_49 ⟨_, rfl, hw⟩
        · rw [if_neg c] at hw
          refine PW.bipush (v := (-2)) C dX9_thief_35 (by decide) ?_
          exact PW.iret C dX9_thief_37 ⟨_, rfl, hw⟩
      · rw [if_neg c] at hw
        refine PW.iconst (v := (-1)) C dX9_thief_13 (by decide) ?_
        exact PW.iret C dX9_thief_14 ⟨_, rfl, hw⟩
def w_X9_inherit_227 (Q : PH → Prop) (x5 : Int32) (x7 : Int32) (x10 : Int32) (s1 : Int32) (h : PH) : Prop :=
  w_X6_add 86 s1 x5 x10 x7 0 h (fun z27 h26 => Q h26)
set_option maxRecDepth 8000 in
theorem b_X9_inherit_227 {D : va_G} {ca : Nat → ClassId} {ad : Nat → Nat} {K : Kt} {Q : PH → Prop} {x5 : Int32} {x7 : Int32} {x10 : Int32} {s1 : Int32} {h : PH} (C : CX (GX D ca ad) (XS (GX D ca ad)) cX9_inherit RX9 11 none 4 K) (hw : w_X9_inherit_227 Q x5 x7 x10 s1 h) : PW (GX D ca ad) K 11 (qV Q) h 227 [none, none, none, none, none, some (.int x5), none, some (.int x7), none, none, some (.int x10)] [.int s1, .ref 86] := by
  unfold w_X9_inherit_227 at hw
  refine PW.ild5 C dX9_inherit_227 ?_
  refine PW.ild10 C dX9_inherit_229 ?_
  refine PW.ild7 C dX9_inherit_231 ?_
  refine PW.iconst (v := 0) C dX9_inherit_233 (by decide) ?_
  refine PW.callVI5 C ms_X6_add ml_X9_225 dX9_inherit_234 oX_86 ⟨_, _, rfl⟩ (Nat.le_of_ble_eq_true rfl) (by decide) (Nat.le_of_ble_eq_true rfl) (s_X6_add oX_86 hw) ?_
  clear hw
  intro z27 h26 hw
  refine PW.pop C dX9_inherit_237 rfl ?_
  exact PW.vret C dX9_inherit_238 ⟨rfl, hw⟩
def w_X9_inherit_220 (Q : PH → Prop) (x5 : Int32) (x7 : Int32) (x8 : Int32) (x10 : Int32) (h : PH) : Prop :=
  w_X9_inherit_227 Q x5 x7 x10 x8 h
set_option maxRecDepth 8000 in
theorem b_X9_inherit_220 {D : va_G} {ca : Nat → ClassId} {ad : Nat → Nat} {K : Kt} {Q : PH → Prop} {x5 : Int32} {x7 : Int32} {x8 : Int32} {x10 : Int32} {h : PH} (C : CX (GX D ca ad) (XS (GX D ca ad)) cX9_inherit RX9 11 none 4 K) (hw : w_X9_inherit_220 Q x5 x7 x8 x10 h) : PW (GX D ca ad) K 11 (qV Q) h 220 [none, none, none, none, none, some (.int x5), none, some (.int x7), some (.int x8), none, some (.int x10)] [.ref 86] := by
  unfold w_X9_inherit_220 at hw
  refine PW.ild8 C dX9_inherit_220 ?_
  refine PW.goto (tgt := 227) C dX9_inherit_222 (by decide) ?_
  exact PW.wk (wk_n (wk_n (wk_n (wk_n (wk_n (wk_s (wk_n (wk_s (wk_n (wk_n (wk_s wk_0))))))))))) (b_X9_inherit_227 C hw)
def w_X9_inherit_201 (Q : PH → Prop) (x2 : Int32) (x5 : Int32) (x7 : Int32) (x8 : Int32) (x9 : Int32) (x10 : Int32) (h : PH) : Prop :=
  if x9 = (-1) then (w_X9_inherit_220 Q x5 x7 x8 x10 h) else (if x9 = x2 then (w_X9_inherit_220 Q x5 x7 x8 x10 h) else (w_X9_inherit_227 Q x5 x7 x10 x9 h))
set_option maxRecDepth 8000 in
theorem b_X9_inherit_201 {D : va_G} {ca : Nat → ClassId} {ad : Nat → Nat} {K : Kt} {Q : PH → Prop} {x2 : Int32} {x5 : Int32} {x7 : Int32} {x8 : Int32} {x9 : Int32} {x10 : Int32} {h : PH} (C : CX (GX D ca ad) (XS (GX D ca ad)) cX9_inherit RX9 11 none 4 K) (hw : w_X9_inherit_201 Q x2 x5 x7 x8 x9 x10 h) : PW (GX D ca ad) K 11 (qV Q) h 201 [some (.ref 0), none, some (.int x2), none, none, some (.int x5), none, some (.int x7), some (.int x8), some (.int x9), some (.int x10)] [] := by
  unfold w_X9_inherit_201 at hw
  refine PW.ald0n C dX9_inherit_201 ?_
  refine PW.get0 (v := .ref 77) C cf_9 fl_X9_33 (by decide) oX_0 (fvR (o := 77) rfl) dX9_inherit_202 ?_
  refine PW.getN0 (v := .ref 86) C cf_8 fl_X9_159 (by decide) oX_77 (fvR (o := 9) rfl) dX9_inherit_205 ?_
  refine PW.ild9 C dX9_inherit_208 ?_
  refine PW.iconst (v := (-1)) C dX9_inherit_210 (by decide) ?_
  refine PW.icmp_eq (tgt := 220) C dX9_inherit_211 (by decide) (fun c => ?_) (fun c => ?_)
  · rw [if_pos c] at hw
    exact PW.wk (wk_n (wk_n (wk_n (wk_n (wk_n (wk_s (wk_n (wk_s (wk_s (wk_n (wk_s wk_0))))))))))) (b_X9_inherit_220 C hw)
  · rw [if_neg c] at hw
    refine PW.ild9 C dX9_inherit_214 ?_
    refine PW.ild2n C dX9_inherit_216 ?_
    refine PW.icmp_ne (tgt := 225) C dX9_inherit_217 (by decide) (fun c => ?_) (fun c => ?_)
    · rw [if_neg c] at hw
      refine PW.ild9 C dX9_inherit_225 ?_
      exact PW.wk (wk_n (wk_n (wk_n (wk_n (wk_n (wk_s (wk_n (wk_s (wk_n (wk_n (wk_s wk_0))))))))))) (b_X9_inherit_227 C hw)
    · rw [if_pos c] at hw
      exact PW.wk (wk_n (wk_n (wk_n (wk_n (wk_n (wk_s (wk_n (wk_s (wk_s (wk_n (wk_s wk_0))))))))))) (b_X9_inherit_220 C hw)
def w_X9_inherit_132 (Q : PH → Prop) (x2 : Int32) (x3 : Int32) (x5 : Int32) (x6 : Int32) (x7 : Int32) (x8 : Int32) (h : PH) : Prop :=
  if x3 = 1 then (if x8 = (-1) then (Q h) else (gP h 0 3 ≠ 0 ∧ oX (gP h 0 3 - 1) 8 ∧ w_X6_at ((gP h 0 3 - 1) + 5) x8 2 h (fun z24 h23 => ∀ (y25 : Int32), y25 = (x6 + (((x7 - x6) + 1) / 2)) → if y25 ≤ x6 then (w_X9_inherit_201 Q x2 x5 x7 x8 z24 y25 h23) else (w_X6_add 86 x8 x5 x6 (y25 - 1) 0 h23 (fun z29 h28 => w_X9_inherit_201 Q x2 x5 x7 x8 z24 y25 h28))))) else (Q h)
set_option maxRecDepth 8000 in
theorem b_X9_inherit_132 {D : va_G} {ca : Nat → ClassId} {ad : Nat → Nat} {K : Kt} {Q : PH → Prop} {x2 : Int32} {x3 : Int32} {x5 : Int32} {x6 : Int32} {x7 : Int32} {x8 : Int32} {h : PH} (C : CX (GX D ca ad) (XS (GX D ca ad)) cX9_inherit RX9 11 none 4 K) (hw : w_X9_inherit_132 Q x2 x3 x5 x6 x7 x8 h) : PW (GX D ca ad) K 11 (qV Q) h 132 [some (.ref 0), none, some (.int x2), some (.int x3), none, some (.int x5), some (.int x6), some (.int x7), some (.int x8), none, none] [] := by
  unfold w_X9_inherit_132 at hw
  refine PW.ild3n C dX9_inherit_132 ?_
  refine PW.iconst (v := 1) C dX9_inherit_133 (by decide) ?_
  refine PW.icmp_ne (tgt := 238) C dX9_inherit_134 (by decide) (fun c => ?_) (fun c => ?_)
  · rw [if_neg c] at hw
    exact PW.vret C dX9_inherit_238 ⟨rfl, hw⟩
  · rw [if_pos c] at hw
    refine PW.ild8 C dX9_inherit_137 ?_
    refine PW.iconst (v := (-1)) C dX9_inherit_139 (by decide) ?_
    refine PW.icmp_eq (tgt := 238) C dX9_inherit_140 (by decide) (fun c => ?_) (fun c => ?_)
    · rw [if_pos c] at hw
      exact PW.vret C dX9_inherit_238 ⟨rfl, hw⟩
    · rw [if_neg c] at hw
      refine PW.ald0n C dX9_inherit_143 ?_
      obtain ⟨hz22, hq21, hw⟩ := hw
      refine PW.get0 C cf_9 fl_X9_23 (by decide) oX_0 (fvP rfl hz22) dX9_inherit_144 ?_
      refine PW.getN0 C cf_8 fl_X9_122 (by decide) hq21 (fvR (o := 5) rfl) dX9_inherit_147 ?_
      refine PW.ild8 C dX9_inherit_150 ?_
      refine PW.iconst (v := 2) C dX9_inherit_152 (by decide) ?_
      refine PW.callVI2 C ms_X6_at ml_X9_136 dX9_inherit_153 (sf_8_2 hq21) ⟨_, _, rfl⟩ (Nat.le_of_ble_eq_true rfl) (by decide) (Nat.le_of_ble_eq_true rfl) (s_X6_at (sf_8_2 hq21) hw) ?_
      clear hw
      intro z24 h23 hw
      refine PW.ist9 C dX9_inherit_156 (by decide) rfl ?_
      refine PW.ild6 C dX9_inherit_158 ?_
      refine PW.ild7 C dX9_inherit_160 ?_
      refine PW.ild6 C dX9_inherit_162 ?_
      refine PW.isub C dX9_inherit_164 ?_
      refine PW.iconst (v := 1) C dX9_inherit_165 (by decide) ?_
      refine PW.iadd C dX9_inherit_166 ?_
      refine PW.iconst (v := 2) C dX9_inherit_167 (by decide) ?_
      refine PW.idiv C dX9_inherit_168 (by decide) ?_
      refine PW.iadd C dX9_inherit_169 ?_
      replace hw := hw _ rfl
      refine PW.ist10 C dX9_inherit_170 (by decide) rfl ?_
      refine PW.ild10 C dX9_inherit_172 ?_
      refine PW.ild6 C dX9_inherit_174 ?_
      refine PW.icmp_le (tgt := 201) C dX9_inherit_176 (by decide) (fun c => ?_) (fun c => ?_)
      · rw [if_pos c] at hw
        exact PW.wk (wk_s (wk_n (wk_s (wk_n (wk_n (wk_s (wk_n (wk_s (wk_s (wk_s (wk_s wk_0))))))))))) (b_X9_inherit_201 C hw)
      · rw [if_neg c] at hw
        refine PW.ald0n C dX9_inherit_179 ?_
        refine PW.get0 (v := .ref 77) C cf_9 fl_X9_33 (by decide) oX_0 (fvR (o := 77) rfl) dX9_inherit_180 ?_
        refine PW.getN0 (v := .ref 86) C cf_8 fl_X9_159 (by decide) oX_77 (fvR (o := 9) rfl) dX9_inherit_183 ?_
        refine PW.ild8 C dX9_inherit_186 ?_
        refine PW.ild5 C dX9_inherit_188 ?_
        refine PW.ild6 C dX9_inherit_190 ?_
        refine PW.ild10 C dX9_inherit_192 ?_
        refine PW.iconst (v := 1) C dX9_inherit_194 (by decide) ?_
        refine PW.isub C dX9_inherit_195 ?_
        refine PW.iconst (v := 0) C dX9_inherit_196 (by decide) ?_
        refine PW.callVI5 C ms_X6_add ml_X9_225 dX9_inherit_197 oX_86 ⟨_, _, rfl⟩ (Nat.le_of_ble_eq_true rfl) (by decide) (Nat.le_of_ble_eq_true rfl) (s_X6_add oX_86 hw) ?_
        clear hw
        intro z29 h28 hw
        refine PW.pop C dX9_inherit_200 rfl ?_
        exact PW.wk (wk_s (wk_n (wk_s (wk_n (wk_n (wk_s (wk_n (wk_s (wk_s (wk_s (wk_s wk_0))))))))))) (b_X9_inherit_201 C hw)
def w_X9_inherit (x1 : Int32) (x2 : Int32) (x3 : Int32) (h : PH) (Q : PH → Prop) : Prop :=
  gP h 0 3 ≠ 0 ∧ oX (gP h 0 3 - 1) 8 ∧ w_X6_at ((gP h 0 3 - 1) + 9) x1 0 h (fun z4 h3 => gP h3 0 3 ≠ 0 ∧ oX (gP h3 0 3 - 1) 8 ∧ w_X6_at ((gP h3 0 3 - 1) + 9) x1 1 h3 (fun z8 h7 => gP h7 0 3 ≠ 0 ∧ oX (gP h7 0 3 - 1) 8 ∧ w_X6_at ((gP h7 0 3 - 1) + 9) x1 2 h7 (fun z12 h11 => gP h11 0 3 ≠ 0 ∧ oX (gP h11 0 3 - 1) 8 ∧ w_X6_at ((gP h11 0 3 - 1) + 9) x1 3 h11 (fun z16 h15 => gP h15 0 3 ≠ 0 ∧ oX (gP h15 0 3 - 1) 8 ∧ w_X6_at ((gP h15 0 3 - 1) + 5) x2 2 h15 (fun z20 h19 => if z4 = x2 then (if x3 = 0 then (if z20 = (-1) then (w_X9_inherit_132 Q x2 x3 z8 z12 z16 z20 h19) else (w_X6_add 86 z20 z8 z12 z16 0 h19 (fun z31 h30 => Q h30))) else (w_X9_inherit_132 Q x2 x3 z8 z12 z16 z20 h19)) else (w_X6_add 86 z4 z8 z12 z16 0 h19 (fun z33 h32 => Q h32)))))))
set_option maxRecDepth 8000 in
theorem s_X9_inherit {D : va_G} {ca : Nat → ClassId} {ad : Nat → Nat} {l : Launch} {x1 : Int32} {x2 : Int32} {x3 : Int32} {h : PH} {Q : PH → Prop} (hw : w_X9_inherit x1 x2 x3 h Q) : Sp (GX D ca ad) (XS (GX D ca ad)) l 4 yX9_inherit cX9_inherit 11 none [.ref 0, .int x1, .int x2, .int x3] h (qV Q) := by
  refine Sp.of (own := RX9) [some (.ref 0), some (.int x1), some (.int x2), some (.int x3), none, none, none, none, none, none, none] (by decide +kernel) rfl rfl (Nat.le_of_ble_eq_true rfl) (fun K hl C => ?_)
  subst hl
  unfold w_X9_inherit at hw
  refine PW.ald0n C dX9_inherit_0 ?_
  obtain ⟨hz2, hq1, hw⟩ := hw
  refine PW.get0 C cf_9 fl_X9_23 (by decide) oX_0 (fvP rfl hz2) dX9_inherit_1 ?_
  refine PW.getN0 C cf_8 fl_X9_159 (by decide) hq1 (fvR (o := 9) rfl) dX9_inherit_4 ?_
  refine PW.ild1n C dX9_inherit_7 ?_
  refine PW.iconst (v := 0) C dX9_inherit_8 (by decide) ?_
  refine PW.callVI2 C ms_X6_at ml_X9_136 dX9_inherit_9 (sf_8_4 hq1) ⟨_, _, rfl⟩ (Nat.le_of_ble_eq_true rfl) (by decide) (Nat.le_of_ble_eq_true rfl) (s_X6_at (sf_8_4 hq1) hw) ?_
  clear hw
  intro z4 h3 hw
  refine PW.ist4 C dX9_inherit_12 (by decide) rfl ?_
  refine PW.ald0n C dX9_inherit_14 ?_
  obtain ⟨hz6, hq5, hw⟩ := hw
  refine PW.get0 C cf_9 fl_X9_23 (by decide) oX_0 (fvP rfl hz6) dX9_inherit_15 ?_
  refine PW.getN0 C cf_8 fl_X9_159 (by decide) hq5 (fvR (o := 9) rfl) dX9_inherit_18 ?_
  refine PW.ild1n C dX9_inherit_21 ?_
  refine PW.iconst (v := 1) C dX9_inherit_22 (by decide) ?_
  refine PW.callVI2 C ms_X6_at ml_X9_136 dX9_inherit_23 (sf_8_4 hq5) ⟨_, _, rfl⟩ (Nat.le_of_ble_eq_true rfl) (by decide) (Nat.le_of_ble_eq_true rfl) (s_X6_at (sf_8_4 hq5) hw) ?_
  clear hw
  intro z8 h7 hw
  refine PW.ist5 C dX9_inherit_26 (by decide) rfl ?_
  refine PW.ald0n C dX9_inherit_28 ?_
  obtain ⟨hz10, hq9, hw⟩ := hw
  refine PW.get0 C cf_9 fl_X9_23 (by decide) oX_0 (fvP rfl hz10) dX9_inherit_29 ?_
  refine PW.getN0 C cf_8 fl_X9_159 (by decide) hq9 (fvR (o := 9) rfl) dX9_inherit_32 ?_
  refine PW.ild1n C dX9_inherit_35 ?_
  refine PW.iconst (v := 2) C dX9_inherit_36 (by decide) ?_
  refine PW.callVI2 C ms_X6_at ml_X9_136 dX9_inherit_37 (sf_8_4 hq9) ⟨_, _, rfl⟩ (Nat.le_of_ble_eq_true rfl) (by decide) (Nat.le_of_ble_eq_true rfl) (s_X6_at (sf_8_4 hq9) hw) ?_
  clear hw
  intro z12 h11 hw
  refine PW.ist6 C dX9_inherit_40 (by decide) rfl ?_
  refine PW.ald0n C dX9_inherit_42 ?_
  obtain ⟨hz14, hq13, hw⟩ := hw
  refine PW.get0 C cf_9 fl_X9_23 (by decide) oX_0 (fvP rfl hz14) dX9_inherit_43 ?_
  refine PW.getN0 C cf_8 fl_X9_159 (by decide) hq13 (fvR (o := 9) rfl) dX9_inherit_46 ?_
  refine PW.ild1n C dX9_inherit_49 ?_
  refine PW.iconst (v := 3) C dX9_inherit_50 (by decide) ?_
  refine PW.callVI2 C ms_X6_at ml_X9_136 dX9_inherit_51 (sf_8_4 hq13) ⟨_, _, rfl⟩ (Nat.le_of_ble_eq_true rfl) (by decide) (Nat.le_of_ble_eq_true rfl) (s_X6_at (sf_8_4 hq13) hw) ?_
  clear hw
  intro z16 h15 hw
  refine PW.ist7 C dX9_inherit_54 (by decide) rfl ?_
  refine PW.ald0n C dX9_inherit_56 ?_
  obtain ⟨hz18, hq17, hw⟩ := hw
  refine PW.get0 C cf_9 fl_X9_23 (by decide) oX_0 (fvP rfl hz18) dX9_inherit_57 ?_
  refine PW.getN0 C cf_8 fl_X9_122 (by decide) hq17 (fvR (o := 5) rfl) dX9_inherit_60 ?_
  refine PW.ild2n C dX9_inherit_63 ?_
  refine PW.iconst (v := 2) C dX9_inherit_64 (by decide) ?_
  refine PW.callVI2 C ms_X6_at ml_X9_136 dX9_inherit_65 (sf_8_2 hq17) ⟨_, _, rfl⟩ (Nat.le_of_ble_eq_true rfl) (by decide) (Nat.le_of_ble_eq_true rfl) (s_X6_at (sf_8_2 hq17) hw) ?_
  clear hw
  intro z20 h19 hw
  refine PW.ist8 C dX9_inherit_68 (by decide) rfl ?_
  refine PW.ild4 C dX9_inherit_70 ?_
  refine PW.ild2n C dX9_inherit_72 ?_
  refine PW.icmp_eq (tgt := 99) C dX9_inherit_73 (by decide) (fun c => ?_) (fun c => ?_)
  · rw [if_pos c] at hw
    refine PW.ild3n C dX9_inherit_99 ?_
    refine PW.if_ne (tgt := 132) C dX9_inherit_100 (by decide) (fun c => ?_) (fun c => ?_)
    · rw [if_neg c] at hw
      exact PW.wk (wk_s (wk_n (wk_s (wk_s (wk_n (wk_s (wk_s (wk_s (wk_s (wk_n (wk_n wk_0))))))))))) (b_X9_inherit_132 C hw)
    · rw [if_pos c] at hw
      refine PW.ild8 C dX9_inherit_103 ?_
      refine PW.iconst (v := (-1)) C dX9_inherit_105 (by decide) ?_
      refine PW.icmp_eq (tgt := 132) C dX9_inherit_106 (by decide) (fun c => ?_) (fun c => ?_)
      · rw [if_pos c] at hw
        exact PW.wk (wk_s (wk_n (wk_s (wk_s (wk_n (wk_s (wk_s (wk_s (wk_s (wk_n (wk_n wk_0))))))))))) (b_X9_inherit_132 C hw)
      · rw [if_neg c] at hw
        refine PW.ald0n C dX9_inherit_109 ?_
        refine PW.get0 (v := .ref 77) C cf_9 fl_X9_33 (by decide) oX_0 (fvR (o := 77) rfl) dX9_inherit_110 ?_
        refine PW.getN0 (v := .ref 86) C cf_8 fl_X9_159 (by decide) oX_77 (fvR (o := 9) rfl) dX9_inherit_113 ?_
        refine PW.ild8 C dX9_inherit_116 ?_
        refine PW.ild5 C dX9_inherit_118 ?_
        refine PW.ild6 C dX9_inherit_120 ?_
        refine PW.ild7 C dX9_inherit_122 ?_
        refine PW.iconst (v := 0) C dX9_inherit_124 (by decide) ?_
        refine PW.callVI5 C ms_X6_add ml_X9_225 dX9_inherit_125 oX_86 ⟨_, _, rfl⟩ (Nat.le_of_ble_eq_true rfl) (by decide) (Nat.le_of_ble_eq_true rfl) (s_X6_add oX_86 hw) ?_
        clear hw
        intro z31 h30 hw
        refine PW.pop C dX9_inherit_128 rfl ?_
        refine PW.goto (tgt := 238) C dX9_inherit_129 (by decide) ?_
        exact PW.vret C dX9_inherit_238 ⟨rfl, hw⟩
  · rw [if_neg c] at hw
    refine PW.ald0n C dX9_inherit_76 ?_
    refine PW.get0 (v := .ref 77) C cf_9 fl_X9_33 (by decide) oX_0 (fvR (o := 77) rfl) dX9_inherit_77 ?_
    refine PW.getN0 (v := .ref 86) C cf_8 fl_X9_159 (by decide) oX_77 (fvR (o := 9) rfl) dX9_inherit_80 ?_
    refine PW.ild4 C dX9_inherit_83 ?_
    refine PW.ild5 C dX9_inherit_85 ?_
    refine PW.ild6 C dX9_inherit_87 ?_
    refine PW.ild7 C dX9_inherit_89 ?_
    refine PW.iconst (v := 0) C dX9_inherit_91 (by decide) ?_
    refine PW.callVI5 C ms_X6_add ml_X9_225 dX9_inherit_92 oX_86 ⟨_, _, rfl⟩ (Nat.le_of_ble_eq_true rfl) (by decide) (Nat.le_of_ble_eq_true rfl) (s_X6_add oX_86 hw) ?_
    clear hw
    intro z33 h32 hw
    refine PW.pop C dX9_inherit_95 rfl ?_
    refine PW.goto (tgt := 238) C dX9_inherit_96 (by decide) ?_
    exact PW.vret C dX9_inherit_238 ⟨rfl, hw⟩
def w_X9_measureTrial (x1 : Int32) (h : PH) (Q : PH → Prop) : Prop :=
  w_X0_measureWays 106 77 x1 h (fun h1 => w_X0_listen 106 77 h1 (fun h2 => w_X0_settle 106 77 h2 (fun h3 => Q h3)))
set_option maxRecDepth 8000 in
theorem s_X9_measureTrial {D : va_G} {ca : Nat → ClassId} {ad : Nat → Nat} {l : Launch} {x1 : Int32} {h : PH} {Q : PH → Prop} (hw : w_X9_measureTrial x1 h Q) : Sp (GX D ca ad) (XS (GX D ca ad)) l 5 yX9_measureTrial cX9_measureTrial 2 none [.ref 0, .int x1] h (qV Q) := by
  refine Sp.of (own := RX9) [some (.ref 0), some (.int x1)] (by decide +kernel) rfl rfl (Nat.le_of_ble_eq_true rfl) (fun K hl C => ?_)
  subst hl
  unfold w_X9_measureTrial at hw
  refine PW.ald0n C dX9_measureTrial_0 ?_
  refine PW.get0 (v := .ref 106) C cf_9 fl_X9_43 (by decide) oX_0 (fvR (o := 106) rfl) dX9_measureTrial_1 ?_
  refine PW.ald0n C dX9_measureTrial_4 ?_
  refine PW.get0 (v := .ref 77) C cf_9 fl_X9_33 (by decide) oX_0 (fvR (o := 77) rfl) dX9_measureTrial_5 ?_
  refine PW.ild1n C dX9_measureTrial_8 ?_
  refine PW.callVV2 C ms_X0_measureWays ml_X9_279 dX9_measureTrial_9 oX_106 ⟨_, _, rfl⟩ (Nat.le_of_ble_eq_true rfl) (by decide) (Nat.le_of_ble_eq_true rfl) (s_X0_measureWays oX_106 oX_77 hw) ?_
  clear hw
  intro h1 hw
  refine PW.ald0n C dX9_measureTrial_12 ?_
  refine PW.get0 (v := .ref 106) C cf_9 fl_X9_43 (by decide) oX_0 (fvR (o := 106) rfl) dX9_measureTrial_13 ?_
  refine PW.ald0n C dX9_measureTrial_16 ?_
  refine PW.get0 (v := .ref 77) C cf_9 fl_X9_33 (by decide) oX_0 (fvR (o := 77) rfl) dX9_measureTrial_17 ?_
  refine PW.callVV1 C ms_X0_listen ml_X9_376 dX9_measureTrial_20 oX_106 ⟨_, _, rfl⟩ (Nat.le_of_ble_eq_true rfl) (by decide) (Nat.le_of_ble_eq_true rfl) (s_X0_listen oX_106 oX_77 hw) ?_
  clear hw
  intro h2 hw
  refine PW.ald0n C dX9_measureTrial_23 ?_
  refine PW.get0 (v := .ref 106) C cf_9 fl_X9_43 (by decide) oX_0 (fvR (o := 106) rfl) dX9_measureTrial_24 ?_
  refine PW.ald0n C dX9_measureTrial_27 ?_
  refine PW.get0 (v := .ref 77) C cf_9 fl_X9_33 (by decide) oX_0 (fvR (o := 77) rfl) dX9_measureTrial_28 ?_
  refine PW.callVV1 C ms_X0_settle ml_X9_379 dX9_measureTrial_31 oX_106 ⟨_, _, rfl⟩ (Nat.le_of_ble_eq_true rfl) (by decide) (Nat.le_of_ble_eq_true rfl) (s_X0_settle oX_106 oX_77 hw) ?_
  clear hw
  intro h3 hw
  exact PW.vret C dX9_measureTrial_34 ⟨rfl, hw⟩
def w_X9_left_48 (k75 : PH → Prop) (Q : Int32 → PH → Prop) (x1 : Int32) (x2 : Int32) (kb : Int32 → PH → Prop) (x3 : Int32) (h : PH) : Prop :=
  gP h 0 3 ≠ 0 ∧ oX (gP h 0 3 - 1) 8 ∧ if (gI h ((gP h 0 3 - 1) + 9) 3) ≤ x3 then (k75 h) else (w_X9_inherit x3 x1 x2 h (fun h11 => kb (x3 + 1) h11))
set_option maxRecDepth 8000 in
theorem b_X9_left_48 {D : va_G} {ca : Nat → ClassId} {ad : Nat → Nat} {K : Kt} {k75 : PH → Prop} {kb : Int32 → PH → Prop} {Q : Int32 → PH → Prop} {x1 : Int32} {x2 : Int32} {x3 : Int32} {h : PH} (C : CX (GX D ca ad) (XS (GX D ca ad)) cX9_left RX9 4 (some .int) 6 K) (hk75 : ∀ (h : PH), k75 h → PW (GX D ca ad) K 4 (qI Q) h 75 [some (.ref 0), none, none, none] []) (hkb : ∀ (x3 : Int32) (h : PH), kb x3 h → PW (GX D ca ad) K 4 (qI Q) h 48 [some (.ref 0), some (.int x1), some (.int x2), some (.int x3)] []) (hw : w_X9_left_48 k75 Q x1 x2 kb x3 h) : PW (GX D ca ad) K 4 (qI Q) h 48 [some (.ref 0), some (.int x1), some (.int x2), some (.int x3)] [] := by
  unfold w_X9_left_48 at hw
  refine PW.ild3n C dX9_left_48 ?_
  refine PW.ald0n C dX9_left_49 ?_
  obtain ⟨hz10, hq9, hw⟩ := hw
  refine PW.get0 C cf_9 fl_X9_23 (by decide) oX_0 (fvP rfl hz10) dX9_left_50 ?_
  refine PW.getN0 C cf_8 fl_X9_159 (by decide) hq9 (fvR (o := 9) rfl) dX9_left_53 ?_
  refine PW.getN0 C cf_6 fl_X9_208 (by decide) (sf_8_4 hq9) (fvI rfl) dX9_left_56 ?_
  refine PW.icmp_ge (tgt := 75) C dX9_left_59 (by decide) (fun c => ?_) (fun c => ?_)
  · rw [if_pos c] at hw
    exact PW.wk (wk_s (wk_n (wk_n (wk_n wk_0)))) (hk75 _ hw)
  · rw [if_neg c] at hw
    refine PW.ald0n C dX9_left_62 ?_
    refine PW.ild3n C dX9_left_63 ?_
    refine PW.ild1n C dX9_left_64 ?_
    refine PW.ild2n C dX9_left_65 ?_
    refine PW.callVV3 C ms_X9_inherit ml_X9_325 dX9_left_66 oX_0 ⟨_, _, rfl⟩ (Nat.le_of_ble_eq_true rfl) (by decide) (Nat.le_of_ble_eq_true rfl) (s_X9_inherit hw) ?_
    clear hw
    intro h11 hw
    refine PW.inc3 (v := 1) C dX9_left_69 (by decide) rfl (by decide) ?_
    refine PW.goto (tgt := 48) C dX9_left_72 (by decide) ?_
    exact PW.wk (wk_s (wk_s (wk_s (wk_s wk_0)))) (hkb _ _ hw)
theorem l_X9_left_48 {D : va_G} {ca : Nat → ClassId} {ad : Nat → Nat} {K : Kt} {k75 : PH → Prop} {Q : Int32 → PH → Prop} {x1 : Int32} {x2 : Int32} (C : CX (GX D ca ad) (XS (GX D ca ad)) cX9_left RX9 4 (some .int) 6 K) (hk75 : ∀ (h : PH), k75 h → PW (GX D ca ad) K 4 (qI Q) h 75 [some (.ref 0), none, none, none] []) : ∀ (n : Nat) (x3 : Int32) (h : PH), Lp1 (w_X9_left_48 k75 Q x1 x2) n x3 h → PW (GX D ca ad) K 4 (qI Q) h 48 [some (.ref 0), some (.int x1), some (.int x2), some (.int x3)] [] := by
  intro n
  induction n with
  | zero => intro x3 h hw; exact hw.elim
  | succ n ih => intro x3 h hw; exact b_X9_left_48 C hk75 (fun x3 h hw => ih x3 h hw) hw
def w_X9_left (x1 : Int32) (x2 : Int32) (h : PH) (Q : Int32 → PH → Prop) : Prop :=
  gP h 0 3 ≠ 0 ∧ oX (gP h 0 3 - 1) 8 ∧ w_X6_has ((gP h 0 3 - 1) + 5) x1 h (fun z4 h3 => if z4 = 0 then (Q (-1) h3) else (if x2 < 0 then (Q (-1) h3) else (if x2 ≤ 2 then (gP h3 0 3 ≠ 0 ∧ oX (gP h3 0 3 - 1) 8 ∧ w_X8_copyFrom 77 (gP h3 0 3 - 1) h3 (fun h7 => w_X6_clear 86 h7 (fun h8 => ∃ n, Lp1 (w_X9_left_48 (fun h12 => w_X9_measureTrial (-1) h12 (fun h13 => w_X0_longestHeld 106 77 h13 (fun z15 h14 => Q z15 h14))) Q x1 x2) n 0 h8))) else (Q (-1) h3))))
set_option maxRecDepth 8000 in
theorem s_X9_left {D : va_G} {ca : Nat → ClassId} {ad : Nat → Nat} {l : Launch} {x1 : Int32} {x2 : Int32} {h : PH} {Q : Int32 → PH → Prop} (hw : w_X9_left x1 x2 h Q) : Sp (GX D ca ad) (XS (GX D ca ad)) l 6 yX9_left cX9_left 4 (some .int) [.ref 0, .int x1, .int x2] h (qI Q) := by
  refine Sp.of (own := RX9) [some (.ref 0), some (.int x1), some (.int x2), none] (by decide +kernel) rfl rfl (Nat.le_of_ble_eq_true rfl) (fun K hl C => ?_)
  subst hl
  unfold w_X9_left at hw
  refine PW.ald0n C dX9_left_0 ?_
  obtain ⟨hz2, hq1, hw⟩ := hw
  refine PW.get0 C cf_9 fl_X9_23 (by decide) oX_0 (fvP rfl hz2) dX9_left_1 ?_
  refine PW.getN0 C cf_8 fl_X9_122 (by decide) hq1 (fvR (o := 5) rfl) dX9_left_4 ?_
  refine PW.ild1n C dX9_left_7 ?_
  refine PW.callVI1 C ms_X6_has ml_X9_125 dX9_left_8 (sf_8_2 hq1) ⟨_, _, rfl⟩ (Nat.le_of_ble_eq_true rfl) (by decide) (Nat.le_of_ble_eq_true rfl) (s_X6_has (sf_8_2 hq1) hw) ?_
  clear hw
  intro z4 h3 hw
  refine PW.if_eq (tgt := 23) C dX9_left_11 (by decide) (fun c => ?_) (fun c => ?_)
  · rw [if_pos c] at hw
    refine PW.iconst (v := (-1)) C dX9_left_23 (by decide) ?_
    exact PW.iret C dX9_left_24 ⟨_, rfl, hw⟩
  · rw [if_neg c] at hw
    refine PW.ild2n C dX9_left_14 ?_
    refine PW.if_lt (tgt := 23) C dX9_left_15 (by decide) (fun c => ?_) (fun c => ?_)
    · rw [if_pos c] at hw
      refine PW.iconst (v := (-1)) C dX9_left_23 (by decide) ?_
      exact PW.iret C dX9_left_24 ⟨_, rfl, hw⟩
    · rw [if_neg c] at hw
      refine PW.ild2n C dX9_left_18 ?_
      refine PW.iconst (v := 2) C dX9_left_19 (by decide) ?_
      refine PW.icmp_le (tgt := 25) C dX9_left_20 (by decide) (fun c => ?_) (fun c => ?_)
      · rw [if_pos c] at hw
        refine PW.ald0n C dX9_left_25 ?_
        refine PW.get0 (v := .ref 77) C cf_9 fl_X9_33 (by decide) oX_0 (fvR (o := 77) rfl) dX9_left_26 ?_
        refine PW.ald0n C dX9_left_29 ?_
        obtain ⟨hz6, hq5, hw⟩ := hw
        refine PW.get0 C cf_9 fl_X9_23 (by decide) oX_0 (fvP rfl hz6) dX9_left_30 ?_
        refine PW.callVV1 C ms_X8_copyFrom ml_X9_263 dX9_left_33 oX_77 ⟨_, _, rfl⟩ (Nat.le_of_ble_eq_true rfl) (by decide) (Nat.le_of_ble_eq_true rfl) (s_X8_copyFrom oX_77 hq5 hw) ?_
        clear hw
        intro h7 hw
        refine PW.ald0n C dX9_left_36 ?_
        refine PW.get0 (v := .ref 77) C cf_9 fl_X9_33 (by decide) oX_0 (fvR (o := 77) rfl) dX9_left_37 ?_
        refine PW.getN0 (v := .ref 86) C cf_8 fl_X9_159 (by decide) oX_77 (fvR (o := 9) rfl) dX9_left_40 ?_
        refine PW.callVV0 C ms_X6_clear ml_X9_102 dX9_left_43 oX_86 ⟨_, _, rfl⟩ (Nat.le_of_ble_eq_true rfl) (by decide) (Nat.le_of_ble_eq_true rfl) (s_X6_clear oX_86 hw) ?_
        clear hw
        intro h8 hw
        refine PW.iconst (v := 0) C dX9_left_46 (by decide) ?_
        refine PW.ist3n C dX9_left_47 (by decide) rfl ?_
        obtain ⟨n, hw⟩ := hw
        refine PW.wk (wk_s (wk_s (wk_s (wk_s wk_0)))) (l_X9_left_48 C ?_ n _ _ hw)
        · intro h12 hw
          refine PW.ald0n C dX9_left_75 ?_
          refine PW.iconst (v := (-1)) C dX9_left_76 (by decide) ?_
          refine PW.callVV1 C ms_X9_measureTrial ml_X9_328 dX9_left_77 oX_0 ⟨_, _, rfl⟩ (Nat.le_of_ble_eq_true rfl) (by decide) (Nat.le_of_ble_eq_true rfl) (s_X9_measureTrial hw) ?_
          clear hw
          intro h13 hw
          refine PW.ald0n C dX9_left_80 ?_
          refine PW.get0 (v := .ref 106) C cf_9 fl_X9_43 (by decide) oX_0 (fvR (o := 106) rfl) dX9_left_81 ?_
          refine PW.ald0n C dX9_left_84 ?_
          refine PW.get0 (v := .ref 77) C cf_9 fl_X9_33 (by decide) oX_0 (fvR (o := 77) rfl) dX9_left_85 ?_
          refine PW.callVI1 C ms_X0_longestHeld ml_X9_331 dX9_left_88 oX_106 ⟨_, _, rfl⟩ (Nat.le_of_ble_eq_true rfl) (by decide) (Nat.le_of_ble_eq_true rfl) (s_X0_longestHeld oX_106 oX_77 hw) ?_
          clear hw
          intro z15 h14 hw
          exact PW.iret C dX9_left_91 ⟨_, rfl, hw⟩
      · rw [if_neg c] at hw
        refine PW.iconst (v := (-1)) C dX9_left_23 (by decide) ?_
        exact PW.iret C dX9_left_24 ⟨_, rfl, hw⟩
def w_X9_isStake (x0 : Int32) (h : PH) (Q : Int32 → PH → Prop) : Prop :=
  if x0 < 0 then (Q 0 h) else (if 99 < x0 then (Q 0 h) else (Q 1 h))
set_option maxRecDepth 8000 in
theorem s_X9_isStake {D : va_G} {ca : Nat → ClassId} {ad : Nat → Nat} {l : Launch} {x0 : Int32} {h : PH} {Q : Int32 → PH → Prop} (hw : w_X9_isStake x0 h Q) : Sp (GX D ca ad) (XS (GX D ca ad)) l 1 yX9_isStake cX9_isStake 1 (some .boolean) [.int x0] h (qI Q) := by
  refine Sp.of (own := RX9) [some (.int x0)] (by decide +kernel) rfl rfl (Nat.le_of_ble_eq_true rfl) (fun K hl C => ?_)
  subst hl
  unfold w_X9_isStake at hw
  refine PW.ild0n C dX9_isStake_0 ?_
  refine PW.if_lt (tgt := 14) C dX9_isStake_1 (by decide) (fun c => ?_) (fun c => ?_)
  · rw [if_pos c] at hw
    refine PW.iconst (v := 0) C dX9_isStake_14 (by decide) ?_
    exact PW.zret C dX9_isStake_15 (by decide) ⟨_, rfl, hw⟩
  · rw [if_neg c] at hw
    refine PW.ild0n C dX9_isStake_4 ?_
    refine PW.bipush (v := 99) C dX9_isStake_5 (by decide) ?_
    refine PW.icmp_gt (tgt := 14) C dX9_isStake_7 (by decide) (fun c => ?_) (fun c => ?_)
    · rw [if_pos c] at hw
      refine PW.iconst (v := 0) C dX9_isStake_14 (by decide) ?_
      exact PW.zret C dX9_isStake_15 (by decide) ⟨_, rfl, hw⟩
    · rw [if_neg c] at hw
      refine PW.iconst (v := 1) C dX9_isStake_10 (by decide) ?_
      refine PW.goto (tgt := 15) C dX9_isStake_11 (by decide) ?_
      exact PW.zret C dX9_isStake_15 (by decide) ⟨_, rfl, hw⟩
def w_X9_gain (x0 : Int32) (x1 : Int32) (x2 : Int32) (x3 : Int32) (h : PH) (Q : Int32 → PH → Prop) : Prop :=
  ∀ (y1 : Int32), y1 = (x1 * (mnI x2 x3)) → if x2 = x3 then (Q ((x0 / 2) - y1) h) else (if x2 ≤ x3 then (Q (-y1) h) else (Q (x0 - y1) h))
set_option maxRecDepth 8000 in
theorem s_X9_gain {D : va_G} {ca : Nat → ClassId} {ad : Nat → Nat} {l : Launch} {x0 : Int32} {x1 : Int32} {x2 : Int32} {x3 : Int32} {h : PH} {Q : Int32 → PH → Prop} (hw : w_X9_gain x0 x1 x2 x3 h Q) : Sp (GX D ca ad) (XS (GX D ca ad)) l 1 yX9_gain cX9_gain 5 (some .int) [.int x0, .int x1, .int x2, .int x3] h (qI Q) := by
  refine Sp.of (own := RX9) [some (.int x0), some (.int x1), some (.int x2), some (.int x3), none] (by decide +kernel) rfl rfl (Nat.le_of_ble_eq_true rfl) (fun K hl C => ?_)
  subst hl
  unfold w_X9_gain at hw
  refine PW.ild1n C dX9_gain_0 ?_
  refine PW.ild2n C dX9_gain_1 ?_
  refine PW.ild3n C dX9_gain_2 ?_
  refine PW.mnI C ml_X9_346 (Nat.le_of_ble_eq_true rfl) (by decide) dX9_gain_3 ?_
  refine PW.imul C dX9_gain_6 ?_
  replace hw := hw _ rfl
  refine PW.ist4 C dX9_gain_7 (by decide) rfl ?_
  refine PW.ild2n C dX9_gain_9 ?_
  refine PW.ild3n C dX9_gain_10 ?_
  refine PW.icmp_ne (tgt := 21) C dX9_gain_11 (by decide) (fun c => ?_) (fun c => ?_)
  · rw [if_neg c] at hw
    refine PW.ild2n C dX9_gain_21 ?_
    refine PW.ild3n C dX9_gain_22 ?_
    refine PW.icmp_le (tgt := 33) C dX9_gain_23 (by decide) (fun c => ?_) (fun c => ?_)
    · rw [if_pos c] at hw
      refine PW.ild4 C dX9_gain_33 ?_
      refine PW.ineg C dX9_gain_35 ?_
      exact PW.iret C dX9_gain_36 ⟨_, rfl, hw⟩
    · rw [if_neg c] at hw
      refine PW.ild0n C dX9_gain_26 ?_
      refine PW.ild4 C dX9_gain_27 ?_
      refine PW.isub C dX9_gain_29 ?_
      refine PW.goto (tgt := 36) C dX9_gain_30 (by decide) ?_
      exact PW.iret C dX9_gain_36 ⟨_, rfl, hw⟩
  · rw [if_pos c] at hw
    refine PW.ild0n C dX9_gain_14 ?_
    refine PW.iconst (v := 2) C dX9_gain_15 (by decide) ?_
    refine PW.idiv C dX9_gain_16 (by decide) ?_
    refine PW.ild4 C dX9_gain_17 ?_
    refine PW.isub C dX9_gain_19 ?_
    exact PW.iret C dX9_gain_20 ⟨_, rfl, hw⟩
def w_X9_isRest_37 (k72 : PH → Prop) (k80 : PH → Prop) (Q : Int32 → PH → Prop) (x0 : Int32) (x1 : Int32) (x2 : Int32) (x4 : Int32) (x5 : Int32) (x6 : Int32) (x7 : Int32) (kb : Int32 → PH → Prop) (x8 : Int32) (h : PH) : Prop :=
  if 10 ≤ x8 then (k80 h) else (w_X9_gain x0 x1 x8 x5 h (fun z8 h7 => if x6 < z8 then (k72 h7) else (w_X9_gain x0 x2 x8 x4 h7 (fun z10 h9 => if z10 ≤ x7 then (kb (x8 + 1) h9) else (k72 h9)))))
set_option maxRecDepth 8000 in
theorem b_X9_isRest_37 {D : va_G} {ca : Nat → ClassId} {ad : Nat → Nat} {K : Kt} {k72 : PH → Prop} {k80 : PH → Prop} {kb : Int32 → PH → Prop} {Q : Int32 → PH → Prop} {x0 : Int32} {x1 : Int32} {x2 : Int32} {x4 : Int32} {x5 : Int32} {x6 : Int32} {x7 : Int32} {x8 : Int32} {h : PH} (C : CX (GX D ca ad) (XS (GX D ca ad)) cX9_isRest RX9 9 (some .boolean) 2 K) (hk72 : ∀ (h : PH), k72 h → PW (GX D ca ad) K 9 (qI Q) h 72 [none, none, none, none, none, none, none, none, none] []) (hk80 : ∀ (h : PH), k80 h → PW (GX D ca ad) K 9 (qI Q) h 80 [none, none, none, none, none, none, none, none, none] []) (hkb : ∀ (x8 : Int32) (h : PH), kb x8 h → PW (GX D ca ad) K 9 (qI Q) h 37 [some (.int x0), some (.int x1), some (.int x2), none, some (.int x4), some (.int x5), some (.int x6), some (.int x7), some (.int x8)] []) (hw : w_X9_isRest_37 k72 k80 Q x0 x1 x2 x4 x5 x6 x7 kb x8 h) : PW (GX D ca ad) K 9 (qI Q) h 37 [some (.int x0), some (.int x1), some (.int x2), none, some (.int x4), some (.int x5), some (.int x6), some (.int x7), some (.int x8)] [] := by
  unfold w_X9_isRest_37 at hw
  refine PW.ild8 C dX9_isRest_37 ?_
  refine PW.bipush (v := 10) C dX9_isRest_39 (by decide) ?_
  refine PW.icmp_ge (tgt := 80) C dX9_isRest_41 (by decide) (fun c => ?_) (fun c => ?_)
  · rw [if_pos c] at hw
    exact PW.wk (wk_n (wk_n (wk_n (wk_n (wk_n (wk_n (wk_n (wk_n (wk_n wk_0))))))))) (hk80 _ hw)
  · rw [if_neg c] at hw
    refine PW.ild0n C dX9_isRest_44 ?_
    refine PW.ild1n C dX9_isRest_45 ?_
    refine PW.ild8 C dX9_isRest_46 ?_
    refine PW.ild5 C dX9_isRest_48 ?_
    refine PW.callSI4 C ms_X9_gain ml_X9_342 dX9_isRest_50 (Nat.le_of_ble_eq_true rfl) (by decide) (Nat.le_of_ble_eq_true rfl) (s_X9_gain hw) ?_
    clear hw
    intro z8 h7 hw
    refine PW.ild6 C dX9_isRest_53 ?_
    refine PW.icmp_gt (tgt := 72) C dX9_isRest_55 (by decide) (fun c => ?_) (fun c => ?_)
    · rw [if_pos c] at hw
      exact PW.wk (wk_n (wk_n (wk_n (wk_n (wk_n (wk_n (wk_n (wk_n (wk_n wk_0))))))))) (hk72 _ hw)
    · rw [if_neg c] at hw
      refine PW.ild0n C dX9_isRest_58 ?_
      refine PW.ild2n C dX9_isRest_59 ?_
      refine PW.ild8 C dX9_isRest_60 ?_
      refine PW.ild4 C dX9_isRest_62 ?_
      refine PW.callSI4 C ms_X9_gain ml_X9_342 dX9_isRest_64 (Nat.le_of_ble_eq_true rfl) (by decide) (Nat.le_of_ble_eq_true rfl) (s_X9_gain hw) ?_
      clear hw
      intro z10 h9 hw
      refine PW.ild7 C dX9_isRest_67 ?_
      refine PW.icmp_le (tgt := 74) C dX9_isRest_69 (by decide) (fun c => ?_) (fun c => ?_)
      · rw [if_pos c] at hw
        refine PW.inc8 (v := 1) C dX9_isRest_74 (by decide) rfl (by decide) ?_
        refine PW.goto (tgt := 37) C dX9_isRest_77 (by decide) ?_
        exact PW.wk (wk_s (wk_s (wk_s (wk_n (wk_s (wk_s (wk_s (wk_s (wk_s wk_0))))))))) (hkb _ _ hw)
      · rw [if_neg c] at hw
        exact PW.wk (wk_n (wk_n (wk_n (wk_n (wk_n (wk_n (wk_n (wk_n (wk_n wk_0))))))))) (hk72 _ hw)
theorem l_X9_isRest_37 {D : va_G} {ca : Nat → ClassId} {ad : Nat → Nat} {K : Kt} {k72 : PH → Prop} {k80 : PH → Prop} {Q : Int32 → PH → Prop} {x0 : Int32} {x1 : Int32} {x2 : Int32} {x4 : Int32} {x5 : Int32} {x6 : Int32} {x7 : Int32} (C : CX (GX D ca ad) (XS (GX D ca ad)) cX9_isRest RX9 9 (some .boolean) 2 K) (hk72 : ∀ (h : PH), k72 h → PW (GX D ca ad) K 9 (qI Q) h 72 [none, none, none, none, none, none, none, none, none] []) (hk80 : ∀ (h : PH), k80 h → PW (GX D ca ad) K 9 (qI Q) h 80 [none, none, none, none, none, none, none, none, none] []) : ∀ (n : Nat) (x8 : Int32) (h : PH), Lp1 (w_X9_isRest_37 k72 k80 Q x0 x1 x2 x4 x5 x6 x7) n x8 h → PW (GX D ca ad) K 9 (qI Q) h 37 [some (.int x0), some (.int x1), some (.int x2), none, some (.int x4), some (.int x5), some (.int x6), some (.int x7), some (.int x8)] [] := by
  intro n
  induction n with
  | zero => intro x8 h hw; exact hw.elim
  | succ n ih => intro x8 h hw; exact b_X9_isRest_37 C hk72 hk80 (fun x8 h hw => ih x8 h hw) hw
def w_X9_isRest (x0 : Int32) (x1 : Int32) (x2 : Int32) (x3 : Int32) (h : PH) (Q : Int32 → PH → Prop) : Prop :=
  ∀ (y1 : Int32), y1 = (x3 / 10) → ∀ (y2 : Int32), y2 = (x3 - x3 / 10 * 10) → w_X9_gain x0 x1 y1 y2 h (fun z4 h3 => w_X9_gain x0 x2 y2 y1 h3 (fun z6 h5 => ∃ n, Lp1 (w_X9_isRest_37 (fun h11 => Q 0 h11) (fun h12 => Q 1 h12) Q x0 x1 x2 y1 y2 z4 z6) n 0 h5))
set_option maxRecDepth 8000 in
theorem s_X9_isRest {D : va_G} {ca : Nat → ClassId} {ad : Nat → Nat} {l : Launch} {x0 : Int32} {x1 : Int32} {x2 : Int32} {x3 : Int32} {h : PH} {Q : Int32 → PH → Prop} (hw : w_X9_isRest x0 x1 x2 x3 h Q) : Sp (GX D ca ad) (XS (GX D ca ad)) l 2 yX9_isRest cX9_isRest 9 (some .boolean) [.int x0, .int x1, .int x2, .int x3] h (qI Q) := by
  refine Sp.of (own := RX9) [some (.int x0), some (.int x1), some (.int x2), some (.int x3), none, none, none, none, none] (by decide +kernel) rfl rfl (Nat.le_of_ble_eq_true rfl) (fun K hl C => ?_)
  subst hl
  unfold w_X9_isRest at hw
  refine PW.ild3n C dX9_isRest_0 ?_
  refine PW.bipush (v := 10) C dX9_isRest_1 (by decide) ?_
  refine PW.idiv C dX9_isRest_3 (by decide) ?_
  replace hw := hw _ rfl
  refine PW.ist4 C dX9_isRest_4 (by decide) rfl ?_
  refine PW.ild3n C dX9_isRest_6 ?_
  refine PW.bipush (v := 10) C dX9_isRest_7 (by decide) ?_
  refine PW.irem C dX9_isRest_9 (by decide) ?_
  replace hw := hw _ rfl
  refine PW.ist5 C dX9_isRest_10 (by decide) rfl ?_
  refine PW.ild0n C dX9_isRest_12 ?_
  refine PW.ild1n C dX9_isRest_13 ?_
  refine PW.ild4 C dX9_isRest_14 ?_
  refine PW.ild5 C dX9_isRest_16 ?_
  refine PW.callSI4 C ms_X9_gain ml_X9_342 dX9_isRest_18 (Nat.le_of_ble_eq_true rfl) (by decide) (Nat.le_of_ble_eq_true rfl) (s_X9_gain hw) ?_
  clear hw
  intro z4 h3 hw
  refine PW.ist6 C dX9_isRest_21 (by decide) rfl ?_
  refine PW.ild0n C dX9_isRest_23 ?_
  refine PW.ild2n C dX9_isRest_24 ?_
  refine PW.ild5 C dX9_isRest_25 ?_
  refine PW.ild4 C dX9_isRest_27 ?_
  refine PW.callSI4 C ms_X9_gain ml_X9_342 dX9_isRest_29 (Nat.le_of_ble_eq_true rfl) (by decide) (Nat.le_of_ble_eq_true rfl) (s_X9_gain hw) ?_
  clear hw
  intro z6 h5 hw
  refine PW.ist7 C dX9_isRest_32 (by decide) rfl ?_
  refine PW.iconst (v := 0) C dX9_isRest_34 (by decide) ?_
  refine PW.ist8 C dX9_isRest_35 (by decide) rfl ?_
  obtain ⟨n, hw⟩ := hw
  refine PW.wk (wk_s (wk_s (wk_s (wk_n (wk_s (wk_s (wk_s (wk_s (wk_s wk_0))))))))) (l_X9_isRest_37 C ?_ ?_ n _ _ hw)
  · intro h11 hw
    refine PW.iconst (v := 0) C dX9_isRest_72 (by decide) ?_
    exact PW.zret C dX9_isRest_73 (by decide) ⟨_, rfl, hw⟩
  · intro h12 hw
    refine PW.iconst (v := 1) C dX9_isRest_80 (by decide) ?_
    exact PW.zret C dX9_isRest_81 (by decide) ⟨_, rfl, hw⟩
def w_X9_rests_29 (k56 : Int32 → PH → Prop) (Q : Int32 → PH → Prop) (x1 : Int32) (x2 : Int32) (x3 : Int32) (kb : Int32 → Int32 → PH → Prop) (x4 : Int32) (x5 : Int32) (h : PH) : Prop :=
  if 100 ≤ x5 then (k56 x4 h) else (w_X9_isRest x1 x2 x3 x5 h (fun z8 h7 => if z8 = 0 then (kb x4 (x5 + 1) h7) else (kb (x4 + 1) (x5 + 1) h7)))
set_option maxRecDepth 8000 in
theorem b_X9_rests_29 {D : va_G} {ca : Nat → ClassId} {ad : Nat → Nat} {K : Kt} {k56 : Int32 → PH → Prop} {kb : Int32 → Int32 → PH → Prop} {Q : Int32 → PH → Prop} {x1 : Int32} {x2 : Int32} {x3 : Int32} {x4 : Int32} {x5 : Int32} {h : PH} (C : CX (GX D ca ad) (XS (GX D ca ad)) cX9_rests RX9 6 (some .int) 3 K) (hk56 : ∀ (x4 : Int32) (h : PH), k56 x4 h → PW (GX D ca ad) K 6 (qI Q) h 56 [none, none, none, none, some (.int x4), none] []) (hkb : ∀ (x4 : Int32) (x5 : Int32) (h : PH), kb x4 x5 h → PW (GX D ca ad) K 6 (qI Q) h 29 [none, some (.int x1), some (.int x2), some (.int x3), some (.int x4), some (.int x5)] []) (hw : w_X9_rests_29 k56 Q x1 x2 x3 kb x4 x5 h) : PW (GX D ca ad) K 6 (qI Q) h 29 [none, some (.int x1), some (.int x2), some (.int x3), some (.int x4), some (.int x5)] [] := by
  unfold w_X9_rests_29 at hw
  refine PW.ild5 C dX9_rests_29 ?_
  refine PW.bipush (v := 100) C dX9_rests_31 (by decide) ?_
  refine PW.icmp_ge (tgt := 56) C dX9_rests_33 (by decide) (fun c => ?_) (fun c => ?_)
  · rw [if_pos c] at hw
    exact PW.wk (wk_n (wk_n (wk_n (wk_n (wk_s (wk_n wk_0)))))) (hk56 _ _ hw)
  · rw [if_neg c] at hw
    refine PW.ild1n C dX9_rests_36 ?_
    refine PW.ild2n C dX9_rests_37 ?_
    refine PW.ild3n C dX9_rests_38 ?_
    refine PW.ild5 C dX9_rests_39 ?_
    refine PW.callSI4 C ms_X9_isRest ml_X9_338 dX9_rests_41 (Nat.le_of_ble_eq_true rfl) (by decide) (Nat.le_of_ble_eq_true rfl) (s_X9_isRest hw) ?_
    clear hw
    intro z8 h7 hw
    refine PW.if_eq (tgt := 50) C dX9_rests_44 (by decide) (fun c => ?_) (fun c => ?_)
    · rw [if_pos c] at hw
      refine PW.inc5 (v := 1) C dX9_rests_50 (by decide) rfl (by decide) ?_
      refine PW.goto (tgt := 29) C dX9_rests_53 (by decide) ?_
      exact PW.wk (wk_n (wk_s (wk_s (wk_s (wk_s (wk_s wk_0)))))) (hkb _ _ _ hw)
    · rw [if_neg c] at hw
      refine PW.inc4 (v := 1) C dX9_rests_47 (by decide) rfl (by decide) ?_
      refine PW.inc5 (v := 1) C dX9_rests_50 (by decide) rfl (by decide) ?_
      refine PW.goto (tgt := 29) C dX9_rests_53 (by decide) ?_
      exact PW.wk (wk_n (wk_s (wk_s (wk_s (wk_s (wk_s wk_0)))))) (hkb _ _ _ hw)
theorem l_X9_rests_29 {D : va_G} {ca : Nat → ClassId} {ad : Nat → Nat} {K : Kt} {k56 : Int32 → PH → Prop} {Q : Int32 → PH → Prop} {x1 : Int32} {x2 : Int32} {x3 : Int32} (C : CX (GX D ca ad) (XS (GX D ca ad)) cX9_rests RX9 6 (some .int) 3 K) (hk56 : ∀ (x4 : Int32) (h : PH), k56 x4 h → PW (GX D ca ad) K 6 (qI Q) h 56 [none, none, none, none, some (.int x4), none] []) : ∀ (n : Nat) (x4 : Int32) (x5 : Int32) (h : PH), Lp2 (w_X9_rests_29 k56 Q x1 x2 x3) n x4 x5 h → PW (GX D ca ad) K 6 (qI Q) h 29 [none, some (.int x1), some (.int x2), some (.int x3), some (.int x4), some (.int x5)] [] := by
  intro n
  induction n with
  | zero => intro x4 x5 h hw; exact hw.elim
  | succ n ih => intro x4 x5 h hw; exact b_X9_rests_29 C hk56 (fun x4 x5 h hw => ih x4 x5 h hw) hw
def w_X9_rests (x1 : Int32) (x2 : Int32) (x3 : Int32) (h : PH) (Q : Int32 → PH → Prop) : Prop :=
  w_X9_isStake x1 h (fun z2 h1 => if z2 = 0 then (Q (-1) h1) else (w_X9_isStake x2 h1 (fun z4 h3 => if z4 = 0 then (Q (-1) h3) else (w_X9_isStake x3 h3 (fun z6 h5 => if z6 = 0 then (Q (-1) h5) else (∃ n, Lp2 (w_X9_rests_29 (fun y10 h9 => Q y10 h9) Q x1 x2 x3) n 0 0 h5))))))
set_option maxRecDepth 8000 in
theorem s_X9_rests {D : va_G} {ca : Nat → ClassId} {ad : Nat → Nat} {l : Launch} {x1 : Int32} {x2 : Int32} {x3 : Int32} {h : PH} {Q : Int32 → PH → Prop} (hw : w_X9_rests x1 x2 x3 h Q) : Sp (GX D ca ad) (XS (GX D ca ad)) l 3 yX9_rests cX9_rests 6 (some .int) [.ref 0, .int x1, .int x2, .int x3] h (qI Q) := by
  refine Sp.of (own := RX9) [some (.ref 0), some (.int x1), some (.int x2), some (.int x3), none, none] (by decide +kernel) rfl rfl (Nat.le_of_ble_eq_true rfl) (fun K hl C => ?_)
  subst hl
  unfold w_X9_rests at hw
  refine PW.ild1n C dX9_rests_0 ?_
  refine PW.callSI1 C ms_X9_isStake ml_X9_335 dX9_rests_1 (Nat.le_of_ble_eq_true rfl) (by decide) (Nat.le_of_ble_eq_true rfl) (s_X9_isStake hw) ?_
  clear hw
  intro z2 h1 hw
  refine PW.if_eq (tgt := 21) C dX9_rests_4 (by decide) (fun c => ?_) (fun c => ?_)
  · rw [if_pos c] at hw
    refine PW.iconst (v := (-1)) C dX9_rests_21 (by decide) ?_
    exact PW.iret C dX9_rests_22 ⟨_, rfl, hw⟩
  · rw [if_neg c] at hw
    refine PW.ild2n C dX9_rests_7 ?_
    refine PW.callSI1 C ms_X9_isStake ml_X9_335 dX9_rests_8 (Nat.le_of_ble_eq_true rfl) (by decide) (Nat.le_of_ble_eq_true rfl) (s_X9_isStake hw) ?_
    clear hw
    intro z4 h3 hw
    refine PW.if_eq (tgt := 21) C dX9_rests_11 (by decide) (fun c => ?_) (fun c => ?_)
    · rw [if_pos c] at hw
      refine PW.iconst (v := (-1)) C dX9_rests_21 (by decide) ?_
      exact PW.iret C dX9_rests_22 ⟨_, rfl, hw⟩
    · rw [if_neg c] at hw
      refine PW.ild3n C dX9_rests_14 ?_
      refine PW.callSI1 C ms_X9_isStake ml_X9_335 dX9_rests_15 (Nat.le_of_ble_eq_true rfl) (by decide) (Nat.le_of_ble_eq_true rfl) (s_X9_isStake hw) ?_
      clear hw
      intro z6 h5 hw
      refine PW.if_ne (tgt := 23) C dX9_rests_18 (by decide) (fun c => ?_) (fun c => ?_)
      · rw [if_neg c] at hw
        refine PW.iconst (v := 0) C dX9_rests_23 (by decide) ?_
        refine PW.ist4 C dX9_rests_24 (by decide) rfl ?_
        refine PW.iconst (v := 0) C dX9_rests_26 (by decide) ?_
        refine PW.ist5 C dX9_rests_27 (by decide) rfl ?_
        obtain ⟨n, hw⟩ := hw
        refine PW.wk (wk_n (wk_s (wk_s (wk_s (wk_s (wk_s wk_0)))))) (l_X9_rests_29 C ?_ n _ _ _ hw)
        · intro y10 h9 hw
          refine PW.ild4 C dX9_rests_56 ?_
          exact PW.iret C dX9_rests_58 ⟨_, rfl, hw⟩
      · rw [if_pos c] at hw
        refine PW.iconst (v := (-1)) C dX9_rests_21 (by decide) ?_
        exact PW.iret C dX9_rests_22 ⟨_, rfl, hw⟩
def w_X9_rest_34 (k59 : Int32 → PH → Prop) (k71 : PH → Prop) (Q : Int32 → PH → Prop) (x1 : Int32) (x2 : Int32) (x3 : Int32) (x4 : Int32) (kb : Int32 → Int32 → PH → Prop) (x5 : Int32) (x6 : Int32) (h : PH) : Prop :=
  if 100 ≤ x6 then (k71 h) else (w_X9_isRest x1 x2 x3 x6 h (fun z8 h7 => if z8 = 0 then (kb x5 (x6 + 1) h7) else (if x5 = x4 then (k59 x6 h7) else (kb (x5 + 1) (x6 + 1) h7))))
set_option maxRecDepth 8000 in
theorem b_X9_rest_34 {D : va_G} {ca : Nat → ClassId} {ad : Nat → Nat} {K : Kt} {k59 : Int32 → PH → Prop} {k71 : PH → Prop} {kb : Int32 → Int32 → PH → Prop} {Q : Int32 → PH → Prop} {x1 : Int32} {x2 : Int32} {x3 : Int32} {x4 : Int32} {x5 : Int32} {x6 : Int32} {h : PH} (C : CX (GX D ca ad) (XS (GX D ca ad)) cX9_rest RX9 7 (some .int) 3 K) (hk59 : ∀ (x6 : Int32) (h : PH), k59 x6 h → PW (GX D ca ad) K 7 (qI Q) h 59 [none, none, none, none, none, none, some (.int x6)] []) (hk71 : ∀ (h : PH), k71 h → PW (GX D ca ad) K 7 (qI Q) h 71 [none, none, none, none, none, none, none] []) (hkb : ∀ (x5 : Int32) (x6 : Int32) (h : PH), kb x5 x6 h → PW (GX D ca ad) K 7 (qI Q) h 34 [none, some (.int x1), some (.int x2), some (.int x3), some (.int x4), some (.int x5), some (.int x6)] []) (hw : w_X9_rest_34 k59 k71 Q x1 x2 x3 x4 kb x5 x6 h) : PW (GX D ca ad) K 7 (qI Q) h 34 [none, some (.int x1), some (.int x2), some (.int x3), some (.int x4), some (.int x5), some (.int x6)] [] := by
  unfold w_X9_rest_34 at hw
  refine PW.ild6 C dX9_rest_34 ?_
  refine PW.bipush (v := 100) C dX9_rest_36 (by decide) ?_
  refine PW.icmp_ge (tgt := 71) C dX9_rest_38 (by decide) (fun c => ?_) (fun c => ?_)
  · rw [if_pos c] at hw
    exact PW.wk (wk_n (wk_n (wk_n (wk_n (wk_n (wk_n (wk_n wk_0))))))) (hk71 _ hw)
  · rw [if_neg c] at hw
    refine PW.ild1n C dX9_rest_41 ?_
    refine PW.ild2n C dX9_rest_42 ?_
    refine PW.ild3n C dX9_rest_43 ?_
    refine PW.ild6 C dX9_rest_44 ?_
    refine PW.callSI4 C ms_X9_isRest ml_X9_338 dX9_rest_46 (Nat.le_of_ble_eq_true rfl) (by decide) (Nat.le_of_ble_eq_true rfl) (s_X9_isRest hw) ?_
    clear hw
    intro z8 h7 hw
    refine PW.if_eq (tgt := 65) C dX9_rest_49 (by decide) (fun c => ?_) (fun c => ?_)
    · rw [if_pos c] at hw
      refine PW.inc6 (v := 1) C dX9_rest_65 (by decide) rfl (by decide) ?_
      refine PW.goto (tgt := 34) C dX9_rest_68 (by decide) ?_
      exact PW.wk (wk_n (wk_s (wk_s (wk_s (wk_s (wk_s (wk_s wk_0))))))) (hkb _ _ _ hw)
    · rw [if_neg c] at hw
      refine PW.ild5 C dX9_rest_52 ?_
      refine PW.ild4 C dX9_rest_54 ?_
      refine PW.icmp_ne (tgt := 62) C dX9_rest_56 (by decide) (fun c => ?_) (fun c => ?_)
      · rw [if_neg c] at hw
        refine PW.inc5 (v := 1) C dX9_rest_62 (by decide) rfl (by decide) ?_
        refine PW.inc6 (v := 1) C dX9_rest_65 (by decide) rfl (by decide) ?_
        refine PW.goto (tgt := 34) C dX9_rest_68 (by decide) ?_
        exact PW.wk (wk_n (wk_s (wk_s (wk_s (wk_s (wk_s (wk_s wk_0))))))) (hkb _ _ _ hw)
      · rw [if_pos c] at hw
        exact PW.wk (wk_n (wk_n (wk_n (wk_n (wk_n (wk_n (wk_s wk_0))))))) (hk59 _ _ hw)
theorem l_X9_rest_34 {D : va_G} {ca : Nat → ClassId} {ad : Nat → Nat} {K : Kt} {k59 : Int32 → PH → Prop} {k71 : PH → Prop} {Q : Int32 → PH → Prop} {x1 : Int32} {x2 : Int32} {x3 : Int32} {x4 : Int32} (C : CX (GX D ca ad) (XS (GX D ca ad)) cX9_rest RX9 7 (some .int) 3 K) (hk59 : ∀ (x6 : Int32) (h : PH), k59 x6 h → PW (GX D ca ad) K 7 (qI Q) h 59 [none, none, none, none, none, none, some (.int x6)] []) (hk71 : ∀ (h : PH), k71 h → PW (GX D ca ad) K 7 (qI Q) h 71 [none, none, none, none, none, none, none] []) : ∀ (n : Nat) (x5 : Int32) (x6 : Int32) (h : PH), Lp2 (w_X9_rest_34 k59 k71 Q x1 x2 x3 x4) n x5 x6 h → PW (GX D ca ad) K 7 (qI Q) h 34 [none, some (.int x1), some (.int x2), some (.int x3), some (.int x4), some (.int x5), some (.int x6)] [] := by
  intro n
  induction n with
  | zero => intro x5 x6 h hw; exact hw.elim
  | succ n ih => intro x5 x6 h hw; exact b_X9_rest_34 C hk59 hk71 (fun x5 x6 h hw => ih x5 x6 h hw) hw
def w_X9_rest (x1 : Int32) (x2 : Int32) (x3 : Int32) (x4 : Int32) (h : PH) (Q : Int32 → PH → Prop) : Prop :=
  w_X9_isStake x1 h (fun z2 h1 => if z2 = 0 then (Q (-1) h1) else (w_X9_isStake x2 h1 (fun z4 h3 => if z4 = 0 then (Q (-1) h3) else (w_X9_isStake x3 h3 (fun z6 h5 => if z6 = 0 then (Q (-1) h5) else (if 0 ≤ x4 then (∃ n, Lp2 (w_X9_rest_34 (fun y10 h9 => Q y10 h9) (fun h11 => Q (-2) h11) Q x1 x2 x3 x4) n 0 0 h5) else (Q (-1) h5)))))))
set_option maxRecDepth 8000 in
theorem s_X9_rest {D : va_G} {ca : Nat → ClassId} {ad : Nat → Nat} {l : Launch} {x1 : Int32} {x2 : Int32} {x3 : Int32} {x4 : Int32} {h : PH} {Q : Int32 → PH → Prop} (hw : w_X9_rest x1 x2 x3 x4 h Q) : Sp (GX D ca ad) (XS (GX D ca ad)) l 3 yX9_rest cX9_rest 7 (some .int) [.ref 0, .int x1, .int x2, .int x3, .int x4] h (qI Q) := by
  refine Sp.of (own := RX9) [some (.ref 0), some (.int x1), some (.int x2), some (.int x3), some (.int x4), none, none] (by decide +kernel) rfl rfl (Nat.le_of_ble_eq_true rfl) (fun K hl C => ?_)
  subst hl
  unfold w_X9_rest at hw
  refine PW.ild1n C dX9_rest_0 ?_
  refine PW.callSI1 C ms_X9_isStake ml_X9_335 dX9_rest_1 (Nat.le_of_ble_eq_true rfl) (by decide) (Nat.le_of_ble_eq_true rfl) (s_X9_isStake hw) ?_
  clear hw
  intro z2 h1 hw
  refine PW.if_eq (tgt := 26) C dX9_rest_4 (by decide) (fun c => ?_) (fun c => ?_)
  · rw [if_pos c] at hw
    refine PW.iconst (v := (-1)) C dX9_rest_26 (by decide) ?_
    exact PW.iret C dX9_rest_27 ⟨_, rfl, hw⟩
  · rw [if_neg c] at hw
    refine PW.ild2n C dX9_rest_7 ?_
    refine PW.callSI1 C ms_X9_isStake ml_X9_335 dX9_rest_8 (Nat.le_of_ble_eq_true rfl) (by decide) (Nat.le_of_ble_eq_true rfl) (s_X9_isStake hw) ?_
    clear hw
    intro z4 h3 hw
    refine PW.if_eq (tgt := 26) C dX9_rest_11 (by decide) (fun c => ?_) (fun c => ?_)
    · rw [if_pos c] at hw
      refine PW.iconst (v := (-1)) C dX9_rest_26 (by decide) ?_
      exact PW.iret C dX9_rest_27 ⟨_, rfl, hw⟩
    · rw [if_neg c] at hw
      refine PW.ild3n C dX9_rest_14 ?_
      refine PW.callSI1 C ms_X9_isStake ml_X9_335 dX9_rest_15 (Nat.le_of_ble_eq_true rfl) (by decide) (Nat.le_of_ble_eq_true rfl) (s_X9_isStake hw) ?_
      clear hw
      intro z6 h5 hw
      refine PW.if_eq (tgt := 26) C dX9_rest_18 (by decide) (fun c => ?_) (fun c => ?_)
      · rw [if_pos c] at hw
        refine PW.iconst (v := (-1)) C dX9_rest_26 (by decide) ?_
        exact PW.iret C dX9_rest_27 ⟨_, rfl, hw⟩
      · rw [if_neg c] at hw
        refine PW.ild4 C dX9_rest_21 ?_
        refine PW.if_ge (tgt := 28) C dX9_rest_23 (by decide) (fun c => ?_) (fun c => ?_)
        · rw [if_pos c] at hw
          refine PW.iconst (v := 0) C dX9_rest_28 (by decide) ?_
          refine PW.ist5 C dX9_rest_29 (by decide) rfl ?_
          refine PW.iconst (v := 0) C dX9_rest_31 (by decide) ?_
          refine PW.ist6 C dX9_rest_32 (by decide) rfl ?_
          obtain ⟨n, hw⟩ := hw
          refine PW.wk (wk_n (wk_s (wk_s (wk_s (wk_s (wk_s (wk_s wk_0))))))) (l_X9_rest_34 C ?_ ?_ n _ _ _ hw)
          · intro y10 h9 hw
            refine PW.ild6 C dX9_rest_59 ?_
            exact PW.iret C dX9_rest_61 ⟨_, rfl, hw⟩
          · intro h11 hw
            refine PW.bipush (v := (-2)) C dX9_rest_71 (by decide) ?_
            exact PW.iret C dX9_rest_73 ⟨_, rfl, hw⟩
        · rw [if_neg c] at hw
          refine PW.iconst (v := (-1)) C dX9_rest_26 (by decide) ?_
          exact PW.iret C dX9_rest_27 ⟨_, rfl, hw⟩
def w_X9_canTry_40 (Q : Int32 → PH → Prop) (x2 : Int32) (h : PH) : Prop :=
  if x2 = 0 then (Q 1 h) else (Q 0 h)
set_option maxRecDepth 8000 in
theorem b_X9_canTry_40 {D : va_G} {ca : Nat → ClassId} {ad : Nat → Nat} {K : Kt} {Q : Int32 → PH → Prop} {x2 : Int32} {h : PH} (C : CX (GX D ca ad) (XS (GX D ca ad)) cX9_canTry RX9 3 (some .boolean) 2 K) (hw : w_X9_canTry_40 Q x2 h) : PW (GX D ca ad) K 3 (qI Q) h 40 [none, none, some (.int x2)] [] := by
  unfold w_X9_canTry_40 at hw
  refine PW.ild2n C dX9_canTry_40 ?_
  refine PW.if_ne (tgt := 48) C dX9_canTry_41 (by decide) (fun c => ?_) (fun c => ?_)
  · rw [if_neg c] at hw
    refine PW.iconst (v := 0) C dX9_canTry_48 (by decide) ?_
    exact PW.zret C dX9_canTry_49 (by decide) ⟨_, rfl, hw⟩
  · rw [if_pos c] at hw
    refine PW.iconst (v := 1) C dX9_canTry_44 (by decide) ?_
    refine PW.goto (tgt := 49) C dX9_canTry_45 (by decide) ?_
    exact PW.zret C dX9_canTry_49 (by decide) ⟨_, rfl, hw⟩
def w_X9_canTry (x1 : Int32) (x2 : Int32) (h : PH) (Q : Int32 → PH → Prop) : Prop :=
  if x1 = 0 then (w_X9_canTry_40 Q x2 h) else (if x1 = 1 then (gP h 0 3 ≠ 0 ∧ oX (gP h 0 3 - 1) 8 ∧ w_X6_has ((gP h 0 3 - 1) + 7) x2 h (fun z5 h4 => (z5 = 0 ∨ z5 = 1) ∧ Q z5 h4)) else (if x1 = 2 then (gP h 0 3 ≠ 0 ∧ oX (gP h 0 3 - 1) 8 ∧ w_X6_has ((gP h 0 3 - 1) + 5) x2 h (fun z10 h9 => (z10 = 0 ∨ z10 = 1) ∧ Q z10 h9)) else (if x1 = 3 then (w_X9_canTry_40 Q x2 h) else (if x1 = 4 then (gP h 0 3 ≠ 0 ∧ oX (gP h 0 3 - 1) 8 ∧ w_X6_has ((gP h 0 3 - 1) + 3) x2 h (fun z16 h15 => (z16 = 0 ∨ z16 = 1) ∧ Q z16 h15)) else (if x1 = 5 then (gP h 0 3 ≠ 0 ∧ oX (gP h 0 3 - 1) 8 ∧ w_X6_has ((gP h 0 3 - 1) + 1) x2 h (fun z21 h20 => (z21 = 0 ∨ z21 = 1) ∧ Q z21 h20)) else (Q 0 h))))))
set_option maxRecDepth 8000 in
theorem s_X9_canTry {D : va_G} {ca : Nat → ClassId} {ad : Nat → Nat} {l : Launch} {x1 : Int32} {x2 : Int32} {h : PH} {Q : Int32 → PH → Prop} (hw : w_X9_canTry x1 x2 h Q) : Sp (GX D ca ad) (XS (GX D ca ad)) l 2 yX9_canTry cX9_canTry 3 (some .boolean) [.ref 0, .int x1, .int x2] h (qI Q) := by
  refine Sp.of (own := RX9) [some (.ref 0), some (.int x1), some (.int x2)] (by decide +kernel) rfl rfl (Nat.le_of_ble_eq_true rfl) (fun K hl C => ?_)
  subst hl
  unfold w_X9_canTry at hw
  refine PW.ild1n C dX9_canTry_0 ?_
  refine PW.byc 0 (fun c => ?_) (fun c => ?_)
  · rw [if_pos c] at hw
    subst c
    refine PW.tin (tgt := 40) C dX9_canTry_1 (by decide) (by decide) rfl (by decide) ?_
    exact PW.wk (wk_n (wk_n (wk_s wk_0))) (b_X9_canTry_40 C hw)
  have n1 := c
  rw [if_neg c] at hw
  refine PW.byc 1 (fun c => ?_) (fun c => ?_)
  · rw [if_pos c] at hw
    subst c
    refine PW.tin (tgt := 50) C dX9_canTry_1 (by decide) (by decide) rfl (by decide) ?_
    refine PW.ald0n C dX9_canTry_50 ?_
    obtain ⟨hz3, hq2, hw⟩ := hw
    refine PW.get0 C cf_9 fl_X9_23 (by decide) oX_0 (fvP rfl hz3) dX9_canTry_51 ?_
    refine PW.getN0 C cf_8 fl_X9_156 (by decide) hq2 (fvR (o := 7) rfl) dX9_canTry_54 ?_
    refine PW.ild2n C dX9_canTry_57 ?_
    refine PW.callVI1 C ms_X6_has ml_X9_125 dX9_canTry_58 (sf_8_3 hq2) ⟨_, _, rfl⟩ (Nat.le_of_ble_eq_true rfl) (by decide) (Nat.le_of_ble_eq_true rfl) (s_X6_has (sf_8_3 hq2) hw) ?_
    clear hw
    intro z5 h4 hw
    obtain ⟨hz, hw⟩ := hw
    exact PW.zret C dX9_canTry_61 hz ⟨_, rfl, hw⟩
  have n6 := c
  rw [if_neg c] at hw
  refine PW.byc 2 (fun c => ?_) (fun c => ?_)
  · rw [if_pos c] at hw
    subst c
    refine PW.tin (tgt := 62) C dX9_canTry_1 (by decide) (by decide) rfl (by decide) ?_
    refine PW.ald0n C dX9_canTry_62 ?_
    obtain ⟨hz8, hq7, hw⟩ := hw
    refine PW.get0 C cf_9 fl_X9_23 (by decide) oX_0 (fvP rfl hz8) dX9_canTry_63 ?_
    refine PW.getN0 C cf_8 fl_X9_122 (by decide) hq7 (fvR (o := 5) rfl) dX9_canTry_66 ?_
    refine PW.ild2n C dX9_canTry_69 ?_
    refine PW.callVI1 C ms_X6_has ml_X9_125 dX9_canTry_70 (sf_8_2 hq7) ⟨_, _, rfl⟩ (Nat.le_of_ble_eq_true rfl) (by decide) (Nat.le_of_ble_eq_true rfl) (s_X6_has (sf_8_2 hq7) hw) ?_
    clear hw
    intro z10 h9 hw
    obtain ⟨hz, hw⟩ := hw
    exact PW.zret C dX9_canTry_73 hz ⟨_, rfl, hw⟩
  have n11 := c
  rw [if_neg c] at hw
  refine PW.byc 3 (fun c => ?_) (fun c => ?_)
  · rw [if_pos c] at hw
    subst c
    refine PW.tin (tgt := 40) C dX9_canTry_1 (by decide) (by decide) rfl (by decide) ?_
    exact PW.wk (wk_n (wk_n (wk_s wk_0))) (b_X9_canTry_40 C hw)
  have n12 := c
  rw [if_neg c] at hw
  refine PW.byc 4 (fun c => ?_) (fun c => ?_)
  · rw [if_pos c] at hw
    subst c
    refine PW.tin (tgt := 74) C dX9_canTry_1 (by decide) (by decide) rfl (by decide) ?_
    refine PW.ald0n C dX9_canTry_74 ?_
    obtain ⟨hz14, hq13, hw⟩ := hw
    refine PW.get0 C cf_9 fl_X9_23 (by decide) oX_0 (fvP rfl hz14) dX9_canTry_75 ?_
    refine PW.getN0 C cf_8 fl_X9_162 (by decide) hq13 (fvR (o := 3) rfl) dX9_canTry_78 ?_
    refine PW.ild2n C dX9_canTry_81 ?_
    refine PW.callVI1 C ms_X6_has ml_X9_125 dX9_canTry_82 (sf_8_1 hq13) ⟨_, _, rfl⟩ (Nat.le_of_ble_eq_true rfl) (by decide) (Nat.le_of_ble_eq_true rfl) (s_X6_has (sf_8_1 hq13) hw) ?_
    clear hw
    intro z16 h15 hw
    obtain ⟨hz, hw⟩ := hw
    exact PW.zret C dX9_canTry_85 hz ⟨_, rfl, hw⟩
  have n17 := c
  rw [if_neg c] at hw
  refine PW.byc 5 (fun c => ?_) (fun c => ?_)
  · rw [if_pos c] at hw
    subst c
    refine PW.tin (tgt := 86) C dX9_canTry_1 (by decide) (by decide) rfl (by decide) ?_
    refine PW.ald0n C dX9_canTry_86 ?_
    obtain ⟨hz19, hq18, hw⟩ := hw
    refine PW.get0 C cf_9 fl_X9_23 (by decide) oX_0 (fvP rfl hz19) dX9_canTry_87 ?_
    refine PW.getN0 C cf_8 fl_X9_115 (by decide) hq18 (fvR (o := 1) rfl) dX9_canTry_90 ?_
    refine PW.ild2n C dX9_canTry_93 ?_
    refine PW.callVI1 C ms_X6_has ml_X9_125 dX9_canTry_94 (sf_8_0 hq18) ⟨_, _, rfl⟩ (Nat.le_of_ble_eq_true rfl) (by decide) (Nat.le_of_ble_eq_true rfl) (s_X6_has (sf_8_0 hq18) hw) ?_
    clear hw
    intro z21 h20 hw
    obtain ⟨hz, hw⟩ := hw
    exact PW.zret C dX9_canTry_97 hz ⟨_, rfl, hw⟩
  have n22 := c
  rw [if_neg c] at hw
  refine PW.tout (tgt := 98) C dX9_canTry_1 (by have e0 := ne_ti (z := 0) (by decide) n1; have e1 := ne_ti (z := 1) (by decide) n6; have e2 := ne_ti (z := 2) (by decide) n11; have e3 := ne_ti (z := 3) (by decide) n12; have e4 := ne_ti (z := 4) (by decide) n17; have e5 := ne_ti (z := 5) (by decide) n22; omega) (by decide) ?_
  refine PW.iconst (v := 0) C dX9_canTry_98 (by decide) ?_
  exact PW.zret C dX9_canTry_99 (by decide) ⟨_, rfl, hw⟩
def w_X9_tried_62 (k95 : PH → Prop) (Q : Int32 → PH → Prop) (x1 : Int32) (x2 : Int32) (kb : Int32 → PH → Prop) (x3 : Int32) (h : PH) : Prop :=
  if (gI h 80 3) ≤ x3 then (k95 h) else (w_X6_put 80 x3 3 0 h (fun h6 => kb (x3 + 1) h6))
set_option maxRecDepth 8000 in
theorem b_X9_tried_62 {D : va_G} {ca : Nat → ClassId} {ad : Nat → Nat} {K : Kt} {k95 : PH → Prop} {kb : Int32 → PH → Prop} {Q : Int32 → PH → Prop} {x1 : Int32} {x2 : Int32} {x3 : Int32} {h : PH} (C : CX (GX D ca ad) (XS (GX D ca ad)) cX9_tried RX9 4 (some .int) 6 K) (hk95 : ∀ (h : PH), k95 h → PW (GX D ca ad) K 4 (qI Q) h 95 [some (.ref 0), some (.int x1), some (.int x2), none] []) (hkb : ∀ (x3 : Int32) (h : PH), kb x3 h → PW (GX D ca ad) K 4 (qI Q) h 62 [some (.ref 0), some (.int x1), some (.int x2), some (.int x3)] []) (hw : w_X9_tried_62 k95 Q x1 x2 kb x3 h) : PW (GX D ca ad) K 4 (qI Q) h 62 [some (.ref 0), some (.int x1), some (.int x2), some (.int x3)] [] := by
  unfold w_X9_tried_62 at hw
  refine PW.ild3n C dX9_tried_62 ?_
  refine PW.ald0n C dX9_tried_63 ?_
  refine PW.get0 (v := .ref 77) C cf_9 fl_X9_33 (by decide) oX_0 (fvR (o := 77) rfl) dX9_tried_64 ?_
  refine PW.getN0 (v := .ref 80) C cf_8 fl_X9_162 (by decide) oX_77 (fvR (o := 3) rfl) dX9_tried_67 ?_
  refine PW.getN0 C cf_6 fl_X9_208 (by decide) oX_80 (fvI rfl) dX9_tried_70 ?_
  refine PW.icmp_ge (tgt := 95) C dX9_tried_73 (by decide) (fun c => ?_) (fun c => ?_)
  · rw [if_pos c] at hw
    exact PW.wk (wk_s (wk_s (wk_s (wk_n wk_0)))) (hk95 _ hw)
  · rw [if_neg c] at hw
    refine PW.ald0n C dX9_tried_76 ?_
    refine PW.get0 (v := .ref 77) C cf_9 fl_X9_33 (by decide) oX_0 (fvR (o := 77) rfl) dX9_tried_77 ?_
    refine PW.getN0 (v := .ref 80) C cf_8 fl_X9_162 (by decide) oX_77 (fvR (o := 3) rfl) dX9_tried_80 ?_
    refine PW.ild3n C dX9_tried_83 ?_
    refine PW.iconst (v := 3) C dX9_tried_84 (by decide) ?_
    refine PW.iconst (v := 0) C dX9_tried_85 (by decide) ?_
    refine PW.callVV3 C ms_X6_put ml_X9_233 dX9_tried_86 oX_80 ⟨_, _, rfl⟩ (Nat.le_of_ble_eq_true rfl) (by decide) (Nat.le_of_ble_eq_true rfl) (s_X6_put oX_80 hw) ?_
    clear hw
    intro h6 hw
    refine PW.inc3 (v := 1) C dX9_tried_89 (by decide) rfl (by decide) ?_
    refine PW.goto (tgt := 62) C dX9_tried_92 (by decide) ?_
    exact PW.wk (wk_s (wk_s (wk_s (wk_s wk_0)))) (hkb _ _ hw)
theorem l_X9_tried_62 {D : va_G} {ca : Nat → ClassId} {ad : Nat → Nat} {K : Kt} {k95 : PH → Prop} {Q : Int32 → PH → Prop} {x1 : Int32} {x2 : Int32} (C : CX (GX D ca ad) (XS (GX D ca ad)) cX9_tried RX9 4 (some .int) 6 K) (hk95 : ∀ (h : PH), k95 h → PW (GX D ca ad) K 4 (qI Q) h 95 [some (.ref 0), some (.int x1), some (.int x2), none] []) : ∀ (n : Nat) (x3 : Int32) (h : PH), Lp1 (w_X9_tried_62 k95 Q x1 x2) n x3 h → PW (GX D ca ad) K 4 (qI Q) h 62 [some (.ref 0), some (.int x1), some (.int x2), some (.int x3)] [] := by
  intro n
  induction n with
  | zero => intro x3 h hw; exact hw.elim
  | succ n ih => intro x3 h hw; exact b_X9_tried_62 C hk95 (fun x3 h hw => ih x3 h hw) hw
def w_X9_tried_167 (Q : Int32 → PH → Prop) (s1 : Int32) (h : PH) : Prop :=
  w_X9_measureTrial s1 h (fun h8 => w_X0_silentMinutes 106 h8 (fun z10 h9 => Q z10 h9))
set_option maxRecDepth 8000 in
theorem b_X9_tried_167 {D : va_G} {ca : Nat → ClassId} {ad : Nat → Nat} {K : Kt} {Q : Int32 → PH → Prop} {s1 : Int32} {h : PH} (C : CX (GX D ca ad) (XS (GX D ca ad)) cX9_tried RX9 4 (some .int) 6 K) (hw : w_X9_tried_167 Q s1 h) : PW (GX D ca ad) K 4 (qI Q) h 167 [some (.ref 0), none, none, none] [.int s1, .ref 0] := by
  unfold w_X9_tried_167 at hw
  refine PW.callVV1 C ms_X9_measureTrial ml_X9_328 dX9_tried_167 oX_0 ⟨_, _, rfl⟩ (Nat.le_of_ble_eq_true rfl) (by decide) (Nat.le_of_ble_eq_true rfl) (s_X9_measureTrial hw) ?_
  clear hw
  intro h8 hw
  refine PW.ald0n C dX9_tried_170 ?_
  refine PW.get0 (v := .ref 106) C cf_9 fl_X9_43 (by decide) oX_0 (fvR (o := 106) rfl) dX9_tried_171 ?_
  refine PW.callVI0 C ms_X0_silentMinutes ml_X9_349 dX9_tried_174 oX_106 ⟨_, _, rfl⟩ (Nat.le_of_ble_eq_true rfl) (by decide) (Nat.le_of_ble_eq_true rfl) (s_X0_silentMinutes oX_106 hw) ?_
  clear hw
  intro z10 h9 hw
  exact PW.iret C dX9_tried_177 ⟨_, rfl, hw⟩
def w_X9_tried_156 (Q : Int32 → PH → Prop) (x1 : Int32) (x2 : Int32) (h : PH) : Prop :=
  if x1 = 4 then (w_X9_tried_167 Q x2 h) else (w_X9_tried_167 Q (-1) h)
set_option maxRecDepth 8000 in
theorem b_X9_tried_156 {D : va_G} {ca : Nat → ClassId} {ad : Nat → Nat} {K : Kt} {Q : Int32 → PH → Prop} {x1 : Int32} {x2 : Int32} {h : PH} (C : CX (GX D ca ad) (XS (GX D ca ad)) cX9_tried RX9 4 (some .int) 6 K) (hw : w_X9_tried_156 Q x1 x2 h) : PW (GX D ca ad) K 4 (qI Q) h 156 [some (.ref 0), some (.int x1), some (.int x2), none] [] := by
  unfold w_X9_tried_156 at hw
  refine PW.ald0n C dX9_tried_156 ?_
  refine PW.ild1n C dX9_tried_157 ?_
  refine PW.iconst (v := 4) C dX9_tried_158 (by decide) ?_
  refine PW.icmp_ne (tgt := 166) C dX9_tried_159 (by decide) (fun c => ?_) (fun c => ?_)
  · rw [if_neg c] at hw
    refine PW.iconst (v := (-1)) C dX9_tried_166 (by decide) ?_
    exact PW.wk (wk_s (wk_n (wk_n (wk_n wk_0)))) (b_X9_tried_167 C hw)
  · rw [if_pos c] at hw
    refine PW.ild2n C dX9_tried_162 ?_
    refine PW.goto (tgt := 167) C dX9_tried_163 (by decide) ?_
    exact PW.wk (wk_s (wk_n (wk_n (wk_n wk_0)))) (b_X9_tried_167 C hw)
def w_X9_tried (x1 : Int32) (x2 : Int32) (h : PH) (Q : Int32 → PH → Prop) : Prop :=
  w_X9_canTry x1 x2 h (fun z2 h1 => if z2 = 0 then (Q (-1) h1) else (gP h1 0 3 ≠ 0 ∧ oX (gP h1 0 3 - 1) 8 ∧ w_X8_copyFrom 77 (gP h1 0 3 - 1) h1 (fun h5 => if x1 = 0 then (∃ n, Lp1 (w_X9_tried_62 (fun h7 => w_X9_tried_156 Q x1 x2 h7) Q x1 x2) n 0 h5) else (if x1 = 1 then (w_X6_put 84 x2 5 1 h5 (fun h12 => w_X9_tried_156 Q x1 x2 h12)) else (if x1 = 2 then (w_X8_silence 77 x2 h5 (fun h14 => w_X9_tried_156 Q x1 x2 h14)) else (if x1 = 3 then (w_X8_muffle 77 h5 (fun h16 => w_X9_tried_156 Q x1 x2 h16)) else (if x1 = 5 then (w_X6_add 84 x2 (-1) 0 47 8 h5 (fun z19 h18 => w_X9_tried_156 Q x1 x2 h18)) else (w_X9_tried_156 Q x1 x2 h5))))))))
set_option maxRecDepth 8000 in
theorem s_X9_tried {D : va_G} {ca : Nat → ClassId} {ad : Nat → Nat} {l : Launch} {x1 : Int32} {x2 : Int32} {h : PH} {Q : Int32 → PH → Prop} (hw : w_X9_tried x1 x2 h Q) : Sp (GX D ca ad) (XS (GX D ca ad)) l 6 yX9_tried cX9_tried 4 (some .int) [.ref 0, .int x1, .int x2] h (qI Q) := by
  refine Sp.of (own := RX9) [some (.ref 0), some (.int x1), some (.int x2), none] (by decide +kernel) rfl rfl (Nat.le_of_ble_eq_true rfl) (fun K hl C => ?_)
  subst hl
  unfold w_X9_tried at hw
  refine PW.ald0n C dX9_tried_0 ?_
  refine PW.ild1n C dX9_tried_1 ?_
  refine PW.ild2n C dX9_tried_2 ?_
  refine PW.callVI2 C ms_X9_canTry ml_X9_367 dX9_tried_3 oX_0 ⟨_, _, rfl⟩ (Nat.le_of_ble_eq_true rfl) (by decide) (Nat.le_of_ble_eq_true rfl) (s_X9_canTry hw) ?_
  clear hw
  intro z2 h1 hw
  refine PW.if_ne (tgt := 11) C dX9_tried_6 (by decide) (fun c => ?_) (fun c => ?_)
  · rw [if_neg c] at hw
    refine PW.ald0n C dX9_tried_11 ?_
    refine PW.get0 (v := .ref 77) C cf_9 fl_X9_33 (by decide) oX_0 (fvR (o := 77) rfl) dX9_tried_12 ?_
    refine PW.ald0n C dX9_tried_15 ?_
    obtain ⟨hz4, hq3, hw⟩ := hw
    refine PW.get0 C cf_9 fl_X9_23 (by decide) oX_0 (fvP rfl hz4) dX9_tried_16 ?_
    refine PW.callVV1 C ms_X8_copyFrom ml_X9_263 dX9_tried_19 oX_77 ⟨_, _, rfl⟩ (Nat.le_of_ble_eq_true rfl) (by decide) (Nat.le_of_ble_eq_true rfl) (s_X8_copyFrom oX_77 hq3 hw) ?_
    clear hw
    intro h5 hw
    refine PW.ild1n C dX9_tried_22 ?_
    refine PW.byc 0 (fun c => ?_) (fun c => ?_)
    · rw [if_pos c] at hw
      subst c
      refine PW.tin (tgt := 60) C dX9_tried_23 (by decide) (by decide) rfl (by decide) ?_
      refine PW.iconst (v := 0) C dX9_tried_60 (by decide) ?_
      refine PW.ist3n C dX9_tried_61 (by decide) rfl ?_
      obtain ⟨n, hw⟩ := hw
      refine PW.wk (wk_s (wk_s (wk_s (wk_s wk_0)))) (l_X9_tried_62 C ?_ n _ _ hw)
      · intro h7 hw
        refine PW.goto (tgt := 156) C dX9_tried_95 (by decide) ?_
        exact PW.wk (wk_s (wk_s (wk_s (wk_n wk_0)))) (b_X9_tried_156 C hw)
    have n11 := c
    rw [if_neg c] at hw
    refine PW.byc 1 (fun c => ?_) (fun c => ?_)
    · rw [if_pos c] at hw
      subst c
      refine PW.tin (tgt := 98) C dX9_tried_23 (by decide) (by decide) rfl (by decide) ?_
      refine PW.ald0n C dX9_tried_98 ?_
      refine PW.get0 (v := .ref 77) C cf_9 fl_X9_33 (by decide) oX_0 (fvR (o := 77) rfl) dX9_tried_99 ?_
      refine PW.getN0 (v := .ref 84) C cf_8 fl_X9_156 (by decide) oX_77 (fvR (o := 7) rfl) dX9_tried_102 ?_
      refine PW.ild2n C dX9_tried_105 ?_
      refine PW.iconst (v := 5) C dX9_tried_106 (by decide) ?_
      refine PW.iconst (v := 1) C dX9_tried_107 (by decide) ?_
      refine PW.callVV3 C ms_X6_put ml_X9_233 dX9_tried_108 oX_84 ⟨_, _, rfl⟩ (Nat.le_of_ble_eq_true rfl) (by decide) (Nat.le_of_ble_eq_true rfl) (s_X6_put oX_84 hw) ?_
      clear hw
      intro h12 hw
      refine PW.goto (tgt := 156) C dX9_tried_111 (by decide) ?_
      exact PW.wk (wk_s (wk_s (wk_s (wk_n wk_0)))) (b_X9_tried_156 C hw)
    have n13 := c
    rw [if_neg c] at hw
    refine PW.byc 2 (fun c => ?_) (fun c => ?_)
    · rw [if_pos c] at hw
      subst c
      refine PW.tin (tgt := 114) C dX9_tried_23 (by decide) (by decide) rfl (by decide) ?_
      refine PW.ald0n C dX9_tried_114 ?_
      refine PW.get0 (v := .ref 77) C cf_9 fl_X9_33 (by decide) oX_0 (fvR (o := 77) rfl) dX9_tried_115 ?_
      refine PW.ild2n C dX9_tried_118 ?_
      refine PW.callVV1 C ms_X8_silence ml_X9_370 dX9_tried_119 oX_77 ⟨_, _, rfl⟩ (Nat.le_of_ble_eq_true rfl) (by decide) (Nat.le_of_ble_eq_true rfl) (s_X8_silence oX_77 hw) ?_
      clear hw
      intro h14 hw
      refine PW.goto (tgt := 156) C dX9_tried_122 (by decide) ?_
      exact PW.wk (wk_s (wk_s (wk_s (wk_n wk_0)))) (b_X9_tried_156 C hw)
    have n15 := c
    rw [if_neg c] at hw
    refine PW.byc 3 (fun c => ?_) (fun c => ?_)
    · rw [if_pos c] at hw
      subst c
      refine PW.tin (tgt := 125) C dX9_tried_23 (by decide) (by decide) rfl (by decide) ?_
      refine PW.ald0n C dX9_tried_125 ?_
      refine PW.get0 (v := .ref 77) C cf_9 fl_X9_33 (by decide) oX_0 (fvR (o := 77) rfl) dX9_tried_126 ?_
      refine PW.callVV0 C ms_X8_muffle ml_X9_373 dX9_tried_129 oX_77 ⟨_, _, rfl⟩ (Nat.le_of_ble_eq_true rfl) (by decide) (Nat.le_of_ble_eq_true rfl) (s_X8_muffle oX_77 hw) ?_
      clear hw
      intro h16 hw
      refine PW.goto (tgt := 156) C dX9_tried_132 (by decide) ?_
      exact PW.wk (wk_s (wk_s (wk_s (wk_n wk_0)))) (b_X9_tried_156 C hw)
    have n17 := c
    rw [if_neg c] at hw
    refine PW.byc 5 (fun c => ?_) (fun c => ?_)
    · rw [if_pos c] at hw
      subst c
      refine PW.tin (tgt := 135) C dX9_tried_23 (by decide) (by decide) rfl (by decide) ?_
      refine PW.ald0n C dX9_tried_135 ?_
      refine PW.get0 (v := .ref 77) C cf_9 fl_X9_33 (by decide) oX_0 (fvR (o := 77) rfl) dX9_tried_136 ?_
      refine PW.getN0 (v := .ref 84) C cf_8 fl_X9_156 (by decide) oX_77 (fvR (o := 7) rfl) dX9_tried_139 ?_
      refine PW.ild2n C dX9_tried_142 ?_
      refine PW.iconst (v := (-1)) C dX9_tried_143 (by decide) ?_
      refine PW.iconst (v := 0) C dX9_tried_144 (by decide) ?_
      refine PW.bipush (v := 47) C dX9_tried_145 (by decide) ?_
      refine PW.bipush (v := 8) C dX9_tried_147 (by decide) ?_
      refine PW.callVI5 C ms_X6_add ml_X9_225 dX9_tried_149 oX_84 ⟨_, _, rfl⟩ (Nat.le_of_ble_eq_true rfl) (by decide) (Nat.le_of_ble_eq_true rfl) (s_X6_add oX_84 hw) ?_
      clear hw
      intro z19 h18 hw
      refine PW.pop C dX9_tried_152 rfl ?_
      refine PW.goto (tgt := 156) C dX9_tried_153 (by decide) ?_
      exact PW.wk (wk_s (wk_s (wk_s (wk_n wk_0)))) (b_X9_tried_156 C hw)
    have n20 := c
    rw [if_neg c] at hw
    refine PW.byc 4 (fun c => ?_) (fun c => ?_)
    · subst c
      refine PW.tin (tgt := 156) C dX9_tried_23 (by decide) (by decide) rfl (by decide) ?_
      exact PW.wk (wk_s (wk_s (wk_s (wk_n wk_0)))) (b_X9_tried_156 C hw)
    have n21 := c
    refine PW.tout (tgt := 156) C dX9_tried_23 (by have e0 := ne_ti (z := 0) (by decide) n11; have e1 := ne_ti (z := 1) (by decide) n13; have e2 := ne_ti (z := 2) (by decide) n15; have e3 := ne_ti (z := 3) (by decide) n17; have e4 := ne_ti (z := 5) (by decide) n20; have e5 := ne_ti (z := 4) (by decide) n21; omega) (by decide) ?_
    exact PW.wk (wk_s (wk_s (wk_s (wk_n wk_0)))) (b_X9_tried_156 C hw)
  · rw [if_pos c] at hw
    refine PW.iconst (v := (-1)) C dX9_tried_9 (by decide) ?_
    exact PW.iret C dX9_tried_10 ⟨_, rfl, hw⟩
def w_X9_nextNumber (x0 : Int32) (h : PH) (Q : Int32 → PH → Prop) : Prop :=
  Q (((x0 * 1103515245) + 12345) &&& 2147483647) h
set_option maxRecDepth 8000 in
theorem s_X9_nextNumber {D : va_G} {ca : Nat → ClassId} {ad : Nat → Nat} {l : Launch} {x0 : Int32} {h : PH} {Q : Int32 → PH → Prop} (hw : w_X9_nextNumber x0 h Q) : Sp (GX D ca ad) (XS (GX D ca ad)) l 1 yX9_nextNumber cX9_nextNumber 1 (some .int) [.int x0] h (qI Q) := by
  refine Sp.of (own := RX9) [some (.int x0)] (by decide +kernel) rfl rfl (Nat.le_of_ble_eq_true rfl) (fun K hl C => ?_)
  subst hl
  unfold w_X9_nextNumber at hw
  refine PW.ild0n C dX9_nextNumber_0 ?_
  refine PW.ldcw (v := 1103515245) C cs_X9_361 dX9_nextNumber_1 ?_
  refine PW.imul C dX9_nextNumber_4 ?_
  refine PW.sipush (v := 12345) C dX9_nextNumber_5 (by decide) ?_
  refine PW.iadd C dX9_nextNumber_8 ?_
  refine PW.ldcw (v := 2147483647) C cs_X9_312 dX9_nextNumber_9 ?_
  refine PW.iand C dX9_nextNumber_12 ?_
  exact PW.iret C dX9_nextNumber_13 ⟨_, rfl, hw⟩
def w_X9_quarrelled_5 (k70 : Int32 → PH → Prop) (Q : Int32 → PH → Prop) (x1 : Int32) (x2 : Int32) (kb : Int32 → Int32 → PH → Prop) (x3 : Int32) (x4 : Int32) (h : PH) : Prop :=
  gP h 0 3 ≠ 0 ∧ oX (gP h 0 3 - 1) 8 ∧ if (gI h ((gP h 0 3 - 1) + 1) 3) ≤ x4 then (k70 x3 h) else (gP h 0 3 ≠ 0 ∧ oX (gP h 0 3 - 1) 8 ∧ w_X0_minutesHeard 100 (gP h 0 3 - 1) x1 x2 (x2 + 3) 10 x4 h (fun z6 h5 => w_X0_silentAt 100 x4 h5 (fun z8 h7 => w_J13_bitCount_95d88 (z8 &&& (z6 ^^^ (-1))) h7 (fun z10 h9 => ∀ (y11 : Int32), y11 = (x3 + z10) → kb y11 (x4 + 1) h9))))
set_option maxRecDepth 8000 in
theorem b_X9_quarrelled_5 {D : va_G} {ca : Nat → ClassId} {ad : Nat → Nat} {K : Kt} {k70 : Int32 → PH → Prop} {kb : Int32 → Int32 → PH → Prop} {Q : Int32 → PH → Prop} {x1 : Int32} {x2 : Int32} {x3 : Int32} {x4 : Int32} {h : PH} (C : CX (GX D ca ad) (XS (GX D ca ad)) cX9_quarrelled RX9 7 (some .int) 4 K) (hk70 : ∀ (x3 : Int32) (h : PH), k70 x3 h → PW (GX D ca ad) K 7 (qI Q) h 70 [none, none, none, some (.int x3), none, none, none] []) (hkb : ∀ (x3 : Int32) (x4 : Int32) (h : PH), kb x3 x4 h → PW (GX D ca ad) K 7 (qI Q) h 5 [some (.ref 0), some (.int x1), some (.int x2), some (.int x3), some (.int x4), none, none] []) (hw : w_X9_quarrelled_5 k70 Q x1 x2 kb x3 x4 h) : PW (GX D ca ad) K 7 (qI Q) h 5 [some (.ref 0), some (.int x1), some (.int x2), some (.int x3), some (.int x4), none, none] [] := by
  unfold w_X9_quarrelled_5 at hw
  refine PW.ild4 C dX9_quarrelled_5 ?_
  refine PW.ald0n C dX9_quarrelled_7 ?_
  obtain ⟨hz2, hq1, hw⟩ := hw
  refine PW.get0 C cf_9 fl_X9_23 (by decide) oX_0 (fvP rfl hz2) dX9_quarrelled_8 ?_
  refine PW.getN0 C cf_8 fl_X9_115 (by decide) hq1 (fvR (o := 1) rfl) dX9_quarrelled_11 ?_
  refine PW.getN0 C cf_6 fl_X9_208 (by decide) (sf_8_0 hq1) (fvI rfl) dX9_quarrelled_14 ?_
  refine PW.icmp_ge (tgt := 70) C dX9_quarrelled_17 (by decide) (fun c => ?_) (fun c => ?_)
  · rw [if_pos c] at hw
    exact PW.wk (wk_n (wk_n (wk_n (wk_s (wk_n (wk_n (wk_n wk_0))))))) (hk70 _ _ hw)
  · rw [if_neg c] at hw
    refine PW.ald0n C dX9_quarrelled_20 ?_
    refine PW.get0 (v := .ref 100) C cf_9 fl_X9_39 (by decide) oX_0 (fvR (o := 100) rfl) dX9_quarrelled_21 ?_
    refine PW.ald0n C dX9_quarrelled_24 ?_
    obtain ⟨hz4, hq3, hw⟩ := hw
    refine PW.get0 C cf_9 fl_X9_23 (by decide) oX_0 (fvP rfl hz4) dX9_quarrelled_25 ?_
    refine PW.ild1n C dX9_quarrelled_28 ?_
    refine PW.ild2n C dX9_quarrelled_29 ?_
    refine PW.ild2n C dX9_quarrelled_30 ?_
    refine PW.iconst (v := 3) C dX9_quarrelled_31 (by decide) ?_
    refine PW.iadd C dX9_quarrelled_32 ?_
    refine PW.bipush (v := 10) C dX9_quarrelled_33 (by decide) ?_
    refine PW.ild4 C dX9_quarrelled_35 ?_
    refine PW.callVJ6 C ms_X0_minutesHeard ml_X9_282 dX9_quarrelled_37 oX_100 ⟨_, _, rfl⟩ (Nat.le_of_ble_eq_true rfl) (by decide) (Nat.le_of_ble_eq_true rfl) (s_X0_minutesHeard oX_100 hq3 hw) ?_
    clear hw
    intro z6 h5 hw
    refine PW.lst5 C dX9_quarrelled_40 (by decide) rfl ?_
    refine PW.ild3n C dX9_quarrelled_42 ?_
    refine PW.ald0n C dX9_quarrelled_43 ?_
    refine PW.get0 (v := .ref 100) C cf_9 fl_X9_39 (by decide) oX_0 (fvR (o := 100) rfl) dX9_quarrelled_44 ?_
    refine PW.ild4 C dX9_quarrelled_47 ?_
    refine PW.callVJ1 C ms_X0_silentAt ml_X9_192 dX9_quarrelled_49 oX_100 ⟨_, _, rfl⟩ (Nat.le_of_ble_eq_true rfl) (by decide) (Nat.le_of_ble_eq_true rfl) (s_X0_silentAt oX_100 hw) ?_
    clear hw
    intro z8 h7 hw
    refine PW.lld5 C dX9_quarrelled_52 ?_
    refine PW.ldc2 (v := (-1)) C cs_X9_196 dX9_quarrelled_54 ?_
    refine PW.lxor C dX9_quarrelled_57 ?_
    refine PW.land C dX9_quarrelled_58 ?_
    refine PW.callSI1 C ms_J13_bitCount_95d88 ml_X9_362 dX9_quarrelled_59 (Nat.le_of_ble_eq_true rfl) (by decide) (Nat.le_of_ble_eq_true rfl) (s_J13_bitCount_95d88 hw) ?_
    clear hw
    intro z10 h9 hw
    refine PW.iadd C dX9_quarrelled_62 ?_
    replace hw := hw _ rfl
    refine PW.ist3n C dX9_quarrelled_63 (by decide) rfl ?_
    refine PW.inc4 (v := 1) C dX9_quarrelled_64 (by decide) rfl (by decide) ?_
    refine PW.goto (tgt := 5) C dX9_quarrelled_67 (by decide) ?_
    exact PW.wk (wk_s (wk_s (wk_s (wk_s (wk_s (wk_n (wk_n wk_0))))))) (hkb _ _ _ hw)
theorem l_X9_quarrelled_5 {D : va_G} {ca : Nat → ClassId} {ad : Nat → Nat} {K : Kt} {k70 : Int32 → PH → Prop} {Q : Int32 → PH → Prop} {x1 : Int32} {x2 : Int32} (C : CX (GX D ca ad) (XS (GX D ca ad)) cX9_quarrelled RX9 7 (some .int) 4 K) (hk70 : ∀ (x3 : Int32) (h : PH), k70 x3 h → PW (GX D ca ad) K 7 (qI Q) h 70 [none, none, none, some (.int x3), none, none, none] []) : ∀ (n : Nat) (x3 : Int32) (x4 : Int32) (h : PH), Lp2 (w_X9_quarrelled_5 k70 Q x1 x2) n x3 x4 h → PW (GX D ca ad) K 7 (qI Q) h 5 [some (.ref 0), some (.int x1), some (.int x2), some (.int x3), some (.int x4), none, none] [] := by
  intro n
  induction n with
  | zero => intro x3 x4 h hw; exact hw.elim
  | succ n ih => intro x3 x4 h hw; exact b_X9_quarrelled_5 C hk70 (fun x3 x4 h hw => ih x3 x4 h hw) hw
def w_X9_quarrelled (x1 : Int32) (x2 : Int32) (h : PH) (Q : Int32 → PH → Prop) : Prop :=
  ∃ n, Lp2 (w_X9_quarrelled_5 (fun y13 h12 => Q y13 h12) Q x1 x2) n 0 0 h
set_option maxRecDepth 8000 in
theorem s_X9_quarrelled {D : va_G} {ca : Nat → ClassId} {ad : Nat → Nat} {l : Launch} {x1 : Int32} {x2 : Int32} {h : PH} {Q : Int32 → PH → Prop} (hw : w_X9_quarrelled x1 x2 h Q) : Sp (GX D ca ad) (XS (GX D ca ad)) l 4 yX9_quarrelled cX9_quarrelled 7 (some .int) [.ref 0, .int x1, .int x2] h (qI Q) := by
  refine Sp.of (own := RX9) [some (.ref 0), some (.int x1), some (.int x2), none, none, none, none] (by decide +kernel) rfl rfl (Nat.le_of_ble_eq_true rfl) (fun K hl C => ?_)
  subst hl
  unfold w_X9_quarrelled at hw
  refine PW.iconst (v := 0) C dX9_quarrelled_0 (by decide) ?_
  refine PW.ist3n C dX9_quarrelled_1 (by decide) rfl ?_
  refine PW.iconst (v := 0) C dX9_quarrelled_2 (by decide) ?_
  refine PW.ist4 C dX9_quarrelled_3 (by decide) rfl ?_
  obtain ⟨n, hw⟩ := hw
  refine PW.wk (wk_s (wk_s (wk_s (wk_s (wk_s (wk_n (wk_n wk_0))))))) (l_X9_quarrelled_5 C ?_ n _ _ _ hw)
  · intro y13 h12 hw
    refine PW.ild3n C dX9_quarrelled_70 ?_
    exact PW.iret C dX9_quarrelled_71 ⟨_, rfl, hw⟩
def w_X9_year_159 (Q : Int32 → PH → Prop) (kb : Int32 → Int32 → Int32 → PH → Prop) (x2 : Int32) (x3 : Int32) (x4 : Int32) (x5 : Int32) (x6 : Int32) (x7 : Int32) (x8 : Int32) (h : PH) : Prop :=
  ∀ (y14 : Int32), y14 = (x7 + x3) → kb x6 y14 (x8 + 1) h
set_option maxRecDepth 8000 in
theorem b_X9_year_159 {D : va_G} {ca : Nat → ClassId} {ad : Nat → Nat} {K : Kt} {kb : Int32 → Int32 → Int32 → PH → Prop} {Q : Int32 → PH → Prop} {x2 : Int32} {x3 : Int32} {x4 : Int32} {x5 : Int32} {x6 : Int32} {x7 : Int32} {x8 : Int32} {h : PH} (C : CX (GX D ca ad) (XS (GX D ca ad)) cX9_year RX9 11 (some .int) 7 K) (hkb : ∀ (x6 : Int32) (x7 : Int32) (x8 : Int32) (h : PH), kb x6 x7 x8 h → PW (GX D ca ad) K 11 (qI Q) h 53 [some (.ref 0), none, some (.int x2), some (.int x3), some (.int x4), some (.int x5), some (.int x6), some (.int x7), some (.int x8), none, none] []) (hw : w_X9_year_159 Q kb x2 x3 x4 x5 x6 x7 x8 h) : PW (GX D ca ad) K 11 (qI Q) h 159 [some (.ref 0), none, some (.int x2), some (.int x3), some (.int x4), some (.int x5), some (.int x6), some (.int x7), some (.int x8), none, none] [] := by
  unfold w_X9_year_159 at hw
  refine PW.ild7 C dX9_year_159 ?_
  refine PW.ild3n C dX9_year_161 ?_
  refine PW.iadd C dX9_year_162 ?_
  replace hw := hw _ rfl
  refine PW.ist7 C dX9_year_163 (by decide) rfl ?_
  refine PW.inc8 (v := 1) C dX9_year_165 (by decide) rfl (by decide) ?_
  refine PW.goto (tgt := 53) C dX9_year_168 (by decide) ?_
  exact PW.wk (wk_s (wk_n (wk_s (wk_s (wk_s (wk_s (wk_s (wk_s (wk_s (wk_n (wk_n wk_0))))))))))) (hkb _ _ _ _ hw)
def w_X9_year_53 (k171 : Int32 → PH → Prop) (Q : Int32 → PH → Prop) (x2 : Int32) (x3 : Int32) (x4 : Int32) (x5 : Int32) (kb : Int32 → Int32 → Int32 → PH → Prop) (x6 : Int32) (x7 : Int32) (x8 : Int32) (h : PH) : Prop :=
  if x2 ≤ x8 then (k171 x7 h) else (w_X9_nextNumber x6 h (fun z12 h11 => ∀ (y13 : Int32), y13 = (((z12 : Int32) >>> ((16 : Int32) &&& 31)) - ((z12 : Int32) >>> ((16 : Int32) &&& 31)) / 3 * 3) → if y13 = 0 then (∀ (y27 : Int32), y27 = (x7 + x4) → kb z12 y27 (x8 + 1) h11) else (if y13 = 1 then (if x5 ≤ 0 then (w_X9_year_159 Q kb x2 x3 x4 x5 z12 x7 x8 h11) else (gP h11 0 3 ≠ 0 ∧ oX (gP h11 0 3 - 1) 8 ∧ if (gI h11 ((gP h11 0 3 - 1) + 5) 3) ≤ 0 then (w_X9_year_159 Q kb x2 x3 x4 x5 z12 x7 x8 h11) else (w_X9_nextNumber z12 h11 (fun z18 h17 => w_X9_nextNumber z18 h17 (fun z20 h19 => w_X9_nextNumber z20 h19 (fun z22 h21 => ¬ x5 = 0 ∧ w_X9_quarrelled (((z18 : Int32) >>> ((16 : Int32) &&& 31)) - ((z18 : Int32) >>> ((16 : Int32) &&& 31)) / x5 * x5) (((z22 : Int32) >>> ((16 : Int32) &&& 31)) - ((z22 : Int32) >>> ((16 : Int32) &&& 31)) / 44 * 44) h21 (fun z25 h24 => ∀ (y26 : Int32), y26 = (x7 + z25) → kb z22 y26 (x8 + 1) h24))))))) else (w_X9_year_159 Q kb x2 x3 x4 x5 z12 x7 x8 h11))))
set_option maxRecDepth 8000 in
theorem b_X9_year_53 {D : va_G} {ca : Nat → ClassId} {ad : Nat → Nat} {K : Kt} {k171 : Int32 → PH → Prop} {kb : Int32 → Int32 → Int32 → PH → Prop} {Q : Int32 → PH → Prop} {x2 : Int32} {x3 : Int32} {x4 : Int32} {x5 : Int32} {x6 : Int32} {x7 : Int32} {x8 : Int32} {h : PH} (C : CX (GX D ca ad) (XS (GX D ca ad)) cX9_year RX9 11 (some .int) 7 K) (hk171 : ∀ (x7 : Int32) (h : PH), k171 x7 h → PW (GX D ca ad) K 11 (qI Q) h 171 [none, none, none, none, none, none, none, some (.int x7), none, none, none] []) (hkb : ∀ (x6 : Int32) (x7 : Int32) (x8 : Int32) (h : PH), kb x6 x7 x8 h → PW (GX D ca ad) K 11 (qI Q) h 53 [some (.ref 0), none, some (.int x2), some (.int x3), some (.int x4), some (.int x5), some (.int x6), some (.int x7), some (.int x8), none, none] []) (hw : w_X9_year_53 k171 Q x2 x3 x4 x5 kb x6 x7 x8 h) : PW (GX D ca ad) K 11 (qI Q) h 53 [some (.ref 0), none, some (.int x2), some (.int x3), some (.int x4), some (.int x5), some (.int x6), some (.int x7), some (.int x8), none, none] [] := by
  unfold w_X9_year_53 at hw
  refine PW.ild8 C dX9_year_53 ?_
  refine PW.ild2n C dX9_year_55 ?_
  refine PW.icmp_ge (tgt := 171) C dX9_year_56 (by decide) (fun c => ?_) (fun c => ?_)
  · rw [if_pos c] at hw
    exact PW.wk (wk_n (wk_n (wk_n (wk_n (wk_n (wk_n (wk_n (wk_s (wk_n (wk_n (wk_n wk_0))))))))))) (hk171 _ _ hw)
  · rw [if_neg c] at hw
    refine PW.ild6 C dX9_year_59 ?_
    refine PW.callSI1 C ms_X9_nextNumber ml_X9_355 dX9_year_61 (Nat.le_of_ble_eq_true rfl) (by decide) (Nat.le_of_ble_eq_true rfl) (s_X9_nextNumber hw) ?_
    clear hw
    intro z12 h11 hw
    refine PW.ist6 C dX9_year_64 (by decide) rfl ?_
    refine PW.ild6 C dX9_year_66 ?_
    refine PW.bipush (v := 16) C dX9_year_68 (by decide) ?_
    refine PW.ishr C dX9_year_70 ?_
    refine PW.iconst (v := 3) C dX9_year_71 (by decide) ?_
    refine PW.irem C dX9_year_72 (by decide) ?_
    replace hw := hw _ rfl
    refine PW.ist9 C dX9_year_73 (by decide) rfl ?_
    refine PW.ild9 C dX9_year_75 ?_
    refine PW.if_ne (tgt := 90) C dX9_year_77 (by decide) (fun c => ?_) (fun c => ?_)
    · rw [if_neg c] at hw
      refine PW.ild9 C dX9_year_90 ?_
      refine PW.iconst (v := 1) C dX9_year_92 (by decide) ?_
      refine PW.icmp_ne (tgt := 159) C dX9_year_93 (by decide) (fun c => ?_) (fun c => ?_)
      · rw [if_neg c] at hw
        exact PW.wk (wk_s (wk_n (wk_s (wk_s (wk_s (wk_s (wk_s (wk_s (wk_s (wk_n (wk_n wk_0))))))))))) (b_X9_year_159 C hkb hw)
      · rw [if_pos c] at hw
        refine PW.ild5 C dX9_year_96 ?_
        refine PW.if_le (tgt := 159) C dX9_year_98 (by decide) (fun c => ?_) (fun c => ?_)
        · rw [if_pos c] at hw
          exact PW.wk (wk_s (wk_n (wk_s (wk_s (wk_s (wk_s (wk_s (wk_s (wk_s (wk_n (wk_n wk_0))))))))))) (b_X9_year_159 C hkb hw)
        · rw [if_neg c] at hw
          refine PW.ald0n C dX9_year_101 ?_
          obtain ⟨hz16, hq15, hw⟩ := hw
          refine PW.get0 C cf_9 fl_X9_23 (by decide) oX_0 (fvP rfl hz16) dX9_year_102 ?_
          refine PW.getN0 C cf_8 fl_X9_122 (by decide) hq15 (fvR (o := 5) rfl) dX9_year_105 ?_
          refine PW.getN0 C cf_6 fl_X9_208 (by decide) (sf_8_2 hq15) (fvI rfl) dX9_year_108 ?_
          refine PW.if_le (tgt := 159) C dX9_year_111 (by decide) (fun c => ?_) (fun c => ?_)
          · rw [if_pos c] at hw
            exact PW.wk (wk_s (wk_n (wk_s (wk_s (wk_s (wk_s (wk_s (wk_s (wk_s (wk_n (wk_n wk_0))))))))))) (b_X9_year_159 C hkb hw)
          · rw [if_neg c] at hw
            refine PW.ild6 C dX9_year_114 ?_
            refine PW.callSI1 C ms_X9_nextNumber ml_X9_355 dX9_year_116 (Nat.le_of_ble_eq_true rfl) (by decide) (Nat.le_of_ble_eq_true rfl) (s_X9_nextNumber hw) ?_
            clear hw
            intro z18 h17 hw
            refine PW.ist10 C dX9_year_119 (by decide) rfl ?_
            refine PW.ild10 C dX9_year_121 ?_
            refine PW.callSI1 C ms_X9_nextNumber ml_X9_355 dX9_year_123 (Nat.le_of_ble_eq_true rfl) (by decide) (Nat.le_of_ble_eq_true rfl) (s_X9_nextNumber hw) ?_
            clear hw
            intro z20 h19 hw
            refine PW.callSI1 C ms_X9_nextNumber ml_X9_355 dX9_year_126 (Nat.le_of_ble_eq_true rfl) (by decide) (Nat.le_of_ble_eq_true rfl) (s_X9_nextNumber hw) ?_
            clear hw
            intro z22 h21 hw
            refine PW.ist6 C dX9_year_129 (by decide) rfl ?_
            refine PW.ild7 C dX9_year_131 ?_
            refine PW.ald0n C dX9_year_133 ?_
            refine PW.ild10 C dX9_year_134 ?_
            refine PW.bipush (v := 16) C dX9_year_136 (by decide) ?_
            refine PW.ishr C dX9_year_138 ?_
            refine PW.ild5 C dX9_year_139 ?_
            obtain ⟨hc23, hw⟩ := hw
            refine PW.irem C dX9_year_141 hc23 ?_
            refine PW.ild6 C dX9_year_142 ?_
            refine PW.bipush (v := 16) C dX9_year_144 (by decide) ?_
            refine PW.ishr C dX9_year_146 ?_
            refine PW.bipush (v := 44) C dX9_year_147 (by decide) ?_
            refine PW.irem C dX9_year_149 (by decide) ?_
            refine PW.callVI2 C ms_X9_quarrelled ml_X9_358 dX9_year_150 oX_0 ⟨_, _, rfl⟩ (Nat.le_of_ble_eq_true rfl) (by decide) (Nat.le_of_ble_eq_true rfl) (s_X9_quarrelled hw) ?_
            clear hw
            intro z25 h24 hw
            refine PW.iadd C dX9_year_153 ?_
            replace hw := hw _ rfl
            refine PW.ist7 C dX9_year_154 (by decide) rfl ?_
            refine PW.goto (tgt := 165) C dX9_year_156 (by decide) ?_
            refine PW.inc8 (v := 1) C dX9_year_165 (by decide) rfl (by decide) ?_
            refine PW.goto (tgt := 53) C dX9_year_168 (by decide) ?_
            exact PW.wk (wk_s (wk_n (wk_s (wk_s (wk_s (wk_s (wk_s (wk_s (wk_s (wk_n (wk_n wk_0))))))))))) (hkb _ _ _ _ hw)
    · rw [if_pos c] at hw
      refine PW.ild7 C dX9_year_80 ?_
      refine PW.ild4 C dX9_year_82 ?_
      refine PW.iadd C dX9_year_84 ?_
      replace hw := hw _ rfl
      refine PW.ist7 C dX9_year_85 (by decide) rfl ?_
      refine PW.goto (tgt := 165) C dX9_year_87 (by decide) ?_
      refine PW.inc8 (v := 1) C dX9_year_165 (by decide) rfl (by decide) ?_
      refine PW.goto (tgt := 53) C dX9_year_168 (by decide) ?_
      exact PW.wk (wk_s (wk_n (wk_s (wk_s (wk_s (wk_s (wk_s (wk_s (wk_s (wk_n (wk_n wk_0))))))))))) (hkb _ _ _ _ hw)
theorem l_X9_year_53 {D : va_G} {ca : Nat → ClassId} {ad : Nat → Nat} {K : Kt} {k171 : Int32 → PH → Prop} {Q : Int32 → PH → Prop} {x2 : Int32} {x3 : Int32} {x4 : Int32} {x5 : Int32} (C : CX (GX D ca ad) (XS (GX D ca ad)) cX9_year RX9 11 (some .int) 7 K) (hk171 : ∀ (x7 : Int32) (h : PH), k171 x7 h → PW (GX D ca ad) K 11 (qI Q) h 171 [none, none, none, none, none, none, none, some (.int x7), none, none, none] []) : ∀ (n : Nat) (x6 : Int32) (x7 : Int32) (x8 : Int32) (h : PH), Lp3 (w_X9_year_53 k171 Q x2 x3 x4 x5) n x6 x7 x8 h → PW (GX D ca ad) K 11 (qI Q) h 53 [some (.ref 0), none, some (.int x2), some (.int x3), some (.int x4), some (.int x5), some (.int x6), some (.int x7), some (.int x8), none, none] [] := by
  intro n
  induction n with
  | zero => intro x6 x7 x8 h hw; exact hw.elim
  | succ n ih => intro x6 x7 x8 h hw; exact b_X9_year_53 C hk171 (fun x6 x7 x8 h hw => ih x6 x7 x8 h hw) hw
def w_X9_year (x1 : Int32) (x2 : Int32) (h : PH) (Q : Int32 → PH → Prop) : Prop :=
  if x1 < 0 then (Q (-1) h) else (if x2 < 0 then (Q (-1) h) else (if x2 ≤ 20 then (w_X9_freshAir h (fun z2 h1 => z2 = 100 ∧ w_X0_silentMinutes 100 h1 (fun z5 h4 => w_X9_tried 3 0 h4 (fun z7 h6 => gP h6 0 3 ≠ 0 ∧ oX (gP h6 0 3 - 1) 8 ∧ ∀ (y10 : Int32), y10 = (gI h6 ((gP h6 0 3 - 1) + 1) 3) → ∃ n, Lp3 (w_X9_year_53 (fun y29 h28 => Q y29 h28) Q x2 z5 z7 y10) n x1 0 0 h6)))) else (Q (-1) h)))
set_option maxRecDepth 8000 in
theorem s_X9_year {D : va_G} {ca : Nat → ClassId} {ad : Nat → Nat} {l : Launch} {x1 : Int32} {x2 : Int32} {h : PH} {Q : Int32 → PH → Prop} (hw : w_X9_year x1 x2 h Q) : Sp (GX D ca ad) (XS (GX D ca ad)) l 7 yX9_year cX9_year 11 (some .int) [.ref 0, .int x1, .int x2] h (qI Q) := by
  refine Sp.of (own := RX9) [some (.ref 0), some (.int x1), some (.int x2), none, none, none, none, none, none, none, none] (by decide +kernel) rfl rfl (Nat.le_of_ble_eq_true rfl) (fun K hl C => ?_)
  subst hl
  unfold w_X9_year at hw
  refine PW.ild1n C dX9_year_0 ?_
  refine PW.if_lt (tgt := 14) C dX9_year_1 (by decide) (fun c => ?_) (fun c => ?_)
  · rw [if_pos c] at hw
    refine PW.iconst (v := (-1)) C dX9_year_14 (by decide) ?_
    exact PW.iret C dX9_year_15 ⟨_, rfl, hw⟩
  · rw [if_neg c] at hw
    refine PW.ild2n C dX9_year_4 ?_
    refine PW.if_lt (tgt := 14) C dX9_year_5 (by decide) (fun c => ?_) (fun c => ?_)
    · rw [if_pos c] at hw
      refine PW.iconst (v := (-1)) C dX9_year_14 (by decide) ?_
      exact PW.iret C dX9_year_15 ⟨_, rfl, hw⟩
    · rw [if_neg c] at hw
      refine PW.ild2n C dX9_year_8 ?_
      refine PW.bipush (v := 20) C dX9_year_9 (by decide) ?_
      refine PW.icmp_le (tgt := 16) C dX9_year_11 (by decide) (fun c => ?_) (fun c => ?_)
      · rw [if_pos c] at hw
        refine PW.ald0n C dX9_year_16 ?_
        refine PW.callVR0 C ms_X9_freshAir ml_X9_139 dX9_year_17 oX_0 ⟨_, _, rfl⟩ (Nat.le_of_ble_eq_true rfl) (by decide) (Nat.le_of_ble_eq_true rfl) (s_X9_freshAir hw) ?_
        clear hw
        intro z2 h1 hw
        obtain ⟨hq3, hw⟩ := hw
        subst hq3
        refine PW.callVI0 C ms_X0_silentMinutes ml_X9_349 dX9_year_20 oX_100 ⟨_, _, rfl⟩ (Nat.le_of_ble_eq_true rfl) (by decide) (Nat.le_of_ble_eq_true rfl) (s_X0_silentMinutes oX_100 hw) ?_
        clear hw
        intro z5 h4 hw
        refine PW.ist3n C dX9_year_23 (by decide) rfl ?_
        refine PW.ald0n C dX9_year_24 ?_
        refine PW.iconst (v := 3) C dX9_year_25 (by decide) ?_
        refine PW.iconst (v := 0) C dX9_year_26 (by decide) ?_
        refine PW.callVI2 C ms_X9_tried ml_X9_352 dX9_year_27 oX_0 ⟨_, _, rfl⟩ (Nat.le_of_ble_eq_true rfl) (by decide) (Nat.le_of_ble_eq_true rfl) (s_X9_tried hw) ?_
        clear hw
        intro z7 h6 hw
        refine PW.ist4 C dX9_year_30 (by decide) rfl ?_
        refine PW.ald0n C dX9_year_32 ?_
        obtain ⟨hz9, hq8, hw⟩ := hw
        refine PW.get0 C cf_9 fl_X9_23 (by decide) oX_0 (fvP rfl hz9) dX9_year_33 ?_
        refine PW.getN0 C cf_8 fl_X9_115 (by decide) hq8 (fvR (o := 1) rfl) dX9_year_36 ?_
        refine PW.getN0 C cf_6 fl_X9_208 (by decide) (sf_8_0 hq8) (fvI rfl) dX9_year_39 ?_
        replace hw := hw _ rfl
        refine PW.ist5 C dX9_year_42 (by decide) rfl ?_
        refine PW.ild1n C dX9_year_44 ?_
        refine PW.ist6 C dX9_year_45 (by decide) rfl ?_
        refine PW.iconst (v := 0) C dX9_year_47 (by decide) ?_
        refine PW.ist7 C dX9_year_48 (by decide) rfl ?_
        refine PW.iconst (v := 0) C dX9_year_50 (by decide) ?_
        refine PW.ist8 C dX9_year_51 (by decide) rfl ?_
        obtain ⟨n, hw⟩ := hw
        refine PW.wk (wk_s (wk_n (wk_s (wk_s (wk_s (wk_s (wk_s (wk_s (wk_s (wk_n (wk_n wk_0))))))))))) (l_X9_year_53 C ?_ n _ _ _ _ hw)
        · intro y29 h28 hw
          refine PW.ild7 C dX9_year_171 ?_
          exact PW.iret C dX9_year_173 ⟨_, rfl, hw⟩
      · rw [if_neg c] at hw
        refine PW.iconst (v := (-1)) C dX9_year_14 (by decide) ?_
        exact PW.iret C dX9_year_15 ⟨_, rfl, hw⟩
def w_X9_undo_160 (Q : Int32 → PH → Prop) (h : PH) : Prop :=
  w_X6_removeLast 135 h (fun h11 => w_X9_changed h11 (fun h12 => Q (gI h12 135 3) h12))
set_option maxRecDepth 8000 in
theorem b_X9_undo_160 {D : va_G} {ca : Nat → ClassId} {ad : Nat → Nat} {K : Kt} {Q : Int32 → PH → Prop} {h : PH} (C : CX (GX D ca ad) (XS (GX D ca ad)) cX9_undo RX9 4 (some .int) 4 K) (hw : w_X9_undo_160 Q h) : PW (GX D ca ad) K 4 (qI Q) h 160 [some (.ref 0), none, none, none] [] := by
  unfold w_X9_undo_160 at hw
  refine PW.ald0n C dX9_undo_160 ?_
  refine PW.get0 (v := .ref 135) C cf_9 fl_X9_72 (by decide) oX_0 (fvR (o := 135) rfl) dX9_undo_161 ?_
  refine PW.callVV0 C ms_X6_removeLast ml_X9_382 dX9_undo_164 oX_135 ⟨_, _, rfl⟩ (Nat.le_of_ble_eq_true rfl) (by decide) (Nat.le_of_ble_eq_true rfl) (s_X6_removeLast oX_135 hw) ?_
  clear hw
  intro h11 hw
  refine PW.ald0n C dX9_undo_167 ?_
  refine PW.callVV0 C ms_X9_changed ml_X9_103 dX9_undo_168 oX_0 ⟨_, _, rfl⟩ (Nat.le_of_ble_eq_true rfl) (by decide) (Nat.le_of_ble_eq_true rfl) (s_X9_changed hw) ?_
  clear hw
  intro h12 hw
  refine PW.ald0n C dX9_undo_171 ?_
  refine PW.get0 (v := .ref 135) C cf_9 fl_X9_72 (by decide) oX_0 (fvR (o := 135) rfl) dX9_undo_172 ?_
  refine PW.getN0 C cf_6 fl_X9_208 (by decide) oX_135 (fvI rfl) dX9_undo_175 ?_
  exact PW.iret C dX9_undo_178 ⟨_, rfl, hw⟩
def w_X9_undo (h : PH) (Q : Int32 → PH → Prop) : Prop :=
  if (gI h 135 3) = 0 then (Q (-1) h) else (∀ (y1 : Int32), y1 = ((gI h 135 3) - 1) → w_X6_at 135 y1 1 h (fun z3 h2 => w_X6_at 135 y1 2 h2 (fun z5 h4 => w_X6_at 135 y1 0 h4 (fun z7 h6 => if z7 = 0 then (gP h6 0 3 ≠ 0 ∧ oX (gP h6 0 3 - 1) 8 ∧ w_X6_removeLast ((gP h6 0 3 - 1) + 7) h6 (fun h10 => w_X9_undo_160 Q h10)) else (if z7 = 1 then (gP h6 0 3 ≠ 0 ∧ oX (gP h6 0 3 - 1) 8 ∧ w_X6_put ((gP h6 0 3 - 1) + 7) z3 5 0 h6 (fun h16 => w_X9_undo_160 Q h16)) else (if z7 = 2 then (gP h6 0 3 ≠ 0 ∧ oX (gP h6 0 3 - 1) 8 ∧ w_X6_put ((gP h6 0 3 - 1) + 3) z3 3 z5 h6 (fun h20 => w_X9_undo_160 Q h20)) else (gP h6 0 3 ≠ 0 ∧ oX (gP h6 0 3 - 1) 8 ∧ w_X6_put ((gP h6 0 3 - 1) + 9) z3 0 z5 h6 (fun h24 => gP h24 0 3 ≠ 0 ∧ oX (gP h24 0 3 - 1) 8 ∧ w_X6_at 135 y1 3 h24 (fun z28 h27 => w_X6_at 135 y1 4 h27 (fun z30 h29 => w_X8_pay (gP h24 0 3 - 1) z5 z28 z30 h29 (fun h31 => w_X9_undo_160 Q h31)))))))))))
set_option maxRecDepth 8000 in
theorem s_X9_undo {D : va_G} {ca : Nat → ClassId} {ad : Nat → Nat} {l : Launch} {h : PH} {Q : Int32 → PH → Prop} (hw : w_X9_undo h Q) : Sp (GX D ca ad) (XS (GX D ca ad)) l 4 yX9_undo cX9_undo 4 (some .int) [.ref 0] h (qI Q) := by
  refine Sp.of (own := RX9) [some (.ref 0), none, none, none] (by decide +kernel) rfl rfl (Nat.le_of_ble_eq_true rfl) (fun K hl C => ?_)
  subst hl
  unfold w_X9_undo at hw
  refine PW.ald0n C dX9_undo_0 ?_
  refine PW.get0 (v := .ref 135) C cf_9 fl_X9_72 (by decide) oX_0 (fvR (o := 135) rfl) dX9_undo_1 ?_
  refine PW.getN0 C cf_6 fl_X9_208 (by decide) oX_135 (fvI rfl) dX9_undo_4 ?_
  refine PW.if_ne (tgt := 12) C dX9_undo_7 (by decide) (fun c => ?_) (fun c => ?_)
  · rw [if_neg c] at hw
    refine PW.ald0n C dX9_undo_12 ?_
    refine PW.get0 (v := .ref 135) C cf_9 fl_X9_72 (by decide) oX_0 (fvR (o := 135) rfl) dX9_undo_13 ?_
    refine PW.getN0 C cf_6 fl_X9_208 (by decide) oX_135 (fvI rfl) dX9_undo_16 ?_
    refine PW.iconst (v := 1) C dX9_undo_19 (by decide) ?_
    refine PW.isub C dX9_undo_20 ?_
    replace hw := hw _ rfl
    refine PW.ist1n C dX9_undo_21 (by decide) rfl ?_
    refine PW.ald0n C dX9_undo_22 ?_
    refine PW.get0 (v := .ref 135) C cf_9 fl_X9_72 (by decide) oX_0 (fvR (o := 135) rfl) dX9_undo_23 ?_
    refine PW.ild1n C dX9_undo_26 ?_
    refine PW.iconst (v := 1) C dX9_undo_27 (by decide) ?_
    refine PW.callVI2 C ms_X6_at ml_X9_136 dX9_undo_28 oX_135 ⟨_, _, rfl⟩ (Nat.le_of_ble_eq_true rfl) (by decide) (Nat.le_of_ble_eq_true rfl) (s_X6_at oX_135 hw) ?_
    clear hw
    intro z3 h2 hw
    refine PW.ist2n C dX9_undo_31 (by decide) rfl ?_
    refine PW.ald0n C dX9_undo_32 ?_
    refine PW.get0 (v := .ref 135) C cf_9 fl_X9_72 (by decide) oX_0 (fvR (o := 135) rfl) dX9_undo_33 ?_
    refine PW.ild1n C dX9_undo_36 ?_
    refine PW.iconst (v := 2) C dX9_undo_37 (by decide) ?_
    refine PW.callVI2 C ms_X6_at ml_X9_136 dX9_undo_38 oX_135 ⟨_, _, rfl⟩ (Nat.le_of_ble_eq_true rfl) (by decide) (Nat.le_of_ble_eq_true rfl) (s_X6_at oX_135 hw) ?_
    clear hw
    intro z5 h4 hw
    refine PW.ist3n C dX9_undo_41 (by decide) rfl ?_
    refine PW.ald0n C dX9_undo_42 ?_
    refine PW.get0 (v := .ref 135) C cf_9 fl_X9_72 (by decide) oX_0 (fvR (o := 135) rfl) dX9_undo_43 ?_
    refine PW.ild1n C dX9_undo_46 ?_
    refine PW.iconst (v := 0) C dX9_undo_47 (by decide) ?_
    refine PW.callVI2 C ms_X6_at ml_X9_136 dX9_undo_48 oX_135 ⟨_, _, rfl⟩ (Nat.le_of_ble_eq_true rfl) (by decide) (Nat.le_of_ble_eq_true rfl) (s_X6_at oX_135 hw) ?_
    clear hw
    intro z7 h6 hw
    refine PW.byc 0 (fun c => ?_) (fun c => ?_)
    · rw [if_pos c] at hw
      subst c
      refine PW.tin (tgt := 76) C dX9_undo_51 (by decide) (by decide) rfl (by decide) ?_
      refine PW.ald0n C dX9_undo_76 ?_
      obtain ⟨hz9, hq8, hw⟩ := hw
      refine PW.get0 C cf_9 fl_X9_23 (by decide) oX_0 (fvP rfl hz9) dX9_undo_77 ?_
      refine PW.getN0 C cf_8 fl_X9_156 (by decide) hq8 (fvR (o := 7) rfl) dX9_undo_80 ?_
      refine PW.callVV0 C ms_X6_removeLast ml_X9_382 dX9_undo_83 (sf_8_3 hq8) ⟨_, _, rfl⟩ (Nat.le_of_ble_eq_true rfl) (by decide) (Nat.le_of_ble_eq_true rfl) (s_X6_removeLast (sf_8_3 hq8) hw) ?_
      clear hw
      intro h10 hw
      refine PW.goto (tgt := 160) C dX9_undo_86 (by decide) ?_
      exact PW.wk (wk_s (wk_n (wk_n (wk_n wk_0)))) (b_X9_undo_160 C hw)
    have n13 := c
    rw [if_neg c] at hw
    refine PW.byc 1 (fun c => ?_) (fun c => ?_)
    · rw [if_pos c] at hw
      subst c
      refine PW.tin (tgt := 89) C dX9_undo_51 (by decide) (by decide) rfl (by decide) ?_
      refine PW.ald0n C dX9_undo_89 ?_
      obtain ⟨hz15, hq14, hw⟩ := hw
      refine PW.get0 C cf_9 fl_X9_23 (by decide) oX_0 (fvP rfl hz15) dX9_undo_90 ?_
      refine PW.getN0 C cf_8 fl_X9_156 (by decide) hq14 (fvR (o := 7) rfl) dX9_undo_93 ?_
      refine PW.ild2n C dX9_undo_96 ?_
      refine PW.iconst (v := 5) C dX9_undo_97 (by decide) ?_
      refine PW.iconst (v := 0) C dX9_undo_98 (by decide) ?_
      refine PW.callVV3 C ms_X6_put ml_X9_233 dX9_undo_99 (sf_8_3 hq14) ⟨_, _, rfl⟩ (Nat.le_of_ble_eq_true rfl) (by decide) (Nat.le_of_ble_eq_true rfl) (s_X6_put (sf_8_3 hq14) hw) ?_
      clear hw
      intro h16 hw
      refine PW.goto (tgt := 160) C dX9_undo_102 (by decide) ?_
      exact PW.wk (wk_s (wk_n (wk_n (wk_n wk_0)))) (b_X9_undo_160 C hw)
    have n17 := c
    rw [if_neg c] at hw
    refine PW.byc 2 (fun c => ?_) (fun c => ?_)
    · rw [if_pos c] at hw
      subst c
      refine PW.tin (tgt := 105) C dX9_undo_51 (by decide) (by decide) rfl (by decide) ?_
      refine PW.ald0n C dX9_undo_105 ?_
      obtain ⟨hz19, hq18, hw⟩ := hw
      refine PW.get0 C cf_9 fl_X9_23 (by decide) oX_0 (fvP rfl hz19) dX9_undo_106 ?_
      refine PW.getN0 C cf_8 fl_X9_162 (by decide) hq18 (fvR (o := 3) rfl) dX9_undo_109 ?_
      refine PW.ild2n C dX9_undo_112 ?_
      refine PW.iconst (v := 3) C dX9_undo_113 (by decide) ?_
      refine PW.ild3n C dX9_undo_114 ?_
      refine PW.callVV3 C ms_X6_put ml_X9_233 dX9_undo_115 (sf_8_1 hq18) ⟨_, _, rfl⟩ (Nat.le_of_ble_eq_true rfl) (by decide) (Nat.le_of_ble_eq_true rfl) (s_X6_put (sf_8_1 hq18) hw) ?_
      clear hw
      intro h20 hw
      refine PW.goto (tgt := 160) C dX9_undo_118 (by decide) ?_
      exact PW.wk (wk_s (wk_n (wk_n (wk_n wk_0)))) (b_X9_undo_160 C hw)
    have n21 := c
    rw [if_neg c] at hw
    refine PW.tout (tgt := 121) C dX9_undo_51 (by have e0 := ne_ti (z := 0) (by decide) n13; have e1 := ne_ti (z := 1) (by decide) n17; have e2 := ne_ti (z := 2) (by decide) n21; omega) (by decide) ?_
    refine PW.ald0n C dX9_undo_121 ?_
    obtain ⟨hz23, hq22, hw⟩ := hw
    refine PW.get0 C cf_9 fl_X9_23 (by decide) oX_0 (fvP rfl hz23) dX9_undo_122 ?_
    refine PW.getN0 C cf_8 fl_X9_159 (by decide) hq22 (fvR (o := 9) rfl) dX9_undo_125 ?_
    refine PW.ild2n C dX9_undo_128 ?_
    refine PW.iconst (v := 0) C dX9_undo_129 (by decide) ?_
    refine PW.ild3n C dX9_undo_130 ?_
    refine PW.callVV3 C ms_X6_put ml_X9_233 dX9_undo_131 (sf_8_4 hq22) ⟨_, _, rfl⟩ (Nat.le_of_ble_eq_true rfl) (by decide) (Nat.le_of_ble_eq_true rfl) (s_X6_put (sf_8_4 hq22) hw) ?_
    clear hw
    intro h24 hw
    refine PW.ald0n C dX9_undo_134 ?_
    obtain ⟨hz26, hq25, hw⟩ := hw
    refine PW.get0 C cf_9 fl_X9_23 (by decide) oX_0 (fvP rfl hz26) dX9_undo_135 ?_
    refine PW.ild3n C dX9_undo_138 ?_
    refine PW.ald0n C dX9_undo_139 ?_
    refine PW.get0 (v := .ref 135) C cf_9 fl_X9_72 (by decide) oX_0 (fvR (o := 135) rfl) dX9_undo_140 ?_
    refine PW.ild1n C dX9_undo_143 ?_
    refine PW.iconst (v := 3) C dX9_undo_144 (by decide) ?_
    refine PW.callVI2 C ms_X6_at ml_X9_136 dX9_undo_145 oX_135 ⟨_, _, rfl⟩ (Nat.le_of_ble_eq_true rfl) (by decide) (Nat.le_of_ble_eq_true rfl) (s_X6_at oX_135 hw) ?_
    clear hw
    intro z28 h27 hw
    refine PW.ald0n C dX9_undo_148 ?_
    refine PW.get0 (v := .ref 135) C cf_9 fl_X9_72 (by decide) oX_0 (fvR (o := 135) rfl) dX9_undo_149 ?_
    refine PW.ild1n C dX9_undo_152 ?_
    refine PW.iconst (v := 4) C dX9_undo_153 (by decide) ?_
    refine PW.callVI2 C ms_X6_at ml_X9_136 dX9_undo_154 oX_135 ⟨_, _, rfl⟩ (Nat.le_of_ble_eq_true rfl) (by decide) (Nat.le_of_ble_eq_true rfl) (s_X6_at oX_135 hw) ?_
    clear hw
    intro z30 h29 hw
    refine PW.callVV3 C ms_X8_pay ml_X9_237 dX9_undo_157 hq25 ⟨_, _, rfl⟩ (Nat.le_of_ble_eq_true rfl) (by decide) (Nat.le_of_ble_eq_true rfl) (s_X8_pay hq25 hw) ?_
    clear hw
    intro h31 hw
    exact PW.wk (wk_s (wk_n (wk_n (wk_n wk_0)))) (b_X9_undo_160 C hw)
  · rw [if_pos c] at hw
    refine PW.iconst (v := (-1)) C dX9_undo_10 (by decide) ?_
    exact PW.iret C dX9_undo_11 ⟨_, rfl, hw⟩
def w_X9_keep (h : PH) (Q : Int32 → PH → Prop) : Prop :=
  gP h 0 3 ≠ 0 ∧ oX (gP h 0 3 - 1) 8 ∧ w_X8_copyFrom 54 (gP h 0 3 - 1) h (fun h3 => ∀ h4, h4 = sI h3 0 6 1 → gP h4 0 3 ≠ 0 ∧ oX (gP h4 0 3 - 1) 8 ∧ Q (gI h4 (gP h4 0 3 - 1) 11) h4)
set_option maxRecDepth 8000 in
theorem s_X9_keep {D : va_G} {ca : Nat → ClassId} {ad : Nat → Nat} {l : Launch} {h : PH} {Q : Int32 → PH → Prop} (hw : w_X9_keep h Q) : Sp (GX D ca ad) (XS (GX D ca ad)) l 3 yX9_keep cX9_keep 1 (some .int) [.ref 0] h (qI Q) := by
  refine Sp.of (own := RX9) [some (.ref 0)] (by decide +kernel) rfl rfl (Nat.le_of_ble_eq_true rfl) (fun K hl C => ?_)
  subst hl
  unfold w_X9_keep at hw
  refine PW.ald0n C dX9_keep_0 ?_
  refine PW.get0 (v := .ref 54) C cf_9 fl_X9_30 (by decide) oX_0 (fvR (o := 54) rfl) dX9_keep_1 ?_
  refine PW.ald0n C dX9_keep_4 ?_
  obtain ⟨hz2, hq1, hw⟩ := hw
  refine PW.get0 C cf_9 fl_X9_23 (by decide) oX_0 (fvP rfl hz2) dX9_keep_5 ?_
  refine PW.callVV1 C ms_X8_copyFrom ml_X9_263 dX9_keep_8 oX_54 ⟨_, _, rfl⟩ (Nat.le_of_ble_eq_true rfl) (by decide) (Nat.le_of_ble_eq_true rfl) (s_X8_copyFrom oX_54 hq1 hw) ?_
  clear hw
  intro h3 hw
  refine PW.ald0n C dX9_keep_11 ?_
  refine PW.iconst (v := 1) C dX9_keep_12 (by decide) ?_
  replace hw := hw _ rfl
  refine PW.put0 C cf_9 fl_X9_95 (by decide) oX_0 rfl (z_nar (by decide)).1 (z_nar (by decide)).2 (pw_sI oX_0 (by decide) rfl) dX9_keep_13 ?_
  refine PW.ald0n C dX9_keep_16 ?_
  obtain ⟨hz6, hq5, hw⟩ := hw
  refine PW.get0 C cf_9 fl_X9_23 (by decide) oX_0 (fvP rfl hz6) dX9_keep_17 ?_
  refine PW.getN0 C cf_8 fl_X9_240 (by decide) hq5 (fvI rfl) dX9_keep_20 ?_
  exact PW.iret C dX9_keep_23 ⟨_, rfl, hw⟩
def w_X9_back (h : PH) (Q : Int32 → PH → Prop) : Prop :=
  if (gI h 0 6) = 0 then (Q (-1) h) else (gP h 0 3 ≠ 0 ∧ oX (gP h 0 3 - 1) 8 ∧ w_X8_copyFrom (gP h 0 3 - 1) 54 h (fun h3 => w_X6_clear 135 h3 (fun h4 => w_X9_changed h4 (fun h5 => gP h5 0 3 ≠ 0 ∧ oX (gP h5 0 3 - 1) 8 ∧ Q (gI h5 (gP h5 0 3 - 1) 11) h5))))
set_option maxRecDepth 8000 in
theorem s_X9_back {D : va_G} {ca : Nat → ClassId} {ad : Nat → Nat} {l : Launch} {h : PH} {Q : Int32 → PH → Prop} (hw : w_X9_back h Q) : Sp (GX D ca ad) (XS (GX D ca ad)) l 3 yX9_back cX9_back 1 (some .int) [.ref 0] h (qI Q) := by
  refine Sp.of (own := RX9) [some (.ref 0)] (by decide +kernel) rfl rfl (Nat.le_of_ble_eq_true rfl) (fun K hl C => ?_)
  subst hl
  unfold w_X9_back at hw
  refine PW.ald0n C dX9_back_0 ?_
  refine PW.get0 C cf_9 fl_X9_95 (by decide) oX_0 (fvI rfl) dX9_back_1 ?_
  refine PW.if_ne (tgt := 9) C dX9_back_4 (by decide) (fun c => ?_) (fun c => ?_)
  · rw [if_neg c] at hw
    refine PW.ald0n C dX9_back_9 ?_
    obtain ⟨hz2, hq1, hw⟩ := hw
    refine PW.get0 C cf_9 fl_X9_23 (by decide) oX_0 (fvP rfl hz2) dX9_back_10 ?_
    refine PW.ald0n C dX9_back_13 ?_
    refine PW.get0 (v := .ref 54) C cf_9 fl_X9_30 (by decide) oX_0 (fvR (o := 54) rfl) dX9_back_14 ?_
    refine PW.callVV1 C ms_X8_copyFrom ml_X9_263 dX9_back_17 hq1 ⟨_, _, rfl⟩ (Nat.le_of_ble_eq_true rfl) (by decide) (Nat.le_of_ble_eq_true rfl) (s_X8_copyFrom hq1 oX_54 hw) ?_
    clear hw
    intro h3 hw
    refine PW.ald0n C dX9_back_20 ?_
    refine PW.get0 (v := .ref 135) C cf_9 fl_X9_72 (by decide) oX_0 (fvR (o := 135) rfl) dX9_back_21 ?_
    refine PW.callVV0 C ms_X6_clear ml_X9_102 dX9_back_24 oX_135 ⟨_, _, rfl⟩ (Nat.le_of_ble_eq_true rfl) (by decide) (Nat.le_of_ble_eq_true rfl) (s_X6_clear oX_135 hw) ?_
    clear hw
    intro h4 hw
    refine PW.ald0n C dX9_back_27 ?_
    refine PW.callVV0 C ms_X9_changed ml_X9_103 dX9_back_28 oX_0 ⟨_, _, rfl⟩ (Nat.le_of_ble_eq_true rfl) (by decide) (Nat.le_of_ble_eq_true rfl) (s_X9_changed hw) ?_
    clear hw
    intro h5 hw
    refine PW.ald0n C dX9_back_31 ?_
    obtain ⟨hz7, hq6, hw⟩ := hw
    refine PW.get0 C cf_9 fl_X9_23 (by decide) oX_0 (fvP rfl hz7) dX9_back_32 ?_
    refine PW.getN0 C cf_8 fl_X9_240 (by decide) hq6 (fvI rfl) dX9_back_35 ?_
    exact PW.iret C dX9_back_38 ⟨_, rfl, hw⟩
  · rw [if_pos c] at hw
    refine PW.iconst (v := (-1)) C dX9_back_7 (by decide) ?_
    exact PW.iret C dX9_back_8 ⟨_, rfl, hw⟩
def w_X9_count (x1 : Int32) (h : PH) (Q : Int32 → PH → Prop) : Prop :=
  if x1 = 0 then (gP h 0 3 ≠ 0 ∧ oX (gP h 0 3 - 1) 8 ∧ Q (gI h ((gP h 0 3 - 1) + 1) 3) h) else (if x1 = 1 then (gP h 0 3 ≠ 0 ∧ oX (gP h 0 3 - 1) 8 ∧ Q (gI h ((gP h 0 3 - 1) + 3) 3) h) else (if x1 = 2 then (gP h 0 3 ≠ 0 ∧ oX (gP h 0 3 - 1) 8 ∧ Q (gI h ((gP h 0 3 - 1) + 5) 3) h) else (if x1 = 3 then (gP h 0 3 ≠ 0 ∧ oX (gP h 0 3 - 1) 8 ∧ Q (gI h ((gP h 0 3 - 1) + 7) 3) h) else (if x1 = 4 then (gP h 0 3 ≠ 0 ∧ oX (gP h 0 3 - 1) 8 ∧ Q (gI h ((gP h 0 3 - 1) + 9) 3) h) else (if x1 = 5 then (gP h 0 3 ≠ 0 ∧ oX (gP h 0 3 - 1) 8 ∧ Q (gI h ((gP h 0 3 - 1) + 13) 3) h) else (if x1 = 6 then (gP h 0 3 ≠ 0 ∧ oX (gP h 0 3 - 1) 8 ∧ w_X8_dogs (gP h 0 3 - 1) h (fun z22 h21 => w_J6_bitCount_0f7a4 z22 h21 (fun z24 h23 => Q z24 h23))) else (if x1 = 7 then (gP h 0 3 ≠ 0 ∧ oX (gP h 0 3 - 1) 8 ∧ gP h 0 3 ≠ 0 ∧ oX (gP h 0 3 - 1) 8 ∧ Q ((gI h ((gP h 0 3 - 1) + 15) 3) + (gI h ((gP h 0 3 - 1) + 19) 3)) h) else (if x1 = 8 then (gP h 0 3 ≠ 0 ∧ oX (gP h 0 3 - 1) 8 ∧ Q (gI h (gP h 0 3 - 1) 11) h) else (if x1 = 9 then (Q (gI h 130 3) h) else (if x1 = 10 then (w_X2_knownMany h (fun z36 h35 => Q z36 h35)) else (if x1 = 11 then (Q (gI h 135 3) h) else (if x1 = 12 then (gP h 0 3 ≠ 0 ∧ oX (gP h 0 3 - 1) 8 ∧ w_X6_sum ((gP h 0 3 - 1) + 3) 3 h (fun z42 h41 => Q z42 h41)) else (if x1 = 13 then (w_X9_freshAir h (fun z45 h44 => z45 = 100 ∧ gP h44 0 3 ≠ 0 ∧ oX (gP h44 0 3 - 1) 8 ∧ w_X0_trespasses 100 (gP h44 0 3 - 1) (-1) (-1) h44 (fun z50 h49 => Q z50 h49))) else (if x1 = 14 then (gP h 0 3 ≠ 0 ∧ oX (gP h 0 3 - 1) 8 ∧ w_X6_sum ((gP h 0 3 - 1) + 5) 1 h (fun z55 h54 => Q z55 h54)) else (if x1 = 15 then (w_X9_freshAir h (fun z58 h57 => z58 = 100 ∧ w_X0_silentMinutes 100 h57 (fun z61 h60 => Q z61 h60))) else (Q (-1) h))))))))))))))))
set_option maxRecDepth 8000 in
theorem s_X9_count {D : va_G} {ca : Nat → ClassId} {ad : Nat → Nat} {l : Launch} {x1 : Int32} {h : PH} {Q : Int32 → PH → Prop} (hw : w_X9_count x1 h Q) : Sp (GX D ca ad) (XS (GX D ca ad)) l 7 yX9_count cX9_count 2 (some .int) [.ref 0, .int x1] h (qI Q) := by
  refine Sp.of (own := RX9) [some (.ref 0), some (.int x1)] (by decide +kernel) rfl rfl (Nat.le_of_ble_eq_true rfl) (fun K hl C => ?_)
  subst hl
  unfold w_X9_count at hw
  refine PW.ild1n C dX9_count_0 ?_
  refine PW.byc 0 (fun c => ?_) (fun c => ?_)
  · rw [if_pos c] at hw
    subst c
    refine PW.tin (tgt := 80) C dX9_count_1 (by decide) (by decide) rfl (by decide) ?_
    refine PW.ald0n C dX9_count_80 ?_
    obtain ⟨hz2, hq1, hw⟩ := hw
    refine PW.get0 C cf_9 fl_X9_23 (by decide) oX_0 (fvP rfl hz2) dX9_count_81 ?_
    refine PW.getN0 C cf_8 fl_X9_115 (by decide) hq1 (fvR (o := 1) rfl) dX9_count_84 ?_
    refine PW.getN0 C cf_6 fl_X9_208 (by decide) (sf_8_0 hq1) (fvI rfl) dX9_count_87 ?_
    exact PW.iret C dX9_count_90 ⟨_, rfl, hw⟩
  have n3 := c
  rw [if_neg c] at hw
  refine PW.byc 1 (fun c => ?_) (fun c => ?_)
  · rw [if_pos c] at hw
    subst c
    refine PW.tin (tgt := 91) C dX9_count_1 (by decide) (by decide) rfl (by decide) ?_
    refine PW.ald0n C dX9_count_91 ?_
    obtain ⟨hz5, hq4, hw⟩ := hw
    refine PW.get0 C cf_9 fl_X9_23 (by decide) oX_0 (fvP rfl hz5) dX9_count_92 ?_
    refine PW.getN0 C cf_8 fl_X9_162 (by decide) hq4 (fvR (o := 3) rfl) dX9_count_95 ?_
    refine PW.getN0 C cf_6 fl_X9_208 (by decide) (sf_8_1 hq4) (fvI rfl) dX9_count_98 ?_
    exact PW.iret C dX9_count_101 ⟨_, rfl, hw⟩
  have n6 := c
  rw [if_neg c] at hw
  refine PW.byc 2 (fun c => ?_) (fun c => ?_)
  · rw [if_pos c] at hw
    subst c
    refine PW.tin (tgt := 102) C dX9_count_1 (by decide) (by decide) rfl (by decide) ?_
    refine PW.ald0n C dX9_count_102 ?_
    obtain ⟨hz8, hq7, hw⟩ := hw
    refine PW.get0 C cf_9 fl_X9_23 (by decide) oX_0 (fvP rfl hz8) dX9_count_103 ?_
    refine PW.getN0 C cf_8 fl_X9_122 (by decide) hq7 (fvR (o := 5) rfl) dX9_count_106 ?_
    refine PW.getN0 C cf_6 fl_X9_208 (by decide) (sf_8_2 hq7) (fvI rfl) dX9_count_109 ?_
    exact PW.iret C dX9_count_112 ⟨_, rfl, hw⟩
  have n9 := c
  rw [if_neg c] at hw
  refine PW.byc 3 (fun c => ?_) (fun c => ?_)
  · rw [if_pos c] at hw
    subst c
    refine PW.tin (tgt := 113) C dX9_count_1 (by decide) (by decide) rfl (by decide) ?_
    refine PW.ald0n C dX9_count_113 ?_
    obtain ⟨hz11, hq10, hw⟩ := hw
    refine PW.get0 C cf_9 fl_X9_23 (by decide) oX_0 (fvP rfl hz11) dX9_count_114 ?_
    refine PW.getN0 C cf_8 fl_X9_156 (by decide) hq10 (fvR (o := 7) rfl) dX9_count_117 ?_
    refine PW.getN0 C cf_6 fl_X9_208 (by decide) (sf_8_3 hq10) (fvI rfl) dX9_count_120 ?_
    exact PW.iret C dX9_count_123 ⟨_, rfl, hw⟩
  have n12 := c
  rw [if_neg c] at hw
  refine PW.byc 4 (fun c => ?_) (fun c => ?_)
  · rw [if_pos c] at hw
    subst c
    refine PW.tin (tgt := 124) C dX9_count_1 (by decide) (by decide) rfl (by decide) ?_
    refine PW.ald0n C dX9_count_124 ?_
    obtain ⟨hz14, hq13, hw⟩ := hw
    refine PW.get0 C cf_9 fl_X9_23 (by decide) oX_0 (fvP rfl hz14) dX9_count_125 ?_
    refine PW.getN0 C cf_8 fl_X9_159 (by decide) hq13 (fvR (o := 9) rfl) dX9_count_128 ?_
    refine PW.getN0 C cf_6 fl_X9_208 (by decide) (sf_8_4 hq13) (fvI rfl) dX9_count_131 ?_
    exact PW.iret C dX9_count_134 ⟨_, rfl, hw⟩
  have n15 := c
  rw [if_neg c] at hw
  refine PW.byc 5 (fun c => ?_) (fun c => ?_)
  · rw [if_pos c] at hw
    subst c
    refine PW.tin (tgt := 135) C dX9_count_1 (by decide) (by decide) rfl (by decide) ?_
    refine PW.ald0n C dX9_count_135 ?_
    obtain ⟨hz17, hq16, hw⟩ := hw
    refine PW.get0 C cf_9 fl_X9_23 (by decide) oX_0 (fvP rfl hz17) dX9_count_136 ?_
    refine PW.getN0 C cf_8 fl_X9_254 (by decide) hq16 (fvR (o := 13) rfl) dX9_count_139 ?_
    refine PW.getN0 C cf_6 fl_X9_208 (by decide) (sf_8_6 hq16) (fvI rfl) dX9_count_142 ?_
    exact PW.iret C dX9_count_145 ⟨_, rfl, hw⟩
  have n18 := c
  rw [if_neg c] at hw
  refine PW.byc 6 (fun c => ?_) (fun c => ?_)
  · rw [if_pos c] at hw
    subst c
    refine PW.tin (tgt := 146) C dX9_count_1 (by decide) (by decide) rfl (by decide) ?_
    refine PW.ald0n C dX9_count_146 ?_
    obtain ⟨hz20, hq19, hw⟩ := hw
    refine PW.get0 C cf_9 fl_X9_23 (by decide) oX_0 (fvP rfl hz20) dX9_count_147 ?_
    refine PW.callVI0 C ms_X8_dogs ml_X9_286 dX9_count_150 hq19 ⟨_, _, rfl⟩ (Nat.le_of_ble_eq_true rfl) (by decide) (Nat.le_of_ble_eq_true rfl) (s_X8_dogs hq19 hw) ?_
    clear hw
    intro z22 h21 hw
    refine PW.callSI1 C ms_J6_bitCount_0f7a4 ml_X9_267 dX9_count_153 (Nat.le_of_ble_eq_true rfl) (by decide) (Nat.le_of_ble_eq_true rfl) (s_J6_bitCount_0f7a4 hw) ?_
    clear hw
    intro z24 h23 hw
    exact PW.iret C dX9_count_156 ⟨_, rfl, hw⟩
  have n25 := c
  rw [if_neg c] at hw
  refine PW.byc 7 (fun c => ?_) (fun c => ?_)
  · rw [if_pos c] at hw
    subst c
    refine PW.tin (tgt := 157) C dX9_count_1 (by decide) (by decide) rfl (by decide) ?_
    refine PW.ald0n C dX9_count_157 ?_
    obtain ⟨hz27, hq26, hw⟩ := hw
    refine PW.get0 C cf_9 fl_X9_23 (by decide) oX_0 (fvP rfl hz27) dX9_count_158 ?_
    refine PW.getN0 C cf_8 fl_X9_175 (by decide) hq26 (fvR (o := 15) rfl) dX9_count_161 ?_
    refine PW.getN0 C cf_1 fl_X9_392 (by decide) (sf_8_7 hq26) (fvI rfl) dX9_count_164 ?_
    refine PW.ald0n C dX9_count_167 ?_
    obtain ⟨hz29, hq28, hw⟩ := hw
    refine PW.get0 C cf_9 fl_X9_23 (by decide) oX_0 (fvP rfl hz29) dX9_count_168 ?_
    refine PW.getN0 C cf_8 fl_X9_183 (by decide) hq28 (fvR (o := 19) rfl) dX9_count_171 ?_
    refine PW.getN0 C cf_1 fl_X9_392 (by decide) (sf_8_8 hq28) (fvI rfl) dX9_count_174 ?_
    refine PW.iadd C dX9_count_177 ?_
    exact PW.iret C dX9_count_178 ⟨_, rfl, hw⟩
  have n30 := c
  rw [if_neg c] at hw
  refine PW.byc 8 (fun c => ?_) (fun c => ?_)
  · rw [if_pos c] at hw
    subst c
    refine PW.tin (tgt := 179) C dX9_count_1 (by decide) (by decide) rfl (by decide) ?_
    refine PW.ald0n C dX9_count_179 ?_
    obtain ⟨hz32, hq31, hw⟩ := hw
    refine PW.get0 C cf_9 fl_X9_23 (by decide) oX_0 (fvP rfl hz32) dX9_count_180 ?_
    refine PW.getN0 C cf_8 fl_X9_240 (by decide) hq31 (fvI rfl) dX9_count_183 ?_
    exact PW.iret C dX9_count_186 ⟨_, rfl, hw⟩
  have n33 := c
  rw [if_neg c] at hw
  refine PW.byc 9 (fun c => ?_) (fun c => ?_)
  · rw [if_pos c] at hw
    subst c
    refine PW.tin (tgt := 187) C dX9_count_1 (by decide) (by decide) rfl (by decide) ?_
    refine PW.ald0n C dX9_count_187 ?_
    refine PW.get0 (v := .ref 129) C cf_9 fl_X9_63 (by decide) oX_0 (fvR (o := 129) rfl) dX9_count_188 ?_
    refine PW.getN0 (v := .ref 130) C cf_2 fl_X9_306 (by decide) oX_129 (fvR (o := 1) rfl) dX9_count_191 ?_
    refine PW.getN0 C cf_6 fl_X9_208 (by decide) oX_130 (fvI rfl) dX9_count_194 ?_
    exact PW.iret C dX9_count_197 ⟨_, rfl, hw⟩
  have n34 := c
  rw [if_neg c] at hw
  refine PW.byc 10 (fun c => ?_) (fun c => ?_)
  · rw [if_pos c] at hw
    subst c
    refine PW.tin (tgt := 198) C dX9_count_1 (by decide) (by decide) rfl (by decide) ?_
    refine PW.ald0n C dX9_count_198 ?_
    refine PW.get0 (v := .ref 129) C cf_9 fl_X9_63 (by decide) oX_0 (fvR (o := 129) rfl) dX9_count_199 ?_
    refine PW.callVI0 C ms_X2_knownMany ml_X9_393 dX9_count_202 oX_129 ⟨_, _, rfl⟩ (Nat.le_of_ble_eq_true rfl) (by decide) (Nat.le_of_ble_eq_true rfl) (s_X2_knownMany hw) ?_
    clear hw
    intro z36 h35 hw
    exact PW.iret C dX9_count_205 ⟨_, rfl, hw⟩
  have n37 := c
  rw [if_neg c] at hw
  refine PW.byc 11 (fun c => ?_) (fun c => ?_)
  · rw [if_pos c] at hw
    subst c
    refine PW.tin (tgt := 206) C dX9_count_1 (by decide) (by decide) rfl (by decide) ?_
    refine PW.ald0n C dX9_count_206 ?_
    refine PW.get0 (v := .ref 135) C cf_9 fl_X9_72 (by decide) oX_0 (fvR (o := 135) rfl) dX9_count_207 ?_
    refine PW.getN0 C cf_6 fl_X9_208 (by decide) oX_135 (fvI rfl) dX9_count_210 ?_
    exact PW.iret C dX9_count_213 ⟨_, rfl, hw⟩
  have n38 := c
  rw [if_neg c] at hw
  refine PW.byc 12 (fun c => ?_) (fun c => ?_)
  · rw [if_pos c] at hw
    subst c
    refine PW.tin (tgt := 214) C dX9_count_1 (by decide) (by decide) rfl (by decide) ?_
    refine PW.ald0n C dX9_count_214 ?_
    obtain ⟨hz40, hq39, hw⟩ := hw
    refine PW.get0 C cf_9 fl_X9_23 (by decide) oX_0 (fvP rfl hz40) dX9_count_215 ?_
    refine PW.getN0 C cf_8 fl_X9_162 (by decide) hq39 (fvR (o := 3) rfl) dX9_count_218 ?_
    refine PW.iconst (v := 3) C dX9_count_221 (by decide) ?_
    refine PW.callVI1 C ms_X6_sum ml_X9_396 dX9_count_222 (sf_8_1 hq39) ⟨_, _, rfl⟩ (Nat.le_of_ble_eq_true rfl) (by decide) (Nat.le_of_ble_eq_true rfl) (s_X6_sum (sf_8_1 hq39) hw) ?_
    clear hw
    intro z42 h41 hw
    exact PW.iret C dX9_count_225 ⟨_, rfl, hw⟩
  have n43 := c
  rw [if_neg c] at hw
  refine PW.byc 13 (fun c => ?_) (fun c => ?_)
  · rw [if_pos c] at hw
    subst c
    refine PW.tin (tgt := 226) C dX9_count_1 (by decide) (by decide) rfl (by decide) ?_
    refine PW.ald0n C dX9_count_226 ?_
    refine PW.callVR0 C ms_X9_freshAir ml_X9_139 dX9_count_227 oX_0 ⟨_, _, rfl⟩ (Nat.le_of_ble_eq_true rfl) (by decide) (Nat.le_of_ble_eq_true rfl) (s_X9_freshAir hw) ?_
    clear hw
    intro z45 h44 hw
    obtain ⟨hq46, hw⟩ := hw
    subst hq46
    refine PW.ald0n C dX9_count_230 ?_
    obtain ⟨hz48, hq47, hw⟩ := hw
    refine PW.get0 C cf_9 fl_X9_23 (by decide) oX_0 (fvP rfl hz48) dX9_count_231 ?_
    refine PW.iconst (v := (-1)) C dX9_count_234 (by decide) ?_
    refine PW.iconst (v := (-1)) C dX9_count_235 (by decide) ?_
    refine PW.callVI3 C ms_X0_trespasses ml_X9_147 dX9_count_236 oX_100 ⟨_, _, rfl⟩ (Nat.le_of_ble_eq_true rfl) (by decide) (Nat.le_of_ble_eq_true rfl) (s_X0_trespasses oX_100 hq47 hw) ?_
    clear hw
    intro z50 h49 hw
    exact PW.iret C dX9_count_239 ⟨_, rfl, hw⟩
  have n51 := c
  rw [if_neg c] at hw
  refine PW.byc 14 (fun c => ?_) (fun c => ?_)
  · rw [if_pos c] at hw
    subst c
    refine PW.tin (tgt := 240) C dX9_count_1 (by decide) (by decide) rfl (by decide) ?_
    refine PW.ald0n C dX9_count_240 ?_
    obtain ⟨hz53, hq52, hw⟩ := hw
    refine PW.get0 C cf_9 fl_X9_23 (by decide) oX_0 (fvP rfl hz53) dX9_count_241 ?_
    refine PW.getN0 C cf_8 fl_X9_122 (by decide) hq52 (fvR (o := 5) rfl) dX9_count_244 ?_
    refine PW.iconst (v := 1) C dX9_count_247 (by decide) ?_
    refine PW.callVI1 C ms_X6_sum ml_X9_396 dX9_count_248 (sf_8_2 hq52) ⟨_, _, rfl⟩ (Nat.le_of_ble_eq_true rfl) (by decide) (Nat.le_of_ble_eq_true rfl) (s_X6_sum (sf_8_2 hq52) hw) ?_
    clear hw
    intro z55 h54 hw
    exact PW.iret C dX9_count_251 ⟨_, rfl, hw⟩
  have n56 := c
  rw [if_neg c] at hw
  refine PW.byc 15 (fun c => ?_) (fun c => ?_)
  · rw [if_pos c] at hw
    subst c
    refine PW.tin (tgt := 252) C dX9_count_1 (by decide) (by decide) rfl (by decide) ?_
    refine PW.ald0n C dX9_count_252 ?_
    refine PW.callVR0 C ms_X9_freshAir ml_X9_139 dX9_count_253 oX_0 ⟨_, _, rfl⟩ (Nat.le_of_ble_eq_true rfl) (by decide) (Nat.le_of_ble_eq_true rfl) (s_X9_freshAir hw) ?_
    clear hw
    intro z58 h57 hw
    obtain ⟨hq59, hw⟩ := hw
    subst hq59
    refine PW.callVI0 C ms_X0_silentMinutes ml_X9_349 dX9_count_256 oX_100 ⟨_, _, rfl⟩ (Nat.le_of_ble_eq_true rfl) (by decide) (Nat.le_of_ble_eq_true rfl) (s_X0_silentMinutes oX_100 hw) ?_
    clear hw
    intro z61 h60 hw
    exact PW.iret C dX9_count_259 ⟨_, rfl, hw⟩
  have n62 := c
  rw [if_neg c] at hw
  refine PW.tout (tgt := 260) C dX9_count_1 (by have e0 := ne_ti (z := 0) (by decide) n3; have e1 := ne_ti (z := 1) (by decide) n6; have e2 := ne_ti (z := 2) (by decide) n9; have e3 := ne_ti (z := 3) (by decide) n12; have e4 := ne_ti (z := 4) (by decide) n15; have e5 := ne_ti (z := 5) (by decide) n18; have e6 := ne_ti (z := 6) (by decide) n25; have e7 := ne_ti (z := 7) (by decide) n30; have e8 := ne_ti (z := 8) (by decide) n33; have e9 := ne_ti (z := 9) (by decide) n34; have e10 := ne_ti (z := 10) (by decide) n37; have e11 := ne_ti (z := 11) (by decide) n38; have e12 := ne_ti (z := 12) (by decide) n43; have e13 := ne_ti (z := 13) (by decide) n51; have e14 := ne_ti (z := 14) (by decide) n56; have e15 := ne_ti (z := 15) (by decide) n62; omega) (by decide) ?_
  refine PW.iconst (v := (-1)) C dX9_count_260 (by decide) ?_
  exact PW.iret C dX9_count_261 ⟨_, rfl, hw⟩
