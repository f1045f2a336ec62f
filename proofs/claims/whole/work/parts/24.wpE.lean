def w_X10_thrown (h : PH) (Q : Int32 → PH → Prop) : Prop :=
  Q (gI h 0 0) h
set_option maxRecDepth 8000 in
theorem s_X10_thrown {D : va_G} {ca : Nat → ClassId} {ad : Nat → Nat} {l : Launch} {h : PH} {Q : Int32 → PH → Prop} (hw : w_X10_thrown h Q) : Sp (GM D ca ad) (XS (GM D ca ad)) l 1 yX10_thrown cX10_thrown 1 (some .int) [.ref 0] h (qI Q) := by
  refine Sp.of (own := RX10) [some (.ref 0)] (by decide +kernel) rfl rfl (Nat.le_of_ble_eq_true rfl) (fun K hl C => ?_)
  subst hl
  unfold w_X10_thrown at hw
  refine PW.ald0n C dX10_thrown_0 ?_
  refine PW.get0 C cf_10 fl_X10_235 (by decide) oM_0 (fvI rfl) dX10_thrown_1 ?_
  exact PW.iret C dX10_thrown_4 ⟨_, rfl, hw⟩
def w_X10_feed_73 (Q : Int32 → PH → Prop) (kb : Int32 → PH → Prop) (x1 : Int32) (x2 : Int32) (x3 : Int32) (x4 : Int32) (x5 : Int32) (x6 : Int32) (s0 : Int32) (h : PH) : Prop :=
  vp_in ((gI h 0 2) + x6) 700 ∧ ∀ h3, h3 = sI h 1 (iN ((gI h 0 2) + x6)) (((s0 : Int32) >>> (((24 - (8 * (x6 - x6 / 4 * 4))) : Int32) &&& 31)) &&& 255) → kb (x6 + 1) h3
set_option maxRecDepth 8000 in
theorem b_X10_feed_73 {D : va_G} {ca : Nat → ClassId} {ad : Nat → Nat} {K : Kt} {kb : Int32 → PH → Prop} {Q : Int32 → PH → Prop} {x1 : Int32} {x2 : Int32} {x3 : Int32} {x4 : Int32} {x5 : Int32} {x6 : Int32} {s0 : Int32} {h : PH} (C : CX (GM D ca ad) (XS (GM D ca ad)) cX10_feed RX10 8 (some .int) 1 K) (hkb : ∀ (x6 : Int32) (h : PH), kb x6 h → PW (GM D ca ad) K 8 (qI Q) h 20 [some (.ref 0), some (.int x1), some (.int x2), some (.int x3), some (.int x4), some (.int x5), some (.int x6), none] []) (hw : w_X10_feed_73 Q kb x1 x2 x3 x4 x5 x6 s0 h) : PW (GM D ca ad) K 8 (qI Q) h 73 [some (.ref 0), some (.int x1), some (.int x2), some (.int x3), some (.int x4), some (.int x5), some (.int x6), none] [.int s0] := by
  unfold w_X10_feed_73 at hw
  refine PW.ist7 C dX10_feed_73 (by decide) rfl ?_
  refine PW.ald0n C dX10_feed_75 ?_
  refine PW.get0 (v := .ref 1) C cf_10 fl_X10_7 (by decide) oM_0 (fvR (o := 1) rfl) dX10_feed_76 ?_
  refine PW.ald0n C dX10_feed_79 ?_
  refine PW.get0 C cf_10 fl_X10_238 (by decide) oM_0 (fvI rfl) dX10_feed_80 ?_
  refine PW.ild6 C dX10_feed_83 ?_
  refine PW.iadd C dX10_feed_85 ?_
  refine PW.ild7 C dX10_feed_86 ?_
  refine PW.bipush (v := 24) C dX10_feed_88 (by decide) ?_
  refine PW.bipush (v := 8) C dX10_feed_90 (by decide) ?_
  refine PW.ild6 C dX10_feed_92 ?_
  refine PW.iconst (v := 4) C dX10_feed_94 (by decide) ?_
  refine PW.irem C dX10_feed_95 (by decide) ?_
  refine PW.imul C dX10_feed_96 ?_
  refine PW.isub C dX10_feed_97 ?_
  refine PW.ishr C dX10_feed_98 ?_
  refine PW.sipush (v := 255) C dX10_feed_99 (by decide) ?_
  refine PW.iand C dX10_feed_102 ?_
  obtain ⟨hc2, hw⟩ := hw
  replace hw := hw _ rfl
  refine PW.iast C dX10_feed_103 aM_1 hc2 ?_
  refine PW.inc6 (v := 1) C dX10_feed_104 (by decide) rfl (by decide) ?_
  refine PW.goto (tgt := 20) C dX10_feed_107 (by decide) ?_
  exact PW.wk (wk_s (wk_s (wk_s (wk_s (wk_s (wk_s (wk_s (wk_n wk_0)))))))) (hkb _ _ hw)
def w_X10_feed_20 (k110 : PH → Prop) (Q : Int32 → PH → Prop) (x1 : Int32) (x2 : Int32) (x3 : Int32) (x4 : Int32) (x5 : Int32) (kb : Int32 → PH → Prop) (x6 : Int32) (h : PH) : Prop :=
  if 20 ≤ x6 then (k110 h) else (if 4 ≤ x6 then (if 8 ≤ x6 then (if 12 ≤ x6 then (if 16 ≤ x6 then (w_X10_feed_73 Q kb x1 x2 x3 x4 x5 x6 x5 h) else (w_X10_feed_73 Q kb x1 x2 x3 x4 x5 x6 x4 h)) else (w_X10_feed_73 Q kb x1 x2 x3 x4 x5 x6 x3 h)) else (w_X10_feed_73 Q kb x1 x2 x3 x4 x5 x6 x2 h)) else (w_X10_feed_73 Q kb x1 x2 x3 x4 x5 x6 x1 h))
set_option maxRecDepth 8000 in
theorem b_X10_feed_20 {D : va_G} {ca : Nat → ClassId} {ad : Nat → Nat} {K : Kt} {k110 : PH → Prop} {kb : Int32 → PH → Prop} {Q : Int32 → PH → Prop} {x1 : Int32} {x2 : Int32} {x3 : Int32} {x4 : Int32} {x5 : Int32} {x6 : Int32} {h : PH} (C : CX (GM D ca ad) (XS (GM D ca ad)) cX10_feed RX10 8 (some .int) 1 K) (hk110 : ∀ (h : PH), k110 h → PW (GM D ca ad) K 8 (qI Q) h 110 [some (.ref 0), none, none, none, none, none, none, none] []) (hkb : ∀ (x6 : Int32) (h : PH), kb x6 h → PW (GM D ca ad) K 8 (qI Q) h 20 [some (.ref 0), some (.int x1), some (.int x2), some (.int x3), some (.int x4), some (.int x5), some (.int x6), none] []) (hw : w_X10_feed_20 k110 Q x1 x2 x3 x4 x5 kb x6 h) : PW (GM D ca ad) K 8 (qI Q) h 20 [some (.ref 0), some (.int x1), some (.int x2), some (.int x3), some (.int x4), some (.int x5), some (.int x6), none] [] := by
  unfold w_X10_feed_20 at hw
  refine PW.ild6 C dX10_feed_20 ?_
  refine PW.bipush (v := 20) C dX10_feed_22 (by decide) ?_
  refine PW.icmp_ge (tgt := 110) C dX10_feed_24 (by decide) (fun c => ?_) (fun c => ?_)
  · rw [if_pos c] at hw
    exact PW.wk (wk_s (wk_n (wk_n (wk_n (wk_n (wk_n (wk_n (wk_n wk_0)))))))) (hk110 _ hw)
  · rw [if_neg c] at hw
    refine PW.ild6 C dX10_feed_27 ?_
    refine PW.iconst (v := 4) C dX10_feed_29 (by decide) ?_
    refine PW.icmp_ge (tgt := 37) C dX10_feed_30 (by decide) (fun c => ?_) (fun c => ?_)
    · rw [if_pos c] at hw
      refine PW.ild6 C dX10_feed_37 ?_
      refine PW.bipush (v := 8) C dX10_feed_39 (by decide) ?_
      refine PW.icmp_ge (tgt := 48) C dX10_feed_41 (by decide) (fun c => ?_) (fun c => ?_)
      · rw [if_pos c] at hw
        refine PW.ild6 C dX10_feed_48 ?_
        refine PW.bipush (v := 12) C dX10_feed_50 (by decide) ?_
        refine PW.icmp_ge (tgt := 59) C dX10_feed_52 (by decide) (fun c => ?_) (fun c => ?_)
        · rw [if_pos c] at hw
          refine PW.ild6 C dX10_feed_59 ?_
          refine PW.bipush (v := 16) C dX10_feed_61 (by decide) ?_
          refine PW.icmp_ge (tgt := 71) C dX10_feed_63 (by decide) (fun c => ?_) (fun c => ?_)
          · rw [if_pos c] at hw
            refine PW.ild5 C dX10_feed_71 ?_
            exact PW.wk (wk_s (wk_s (wk_s (wk_s (wk_s (wk_s (wk_s (wk_n wk_0)))))))) (b_X10_feed_73 C hkb hw)
          · rw [if_neg c] at hw
            refine PW.ild4 C dX10_feed_66 ?_
            refine PW.goto (tgt := 73) C dX10_feed_68 (by decide) ?_
            exact PW.wk (wk_s (wk_s (wk_s (wk_s (wk_s (wk_s (wk_s (wk_n wk_0)))))))) (b_X10_feed_73 C hkb hw)
        · rw [if_neg c] at hw
          refine PW.ild3n C dX10_feed_55 ?_
          refine PW.goto (tgt := 73) C dX10_feed_56 (by decide) ?_
          exact PW.wk (wk_s (wk_s (wk_s (wk_s (wk_s (wk_s (wk_s (wk_n wk_0)))))))) (b_X10_feed_73 C hkb hw)
      · rw [if_neg c] at hw
        refine PW.ild2n C dX10_feed_44 ?_
        refine PW.goto (tgt := 73) C dX10_feed_45 (by decide) ?_
        exact PW.wk (wk_s (wk_s (wk_s (wk_s (wk_s (wk_s (wk_s (wk_n wk_0)))))))) (b_X10_feed_73 C hkb hw)
    · rw [if_neg c] at hw
      refine PW.ild1n C dX10_feed_33 ?_
      refine PW.goto (tgt := 73) C dX10_feed_34 (by decide) ?_
      exact PW.wk (wk_s (wk_s (wk_s (wk_s (wk_s (wk_s (wk_s (wk_n wk_0)))))))) (b_X10_feed_73 C hkb hw)
theorem l_X10_feed_20 {D : va_G} {ca : Nat → ClassId} {ad : Nat → Nat} {K : Kt} {k110 : PH → Prop} {Q : Int32 → PH → Prop} {x1 : Int32} {x2 : Int32} {x3 : Int32} {x4 : Int32} {x5 : Int32} (C : CX (GM D ca ad) (XS (GM D ca ad)) cX10_feed RX10 8 (some .int) 1 K) (hk110 : ∀ (h : PH), k110 h → PW (GM D ca ad) K 8 (qI Q) h 110 [some (.ref 0), none, none, none, none, none, none, none] []) : ∀ (n : Nat) (x6 : Int32) (h : PH), Lp1 (w_X10_feed_20 k110 Q x1 x2 x3 x4 x5) n x6 h → PW (GM D ca ad) K 8 (qI Q) h 20 [some (.ref 0), some (.int x1), some (.int x2), some (.int x3), some (.int x4), some (.int x5), some (.int x6), none] [] := by
  intro n
  induction n with
  | zero => intro x6 h hw; exact hw.elim
  | succ n ih => intro x6 h hw; exact b_X10_feed_20 C hk110 (fun x6 h hw => ih x6 h hw) hw
def w_X10_feed (x1 : Int32) (x2 : Int32) (x3 : Int32) (x4 : Int32) (x5 : Int32) (h : PH) (Q : Int32 → PH → Prop) : Prop :=
  ∀ h1, h1 = sI h 0 0 0 → if (gI h1 0 2) ≤ 680 then (∃ n, Lp1 (w_X10_feed_20 (fun h4 => ∀ h5, h5 = sI h4 0 2 ((gI h4 0 2) + 20) → Q (gI h5 0 2) h5) Q x1 x2 x3 x4 x5) n 0 h1) else (Q (-1) h1)
set_option maxRecDepth 8000 in
theorem s_X10_feed {D : va_G} {ca : Nat → ClassId} {ad : Nat → Nat} {l : Launch} {x1 : Int32} {x2 : Int32} {x3 : Int32} {x4 : Int32} {x5 : Int32} {h : PH} {Q : Int32 → PH → Prop} (hw : w_X10_feed x1 x2 x3 x4 x5 h Q) : Sp (GM D ca ad) (XS (GM D ca ad)) l 1 yX10_feed cX10_feed 8 (some .int) [.ref 0, .int x1, .int x2, .int x3, .int x4, .int x5] h (qI Q) := by
  refine Sp.of (own := RX10) [some (.ref 0), some (.int x1), some (.int x2), some (.int x3), some (.int x4), some (.int x5), none, none] (by decide +kernel) rfl rfl (Nat.le_of_ble_eq_true rfl) (fun K hl C => ?_)
  subst hl
  unfold w_X10_feed at hw
  refine PW.ald0n C dX10_feed_0 ?_
  refine PW.iconst (v := 0) C dX10_feed_1 (by decide) ?_
  replace hw := hw _ rfl
  refine PW.put0 C cf_10 fl_X10_235 (by decide) oM_0 rfl rfl rfl (pw_sI oM_0 (by decide) rfl) dX10_feed_2 ?_
  refine PW.ald0n C dX10_feed_5 ?_
  refine PW.get0 C cf_10 fl_X10_238 (by decide) oM_0 (fvI rfl) dX10_feed_6 ?_
  refine PW.sipush (v := 680) C dX10_feed_9 (by decide) ?_
  refine PW.icmp_le (tgt := 17) C dX10_feed_12 (by decide) (fun c => ?_) (fun c => ?_)
  · rw [if_pos c] at hw
    refine PW.iconst (v := 0) C dX10_feed_17 (by decide) ?_
    refine PW.ist6 C dX10_feed_18 (by decide) rfl ?_
    obtain ⟨n, hw⟩ := hw
    refine PW.wk (wk_s (wk_s (wk_s (wk_s (wk_s (wk_s (wk_s (wk_n wk_0)))))))) (l_X10_feed_20 C ?_ n _ _ hw)
    · intro h4 hw
      refine PW.ald0n C dX10_feed_110 ?_
      refine PW.dup C dX10_feed_111 rfl ?_
      refine PW.get0 C cf_10 fl_X10_238 (by decide) oM_0 (fvI rfl) dX10_feed_112 ?_
      refine PW.bipush (v := 20) C dX10_feed_115 (by decide) ?_
      refine PW.iadd C dX10_feed_117 ?_
      replace hw := hw _ rfl
      refine PW.put0 C cf_10 fl_X10_238 (by decide) oM_0 rfl rfl rfl (pw_sI oM_0 (by decide) rfl) dX10_feed_118 ?_
      refine PW.ald0n C dX10_feed_121 ?_
      refine PW.get0 C cf_10 fl_X10_238 (by decide) oM_0 (fvI rfl) dX10_feed_122 ?_
      exact PW.iret C dX10_feed_125 ⟨_, rfl, hw⟩
  · rw [if_neg c] at hw
    refine PW.iconst (v := (-1)) C dX10_feed_15 (by decide) ?_
    exact PW.iret C dX10_feed_16 ⟨_, rfl, hw⟩
def w_X10_here (h : PH) (Q : Int32 → PH → Prop) : Prop :=
  if (gI h 0 35) ≤ (gI h 0 36) then (Q (-1) h) else (vp_in (gI h 0 36) 700 ∧ Q (gI h 1 (iN (gI h 0 36))) h)
set_option maxRecDepth 8000 in
theorem s_X10_here {D : va_G} {ca : Nat → ClassId} {ad : Nat → Nat} {l : Launch} {h : PH} {Q : Int32 → PH → Prop} (hw : w_X10_here h Q) : Sp (GM D ca ad) (XS (GM D ca ad)) l 1 yX10_here cX10_here 1 (some .int) [.ref 0] h (qI Q) := by
  refine Sp.of (own := RX10) [some (.ref 0)] (by decide +kernel) rfl rfl (Nat.le_of_ble_eq_true rfl) (fun K hl C => ?_)
  subst hl
  unfold w_X10_here at hw
  refine PW.ald0n C dX10_here_0 ?_
  refine PW.get0 C cf_10 fl_X10_241 (by decide) oM_0 (fvI rfl) dX10_here_1 ?_
  refine PW.ald0n C dX10_here_4 ?_
  refine PW.get0 C cf_10 fl_X10_244 (by decide) oM_0 (fvI rfl) dX10_here_5 ?_
  refine PW.icmp_ge (tgt := 23) C dX10_here_8 (by decide) (fun c => ?_) (fun c => ?_)
  · rw [if_pos c] at hw
    refine PW.iconst (v := (-1)) C dX10_here_23 (by decide) ?_
    exact PW.iret C dX10_here_24 ⟨_, rfl, hw⟩
  · rw [if_neg c] at hw
    refine PW.ald0n C dX10_here_11 ?_
    refine PW.get0 (v := .ref 1) C cf_10 fl_X10_7 (by decide) oM_0 (fvR (o := 1) rfl) dX10_here_12 ?_
    refine PW.ald0n C dX10_here_15 ?_
    refine PW.get0 C cf_10 fl_X10_241 (by decide) oM_0 (fvI rfl) dX10_here_16 ?_
    obtain ⟨hc1, hw⟩ := hw
    refine PW.iald C dX10_here_19 aM_1 hc1 ?_
    refine PW.goto (tgt := 24) C dX10_here_20 (by decide) ?_
    exact PW.iret C dX10_here_24 ⟨_, rfl, hw⟩
def w_X10_isSmall (x0 : Int32) (h : PH) (Q : Int32 → PH → Prop) : Prop :=
  if x0 < 97 then (Q 0 h) else (if 122 < x0 then (Q 0 h) else (Q 1 h))
set_option maxRecDepth 8000 in
theorem s_X10_isSmall {D : va_G} {ca : Nat → ClassId} {ad : Nat → Nat} {l : Launch} {x0 : Int32} {h : PH} {Q : Int32 → PH → Prop} (hw : w_X10_isSmall x0 h Q) : Sp (GM D ca ad) (XS (GM D ca ad)) l 1 yX10_isSmall cX10_isSmall 1 (some .boolean) [.int x0] h (qI Q) := by
  refine Sp.of (own := RX10) [some (.int x0)] (by decide +kernel) rfl rfl (Nat.le_of_ble_eq_true rfl) (fun K hl C => ?_)
  subst hl
  unfold w_X10_isSmall at hw
  refine PW.ild0n C dX10_isSmall_0 ?_
  refine PW.bipush (v := 97) C dX10_isSmall_1 (by decide) ?_
  refine PW.icmp_lt (tgt := 16) C dX10_isSmall_3 (by decide) (fun c => ?_) (fun c => ?_)
  · rw [if_pos c] at hw
    refine PW.iconst (v := 0) C dX10_isSmall_16 (by decide) ?_
    exact PW.zret C dX10_isSmall_17 (by decide) ⟨_, rfl, hw⟩
  · rw [if_neg c] at hw
    refine PW.ild0n C dX10_isSmall_6 ?_
    refine PW.bipush (v := 122) C dX10_isSmall_7 (by decide) ?_
    refine PW.icmp_gt (tgt := 16) C dX10_isSmall_9 (by decide) (fun c => ?_) (fun c => ?_)
    · rw [if_pos c] at hw
      refine PW.iconst (v := 0) C dX10_isSmall_16 (by decide) ?_
      exact PW.zret C dX10_isSmall_17 (by decide) ⟨_, rfl, hw⟩
    · rw [if_neg c] at hw
      refine PW.iconst (v := 1) C dX10_isSmall_12 (by decide) ?_
      refine PW.goto (tgt := 17) C dX10_isSmall_13 (by decide) ?_
      exact PW.zret C dX10_isSmall_17 (by decide) ⟨_, rfl, hw⟩
def w_X10_isDigit (x0 : Int32) (h : PH) (Q : Int32 → PH → Prop) : Prop :=
  if x0 < 48 then (Q 0 h) else (if 57 < x0 then (Q 0 h) else (Q 1 h))
set_option maxRecDepth 8000 in
theorem s_X10_isDigit {D : va_G} {ca : Nat → ClassId} {ad : Nat → Nat} {l : Launch} {x0 : Int32} {h : PH} {Q : Int32 → PH → Prop} (hw : w_X10_isDigit x0 h Q) : Sp (GM D ca ad) (XS (GM D ca ad)) l 1 yX10_isDigit cX10_isDigit 1 (some .boolean) [.int x0] h (qI Q) := by
  refine Sp.of (own := RX10) [some (.int x0)] (by decide +kernel) rfl rfl (Nat.le_of_ble_eq_true rfl) (fun K hl C => ?_)
  subst hl
  unfold w_X10_isDigit at hw
  refine PW.ild0n C dX10_isDigit_0 ?_
  refine PW.bipush (v := 48) C dX10_isDigit_1 (by decide) ?_
  refine PW.icmp_lt (tgt := 16) C dX10_isDigit_3 (by decide) (fun c => ?_) (fun c => ?_)
  · rw [if_pos c] at hw
    refine PW.iconst (v := 0) C dX10_isDigit_16 (by decide) ?_
    exact PW.zret C dX10_isDigit_17 (by decide) ⟨_, rfl, hw⟩
  · rw [if_neg c] at hw
    refine PW.ild0n C dX10_isDigit_6 ?_
    refine PW.bipush (v := 57) C dX10_isDigit_7 (by decide) ?_
    refine PW.icmp_gt (tgt := 16) C dX10_isDigit_9 (by decide) (fun c => ?_) (fun c => ?_)
    · rw [if_pos c] at hw
      refine PW.iconst (v := 0) C dX10_isDigit_16 (by decide) ?_
      exact PW.zret C dX10_isDigit_17 (by decide) ⟨_, rfl, hw⟩
    · rw [if_neg c] at hw
      refine PW.iconst (v := 1) C dX10_isDigit_12 (by decide) ?_
      refine PW.goto (tgt := 17) C dX10_isDigit_13 (by decide) ?_
      exact PW.zret C dX10_isDigit_17 (by decide) ⟨_, rfl, hw⟩
def w_X10_sign_150 (Q : PH → Prop) (h : PH) : Prop :=
  if (gI h 0 39) < 256 then (Q h) else (∀ h4, h4 = sI h 0 36 ((gI h 0 36) + 1) → Q h4)
set_option maxRecDepth 8000 in
theorem b_X10_sign_150 {D : va_G} {ca : Nat → ClassId} {ad : Nat → Nat} {K : Kt} {Q : PH → Prop} {h : PH} (C : CX (GM D ca ad) (XS (GM D ca ad)) cX10_sign RX10 2 none 2 K) (hw : w_X10_sign_150 Q h) : PW (GM D ca ad) K 2 (qV Q) h 150 [some (.ref 0), none] [] := by
  unfold w_X10_sign_150 at hw
  refine PW.ald0n C dX10_sign_150 ?_
  refine PW.get0 C cf_10 fl_X10_264 (by decide) oM_0 (fvI rfl) dX10_sign_151 ?_
  refine PW.sipush (v := 256) C dX10_sign_154 (by decide) ?_
  refine PW.icmp_lt (tgt := 170) C dX10_sign_157 (by decide) (fun c => ?_) (fun c => ?_)
  · rw [if_pos c] at hw
    exact PW.vret C dX10_sign_170 ⟨rfl, hw⟩
  · rw [if_neg c] at hw
    refine PW.ald0n C dX10_sign_160 ?_
    refine PW.dup C dX10_sign_161 rfl ?_
    refine PW.get0 C cf_10 fl_X10_241 (by decide) oM_0 (fvI rfl) dX10_sign_162 ?_
    refine PW.iconst (v := 1) C dX10_sign_165 (by decide) ?_
    refine PW.iadd C dX10_sign_166 ?_
    replace hw := hw _ rfl
    refine PW.put0 C cf_10 fl_X10_241 (by decide) oM_0 rfl rfl rfl (pw_sI oM_0 (by decide) rfl) dX10_sign_167 ?_
    exact PW.vret C dX10_sign_170 ⟨rfl, hw⟩
def w_X10_sign_128 (Q : PH → Prop) (x1 : Int32) (h : PH) : Prop :=
  if x1 = 62 then (w_X10_here h (fun z6 h5 => if z6 = 61 then (∀ h7, h7 = sI h5 0 39 258 → w_X10_sign_150 Q h7) else (w_X10_sign_150 Q h5))) else (w_X10_sign_150 Q h)
set_option maxRecDepth 8000 in
theorem b_X10_sign_128 {D : va_G} {ca : Nat → ClassId} {ad : Nat → Nat} {K : Kt} {Q : PH → Prop} {x1 : Int32} {h : PH} (C : CX (GM D ca ad) (XS (GM D ca ad)) cX10_sign RX10 2 none 2 K) (hw : w_X10_sign_128 Q x1 h) : PW (GM D ca ad) K 2 (qV Q) h 128 [some (.ref 0), some (.int x1)] [] := by
  unfold w_X10_sign_128 at hw
  refine PW.ild1n C dX10_sign_128 ?_
  refine PW.bipush (v := 62) C dX10_sign_129 (by decide) ?_
  refine PW.icmp_ne (tgt := 150) C dX10_sign_131 (by decide) (fun c => ?_) (fun c => ?_)
  · rw [if_neg c] at hw
    exact PW.wk (wk_s (wk_n wk_0)) (b_X10_sign_150 C hw)
  · rw [if_pos c] at hw
    refine PW.ald0n C dX10_sign_134 ?_
    refine PW.callVI0 C ms_X10_here ml_X10_247 dX10_sign_135 oM_0 ⟨_, _, rfl⟩ (Nat.le_of_ble_eq_true rfl) (by decide) (Nat.le_of_ble_eq_true rfl) (s_X10_here hw) ?_
    clear hw
    intro z6 h5 hw
    refine PW.bipush (v := 61) C dX10_sign_138 (by decide) ?_
    refine PW.icmp_ne (tgt := 150) C dX10_sign_140 (by decide) (fun c => ?_) (fun c => ?_)
    · rw [if_neg c] at hw
      exact PW.wk (wk_s (wk_n wk_0)) (b_X10_sign_150 C hw)
    · rw [if_pos c] at hw
      refine PW.ald0n C dX10_sign_143 ?_
      refine PW.sipush (v := 258) C dX10_sign_144 (by decide) ?_
      replace hw := hw _ rfl
      refine PW.put0 C cf_10 fl_X10_264 (by decide) oM_0 rfl rfl rfl (pw_sI oM_0 (by decide) rfl) dX10_sign_147 ?_
      exact PW.wk (wk_s (wk_n wk_0)) (b_X10_sign_150 C hw)
def w_X10_sign_106 (Q : PH → Prop) (x1 : Int32) (h : PH) : Prop :=
  if x1 = 60 then (w_X10_here h (fun z9 h8 => if z9 = 62 then (∀ h10, h10 = sI h8 0 39 257 → w_X10_sign_128 Q x1 h10) else (w_X10_sign_128 Q x1 h8))) else (w_X10_sign_128 Q x1 h)
set_option maxRecDepth 8000 in
theorem b_X10_sign_106 {D : va_G} {ca : Nat → ClassId} {ad : Nat → Nat} {K : Kt} {Q : PH → Prop} {x1 : Int32} {h : PH} (C : CX (GM D ca ad) (XS (GM D ca ad)) cX10_sign RX10 2 none 2 K) (hw : w_X10_sign_106 Q x1 h) : PW (GM D ca ad) K 2 (qV Q) h 106 [some (.ref 0), some (.int x1)] [] := by
  unfold w_X10_sign_106 at hw
  refine PW.ild1n C dX10_sign_106 ?_
  refine PW.bipush (v := 60) C dX10_sign_107 (by decide) ?_
  refine PW.icmp_ne (tgt := 128) C dX10_sign_109 (by decide) (fun c => ?_) (fun c => ?_)
  · rw [if_neg c] at hw
    exact PW.wk (wk_s (wk_s wk_0)) (b_X10_sign_128 C hw)
  · rw [if_pos c] at hw
    refine PW.ald0n C dX10_sign_112 ?_
    refine PW.callVI0 C ms_X10_here ml_X10_247 dX10_sign_113 oM_0 ⟨_, _, rfl⟩ (Nat.le_of_ble_eq_true rfl) (by decide) (Nat.le_of_ble_eq_true rfl) (s_X10_here hw) ?_
    clear hw
    intro z9 h8 hw
    refine PW.bipush (v := 62) C dX10_sign_116 (by decide) ?_
    refine PW.icmp_ne (tgt := 128) C dX10_sign_118 (by decide) (fun c => ?_) (fun c => ?_)
    · rw [if_neg c] at hw
      exact PW.wk (wk_s (wk_s wk_0)) (b_X10_sign_128 C hw)
    · rw [if_pos c] at hw
      refine PW.ald0n C dX10_sign_121 ?_
      refine PW.sipush (v := 257) C dX10_sign_122 (by decide) ?_
      replace hw := hw _ rfl
      refine PW.put0 C cf_10 fl_X10_264 (by decide) oM_0 rfl rfl rfl (pw_sI oM_0 (by decide) rfl) dX10_sign_125 ?_
      exact PW.wk (wk_s (wk_s wk_0)) (b_X10_sign_128 C hw)
def w_X10_sign_76 (Q : PH → Prop) (x1 : Int32) (s1 : Int32) (h : PH) : Prop :=
  ∀ h2, h2 = sI h 0 38 s1 → ∀ h3, h3 = sI h2 0 39 x1 → if x1 = 60 then (w_X10_here h3 (fun z12 h11 => if z12 = 61 then (∀ h13, h13 = sI h11 0 39 256 → w_X10_sign_106 Q x1 h13) else (w_X10_sign_106 Q x1 h11))) else (w_X10_sign_106 Q x1 h3)
set_option maxRecDepth 8000 in
theorem b_X10_sign_76 {D : va_G} {ca : Nat → ClassId} {ad : Nat → Nat} {K : Kt} {Q : PH → Prop} {x1 : Int32} {s1 : Int32} {h : PH} (C : CX (GM D ca ad) (XS (GM D ca ad)) cX10_sign RX10 2 none 2 K) (hw : w_X10_sign_76 Q x1 s1 h) : PW (GM D ca ad) K 2 (qV Q) h 76 [some (.ref 0), some (.int x1)] [.int s1, .ref 0] := by
  unfold w_X10_sign_76 at hw
  replace hw := hw _ rfl
  refine PW.put0 C cf_10 fl_X10_254 (by decide) oM_0 rfl rfl rfl (pw_sI oM_0 (by decide) rfl) dX10_sign_76 ?_
  refine PW.ald0n C dX10_sign_79 ?_
  refine PW.ild1n C dX10_sign_80 ?_
  replace hw := hw _ rfl
  refine PW.put0 C cf_10 fl_X10_264 (by decide) oM_0 rfl rfl rfl (pw_sI oM_0 (by decide) rfl) dX10_sign_81 ?_
  refine PW.ild1n C dX10_sign_84 ?_
  refine PW.bipush (v := 60) C dX10_sign_85 (by decide) ?_
  refine PW.icmp_ne (tgt := 106) C dX10_sign_87 (by decide) (fun c => ?_) (fun c => ?_)
  · rw [if_neg c] at hw
    exact PW.wk (wk_s (wk_s wk_0)) (b_X10_sign_106 C hw)
  · rw [if_pos c] at hw
    refine PW.ald0n C dX10_sign_90 ?_
    refine PW.callVI0 C ms_X10_here ml_X10_247 dX10_sign_91 oM_0 ⟨_, _, rfl⟩ (Nat.le_of_ble_eq_true rfl) (by decide) (Nat.le_of_ble_eq_true rfl) (s_X10_here hw) ?_
    clear hw
    intro z12 h11 hw
    refine PW.bipush (v := 61) C dX10_sign_94 (by decide) ?_
    refine PW.icmp_ne (tgt := 106) C dX10_sign_96 (by decide) (fun c => ?_) (fun c => ?_)
    · rw [if_neg c] at hw
      exact PW.wk (wk_s (wk_s wk_0)) (b_X10_sign_106 C hw)
    · rw [if_pos c] at hw
      refine PW.ald0n C dX10_sign_99 ?_
      refine PW.sipush (v := 256) C dX10_sign_100 (by decide) ?_
      replace hw := hw _ rfl
      refine PW.put0 C cf_10 fl_X10_264 (by decide) oM_0 rfl rfl rfl (pw_sI oM_0 (by decide) rfl) dX10_sign_103 ?_
      exact PW.wk (wk_s (wk_s wk_0)) (b_X10_sign_106 C hw)
def w_X10_sign_71 (Q : PH → Prop) (x1 : Int32) (h : PH) : Prop :=
  w_X10_sign_76 Q x1 3 h
set_option maxRecDepth 8000 in
theorem b_X10_sign_71 {D : va_G} {ca : Nat → ClassId} {ad : Nat → Nat} {K : Kt} {Q : PH → Prop} {x1 : Int32} {h : PH} (C : CX (GM D ca ad) (XS (GM D ca ad)) cX10_sign RX10 2 none 2 K) (hw : w_X10_sign_71 Q x1 h) : PW (GM D ca ad) K 2 (qV Q) h 71 [some (.ref 0), some (.int x1)] [.ref 0] := by
  unfold w_X10_sign_71 at hw
  refine PW.iconst (v := 3) C dX10_sign_71 (by decide) ?_
  refine PW.goto (tgt := 76) C dX10_sign_72 (by decide) ?_
  exact PW.wk (wk_s (wk_s wk_0)) (b_X10_sign_76 C hw)
def w_X10_sign (x1 : Int32) (h : PH) (Q : PH → Prop) : Prop :=
  ∀ h1, h1 = sI h 0 36 ((gI h 0 36) + 1) → if x1 = 59 then (w_X10_sign_71 Q x1 h1) else (if x1 = 40 then (w_X10_sign_71 Q x1 h1) else (if x1 = 41 then (w_X10_sign_71 Q x1 h1) else (if x1 = 43 then (w_X10_sign_71 Q x1 h1) else (if x1 = 45 then (w_X10_sign_71 Q x1 h1) else (if x1 = 42 then (w_X10_sign_71 Q x1 h1) else (if x1 = 47 then (w_X10_sign_71 Q x1 h1) else (if x1 = 60 then (w_X10_sign_71 Q x1 h1) else (if x1 = 61 then (w_X10_sign_71 Q x1 h1) else (if x1 = 62 then (w_X10_sign_71 Q x1 h1) else (w_X10_sign_76 Q x1 5 h1))))))))))
set_option maxRecDepth 8000 in
theorem s_X10_sign {D : va_G} {ca : Nat → ClassId} {ad : Nat → Nat} {l : Launch} {x1 : Int32} {h : PH} {Q : PH → Prop} (hw : w_X10_sign x1 h Q) : Sp (GM D ca ad) (XS (GM D ca ad)) l 2 yX10_sign cX10_sign 2 none [.ref 0, .int x1] h (qV Q) := by
  refine Sp.of (own := RX10) [some (.ref 0), some (.int x1)] (by decide +kernel) rfl rfl (Nat.le_of_ble_eq_true rfl) (fun K hl C => ?_)
  subst hl
  unfold w_X10_sign at hw
  refine PW.ald0n C dX10_sign_0 ?_
  refine PW.dup C dX10_sign_1 rfl ?_
  refine PW.get0 C cf_10 fl_X10_241 (by decide) oM_0 (fvI rfl) dX10_sign_2 ?_
  refine PW.iconst (v := 1) C dX10_sign_5 (by decide) ?_
  refine PW.iadd C dX10_sign_6 ?_
  replace hw := hw _ rfl
  refine PW.put0 C cf_10 fl_X10_241 (by decide) oM_0 rfl rfl rfl (pw_sI oM_0 (by decide) rfl) dX10_sign_7 ?_
  refine PW.ald0n C dX10_sign_10 ?_
  refine PW.ild1n C dX10_sign_11 ?_
  refine PW.bipush (v := 59) C dX10_sign_12 (by decide) ?_
  refine PW.icmp_eq (tgt := 71) C dX10_sign_14 (by decide) (fun c => ?_) (fun c => ?_)
  · rw [if_pos c] at hw
    exact PW.wk (wk_s (wk_s wk_0)) (b_X10_sign_71 C hw)
  · rw [if_neg c] at hw
    refine PW.ild1n C dX10_sign_17 ?_
    refine PW.bipush (v := 40) C dX10_sign_18 (by decide) ?_
    refine PW.icmp_eq (tgt := 71) C dX10_sign_20 (by decide) (fun c => ?_) (fun c => ?_)
    · rw [if_pos c] at hw
      exact PW.wk (wk_s (wk_s wk_0)) (b_X10_sign_71 C hw)
    · rw [if_neg c] at hw
      refine PW.ild1n C dX10_sign_23 ?_
      refine PW.bipush (v := 41) C dX10_sign_24 (by decide) ?_
      refine PW.icmp_eq (tgt := 71) C dX10_sign_26 (by decide) (fun c => ?_) (fun c => ?_)
      · rw [if_pos c] at hw
        exact PW.wk (wk_s (wk_s wk_0)) (b_X10_sign_71 C hw)
      · rw [if_neg c] at hw
        refine PW.ild1n C dX10_sign_29 ?_
        refine PW.bipush (v := 43) C dX10_sign_30 (by decide) ?_
        refine PW.icmp_eq (tgt := 71) C dX10_sign_32 (by decide) (fun c => ?_) (fun c => ?_)
        · rw [if_pos c] at hw
          exact PW.wk (wk_s (wk_s wk_0)) (b_X10_sign_71 C hw)
        · rw [if_neg c] at hw
          refine PW.ild1n C dX10_sign_35 ?_
          refine PW.bipush (v := 45) C dX10_sign_36 (by decide) ?_
          refine PW.icmp_eq (tgt := 71) C dX10_sign_38 (by decide) (fun c => ?_) (fun c => ?_)
          · rw [if_pos c] at hw
            exact PW.wk (wk_s (wk_s wk_0)) (b_X10_sign_71 C hw)
          · rw [if_neg c] at hw
            refine PW.ild1n C dX10_sign_41 ?_
            refine PW.bipush (v := 42) C dX10_sign_42 (by decide) ?_
            refine PW.icmp_eq (tgt := 71) C dX10_sign_44 (by decide) (fun c => ?_) (fun c => ?_)
            · rw [if_pos c] at hw
              exact PW.wk (wk_s (wk_s wk_0)) (b_X10_sign_71 C hw)
            · rw [if_neg c] at hw
              refine PW.ild1n C dX10_sign_47 ?_
              refine PW.bipush (v := 47) C dX10_sign_48 (by decide) ?_
              refine PW.icmp_eq (tgt := 71) C dX10_sign_50 (by decide) (fun c => ?_) (fun c => ?_)
              · rw [if_pos c] at hw
                exact PW.wk (wk_s (wk_s wk_0)) (b_X10_sign_71 C hw)
              · rw [if_neg c] at hw
                refine PW.ild1n C dX10_sign_53 ?_
                refine PW.bipush (v := 60) C dX10_sign_54 (by decide) ?_
                refine PW.icmp_eq (tgt := 71) C dX10_sign_56 (by decide) (fun c => ?_) (fun c => ?_)
                · rw [if_pos c] at hw
                  exact PW.wk (wk_s (wk_s wk_0)) (b_X10_sign_71 C hw)
                · rw [if_neg c] at hw
                  refine PW.ild1n C dX10_sign_59 ?_
                  refine PW.bipush (v := 61) C dX10_sign_60 (by decide) ?_
                  refine PW.icmp_eq (tgt := 71) C dX10_sign_62 (by decide) (fun c => ?_) (fun c => ?_)
                  · rw [if_pos c] at hw
                    exact PW.wk (wk_s (wk_s wk_0)) (b_X10_sign_71 C hw)
                  · rw [if_neg c] at hw
                    refine PW.ild1n C dX10_sign_65 ?_
                    refine PW.bipush (v := 62) C dX10_sign_66 (by decide) ?_
                    refine PW.icmp_ne (tgt := 75) C dX10_sign_68 (by decide) (fun c => ?_) (fun c => ?_)
                    · rw [if_neg c] at hw
                      refine PW.iconst (v := 5) C dX10_sign_75 (by decide) ?_
                      exact PW.wk (wk_s (wk_s wk_0)) (b_X10_sign_76 C hw)
                    · rw [if_pos c] at hw
                      exact PW.wk (wk_s (wk_s wk_0)) (b_X10_sign_71 C hw)
def w_X10_word_16 (k72 : Int32 → PH → Prop) (Q : Int32 → PH → Prop) (x1 : Int32) (x2 : Int32) (kb : Int32 → PH → Prop) (x3 : Int32) (h : PH) : Prop :=
  w_J0_charAt_5068e 0 (x2 + x3) h (fun z4 h3 => if z4 = 32 then (k72 x3 h3) else (if (gI h3 0 36) ≤ ((gI h3 0 37) + x3) then (k72 x3 h3) else (vp_in ((gI h3 0 37) + x3) 700 ∧ w_J0_charAt_5068e 0 (x2 + x3) h3 (fun z7 h6 => if (gI h3 1 (iN ((gI h3 0 37) + x3))) = z7 then (kb (x3 + 1) h6) else (k72 x3 h6)))))
set_option maxRecDepth 8000 in
theorem b_X10_word_16 {D : va_G} {ca : Nat → ClassId} {ad : Nat → Nat} {K : Kt} {k72 : Int32 → PH → Prop} {kb : Int32 → PH → Prop} {Q : Int32 → PH → Prop} {x1 : Int32} {x2 : Int32} {x3 : Int32} {h : PH} (C : CX (GM D ca ad) (XS (GM D ca ad)) cX10_word RX10 4 (some .int) 5 K) (hk72 : ∀ (x3 : Int32) (h : PH), k72 x3 h → PW (GM D ca ad) K 4 (qI Q) h 72 [some (.ref 0), some (.int x1), some (.int x2), some (.int x3)] []) (hkb : ∀ (x3 : Int32) (h : PH), kb x3 h → PW (GM D ca ad) K 4 (qI Q) h 16 [some (.ref 0), some (.int x1), some (.int x2), some (.int x3)] []) (hw : w_X10_word_16 k72 Q x1 x2 kb x3 h) : PW (GM D ca ad) K 4 (qI Q) h 16 [some (.ref 0), some (.int x1), some (.int x2), some (.int x3)] [] := by
  unfold w_X10_word_16 at hw
  refine PW.ldcS2 C dX10_word_16 ?_
  refine PW.ild2n C dX10_word_19 ?_
  refine PW.ild3n C dX10_word_20 ?_
  refine PW.iadd C dX10_word_21 ?_
  refine PW.callTI1 (b := 0) C ms_J0_charAt_5068e ml_X10_285 dX10_word_22 (by decide) rfl (Nat.le_of_ble_eq_true rfl) (by decide) (Nat.le_of_ble_eq_true rfl) (s_J0_charAt_5068e (by decide) hw) ?_
  clear hw
  intro z4 h3 hw
  refine PW.bipush (v := 32) C dX10_word_25 (by decide) ?_
  refine PW.icmp_eq (tgt := 72) C dX10_word_27 (by decide) (fun c => ?_) (fun c => ?_)
  · rw [if_pos c] at hw
    exact PW.wk (wk_s (wk_s (wk_s (wk_s wk_0)))) (hk72 _ _ hw)
  · rw [if_neg c] at hw
    refine PW.ald0n C dX10_word_30 ?_
    refine PW.get0 C cf_10 fl_X10_251 (by decide) oM_0 (fvI rfl) dX10_word_31 ?_
    refine PW.ild3n C dX10_word_34 ?_
    refine PW.iadd C dX10_word_35 ?_
    refine PW.ald0n C dX10_word_36 ?_
    refine PW.get0 C cf_10 fl_X10_241 (by decide) oM_0 (fvI rfl) dX10_word_37 ?_
    refine PW.icmp_ge (tgt := 72) C dX10_word_40 (by decide) (fun c => ?_) (fun c => ?_)
    · rw [if_pos c] at hw
      exact PW.wk (wk_s (wk_s (wk_s (wk_s wk_0)))) (hk72 _ _ hw)
    · rw [if_neg c] at hw
      refine PW.ald0n C dX10_word_43 ?_
      refine PW.get0 (v := .ref 1) C cf_10 fl_X10_7 (by decide) oM_0 (fvR (o := 1) rfl) dX10_word_44 ?_
      refine PW.ald0n C dX10_word_47 ?_
      refine PW.get0 C cf_10 fl_X10_251 (by decide) oM_0 (fvI rfl) dX10_word_48 ?_
      refine PW.ild3n C dX10_word_51 ?_
      refine PW.iadd C dX10_word_52 ?_
      obtain ⟨hc5, hw⟩ := hw
      refine PW.iald C dX10_word_53 aM_1 hc5 ?_
      refine PW.ldcS2 C dX10_word_54 ?_
      refine PW.ild2n C dX10_word_57 ?_
      refine PW.ild3n C dX10_word_58 ?_
      refine PW.iadd C dX10_word_59 ?_
      refine PW.callTI1 (b := 0) C ms_J0_charAt_5068e ml_X10_285 dX10_word_60 (by decide) rfl (Nat.le_of_ble_eq_true rfl) (by decide) (Nat.le_of_ble_eq_true rfl) (s_J0_charAt_5068e (by decide) hw) ?_
      clear hw
      intro z7 h6 hw
      refine PW.icmp_ne (tgt := 72) C dX10_word_63 (by decide) (fun c => ?_) (fun c => ?_)
      · rw [if_neg c] at hw
        exact PW.wk (wk_s (wk_s (wk_s (wk_s wk_0)))) (hk72 _ _ hw)
      · rw [if_pos c] at hw
        refine PW.inc3 (v := 1) C dX10_word_66 (by decide) rfl (by decide) ?_
        refine PW.goto (tgt := 16) C dX10_word_69 (by decide) ?_
        exact PW.wk (wk_s (wk_s (wk_s (wk_s wk_0)))) (hkb _ _ hw)
theorem l_X10_word_16 {D : va_G} {ca : Nat → ClassId} {ad : Nat → Nat} {K : Kt} {k72 : Int32 → PH → Prop} {Q : Int32 → PH → Prop} {x1 : Int32} {x2 : Int32} (C : CX (GM D ca ad) (XS (GM D ca ad)) cX10_word RX10 4 (some .int) 5 K) (hk72 : ∀ (x3 : Int32) (h : PH), k72 x3 h → PW (GM D ca ad) K 4 (qI Q) h 72 [some (.ref 0), some (.int x1), some (.int x2), some (.int x3)] []) : ∀ (n : Nat) (x3 : Int32) (h : PH), Lp1 (w_X10_word_16 k72 Q x1 x2) n x3 h → PW (GM D ca ad) K 4 (qI Q) h 16 [some (.ref 0), some (.int x1), some (.int x2), some (.int x3)] [] := by
  intro n
  induction n with
  | zero => intro x3 h hw; exact hw.elim
  | succ n ih => intro x3 h hw; exact b_X10_word_16 C hk72 (fun x3 h hw => ih x3 h hw) hw
def w_X10_word_101 (k119 : Int32 → PH → Prop) (Q : Int32 → PH → Prop) (x1 : Int32) (kb : Int32 → PH → Prop) (x2 : Int32) (h : PH) : Prop :=
  w_J0_charAt_5068e 0 x2 h (fun z13 h12 => if z13 = 32 then (k119 x2 h12) else (kb (x2 + 1) h12))
set_option maxRecDepth 8000 in
theorem b_X10_word_101 {D : va_G} {ca : Nat → ClassId} {ad : Nat → Nat} {K : Kt} {k119 : Int32 → PH → Prop} {kb : Int32 → PH → Prop} {Q : Int32 → PH → Prop} {x1 : Int32} {x2 : Int32} {h : PH} (C : CX (GM D ca ad) (XS (GM D ca ad)) cX10_word RX10 4 (some .int) 5 K) (hk119 : ∀ (x2 : Int32) (h : PH), k119 x2 h → PW (GM D ca ad) K 4 (qI Q) h 119 [some (.ref 0), some (.int x1), some (.int x2), none] []) (hkb : ∀ (x2 : Int32) (h : PH), kb x2 h → PW (GM D ca ad) K 4 (qI Q) h 101 [some (.ref 0), some (.int x1), some (.int x2), none] []) (hw : w_X10_word_101 k119 Q x1 kb x2 h) : PW (GM D ca ad) K 4 (qI Q) h 101 [some (.ref 0), some (.int x1), some (.int x2), none] [] := by
  unfold w_X10_word_101 at hw
  refine PW.ldcS2 C dX10_word_101 ?_
  refine PW.ild2n C dX10_word_104 ?_
  refine PW.callTI1 (b := 0) C ms_J0_charAt_5068e ml_X10_285 dX10_word_105 (by decide) rfl (Nat.le_of_ble_eq_true rfl) (by decide) (Nat.le_of_ble_eq_true rfl) (s_J0_charAt_5068e (by decide) hw) ?_
  clear hw
  intro z13 h12 hw
  refine PW.bipush (v := 32) C dX10_word_108 (by decide) ?_
  refine PW.icmp_eq (tgt := 119) C dX10_word_110 (by decide) (fun c => ?_) (fun c => ?_)
  · rw [if_pos c] at hw
    exact PW.wk (wk_s (wk_s (wk_s (wk_n wk_0)))) (hk119 _ _ hw)
  · rw [if_neg c] at hw
    refine PW.inc2 (v := 1) C dX10_word_113 (by decide) rfl (by decide) ?_
    refine PW.goto (tgt := 101) C dX10_word_116 (by decide) ?_
    exact PW.wk (wk_s (wk_s (wk_s (wk_n wk_0)))) (hkb _ _ hw)
theorem l_X10_word_101 {D : va_G} {ca : Nat → ClassId} {ad : Nat → Nat} {K : Kt} {k119 : Int32 → PH → Prop} {Q : Int32 → PH → Prop} {x1 : Int32} (C : CX (GM D ca ad) (XS (GM D ca ad)) cX10_word RX10 4 (some .int) 5 K) (hk119 : ∀ (x2 : Int32) (h : PH), k119 x2 h → PW (GM D ca ad) K 4 (qI Q) h 119 [some (.ref 0), some (.int x1), some (.int x2), none] []) : ∀ (n : Nat) (x2 : Int32) (h : PH), Lp1 (w_X10_word_101 k119 Q x1) n x2 h → PW (GM D ca ad) K 4 (qI Q) h 101 [some (.ref 0), some (.int x1), some (.int x2), none] [] := by
  intro n
  induction n with
  | zero => intro x2 h hw; exact hw.elim
  | succ n ih => intro x2 h hw; exact b_X10_word_101 C hk119 (fun x2 h hw => ih x2 h hw) hw
def w_X10_word_72 (k99 : Int32 → PH → Prop) (Q : Int32 → PH → Prop) (kb : Int32 → Int32 → PH → Prop) (x1 : Int32) (x2 : Int32) (x3 : Int32) (h : PH) : Prop :=
  w_J0_charAt_5068e 0 (x2 + x3) h (fun z11 h10 => if z11 = 32 then (if ((gI h10 0 37) + x3) = (gI h10 0 36) then (k99 x1 h10) else (∃ n, Lp1 (w_X10_word_101 (fun y17 h16 => kb (x1 + 1) (y17 + 1) h16) Q x1) n x2 h10)) else (∃ n, Lp1 (w_X10_word_101 (fun y15 h14 => kb (x1 + 1) (y15 + 1) h14) Q x1) n x2 h10))
set_option maxRecDepth 8000 in
theorem b_X10_word_72 {D : va_G} {ca : Nat → ClassId} {ad : Nat → Nat} {K : Kt} {k99 : Int32 → PH → Prop} {kb : Int32 → Int32 → PH → Prop} {Q : Int32 → PH → Prop} {x1 : Int32} {x2 : Int32} {x3 : Int32} {h : PH} (C : CX (GM D ca ad) (XS (GM D ca ad)) cX10_word RX10 4 (some .int) 5 K) (hk99 : ∀ (x1 : Int32) (h : PH), k99 x1 h → PW (GM D ca ad) K 4 (qI Q) h 99 [none, some (.int x1), none, none] []) (hkb : ∀ (x1 : Int32) (x2 : Int32) (h : PH), kb x1 x2 h → PW (GM D ca ad) K 4 (qI Q) h 4 [some (.ref 0), some (.int x1), some (.int x2), none] []) (hw : w_X10_word_72 k99 Q kb x1 x2 x3 h) : PW (GM D ca ad) K 4 (qI Q) h 72 [some (.ref 0), some (.int x1), some (.int x2), some (.int x3)] [] := by
  unfold w_X10_word_72 at hw
  refine PW.ldcS2 C dX10_word_72 ?_
  refine PW.ild2n C dX10_word_75 ?_
  refine PW.ild3n C dX10_word_76 ?_
  refine PW.iadd C dX10_word_77 ?_
  refine PW.callTI1 (b := 0) C ms_J0_charAt_5068e ml_X10_285 dX10_word_78 (by decide) rfl (Nat.le_of_ble_eq_true rfl) (by decide) (Nat.le_of_ble_eq_true rfl) (s_J0_charAt_5068e (by decide) hw) ?_
  clear hw
  intro z11 h10 hw
  refine PW.bipush (v := 32) C dX10_word_81 (by decide) ?_
  refine PW.icmp_ne (tgt := 101) C dX10_word_83 (by decide) (fun c => ?_) (fun c => ?_)
  · rw [if_neg c] at hw
    obtain ⟨n, hw⟩ := hw
    refine PW.wk (wk_s (wk_s (wk_s (wk_n wk_0)))) (l_X10_word_101 C ?_ n _ _ hw)
    · intro y15 h14 hw
      refine PW.inc2 (v := 1) C dX10_word_119 (by decide) rfl (by decide) ?_
      refine PW.inc1 (v := 1) C dX10_word_122 (by decide) rfl (by decide) ?_
      refine PW.goto (tgt := 4) C dX10_word_125 (by decide) ?_
      exact PW.wk (wk_s (wk_s (wk_s (wk_n wk_0)))) (hkb _ _ _ hw)
  · rw [if_pos c] at hw
    refine PW.ald0n C dX10_word_86 ?_
    refine PW.get0 C cf_10 fl_X10_251 (by decide) oM_0 (fvI rfl) dX10_word_87 ?_
    refine PW.ild3n C dX10_word_90 ?_
    refine PW.iadd C dX10_word_91 ?_
    refine PW.ald0n C dX10_word_92 ?_
    refine PW.get0 C cf_10 fl_X10_241 (by decide) oM_0 (fvI rfl) dX10_word_93 ?_
    refine PW.icmp_ne (tgt := 101) C dX10_word_96 (by decide) (fun c => ?_) (fun c => ?_)
    · rw [if_neg c] at hw
      obtain ⟨n, hw⟩ := hw
      refine PW.wk (wk_s (wk_s (wk_s (wk_n wk_0)))) (l_X10_word_101 C ?_ n _ _ hw)
      · intro y17 h16 hw
        refine PW.inc2 (v := 1) C dX10_word_119 (by decide) rfl (by decide) ?_
        refine PW.inc1 (v := 1) C dX10_word_122 (by decide) rfl (by decide) ?_
        refine PW.goto (tgt := 4) C dX10_word_125 (by decide) ?_
        exact PW.wk (wk_s (wk_s (wk_s (wk_n wk_0)))) (hkb _ _ _ hw)
    · rw [if_pos c] at hw
      exact PW.wk (wk_n (wk_s (wk_n (wk_n wk_0)))) (hk99 _ _ hw)
def w_X10_word_4 (k99 : Int32 → PH → Prop) (k128 : PH → Prop) (Q : Int32 → PH → Prop) (kb : Int32 → Int32 → PH → Prop) (x1 : Int32) (x2 : Int32) (h : PH) : Prop :=
  w_J0_length_8abf5 0 h (fun z2 h1 => if z2 ≤ x2 then (k128 h1) else (∃ n, Lp1 (w_X10_word_16 (fun y9 h8 => w_X10_word_72 k99 Q kb x1 x2 y9 h8) Q x1 x2) n 0 h1))
set_option maxRecDepth 8000 in
theorem b_X10_word_4 {D : va_G} {ca : Nat → ClassId} {ad : Nat → Nat} {K : Kt} {k99 : Int32 → PH → Prop} {k128 : PH → Prop} {kb : Int32 → Int32 → PH → Prop} {Q : Int32 → PH → Prop} {x1 : Int32} {x2 : Int32} {h : PH} (C : CX (GM D ca ad) (XS (GM D ca ad)) cX10_word RX10 4 (some .int) 5 K) (hk99 : ∀ (x1 : Int32) (h : PH), k99 x1 h → PW (GM D ca ad) K 4 (qI Q) h 99 [none, some (.int x1), none, none] []) (hk128 : ∀ (h : PH), k128 h → PW (GM D ca ad) K 4 (qI Q) h 128 [none, none, none, none] []) (hkb : ∀ (x1 : Int32) (x2 : Int32) (h : PH), kb x1 x2 h → PW (GM D ca ad) K 4 (qI Q) h 4 [some (.ref 0), some (.int x1), some (.int x2), none] []) (hw : w_X10_word_4 k99 k128 Q kb x1 x2 h) : PW (GM D ca ad) K 4 (qI Q) h 4 [some (.ref 0), some (.int x1), some (.int x2), none] [] := by
  unfold w_X10_word_4 at hw
  refine PW.ild2n C dX10_word_4 ?_
  refine PW.ldcS2 C dX10_word_5 ?_
  refine PW.callTI0 (b := 0) C ms_J0_length_8abf5 ml_X10_280 dX10_word_8 (by decide) rfl (Nat.le_of_ble_eq_true rfl) (by decide) (Nat.le_of_ble_eq_true rfl) (s_J0_length_8abf5 (by decide) hw) ?_
  clear hw
  intro z2 h1 hw
  refine PW.icmp_ge (tgt := 128) C dX10_word_11 (by decide) (fun c => ?_) (fun c => ?_)
  · rw [if_pos c] at hw
    exact PW.wk (wk_n (wk_n (wk_n (wk_n wk_0)))) (hk128 _ hw)
  · rw [if_neg c] at hw
    refine PW.iconst (v := 0) C dX10_word_14 (by decide) ?_
    refine PW.ist3n C dX10_word_15 (by decide) rfl ?_
    obtain ⟨n, hw⟩ := hw
    refine PW.wk (wk_s (wk_s (wk_s (wk_s wk_0)))) (l_X10_word_16 C ?_ n _ _ hw)
    · intro y9 h8 hw
      exact PW.wk (wk_s (wk_s (wk_s (wk_s wk_0)))) (b_X10_word_72 C hk99 hkb hw)
theorem l_X10_word_4 {D : va_G} {ca : Nat → ClassId} {ad : Nat → Nat} {K : Kt} {k99 : Int32 → PH → Prop} {k128 : PH → Prop} {Q : Int32 → PH → Prop} (C : CX (GM D ca ad) (XS (GM D ca ad)) cX10_word RX10 4 (some .int) 5 K) (hk99 : ∀ (x1 : Int32) (h : PH), k99 x1 h → PW (GM D ca ad) K 4 (qI Q) h 99 [none, some (.int x1), none, none] []) (hk128 : ∀ (h : PH), k128 h → PW (GM D ca ad) K 4 (qI Q) h 128 [none, none, none, none] []) : ∀ (n : Nat) (x1 : Int32) (x2 : Int32) (h : PH), Lp2 (w_X10_word_4 k99 k128 Q) n x1 x2 h → PW (GM D ca ad) K 4 (qI Q) h 4 [some (.ref 0), some (.int x1), some (.int x2), none] [] := by
  intro n
  induction n with
  | zero => intro x1 x2 h hw; exact hw.elim
  | succ n ih => intro x1 x2 h hw; exact b_X10_word_4 C hk99 hk128 (fun x1 x2 h hw => ih x1 x2 h hw) hw
def w_X10_word (h : PH) (Q : Int32 → PH → Prop) : Prop :=
  ∃ n, Lp2 (w_X10_word_4 (fun y19 h18 => Q y19 h18) (fun h20 => Q (-1) h20) Q) n 0 0 h
set_option maxRecDepth 8000 in
theorem s_X10_word {D : va_G} {ca : Nat → ClassId} {ad : Nat → Nat} {l : Launch} {h : PH} {Q : Int32 → PH → Prop} (hw : w_X10_word h Q) : Sp (GM D ca ad) (XS (GM D ca ad)) l 5 yX10_word cX10_word 4 (some .int) [.ref 0] h (qI Q) := by
  refine Sp.of (own := RX10) [some (.ref 0), none, none, none] (by decide +kernel) rfl rfl (Nat.le_of_ble_eq_true rfl) (fun K hl C => ?_)
  subst hl
  unfold w_X10_word at hw
  refine PW.iconst (v := 0) C dX10_word_0 (by decide) ?_
  refine PW.ist1n C dX10_word_1 (by decide) rfl ?_
  refine PW.iconst (v := 0) C dX10_word_2 (by decide) ?_
  refine PW.ist2n C dX10_word_3 (by decide) rfl ?_
  obtain ⟨n, hw⟩ := hw
  refine PW.wk (wk_s (wk_s (wk_s (wk_n wk_0)))) (l_X10_word_4 C ?_ ?_ n _ _ _ hw)
  · intro y19 h18 hw
    refine PW.ild1n C dX10_word_99 ?_
    exact PW.iret C dX10_word_100 ⟨_, rfl, hw⟩
  · intro h20 hw
    refine PW.iconst (v := (-1)) C dX10_word_128 (by decide) ?_
    exact PW.iret C dX10_word_129 ⟨_, rfl, hw⟩
def w_X10_name_7 (k63 : PH → Prop) (Q : PH → Prop) (kb : Int32 → PH → Prop) (x1 : Int32) (h : PH) : Prop :=
  if 6 ≤ x1 then (k63 h) else (if (gI h 0 36) ≤ ((gI h 0 37) + x1) then (∀ h2, h2 = sI h 0 39 ((((gI h 0 39) : Int32) <<< ((5 : Int32) &&& 31)) ||| 0) → kb (x1 + 1) h2) else (vp_in ((gI h 0 37) + x1) 700 ∧ ∀ h4, h4 = sI h 0 39 ((((gI h 0 39) : Int32) <<< ((5 : Int32) &&& 31)) ||| (((gI h 1 (iN ((gI h 0 37) + x1))) - 97) + 1)) → kb (x1 + 1) h4))
set_option maxRecDepth 8000 in
theorem b_X10_name_7 {D : va_G} {ca : Nat → ClassId} {ad : Nat → Nat} {K : Kt} {k63 : PH → Prop} {kb : Int32 → PH → Prop} {Q : PH → Prop} {x1 : Int32} {h : PH} (C : CX (GM D ca ad) (XS (GM D ca ad)) cX10_name RX10 2 none 1 K) (hk63 : ∀ (h : PH), k63 h → PW (GM D ca ad) K 2 (qV Q) h 63 [none, none] []) (hkb : ∀ (x1 : Int32) (h : PH), kb x1 h → PW (GM D ca ad) K 2 (qV Q) h 7 [some (.ref 0), some (.int x1)] []) (hw : w_X10_name_7 k63 Q kb x1 h) : PW (GM D ca ad) K 2 (qV Q) h 7 [some (.ref 0), some (.int x1)] [] := by
  unfold w_X10_name_7 at hw
  refine PW.ild1n C dX10_name_7 ?_
  refine PW.bipush (v := 6) C dX10_name_8 (by decide) ?_
  refine PW.icmp_ge (tgt := 63) C dX10_name_10 (by decide) (fun c => ?_) (fun c => ?_)
  · rw [if_pos c] at hw
    exact PW.wk (wk_n (wk_n wk_0)) (hk63 _ hw)
  · rw [if_neg c] at hw
    refine PW.ald0n C dX10_name_13 ?_
    refine PW.ald0n C dX10_name_14 ?_
    refine PW.get0 C cf_10 fl_X10_264 (by decide) oM_0 (fvI rfl) dX10_name_15 ?_
    refine PW.iconst (v := 5) C dX10_name_18 (by decide) ?_
    refine PW.ishl C dX10_name_19 ?_
    refine PW.ald0n C dX10_name_20 ?_
    refine PW.get0 C cf_10 fl_X10_251 (by decide) oM_0 (fvI rfl) dX10_name_21 ?_
    refine PW.ild1n C dX10_name_24 ?_
    refine PW.iadd C dX10_name_25 ?_
    refine PW.ald0n C dX10_name_26 ?_
    refine PW.get0 C cf_10 fl_X10_241 (by decide) oM_0 (fvI rfl) dX10_name_27 ?_
    refine PW.icmp_ge (tgt := 52) C dX10_name_30 (by decide) (fun c => ?_) (fun c => ?_)
    · rw [if_pos c] at hw
      refine PW.iconst (v := 0) C dX10_name_52 (by decide) ?_
      refine PW.ior C dX10_name_53 ?_
      replace hw := hw _ rfl
      refine PW.put0 C cf_10 fl_X10_264 (by decide) oM_0 rfl rfl rfl (pw_sI oM_0 (by decide) rfl) dX10_name_54 ?_
      refine PW.inc1 (v := 1) C dX10_name_57 (by decide) rfl (by decide) ?_
      refine PW.goto (tgt := 7) C dX10_name_60 (by decide) ?_
      exact PW.wk (wk_s (wk_s wk_0)) (hkb _ _ hw)
    · rw [if_neg c] at hw
      refine PW.ald0n C dX10_name_33 ?_
      refine PW.get0 (v := .ref 1) C cf_10 fl_X10_7 (by decide) oM_0 (fvR (o := 1) rfl) dX10_name_34 ?_
      refine PW.ald0n C dX10_name_37 ?_
      refine PW.get0 C cf_10 fl_X10_251 (by decide) oM_0 (fvI rfl) dX10_name_38 ?_
      refine PW.ild1n C dX10_name_41 ?_
      refine PW.iadd C dX10_name_42 ?_
      obtain ⟨hc3, hw⟩ := hw
      refine PW.iald C dX10_name_43 aM_1 hc3 ?_
      refine PW.bipush (v := 97) C dX10_name_44 (by decide) ?_
      refine PW.isub C dX10_name_46 ?_
      refine PW.iconst (v := 1) C dX10_name_47 (by decide) ?_
      refine PW.iadd C dX10_name_48 ?_
      refine PW.goto (tgt := 53) C dX10_name_49 (by decide) ?_
      refine PW.ior C dX10_name_53 ?_
      replace hw := hw _ rfl
      refine PW.put0 C cf_10 fl_X10_264 (by decide) oM_0 rfl rfl rfl (pw_sI oM_0 (by decide) rfl) dX10_name_54 ?_
      refine PW.inc1 (v := 1) C dX10_name_57 (by decide) rfl (by decide) ?_
      refine PW.goto (tgt := 7) C dX10_name_60 (by decide) ?_
      exact PW.wk (wk_s (wk_s wk_0)) (hkb _ _ hw)
theorem l_X10_name_7 {D : va_G} {ca : Nat → ClassId} {ad : Nat → Nat} {K : Kt} {k63 : PH → Prop} {Q : PH → Prop} (C : CX (GM D ca ad) (XS (GM D ca ad)) cX10_name RX10 2 none 1 K) (hk63 : ∀ (h : PH), k63 h → PW (GM D ca ad) K 2 (qV Q) h 63 [none, none] []) : ∀ (n : Nat) (x1 : Int32) (h : PH), Lp1 (w_X10_name_7 k63 Q) n x1 h → PW (GM D ca ad) K 2 (qV Q) h 7 [some (.ref 0), some (.int x1)] [] := by
  intro n
  induction n with
  | zero => intro x1 h hw; exact hw.elim
  | succ n ih => intro x1 h hw; exact b_X10_name_7 C hk63 (fun x1 h hw => ih x1 h hw) hw
def w_X10_name (h : PH) (Q : PH → Prop) : Prop :=
  ∀ h1, h1 = sI h 0 39 0 → ∃ n, Lp1 (w_X10_name_7 (fun h5 => Q h5) Q) n 0 h1
set_option maxRecDepth 8000 in
theorem s_X10_name {D : va_G} {ca : Nat → ClassId} {ad : Nat → Nat} {l : Launch} {h : PH} {Q : PH → Prop} (hw : w_X10_name h Q) : Sp (GM D ca ad) (XS (GM D ca ad)) l 1 yX10_name cX10_name 2 none [.ref 0] h (qV Q) := by
  refine Sp.of (own := RX10) [some (.ref 0), none] (by decide +kernel) rfl rfl (Nat.le_of_ble_eq_true rfl) (fun K hl C => ?_)
  subst hl
  unfold w_X10_name at hw
  refine PW.ald0n C dX10_name_0 ?_
  refine PW.iconst (v := 0) C dX10_name_1 (by decide) ?_
  replace hw := hw _ rfl
  refine PW.put0 C cf_10 fl_X10_264 (by decide) oM_0 rfl rfl rfl (pw_sI oM_0 (by decide) rfl) dX10_name_2 ?_
  refine PW.iconst (v := 0) C dX10_name_5 (by decide) ?_
  refine PW.ist1n C dX10_name_6 (by decide) rfl ?_
  obtain ⟨n, hw⟩ := hw
  refine PW.wk (wk_s (wk_s wk_0)) (l_X10_name_7 C ?_ n _ _ hw)
  · intro h5 hw
    exact PW.vret C dX10_name_63 ⟨rfl, hw⟩
def w_X10_token_18 (Q : PH → Prop) (kb : PH → Prop) (h : PH) : Prop :=
  ∀ h3, h3 = sI h 0 36 ((gI h 0 36) + 1) → kb h3
set_option maxRecDepth 8000 in
theorem b_X10_token_18 {D : va_G} {ca : Nat → ClassId} {ad : Nat → Nat} {K : Kt} {kb : PH → Prop} {Q : PH → Prop} {h : PH} (C : CX (GM D ca ad) (XS (GM D ca ad)) cX10_token RX10 2 none 6 K) (hkb : ∀ (h : PH), kb h → PW (GM D ca ad) K 2 (qV Q) h 0 [some (.ref 0), none] []) (hw : w_X10_token_18 Q kb h) : PW (GM D ca ad) K 2 (qV Q) h 18 [some (.ref 0), none] [] := by
  unfold w_X10_token_18 at hw
  refine PW.ald0n C dX10_token_18 ?_
  refine PW.dup C dX10_token_19 rfl ?_
  refine PW.get0 C cf_10 fl_X10_241 (by decide) oM_0 (fvI rfl) dX10_token_20 ?_
  refine PW.iconst (v := 1) C dX10_token_23 (by decide) ?_
  refine PW.iadd C dX10_token_24 ?_
  replace hw := hw _ rfl
  refine PW.put0 C cf_10 fl_X10_241 (by decide) oM_0 rfl rfl rfl (pw_sI oM_0 (by decide) rfl) dX10_token_25 ?_
  refine PW.goto (tgt := 0) C dX10_token_28 (by decide) ?_
  exact PW.wk (wk_s (wk_n wk_0)) (hkb _ hw)
def w_X10_token_0 (k31 : PH → Prop) (Q : PH → Prop) (kb : PH → Prop) (h : PH) : Prop :=
  w_X10_here h (fun z2 h1 => if z2 = 10 then (w_X10_token_18 Q kb h1) else (w_X10_here h1 (fun z5 h4 => if z5 = 32 then (w_X10_token_18 Q kb h4) else (k31 h4))))
set_option maxRecDepth 8000 in
theorem b_X10_token_0 {D : va_G} {ca : Nat → ClassId} {ad : Nat → Nat} {K : Kt} {k31 : PH → Prop} {kb : PH → Prop} {Q : PH → Prop} {h : PH} (C : CX (GM D ca ad) (XS (GM D ca ad)) cX10_token RX10 2 none 6 K) (hk31 : ∀ (h : PH), k31 h → PW (GM D ca ad) K 2 (qV Q) h 31 [some (.ref 0), none] []) (hkb : ∀ (h : PH), kb h → PW (GM D ca ad) K 2 (qV Q) h 0 [some (.ref 0), none] []) (hw : w_X10_token_0 k31 Q kb h) : PW (GM D ca ad) K 2 (qV Q) h 0 [some (.ref 0), none] [] := by
  unfold w_X10_token_0 at hw
  refine PW.ald0n C dX10_token_0 ?_
  refine PW.callVI0 C ms_X10_here ml_X10_247 dX10_token_1 oM_0 ⟨_, _, rfl⟩ (Nat.le_of_ble_eq_true rfl) (by decide) (Nat.le_of_ble_eq_true rfl) (s_X10_here hw) ?_
  clear hw
  intro z2 h1 hw
  refine PW.bipush (v := 10) C dX10_token_4 (by decide) ?_
  refine PW.icmp_eq (tgt := 18) C dX10_token_6 (by decide) (fun c => ?_) (fun c => ?_)
  · rw [if_pos c] at hw
    exact PW.wk (wk_s (wk_n wk_0)) (b_X10_token_18 C hkb hw)
  · rw [if_neg c] at hw
    refine PW.ald0n C dX10_token_9 ?_
    refine PW.callVI0 C ms_X10_here ml_X10_247 dX10_token_10 oM_0 ⟨_, _, rfl⟩ (Nat.le_of_ble_eq_true rfl) (by decide) (Nat.le_of_ble_eq_true rfl) (s_X10_here hw) ?_
    clear hw
    intro z5 h4 hw
    refine PW.bipush (v := 32) C dX10_token_13 (by decide) ?_
    refine PW.icmp_ne (tgt := 31) C dX10_token_15 (by decide) (fun c => ?_) (fun c => ?_)
    · rw [if_neg c] at hw
      exact PW.wk (wk_s (wk_n wk_0)) (hk31 _ hw)
    · rw [if_pos c] at hw
      exact PW.wk (wk_s (wk_n wk_0)) (b_X10_token_18 C hkb hw)
theorem l_X10_token_0 {D : va_G} {ca : Nat → ClassId} {ad : Nat → Nat} {K : Kt} {k31 : PH → Prop} {Q : PH → Prop} (C : CX (GM D ca ad) (XS (GM D ca ad)) cX10_token RX10 2 none 6 K) (hk31 : ∀ (h : PH), k31 h → PW (GM D ca ad) K 2 (qV Q) h 31 [some (.ref 0), none] []) : ∀ (n : Nat) (h : PH), Lp0 (w_X10_token_0 k31 Q) n h → PW (GM D ca ad) K 2 (qV Q) h 0 [some (.ref 0), none] [] := by
  intro n
  induction n with
  | zero => intro h hw; exact hw.elim
  | succ n ih => intro h hw; exact b_X10_token_0 C hk31 (fun h hw => ih h hw) hw
def w_X10_token_205 (Q : PH → Prop) (kb : PH → Prop) (s1 : Int32) (h : PH) : Prop :=
  ∀ h23, h23 = sI h 0 39 s1 → ∀ h24, h24 = sI h23 0 36 ((gI h23 0 36) + 1) → kb h24
set_option maxRecDepth 8000 in
theorem b_X10_token_205 {D : va_G} {ca : Nat → ClassId} {ad : Nat → Nat} {K : Kt} {kb : PH → Prop} {Q : PH → Prop} {s1 : Int32} {h : PH} (C : CX (GM D ca ad) (XS (GM D ca ad)) cX10_token RX10 2 none 6 K) (hkb : ∀ (h : PH), kb h → PW (GM D ca ad) K 2 (qV Q) h 162 [some (.ref 0), none] []) (hw : w_X10_token_205 Q kb s1 h) : PW (GM D ca ad) K 2 (qV Q) h 205 [some (.ref 0), none] [.int s1, .ref 0] := by
  unfold w_X10_token_205 at hw
  replace hw := hw _ rfl
  refine PW.put0 C cf_10 fl_X10_264 (by decide) oM_0 rfl rfl rfl (pw_sI oM_0 (by decide) rfl) dX10_token_205 ?_
  refine PW.ald0n C dX10_token_208 ?_
  refine PW.dup C dX10_token_209 rfl ?_
  refine PW.get0 C cf_10 fl_X10_241 (by decide) oM_0 (fvI rfl) dX10_token_210 ?_
  refine PW.iconst (v := 1) C dX10_token_213 (by decide) ?_
  refine PW.iadd C dX10_token_214 ?_
  replace hw := hw _ rfl
  refine PW.put0 C cf_10 fl_X10_241 (by decide) oM_0 rfl rfl rfl (pw_sI oM_0 (by decide) rfl) dX10_token_215 ?_
  refine PW.goto (tgt := 162) C dX10_token_218 (by decide) ?_
  exact PW.wk (wk_s (wk_n wk_0)) (hkb _ hw)
def w_X10_token_162 (k226 : PH → Prop) (Q : PH → Prop) (kb : PH → Prop) (h : PH) : Prop :=
  w_X10_here h (fun z18 h17 => w_X10_isDigit z18 h17 (fun z20 h19 => if z20 = 0 then (k226 h19) else (if (gI h19 0 39) ≤ 99999 then (w_X10_here h19 (fun z22 h21 => w_X10_token_205 Q kb (((10 * (gI h19 0 39)) + z22) - 48) h21)) else (w_X10_token_205 Q kb (gI h19 0 39) h19))))
set_option maxRecDepth 8000 in
theorem b_X10_token_162 {D : va_G} {ca : Nat → ClassId} {ad : Nat → Nat} {K : Kt} {k226 : PH → Prop} {kb : PH → Prop} {Q : PH → Prop} {h : PH} (C : CX (GM D ca ad) (XS (GM D ca ad)) cX10_token RX10 2 none 6 K) (hk226 : ∀ (h : PH), k226 h → PW (GM D ca ad) K 2 (qV Q) h 226 [none, none] []) (hkb : ∀ (h : PH), kb h → PW (GM D ca ad) K 2 (qV Q) h 162 [some (.ref 0), none] []) (hw : w_X10_token_162 k226 Q kb h) : PW (GM D ca ad) K 2 (qV Q) h 162 [some (.ref 0), none] [] := by
  unfold w_X10_token_162 at hw
  refine PW.ald0n C dX10_token_162 ?_
  refine PW.callVI0 C ms_X10_here ml_X10_247 dX10_token_163 oM_0 ⟨_, _, rfl⟩ (Nat.le_of_ble_eq_true rfl) (by decide) (Nat.le_of_ble_eq_true rfl) (s_X10_here hw) ?_
  clear hw
  intro z18 h17 hw
  refine PW.callSI1 C ms_X10_isDigit ml_X10_270 dX10_token_166 (Nat.le_of_ble_eq_true rfl) (by decide) (Nat.le_of_ble_eq_true rfl) (s_X10_isDigit hw) ?_
  clear hw
  intro z20 h19 hw
  refine PW.if_eq (tgt := 226) C dX10_token_169 (by decide) (fun c => ?_) (fun c => ?_)
  · rw [if_pos c] at hw
    exact PW.wk (wk_n (wk_n wk_0)) (hk226 _ hw)
  · rw [if_neg c] at hw
    refine PW.ald0n C dX10_token_172 ?_
    refine PW.ald0n C dX10_token_173 ?_
    refine PW.get0 C cf_10 fl_X10_264 (by decide) oM_0 (fvI rfl) dX10_token_174 ?_
    refine PW.ldcw (v := 99999) C cs_X10_273 dX10_token_177 ?_
    refine PW.icmp_le (tgt := 190) C dX10_token_180 (by decide) (fun c => ?_) (fun c => ?_)
    · rw [if_pos c] at hw
      refine PW.bipush (v := 10) C dX10_token_190 (by decide) ?_
      refine PW.ald0n C dX10_token_192 ?_
      refine PW.get0 C cf_10 fl_X10_264 (by decide) oM_0 (fvI rfl) dX10_token_193 ?_
      refine PW.imul C dX10_token_196 ?_
      refine PW.ald0n C dX10_token_197 ?_
      refine PW.callVI0 C ms_X10_here ml_X10_247 dX10_token_198 oM_0 ⟨_, _, rfl⟩ (Nat.le_of_ble_eq_true rfl) (by decide) (Nat.le_of_ble_eq_true rfl) (s_X10_here hw) ?_
      clear hw
      intro z22 h21 hw
      refine PW.iadd C dX10_token_201 ?_
      refine PW.bipush (v := 48) C dX10_token_202 (by decide) ?_
      refine PW.isub C dX10_token_204 ?_
      exact PW.wk (wk_s (wk_n wk_0)) (b_X10_token_205 C hkb hw)
    · rw [if_neg c] at hw
      refine PW.ald0n C dX10_token_183 ?_
      refine PW.get0 C cf_10 fl_X10_264 (by decide) oM_0 (fvI rfl) dX10_token_184 ?_
      refine PW.goto (tgt := 205) C dX10_token_187 (by decide) ?_
      exact PW.wk (wk_s (wk_n wk_0)) (b_X10_token_205 C hkb hw)
theorem l_X10_token_162 {D : va_G} {ca : Nat → ClassId} {ad : Nat → Nat} {K : Kt} {k226 : PH → Prop} {Q : PH → Prop} (C : CX (GM D ca ad) (XS (GM D ca ad)) cX10_token RX10 2 none 6 K) (hk226 : ∀ (h : PH), k226 h → PW (GM D ca ad) K 2 (qV Q) h 226 [none, none] []) : ∀ (n : Nat) (h : PH), Lp0 (w_X10_token_162 k226 Q) n h → PW (GM D ca ad) K 2 (qV Q) h 162 [some (.ref 0), none] [] := by
  intro n
  induction n with
  | zero => intro h hw; exact hw.elim
  | succ n ih => intro h hw; exact b_X10_token_162 C hk226 (fun h hw => ih h hw) hw
def w_X10_token_64 (k87 : PH → Prop) (Q : PH → Prop) (kb : PH → Prop) (h : PH) : Prop :=
  w_X10_here h (fun z27 h26 => w_X10_isSmall z27 h26 (fun z29 h28 => if z29 = 0 then (k87 h28) else (∀ h30, h30 = sI h28 0 36 ((gI h28 0 36) + 1) → kb h30)))
set_option maxRecDepth 8000 in
theorem b_X10_token_64 {D : va_G} {ca : Nat → ClassId} {ad : Nat → Nat} {K : Kt} {k87 : PH → Prop} {kb : PH → Prop} {Q : PH → Prop} {h : PH} (C : CX (GM D ca ad) (XS (GM D ca ad)) cX10_token RX10 2 none 6 K) (hk87 : ∀ (h : PH), k87 h → PW (GM D ca ad) K 2 (qV Q) h 87 [some (.ref 0), none] []) (hkb : ∀ (h : PH), kb h → PW (GM D ca ad) K 2 (qV Q) h 64 [some (.ref 0), none] []) (hw : w_X10_token_64 k87 Q kb h) : PW (GM D ca ad) K 2 (qV Q) h 64 [some (.ref 0), none] [] := by
  unfold w_X10_token_64 at hw
  refine PW.ald0n C dX10_token_64 ?_
  refine PW.callVI0 C ms_X10_here ml_X10_247 dX10_token_65 oM_0 ⟨_, _, rfl⟩ (Nat.le_of_ble_eq_true rfl) (by decide) (Nat.le_of_ble_eq_true rfl) (s_X10_here hw) ?_
  clear hw
  intro z27 h26 hw
  refine PW.callSI1 C ms_X10_isSmall ml_X10_257 dX10_token_68 (Nat.le_of_ble_eq_true rfl) (by decide) (Nat.le_of_ble_eq_true rfl) (s_X10_isSmall hw) ?_
  clear hw
  intro z29 h28 hw
  refine PW.if_eq (tgt := 87) C dX10_token_71 (by decide) (fun c => ?_) (fun c => ?_)
  · rw [if_pos c] at hw
    exact PW.wk (wk_s (wk_n wk_0)) (hk87 _ hw)
  · rw [if_neg c] at hw
    refine PW.ald0n C dX10_token_74 ?_
    refine PW.dup C dX10_token_75 rfl ?_
    refine PW.get0 C cf_10 fl_X10_241 (by decide) oM_0 (fvI rfl) dX10_token_76 ?_
    refine PW.iconst (v := 1) C dX10_token_79 (by decide) ?_
    refine PW.iadd C dX10_token_80 ?_
    replace hw := hw _ rfl
    refine PW.put0 C cf_10 fl_X10_241 (by decide) oM_0 rfl rfl rfl (pw_sI oM_0 (by decide) rfl) dX10_token_81 ?_
    refine PW.goto (tgt := 64) C dX10_token_84 (by decide) ?_
    exact PW.wk (wk_s (wk_n wk_0)) (hkb _ hw)
theorem l_X10_token_64 {D : va_G} {ca : Nat → ClassId} {ad : Nat → Nat} {K : Kt} {k87 : PH → Prop} {Q : PH → Prop} (C : CX (GM D ca ad) (XS (GM D ca ad)) cX10_token RX10 2 none 6 K) (hk87 : ∀ (h : PH), k87 h → PW (GM D ca ad) K 2 (qV Q) h 87 [some (.ref 0), none] []) : ∀ (n : Nat) (h : PH), Lp0 (w_X10_token_64 k87 Q) n h → PW (GM D ca ad) K 2 (qV Q) h 64 [some (.ref 0), none] [] := by
  intro n
  induction n with
  | zero => intro h hw; exact hw.elim
  | succ n ih => intro h hw; exact b_X10_token_64 C hk87 (fun h hw => ih h hw) hw
def w_X10_token_127 (Q : PH → Prop) (s1 : Int32) (h : PH) : Prop :=
  ∀ h35, h35 = sI h 0 38 s1 → if (gI h35 0 38) = 1 then (w_X10_name h35 (fun h36 => Q h36)) else (Q h35)
set_option maxRecDepth 8000 in
theorem b_X10_token_127 {D : va_G} {ca : Nat → ClassId} {ad : Nat → Nat} {K : Kt} {Q : PH → Prop} {s1 : Int32} {h : PH} (C : CX (GM D ca ad) (XS (GM D ca ad)) cX10_token RX10 2 none 6 K) (hw : w_X10_token_127 Q s1 h) : PW (GM D ca ad) K 2 (qV Q) h 127 [some (.ref 0), none] [.int s1, .ref 0] := by
  unfold w_X10_token_127 at hw
  replace hw := hw _ rfl
  refine PW.put0 C cf_10 fl_X10_254 (by decide) oM_0 rfl rfl rfl (pw_sI oM_0 (by decide) rfl) dX10_token_127 ?_
  refine PW.ald0n C dX10_token_130 ?_
  refine PW.get0 C cf_10 fl_X10_254 (by decide) oM_0 (fvI rfl) dX10_token_131 ?_
  refine PW.iconst (v := 1) C dX10_token_134 (by decide) ?_
  refine PW.icmp_ne (tgt := 226) C dX10_token_135 (by decide) (fun c => ?_) (fun c => ?_)
  · rw [if_neg c] at hw
    exact PW.vret C dX10_token_226 ⟨rfl, hw⟩
  · rw [if_pos c] at hw
    refine PW.ald0n C dX10_token_138 ?_
    refine PW.callVV0 C ms_X10_name ml_X10_267 dX10_token_139 oM_0 ⟨_, _, rfl⟩ (Nat.le_of_ble_eq_true rfl) (by decide) (Nat.le_of_ble_eq_true rfl) (s_X10_name hw) ?_
    clear hw
    intro h36 hw
    refine PW.goto (tgt := 226) C dX10_token_142 (by decide) ?_
    exact PW.vret C dX10_token_226 ⟨rfl, hw⟩
def w_X10_token (h : PH) (Q : PH → Prop) : Prop :=
  ∃ n, Lp0 (w_X10_token_0 (fun h6 => ∀ h7, h7 = sI h6 0 37 (gI h6 0 36) → w_X10_here h7 (fun z9 h8 => if z9 = (-1) then (∀ h37, h37 = sI h8 0 38 4 → Q h37) else (w_X10_isSmall z9 h8 (fun z11 h10 => if z11 = 0 then (w_X10_isDigit z9 h10 (fun z13 h12 => if z13 = 0 then (w_X10_sign z9 h12 (fun h14 => Q h14)) else (∀ h15, h15 = sI h12 0 38 2 → ∀ h16, h16 = sI h15 0 39 0 → ∃ n, Lp0 (w_X10_token_162 (fun h25 => Q h25) Q) n h16))) else (∃ n, Lp0 (w_X10_token_64 (fun h31 => w_X10_word h31 (fun z33 h32 => ∀ h34, h34 = sI h32 0 39 z33 → if (gI h34 0 39) = (-1) then (if ((gI h34 0 36) - (gI h34 0 37)) ≤ 6 then (w_X10_token_127 Q 1 h34) else (w_X10_token_127 Q 5 h34)) else (w_X10_token_127 Q 0 h34))) Q) n h10))))) Q) n h
set_option maxRecDepth 8000 in
theorem s_X10_token {D : va_G} {ca : Nat → ClassId} {ad : Nat → Nat} {l : Launch} {h : PH} {Q : PH → Prop} (hw : w_X10_token h Q) : Sp (GM D ca ad) (XS (GM D ca ad)) l 6 yX10_token cX10_token 2 none [.ref 0] h (qV Q) := by
  refine Sp.of (own := RX10) [some (.ref 0), none] (by decide +kernel) rfl rfl (Nat.le_of_ble_eq_true rfl) (fun K hl C => ?_)
  subst hl
  unfold w_X10_token at hw
  obtain ⟨n, hw⟩ := hw
  refine PW.wk (wk_s (wk_n wk_0)) (l_X10_token_0 C ?_ n _ hw)
  · intro h6 hw
    refine PW.ald0n C dX10_token_31 ?_
    refine PW.ald0n C dX10_token_32 ?_
    refine PW.get0 C cf_10 fl_X10_241 (by decide) oM_0 (fvI rfl) dX10_token_33 ?_
    replace hw := hw _ rfl
    refine PW.put0 C cf_10 fl_X10_251 (by decide) oM_0 rfl rfl rfl (pw_sI oM_0 (by decide) rfl) dX10_token_36 ?_
    refine PW.ald0n C dX10_token_39 ?_
    refine PW.callVI0 C ms_X10_here ml_X10_247 dX10_token_40 oM_0 ⟨_, _, rfl⟩ (Nat.le_of_ble_eq_true rfl) (by decide) (Nat.le_of_ble_eq_true rfl) (s_X10_here hw) ?_
    clear hw
    intro z9 h8 hw
    refine PW.ist1n C dX10_token_43 (by decide) rfl ?_
    refine PW.ild1n C dX10_token_44 ?_
    refine PW.iconst (v := (-1)) C dX10_token_45 (by decide) ?_
    refine PW.icmp_ne (tgt := 57) C dX10_token_46 (by decide) (fun c => ?_) (fun c => ?_)
    · rw [if_neg c] at hw
      refine PW.ild1n C dX10_token_57 ?_
      refine PW.callSI1 C ms_X10_isSmall ml_X10_257 dX10_token_58 (Nat.le_of_ble_eq_true rfl) (by decide) (Nat.le_of_ble_eq_true rfl) (s_X10_isSmall hw) ?_
      clear hw
      intro z11 h10 hw
      refine PW.if_eq (tgt := 145) C dX10_token_61 (by decide) (fun c => ?_) (fun c => ?_)
      · rw [if_pos c] at hw
        refine PW.ild1n C dX10_token_145 ?_
        refine PW.callSI1 C ms_X10_isDigit ml_X10_270 dX10_token_146 (Nat.le_of_ble_eq_true rfl) (by decide) (Nat.le_of_ble_eq_true rfl) (s_X10_isDigit hw) ?_
        clear hw
        intro z13 h12 hw
        refine PW.if_eq (tgt := 221) C dX10_token_149 (by decide) (fun c => ?_) (fun c => ?_)
        · rw [if_pos c] at hw
          refine PW.ald0n C dX10_token_221 ?_
          refine PW.ild1n C dX10_token_222 ?_
          refine PW.callVV1 C ms_X10_sign ml_X10_274 dX10_token_223 oM_0 ⟨_, _, rfl⟩ (Nat.le_of_ble_eq_true rfl) (by decide) (Nat.le_of_ble_eq_true rfl) (s_X10_sign hw) ?_
          clear hw
          intro h14 hw
          exact PW.vret C dX10_token_226 ⟨rfl, hw⟩
        · rw [if_neg c] at hw
          refine PW.ald0n C dX10_token_152 ?_
          refine PW.iconst (v := 2) C dX10_token_153 (by decide) ?_
          replace hw := hw _ rfl
          refine PW.put0 C cf_10 fl_X10_254 (by decide) oM_0 rfl rfl rfl (pw_sI oM_0 (by decide) rfl) dX10_token_154 ?_
          refine PW.ald0n C dX10_token_157 ?_
          refine PW.iconst (v := 0) C dX10_token_158 (by decide) ?_
          replace hw := hw _ rfl
          refine PW.put0 C cf_10 fl_X10_264 (by decide) oM_0 rfl rfl rfl (pw_sI oM_0 (by decide) rfl) dX10_token_159 ?_
          obtain ⟨n, hw⟩ := hw
          refine PW.wk (wk_s (wk_n wk_0)) (l_X10_token_162 C ?_ n _ hw)
          · intro h25 hw
            exact PW.vret C dX10_token_226 ⟨rfl, hw⟩
      · rw [if_neg c] at hw
        obtain ⟨n, hw⟩ := hw
        refine PW.wk (wk_s (wk_n wk_0)) (l_X10_token_64 C ?_ n _ hw)
        · intro h31 hw
          refine PW.ald0n C dX10_token_87 ?_
          refine PW.ald0n C dX10_token_88 ?_
          refine PW.callVI0 C ms_X10_word ml_X10_261 dX10_token_89 oM_0 ⟨_, _, rfl⟩ (Nat.le_of_ble_eq_true rfl) (by decide) (Nat.le_of_ble_eq_true rfl) (s_X10_word hw) ?_
          clear hw
          intro z33 h32 hw
          replace hw := hw _ rfl
          refine PW.put0 C cf_10 fl_X10_264 (by decide) oM_0 rfl rfl rfl (pw_sI oM_0 (by decide) rfl) dX10_token_92 ?_
          refine PW.ald0n C dX10_token_95 ?_
          refine PW.ald0n C dX10_token_96 ?_
          refine PW.get0 C cf_10 fl_X10_264 (by decide) oM_0 (fvI rfl) dX10_token_97 ?_
          refine PW.iconst (v := (-1)) C dX10_token_100 (by decide) ?_
          refine PW.icmp_eq (tgt := 108) C dX10_token_101 (by decide) (fun c => ?_) (fun c => ?_)
          · rw [if_pos c] at hw
            refine PW.ald0n C dX10_token_108 ?_
            refine PW.get0 C cf_10 fl_X10_241 (by decide) oM_0 (fvI rfl) dX10_token_109 ?_
            refine PW.ald0n C dX10_token_112 ?_
            refine PW.get0 C cf_10 fl_X10_251 (by decide) oM_0 (fvI rfl) dX10_token_113 ?_
            refine PW.isub C dX10_token_116 ?_
            refine PW.bipush (v := 6) C dX10_token_117 (by decide) ?_
            refine PW.icmp_le (tgt := 126) C dX10_token_119 (by decide) (fun c => ?_) (fun c => ?_)
            · rw [if_pos c] at hw
              refine PW.iconst (v := 1) C dX10_token_126 (by decide) ?_
              exact PW.wk (wk_s (wk_n wk_0)) (b_X10_token_127 C hw)
            · rw [if_neg c] at hw
              refine PW.iconst (v := 5) C dX10_token_122 (by decide) ?_
              refine PW.goto (tgt := 127) C dX10_token_123 (by decide) ?_
              exact PW.wk (wk_s (wk_n wk_0)) (b_X10_token_127 C hw)
          · rw [if_neg c] at hw
            refine PW.iconst (v := 0) C dX10_token_104 (by decide) ?_
            refine PW.goto (tgt := 127) C dX10_token_105 (by decide) ?_
            exact PW.wk (wk_s (wk_n wk_0)) (b_X10_token_127 C hw)
    · rw [if_pos c] at hw
      refine PW.ald0n C dX10_token_49 ?_
      refine PW.iconst (v := 4) C dX10_token_50 (by decide) ?_
      replace hw := hw _ rfl
      refine PW.put0 C cf_10 fl_X10_254 (by decide) oM_0 rfl rfl rfl (pw_sI oM_0 (by decide) rfl) dX10_token_51 ?_
      refine PW.goto (tgt := 226) C dX10_token_54 (by decide) ?_
      exact PW.vret C dX10_token_226 ⟨rfl, hw⟩
def w_X10_wrong (x1 : Int32) (h : PH) (Q : PH → Prop) : Prop :=
  if (gI h 0 40) = 0 then (∀ h1, h1 = sI h 0 40 x1 → ∀ h2, h2 = sI h1 0 41 (gI h1 0 37) → Q h2) else (Q h)
set_option maxRecDepth 8000 in
theorem s_X10_wrong {D : va_G} {ca : Nat → ClassId} {ad : Nat → Nat} {l : Launch} {x1 : Int32} {h : PH} {Q : PH → Prop} (hw : w_X10_wrong x1 h Q) : Sp (GM D ca ad) (XS (GM D ca ad)) l 1 yX10_wrong cX10_wrong 2 none [.ref 0, .int x1] h (qV Q) := by
  refine Sp.of (own := RX10) [some (.ref 0), some (.int x1)] (by decide +kernel) rfl rfl (Nat.le_of_ble_eq_true rfl) (fun K hl C => ?_)
  subst hl
  unfold w_X10_wrong at hw
  refine PW.ald0n C dX10_wrong_0 ?_
  refine PW.get0 C cf_10 fl_X10_289 (by decide) oM_0 (fvI rfl) dX10_wrong_1 ?_
  refine PW.if_eq (tgt := 8) C dX10_wrong_4 (by decide) (fun c => ?_) (fun c => ?_)
  · rw [if_pos c] at hw
    refine PW.ald0n C dX10_wrong_8 ?_
    refine PW.ild1n C dX10_wrong_9 ?_
    replace hw := hw _ rfl
    refine PW.put0 C cf_10 fl_X10_289 (by decide) oM_0 rfl rfl rfl (pw_sI oM_0 (by decide) rfl) dX10_wrong_10 ?_
    refine PW.ald0n C dX10_wrong_13 ?_
    refine PW.ald0n C dX10_wrong_14 ?_
    refine PW.get0 C cf_10 fl_X10_251 (by decide) oM_0 (fvI rfl) dX10_wrong_15 ?_
    replace hw := hw _ rfl
    refine PW.put0 C cf_10 fl_X10_292 (by decide) oM_0 rfl rfl rfl (pw_sI oM_0 (by decide) rfl) dX10_wrong_18 ?_
    exact PW.vret C dX10_wrong_21 ⟨rfl, hw⟩
  · rw [if_neg c] at hw
    exact PW.vret C dX10_wrong_7 ⟨rfl, hw⟩
def w_X10_isWord (x1 : Int32) (h : PH) (Q : Int32 → PH → Prop) : Prop :=
  if (gI h 0 40) = 0 then (if (gI h 0 38) = 0 then (if (gI h 0 39) = x1 then (Q 1 h) else (Q 0 h)) else (Q 0 h)) else (Q 0 h)
set_option maxRecDepth 8000 in
theorem s_X10_isWord {D : va_G} {ca : Nat → ClassId} {ad : Nat → Nat} {l : Launch} {x1 : Int32} {h : PH} {Q : Int32 → PH → Prop} (hw : w_X10_isWord x1 h Q) : Sp (GM D ca ad) (XS (GM D ca ad)) l 1 yX10_isWord cX10_isWord 2 (some .boolean) [.ref 0, .int x1] h (qI Q) := by
  refine Sp.of (own := RX10) [some (.ref 0), some (.int x1)] (by decide +kernel) rfl rfl (Nat.le_of_ble_eq_true rfl) (fun K hl C => ?_)
  subst hl
  unfold w_X10_isWord at hw
  refine PW.ald0n C dX10_isWord_0 ?_
  refine PW.get0 C cf_10 fl_X10_289 (by decide) oM_0 (fvI rfl) dX10_isWord_1 ?_
  refine PW.if_ne (tgt := 26) C dX10_isWord_4 (by decide) (fun c => ?_) (fun c => ?_)
  · rw [if_neg c] at hw
    refine PW.iconst (v := 0) C dX10_isWord_26 (by decide) ?_
    exact PW.zret C dX10_isWord_27 (by decide) ⟨_, rfl, hw⟩
  · rw [if_pos c] at hw
    refine PW.ald0n C dX10_isWord_7 ?_
    refine PW.get0 C cf_10 fl_X10_254 (by decide) oM_0 (fvI rfl) dX10_isWord_8 ?_
    refine PW.if_ne (tgt := 26) C dX10_isWord_11 (by decide) (fun c => ?_) (fun c => ?_)
    · rw [if_neg c] at hw
      refine PW.iconst (v := 0) C dX10_isWord_26 (by decide) ?_
      exact PW.zret C dX10_isWord_27 (by decide) ⟨_, rfl, hw⟩
    · rw [if_pos c] at hw
      refine PW.ald0n C dX10_isWord_14 ?_
      refine PW.get0 C cf_10 fl_X10_264 (by decide) oM_0 (fvI rfl) dX10_isWord_15 ?_
      refine PW.ild1n C dX10_isWord_18 ?_
      refine PW.icmp_ne (tgt := 26) C dX10_isWord_19 (by decide) (fun c => ?_) (fun c => ?_)
      · rw [if_neg c] at hw
        refine PW.iconst (v := 0) C dX10_isWord_26 (by decide) ?_
        exact PW.zret C dX10_isWord_27 (by decide) ⟨_, rfl, hw⟩
      · rw [if_pos c] at hw
        refine PW.iconst (v := 1) C dX10_isWord_22 (by decide) ?_
        refine PW.goto (tgt := 27) C dX10_isWord_23 (by decide) ?_
        exact PW.zret C dX10_isWord_27 (by decide) ⟨_, rfl, hw⟩
def w_X10_isSign (x1 : Int32) (h : PH) (Q : Int32 → PH → Prop) : Prop :=
  if (gI h 0 40) = 0 then (if (gI h 0 38) = 3 then (if (gI h 0 39) = x1 then (Q 1 h) else (Q 0 h)) else (Q 0 h)) else (Q 0 h)
set_option maxRecDepth 8000 in
theorem s_X10_isSign {D : va_G} {ca : Nat → ClassId} {ad : Nat → Nat} {l : Launch} {x1 : Int32} {h : PH} {Q : Int32 → PH → Prop} (hw : w_X10_isSign x1 h Q) : Sp (GM D ca ad) (XS (GM D ca ad)) l 1 yX10_isSign cX10_isSign 2 (some .boolean) [.ref 0, .int x1] h (qI Q) := by
  refine Sp.of (own := RX10) [some (.ref 0), some (.int x1)] (by decide +kernel) rfl rfl (Nat.le_of_ble_eq_true rfl) (fun K hl C => ?_)
  subst hl
  unfold w_X10_isSign at hw
  refine PW.ald0n C dX10_isSign_0 ?_
  refine PW.get0 C cf_10 fl_X10_289 (by decide) oM_0 (fvI rfl) dX10_isSign_1 ?_
  refine PW.if_ne (tgt := 27) C dX10_isSign_4 (by decide) (fun c => ?_) (fun c => ?_)
  · rw [if_neg c] at hw
    refine PW.iconst (v := 0) C dX10_isSign_27 (by decide) ?_
    exact PW.zret C dX10_isSign_28 (by decide) ⟨_, rfl, hw⟩
  · rw [if_pos c] at hw
    refine PW.ald0n C dX10_isSign_7 ?_
    refine PW.get0 C cf_10 fl_X10_254 (by decide) oM_0 (fvI rfl) dX10_isSign_8 ?_
    refine PW.iconst (v := 3) C dX10_isSign_11 (by decide) ?_
    refine PW.icmp_ne (tgt := 27) C dX10_isSign_12 (by decide) (fun c => ?_) (fun c => ?_)
    · rw [if_neg c] at hw
      refine PW.iconst (v := 0) C dX10_isSign_27 (by decide) ?_
      exact PW.zret C dX10_isSign_28 (by decide) ⟨_, rfl, hw⟩
    · rw [if_pos c] at hw
      refine PW.ald0n C dX10_isSign_15 ?_
      refine PW.get0 C cf_10 fl_X10_264 (by decide) oM_0 (fvI rfl) dX10_isSign_16 ?_
      refine PW.ild1n C dX10_isSign_19 ?_
      refine PW.icmp_ne (tgt := 27) C dX10_isSign_20 (by decide) (fun c => ?_) (fun c => ?_)
      · rw [if_neg c] at hw
        refine PW.iconst (v := 0) C dX10_isSign_27 (by decide) ?_
        exact PW.zret C dX10_isSign_28 (by decide) ⟨_, rfl, hw⟩
      · rw [if_pos c] at hw
        refine PW.iconst (v := 1) C dX10_isSign_23 (by decide) ?_
        refine PW.goto (tgt := 28) C dX10_isSign_24 (by decide) ?_
        exact PW.zret C dX10_isSign_28 (by decide) ⟨_, rfl, hw⟩
def w_X10_goOn (h : PH) (Q : PH → Prop) : Prop :=
  if (gI h 0 40) = 0 then (w_X10_token h (fun h1 => Q h1)) else (Q h)
set_option maxRecDepth 8000 in
theorem s_X10_goOn {D : va_G} {ca : Nat → ClassId} {ad : Nat → Nat} {l : Launch} {h : PH} {Q : PH → Prop} (hw : w_X10_goOn h Q) : Sp (GM D ca ad) (XS (GM D ca ad)) l 7 yX10_goOn cX10_goOn 1 none [.ref 0] h (qV Q) := by
  refine Sp.of (own := RX10) [some (.ref 0)] (by decide +kernel) rfl rfl (Nat.le_of_ble_eq_true rfl) (fun K hl C => ?_)
  subst hl
  unfold w_X10_goOn at hw
  refine PW.ald0n C dX10_goOn_0 ?_
  refine PW.get0 C cf_10 fl_X10_289 (by decide) oM_0 (fvI rfl) dX10_goOn_1 ?_
  refine PW.if_ne (tgt := 11) C dX10_goOn_4 (by decide) (fun c => ?_) (fun c => ?_)
  · rw [if_neg c] at hw
    exact PW.vret C dX10_goOn_11 ⟨rfl, hw⟩
  · rw [if_pos c] at hw
    refine PW.ald0n C dX10_goOn_7 ?_
    refine PW.callVV0 C ms_X10_token ml_X10_295 dX10_goOn_8 oM_0 ⟨_, _, rfl⟩ (Nat.le_of_ble_eq_true rfl) (by decide) (Nat.le_of_ble_eq_true rfl) (s_X10_token hw) ?_
    clear hw
    intro h1 hw
    exact PW.vret C dX10_goOn_11 ⟨rfl, hw⟩
def w_X10_numeral_46 (Q : Int32 → PH → Prop) (x1 : Int32) (h : PH) : Prop :=
  if (gI h 0 40) = 0 then (∀ (y2 : Int32), y2 = (gI h 0 39) → w_X10_token h (fun h3 => Q y2 h3)) else (Q x1 h)
set_option maxRecDepth 8000 in
theorem b_X10_numeral_46 {D : va_G} {ca : Nat → ClassId} {ad : Nat → Nat} {K : Kt} {Q : Int32 → PH → Prop} {x1 : Int32} {h : PH} (C : CX (GM D ca ad) (XS (GM D ca ad)) cX10_numeral RX10 4 (some .int) 7 K) (hw : w_X10_numeral_46 Q x1 h) : PW (GM D ca ad) K 4 (qI Q) h 46 [some (.ref 0), some (.int x1), none, none] [] := by
  unfold w_X10_numeral_46 at hw
  refine PW.ald0n C dX10_numeral_46 ?_
  refine PW.get0 C cf_10 fl_X10_289 (by decide) oM_0 (fvI rfl) dX10_numeral_47 ?_
  refine PW.if_eq (tgt := 55) C dX10_numeral_50 (by decide) (fun c => ?_) (fun c => ?_)
  · rw [if_pos c] at hw
    refine PW.ald0n C dX10_numeral_55 ?_
    refine PW.get0 C cf_10 fl_X10_264 (by decide) oM_0 (fvI rfl) dX10_numeral_56 ?_
    replace hw := hw _ rfl
    refine PW.ist3n C dX10_numeral_59 (by decide) rfl ?_
    refine PW.ald0n C dX10_numeral_60 ?_
    refine PW.callVV0 C ms_X10_token ml_X10_295 dX10_numeral_61 oM_0 ⟨_, _, rfl⟩ (Nat.le_of_ble_eq_true rfl) (by decide) (Nat.le_of_ble_eq_true rfl) (s_X10_token hw) ?_
    clear hw
    intro h3 hw
    refine PW.ild3n C dX10_numeral_64 ?_
    exact PW.iret C dX10_numeral_65 ⟨_, rfl, hw⟩
  · rw [if_neg c] at hw
    refine PW.ild1n C dX10_numeral_53 ?_
    exact PW.iret C dX10_numeral_54 ⟨_, rfl, hw⟩
def w_X10_numeral_41 (Q : Int32 → PH → Prop) (x1 : Int32) (h : PH) : Prop :=
  w_X10_wrong 2 h (fun h1 => w_X10_numeral_46 Q x1 h1)
set_option maxRecDepth 8000 in
theorem b_X10_numeral_41 {D : va_G} {ca : Nat → ClassId} {ad : Nat → Nat} {K : Kt} {Q : Int32 → PH → Prop} {x1 : Int32} {h : PH} (C : CX (GM D ca ad) (XS (GM D ca ad)) cX10_numeral RX10 4 (some .int) 7 K) (hw : w_X10_numeral_41 Q x1 h) : PW (GM D ca ad) K 4 (qI Q) h 41 [some (.ref 0), some (.int x1), none, none] [] := by
  unfold w_X10_numeral_41 at hw
  refine PW.ald0n C dX10_numeral_41 ?_
  refine PW.iconst (v := 2) C dX10_numeral_42 (by decide) ?_
  refine PW.callVV1 C ms_X10_wrong ml_X10_298 dX10_numeral_43 oM_0 ⟨_, _, rfl⟩ (Nat.le_of_ble_eq_true rfl) (by decide) (Nat.le_of_ble_eq_true rfl) (s_X10_wrong hw) ?_
  clear hw
  intro h1 hw
  exact PW.wk (wk_s (wk_s (wk_n (wk_n wk_0)))) (b_X10_numeral_46 C hw)
def w_X10_numeral (x1 : Int32) (x2 : Int32) (h : PH) (Q : Int32 → PH → Prop) : Prop :=
  if (gI h 0 40) = 0 then (if (gI h 0 38) = 2 then (if (gI h 0 39) < x1 then (w_X10_numeral_41 Q x1 h) else (if (gI h 0 39) ≤ x2 then (w_X10_numeral_46 Q x1 h) else (w_X10_numeral_41 Q x1 h))) else (w_X10_wrong 1 h (fun h4 => w_X10_numeral_46 Q x1 h4))) else (Q x1 h)
set_option maxRecDepth 8000 in
theorem s_X10_numeral {D : va_G} {ca : Nat → ClassId} {ad : Nat → Nat} {l : Launch} {x1 : Int32} {x2 : Int32} {h : PH} {Q : Int32 → PH → Prop} (hw : w_X10_numeral x1 x2 h Q) : Sp (GM D ca ad) (XS (GM D ca ad)) l 7 yX10_numeral cX10_numeral 4 (some .int) [.ref 0, .int x1, .int x2] h (qI Q) := by
  refine Sp.of (own := RX10) [some (.ref 0), some (.int x1), some (.int x2), none] (by decide +kernel) rfl rfl (Nat.le_of_ble_eq_true rfl) (fun K hl C => ?_)
  subst hl
  unfold w_X10_numeral at hw
  refine PW.ald0n C dX10_numeral_0 ?_
  refine PW.get0 C cf_10 fl_X10_289 (by decide) oM_0 (fvI rfl) dX10_numeral_1 ?_
  refine PW.if_eq (tgt := 9) C dX10_numeral_4 (by decide) (fun c => ?_) (fun c => ?_)
  · rw [if_pos c] at hw
    refine PW.ald0n C dX10_numeral_9 ?_
    refine PW.get0 C cf_10 fl_X10_254 (by decide) oM_0 (fvI rfl) dX10_numeral_10 ?_
    refine PW.iconst (v := 2) C dX10_numeral_13 (by decide) ?_
    refine PW.icmp_eq (tgt := 25) C dX10_numeral_14 (by decide) (fun c => ?_) (fun c => ?_)
    · rw [if_pos c] at hw
      refine PW.ald0n C dX10_numeral_25 ?_
      refine PW.get0 C cf_10 fl_X10_264 (by decide) oM_0 (fvI rfl) dX10_numeral_26 ?_
      refine PW.ild1n C dX10_numeral_29 ?_
      refine PW.icmp_lt (tgt := 41) C dX10_numeral_30 (by decide) (fun c => ?_) (fun c => ?_)
      · rw [if_pos c] at hw
        exact PW.wk (wk_s (wk_s (wk_n (wk_n wk_0)))) (b_X10_numeral_41 C hw)
      · rw [if_neg c] at hw
        refine PW.ald0n C dX10_numeral_33 ?_
        refine PW.get0 C cf_10 fl_X10_264 (by decide) oM_0 (fvI rfl) dX10_numeral_34 ?_
        refine PW.ild2n C dX10_numeral_37 ?_
        refine PW.icmp_le (tgt := 46) C dX10_numeral_38 (by decide) (fun c => ?_) (fun c => ?_)
        · rw [if_pos c] at hw
          exact PW.wk (wk_s (wk_s (wk_n (wk_n wk_0)))) (b_X10_numeral_46 C hw)
        · rw [if_neg c] at hw
          exact PW.wk (wk_s (wk_s (wk_n (wk_n wk_0)))) (b_X10_numeral_41 C hw)
    · rw [if_neg c] at hw
      refine PW.ald0n C dX10_numeral_17 ?_
      refine PW.iconst (v := 1) C dX10_numeral_18 (by decide) ?_
      refine PW.callVV1 C ms_X10_wrong ml_X10_298 dX10_numeral_19 oM_0 ⟨_, _, rfl⟩ (Nat.le_of_ble_eq_true rfl) (by decide) (Nat.le_of_ble_eq_true rfl) (s_X10_wrong hw) ?_
      clear hw
      intro h4 hw
      refine PW.goto (tgt := 46) C dX10_numeral_22 (by decide) ?_
      exact PW.wk (wk_s (wk_s (wk_n (wk_n wk_0)))) (b_X10_numeral_46 C hw)
  · rw [if_neg c] at hw
    refine PW.ild1n C dX10_numeral_7 ?_
    exact PW.iret C dX10_numeral_8 ⟨_, rfl, hw⟩
def w_X10_found_3 (r0 : Nat) (k19 : Int32 → PH → Prop) (k28 : PH → Prop) (Q : Int32 → PH → Prop) (x1 : Int32) (x2 : Int32) (x3 : Int32) (kb : Int32 → PH → Prop) (x4 : Int32) (h : PH) : Prop :=
  if x2 ≤ x4 then (k28 h) else (vp_in (x1 + x4) (alM r0) ∧ if (gI h r0 (iN (x1 + x4))) = x3 then (k19 x4 h) else (kb (x4 + 1) h))
set_option maxRecDepth 8000 in
theorem b_X10_found_3 {D : va_G} {ca : Nat → ClassId} {ad : Nat → Nat} {K : Kt} {r0 : Nat} {k19 : Int32 → PH → Prop} {k28 : PH → Prop} {kb : Int32 → PH → Prop} {Q : Int32 → PH → Prop} {x1 : Int32} {x2 : Int32} {x3 : Int32} {x4 : Int32} {h : PH} (C : CX (GM D ca ad) (XS (GM D ca ad)) cX10_found RX10 5 (some .int) 1 K) (hr0 : aM r0 0 (alM r0)) (hk19 : ∀ (x4 : Int32) (h : PH), k19 x4 h → PW (GM D ca ad) K 5 (qI Q) h 19 [none, none, none, none, some (.int x4)] []) (hk28 : ∀ (h : PH), k28 h → PW (GM D ca ad) K 5 (qI Q) h 28 [none, none, none, none, none] []) (hkb : ∀ (x4 : Int32) (h : PH), kb x4 h → PW (GM D ca ad) K 5 (qI Q) h 3 [some (.ref r0), some (.int x1), some (.int x2), some (.int x3), some (.int x4)] []) (hw : w_X10_found_3 r0 k19 k28 Q x1 x2 x3 kb x4 h) : PW (GM D ca ad) K 5 (qI Q) h 3 [some (.ref r0), some (.int x1), some (.int x2), some (.int x3), some (.int x4)] [] := by
  unfold w_X10_found_3 at hw
  refine PW.ild4 C dX10_found_3 ?_
  refine PW.ild2n C dX10_found_5 ?_
  refine PW.icmp_ge (tgt := 28) C dX10_found_6 (by decide) (fun c => ?_) (fun c => ?_)
  · rw [if_pos c] at hw
    exact PW.wk (wk_n (wk_n (wk_n (wk_n (wk_n wk_0))))) (hk28 _ hw)
  · rw [if_neg c] at hw
    refine PW.ald0n C dX10_found_9 ?_
    refine PW.ild1n C dX10_found_10 ?_
    refine PW.ild4 C dX10_found_11 ?_
    refine PW.iadd C dX10_found_13 ?_
    obtain ⟨hc1, hw⟩ := hw
    refine PW.iald C dX10_found_14 hr0 hc1 ?_
    refine PW.ild3n C dX10_found_15 ?_
    refine PW.icmp_ne (tgt := 22) C dX10_found_16 (by decide) (fun c => ?_) (fun c => ?_)
    · rw [if_neg c] at hw
      refine PW.inc4 (v := 1) C dX10_found_22 (by decide) rfl (by decide) ?_
      refine PW.goto (tgt := 3) C dX10_found_25 (by decide) ?_
      exact PW.wk (wk_s (wk_s (wk_s (wk_s (wk_s wk_0))))) (hkb _ _ hw)
    · rw [if_pos c] at hw
      exact PW.wk (wk_n (wk_n (wk_n (wk_n (wk_s wk_0))))) (hk19 _ _ hw)
theorem l_X10_found_3 {D : va_G} {ca : Nat → ClassId} {ad : Nat → Nat} {K : Kt} {r0 : Nat} {k19 : Int32 → PH → Prop} {k28 : PH → Prop} {Q : Int32 → PH → Prop} {x1 : Int32} {x2 : Int32} {x3 : Int32} (C : CX (GM D ca ad) (XS (GM D ca ad)) cX10_found RX10 5 (some .int) 1 K) (hr0 : aM r0 0 (alM r0)) (hk19 : ∀ (x4 : Int32) (h : PH), k19 x4 h → PW (GM D ca ad) K 5 (qI Q) h 19 [none, none, none, none, some (.int x4)] []) (hk28 : ∀ (h : PH), k28 h → PW (GM D ca ad) K 5 (qI Q) h 28 [none, none, none, none, none] []) : ∀ (n : Nat) (x4 : Int32) (h : PH), Lp1 (w_X10_found_3 r0 k19 k28 Q x1 x2 x3) n x4 h → PW (GM D ca ad) K 5 (qI Q) h 3 [some (.ref r0), some (.int x1), some (.int x2), some (.int x3), some (.int x4)] [] := by
  intro n
  induction n with
  | zero => intro x4 h hw; exact hw.elim
  | succ n ih => intro x4 h hw; exact b_X10_found_3 C hr0 hk19 hk28 (fun x4 h hw => ih x4 h hw) hw
def w_X10_found (r0 : Nat) (x1 : Int32) (x2 : Int32) (x3 : Int32) (h : PH) (Q : Int32 → PH → Prop) : Prop :=
  ∃ n, Lp1 (w_X10_found_3 r0 (fun y3 h2 => Q y3 h2) (fun h4 => Q (-1) h4) Q x1 x2 x3) n 0 h
set_option maxRecDepth 8000 in
theorem s_X10_found {D : va_G} {ca : Nat → ClassId} {ad : Nat → Nat} {l : Launch} {r0 : Nat} {x1 : Int32} {x2 : Int32} {x3 : Int32} {h : PH} {Q : Int32 → PH → Prop} (hr0 : aM r0 0 (alM r0)) (hw : w_X10_found r0 x1 x2 x3 h Q) : Sp (GM D ca ad) (XS (GM D ca ad)) l 1 yX10_found cX10_found 5 (some .int) [.ref r0, .int x1, .int x2, .int x3] h (qI Q) := by
  refine Sp.of (own := RX10) [some (.ref r0), some (.int x1), some (.int x2), some (.int x3), none] (by decide +kernel) rfl rfl (Nat.le_of_ble_eq_true rfl) (fun K hl C => ?_)
  subst hl
  unfold w_X10_found at hw
  refine PW.iconst (v := 0) C dX10_found_0 (by decide) ?_
  refine PW.ist4 C dX10_found_1 (by decide) rfl ?_
  obtain ⟨n, hw⟩ := hw
  refine PW.wk (wk_s (wk_s (wk_s (wk_s (wk_s wk_0))))) (l_X10_found_3 C hr0 ?_ ?_ n _ _ hw)
  · intro y3 h2 hw
    refine PW.ild4 C dX10_found_19 ?_
    exact PW.iret C dX10_found_21 ⟨_, rfl, hw⟩
  · intro h4 hw
    refine PW.iconst (v := (-1)) C dX10_found_28 (by decide) ?_
    exact PW.iret C dX10_found_29 ⟨_, rfl, hw⟩
def w_X10_fresh_44 (r1 : Nat) (Q : Int32 → PH → Prop) (h : PH) : Prop :=
  if (gI h 0 40) = 0 then (∀ (y3 : Int32), y3 = (gI h 0 39) → w_X10_token h (fun h4 => Q y3 h4)) else (Q 0 h)
set_option maxRecDepth 8000 in
theorem b_X10_fresh_44 {D : va_G} {ca : Nat → ClassId} {ad : Nat → Nat} {K : Kt} {r1 : Nat} {Q : Int32 → PH → Prop} {h : PH} (C : CX (GM D ca ad) (XS (GM D ca ad)) cX10_fresh RX10 5 (some .int) 7 K) (hr1 : aM r1 0 (alM r1)) (hw : w_X10_fresh_44 r1 Q h) : PW (GM D ca ad) K 5 (qI Q) h 44 [some (.ref 0), none, none, none, none] [] := by
  unfold w_X10_fresh_44 at hw
  refine PW.ald0n C dX10_fresh_44 ?_
  refine PW.get0 C cf_10 fl_X10_289 (by decide) oM_0 (fvI rfl) dX10_fresh_45 ?_
  refine PW.if_eq (tgt := 53) C dX10_fresh_48 (by decide) (fun c => ?_) (fun c => ?_)
  · rw [if_pos c] at hw
    refine PW.ald0n C dX10_fresh_53 ?_
    refine PW.get0 C cf_10 fl_X10_264 (by decide) oM_0 (fvI rfl) dX10_fresh_54 ?_
    replace hw := hw _ rfl
    refine PW.ist4 C dX10_fresh_57 (by decide) rfl ?_
    refine PW.ald0n C dX10_fresh_59 ?_
    refine PW.callVV0 C ms_X10_token ml_X10_295 dX10_fresh_60 oM_0 ⟨_, _, rfl⟩ (Nat.le_of_ble_eq_true rfl) (by decide) (Nat.le_of_ble_eq_true rfl) (s_X10_token hw) ?_
    clear hw
    intro h4 hw
    refine PW.ild4 C dX10_fresh_63 ?_
    exact PW.iret C dX10_fresh_65 ⟨_, rfl, hw⟩
  · rw [if_neg c] at hw
    refine PW.iconst (v := 0) C dX10_fresh_51 (by decide) ?_
    exact PW.iret C dX10_fresh_52 ⟨_, rfl, hw⟩
def w_X10_fresh (r1 : Nat) (x2 : Int32) (x3 : Int32) (h : PH) (Q : Int32 → PH → Prop) : Prop :=
  if (gI h 0 40) = 0 then (if (gI h 0 38) = 1 then (w_X10_found r1 x2 x3 (gI h 0 39) h (fun z2 h1 => if z2 = (-1) then (w_X10_fresh_44 r1 Q h1) else (w_X10_wrong 3 h1 (fun h5 => w_X10_fresh_44 r1 Q h5)))) else (w_X10_wrong 1 h (fun h6 => w_X10_fresh_44 r1 Q h6))) else (Q 0 h)
set_option maxRecDepth 8000 in
theorem s_X10_fresh {D : va_G} {ca : Nat → ClassId} {ad : Nat → Nat} {l : Launch} {r1 : Nat} {x2 : Int32} {x3 : Int32} {h : PH} {Q : Int32 → PH → Prop} (hr1 : aM r1 0 (alM r1)) (hw : w_X10_fresh r1 x2 x3 h Q) : Sp (GM D ca ad) (XS (GM D ca ad)) l 7 yX10_fresh cX10_fresh 5 (some .int) [.ref 0, .ref r1, .int x2, .int x3] h (qI Q) := by
  refine Sp.of (own := RX10) [some (.ref 0), some (.ref r1), some (.int x2), some (.int x3), none] (by decide +kernel) rfl rfl (Nat.le_of_ble_eq_true rfl) (fun K hl C => ?_)
  subst hl
  unfold w_X10_fresh at hw
  refine PW.ald0n C dX10_fresh_0 ?_
  refine PW.get0 C cf_10 fl_X10_289 (by decide) oM_0 (fvI rfl) dX10_fresh_1 ?_
  refine PW.if_eq (tgt := 9) C dX10_fresh_4 (by decide) (fun c => ?_) (fun c => ?_)
  · rw [if_pos c] at hw
    refine PW.ald0n C dX10_fresh_9 ?_
    refine PW.get0 C cf_10 fl_X10_254 (by decide) oM_0 (fvI rfl) dX10_fresh_10 ?_
    refine PW.iconst (v := 1) C dX10_fresh_13 (by decide) ?_
    refine PW.icmp_eq (tgt := 25) C dX10_fresh_14 (by decide) (fun c => ?_) (fun c => ?_)
    · rw [if_pos c] at hw
      refine PW.ald1n C dX10_fresh_25 ?_
      refine PW.ild2n C dX10_fresh_26 ?_
      refine PW.ild3n C dX10_fresh_27 ?_
      refine PW.ald0n C dX10_fresh_28 ?_
      refine PW.get0 C cf_10 fl_X10_264 (by decide) oM_0 (fvI rfl) dX10_fresh_29 ?_
      refine PW.callSI4 C ms_X10_found ml_X10_301 dX10_fresh_32 (Nat.le_of_ble_eq_true rfl) (by decide) (Nat.le_of_ble_eq_true rfl) (s_X10_found hr1 hw) ?_
      clear hw
      intro z2 h1 hw
      refine PW.iconst (v := (-1)) C dX10_fresh_35 (by decide) ?_
      refine PW.icmp_eq (tgt := 44) C dX10_fresh_36 (by decide) (fun c => ?_) (fun c => ?_)
      · rw [if_pos c] at hw
        exact PW.wk (wk_s (wk_n (wk_n (wk_n (wk_n wk_0))))) (b_X10_fresh_44 C hr1 hw)
      · rw [if_neg c] at hw
        refine PW.ald0n C dX10_fresh_39 ?_
        refine PW.iconst (v := 3) C dX10_fresh_40 (by decide) ?_
        refine PW.callVV1 C ms_X10_wrong ml_X10_298 dX10_fresh_41 oM_0 ⟨_, _, rfl⟩ (Nat.le_of_ble_eq_true rfl) (by decide) (Nat.le_of_ble_eq_true rfl) (s_X10_wrong hw) ?_
        clear hw
        intro h5 hw
        exact PW.wk (wk_s (wk_n (wk_n (wk_n (wk_n wk_0))))) (b_X10_fresh_44 C hr1 hw)
    · rw [if_neg c] at hw
      refine PW.ald0n C dX10_fresh_17 ?_
      refine PW.iconst (v := 1) C dX10_fresh_18 (by decide) ?_
      refine PW.callVV1 C ms_X10_wrong ml_X10_298 dX10_fresh_19 oM_0 ⟨_, _, rfl⟩ (Nat.le_of_ble_eq_true rfl) (by decide) (Nat.le_of_ble_eq_true rfl) (s_X10_wrong hw) ?_
      clear hw
      intro h6 hw
      refine PW.goto (tgt := 44) C dX10_fresh_22 (by decide) ?_
      exact PW.wk (wk_s (wk_n (wk_n (wk_n (wk_n wk_0))))) (b_X10_fresh_44 C hr1 hw)
  · rw [if_neg c] at hw
    refine PW.iconst (v := 0) C dX10_fresh_7 (by decide) ?_
    exact PW.iret C dX10_fresh_8 ⟨_, rfl, hw⟩
def w_X10_fresher (x1 : Int32) (h : PH) (Q : Int32 → PH → Prop) : Prop :=
  vp_in (11 + x1) 22 ∧ Q (gI h 2 (iN (11 + x1))) h
set_option maxRecDepth 8000 in
theorem s_X10_fresher {D : va_G} {ca : Nat → ClassId} {ad : Nat → Nat} {l : Launch} {x1 : Int32} {h : PH} {Q : Int32 → PH → Prop} (hw : w_X10_fresher x1 h Q) : Sp (GM D ca ad) (XS (GM D ca ad)) l 1 yX10_fresher cX10_fresher 2 (some .int) [.ref 0, .int x1] h (qI Q) := by
  refine Sp.of (own := RX10) [some (.ref 0), some (.int x1)] (by decide +kernel) rfl rfl (Nat.le_of_ble_eq_true rfl) (fun K hl C => ?_)
  subst hl
  unfold w_X10_fresher at hw
  refine PW.ald0n C dX10_fresher_0 ?_
  refine PW.get0 (v := .ref 2) C cf_10 fl_X10_13 (by decide) oM_0 (fvR (o := 2) rfl) dX10_fresher_1 ?_
  refine PW.bipush (v := 11) C dX10_fresher_4 (by decide) ?_
  refine PW.ild1n C dX10_fresher_6 ?_
  refine PW.iadd C dX10_fresher_7 ?_
  obtain ⟨hc1, hw⟩ := hw
  refine PW.iald C dX10_fresher_8 aM_2 hc1 ?_
  exact PW.iret C dX10_fresher_9 ⟨_, rfl, hw⟩
def w_X10_reads (x1 : Int32) (x2 : Int32) (h : PH) (Q : PH → Prop) : Prop :=
  vp_in (11 + x1) 22 ∧ ∀ h2, h2 = sI h 2 (iN (11 + x1)) x2 → Q h2
set_option maxRecDepth 8000 in
theorem s_X10_reads {D : va_G} {ca : Nat → ClassId} {ad : Nat → Nat} {l : Launch} {x1 : Int32} {x2 : Int32} {h : PH} {Q : PH → Prop} (hw : w_X10_reads x1 x2 h Q) : Sp (GM D ca ad) (XS (GM D ca ad)) l 1 yX10_reads cX10_reads 3 none [.ref 0, .int x1, .int x2] h (qV Q) := by
  refine Sp.of (own := RX10) [some (.ref 0), some (.int x1), some (.int x2)] (by decide +kernel) rfl rfl (Nat.le_of_ble_eq_true rfl) (fun K hl C => ?_)
  subst hl
  unfold w_X10_reads at hw
  refine PW.ald0n C dX10_reads_0 ?_
  refine PW.get0 (v := .ref 2) C cf_10 fl_X10_13 (by decide) oM_0 (fvR (o := 2) rfl) dX10_reads_1 ?_
  refine PW.bipush (v := 11) C dX10_reads_4 (by decide) ?_
  refine PW.ild1n C dX10_reads_6 ?_
  refine PW.iadd C dX10_reads_7 ?_
  refine PW.ild2n C dX10_reads_8 ?_
  obtain ⟨hc1, hw⟩ := hw
  replace hw := hw _ rfl
  refine PW.iast C dX10_reads_9 aM_2 hc1 ?_
  exact PW.vret C dX10_reads_10 ⟨rfl, hw⟩
def w_X10_atHand_44 (r1 : Nat) (Q : Int32 → PH → Prop) (x2 : Int32) (x3 : Int32) (h : PH) : Prop :=
  if (gI h 0 40) = 0 then (w_X10_found r1 x2 x3 (gI h 0 39) h (fun z4 h3 => Q z4 h3)) else (Q 0 h)
set_option maxRecDepth 8000 in
theorem b_X10_atHand_44 {D : va_G} {ca : Nat → ClassId} {ad : Nat → Nat} {K : Kt} {r1 : Nat} {Q : Int32 → PH → Prop} {x2 : Int32} {x3 : Int32} {h : PH} (C : CX (GM D ca ad) (XS (GM D ca ad)) cX10_atHand RX10 4 (some .int) 2 K) (hr1 : aM r1 0 (alM r1)) (hw : w_X10_atHand_44 r1 Q x2 x3 h) : PW (GM D ca ad) K 4 (qI Q) h 44 [some (.ref 0), some (.ref r1), some (.int x2), some (.int x3)] [] := by
  unfold w_X10_atHand_44 at hw
  refine PW.ald0n C dX10_atHand_44 ?_
  refine PW.get0 C cf_10 fl_X10_289 (by decide) oM_0 (fvI rfl) dX10_atHand_45 ?_
  refine PW.if_eq (tgt := 55) C dX10_atHand_48 (by decide) (fun c => ?_) (fun c => ?_)
  · rw [if_pos c] at hw
    refine PW.ald1n C dX10_atHand_55 ?_
    refine PW.ild2n C dX10_atHand_56 ?_
    refine PW.ild3n C dX10_atHand_57 ?_
    refine PW.ald0n C dX10_atHand_58 ?_
    refine PW.get0 C cf_10 fl_X10_264 (by decide) oM_0 (fvI rfl) dX10_atHand_59 ?_
    refine PW.callSI4 C ms_X10_found ml_X10_301 dX10_atHand_62 (Nat.le_of_ble_eq_true rfl) (by decide) (Nat.le_of_ble_eq_true rfl) (s_X10_found hr1 hw) ?_
    clear hw
    intro z4 h3 hw
    exact PW.iret C dX10_atHand_65 ⟨_, rfl, hw⟩
  · rw [if_neg c] at hw
    refine PW.iconst (v := 0) C dX10_atHand_51 (by decide) ?_
    refine PW.goto (tgt := 65) C dX10_atHand_52 (by decide) ?_
    exact PW.iret C dX10_atHand_65 ⟨_, rfl, hw⟩
def w_X10_atHand (r1 : Nat) (x2 : Int32) (x3 : Int32) (h : PH) (Q : Int32 → PH → Prop) : Prop :=
  if (gI h 0 40) = 0 then (if (gI h 0 38) = 1 then (w_X10_found r1 x2 x3 (gI h 0 39) h (fun z2 h1 => if z2 = (-1) then (w_X10_wrong 4 h1 (fun h5 => w_X10_atHand_44 r1 Q x2 x3 h5)) else (w_X10_atHand_44 r1 Q x2 x3 h1))) else (w_X10_wrong 1 h (fun h6 => w_X10_atHand_44 r1 Q x2 x3 h6))) else (Q 0 h)
set_option maxRecDepth 8000 in
theorem s_X10_atHand {D : va_G} {ca : Nat → ClassId} {ad : Nat → Nat} {l : Launch} {r1 : Nat} {x2 : Int32} {x3 : Int32} {h : PH} {Q : Int32 → PH → Prop} (hr1 : aM r1 0 (alM r1)) (hw : w_X10_atHand r1 x2 x3 h Q) : Sp (GM D ca ad) (XS (GM D ca ad)) l 2 yX10_atHand cX10_atHand 4 (some .int) [.ref 0, .ref r1, .int x2, .int x3] h (qI Q) := by
  refine Sp.of (own := RX10) [some (.ref 0), some (.ref r1), some (.int x2), some (.int x3)] (by decide +kernel) rfl rfl (Nat.le_of_ble_eq_true rfl) (fun K hl C => ?_)
  subst hl
  unfold w_X10_atHand at hw
  refine PW.ald0n C dX10_atHand_0 ?_
  refine PW.get0 C cf_10 fl_X10_289 (by decide) oM_0 (fvI rfl) dX10_atHand_1 ?_
  refine PW.if_eq (tgt := 9) C dX10_atHand_4 (by decide) (fun c => ?_) (fun c => ?_)
  · rw [if_pos c] at hw
    refine PW.ald0n C dX10_atHand_9 ?_
    refine PW.get0 C cf_10 fl_X10_254 (by decide) oM_0 (fvI rfl) dX10_atHand_10 ?_
    refine PW.iconst (v := 1) C dX10_atHand_13 (by decide) ?_
    refine PW.icmp_eq (tgt := 25) C dX10_atHand_14 (by decide) (fun c => ?_) (fun c => ?_)
    · rw [if_pos c] at hw
      refine PW.ald1n C dX10_atHand_25 ?_
      refine PW.ild2n C dX10_atHand_26 ?_
      refine PW.ild3n C dX10_atHand_27 ?_
      refine PW.ald0n C dX10_atHand_28 ?_
      refine PW.get0 C cf_10 fl_X10_264 (by decide) oM_0 (fvI rfl) dX10_atHand_29 ?_
      refine PW.callSI4 C ms_X10_found ml_X10_301 dX10_atHand_32 (Nat.le_of_ble_eq_true rfl) (by decide) (Nat.le_of_ble_eq_true rfl) (s_X10_found hr1 hw) ?_
      clear hw
      intro z2 h1 hw
      refine PW.iconst (v := (-1)) C dX10_atHand_35 (by decide) ?_
      refine PW.icmp_ne (tgt := 44) C dX10_atHand_36 (by decide) (fun c => ?_) (fun c => ?_)
      · rw [if_neg c] at hw
        exact PW.wk (wk_s (wk_s (wk_s (wk_s wk_0)))) (b_X10_atHand_44 C hr1 hw)
      · rw [if_pos c] at hw
        refine PW.ald0n C dX10_atHand_39 ?_
        refine PW.iconst (v := 4) C dX10_atHand_40 (by decide) ?_
        refine PW.callVV1 C ms_X10_wrong ml_X10_298 dX10_atHand_41 oM_0 ⟨_, _, rfl⟩ (Nat.le_of_ble_eq_true rfl) (by decide) (Nat.le_of_ble_eq_true rfl) (s_X10_wrong hw) ?_
        clear hw
        intro h5 hw
        exact PW.wk (wk_s (wk_s (wk_s (wk_s wk_0)))) (b_X10_atHand_44 C hr1 hw)
    · rw [if_neg c] at hw
      refine PW.ald0n C dX10_atHand_17 ?_
      refine PW.iconst (v := 1) C dX10_atHand_18 (by decide) ?_
      refine PW.callVV1 C ms_X10_wrong ml_X10_298 dX10_atHand_19 oM_0 ⟨_, _, rfl⟩ (Nat.le_of_ble_eq_true rfl) (by decide) (Nat.le_of_ble_eq_true rfl) (s_X10_wrong hw) ?_
      clear hw
      intro h6 hw
      refine PW.goto (tgt := 44) C dX10_atHand_22 (by decide) ?_
      exact PW.wk (wk_s (wk_s (wk_s (wk_s wk_0)))) (b_X10_atHand_44 C hr1 hw)
  · rw [if_neg c] at hw
    refine PW.iconst (v := 0) C dX10_atHand_7 (by decide) ?_
    exact PW.iret C dX10_atHand_8 ⟨_, rfl, hw⟩
def w_X10_placeAtHand (h : PH) (Q : Int32 → PH → Prop) : Prop :=
  w_X10_fresher 0 h (fun z2 h1 => w_X10_atHand 3 6 z2 h1 (fun z4 h3 => Q z4 h3))
set_option maxRecDepth 8000 in
theorem s_X10_placeAtHand {D : va_G} {ca : Nat → ClassId} {ad : Nat → Nat} {l : Launch} {h : PH} {Q : Int32 → PH → Prop} (hw : w_X10_placeAtHand h Q) : Sp (GM D ca ad) (XS (GM D ca ad)) l 3 yX10_placeAtHand cX10_placeAtHand 1 (some .int) [.ref 0] h (qI Q) := by
  refine Sp.of (own := RX10) [some (.ref 0)] (by decide +kernel) rfl rfl (Nat.le_of_ble_eq_true rfl) (fun K hl C => ?_)
  subst hl
  unfold w_X10_placeAtHand at hw
  refine PW.ald0n C dX10_placeAtHand_0 ?_
  refine PW.ald0n C dX10_placeAtHand_1 ?_
  refine PW.get0 (v := .ref 3) C cf_10 fl_X10_16 (by decide) oM_0 (fvR (o := 3) rfl) dX10_placeAtHand_2 ?_
  refine PW.bipush (v := 6) C dX10_placeAtHand_5 (by decide) ?_
  refine PW.ald0n C dX10_placeAtHand_7 ?_
  refine PW.iconst (v := 0) C dX10_placeAtHand_8 (by decide) ?_
  refine PW.callVI1 C ms_X10_fresher ml_X10_305 dX10_placeAtHand_9 oM_0 ⟨_, _, rfl⟩ (Nat.le_of_ble_eq_true rfl) (by decide) (Nat.le_of_ble_eq_true rfl) (s_X10_fresher hw) ?_
  clear hw
  intro z2 h1 hw
  refine PW.callVI3 C ms_X10_atHand ml_X10_309 dX10_placeAtHand_12 oM_0 ⟨_, _, rfl⟩ (Nat.le_of_ble_eq_true rfl) (by decide) (Nat.le_of_ble_eq_true rfl) (s_X10_atHand aM_3 hw) ?_
  clear hw
  intro z4 h3 hw
  exact PW.iret C dX10_placeAtHand_15 ⟨_, rfl, hw⟩
def w_X10_ownerAtHand (h : PH) (Q : Int32 → PH → Prop) : Prop :=
  w_X10_fresher 2 h (fun z2 h1 => w_X10_atHand 7 4 z2 h1 (fun z4 h3 => Q z4 h3))
set_option maxRecDepth 8000 in
theorem s_X10_ownerAtHand {D : va_G} {ca : Nat → ClassId} {ad : Nat → Nat} {l : Launch} {h : PH} {Q : Int32 → PH → Prop} (hw : w_X10_ownerAtHand h Q) : Sp (GM D ca ad) (XS (GM D ca ad)) l 3 yX10_ownerAtHand cX10_ownerAtHand 1 (some .int) [.ref 0] h (qI Q) := by
  refine Sp.of (own := RX10) [some (.ref 0)] (by decide +kernel) rfl rfl (Nat.le_of_ble_eq_true rfl) (fun K hl C => ?_)
  subst hl
  unfold w_X10_ownerAtHand at hw
  refine PW.ald0n C dX10_ownerAtHand_0 ?_
  refine PW.ald0n C dX10_ownerAtHand_1 ?_
  refine PW.get0 (v := .ref 7) C cf_10 fl_X10_28 (by decide) oM_0 (fvR (o := 7) rfl) dX10_ownerAtHand_2 ?_
  refine PW.iconst (v := 4) C dX10_ownerAtHand_5 (by decide) ?_
  refine PW.ald0n C dX10_ownerAtHand_6 ?_
  refine PW.iconst (v := 2) C dX10_ownerAtHand_7 (by decide) ?_
  refine PW.callVI1 C ms_X10_fresher ml_X10_305 dX10_ownerAtHand_8 oM_0 ⟨_, _, rfl⟩ (Nat.le_of_ble_eq_true rfl) (by decide) (Nat.le_of_ble_eq_true rfl) (s_X10_fresher hw) ?_
  clear hw
  intro z2 h1 hw
  refine PW.callVI3 C ms_X10_atHand ml_X10_309 dX10_ownerAtHand_11 oM_0 ⟨_, _, rfl⟩ (Nat.le_of_ble_eq_true rfl) (by decide) (Nat.le_of_ble_eq_true rfl) (s_X10_atHand aM_7 hw) ?_
  clear hw
  intro z4 h3 hw
  exact PW.iret C dX10_ownerAtHand_14 ⟨_, rfl, hw⟩
def w_X10_placeAhead (h : PH) (Q : Int32 → PH → Prop) : Prop :=
  w_X10_placeAtHand h (fun z2 h1 => w_X10_goOn h1 (fun h3 => Q z2 h3))
set_option maxRecDepth 8000 in
theorem s_X10_placeAhead {D : va_G} {ca : Nat → ClassId} {ad : Nat → Nat} {l : Launch} {h : PH} {Q : Int32 → PH → Prop} (hw : w_X10_placeAhead h Q) : Sp (GM D ca ad) (XS (GM D ca ad)) l 8 yX10_placeAhead cX10_placeAhead 2 (some .int) [.ref 0] h (qI Q) := by
  refine Sp.of (own := RX10) [some (.ref 0), none] (by decide +kernel) rfl rfl (Nat.le_of_ble_eq_true rfl) (fun K hl C => ?_)
  subst hl
  unfold w_X10_placeAhead at hw
  refine PW.ald0n C dX10_placeAhead_0 ?_
  refine PW.callVI0 C ms_X10_placeAtHand ml_X10_313 dX10_placeAhead_1 oM_0 ⟨_, _, rfl⟩ (Nat.le_of_ble_eq_true rfl) (by decide) (Nat.le_of_ble_eq_true rfl) (s_X10_placeAtHand hw) ?_
  clear hw
  intro z2 h1 hw
  refine PW.ist1n C dX10_placeAhead_4 (by decide) rfl ?_
  refine PW.ald0n C dX10_placeAhead_5 ?_
  refine PW.callVV0 C ms_X10_goOn ml_X10_316 dX10_placeAhead_6 oM_0 ⟨_, _, rfl⟩ (Nat.le_of_ble_eq_true rfl) (by decide) (Nat.le_of_ble_eq_true rfl) (s_X10_goOn hw) ?_
  clear hw
  intro h3 hw
  refine PW.ild1n C dX10_placeAhead_9 ?_
  exact PW.iret C dX10_placeAhead_10 ⟨_, rfl, hw⟩
def w_X10_ownerAhead (h : PH) (Q : Int32 → PH → Prop) : Prop :=
  w_X10_ownerAtHand h (fun z2 h1 => w_X10_goOn h1 (fun h3 => Q z2 h3))
set_option maxRecDepth 8000 in
theorem s_X10_ownerAhead {D : va_G} {ca : Nat → ClassId} {ad : Nat → Nat} {l : Launch} {h : PH} {Q : Int32 → PH → Prop} (hw : w_X10_ownerAhead h Q) : Sp (GM D ca ad) (XS (GM D ca ad)) l 8 yX10_ownerAhead cX10_ownerAhead 2 (some .int) [.ref 0] h (qI Q) := by
  refine Sp.of (own := RX10) [some (.ref 0), none] (by decide +kernel) rfl rfl (Nat.le_of_ble_eq_true rfl) (fun K hl C => ?_)
  subst hl
  unfold w_X10_ownerAhead at hw
  refine PW.ald0n C dX10_ownerAhead_0 ?_
  refine PW.callVI0 C ms_X10_ownerAtHand ml_X10_319 dX10_ownerAhead_1 oM_0 ⟨_, _, rfl⟩ (Nat.le_of_ble_eq_true rfl) (by decide) (Nat.le_of_ble_eq_true rfl) (s_X10_ownerAtHand hw) ?_
  clear hw
  intro z2 h1 hw
  refine PW.ist1n C dX10_ownerAhead_4 (by decide) rfl ?_
  refine PW.ald0n C dX10_ownerAhead_5 ?_
  refine PW.callVV0 C ms_X10_goOn ml_X10_316 dX10_ownerAhead_6 oM_0 ⟨_, _, rfl⟩ (Nat.le_of_ble_eq_true rfl) (by decide) (Nat.le_of_ble_eq_true rfl) (s_X10_goOn hw) ?_
  clear hw
  intro h3 hw
  refine PW.ild1n C dX10_ownerAhead_9 ?_
  exact PW.iret C dX10_ownerAhead_10 ⟨_, rfl, hw⟩
def w_X10_isFull (x1 : Int32) (h : PH) (Q : Int32 → PH → Prop) : Prop :=
  if x1 = 0 then (w_X10_fresher 0 h (fun z2 h1 => if z2 = 6 then (Q 1 h1) else (Q 0 h1))) else (if x1 = 1 then (w_X10_fresher 1 h (fun z5 h4 => if z5 = 9 then (Q 1 h4) else (Q 0 h4))) else (if x1 = 2 then (w_X10_fresher 2 h (fun z8 h7 => if z8 = 4 then (Q 1 h7) else (Q 0 h7))) else (if x1 = 4 then (w_X10_fresher 3 h (fun z11 h10 => if z11 = 8 then (Q 1 h10) else (Q 0 h10))) else (if x1 = 5 then (w_X10_fresher 4 h (fun z14 h13 => if z14 = 8 then (Q 1 h13) else (Q 0 h13))) else (if x1 = 6 then (w_X10_fresher 5 h (fun z17 h16 => if z17 = 6 then (Q 1 h16) else (Q 0 h16))) else (if x1 = 7 then (w_X10_fresher 6 h (fun z20 h19 => if z20 = 4 then (Q 1 h19) else (Q 0 h19))) else (Q 0 h)))))))
set_option maxRecDepth 8000 in
theorem s_X10_isFull {D : va_G} {ca : Nat → ClassId} {ad : Nat → Nat} {l : Launch} {x1 : Int32} {h : PH} {Q : Int32 → PH → Prop} (hw : w_X10_isFull x1 h Q) : Sp (GM D ca ad) (XS (GM D ca ad)) l 2 yX10_isFull cX10_isFull 2 (some .boolean) [.ref 0, .int x1] h (qI Q) := by
  refine Sp.of (own := RX10) [some (.ref 0), some (.int x1)] (by decide +kernel) rfl rfl (Nat.le_of_ble_eq_true rfl) (fun K hl C => ?_)
  subst hl
  unfold w_X10_isFull at hw
  refine PW.ild1n C dX10_isFull_0 ?_
  refine PW.byc 0 (fun c => ?_) (fun c => ?_)
  · rw [if_pos c] at hw
    subst c
    refine PW.tin (tgt := 48) C dX10_isFull_1 (by decide) (by decide) rfl (by decide) ?_
    refine PW.ald0n C dX10_isFull_48 ?_
    refine PW.iconst (v := 0) C dX10_isFull_49 (by decide) ?_
    refine PW.callVI1 C ms_X10_fresher ml_X10_305 dX10_isFull_50 oM_0 ⟨_, _, rfl⟩ (Nat.le_of_ble_eq_true rfl) (by decide) (Nat.le_of_ble_eq_true rfl) (s_X10_fresher hw) ?_
    clear hw
    intro z2 h1 hw
    refine PW.bipush (v := 6) C dX10_isFull_53 (by decide) ?_
    refine PW.icmp_ne (tgt := 62) C dX10_isFull_55 (by decide) (fun c => ?_) (fun c => ?_)
    · rw [if_neg c] at hw
      refine PW.iconst (v := 0) C dX10_isFull_62 (by decide) ?_
      exact PW.zret C dX10_isFull_63 (by decide) ⟨_, rfl, hw⟩
    · rw [if_pos c] at hw
      refine PW.iconst (v := 1) C dX10_isFull_58 (by decide) ?_
      refine PW.goto (tgt := 63) C dX10_isFull_59 (by decide) ?_
      exact PW.zret C dX10_isFull_63 (by decide) ⟨_, rfl, hw⟩
  have n3 := c
  rw [if_neg c] at hw
  refine PW.byc 1 (fun c => ?_) (fun c => ?_)
  · rw [if_pos c] at hw
    subst c
    refine PW.tin (tgt := 64) C dX10_isFull_1 (by decide) (by decide) rfl (by decide) ?_
    refine PW.ald0n C dX10_isFull_64 ?_
    refine PW.iconst (v := 1) C dX10_isFull_65 (by decide) ?_
    refine PW.callVI1 C ms_X10_fresher ml_X10_305 dX10_isFull_66 oM_0 ⟨_, _, rfl⟩ (Nat.le_of_ble_eq_true rfl) (by decide) (Nat.le_of_ble_eq_true rfl) (s_X10_fresher hw) ?_
    clear hw
    intro z5 h4 hw
    refine PW.bipush (v := 9) C dX10_isFull_69 (by decide) ?_
    refine PW.icmp_ne (tgt := 78) C dX10_isFull_71 (by decide) (fun c => ?_) (fun c => ?_)
    · rw [if_neg c] at hw
      refine PW.iconst (v := 0) C dX10_isFull_78 (by decide) ?_
      exact PW.zret C dX10_isFull_79 (by decide) ⟨_, rfl, hw⟩
    · rw [if_pos c] at hw
      refine PW.iconst (v := 1) C dX10_isFull_74 (by decide) ?_
      refine PW.goto (tgt := 79) C dX10_isFull_75 (by decide) ?_
      exact PW.zret C dX10_isFull_79 (by decide) ⟨_, rfl, hw⟩
  have n6 := c
  rw [if_neg c] at hw
  refine PW.byc 2 (fun c => ?_) (fun c => ?_)
  · rw [if_pos c] at hw
    subst c
    refine PW.tin (tgt := 80) C dX10_isFull_1 (by decide) (by decide) rfl (by decide) ?_
    refine PW.ald0n C dX10_isFull_80 ?_
    refine PW.iconst (v := 2) C dX10_isFull_81 (by decide) ?_
    refine PW.callVI1 C ms_X10_fresher ml_X10_305 dX10_isFull_82 oM_0 ⟨_, _, rfl⟩ (Nat.le_of_ble_eq_true rfl) (by decide) (Nat.le_of_ble_eq_true rfl) (s_X10_fresher hw) ?_
    clear hw
    intro z8 h7 hw
    refine PW.iconst (v := 4) C dX10_isFull_85 (by decide) ?_
    refine PW.icmp_ne (tgt := 93) C dX10_isFull_86 (by decide) (fun c => ?_) (fun c => ?_)
    · rw [if_neg c] at hw
      refine PW.iconst (v := 0) C dX10_isFull_93 (by decide) ?_
      exact PW.zret C dX10_isFull_94 (by decide) ⟨_, rfl, hw⟩
    · rw [if_pos c] at hw
      refine PW.iconst (v := 1) C dX10_isFull_89 (by decide) ?_
      refine PW.goto (tgt := 94) C dX10_isFull_90 (by decide) ?_
      exact PW.zret C dX10_isFull_94 (by decide) ⟨_, rfl, hw⟩
  have n9 := c
  rw [if_neg c] at hw
  refine PW.byc 4 (fun c => ?_) (fun c => ?_)
  · rw [if_pos c] at hw
    subst c
    refine PW.tin (tgt := 95) C dX10_isFull_1 (by decide) (by decide) rfl (by decide) ?_
    refine PW.ald0n C dX10_isFull_95 ?_
    refine PW.iconst (v := 3) C dX10_isFull_96 (by decide) ?_
    refine PW.callVI1 C ms_X10_fresher ml_X10_305 dX10_isFull_97 oM_0 ⟨_, _, rfl⟩ (Nat.le_of_ble_eq_true rfl) (by decide) (Nat.le_of_ble_eq_true rfl) (s_X10_fresher hw) ?_
    clear hw
    intro z11 h10 hw
    refine PW.bipush (v := 8) C dX10_isFull_100 (by decide) ?_
    refine PW.icmp_ne (tgt := 109) C dX10_isFull_102 (by decide) (fun c => ?_) (fun c => ?_)
    · rw [if_neg c] at hw
      refine PW.iconst (v := 0) C dX10_isFull_109 (by decide) ?_
      exact PW.zret C dX10_isFull_110 (by decide) ⟨_, rfl, hw⟩
    · rw [if_pos c] at hw
      refine PW.iconst (v := 1) C dX10_isFull_105 (by decide) ?_
      refine PW.goto (tgt := 110) C dX10_isFull_106 (by decide) ?_
      exact PW.zret C dX10_isFull_110 (by decide) ⟨_, rfl, hw⟩
  have n12 := c
  rw [if_neg c] at hw
  refine PW.byc 5 (fun c => ?_) (fun c => ?_)
  · rw [if_pos c] at hw
    subst c
    refine PW.tin (tgt := 111) C dX10_isFull_1 (by decide) (by decide) rfl (by decide) ?_
    refine PW.ald0n C dX10_isFull_111 ?_
    refine PW.iconst (v := 4) C dX10_isFull_112 (by decide) ?_
    refine PW.callVI1 C ms_X10_fresher ml_X10_305 dX10_isFull_113 oM_0 ⟨_, _, rfl⟩ (Nat.le_of_ble_eq_true rfl) (by decide) (Nat.le_of_ble_eq_true rfl) (s_X10_fresher hw) ?_
    clear hw
    intro z14 h13 hw
    refine PW.bipush (v := 8) C dX10_isFull_116 (by decide) ?_
    refine PW.icmp_ne (tgt := 125) C dX10_isFull_118 (by decide) (fun c => ?_) (fun c => ?_)
    · rw [if_neg c] at hw
      refine PW.iconst (v := 0) C dX10_isFull_125 (by decide) ?_
      exact PW.zret C dX10_isFull_126 (by decide) ⟨_, rfl, hw⟩
    · rw [if_pos c] at hw
      refine PW.iconst (v := 1) C dX10_isFull_121 (by decide) ?_
      refine PW.goto (tgt := 126) C dX10_isFull_122 (by decide) ?_
      exact PW.zret C dX10_isFull_126 (by decide) ⟨_, rfl, hw⟩
  have n15 := c
  rw [if_neg c] at hw
  refine PW.byc 6 (fun c => ?_) (fun c => ?_)
  · rw [if_pos c] at hw
    subst c
    refine PW.tin (tgt := 127) C dX10_isFull_1 (by decide) (by decide) rfl (by decide) ?_
    refine PW.ald0n C dX10_isFull_127 ?_
    refine PW.iconst (v := 5) C dX10_isFull_128 (by decide) ?_
    refine PW.callVI1 C ms_X10_fresher ml_X10_305 dX10_isFull_129 oM_0 ⟨_, _, rfl⟩ (Nat.le_of_ble_eq_true rfl) (by decide) (Nat.le_of_ble_eq_true rfl) (s_X10_fresher hw) ?_
    clear hw
    intro z17 h16 hw
    refine PW.bipush (v := 6) C dX10_isFull_132 (by decide) ?_
    refine PW.icmp_ne (tgt := 141) C dX10_isFull_134 (by decide) (fun c => ?_) (fun c => ?_)
    · rw [if_neg c] at hw
      refine PW.iconst (v := 0) C dX10_isFull_141 (by decide) ?_
      exact PW.zret C dX10_isFull_142 (by decide) ⟨_, rfl, hw⟩
    · rw [if_pos c] at hw
      refine PW.iconst (v := 1) C dX10_isFull_137 (by decide) ?_
      refine PW.goto (tgt := 142) C dX10_isFull_138 (by decide) ?_
      exact PW.zret C dX10_isFull_142 (by decide) ⟨_, rfl, hw⟩
  have n18 := c
  rw [if_neg c] at hw
  refine PW.byc 7 (fun c => ?_) (fun c => ?_)
  · rw [if_pos c] at hw
    subst c
    refine PW.tin (tgt := 143) C dX10_isFull_1 (by decide) (by decide) rfl (by decide) ?_
    refine PW.ald0n C dX10_isFull_143 ?_
    refine PW.bipush (v := 6) C dX10_isFull_144 (by decide) ?_
    refine PW.callVI1 C ms_X10_fresher ml_X10_305 dX10_isFull_146 oM_0 ⟨_, _, rfl⟩ (Nat.le_of_ble_eq_true rfl) (by decide) (Nat.le_of_ble_eq_true rfl) (s_X10_fresher hw) ?_
    clear hw
    intro z20 h19 hw
    refine PW.iconst (v := 4) C dX10_isFull_149 (by decide) ?_
    refine PW.icmp_ne (tgt := 157) C dX10_isFull_150 (by decide) (fun c => ?_) (fun c => ?_)
    · rw [if_neg c] at hw
      refine PW.iconst (v := 0) C dX10_isFull_157 (by decide) ?_
      exact PW.zret C dX10_isFull_158 (by decide) ⟨_, rfl, hw⟩
    · rw [if_pos c] at hw
      refine PW.iconst (v := 1) C dX10_isFull_153 (by decide) ?_
      refine PW.goto (tgt := 158) C dX10_isFull_154 (by decide) ?_
      exact PW.zret C dX10_isFull_158 (by decide) ⟨_, rfl, hw⟩
  have n21 := c
  rw [if_neg c] at hw
  refine PW.byc 3 (fun c => ?_) (fun c => ?_)
  · subst c
    refine PW.tin (tgt := 159) C dX10_isFull_1 (by decide) (by decide) rfl (by decide) ?_
    refine PW.iconst (v := 0) C dX10_isFull_159 (by decide) ?_
    exact PW.zret C dX10_isFull_160 (by decide) ⟨_, rfl, hw⟩
  have n22 := c
  refine PW.tout (tgt := 159) C dX10_isFull_1 (by have e0 := ne_ti (z := 0) (by decide) n3; have e1 := ne_ti (z := 1) (by decide) n6; have e2 := ne_ti (z := 2) (by decide) n9; have e3 := ne_ti (z := 4) (by decide) n12; have e4 := ne_ti (z := 5) (by decide) n15; have e5 := ne_ti (z := 6) (by decide) n18; have e6 := ne_ti (z := 7) (by decide) n21; have e7 := ne_ti (z := 3) (by decide) n22; omega) (by decide) ?_
  refine PW.iconst (v := 0) C dX10_isFull_159 (by decide) ?_
  exact PW.zret C dX10_isFull_160 (by decide) ⟨_, rfl, hw⟩
def w_X10_linkLine_71 (Q : PH → Prop) (kb : Int32 → PH → Prop) (x1 : Int32) (x2 : Int32) (x3 : Int32) (x4 : Int32) (h : PH) : Prop :=
  w_X10_wrong 3 h (fun h8 => kb (x4 + 1) h8)
set_option maxRecDepth 8000 in
theorem b_X10_linkLine_71 {D : va_G} {ca : Nat → ClassId} {ad : Nat → Nat} {K : Kt} {kb : Int32 → PH → Prop} {Q : PH → Prop} {x1 : Int32} {x2 : Int32} {x3 : Int32} {x4 : Int32} {h : PH} (C : CX (GM D ca ad) (XS (GM D ca ad)) cX10_linkLine RX10 5 none 9 K) (hkb : ∀ (x4 : Int32) (h : PH), kb x4 h → PW (GM D ca ad) K 5 (qV Q) h 14 [some (.ref 0), some (.int x1), some (.int x2), some (.int x3), some (.int x4)] []) (hw : w_X10_linkLine_71 Q kb x1 x2 x3 x4 h) : PW (GM D ca ad) K 5 (qV Q) h 71 [some (.ref 0), some (.int x1), some (.int x2), some (.int x3), some (.int x4)] [] := by
  unfold w_X10_linkLine_71 at hw
  refine PW.ald0n C dX10_linkLine_71 ?_
  refine PW.iconst (v := 3) C dX10_linkLine_72 (by decide) ?_
  refine PW.callVV1 C ms_X10_wrong ml_X10_298 dX10_linkLine_73 oM_0 ⟨_, _, rfl⟩ (Nat.le_of_ble_eq_true rfl) (by decide) (Nat.le_of_ble_eq_true rfl) (s_X10_wrong hw) ?_
  clear hw
  intro h8 hw
  refine PW.inc4 (v := 1) C dX10_linkLine_76 (by decide) rfl (by decide) ?_
  refine PW.goto (tgt := 14) C dX10_linkLine_79 (by decide) ?_
  exact PW.wk (wk_s (wk_s (wk_s (wk_s (wk_s wk_0))))) (hkb _ _ hw)
def w_X10_linkLine_49 (Q : PH → Prop) (kb : Int32 → PH → Prop) (x1 : Int32) (x2 : Int32) (x3 : Int32) (x4 : Int32) (h : PH) : Prop :=
  vp_in x4 18 ∧ if (gI h 4 (iN x4)) = x3 then (vp_in x4 18 ∧ if (gI h 5 (iN x4)) = x2 then (w_X10_linkLine_71 Q kb x1 x2 x3 x4 h) else (kb (x4 + 1) h)) else (kb (x4 + 1) h)
set_option maxRecDepth 8000 in
theorem b_X10_linkLine_49 {D : va_G} {ca : Nat → ClassId} {ad : Nat → Nat} {K : Kt} {kb : Int32 → PH → Prop} {Q : PH → Prop} {x1 : Int32} {x2 : Int32} {x3 : Int32} {x4 : Int32} {h : PH} (C : CX (GM D ca ad) (XS (GM D ca ad)) cX10_linkLine RX10 5 none 9 K) (hkb : ∀ (x4 : Int32) (h : PH), kb x4 h → PW (GM D ca ad) K 5 (qV Q) h 14 [some (.ref 0), some (.int x1), some (.int x2), some (.int x3), some (.int x4)] []) (hw : w_X10_linkLine_49 Q kb x1 x2 x3 x4 h) : PW (GM D ca ad) K 5 (qV Q) h 49 [some (.ref 0), some (.int x1), some (.int x2), some (.int x3), some (.int x4)] [] := by
  unfold w_X10_linkLine_49 at hw
  refine PW.ald0n C dX10_linkLine_49 ?_
  refine PW.get0 (v := .ref 4) C cf_10 fl_X10_19 (by decide) oM_0 (fvR (o := 4) rfl) dX10_linkLine_50 ?_
  refine PW.ild4 C dX10_linkLine_53 ?_
  obtain ⟨hc6, hw⟩ := hw
  refine PW.iald C dX10_linkLine_55 aM_4 hc6 ?_
  refine PW.ild3n C dX10_linkLine_56 ?_
  refine PW.icmp_ne (tgt := 76) C dX10_linkLine_57 (by decide) (fun c => ?_) (fun c => ?_)
  · rw [if_neg c] at hw
    refine PW.inc4 (v := 1) C dX10_linkLine_76 (by decide) rfl (by decide) ?_
    refine PW.goto (tgt := 14) C dX10_linkLine_79 (by decide) ?_
    exact PW.wk (wk_s (wk_s (wk_s (wk_s (wk_s wk_0))))) (hkb _ _ hw)
  · rw [if_pos c] at hw
    refine PW.ald0n C dX10_linkLine_60 ?_
    refine PW.get0 (v := .ref 5) C cf_10 fl_X10_22 (by decide) oM_0 (fvR (o := 5) rfl) dX10_linkLine_61 ?_
    refine PW.ild4 C dX10_linkLine_64 ?_
    obtain ⟨hc7, hw⟩ := hw
    refine PW.iald C dX10_linkLine_66 aM_5 hc7 ?_
    refine PW.ild2n C dX10_linkLine_67 ?_
    refine PW.icmp_ne (tgt := 76) C dX10_linkLine_68 (by decide) (fun c => ?_) (fun c => ?_)
    · rw [if_neg c] at hw
      refine PW.inc4 (v := 1) C dX10_linkLine_76 (by decide) rfl (by decide) ?_
      refine PW.goto (tgt := 14) C dX10_linkLine_79 (by decide) ?_
      exact PW.wk (wk_s (wk_s (wk_s (wk_s (wk_s wk_0))))) (hkb _ _ hw)
    · rw [if_pos c] at hw
      exact PW.wk (wk_s (wk_s (wk_s (wk_s (wk_s wk_0))))) (b_X10_linkLine_71 C hkb hw)
def w_X10_linkLine_14 (k82 : PH → Prop) (Q : PH → Prop) (x1 : Int32) (x2 : Int32) (x3 : Int32) (kb : Int32 → PH → Prop) (x4 : Int32) (h : PH) : Prop :=
  if x1 ≤ x4 then (k82 h) else (if (gI h 0 40) = 0 then (vp_in x4 18 ∧ if (gI h 4 (iN x4)) = x2 then (vp_in x4 18 ∧ if (gI h 5 (iN x4)) = x3 then (w_X10_linkLine_71 Q kb x1 x2 x3 x4 h) else (w_X10_linkLine_49 Q kb x1 x2 x3 x4 h)) else (w_X10_linkLine_49 Q kb x1 x2 x3 x4 h)) else (k82 h))
set_option maxRecDepth 8000 in
theorem b_X10_linkLine_14 {D : va_G} {ca : Nat → ClassId} {ad : Nat → Nat} {K : Kt} {k82 : PH → Prop} {kb : Int32 → PH → Prop} {Q : PH → Prop} {x1 : Int32} {x2 : Int32} {x3 : Int32} {x4 : Int32} {h : PH} (C : CX (GM D ca ad) (XS (GM D ca ad)) cX10_linkLine RX10 5 none 9 K) (hk82 : ∀ (h : PH), k82 h → PW (GM D ca ad) K 5 (qV Q) h 82 [some (.ref 0), some (.int x1), some (.int x2), some (.int x3), none] []) (hkb : ∀ (x4 : Int32) (h : PH), kb x4 h → PW (GM D ca ad) K 5 (qV Q) h 14 [some (.ref 0), some (.int x1), some (.int x2), some (.int x3), some (.int x4)] []) (hw : w_X10_linkLine_14 k82 Q x1 x2 x3 kb x4 h) : PW (GM D ca ad) K 5 (qV Q) h 14 [some (.ref 0), some (.int x1), some (.int x2), some (.int x3), some (.int x4)] [] := by
  unfold w_X10_linkLine_14 at hw
  refine PW.ild4 C dX10_linkLine_14 ?_
  refine PW.ild1n C dX10_linkLine_16 ?_
  refine PW.icmp_ge (tgt := 82) C dX10_linkLine_17 (by decide) (fun c => ?_) (fun c => ?_)
  · rw [if_pos c] at hw
    exact PW.wk (wk_s (wk_s (wk_s (wk_s (wk_n wk_0))))) (hk82 _ hw)
  · rw [if_neg c] at hw
    refine PW.ald0n C dX10_linkLine_20 ?_
    refine PW.get0 C cf_10 fl_X10_289 (by decide) oM_0 (fvI rfl) dX10_linkLine_21 ?_
    refine PW.if_ne (tgt := 82) C dX10_linkLine_24 (by decide) (fun c => ?_) (fun c => ?_)
    · rw [if_neg c] at hw
      exact PW.wk (wk_s (wk_s (wk_s (wk_s (wk_n wk_0))))) (hk82 _ hw)
    · rw [if_pos c] at hw
      refine PW.ald0n C dX10_linkLine_27 ?_
      refine PW.get0 (v := .ref 4) C cf_10 fl_X10_19 (by decide) oM_0 (fvR (o := 4) rfl) dX10_linkLine_28 ?_
      refine PW.ild4 C dX10_linkLine_31 ?_
      obtain ⟨hc5, hw⟩ := hw
      refine PW.iald C dX10_linkLine_33 aM_4 hc5 ?_
      refine PW.ild2n C dX10_linkLine_34 ?_
      refine PW.icmp_ne (tgt := 49) C dX10_linkLine_35 (by decide) (fun c => ?_) (fun c => ?_)
      · rw [if_neg c] at hw
        exact PW.wk (wk_s (wk_s (wk_s (wk_s (wk_s wk_0))))) (b_X10_linkLine_49 C hkb hw)
      · rw [if_pos c] at hw
        refine PW.ald0n C dX10_linkLine_38 ?_
        refine PW.get0 (v := .ref 5) C cf_10 fl_X10_22 (by decide) oM_0 (fvR (o := 5) rfl) dX10_linkLine_39 ?_
        refine PW.ild4 C dX10_linkLine_42 ?_
        obtain ⟨hc9, hw⟩ := hw
        refine PW.iald C dX10_linkLine_44 aM_5 hc9 ?_
        refine PW.ild3n C dX10_linkLine_45 ?_
        refine PW.icmp_eq (tgt := 71) C dX10_linkLine_46 (by decide) (fun c => ?_) (fun c => ?_)
        · rw [if_pos c] at hw
          exact PW.wk (wk_s (wk_s (wk_s (wk_s (wk_s wk_0))))) (b_X10_linkLine_71 C hkb hw)
        · rw [if_neg c] at hw
          exact PW.wk (wk_s (wk_s (wk_s (wk_s (wk_s wk_0))))) (b_X10_linkLine_49 C hkb hw)
theorem l_X10_linkLine_14 {D : va_G} {ca : Nat → ClassId} {ad : Nat → Nat} {K : Kt} {k82 : PH → Prop} {Q : PH → Prop} {x1 : Int32} {x2 : Int32} {x3 : Int32} (C : CX (GM D ca ad) (XS (GM D ca ad)) cX10_linkLine RX10 5 none 9 K) (hk82 : ∀ (h : PH), k82 h → PW (GM D ca ad) K 5 (qV Q) h 82 [some (.ref 0), some (.int x1), some (.int x2), some (.int x3), none] []) : ∀ (n : Nat) (x4 : Int32) (h : PH), Lp1 (w_X10_linkLine_14 k82 Q x1 x2 x3) n x4 h → PW (GM D ca ad) K 5 (qV Q) h 14 [some (.ref 0), some (.int x1), some (.int x2), some (.int x3), some (.int x4)] [] := by
  intro n
  induction n with
  | zero => intro x4 h hw; exact hw.elim
  | succ n ih => intro x4 h hw; exact b_X10_linkLine_14 C hk82 (fun x4 h hw => ih x4 h hw) hw
def w_X10_linkLine_99 (Q : PH → Prop) (x1 : Int32) (x2 : Int32) (x3 : Int32) (h : PH) : Prop :=
  w_X10_goOn h (fun h11 => vp_in x1 18 ∧ ∀ h13, h13 = sI h11 4 (iN x1) x2 → vp_in x1 18 ∧ ∀ h15, h15 = sI h13 5 (iN x1) x3 → w_X10_numeral 1 9 h15 (fun z17 h16 => vp_in x1 18 ∧ ∀ h19, h19 = sI h16 6 (iN x1) z17 → w_X10_fresher 1 h19 (fun z21 h20 => w_X10_reads 1 (z21 + 1) h20 (fun h22 => Q h22))))
set_option maxRecDepth 8000 in
theorem b_X10_linkLine_99 {D : va_G} {ca : Nat → ClassId} {ad : Nat → Nat} {K : Kt} {Q : PH → Prop} {x1 : Int32} {x2 : Int32} {x3 : Int32} {h : PH} (C : CX (GM D ca ad) (XS (GM D ca ad)) cX10_linkLine RX10 5 none 9 K) (hw : w_X10_linkLine_99 Q x1 x2 x3 h) : PW (GM D ca ad) K 5 (qV Q) h 99 [some (.ref 0), some (.int x1), some (.int x2), some (.int x3), none] [] := by
  unfold w_X10_linkLine_99 at hw
  refine PW.ald0n C dX10_linkLine_99 ?_
  refine PW.callVV0 C ms_X10_goOn ml_X10_316 dX10_linkLine_100 oM_0 ⟨_, _, rfl⟩ (Nat.le_of_ble_eq_true rfl) (by decide) (Nat.le_of_ble_eq_true rfl) (s_X10_goOn hw) ?_
  clear hw
  intro h11 hw
  refine PW.ald0n C dX10_linkLine_103 ?_
  refine PW.get0 (v := .ref 4) C cf_10 fl_X10_19 (by decide) oM_0 (fvR (o := 4) rfl) dX10_linkLine_104 ?_
  refine PW.ild1n C dX10_linkLine_107 ?_
  refine PW.ild2n C dX10_linkLine_108 ?_
  obtain ⟨hc12, hw⟩ := hw
  replace hw := hw _ rfl
  refine PW.iast C dX10_linkLine_109 aM_4 hc12 ?_
  refine PW.ald0n C dX10_linkLine_110 ?_
  refine PW.get0 (v := .ref 5) C cf_10 fl_X10_22 (by decide) oM_0 (fvR (o := 5) rfl) dX10_linkLine_111 ?_
  refine PW.ild1n C dX10_linkLine_114 ?_
  refine PW.ild3n C dX10_linkLine_115 ?_
  obtain ⟨hc14, hw⟩ := hw
  replace hw := hw _ rfl
  refine PW.iast C dX10_linkLine_116 aM_5 hc14 ?_
  refine PW.ald0n C dX10_linkLine_117 ?_
  refine PW.get0 (v := .ref 6) C cf_10 fl_X10_25 (by decide) oM_0 (fvR (o := 6) rfl) dX10_linkLine_118 ?_
  refine PW.ild1n C dX10_linkLine_121 ?_
  refine PW.ald0n C dX10_linkLine_122 ?_
  refine PW.iconst (v := 1) C dX10_linkLine_123 (by decide) ?_
  refine PW.bipush (v := 9) C dX10_linkLine_124 (by decide) ?_
  refine PW.callVI2 C ms_X10_numeral ml_X10_338 dX10_linkLine_126 oM_0 ⟨_, _, rfl⟩ (Nat.le_of_ble_eq_true rfl) (by decide) (Nat.le_of_ble_eq_true rfl) (s_X10_numeral hw) ?_
  clear hw
  intro z17 h16 hw
  obtain ⟨hc18, hw⟩ := hw
  replace hw := hw _ rfl
  refine PW.iast C dX10_linkLine_129 aM_6 hc18 ?_
  refine PW.ald0n C dX10_linkLine_130 ?_
  refine PW.iconst (v := 1) C dX10_linkLine_131 (by decide) ?_
  refine PW.ald0n C dX10_linkLine_132 ?_
  refine PW.iconst (v := 1) C dX10_linkLine_133 (by decide) ?_
  refine PW.callVI1 C ms_X10_fresher ml_X10_305 dX10_linkLine_134 oM_0 ⟨_, _, rfl⟩ (Nat.le_of_ble_eq_true rfl) (by decide) (Nat.le_of_ble_eq_true rfl) (s_X10_fresher hw) ?_
  clear hw
  intro z21 h20 hw
  refine PW.iconst (v := 1) C dX10_linkLine_137 (by decide) ?_
  refine PW.iadd C dX10_linkLine_138 ?_
  refine PW.callVV2 C ms_X10_reads ml_X10_331 dX10_linkLine_139 oM_0 ⟨_, _, rfl⟩ (Nat.le_of_ble_eq_true rfl) (by decide) (Nat.le_of_ble_eq_true rfl) (s_X10_reads hw) ?_
  clear hw
  intro h22 hw
  exact PW.vret C dX10_linkLine_142 ⟨rfl, hw⟩
def w_X10_linkLine_82 (Q : PH → Prop) (x1 : Int32) (x2 : Int32) (x3 : Int32) (h : PH) : Prop :=
  if (gI h 0 40) = 0 then (if x2 = x3 then (w_X10_wrong 5 h (fun h23 => w_X10_linkLine_99 Q x1 x2 x3 h23)) else (w_X10_linkLine_99 Q x1 x2 x3 h)) else (w_X10_linkLine_99 Q x1 x2 x3 h)
set_option maxRecDepth 8000 in
theorem b_X10_linkLine_82 {D : va_G} {ca : Nat → ClassId} {ad : Nat → Nat} {K : Kt} {Q : PH → Prop} {x1 : Int32} {x2 : Int32} {x3 : Int32} {h : PH} (C : CX (GM D ca ad) (XS (GM D ca ad)) cX10_linkLine RX10 5 none 9 K) (hw : w_X10_linkLine_82 Q x1 x2 x3 h) : PW (GM D ca ad) K 5 (qV Q) h 82 [some (.ref 0), some (.int x1), some (.int x2), some (.int x3), none] [] := by
  unfold w_X10_linkLine_82 at hw
  refine PW.ald0n C dX10_linkLine_82 ?_
  refine PW.get0 C cf_10 fl_X10_289 (by decide) oM_0 (fvI rfl) dX10_linkLine_83 ?_
  refine PW.if_ne (tgt := 99) C dX10_linkLine_86 (by decide) (fun c => ?_) (fun c => ?_)
  · rw [if_neg c] at hw
    exact PW.wk (wk_s (wk_s (wk_s (wk_s (wk_n wk_0))))) (b_X10_linkLine_99 C hw)
  · rw [if_pos c] at hw
    refine PW.ild2n C dX10_linkLine_89 ?_
    refine PW.ild3n C dX10_linkLine_90 ?_
    refine PW.icmp_ne (tgt := 99) C dX10_linkLine_91 (by decide) (fun c => ?_) (fun c => ?_)
    · rw [if_neg c] at hw
      exact PW.wk (wk_s (wk_s (wk_s (wk_s (wk_n wk_0))))) (b_X10_linkLine_99 C hw)
    · rw [if_pos c] at hw
      refine PW.ald0n C dX10_linkLine_94 ?_
      refine PW.iconst (v := 5) C dX10_linkLine_95 (by decide) ?_
      refine PW.callVV1 C ms_X10_wrong ml_X10_298 dX10_linkLine_96 oM_0 ⟨_, _, rfl⟩ (Nat.le_of_ble_eq_true rfl) (by decide) (Nat.le_of_ble_eq_true rfl) (s_X10_wrong hw) ?_
      clear hw
      intro h23 hw
      exact PW.wk (wk_s (wk_s (wk_s (wk_s (wk_n wk_0))))) (b_X10_linkLine_99 C hw)
def w_X10_linkLine (x1 : Int32) (h : PH) (Q : PH → Prop) : Prop :=
  w_X10_placeAhead h (fun z2 h1 => w_X10_placeAtHand h1 (fun z4 h3 => ∃ n, Lp1 (w_X10_linkLine_14 (fun h10 => w_X10_linkLine_82 Q x1 z2 z4 h10) Q x1 z2 z4) n 9 h3))
set_option maxRecDepth 8000 in
theorem s_X10_linkLine {D : va_G} {ca : Nat → ClassId} {ad : Nat → Nat} {l : Launch} {x1 : Int32} {h : PH} {Q : PH → Prop} (hw : w_X10_linkLine x1 h Q) : Sp (GM D ca ad) (XS (GM D ca ad)) l 9 yX10_linkLine cX10_linkLine 5 none [.ref 0, .int x1] h (qV Q) := by
  refine Sp.of (own := RX10) [some (.ref 0), some (.int x1), none, none, none] (by decide +kernel) rfl rfl (Nat.le_of_ble_eq_true rfl) (fun K hl C => ?_)
  subst hl
  unfold w_X10_linkLine at hw
  refine PW.ald0n C dX10_linkLine_0 ?_
  refine PW.callVI0 C ms_X10_placeAhead ml_X10_351 dX10_linkLine_1 oM_0 ⟨_, _, rfl⟩ (Nat.le_of_ble_eq_true rfl) (by decide) (Nat.le_of_ble_eq_true rfl) (s_X10_placeAhead hw) ?_
  clear hw
  intro z2 h1 hw
  refine PW.ist2n C dX10_linkLine_4 (by decide) rfl ?_
  refine PW.ald0n C dX10_linkLine_5 ?_
  refine PW.callVI0 C ms_X10_placeAtHand ml_X10_313 dX10_linkLine_6 oM_0 ⟨_, _, rfl⟩ (Nat.le_of_ble_eq_true rfl) (by decide) (Nat.le_of_ble_eq_true rfl) (s_X10_placeAtHand hw) ?_
  clear hw
  intro z4 h3 hw
  refine PW.ist3n C dX10_linkLine_9 (by decide) rfl ?_
  refine PW.bipush (v := 9) C dX10_linkLine_10 (by decide) ?_
  refine PW.ist4 C dX10_linkLine_12 (by decide) rfl ?_
  obtain ⟨n, hw⟩ := hw
  refine PW.wk (wk_s (wk_s (wk_s (wk_s (wk_s wk_0))))) (l_X10_linkLine_14 C ?_ n _ _ hw)
  · intro h10 hw
    exact PW.wk (wk_s (wk_s (wk_s (wk_s (wk_n wk_0))))) (b_X10_linkLine_82 C hw)
def w_X10_heirLine_54 (Q : PH → Prop) (x1 : Int32) (x2 : Int32) (h : PH) : Prop :=
  if (gI h 0 40) = 0 then (vp_in (4 + x1) 8 ∧ ∀ h7, h7 = sI h 9 (iN (4 + x1)) (x2 + 1) → w_X10_token h7 (fun h8 => Q h8)) else (Q h)
set_option maxRecDepth 8000 in
theorem b_X10_heirLine_54 {D : va_G} {ca : Nat → ClassId} {ad : Nat → Nat} {K : Kt} {Q : PH → Prop} {x1 : Int32} {x2 : Int32} {h : PH} (C : CX (GM D ca ad) (XS (GM D ca ad)) cX10_heirLine RX10 3 none 8 K) (hw : w_X10_heirLine_54 Q x1 x2 h) : PW (GM D ca ad) K 3 (qV Q) h 54 [some (.ref 0), some (.int x1), some (.int x2)] [] := by
  unfold w_X10_heirLine_54 at hw
  refine PW.ald0n C dX10_heirLine_54 ?_
  refine PW.get0 C cf_10 fl_X10_289 (by decide) oM_0 (fvI rfl) dX10_heirLine_55 ?_
  refine PW.if_eq (tgt := 62) C dX10_heirLine_58 (by decide) (fun c => ?_) (fun c => ?_)
  · rw [if_pos c] at hw
    refine PW.ald0n C dX10_heirLine_62 ?_
    refine PW.get0 (v := .ref 9) C cf_10 fl_X10_34 (by decide) oM_0 (fvR (o := 9) rfl) dX10_heirLine_63 ?_
    refine PW.iconst (v := 4) C dX10_heirLine_66 (by decide) ?_
    refine PW.ild1n C dX10_heirLine_67 ?_
    refine PW.iadd C dX10_heirLine_68 ?_
    refine PW.ild2n C dX10_heirLine_69 ?_
    refine PW.iconst (v := 1) C dX10_heirLine_70 (by decide) ?_
    refine PW.iadd C dX10_heirLine_71 ?_
    obtain ⟨hc6, hw⟩ := hw
    replace hw := hw _ rfl
    refine PW.iast C dX10_heirLine_72 aM_9 hc6 ?_
    refine PW.ald0n C dX10_heirLine_73 ?_
    refine PW.callVV0 C ms_X10_token ml_X10_295 dX10_heirLine_74 oM_0 ⟨_, _, rfl⟩ (Nat.le_of_ble_eq_true rfl) (by decide) (Nat.le_of_ble_eq_true rfl) (s_X10_token hw) ?_
    clear hw
    intro h8 hw
    exact PW.vret C dX10_heirLine_77 ⟨rfl, hw⟩
  · rw [if_neg c] at hw
    exact PW.vret C dX10_heirLine_61 ⟨rfl, hw⟩
def w_X10_heirLine_28 (Q : PH → Prop) (x1 : Int32) (h : PH) : Prop :=
  w_X10_goOn h (fun h3 => w_X10_ownerAtHand h3 (fun z5 h4 => if (gI h4 0 40) = 0 then (if x1 = z5 then (w_X10_wrong 5 h4 (fun h9 => w_X10_heirLine_54 Q x1 z5 h9)) else (w_X10_heirLine_54 Q x1 z5 h4)) else (w_X10_heirLine_54 Q x1 z5 h4)))
set_option maxRecDepth 8000 in
theorem b_X10_heirLine_28 {D : va_G} {ca : Nat → ClassId} {ad : Nat → Nat} {K : Kt} {Q : PH → Prop} {x1 : Int32} {h : PH} (C : CX (GM D ca ad) (XS (GM D ca ad)) cX10_heirLine RX10 3 none 8 K) (hw : w_X10_heirLine_28 Q x1 h) : PW (GM D ca ad) K 3 (qV Q) h 28 [some (.ref 0), some (.int x1), none] [] := by
  unfold w_X10_heirLine_28 at hw
  refine PW.ald0n C dX10_heirLine_28 ?_
  refine PW.callVV0 C ms_X10_goOn ml_X10_316 dX10_heirLine_29 oM_0 ⟨_, _, rfl⟩ (Nat.le_of_ble_eq_true rfl) (by decide) (Nat.le_of_ble_eq_true rfl) (s_X10_goOn hw) ?_
  clear hw
  intro h3 hw
  refine PW.ald0n C dX10_heirLine_32 ?_
  refine PW.callVI0 C ms_X10_ownerAtHand ml_X10_319 dX10_heirLine_33 oM_0 ⟨_, _, rfl⟩ (Nat.le_of_ble_eq_true rfl) (by decide) (Nat.le_of_ble_eq_true rfl) (s_X10_ownerAtHand hw) ?_
  clear hw
  intro z5 h4 hw
  refine PW.ist2n C dX10_heirLine_36 (by decide) rfl ?_
  refine PW.ald0n C dX10_heirLine_37 ?_
  refine PW.get0 C cf_10 fl_X10_289 (by decide) oM_0 (fvI rfl) dX10_heirLine_38 ?_
  refine PW.if_ne (tgt := 54) C dX10_heirLine_41 (by decide) (fun c => ?_) (fun c => ?_)
  · rw [if_neg c] at hw
    exact PW.wk (wk_s (wk_s (wk_s wk_0))) (b_X10_heirLine_54 C hw)
  · rw [if_pos c] at hw
    refine PW.ild1n C dX10_heirLine_44 ?_
    refine PW.ild2n C dX10_heirLine_45 ?_
    refine PW.icmp_ne (tgt := 54) C dX10_heirLine_46 (by decide) (fun c => ?_) (fun c => ?_)
    · rw [if_neg c] at hw
      exact PW.wk (wk_s (wk_s (wk_s wk_0))) (b_X10_heirLine_54 C hw)
    · rw [if_pos c] at hw
      refine PW.ald0n C dX10_heirLine_49 ?_
      refine PW.iconst (v := 5) C dX10_heirLine_50 (by decide) ?_
      refine PW.callVV1 C ms_X10_wrong ml_X10_298 dX10_heirLine_51 oM_0 ⟨_, _, rfl⟩ (Nat.le_of_ble_eq_true rfl) (by decide) (Nat.le_of_ble_eq_true rfl) (s_X10_wrong hw) ?_
      clear hw
      intro h9 hw
      exact PW.wk (wk_s (wk_s (wk_s wk_0))) (b_X10_heirLine_54 C hw)
def w_X10_heirLine (h : PH) (Q : PH → Prop) : Prop :=
  w_X10_ownerAtHand h (fun z2 h1 => if (gI h1 0 40) = 0 then (vp_in (4 + z2) 8 ∧ if (gI h1 9 (iN (4 + z2))) ≤ 0 then (w_X10_heirLine_28 Q z2 h1) else (w_X10_wrong 3 h1 (fun h11 => w_X10_heirLine_28 Q z2 h11))) else (w_X10_heirLine_28 Q z2 h1))
set_option maxRecDepth 8000 in
theorem s_X10_heirLine {D : va_G} {ca : Nat → ClassId} {ad : Nat → Nat} {l : Launch} {h : PH} {Q : PH → Prop} (hw : w_X10_heirLine h Q) : Sp (GM D ca ad) (XS (GM D ca ad)) l 8 yX10_heirLine cX10_heirLine 3 none [.ref 0] h (qV Q) := by
  refine Sp.of (own := RX10) [some (.ref 0), none, none] (by decide +kernel) rfl rfl (Nat.le_of_ble_eq_true rfl) (fun K hl C => ?_)
  subst hl
  unfold w_X10_heirLine at hw
  refine PW.ald0n C dX10_heirLine_0 ?_
  refine PW.callVI0 C ms_X10_ownerAtHand ml_X10_319 dX10_heirLine_1 oM_0 ⟨_, _, rfl⟩ (Nat.le_of_ble_eq_true rfl) (by decide) (Nat.le_of_ble_eq_true rfl) (s_X10_ownerAtHand hw) ?_
  clear hw
  intro z2 h1 hw
  refine PW.ist1n C dX10_heirLine_4 (by decide) rfl ?_
  refine PW.ald0n C dX10_heirLine_5 ?_
  refine PW.get0 C cf_10 fl_X10_289 (by decide) oM_0 (fvI rfl) dX10_heirLine_6 ?_
  refine PW.if_ne (tgt := 28) C dX10_heirLine_9 (by decide) (fun c => ?_) (fun c => ?_)
  · rw [if_neg c] at hw
    exact PW.wk (wk_s (wk_s (wk_n wk_0))) (b_X10_heirLine_28 C hw)
  · rw [if_pos c] at hw
    refine PW.ald0n C dX10_heirLine_12 ?_
    refine PW.get0 (v := .ref 9) C cf_10 fl_X10_34 (by decide) oM_0 (fvR (o := 9) rfl) dX10_heirLine_13 ?_
    refine PW.iconst (v := 4) C dX10_heirLine_16 (by decide) ?_
    refine PW.ild1n C dX10_heirLine_17 ?_
    refine PW.iadd C dX10_heirLine_18 ?_
    obtain ⟨hc10, hw⟩ := hw
    refine PW.iald C dX10_heirLine_19 aM_9 hc10 ?_
    refine PW.if_le (tgt := 28) C dX10_heirLine_20 (by decide) (fun c => ?_) (fun c => ?_)
    · rw [if_pos c] at hw
      exact PW.wk (wk_s (wk_s (wk_n wk_0))) (b_X10_heirLine_28 C hw)
    · rw [if_neg c] at hw
      refine PW.ald0n C dX10_heirLine_23 ?_
      refine PW.iconst (v := 3) C dX10_heirLine_24 (by decide) ?_
      refine PW.callVV1 C ms_X10_wrong ml_X10_298 dX10_heirLine_25 oM_0 ⟨_, _, rfl⟩ (Nat.le_of_ble_eq_true rfl) (by decide) (Nat.le_of_ble_eq_true rfl) (s_X10_wrong hw) ?_
      clear hw
      intro h11 hw
      exact PW.wk (wk_s (wk_s (wk_n wk_0))) (b_X10_heirLine_28 C hw)
def w_X10_noiseLine (x1 : Int32) (h : PH) (Q : PH → Prop) : Prop :=
  w_X10_placeAhead h (fun z2 h1 => vp_in x1 16 ∧ ∀ h4, h4 = sI h1 10 (iN x1) z2 → w_X10_ownerAhead h4 (fun z6 h5 => vp_in x1 16 ∧ ∀ h8, h8 = sI h5 11 (iN x1) z6 → w_X10_numeral 0 47 h8 (fun z10 h9 => vp_in x1 16 ∧ ∀ h12, h12 = sI h9 12 (iN x1) z10 → vp_in x1 16 ∧ w_X10_numeral (gI h12 12 (iN x1)) 47 h12 (fun z15 h14 => vp_in x1 16 ∧ ∀ h17, h17 = sI h14 13 (iN x1) z15 → w_X10_numeral 1 20 h17 (fun z19 h18 => vp_in x1 16 ∧ ∀ h21, h21 = sI h18 14 (iN x1) z19 → w_X10_fresher 3 h21 (fun z23 h22 => w_X10_reads 3 (z23 + 1) h22 (fun h24 => Q h24)))))))
set_option maxRecDepth 8000 in
theorem s_X10_noiseLine {D : va_G} {ca : Nat → ClassId} {ad : Nat → Nat} {l : Launch} {x1 : Int32} {h : PH} {Q : PH → Prop} (hw : w_X10_noiseLine x1 h Q) : Sp (GM D ca ad) (XS (GM D ca ad)) l 9 yX10_noiseLine cX10_noiseLine 2 none [.ref 0, .int x1] h (qV Q) := by
  refine Sp.of (own := RX10) [some (.ref 0), some (.int x1)] (by decide +kernel) rfl rfl (Nat.le_of_ble_eq_true rfl) (fun K hl C => ?_)
  subst hl
  unfold w_X10_noiseLine at hw
  refine PW.ald0n C dX10_noiseLine_0 ?_
  refine PW.get0 (v := .ref 10) C cf_10 fl_X10_37 (by decide) oM_0 (fvR (o := 10) rfl) dX10_noiseLine_1 ?_
  refine PW.ild1n C dX10_noiseLine_4 ?_
  refine PW.ald0n C dX10_noiseLine_5 ?_
  refine PW.callVI0 C ms_X10_placeAhead ml_X10_351 dX10_noiseLine_6 oM_0 ⟨_, _, rfl⟩ (Nat.le_of_ble_eq_true rfl) (by decide) (Nat.le_of_ble_eq_true rfl) (s_X10_placeAhead hw) ?_
  clear hw
  intro z2 h1 hw
  obtain ⟨hc3, hw⟩ := hw
  replace hw := hw _ rfl
  refine PW.iast C dX10_noiseLine_9 aM_10 hc3 ?_
  refine PW.ald0n C dX10_noiseLine_10 ?_
  refine PW.get0 (v := .ref 11) C cf_10 fl_X10_40 (by decide) oM_0 (fvR (o := 11) rfl) dX10_noiseLine_11 ?_
  refine PW.ild1n C dX10_noiseLine_14 ?_
  refine PW.ald0n C dX10_noiseLine_15 ?_
  refine PW.callVI0 C ms_X10_ownerAhead ml_X10_348 dX10_noiseLine_16 oM_0 ⟨_, _, rfl⟩ (Nat.le_of_ble_eq_true rfl) (by decide) (Nat.le_of_ble_eq_true rfl) (s_X10_ownerAhead hw) ?_
  clear hw
  intro z6 h5 hw
  obtain ⟨hc7, hw⟩ := hw
  replace hw := hw _ rfl
  refine PW.iast C dX10_noiseLine_19 aM_11 hc7 ?_
  refine PW.ald0n C dX10_noiseLine_20 ?_
  refine PW.get0 (v := .ref 12) C cf_10 fl_X10_43 (by decide) oM_0 (fvR (o := 12) rfl) dX10_noiseLine_21 ?_
  refine PW.ild1n C dX10_noiseLine_24 ?_
  refine PW.ald0n C dX10_noiseLine_25 ?_
  refine PW.iconst (v := 0) C dX10_noiseLine_26 (by decide) ?_
  refine PW.bipush (v := 47) C dX10_noiseLine_27 (by decide) ?_
  refine PW.callVI2 C ms_X10_numeral ml_X10_338 dX10_noiseLine_29 oM_0 ⟨_, _, rfl⟩ (Nat.le_of_ble_eq_true rfl) (by decide) (Nat.le_of_ble_eq_true rfl) (s_X10_numeral hw) ?_
  clear hw
  intro z10 h9 hw
  obtain ⟨hc11, hw⟩ := hw
  replace hw := hw _ rfl
  refine PW.iast C dX10_noiseLine_32 aM_12 hc11 ?_
  refine PW.ald0n C dX10_noiseLine_33 ?_
  refine PW.get0 (v := .ref 13) C cf_10 fl_X10_46 (by decide) oM_0 (fvR (o := 13) rfl) dX10_noiseLine_34 ?_
  refine PW.ild1n C dX10_noiseLine_37 ?_
  refine PW.ald0n C dX10_noiseLine_38 ?_
  refine PW.ald0n C dX10_noiseLine_39 ?_
  refine PW.get0 (v := .ref 12) C cf_10 fl_X10_43 (by decide) oM_0 (fvR (o := 12) rfl) dX10_noiseLine_40 ?_
  refine PW.ild1n C dX10_noiseLine_43 ?_
  obtain ⟨hc13, hw⟩ := hw
  refine PW.iald C dX10_noiseLine_44 aM_12 hc13 ?_
  refine PW.bipush (v := 47) C dX10_noiseLine_45 (by decide) ?_
  refine PW.callVI2 C ms_X10_numeral ml_X10_338 dX10_noiseLine_47 oM_0 ⟨_, _, rfl⟩ (Nat.le_of_ble_eq_true rfl) (by decide) (Nat.le_of_ble_eq_true rfl) (s_X10_numeral hw) ?_
  clear hw
  intro z15 h14 hw
  obtain ⟨hc16, hw⟩ := hw
  replace hw := hw _ rfl
  refine PW.iast C dX10_noiseLine_50 aM_13 hc16 ?_
  refine PW.ald0n C dX10_noiseLine_51 ?_
  refine PW.get0 (v := .ref 14) C cf_10 fl_X10_49 (by decide) oM_0 (fvR (o := 14) rfl) dX10_noiseLine_52 ?_
  refine PW.ild1n C dX10_noiseLine_55 ?_
  refine PW.ald0n C dX10_noiseLine_56 ?_
  refine PW.iconst (v := 1) C dX10_noiseLine_57 (by decide) ?_
  refine PW.bipush (v := 20) C dX10_noiseLine_58 (by decide) ?_
  refine PW.callVI2 C ms_X10_numeral ml_X10_338 dX10_noiseLine_60 oM_0 ⟨_, _, rfl⟩ (Nat.le_of_ble_eq_true rfl) (by decide) (Nat.le_of_ble_eq_true rfl) (s_X10_numeral hw) ?_
  clear hw
  intro z19 h18 hw
  obtain ⟨hc20, hw⟩ := hw
  replace hw := hw _ rfl
  refine PW.iast C dX10_noiseLine_63 aM_14 hc20 ?_
  refine PW.ald0n C dX10_noiseLine_64 ?_
  refine PW.iconst (v := 3) C dX10_noiseLine_65 (by decide) ?_
  refine PW.ald0n C dX10_noiseLine_66 ?_
  refine PW.iconst (v := 3) C dX10_noiseLine_67 (by decide) ?_
  refine PW.callVI1 C ms_X10_fresher ml_X10_305 dX10_noiseLine_68 oM_0 ⟨_, _, rfl⟩ (Nat.le_of_ble_eq_true rfl) (by decide) (Nat.le_of_ble_eq_true rfl) (s_X10_fresher hw) ?_
  clear hw
  intro z23 h22 hw
  refine PW.iconst (v := 1) C dX10_noiseLine_71 (by decide) ?_
  refine PW.iadd C dX10_noiseLine_72 ?_
  refine PW.callVV2 C ms_X10_reads ml_X10_331 dX10_noiseLine_73 oM_0 ⟨_, _, rfl⟩ (Nat.le_of_ble_eq_true rfl) (by decide) (Nat.le_of_ble_eq_true rfl) (s_X10_reads hw) ?_
  clear hw
  intro h24 hw
  exact PW.vret C dX10_noiseLine_76 ⟨rfl, hw⟩
def w_X10_knot (h : PH) (Q : PH → Prop) : Prop :=
  if (gI h 0 40) = 0 then (if (gI h 0 45) = 64 then (w_X10_wrong 2 h (fun h2 => Q h2)) else (∀ h1, h1 = sI h 0 45 ((gI h 0 45) + 1) → Q h1)) else (Q h)
set_option maxRecDepth 8000 in
theorem s_X10_knot {D : va_G} {ca : Nat → ClassId} {ad : Nat → Nat} {l : Launch} {h : PH} {Q : PH → Prop} (hw : w_X10_knot h Q) : Sp (GM D ca ad) (XS (GM D ca ad)) l 2 yX10_knot cX10_knot 1 none [.ref 0] h (qV Q) := by
  refine Sp.of (own := RX10) [some (.ref 0)] (by decide +kernel) rfl rfl (Nat.le_of_ble_eq_true rfl) (fun K hl C => ?_)
  subst hl
  unfold w_X10_knot at hw
  refine PW.ald0n C dX10_knot_0 ?_
  refine PW.get0 C cf_10 fl_X10_289 (by decide) oM_0 (fvI rfl) dX10_knot_1 ?_
  refine PW.if_eq (tgt := 8) C dX10_knot_4 (by decide) (fun c => ?_) (fun c => ?_)
  · rw [if_pos c] at hw
    refine PW.ald0n C dX10_knot_8 ?_
    refine PW.get0 C cf_10 fl_X10_366 (by decide) oM_0 (fvI rfl) dX10_knot_9 ?_
    refine PW.bipush (v := 64) C dX10_knot_12 (by decide) ?_
    refine PW.icmp_ne (tgt := 25) C dX10_knot_14 (by decide) (fun c => ?_) (fun c => ?_)
    · rw [if_neg c] at hw
      refine PW.ald0n C dX10_knot_25 ?_
      refine PW.dup C dX10_knot_26 rfl ?_
      refine PW.get0 C cf_10 fl_X10_366 (by decide) oM_0 (fvI rfl) dX10_knot_27 ?_
      refine PW.iconst (v := 1) C dX10_knot_30 (by decide) ?_
      refine PW.iadd C dX10_knot_31 ?_
      replace hw := hw _ rfl
      refine PW.put0 C cf_10 fl_X10_366 (by decide) oM_0 rfl rfl rfl (pw_sI oM_0 (by decide) rfl) dX10_knot_32 ?_
      exact PW.vret C dX10_knot_35 ⟨rfl, hw⟩
    · rw [if_pos c] at hw
      refine PW.ald0n C dX10_knot_17 ?_
      refine PW.iconst (v := 2) C dX10_knot_18 (by decide) ?_
      refine PW.callVV1 C ms_X10_wrong ml_X10_298 dX10_knot_19 oM_0 ⟨_, _, rfl⟩ (Nat.le_of_ble_eq_true rfl) (by decide) (Nat.le_of_ble_eq_true rfl) (s_X10_wrong hw) ?_
      clear hw
      intro h2 hw
      refine PW.goto (tgt := 35) C dX10_knot_22 (by decide) ?_
      exact PW.vret C dX10_knot_35 ⟨rfl, hw⟩
  · rw [if_neg c] at hw
    exact PW.vret C dX10_knot_7 ⟨rfl, hw⟩
def w_X10_puts (x1 : Int32) (x2 : Int32) (h : PH) (Q : PH → Prop) : Prop :=
  if (gI h 0 40) = 0 then (w_X10_fresher 10 h (fun z2 h1 => vp_in (64 + z2) 128 ∧ ∀ h4, h4 = sI h1 30 (iN (64 + z2)) x1 → w_X10_fresher 10 h4 (fun z6 h5 => vp_in (64 + z6) 128 ∧ ∀ h8, h8 = sI h5 31 (iN (64 + z6)) x2 → w_X10_fresher 10 h8 (fun z10 h9 => w_X10_reads 10 (z10 + 1) h9 (fun h11 => Q h11))))) else (Q h)
set_option maxRecDepth 8000 in
theorem s_X10_puts {D : va_G} {ca : Nat → ClassId} {ad : Nat → Nat} {l : Launch} {x1 : Int32} {x2 : Int32} {h : PH} {Q : PH → Prop} (hw : w_X10_puts x1 x2 h Q) : Sp (GM D ca ad) (XS (GM D ca ad)) l 2 yX10_puts cX10_puts 3 none [.ref 0, .int x1, .int x2] h (qV Q) := by
  refine Sp.of (own := RX10) [some (.ref 0), some (.int x1), some (.int x2)] (by decide +kernel) rfl rfl (Nat.le_of_ble_eq_true rfl) (fun K hl C => ?_)
  subst hl
  unfold w_X10_puts at hw
  refine PW.ald0n C dX10_puts_0 ?_
  refine PW.get0 C cf_10 fl_X10_289 (by decide) oM_0 (fvI rfl) dX10_puts_1 ?_
  refine PW.if_eq (tgt := 8) C dX10_puts_4 (by decide) (fun c => ?_) (fun c => ?_)
  · rw [if_pos c] at hw
    refine PW.ald0n C dX10_puts_8 ?_
    refine PW.get0 (v := .ref 30) C cf_10 fl_X10_97 (by decide) oM_0 (fvR (o := 30) rfl) dX10_puts_9 ?_
    refine PW.bipush (v := 64) C dX10_puts_12 (by decide) ?_
    refine PW.ald0n C dX10_puts_14 ?_
    refine PW.bipush (v := 10) C dX10_puts_15 (by decide) ?_
    refine PW.callVI1 C ms_X10_fresher ml_X10_305 dX10_puts_17 oM_0 ⟨_, _, rfl⟩ (Nat.le_of_ble_eq_true rfl) (by decide) (Nat.le_of_ble_eq_true rfl) (s_X10_fresher hw) ?_
    clear hw
    intro z2 h1 hw
    refine PW.iadd C dX10_puts_20 ?_
    refine PW.ild1n C dX10_puts_21 ?_
    obtain ⟨hc3, hw⟩ := hw
    replace hw := hw _ rfl
    refine PW.iast C dX10_puts_22 aM_30 hc3 ?_
    refine PW.ald0n C dX10_puts_23 ?_
    refine PW.get0 (v := .ref 31) C cf_10 fl_X10_100 (by decide) oM_0 (fvR (o := 31) rfl) dX10_puts_24 ?_
    refine PW.bipush (v := 64) C dX10_puts_27 (by decide) ?_
    refine PW.ald0n C dX10_puts_29 ?_
    refine PW.bipush (v := 10) C dX10_puts_30 (by decide) ?_
    refine PW.callVI1 C ms_X10_fresher ml_X10_305 dX10_puts_32 oM_0 ⟨_, _, rfl⟩ (Nat.le_of_ble_eq_true rfl) (by decide) (Nat.le_of_ble_eq_true rfl) (s_X10_fresher hw) ?_
    clear hw
    intro z6 h5 hw
    refine PW.iadd C dX10_puts_35 ?_
    refine PW.ild2n C dX10_puts_36 ?_
    obtain ⟨hc7, hw⟩ := hw
    replace hw := hw _ rfl
    refine PW.iast C dX10_puts_37 aM_31 hc7 ?_
    refine PW.ald0n C dX10_puts_38 ?_
    refine PW.bipush (v := 10) C dX10_puts_39 (by decide) ?_
    refine PW.ald0n C dX10_puts_41 ?_
    refine PW.bipush (v := 10) C dX10_puts_42 (by decide) ?_
    refine PW.callVI1 C ms_X10_fresher ml_X10_305 dX10_puts_44 oM_0 ⟨_, _, rfl⟩ (Nat.le_of_ble_eq_true rfl) (by decide) (Nat.le_of_ble_eq_true rfl) (s_X10_fresher hw) ?_
    clear hw
    intro z10 h9 hw
    refine PW.iconst (v := 1) C dX10_puts_47 (by decide) ?_
    refine PW.iadd C dX10_puts_48 ?_
    refine PW.callVV2 C ms_X10_reads ml_X10_331 dX10_puts_49 oM_0 ⟨_, _, rfl⟩ (Nat.le_of_ble_eq_true rfl) (by decide) (Nat.le_of_ble_eq_true rfl) (s_X10_reads hw) ?_
    clear hw
    intro h11 hw
    exact PW.vret C dX10_puts_52 ⟨rfl, hw⟩
  · rw [if_neg c] at hw
    exact PW.vret C dX10_puts_7 ⟨rfl, hw⟩
def w_X10_primary_194 (R : Nat → PH → (PH → Prop) → Prop) (Q : PH → Prop) (s1 : Int32) (s2 : Int32) (h : PH) : Prop :=
  w_X10_puts s1 s2 h (fun h4 => w_X10_goOn h4 (fun h5 => Q h5))
set_option maxRecDepth 8000 in
theorem b_X10_primary_194 {D : va_G} {ca : Nat → ClassId} {ad : Nat → Nat} {K : Kt} {d d9 : Nat} {R : Nat → PH → (PH → Prop) → Prop} {Q : PH → Prop} {s1 : Int32} {s2 : Int32} {h : PH} (C : CX (GM D ca ad) (XS (GM D ca ad)) cX10_primary RX10 2 none d K) (hdd : d9 + 1 ≤ d) (hda : 8 ≤ d) (hR : ∀ (h : PH) (Q : PH → Prop), (R 0 h Q → Sp (GM D ca ad) (XS (GM D ca ad)) K.l d9 yX10_expression cX10_expression 1 none [.ref 0] h (qV Q)) ∧ (R 1 h Q → Sp (GM D ca ad) (XS (GM D ca ad)) K.l d9 yX10_negation cX10_negation 2 none [.ref 0] h (qV Q))) (hw : w_X10_primary_194 R Q s1 s2 h) : PW (GM D ca ad) K 2 (qV Q) h 194 [some (.ref 0), none] [.int s2, .int s1, .ref 0] := by
  unfold w_X10_primary_194 at hw
  refine PW.callVV2 C ms_X10_puts ml_X10_378 dX10_primary_194 oM_0 ⟨_, _, rfl⟩ (by omega) (by decide) (Nat.le_of_ble_eq_true rfl) (s_X10_puts hw) ?_
  clear hw
  intro h4 hw
  refine PW.ald0n C dX10_primary_197 ?_
  refine PW.callVV0 C ms_X10_goOn ml_X10_316 dX10_primary_198 oM_0 ⟨_, _, rfl⟩ (by omega) (by decide) (Nat.le_of_ble_eq_true rfl) (s_X10_goOn hw) ?_
  clear hw
  intro h5 hw
  exact PW.vret C dX10_primary_201 ⟨rfl, hw⟩
def w_X10_primary_176 (R : Nat → PH → (PH → Prop) → Prop) (Q : PH → Prop) (x1 : Int32) (s1 : Int32) (h : PH) : Prop :=
  if x1 = 0 then (w_X10_primary_194 R Q s1 ((gI h 0 39) - 18) h) else (w_X10_primary_194 R Q s1 (gI h 0 39) h)
set_option maxRecDepth 8000 in
theorem b_X10_primary_176 {D : va_G} {ca : Nat → ClassId} {ad : Nat → Nat} {K : Kt} {d d9 : Nat} {R : Nat → PH → (PH → Prop) → Prop} {Q : PH → Prop} {x1 : Int32} {s1 : Int32} {h : PH} (C : CX (GM D ca ad) (XS (GM D ca ad)) cX10_primary RX10 2 none d K) (hdd : d9 + 1 ≤ d) (hda : 8 ≤ d) (hR : ∀ (h : PH) (Q : PH → Prop), (R 0 h Q → Sp (GM D ca ad) (XS (GM D ca ad)) K.l d9 yX10_expression cX10_expression 1 none [.ref 0] h (qV Q)) ∧ (R 1 h Q → Sp (GM D ca ad) (XS (GM D ca ad)) K.l d9 yX10_negation cX10_negation 2 none [.ref 0] h (qV Q))) (hw : w_X10_primary_176 R Q x1 s1 h) : PW (GM D ca ad) K 2 (qV Q) h 176 [some (.ref 0), some (.int x1)] [.int s1, .ref 0] := by
  unfold w_X10_primary_176 at hw
  refine PW.ild1n C dX10_primary_176 ?_
  refine PW.if_eq (tgt := 187) C dX10_primary_177 (by decide) (fun c => ?_) (fun c => ?_)
  · rw [if_pos c] at hw
    refine PW.ald0n C dX10_primary_187 ?_
    refine PW.get0 C cf_10 fl_X10_264 (by decide) oM_0 (fvI rfl) dX10_primary_188 ?_
    refine PW.bipush (v := 18) C dX10_primary_191 (by decide) ?_
    refine PW.isub C dX10_primary_193 ?_
    exact PW.wk (wk_s (wk_n wk_0)) (b_X10_primary_194 C hdd hda hR hw)
  · rw [if_neg c] at hw
    refine PW.ald0n C dX10_primary_180 ?_
    refine PW.get0 C cf_10 fl_X10_264 (by decide) oM_0 (fvI rfl) dX10_primary_181 ?_
    refine PW.goto (tgt := 194) C dX10_primary_184 (by decide) ?_
    exact PW.wk (wk_s (wk_n wk_0)) (b_X10_primary_194 C hdd hda hR hw)
def w_X10_primary_162 (R : Nat → PH → (PH → Prop) → Prop) (Q : PH → Prop) (x1 : Int32) (h : PH) : Prop :=
  w_X10_knot h (fun h3 => if x1 = 0 then (w_X10_primary_176 R Q x1 1 h3) else (w_X10_primary_176 R Q x1 0 h3))
set_option maxRecDepth 8000 in
theorem b_X10_primary_162 {D : va_G} {ca : Nat → ClassId} {ad : Nat → Nat} {K : Kt} {d d9 : Nat} {R : Nat → PH → (PH → Prop) → Prop} {Q : PH → Prop} {x1 : Int32} {h : PH} (C : CX (GM D ca ad) (XS (GM D ca ad)) cX10_primary RX10 2 none d K) (hdd : d9 + 1 ≤ d) (hda : 8 ≤ d) (hR : ∀ (h : PH) (Q : PH → Prop), (R 0 h Q → Sp (GM D ca ad) (XS (GM D ca ad)) K.l d9 yX10_expression cX10_expression 1 none [.ref 0] h (qV Q)) ∧ (R 1 h Q → Sp (GM D ca ad) (XS (GM D ca ad)) K.l d9 yX10_negation cX10_negation 2 none [.ref 0] h (qV Q))) (hw : w_X10_primary_162 R Q x1 h) : PW (GM D ca ad) K 2 (qV Q) h 162 [some (.ref 0), some (.int x1)] [] := by
  unfold w_X10_primary_162 at hw
  refine PW.ald0n C dX10_primary_162 ?_
  refine PW.callVV0 C ms_X10_knot ml_X10_375 dX10_primary_163 oM_0 ⟨_, _, rfl⟩ (by omega) (by decide) (Nat.le_of_ble_eq_true rfl) (s_X10_knot hw) ?_
  clear hw
  intro h3 hw
  refine PW.ald0n C dX10_primary_166 ?_
  refine PW.ild1n C dX10_primary_167 ?_
  refine PW.if_eq (tgt := 175) C dX10_primary_168 (by decide) (fun c => ?_) (fun c => ?_)
  · rw [if_pos c] at hw
    refine PW.iconst (v := 1) C dX10_primary_175 (by decide) ?_
    exact PW.wk (wk_s (wk_s wk_0)) (b_X10_primary_176 C hdd hda hR hw)
  · rw [if_neg c] at hw
    refine PW.iconst (v := 0) C dX10_primary_171 (by decide) ?_
    refine PW.goto (tgt := 176) C dX10_primary_172 (by decide) ?_
    exact PW.wk (wk_s (wk_s wk_0)) (b_X10_primary_176 C hdd hda hR hw)
def w_X10_primary_157 (R : Nat → PH → (PH → Prop) → Prop) (Q : PH → Prop) (x1 : Int32) (h : PH) : Prop :=
  w_X10_wrong 1 h (fun h6 => w_X10_primary_162 R Q x1 h6)
set_option maxRecDepth 8000 in
theorem b_X10_primary_157 {D : va_G} {ca : Nat → ClassId} {ad : Nat → Nat} {K : Kt} {d d9 : Nat} {R : Nat → PH → (PH → Prop) → Prop} {Q : PH → Prop} {x1 : Int32} {h : PH} (C : CX (GM D ca ad) (XS (GM D ca ad)) cX10_primary RX10 2 none d K) (hdd : d9 + 1 ≤ d) (hda : 8 ≤ d) (hR : ∀ (h : PH) (Q : PH → Prop), (R 0 h Q → Sp (GM D ca ad) (XS (GM D ca ad)) K.l d9 yX10_expression cX10_expression 1 none [.ref 0] h (qV Q)) ∧ (R 1 h Q → Sp (GM D ca ad) (XS (GM D ca ad)) K.l d9 yX10_negation cX10_negation 2 none [.ref 0] h (qV Q))) (hw : w_X10_primary_157 R Q x1 h) : PW (GM D ca ad) K 2 (qV Q) h 157 [some (.ref 0), some (.int x1)] [] := by
  unfold w_X10_primary_157 at hw
  refine PW.ald0n C dX10_primary_157 ?_
  refine PW.iconst (v := 1) C dX10_primary_158 (by decide) ?_
  refine PW.callVV1 C ms_X10_wrong ml_X10_298 dX10_primary_159 oM_0 ⟨_, _, rfl⟩ (by omega) (by decide) (Nat.le_of_ble_eq_true rfl) (s_X10_wrong hw) ?_
  clear hw
  intro h6 hw
  exact PW.wk (wk_s (wk_s wk_0)) (b_X10_primary_162 C hdd hda hR hw)
def w_X10_primary_137 (R : Nat → PH → (PH → Prop) → Prop) (Q : PH → Prop) (x1 : Int32) (h : PH) : Prop :=
  if x1 = 0 then (if (gI h 0 38) = 0 then (if 18 ≤ (gI h 0 39) then (w_X10_primary_162 R Q x1 h) else (w_X10_primary_157 R Q x1 h)) else (w_X10_primary_157 R Q x1 h)) else (w_X10_primary_162 R Q x1 h)
set_option maxRecDepth 8000 in
theorem b_X10_primary_137 {D : va_G} {ca : Nat → ClassId} {ad : Nat → Nat} {K : Kt} {d d9 : Nat} {R : Nat → PH → (PH → Prop) → Prop} {Q : PH → Prop} {x1 : Int32} {h : PH} (C : CX (GM D ca ad) (XS (GM D ca ad)) cX10_primary RX10 2 none d K) (hdd : d9 + 1 ≤ d) (hda : 8 ≤ d) (hR : ∀ (h : PH) (Q : PH → Prop), (R 0 h Q → Sp (GM D ca ad) (XS (GM D ca ad)) K.l d9 yX10_expression cX10_expression 1 none [.ref 0] h (qV Q)) ∧ (R 1 h Q → Sp (GM D ca ad) (XS (GM D ca ad)) K.l d9 yX10_negation cX10_negation 2 none [.ref 0] h (qV Q))) (hw : w_X10_primary_137 R Q x1 h) : PW (GM D ca ad) K 2 (qV Q) h 137 [some (.ref 0), some (.int x1)] [] := by
  unfold w_X10_primary_137 at hw
  refine PW.ild1n C dX10_primary_137 ?_
  refine PW.if_ne (tgt := 162) C dX10_primary_138 (by decide) (fun c => ?_) (fun c => ?_)
  · rw [if_neg c] at hw
    exact PW.wk (wk_s (wk_s wk_0)) (b_X10_primary_162 C hdd hda hR hw)
  · rw [if_pos c] at hw
    refine PW.ald0n C dX10_primary_141 ?_
    refine PW.get0 C cf_10 fl_X10_254 (by decide) oM_0 (fvI rfl) dX10_primary_142 ?_
    refine PW.if_ne (tgt := 157) C dX10_primary_145 (by decide) (fun c => ?_) (fun c => ?_)
    · rw [if_neg c] at hw
      exact PW.wk (wk_s (wk_s wk_0)) (b_X10_primary_157 C hdd hda hR hw)
    · rw [if_pos c] at hw
      refine PW.ald0n C dX10_primary_148 ?_
      refine PW.get0 C cf_10 fl_X10_264 (by decide) oM_0 (fvI rfl) dX10_primary_149 ?_
      refine PW.bipush (v := 18) C dX10_primary_152 (by decide) ?_
      refine PW.icmp_ge (tgt := 162) C dX10_primary_154 (by decide) (fun c => ?_) (fun c => ?_)
      · rw [if_pos c] at hw
        exact PW.wk (wk_s (wk_s wk_0)) (b_X10_primary_162 C hdd hda hR hw)
      · rw [if_neg c] at hw
        exact PW.wk (wk_s (wk_s wk_0)) (b_X10_primary_157 C hdd hda hR hw)
def w_X10_primary_114 (R : Nat → PH → (PH → Prop) → Prop) (Q : PH → Prop) (s0 : Int32) (h : PH) : Prop :=
  if s0 = 0 then (w_X10_primary_137 R Q s0 h) else (if (gI h 0 39) ≤ 9999 then (w_X10_primary_137 R Q s0 h) else (w_X10_wrong 2 h (fun h7 => w_X10_primary_162 R Q s0 h7)))
set_option maxRecDepth 8000 in
theorem b_X10_primary_114 {D : va_G} {ca : Nat → ClassId} {ad : Nat → Nat} {K : Kt} {d d9 : Nat} {R : Nat → PH → (PH → Prop) → Prop} {Q : PH → Prop} {s0 : Int32} {h : PH} (C : CX (GM D ca ad) (XS (GM D ca ad)) cX10_primary RX10 2 none d K) (hdd : d9 + 1 ≤ d) (hda : 8 ≤ d) (hR : ∀ (h : PH) (Q : PH → Prop), (R 0 h Q → Sp (GM D ca ad) (XS (GM D ca ad)) K.l d9 yX10_expression cX10_expression 1 none [.ref 0] h (qV Q)) ∧ (R 1 h Q → Sp (GM D ca ad) (XS (GM D ca ad)) K.l d9 yX10_negation cX10_negation 2 none [.ref 0] h (qV Q))) (hw : w_X10_primary_114 R Q s0 h) : PW (GM D ca ad) K 2 (qV Q) h 114 [some (.ref 0), none] [.int s0] := by
  unfold w_X10_primary_114 at hw
  refine PW.ist1n C dX10_primary_114 (by decide) rfl ?_
  refine PW.ild1n C dX10_primary_115 ?_
  refine PW.if_eq (tgt := 137) C dX10_primary_116 (by decide) (fun c => ?_) (fun c => ?_)
  · rw [if_pos c] at hw
    exact PW.wk (wk_s (wk_s wk_0)) (b_X10_primary_137 C hdd hda hR hw)
  · rw [if_neg c] at hw
    refine PW.ald0n C dX10_primary_119 ?_
    refine PW.get0 C cf_10 fl_X10_264 (by decide) oM_0 (fvI rfl) dX10_primary_120 ?_
    refine PW.sipush (v := 9999) C dX10_primary_123 (by decide) ?_
    refine PW.icmp_le (tgt := 137) C dX10_primary_126 (by decide) (fun c => ?_) (fun c => ?_)
    · rw [if_pos c] at hw
      exact PW.wk (wk_s (wk_s wk_0)) (b_X10_primary_137 C hdd hda hR hw)
    · rw [if_neg c] at hw
      refine PW.ald0n C dX10_primary_129 ?_
      refine PW.iconst (v := 2) C dX10_primary_130 (by decide) ?_
      refine PW.callVV1 C ms_X10_wrong ml_X10_298 dX10_primary_131 oM_0 ⟨_, _, rfl⟩ (by omega) (by decide) (Nat.le_of_ble_eq_true rfl) (s_X10_wrong hw) ?_
      clear hw
      intro h7 hw
      refine PW.goto (tgt := 162) C dX10_primary_134 (by decide) ?_
      exact PW.wk (wk_s (wk_s wk_0)) (b_X10_primary_162 C hdd hda hR hw)
def w_X10_primary_78 (R : Nat → PH → (PH → Prop) → Prop) (Q : PH → Prop) (h : PH) : Prop :=
  if (gI h 0 40) = 0 then (∀ h11, h11 = sI h 0 44 ((gI h 0 44) - 1) → w_X10_token h11 (fun h12 => Q h12)) else (Q h)
set_option maxRecDepth 8000 in
theorem b_X10_primary_78 {D : va_G} {ca : Nat → ClassId} {ad : Nat → Nat} {K : Kt} {d d9 : Nat} {R : Nat → PH → (PH → Prop) → Prop} {Q : PH → Prop} {h : PH} (C : CX (GM D ca ad) (XS (GM D ca ad)) cX10_primary RX10 2 none d K) (hdd : d9 + 1 ≤ d) (hda : 8 ≤ d) (hR : ∀ (h : PH) (Q : PH → Prop), (R 0 h Q → Sp (GM D ca ad) (XS (GM D ca ad)) K.l d9 yX10_expression cX10_expression 1 none [.ref 0] h (qV Q)) ∧ (R 1 h Q → Sp (GM D ca ad) (XS (GM D ca ad)) K.l d9 yX10_negation cX10_negation 2 none [.ref 0] h (qV Q))) (hw : w_X10_primary_78 R Q h) : PW (GM D ca ad) K 2 (qV Q) h 78 [some (.ref 0), none] [] := by
  unfold w_X10_primary_78 at hw
  refine PW.ald0n C dX10_primary_78 ?_
  refine PW.get0 C cf_10 fl_X10_289 (by decide) oM_0 (fvI rfl) dX10_primary_79 ?_
  refine PW.if_eq (tgt := 86) C dX10_primary_82 (by decide) (fun c => ?_) (fun c => ?_)
  · rw [if_pos c] at hw
    refine PW.ald0n C dX10_primary_86 ?_
    refine PW.dup C dX10_primary_87 rfl ?_
    refine PW.get0 C cf_10 fl_X10_393 (by decide) oM_0 (fvI rfl) dX10_primary_88 ?_
    refine PW.iconst (v := 1) C dX10_primary_91 (by decide) ?_
    refine PW.isub C dX10_primary_92 ?_
    replace hw := hw _ rfl
    refine PW.put0 C cf_10 fl_X10_393 (by decide) oM_0 rfl rfl rfl (pw_sI oM_0 (by decide) rfl) dX10_primary_93 ?_
    refine PW.ald0n C dX10_primary_96 ?_
    refine PW.callVV0 C ms_X10_token ml_X10_295 dX10_primary_97 oM_0 ⟨_, _, rfl⟩ (by omega) (by decide) (Nat.le_of_ble_eq_true rfl) (s_X10_token hw) ?_
    clear hw
    intro h12 hw
    exact PW.vret C dX10_primary_100 ⟨rfl, hw⟩
  · rw [if_neg c] at hw
    exact PW.vret C dX10_primary_85 ⟨rfl, hw⟩
def w_X10_primary_31 (R : Nat → PH → (PH → Prop) → Prop) (Q : PH → Prop) (h : PH) : Prop :=
  if (gI h 0 40) = 0 then (∀ h8, h8 = sI h 0 44 ((gI h 0 44) + 1) → w_X10_token h8 (fun h9 => R 0 h9 (fun h10 => if (gI h10 0 40) = 0 then (w_X10_isSign 41 h10 (fun z14 h13 => if z14 = 0 then (w_X10_wrong 1 h13 (fun h15 => w_X10_primary_78 R Q h15)) else (w_X10_primary_78 R Q h13))) else (w_X10_primary_78 R Q h10)))) else (Q h)
set_option maxRecDepth 8000 in
theorem b_X10_primary_31 {D : va_G} {ca : Nat → ClassId} {ad : Nat → Nat} {K : Kt} {d d9 : Nat} {R : Nat → PH → (PH → Prop) → Prop} {Q : PH → Prop} {h : PH} (C : CX (GM D ca ad) (XS (GM D ca ad)) cX10_primary RX10 2 none d K) (hdd : d9 + 1 ≤ d) (hda : 8 ≤ d) (hR : ∀ (h : PH) (Q : PH → Prop), (R 0 h Q → Sp (GM D ca ad) (XS (GM D ca ad)) K.l d9 yX10_expression cX10_expression 1 none [.ref 0] h (qV Q)) ∧ (R 1 h Q → Sp (GM D ca ad) (XS (GM D ca ad)) K.l d9 yX10_negation cX10_negation 2 none [.ref 0] h (qV Q))) (hw : w_X10_primary_31 R Q h) : PW (GM D ca ad) K 2 (qV Q) h 31 [some (.ref 0), none] [] := by
  unfold w_X10_primary_31 at hw
  refine PW.ald0n C dX10_primary_31 ?_
  refine PW.get0 C cf_10 fl_X10_289 (by decide) oM_0 (fvI rfl) dX10_primary_32 ?_
  refine PW.if_eq (tgt := 39) C dX10_primary_35 (by decide) (fun c => ?_) (fun c => ?_)
  · rw [if_pos c] at hw
    refine PW.ald0n C dX10_primary_39 ?_
    refine PW.dup C dX10_primary_40 rfl ?_
    refine PW.get0 C cf_10 fl_X10_393 (by decide) oM_0 (fvI rfl) dX10_primary_41 ?_
    refine PW.iconst (v := 1) C dX10_primary_44 (by decide) ?_
    refine PW.iadd C dX10_primary_45 ?_
    replace hw := hw _ rfl
    refine PW.put0 C cf_10 fl_X10_393 (by decide) oM_0 rfl rfl rfl (pw_sI oM_0 (by decide) rfl) dX10_primary_46 ?_
    refine PW.ald0n C dX10_primary_49 ?_
    refine PW.callVV0 C ms_X10_token ml_X10_295 dX10_primary_50 oM_0 ⟨_, _, rfl⟩ (by omega) (by decide) (Nat.le_of_ble_eq_true rfl) (s_X10_token hw) ?_
    clear hw
    intro h9 hw
    refine PW.ald0n C dX10_primary_53 ?_
    refine PW.callVV0 C ms_X10_expression ml_X10_363 dX10_primary_54 oM_0 ⟨_, _, rfl⟩ (by omega) (by decide) (Nat.le_of_ble_eq_true rfl) ((hR _ _).1 hw) ?_
    clear hw
    intro h10 hw
    refine PW.ald0n C dX10_primary_57 ?_
    refine PW.get0 C cf_10 fl_X10_289 (by decide) oM_0 (fvI rfl) dX10_primary_58 ?_
    refine PW.if_ne (tgt := 78) C dX10_primary_61 (by decide) (fun c => ?_) (fun c => ?_)
    · rw [if_neg c] at hw
      exact PW.wk (wk_s (wk_n wk_0)) (b_X10_primary_78 C hdd hda hR hw)
    · rw [if_pos c] at hw
      refine PW.ald0n C dX10_primary_64 ?_
      refine PW.bipush (v := 41) C dX10_primary_65 (by decide) ?_
      refine PW.callVI1 C ms_X10_isSign ml_X10_357 dX10_primary_67 oM_0 ⟨_, _, rfl⟩ (by omega) (by decide) (Nat.le_of_ble_eq_true rfl) (s_X10_isSign hw) ?_
      clear hw
      intro z14 h13 hw
      refine PW.if_ne (tgt := 78) C dX10_primary_70 (by decide) (fun c => ?_) (fun c => ?_)
      · rw [if_neg c] at hw
        exact PW.wk (wk_s (wk_n wk_0)) (b_X10_primary_78 C hdd hda hR hw)
      · rw [if_pos c] at hw
        refine PW.ald0n C dX10_primary_73 ?_
        refine PW.iconst (v := 1) C dX10_primary_74 (by decide) ?_
        refine PW.callVV1 C ms_X10_wrong ml_X10_298 dX10_primary_75 oM_0 ⟨_, _, rfl⟩ (by omega) (by decide) (Nat.le_of_ble_eq_true rfl) (s_X10_wrong hw) ?_
        clear hw
        intro h15 hw
        exact PW.wk (wk_s (wk_n wk_0)) (b_X10_primary_78 C hdd hda hR hw)
  · rw [if_neg c] at hw
    exact PW.vret C dX10_primary_38 ⟨rfl, hw⟩
def w_X10_primary (R : Nat → PH → (PH → Prop) → Prop) (h : PH) (Q : PH → Prop) : Prop :=
  if (gI h 0 40) = 0 then (w_X10_isSign 40 h (fun z2 h1 => if z2 = 0 then (if (gI h1 0 38) = 2 then (w_X10_primary_114 R Q 1 h1) else (w_X10_primary_114 R Q 0 h1)) else (if (gI h1 0 44) = 8 then (w_X10_wrong 2 h1 (fun h16 => w_X10_primary_31 R Q h16)) else (w_X10_primary_31 R Q h1)))) else (Q h)
set_option maxRecDepth 8000 in
theorem s_X10_primary {D : va_G} {ca : Nat → ClassId} {ad : Nat → Nat} {l : Launch} {R : Nat → PH → (PH → Prop) → Prop} {d d9 : Nat} {h : PH} {Q : PH → Prop} (hdd : d9 + 1 ≤ d) (hda : 8 ≤ d) (hR : ∀ (h : PH) (Q : PH → Prop), (R 0 h Q → Sp (GM D ca ad) (XS (GM D ca ad)) l d9 yX10_expression cX10_expression 1 none [.ref 0] h (qV Q)) ∧ (R 1 h Q → Sp (GM D ca ad) (XS (GM D ca ad)) l d9 yX10_negation cX10_negation 2 none [.ref 0] h (qV Q))) (hw : w_X10_primary R h Q) : Sp (GM D ca ad) (XS (GM D ca ad)) l d yX10_primary cX10_primary 2 none [.ref 0] h (qV Q) := by
  refine Sp.of (own := RX10) [some (.ref 0), none] (by decide +kernel) rfl rfl (Nat.le_of_ble_eq_true rfl) (fun K hl C => ?_)
  subst hl
  unfold w_X10_primary at hw
  refine PW.ald0n C dX10_primary_0 ?_
  refine PW.get0 C cf_10 fl_X10_289 (by decide) oM_0 (fvI rfl) dX10_primary_1 ?_
  refine PW.if_eq (tgt := 8) C dX10_primary_4 (by decide) (fun c => ?_) (fun c => ?_)
  · rw [if_pos c] at hw
    refine PW.ald0n C dX10_primary_8 ?_
    refine PW.bipush (v := 40) C dX10_primary_9 (by decide) ?_
    refine PW.callVI1 C ms_X10_isSign ml_X10_357 dX10_primary_11 oM_0 ⟨_, _, rfl⟩ (by omega) (by decide) (Nat.le_of_ble_eq_true rfl) (s_X10_isSign hw) ?_
    clear hw
    intro z2 h1 hw
    refine PW.if_eq (tgt := 101) C dX10_primary_14 (by decide) (fun c => ?_) (fun c => ?_)
    · rw [if_pos c] at hw
      refine PW.ald0n C dX10_primary_101 ?_
      refine PW.get0 C cf_10 fl_X10_254 (by decide) oM_0 (fvI rfl) dX10_primary_102 ?_
      refine PW.iconst (v := 2) C dX10_primary_105 (by decide) ?_
      refine PW.icmp_ne (tgt := 113) C dX10_primary_106 (by decide) (fun c => ?_) (fun c => ?_)
      · rw [if_neg c] at hw
        refine PW.iconst (v := 0) C dX10_primary_113 (by decide) ?_
        exact PW.wk (wk_s (wk_n wk_0)) (b_X10_primary_114 C hdd hda hR hw)
      · rw [if_pos c] at hw
        refine PW.iconst (v := 1) C dX10_primary_109 (by decide) ?_
        refine PW.goto (tgt := 114) C dX10_primary_110 (by decide) ?_
        exact PW.wk (wk_s (wk_n wk_0)) (b_X10_primary_114 C hdd hda hR hw)
    · rw [if_neg c] at hw
      refine PW.ald0n C dX10_primary_17 ?_
      refine PW.get0 C cf_10 fl_X10_393 (by decide) oM_0 (fvI rfl) dX10_primary_18 ?_
      refine PW.bipush (v := 8) C dX10_primary_21 (by decide) ?_
      refine PW.icmp_ne (tgt := 31) C dX10_primary_23 (by decide) (fun c => ?_) (fun c => ?_)
      · rw [if_neg c] at hw
        exact PW.wk (wk_s (wk_n wk_0)) (b_X10_primary_31 C hdd hda hR hw)
      · rw [if_pos c] at hw
        refine PW.ald0n C dX10_primary_26 ?_
        refine PW.iconst (v := 2) C dX10_primary_27 (by decide) ?_
        refine PW.callVV1 C ms_X10_wrong ml_X10_298 dX10_primary_28 oM_0 ⟨_, _, rfl⟩ (by omega) (by decide) (Nat.le_of_ble_eq_true rfl) (s_X10_wrong hw) ?_
        clear hw
        intro h16 hw
        exact PW.wk (wk_s (wk_n wk_0)) (b_X10_primary_31 C hdd hda hR hw)
  · rw [if_neg c] at hw
    exact PW.vret C dX10_primary_7 ⟨rfl, hw⟩
def w_X10_product_22 (R : Nat → PH → (PH → Prop) → Prop) (Q : PH → Prop) (kb : PH → Prop) (h : PH) : Prop :=
  ∀ (y4 : Int32), y4 = (gI h 0 39) → w_X10_knot h (fun h5 => w_X10_goOn h5 (fun h6 => w_X10_primary R h6 (fun h7 => w_X10_puts 2 y4 h7 (fun h8 => kb h8))))
set_option maxRecDepth 8000 in
theorem b_X10_product_22 {D : va_G} {ca : Nat → ClassId} {ad : Nat → Nat} {K : Kt} {d d9 : Nat} {R : Nat → PH → (PH → Prop) → Prop} {kb : PH → Prop} {Q : PH → Prop} {h : PH} (C : CX (GM D ca ad) (XS (GM D ca ad)) cX10_product RX10 2 none d K) (hdd : d9 + 2 ≤ d) (hda : 9 ≤ d) (hR : ∀ (h : PH) (Q : PH → Prop), (R 0 h Q → Sp (GM D ca ad) (XS (GM D ca ad)) K.l d9 yX10_expression cX10_expression 1 none [.ref 0] h (qV Q)) ∧ (R 1 h Q → Sp (GM D ca ad) (XS (GM D ca ad)) K.l d9 yX10_negation cX10_negation 2 none [.ref 0] h (qV Q))) (hkb : ∀ (h : PH), kb h → PW (GM D ca ad) K 2 (qV Q) h 4 [some (.ref 0), none] []) (hw : w_X10_product_22 R Q kb h) : PW (GM D ca ad) K 2 (qV Q) h 22 [some (.ref 0), none] [] := by
  unfold w_X10_product_22 at hw
  refine PW.ald0n C dX10_product_22 ?_
  refine PW.get0 C cf_10 fl_X10_264 (by decide) oM_0 (fvI rfl) dX10_product_23 ?_
  replace hw := hw _ rfl
  refine PW.ist1n C dX10_product_26 (by decide) rfl ?_
  refine PW.ald0n C dX10_product_27 ?_
  refine PW.callVV0 C ms_X10_knot ml_X10_375 dX10_product_28 oM_0 ⟨_, _, rfl⟩ (by omega) (by decide) (Nat.le_of_ble_eq_true rfl) (s_X10_knot hw) ?_
  clear hw
  intro h5 hw
  refine PW.ald0n C dX10_product_31 ?_
  refine PW.callVV0 C ms_X10_goOn ml_X10_316 dX10_product_32 oM_0 ⟨_, _, rfl⟩ (by omega) (by decide) (Nat.le_of_ble_eq_true rfl) (s_X10_goOn hw) ?_
  clear hw
  intro h6 hw
  refine PW.ald0n C dX10_product_35 ?_
  refine PW.callVV0 C ms_X10_primary ml_X10_390 dX10_product_36 oM_0 ⟨_, _, rfl⟩ (by omega) (by decide) (Nat.le_of_ble_eq_true rfl) (s_X10_primary (d := d - 1) (by omega) (by omega) hR hw) ?_
  clear hw
  intro h7 hw
  refine PW.ald0n C dX10_product_39 ?_
  refine PW.iconst (v := 2) C dX10_product_40 (by decide) ?_
  refine PW.ild1n C dX10_product_41 ?_
  refine PW.callVV2 C ms_X10_puts ml_X10_378 dX10_product_42 oM_0 ⟨_, _, rfl⟩ (by omega) (by decide) (Nat.le_of_ble_eq_true rfl) (s_X10_puts hw) ?_
  clear hw
  intro h8 hw
  refine PW.goto (tgt := 4) C dX10_product_45 (by decide) ?_
  exact PW.wk (wk_s (wk_n wk_0)) (hkb _ hw)
def w_X10_product_4 (R : Nat → PH → (PH → Prop) → Prop) (k48 : PH → Prop) (Q : PH → Prop) (kb : PH → Prop) (h : PH) : Prop :=
  w_X10_isSign 42 h (fun z3 h2 => if z3 = 0 then (w_X10_isSign 47 h2 (fun z10 h9 => if z10 = 0 then (k48 h9) else (w_X10_product_22 R Q kb h9))) else (w_X10_product_22 R Q kb h2))
set_option maxRecDepth 8000 in
theorem b_X10_product_4 {D : va_G} {ca : Nat → ClassId} {ad : Nat → Nat} {K : Kt} {d d9 : Nat} {R : Nat → PH → (PH → Prop) → Prop} {k48 : PH → Prop} {kb : PH → Prop} {Q : PH → Prop} {h : PH} (C : CX (GM D ca ad) (XS (GM D ca ad)) cX10_product RX10 2 none d K) (hdd : d9 + 2 ≤ d) (hda : 9 ≤ d) (hR : ∀ (h : PH) (Q : PH → Prop), (R 0 h Q → Sp (GM D ca ad) (XS (GM D ca ad)) K.l d9 yX10_expression cX10_expression 1 none [.ref 0] h (qV Q)) ∧ (R 1 h Q → Sp (GM D ca ad) (XS (GM D ca ad)) K.l d9 yX10_negation cX10_negation 2 none [.ref 0] h (qV Q))) (hk48 : ∀ (h : PH), k48 h → PW (GM D ca ad) K 2 (qV Q) h 48 [none, none] []) (hkb : ∀ (h : PH), kb h → PW (GM D ca ad) K 2 (qV Q) h 4 [some (.ref 0), none] []) (hw : w_X10_product_4 R k48 Q kb h) : PW (GM D ca ad) K 2 (qV Q) h 4 [some (.ref 0), none] [] := by
  unfold w_X10_product_4 at hw
  refine PW.ald0n C dX10_product_4 ?_
  refine PW.bipush (v := 42) C dX10_product_5 (by decide) ?_
  refine PW.callVI1 C ms_X10_isSign ml_X10_357 dX10_product_7 oM_0 ⟨_, _, rfl⟩ (by omega) (by decide) (Nat.le_of_ble_eq_true rfl) (s_X10_isSign hw) ?_
  clear hw
  intro z3 h2 hw
  refine PW.if_ne (tgt := 22) C dX10_product_10 (by decide) (fun c => ?_) (fun c => ?_)
  · rw [if_neg c] at hw
    exact PW.wk (wk_s (wk_n wk_0)) (b_X10_product_22 C hdd hda hR hkb hw)
  · rw [if_pos c] at hw
    refine PW.ald0n C dX10_product_13 ?_
    refine PW.bipush (v := 47) C dX10_product_14 (by decide) ?_
    refine PW.callVI1 C ms_X10_isSign ml_X10_357 dX10_product_16 oM_0 ⟨_, _, rfl⟩ (by omega) (by decide) (Nat.le_of_ble_eq_true rfl) (s_X10_isSign hw) ?_
    clear hw
    intro z10 h9 hw
    refine PW.if_eq (tgt := 48) C dX10_product_19 (by decide) (fun c => ?_) (fun c => ?_)
    · rw [if_pos c] at hw
      exact PW.wk (wk_n (wk_n wk_0)) (hk48 _ hw)
    · rw [if_neg c] at hw
      exact PW.wk (wk_s (wk_n wk_0)) (b_X10_product_22 C hdd hda hR hkb hw)
theorem l_X10_product_4 {D : va_G} {ca : Nat → ClassId} {ad : Nat → Nat} {K : Kt} {d d9 : Nat} {R : Nat → PH → (PH → Prop) → Prop} {k48 : PH → Prop} {Q : PH → Prop} (C : CX (GM D ca ad) (XS (GM D ca ad)) cX10_product RX10 2 none d K) (hdd : d9 + 2 ≤ d) (hda : 9 ≤ d) (hR : ∀ (h : PH) (Q : PH → Prop), (R 0 h Q → Sp (GM D ca ad) (XS (GM D ca ad)) K.l d9 yX10_expression cX10_expression 1 none [.ref 0] h (qV Q)) ∧ (R 1 h Q → Sp (GM D ca ad) (XS (GM D ca ad)) K.l d9 yX10_negation cX10_negation 2 none [.ref 0] h (qV Q))) (hk48 : ∀ (h : PH), k48 h → PW (GM D ca ad) K 2 (qV Q) h 48 [none, none] []) : ∀ (n : Nat) (h : PH), Lp0 (w_X10_product_4 R k48 Q) n h → PW (GM D ca ad) K 2 (qV Q) h 4 [some (.ref 0), none] [] := by
  intro n
  induction n with
  | zero => intro h hw; exact hw.elim
  | succ n ih => intro h hw; exact b_X10_product_4 C hdd hda hR hk48 (fun h hw => ih h hw) hw
def w_X10_product (R : Nat → PH → (PH → Prop) → Prop) (h : PH) (Q : PH → Prop) : Prop :=
  w_X10_primary R h (fun h1 => ∃ n, Lp0 (w_X10_product_4 R (fun h11 => Q h11) Q) n h1)
set_option maxRecDepth 8000 in
theorem s_X10_product {D : va_G} {ca : Nat → ClassId} {ad : Nat → Nat} {l : Launch} {R : Nat → PH → (PH → Prop) → Prop} {d d9 : Nat} {h : PH} {Q : PH → Prop} (hdd : d9 + 2 ≤ d) (hda : 9 ≤ d) (hR : ∀ (h : PH) (Q : PH → Prop), (R 0 h Q → Sp (GM D ca ad) (XS (GM D ca ad)) l d9 yX10_expression cX10_expression 1 none [.ref 0] h (qV Q)) ∧ (R 1 h Q → Sp (GM D ca ad) (XS (GM D ca ad)) l d9 yX10_negation cX10_negation 2 none [.ref 0] h (qV Q))) (hw : w_X10_product R h Q) : Sp (GM D ca ad) (XS (GM D ca ad)) l d yX10_product cX10_product 2 none [.ref 0] h (qV Q) := by
  refine Sp.of (own := RX10) [some (.ref 0), none] (by decide +kernel) rfl rfl (Nat.le_of_ble_eq_true rfl) (fun K hl C => ?_)
  subst hl
  unfold w_X10_product at hw
  refine PW.ald0n C dX10_product_0 ?_
  refine PW.callVV0 C ms_X10_primary ml_X10_390 dX10_product_1 oM_0 ⟨_, _, rfl⟩ (by omega) (by decide) (Nat.le_of_ble_eq_true rfl) (s_X10_primary (d := d - 1) (by omega) (by omega) hR hw) ?_
  clear hw
  intro h1 hw
  obtain ⟨n, hw⟩ := hw
  refine PW.wk (wk_s (wk_n wk_0)) (l_X10_product_4 C hdd hda hR ?_ n _ hw)
  · intro h11 hw
    exact PW.vret C dX10_product_48 ⟨rfl, hw⟩
def w_X10_sum_22 (R : Nat → PH → (PH → Prop) → Prop) (Q : PH → Prop) (kb : PH → Prop) (h : PH) : Prop :=
  ∀ (y4 : Int32), y4 = (gI h 0 39) → w_X10_knot h (fun h5 => w_X10_goOn h5 (fun h6 => w_X10_product R h6 (fun h7 => w_X10_puts 2 y4 h7 (fun h8 => kb h8))))
set_option maxRecDepth 8000 in
theorem b_X10_sum_22 {D : va_G} {ca : Nat → ClassId} {ad : Nat → Nat} {K : Kt} {d d9 : Nat} {R : Nat → PH → (PH → Prop) → Prop} {kb : PH → Prop} {Q : PH → Prop} {h : PH} (C : CX (GM D ca ad) (XS (GM D ca ad)) cX10_sum RX10 2 none d K) (hdd : d9 + 3 ≤ d) (hda : 10 ≤ d) (hR : ∀ (h : PH) (Q : PH → Prop), (R 0 h Q → Sp (GM D ca ad) (XS (GM D ca ad)) K.l d9 yX10_expression cX10_expression 1 none [.ref 0] h (qV Q)) ∧ (R 1 h Q → Sp (GM D ca ad) (XS (GM D ca ad)) K.l d9 yX10_negation cX10_negation 2 none [.ref 0] h (qV Q))) (hkb : ∀ (h : PH), kb h → PW (GM D ca ad) K 2 (qV Q) h 4 [some (.ref 0), none] []) (hw : w_X10_sum_22 R Q kb h) : PW (GM D ca ad) K 2 (qV Q) h 22 [some (.ref 0), none] [] := by
  unfold w_X10_sum_22 at hw
  refine PW.ald0n C dX10_sum_22 ?_
  refine PW.get0 C cf_10 fl_X10_264 (by decide) oM_0 (fvI rfl) dX10_sum_23 ?_
  replace hw := hw _ rfl
  refine PW.ist1n C dX10_sum_26 (by decide) rfl ?_
  refine PW.ald0n C dX10_sum_27 ?_
  refine PW.callVV0 C ms_X10_knot ml_X10_375 dX10_sum_28 oM_0 ⟨_, _, rfl⟩ (by omega) (by decide) (Nat.le_of_ble_eq_true rfl) (s_X10_knot hw) ?_
  clear hw
  intro h5 hw
  refine PW.ald0n C dX10_sum_31 ?_
  refine PW.callVV0 C ms_X10_goOn ml_X10_316 dX10_sum_32 oM_0 ⟨_, _, rfl⟩ (by omega) (by decide) (Nat.le_of_ble_eq_true rfl) (s_X10_goOn hw) ?_
  clear hw
  intro h6 hw
  refine PW.ald0n C dX10_sum_35 ?_
  refine PW.callVV0 C ms_X10_product ml_X10_387 dX10_sum_36 oM_0 ⟨_, _, rfl⟩ (by omega) (by decide) (Nat.le_of_ble_eq_true rfl) (s_X10_product (d := d - 1) (by omega) (by omega) hR hw) ?_
  clear hw
  intro h7 hw
  refine PW.ald0n C dX10_sum_39 ?_
  refine PW.iconst (v := 2) C dX10_sum_40 (by decide) ?_
  refine PW.ild1n C dX10_sum_41 ?_
  refine PW.callVV2 C ms_X10_puts ml_X10_378 dX10_sum_42 oM_0 ⟨_, _, rfl⟩ (by omega) (by decide) (Nat.le_of_ble_eq_true rfl) (s_X10_puts hw) ?_
  clear hw
  intro h8 hw
  refine PW.goto (tgt := 4) C dX10_sum_45 (by decide) ?_
  exact PW.wk (wk_s (wk_n wk_0)) (hkb _ hw)
def w_X10_sum_4 (R : Nat → PH → (PH → Prop) → Prop) (k48 : PH → Prop) (Q : PH → Prop) (kb : PH → Prop) (h : PH) : Prop :=
  w_X10_isSign 43 h (fun z3 h2 => if z3 = 0 then (w_X10_isSign 45 h2 (fun z10 h9 => if z10 = 0 then (k48 h9) else (w_X10_sum_22 R Q kb h9))) else (w_X10_sum_22 R Q kb h2))
set_option maxRecDepth 8000 in
theorem b_X10_sum_4 {D : va_G} {ca : Nat → ClassId} {ad : Nat → Nat} {K : Kt} {d d9 : Nat} {R : Nat → PH → (PH → Prop) → Prop} {k48 : PH → Prop} {kb : PH → Prop} {Q : PH → Prop} {h : PH} (C : CX (GM D ca ad) (XS (GM D ca ad)) cX10_sum RX10 2 none d K) (hdd : d9 + 3 ≤ d) (hda : 10 ≤ d) (hR : ∀ (h : PH) (Q : PH → Prop), (R 0 h Q → Sp (GM D ca ad) (XS (GM D ca ad)) K.l d9 yX10_expression cX10_expression 1 none [.ref 0] h (qV Q)) ∧ (R 1 h Q → Sp (GM D ca ad) (XS (GM D ca ad)) K.l d9 yX10_negation cX10_negation 2 none [.ref 0] h (qV Q))) (hk48 : ∀ (h : PH), k48 h → PW (GM D ca ad) K 2 (qV Q) h 48 [none, none] []) (hkb : ∀ (h : PH), kb h → PW (GM D ca ad) K 2 (qV Q) h 4 [some (.ref 0), none] []) (hw : w_X10_sum_4 R k48 Q kb h) : PW (GM D ca ad) K 2 (qV Q) h 4 [some (.ref 0), none] [] := by
  unfold w_X10_sum_4 at hw
  refine PW.ald0n C dX10_sum_4 ?_
  refine PW.bipush (v := 43) C dX10_sum_5 (by decide) ?_
  refine PW.callVI1 C ms_X10_isSign ml_X10_357 dX10_sum_7 oM_0 ⟨_, _, rfl⟩ (by omega) (by decide) (Nat.le_of_ble_eq_true rfl) (s_X10_isSign hw) ?_
  clear hw
  intro z3 h2 hw
  refine PW.if_ne (tgt := 22) C dX10_sum_10 (by decide) (fun c => ?_) (fun c => ?_)
  · rw [if_neg c] at hw
    exact PW.wk (wk_s (wk_n wk_0)) (b_X10_sum_22 C hdd hda hR hkb hw)
  · rw [if_pos c] at hw
    refine PW.ald0n C dX10_sum_13 ?_
    refine PW.bipush (v := 45) C dX10_sum_14 (by decide) ?_
    refine PW.callVI1 C ms_X10_isSign ml_X10_357 dX10_sum_16 oM_0 ⟨_, _, rfl⟩ (by omega) (by decide) (Nat.le_of_ble_eq_true rfl) (s_X10_isSign hw) ?_
    clear hw
    intro z10 h9 hw
    refine PW.if_eq (tgt := 48) C dX10_sum_19 (by decide) (fun c => ?_) (fun c => ?_)
    · rw [if_pos c] at hw
      exact PW.wk (wk_n (wk_n wk_0)) (hk48 _ hw)
    · rw [if_neg c] at hw
      exact PW.wk (wk_s (wk_n wk_0)) (b_X10_sum_22 C hdd hda hR hkb hw)
theorem l_X10_sum_4 {D : va_G} {ca : Nat → ClassId} {ad : Nat → Nat} {K : Kt} {d d9 : Nat} {R : Nat → PH → (PH → Prop) → Prop} {k48 : PH → Prop} {Q : PH → Prop} (C : CX (GM D ca ad) (XS (GM D ca ad)) cX10_sum RX10 2 none d K) (hdd : d9 + 3 ≤ d) (hda : 10 ≤ d) (hR : ∀ (h : PH) (Q : PH → Prop), (R 0 h Q → Sp (GM D ca ad) (XS (GM D ca ad)) K.l d9 yX10_expression cX10_expression 1 none [.ref 0] h (qV Q)) ∧ (R 1 h Q → Sp (GM D ca ad) (XS (GM D ca ad)) K.l d9 yX10_negation cX10_negation 2 none [.ref 0] h (qV Q))) (hk48 : ∀ (h : PH), k48 h → PW (GM D ca ad) K 2 (qV Q) h 48 [none, none] []) : ∀ (n : Nat) (h : PH), Lp0 (w_X10_sum_4 R k48 Q) n h → PW (GM D ca ad) K 2 (qV Q) h 4 [some (.ref 0), none] [] := by
  intro n
  induction n with
  | zero => intro h hw; exact hw.elim
  | succ n ih => intro h hw; exact b_X10_sum_4 C hdd hda hR hk48 (fun h hw => ih h hw) hw
def w_X10_sum (R : Nat → PH → (PH → Prop) → Prop) (h : PH) (Q : PH → Prop) : Prop :=
  w_X10_product R h (fun h1 => ∃ n, Lp0 (w_X10_sum_4 R (fun h11 => Q h11) Q) n h1)
set_option maxRecDepth 8000 in
theorem s_X10_sum {D : va_G} {ca : Nat → ClassId} {ad : Nat → Nat} {l : Launch} {R : Nat → PH → (PH → Prop) → Prop} {d d9 : Nat} {h : PH} {Q : PH → Prop} (hdd : d9 + 3 ≤ d) (hda : 10 ≤ d) (hR : ∀ (h : PH) (Q : PH → Prop), (R 0 h Q → Sp (GM D ca ad) (XS (GM D ca ad)) l d9 yX10_expression cX10_expression 1 none [.ref 0] h (qV Q)) ∧ (R 1 h Q → Sp (GM D ca ad) (XS (GM D ca ad)) l d9 yX10_negation cX10_negation 2 none [.ref 0] h (qV Q))) (hw : w_X10_sum R h Q) : Sp (GM D ca ad) (XS (GM D ca ad)) l d yX10_sum cX10_sum 2 none [.ref 0] h (qV Q) := by
  refine Sp.of (own := RX10) [some (.ref 0), none] (by decide +kernel) rfl rfl (Nat.le_of_ble_eq_true rfl) (fun K hl C => ?_)
  subst hl
  unfold w_X10_sum at hw
  refine PW.ald0n C dX10_sum_0 ?_
  refine PW.callVV0 C ms_X10_product ml_X10_387 dX10_sum_1 oM_0 ⟨_, _, rfl⟩ (by omega) (by decide) (Nat.le_of_ble_eq_true rfl) (s_X10_product (d := d - 1) (by omega) (by omega) hR hw) ?_
  clear hw
  intro h1 hw
  obtain ⟨n, hw⟩ := hw
  refine PW.wk (wk_s (wk_n wk_0)) (l_X10_sum_4 C hdd hda hR ?_ n _ hw)
  · intro h11 hw
    exact PW.vret C dX10_sum_48 ⟨rfl, hw⟩
def w_X10_negation_87 (R : Nat → PH → (PH → Prop) → Prop) (Q : PH → Prop) (h : PH) : Prop :=
  ∀ (y4 : Int32), y4 = (gI h 0 39) → w_X10_knot h (fun h5 => w_X10_goOn h5 (fun h6 => w_X10_sum R h6 (fun h7 => w_X10_puts 2 y4 h7 (fun h8 => Q h8))))
set_option maxRecDepth 8000 in
theorem b_X10_negation_87 {D : va_G} {ca : Nat → ClassId} {ad : Nat → Nat} {K : Kt} {d d9 : Nat} {R : Nat → PH → (PH → Prop) → Prop} {Q : PH → Prop} {h : PH} (C : CX (GM D ca ad) (XS (GM D ca ad)) cX10_negation RX10 2 none d K) (hdd : d9 + 4 ≤ d) (hda : 11 ≤ d) (hR : ∀ (h : PH) (Q : PH → Prop), (R 0 h Q → Sp (GM D ca ad) (XS (GM D ca ad)) K.l d9 yX10_expression cX10_expression 1 none [.ref 0] h (qV Q)) ∧ (R 1 h Q → Sp (GM D ca ad) (XS (GM D ca ad)) K.l d9 yX10_negation cX10_negation 2 none [.ref 0] h (qV Q))) (hw : w_X10_negation_87 R Q h) : PW (GM D ca ad) K 2 (qV Q) h 87 [some (.ref 0), none] [] := by
  unfold w_X10_negation_87 at hw
  refine PW.ald0n C dX10_negation_87 ?_
  refine PW.get0 C cf_10 fl_X10_264 (by decide) oM_0 (fvI rfl) dX10_negation_88 ?_
  replace hw := hw _ rfl
  refine PW.ist1n C dX10_negation_91 (by decide) rfl ?_
  refine PW.ald0n C dX10_negation_92 ?_
  refine PW.callVV0 C ms_X10_knot ml_X10_375 dX10_negation_93 oM_0 ⟨_, _, rfl⟩ (by omega) (by decide) (Nat.le_of_ble_eq_true rfl) (s_X10_knot hw) ?_
  clear hw
  intro h5 hw
  refine PW.ald0n C dX10_negation_96 ?_
  refine PW.callVV0 C ms_X10_goOn ml_X10_316 dX10_negation_97 oM_0 ⟨_, _, rfl⟩ (by omega) (by decide) (Nat.le_of_ble_eq_true rfl) (s_X10_goOn hw) ?_
  clear hw
  intro h6 hw
  refine PW.ald0n C dX10_negation_100 ?_
  refine PW.callVV0 C ms_X10_sum ml_X10_384 dX10_negation_101 oM_0 ⟨_, _, rfl⟩ (by omega) (by decide) (Nat.le_of_ble_eq_true rfl) (s_X10_sum (d := d - 1) (by omega) (by omega) hR hw) ?_
  clear hw
  intro h7 hw
  refine PW.ald0n C dX10_negation_104 ?_
  refine PW.iconst (v := 2) C dX10_negation_105 (by decide) ?_
  refine PW.ild1n C dX10_negation_106 ?_
  refine PW.callVV2 C ms_X10_puts ml_X10_378 dX10_negation_107 oM_0 ⟨_, _, rfl⟩ (by omega) (by decide) (Nat.le_of_ble_eq_true rfl) (s_X10_puts hw) ?_
  clear hw
  intro h8 hw
  exact PW.vret C dX10_negation_110 ⟨rfl, hw⟩
def w_X10_negation (R : Nat → PH → (PH → Prop) → Prop) (h : PH) (Q : PH → Prop) : Prop :=
  w_X10_isWord 17 h (fun z2 h1 => if z2 = 0 then (w_X10_sum R h1 (fun h3 => if (gI h3 0 40) = 0 then (if (gI h3 0 38) = 3 then (if (gI h3 0 39) = 60 then (w_X10_negation_87 R Q h3) else (if (gI h3 0 39) = 62 then (w_X10_negation_87 R Q h3) else (if (gI h3 0 39) = 61 then (w_X10_negation_87 R Q h3) else (if 256 ≤ (gI h3 0 39) then (w_X10_negation_87 R Q h3) else (Q h3))))) else (Q h3)) else (Q h3))) else (w_X10_knot h1 (fun h9 => w_X10_goOn h9 (fun h10 => R 1 h10 (fun h11 => w_X10_puts 2 260 h11 (fun h12 => Q h12))))))
set_option maxRecDepth 8000 in
theorem s_X10_negation {D : va_G} {ca : Nat → ClassId} {ad : Nat → Nat} {l : Launch} {R : Nat → PH → (PH → Prop) → Prop} {d d9 : Nat} {h : PH} {Q : PH → Prop} (hdd : d9 + 4 ≤ d) (hda : 11 ≤ d) (hR : ∀ (h : PH) (Q : PH → Prop), (R 0 h Q → Sp (GM D ca ad) (XS (GM D ca ad)) l d9 yX10_expression cX10_expression 1 none [.ref 0] h (qV Q)) ∧ (R 1 h Q → Sp (GM D ca ad) (XS (GM D ca ad)) l d9 yX10_negation cX10_negation 2 none [.ref 0] h (qV Q))) (hw : w_X10_negation R h Q) : Sp (GM D ca ad) (XS (GM D ca ad)) l d yX10_negation cX10_negation 2 none [.ref 0] h (qV Q) := by
  refine Sp.of (own := RX10) [some (.ref 0), none] (by decide +kernel) rfl rfl (Nat.le_of_ble_eq_true rfl) (fun K hl C => ?_)
  subst hl
  unfold w_X10_negation at hw
  refine PW.ald0n C dX10_negation_0 ?_
  refine PW.bipush (v := 17) C dX10_negation_1 (by decide) ?_
  refine PW.callVI1 C ms_X10_isWord ml_X10_372 dX10_negation_3 oM_0 ⟨_, _, rfl⟩ (by omega) (by decide) (Nat.le_of_ble_eq_true rfl) (s_X10_isWord hw) ?_
  clear hw
  intro z2 h1 hw
  refine PW.if_eq (tgt := 30) C dX10_negation_6 (by decide) (fun c => ?_) (fun c => ?_)
  · rw [if_pos c] at hw
    refine PW.ald0n C dX10_negation_30 ?_
    refine PW.callVV0 C ms_X10_sum ml_X10_384 dX10_negation_31 oM_0 ⟨_, _, rfl⟩ (by omega) (by decide) (Nat.le_of_ble_eq_true rfl) (s_X10_sum (d := d - 1) (by omega) (by omega) hR hw) ?_
    clear hw
    intro h3 hw
    refine PW.ald0n C dX10_negation_34 ?_
    refine PW.get0 C cf_10 fl_X10_289 (by decide) oM_0 (fvI rfl) dX10_negation_35 ?_
    refine PW.if_ne (tgt := 86) C dX10_negation_38 (by decide) (fun c => ?_) (fun c => ?_)
    · rw [if_neg c] at hw
      exact PW.vret C dX10_negation_86 ⟨rfl, hw⟩
    · rw [if_pos c] at hw
      refine PW.ald0n C dX10_negation_41 ?_
      refine PW.get0 C cf_10 fl_X10_254 (by decide) oM_0 (fvI rfl) dX10_negation_42 ?_
      refine PW.iconst (v := 3) C dX10_negation_45 (by decide) ?_
      refine PW.icmp_ne (tgt := 86) C dX10_negation_46 (by decide) (fun c => ?_) (fun c => ?_)
      · rw [if_neg c] at hw
        exact PW.vret C dX10_negation_86 ⟨rfl, hw⟩
      · rw [if_pos c] at hw
        refine PW.ald0n C dX10_negation_49 ?_
        refine PW.get0 C cf_10 fl_X10_264 (by decide) oM_0 (fvI rfl) dX10_negation_50 ?_
        refine PW.bipush (v := 60) C dX10_negation_53 (by decide) ?_
        refine PW.icmp_eq (tgt := 87) C dX10_negation_55 (by decide) (fun c => ?_) (fun c => ?_)
        · rw [if_pos c] at hw
          exact PW.wk (wk_s (wk_n wk_0)) (b_X10_negation_87 C hdd hda hR hw)
        · rw [if_neg c] at hw
          refine PW.ald0n C dX10_negation_58 ?_
          refine PW.get0 C cf_10 fl_X10_264 (by decide) oM_0 (fvI rfl) dX10_negation_59 ?_
          refine PW.bipush (v := 62) C dX10_negation_62 (by decide) ?_
          refine PW.icmp_eq (tgt := 87) C dX10_negation_64 (by decide) (fun c => ?_) (fun c => ?_)
          · rw [if_pos c] at hw
            exact PW.wk (wk_s (wk_n wk_0)) (b_X10_negation_87 C hdd hda hR hw)
          · rw [if_neg c] at hw
            refine PW.ald0n C dX10_negation_67 ?_
            refine PW.get0 C cf_10 fl_X10_264 (by decide) oM_0 (fvI rfl) dX10_negation_68 ?_
            refine PW.bipush (v := 61) C dX10_negation_71 (by decide) ?_
            refine PW.icmp_eq (tgt := 87) C dX10_negation_73 (by decide) (fun c => ?_) (fun c => ?_)
            · rw [if_pos c] at hw
              exact PW.wk (wk_s (wk_n wk_0)) (b_X10_negation_87 C hdd hda hR hw)
            · rw [if_neg c] at hw
              refine PW.ald0n C dX10_negation_76 ?_
              refine PW.get0 C cf_10 fl_X10_264 (by decide) oM_0 (fvI rfl) dX10_negation_77 ?_
              refine PW.sipush (v := 256) C dX10_negation_80 (by decide) ?_
              refine PW.icmp_ge (tgt := 87) C dX10_negation_83 (by decide) (fun c => ?_) (fun c => ?_)
              · rw [if_pos c] at hw
                exact PW.wk (wk_s (wk_n wk_0)) (b_X10_negation_87 C hdd hda hR hw)
              · rw [if_neg c] at hw
                exact PW.vret C dX10_negation_86 ⟨rfl, hw⟩
  · rw [if_neg c] at hw
    refine PW.ald0n C dX10_negation_9 ?_
    refine PW.callVV0 C ms_X10_knot ml_X10_375 dX10_negation_10 oM_0 ⟨_, _, rfl⟩ (by omega) (by decide) (Nat.le_of_ble_eq_true rfl) (s_X10_knot hw) ?_
    clear hw
    intro h9 hw
    refine PW.ald0n C dX10_negation_13 ?_
    refine PW.callVV0 C ms_X10_goOn ml_X10_316 dX10_negation_14 oM_0 ⟨_, _, rfl⟩ (by omega) (by decide) (Nat.le_of_ble_eq_true rfl) (s_X10_goOn hw) ?_
    clear hw
    intro h10 hw
    refine PW.ald0n C dX10_negation_17 ?_
    refine PW.callVV0 C ms_X10_negation ml_X10_381 dX10_negation_18 oM_0 ⟨_, _, rfl⟩ (by omega) (by decide) (Nat.le_of_ble_eq_true rfl) ((hR _ _).2 hw) ?_
    clear hw
    intro h11 hw
    refine PW.ald0n C dX10_negation_21 ?_
    refine PW.iconst (v := 2) C dX10_negation_22 (by decide) ?_
    refine PW.sipush (v := 260) C dX10_negation_23 (by decide) ?_
    refine PW.callVV2 C ms_X10_puts ml_X10_378 dX10_negation_26 oM_0 ⟨_, _, rfl⟩ (by omega) (by decide) (Nat.le_of_ble_eq_true rfl) (s_X10_puts hw) ?_
    clear hw
    intro h12 hw
    exact PW.vret C dX10_negation_29 ⟨rfl, hw⟩
def w_X10_conjunction_4 (R : Nat → PH → (PH → Prop) → Prop) (k36 : PH → Prop) (Q : PH → Prop) (kb : PH → Prop) (h : PH) : Prop :=
  w_X10_isWord 16 h (fun z3 h2 => if z3 = 0 then (k36 h2) else (w_X10_knot h2 (fun h4 => w_X10_goOn h4 (fun h5 => w_X10_negation R h5 (fun h6 => w_X10_puts 2 261 h6 (fun h7 => kb h7))))))
set_option maxRecDepth 8000 in
theorem b_X10_conjunction_4 {D : va_G} {ca : Nat → ClassId} {ad : Nat → Nat} {K : Kt} {d d9 : Nat} {R : Nat → PH → (PH → Prop) → Prop} {k36 : PH → Prop} {kb : PH → Prop} {Q : PH → Prop} {h : PH} (C : CX (GM D ca ad) (XS (GM D ca ad)) cX10_conjunction RX10 1 none d K) (hdd : d9 + 5 ≤ d) (hda : 12 ≤ d) (hR : ∀ (h : PH) (Q : PH → Prop), (R 0 h Q → Sp (GM D ca ad) (XS (GM D ca ad)) K.l d9 yX10_expression cX10_expression 1 none [.ref 0] h (qV Q)) ∧ (R 1 h Q → Sp (GM D ca ad) (XS (GM D ca ad)) K.l d9 yX10_negation cX10_negation 2 none [.ref 0] h (qV Q))) (hk36 : ∀ (h : PH), k36 h → PW (GM D ca ad) K 1 (qV Q) h 36 [none] []) (hkb : ∀ (h : PH), kb h → PW (GM D ca ad) K 1 (qV Q) h 4 [some (.ref 0)] []) (hw : w_X10_conjunction_4 R k36 Q kb h) : PW (GM D ca ad) K 1 (qV Q) h 4 [some (.ref 0)] [] := by
  unfold w_X10_conjunction_4 at hw
  refine PW.ald0n C dX10_conjunction_4 ?_
  refine PW.bipush (v := 16) C dX10_conjunction_5 (by decide) ?_
  refine PW.callVI1 C ms_X10_isWord ml_X10_372 dX10_conjunction_7 oM_0 ⟨_, _, rfl⟩ (by omega) (by decide) (Nat.le_of_ble_eq_true rfl) (s_X10_isWord hw) ?_
  clear hw
  intro z3 h2 hw
  refine PW.if_eq (tgt := 36) C dX10_conjunction_10 (by decide) (fun c => ?_) (fun c => ?_)
  · rw [if_pos c] at hw
    exact PW.wk (wk_n wk_0) (hk36 _ hw)
  · rw [if_neg c] at hw
    refine PW.ald0n C dX10_conjunction_13 ?_
    refine PW.callVV0 C ms_X10_knot ml_X10_375 dX10_conjunction_14 oM_0 ⟨_, _, rfl⟩ (by omega) (by decide) (Nat.le_of_ble_eq_true rfl) (s_X10_knot hw) ?_
    clear hw
    intro h4 hw
    refine PW.ald0n C dX10_conjunction_17 ?_
    refine PW.callVV0 C ms_X10_goOn ml_X10_316 dX10_conjunction_18 oM_0 ⟨_, _, rfl⟩ (by omega) (by decide) (Nat.le_of_ble_eq_true rfl) (s_X10_goOn hw) ?_
    clear hw
    intro h5 hw
    refine PW.ald0n C dX10_conjunction_21 ?_
    refine PW.callVV0 C ms_X10_negation ml_X10_381 dX10_conjunction_22 oM_0 ⟨_, _, rfl⟩ (by omega) (by decide) (Nat.le_of_ble_eq_true rfl) (s_X10_negation (d := d - 1) (by omega) (by omega) hR hw) ?_
    clear hw
    intro h6 hw
    refine PW.ald0n C dX10_conjunction_25 ?_
    refine PW.iconst (v := 2) C dX10_conjunction_26 (by decide) ?_
    refine PW.sipush (v := 261) C dX10_conjunction_27 (by decide) ?_
    refine PW.callVV2 C ms_X10_puts ml_X10_378 dX10_conjunction_30 oM_0 ⟨_, _, rfl⟩ (by omega) (by decide) (Nat.le_of_ble_eq_true rfl) (s_X10_puts hw) ?_
    clear hw
    intro h7 hw
    refine PW.goto (tgt := 4) C dX10_conjunction_33 (by decide) ?_
    exact PW.wk (wk_s wk_0) (hkb _ hw)
theorem l_X10_conjunction_4 {D : va_G} {ca : Nat → ClassId} {ad : Nat → Nat} {K : Kt} {d d9 : Nat} {R : Nat → PH → (PH → Prop) → Prop} {k36 : PH → Prop} {Q : PH → Prop} (C : CX (GM D ca ad) (XS (GM D ca ad)) cX10_conjunction RX10 1 none d K) (hdd : d9 + 5 ≤ d) (hda : 12 ≤ d) (hR : ∀ (h : PH) (Q : PH → Prop), (R 0 h Q → Sp (GM D ca ad) (XS (GM D ca ad)) K.l d9 yX10_expression cX10_expression 1 none [.ref 0] h (qV Q)) ∧ (R 1 h Q → Sp (GM D ca ad) (XS (GM D ca ad)) K.l d9 yX10_negation cX10_negation 2 none [.ref 0] h (qV Q))) (hk36 : ∀ (h : PH), k36 h → PW (GM D ca ad) K 1 (qV Q) h 36 [none] []) : ∀ (n : Nat) (h : PH), Lp0 (w_X10_conjunction_4 R k36 Q) n h → PW (GM D ca ad) K 1 (qV Q) h 4 [some (.ref 0)] [] := by
  intro n
  induction n with
  | zero => intro h hw; exact hw.elim
  | succ n ih => intro h hw; exact b_X10_conjunction_4 C hdd hda hR hk36 (fun h hw => ih h hw) hw
def w_X10_conjunction (R : Nat → PH → (PH → Prop) → Prop) (h : PH) (Q : PH → Prop) : Prop :=
  w_X10_negation R h (fun h1 => ∃ n, Lp0 (w_X10_conjunction_4 R (fun h8 => Q h8) Q) n h1)
set_option maxRecDepth 8000 in
theorem s_X10_conjunction {D : va_G} {ca : Nat → ClassId} {ad : Nat → Nat} {l : Launch} {R : Nat → PH → (PH → Prop) → Prop} {d d9 : Nat} {h : PH} {Q : PH → Prop} (hdd : d9 + 5 ≤ d) (hda : 12 ≤ d) (hR : ∀ (h : PH) (Q : PH → Prop), (R 0 h Q → Sp (GM D ca ad) (XS (GM D ca ad)) l d9 yX10_expression cX10_expression 1 none [.ref 0] h (qV Q)) ∧ (R 1 h Q → Sp (GM D ca ad) (XS (GM D ca ad)) l d9 yX10_negation cX10_negation 2 none [.ref 0] h (qV Q))) (hw : w_X10_conjunction R h Q) : Sp (GM D ca ad) (XS (GM D ca ad)) l d yX10_conjunction cX10_conjunction 1 none [.ref 0] h (qV Q) := by
  refine Sp.of (own := RX10) [some (.ref 0)] (by decide +kernel) rfl rfl (Nat.le_of_ble_eq_true rfl) (fun K hl C => ?_)
  subst hl
  unfold w_X10_conjunction at hw
  refine PW.ald0n C dX10_conjunction_0 ?_
  refine PW.callVV0 C ms_X10_negation ml_X10_381 dX10_conjunction_1 oM_0 ⟨_, _, rfl⟩ (by omega) (by decide) (Nat.le_of_ble_eq_true rfl) (s_X10_negation (d := d - 1) (by omega) (by omega) hR hw) ?_
  clear hw
  intro h1 hw
  obtain ⟨n, hw⟩ := hw
  refine PW.wk (wk_s wk_0) (l_X10_conjunction_4 C hdd hda hR ?_ n _ hw)
  · intro h8 hw
    exact PW.vret C dX10_conjunction_36 ⟨rfl, hw⟩
def w_X10_expression_4 (R : Nat → PH → (PH → Prop) → Prop) (k36 : PH → Prop) (Q : PH → Prop) (kb : PH → Prop) (h : PH) : Prop :=
  w_X10_isWord 15 h (fun z3 h2 => if z3 = 0 then (k36 h2) else (w_X10_knot h2 (fun h4 => w_X10_goOn h4 (fun h5 => w_X10_conjunction R h5 (fun h6 => w_X10_puts 2 262 h6 (fun h7 => kb h7))))))
set_option maxRecDepth 8000 in
theorem b_X10_expression_4 {D : va_G} {ca : Nat → ClassId} {ad : Nat → Nat} {K : Kt} {d d9 : Nat} {R : Nat → PH → (PH → Prop) → Prop} {k36 : PH → Prop} {kb : PH → Prop} {Q : PH → Prop} {h : PH} (C : CX (GM D ca ad) (XS (GM D ca ad)) cX10_expression RX10 1 none d K) (hdd : d9 + 6 ≤ d) (hda : 13 ≤ d) (hR : ∀ (h : PH) (Q : PH → Prop), (R 0 h Q → Sp (GM D ca ad) (XS (GM D ca ad)) K.l d9 yX10_expression cX10_expression 1 none [.ref 0] h (qV Q)) ∧ (R 1 h Q → Sp (GM D ca ad) (XS (GM D ca ad)) K.l d9 yX10_negation cX10_negation 2 none [.ref 0] h (qV Q))) (hk36 : ∀ (h : PH), k36 h → PW (GM D ca ad) K 1 (qV Q) h 36 [none] []) (hkb : ∀ (h : PH), kb h → PW (GM D ca ad) K 1 (qV Q) h 4 [some (.ref 0)] []) (hw : w_X10_expression_4 R k36 Q kb h) : PW (GM D ca ad) K 1 (qV Q) h 4 [some (.ref 0)] [] := by
  unfold w_X10_expression_4 at hw
  refine PW.ald0n C dX10_expression_4 ?_
  refine PW.bipush (v := 15) C dX10_expression_5 (by decide) ?_
  refine PW.callVI1 C ms_X10_isWord ml_X10_372 dX10_expression_7 oM_0 ⟨_, _, rfl⟩ (by omega) (by decide) (Nat.le_of_ble_eq_true rfl) (s_X10_isWord hw) ?_
  clear hw
  intro z3 h2 hw
  refine PW.if_eq (tgt := 36) C dX10_expression_10 (by decide) (fun c => ?_) (fun c => ?_)
  · rw [if_pos c] at hw
    exact PW.wk (wk_n wk_0) (hk36 _ hw)
  · rw [if_neg c] at hw
    refine PW.ald0n C dX10_expression_13 ?_
    refine PW.callVV0 C ms_X10_knot ml_X10_375 dX10_expression_14 oM_0 ⟨_, _, rfl⟩ (by omega) (by decide) (Nat.le_of_ble_eq_true rfl) (s_X10_knot hw) ?_
    clear hw
    intro h4 hw
    refine PW.ald0n C dX10_expression_17 ?_
    refine PW.callVV0 C ms_X10_goOn ml_X10_316 dX10_expression_18 oM_0 ⟨_, _, rfl⟩ (by omega) (by decide) (Nat.le_of_ble_eq_true rfl) (s_X10_goOn hw) ?_
    clear hw
    intro h5 hw
    refine PW.ald0n C dX10_expression_21 ?_
    refine PW.callVV0 C ms_X10_conjunction ml_X10_369 dX10_expression_22 oM_0 ⟨_, _, rfl⟩ (by omega) (by decide) (Nat.le_of_ble_eq_true rfl) (s_X10_conjunction (d := d - 1) (by omega) (by omega) hR hw) ?_
    clear hw
    intro h6 hw
    refine PW.ald0n C dX10_expression_25 ?_
    refine PW.iconst (v := 2) C dX10_expression_26 (by decide) ?_
    refine PW.sipush (v := 262) C dX10_expression_27 (by decide) ?_
    refine PW.callVV2 C ms_X10_puts ml_X10_378 dX10_expression_30 oM_0 ⟨_, _, rfl⟩ (by omega) (by decide) (Nat.le_of_ble_eq_true rfl) (s_X10_puts hw) ?_
    clear hw
    intro h7 hw
    refine PW.goto (tgt := 4) C dX10_expression_33 (by decide) ?_
    exact PW.wk (wk_s wk_0) (hkb _ hw)
theorem l_X10_expression_4 {D : va_G} {ca : Nat → ClassId} {ad : Nat → Nat} {K : Kt} {d d9 : Nat} {R : Nat → PH → (PH → Prop) → Prop} {k36 : PH → Prop} {Q : PH → Prop} (C : CX (GM D ca ad) (XS (GM D ca ad)) cX10_expression RX10 1 none d K) (hdd : d9 + 6 ≤ d) (hda : 13 ≤ d) (hR : ∀ (h : PH) (Q : PH → Prop), (R 0 h Q → Sp (GM D ca ad) (XS (GM D ca ad)) K.l d9 yX10_expression cX10_expression 1 none [.ref 0] h (qV Q)) ∧ (R 1 h Q → Sp (GM D ca ad) (XS (GM D ca ad)) K.l d9 yX10_negation cX10_negation 2 none [.ref 0] h (qV Q))) (hk36 : ∀ (h : PH), k36 h → PW (GM D ca ad) K 1 (qV Q) h 36 [none] []) : ∀ (n : Nat) (h : PH), Lp0 (w_X10_expression_4 R k36 Q) n h → PW (GM D ca ad) K 1 (qV Q) h 4 [some (.ref 0)] [] := by
  intro n
  induction n with
  | zero => intro h hw; exact hw.elim
  | succ n ih => intro h hw; exact b_X10_expression_4 C hdd hda hR hk36 (fun h hw => ih h hw) hw
def w_X10_expression (R : Nat → PH → (PH → Prop) → Prop) (h : PH) (Q : PH → Prop) : Prop :=
  w_X10_conjunction R h (fun h1 => ∃ n, Lp0 (w_X10_expression_4 R (fun h8 => Q h8) Q) n h1)
set_option maxRecDepth 8000 in
theorem s_X10_expression {D : va_G} {ca : Nat → ClassId} {ad : Nat → Nat} {l : Launch} {R : Nat → PH → (PH → Prop) → Prop} {d d9 : Nat} {h : PH} {Q : PH → Prop} (hdd : d9 + 6 ≤ d) (hda : 13 ≤ d) (hR : ∀ (h : PH) (Q : PH → Prop), (R 0 h Q → Sp (GM D ca ad) (XS (GM D ca ad)) l d9 yX10_expression cX10_expression 1 none [.ref 0] h (qV Q)) ∧ (R 1 h Q → Sp (GM D ca ad) (XS (GM D ca ad)) l d9 yX10_negation cX10_negation 2 none [.ref 0] h (qV Q))) (hw : w_X10_expression R h Q) : Sp (GM D ca ad) (XS (GM D ca ad)) l d yX10_expression cX10_expression 1 none [.ref 0] h (qV Q) := by
  refine Sp.of (own := RX10) [some (.ref 0)] (by decide +kernel) rfl rfl (Nat.le_of_ble_eq_true rfl) (fun K hl C => ?_)
  subst hl
  unfold w_X10_expression at hw
  refine PW.ald0n C dX10_expression_0 ?_
  refine PW.callVV0 C ms_X10_conjunction ml_X10_369 dX10_expression_1 oM_0 ⟨_, _, rfl⟩ (by omega) (by decide) (Nat.le_of_ble_eq_true rfl) (s_X10_conjunction (d := d - 1) (by omega) (by omega) hR hw) ?_
  clear hw
  intro h1 hw
  obtain ⟨n, hw⟩ := hw
  refine PW.wk (wk_s wk_0) (l_X10_expression_4 C hdd hda hR ?_ n _ hw)
  · intro h8 hw
    exact PW.vret C dX10_expression_36 ⟨rfl, hw⟩
def RR : Nat → Nat → PH → (PH → Prop) → Prop
  | 0 => fun _ _ _ => False
  | n + 1 => fun k h Q => if k = 0 then w_X10_expression (RR n) h Q else w_X10_negation (RR n) h Q
theorem s_RR {D : va_G} {ca : Nat → ClassId} {ad : Nat → Nat} {l : Launch} : ∀ (n : Nat) (h : PH) (Q : PH → Prop), (RR n 0 h Q → Sp (GM D ca ad) (XS (GM D ca ad)) l (13 + 6 * n) yX10_expression cX10_expression 1 none [.ref 0] h (qV Q)) ∧ (RR n 1 h Q → Sp (GM D ca ad) (XS (GM D ca ad)) l (13 + 6 * n) yX10_negation cX10_negation 2 none [.ref 0] h (qV Q)) := by
  intro n
  induction n with
  | zero => intro h Q; exact ⟨fun hw => hw.elim, fun hw => hw.elim⟩
  | succ n ih =>
    intro h Q
    refine ⟨fun hw => ?_, fun hw => ?_⟩
    · exact s_X10_expression (R := RR n) (d9 := 13 + 6 * n) (by omega) (by omega) ih (by simpa [RR] using hw)
    · exact s_X10_negation (R := RR n) (d9 := 13 + 6 * n) (by omega) (by omega) ih (by simpa [RR] using hw)
def w_expr (h : PH) (Q : PH → Prop) : Prop := ∃ n, n ≤ 75 ∧ RR n 0 h Q
theorem s_expr {D : va_G} {ca : Nat → ClassId} {ad : Nat → Nat} {l : Launch} {h : PH} {Q : PH → Prop} (hw : w_expr h Q) : Sp (GM D ca ad) (XS (GM D ca ad)) l 500 yX10_expression cX10_expression 1 none [.ref 0] h (qV Q) := by
  obtain ⟨n, hn, hw⟩ := hw
  exact Sp.mono (by omega) ((s_RR n h Q).1 hw)
def w_X10_lawLine_65 (Q : PH → Prop) (x1 : Int32) (h : PH) : Prop :=
  if (gI h 0 40) = 0 then (∀ h3, h3 = sI h 0 33 ((gI h 0 33) ||| ((1 : Int32) <<< (((16 + x1) : Int32) &&& 31))) → w_X10_token h3 (fun h4 => w_X10_fresher 10 h4 (fun z6 h5 => vp_in (2 + x1) 4 ∧ ∀ h8, h8 = sI h5 28 (iN (2 + x1)) z6 → w_expr h8 (fun h9 => w_X10_fresher 10 h9 (fun z11 h10 => vp_in (2 + x1) 4 ∧ ∀ h13, h13 = sI h10 29 (iN (2 + x1)) z11 → Q h13))))) else (Q h)
set_option maxRecDepth 8000 in
theorem b_X10_lawLine_65 {D : va_G} {ca : Nat → ClassId} {ad : Nat → Nat} {K : Kt} {Q : PH → Prop} {x1 : Int32} {h : PH} (C : CX (GM D ca ad) (XS (GM D ca ad)) cX10_lawLine RX10 2 none 501 K) (hw : w_X10_lawLine_65 Q x1 h) : PW (GM D ca ad) K 2 (qV Q) h 65 [some (.ref 0), some (.int x1)] [] := by
  unfold w_X10_lawLine_65 at hw
  refine PW.ald0n C dX10_lawLine_65 ?_
  refine PW.get0 C cf_10 fl_X10_289 (by decide) oM_0 (fvI rfl) dX10_lawLine_66 ?_
  refine PW.if_eq (tgt := 73) C dX10_lawLine_69 (by decide) (fun c => ?_) (fun c => ?_)
  · rw [if_pos c] at hw
    refine PW.ald0n C dX10_lawLine_73 ?_
    refine PW.dup C dX10_lawLine_74 rfl ?_
    refine PW.get0 C cf_10 fl_X10_325 (by decide) oM_0 (fvI rfl) dX10_lawLine_75 ?_
    refine PW.iconst (v := 1) C dX10_lawLine_78 (by decide) ?_
    refine PW.bipush (v := 16) C dX10_lawLine_79 (by decide) ?_
    refine PW.ild1n C dX10_lawLine_81 ?_
    refine PW.iadd C dX10_lawLine_82 ?_
    refine PW.ishl C dX10_lawLine_83 ?_
    refine PW.ior C dX10_lawLine_84 ?_
    replace hw := hw _ rfl
    refine PW.put0 C cf_10 fl_X10_325 (by decide) oM_0 rfl rfl rfl (pw_sI oM_0 (by decide) rfl) dX10_lawLine_85 ?_
    refine PW.ald0n C dX10_lawLine_88 ?_
    refine PW.callVV0 C ms_X10_token ml_X10_295 dX10_lawLine_89 oM_0 ⟨_, _, rfl⟩ (Nat.le_of_ble_eq_true rfl) (by decide) (Nat.le_of_ble_eq_true rfl) (s_X10_token hw) ?_
    clear hw
    intro h4 hw
    refine PW.ald0n C dX10_lawLine_92 ?_
    refine PW.get0 (v := .ref 28) C cf_10 fl_X10_91 (by decide) oM_0 (fvR (o := 28) rfl) dX10_lawLine_93 ?_
    refine PW.iconst (v := 2) C dX10_lawLine_96 (by decide) ?_
    refine PW.ild1n C dX10_lawLine_97 ?_
    refine PW.iadd C dX10_lawLine_98 ?_
    refine PW.ald0n C dX10_lawLine_99 ?_
    refine PW.bipush (v := 10) C dX10_lawLine_100 (by decide) ?_
    refine PW.callVI1 C ms_X10_fresher ml_X10_305 dX10_lawLine_102 oM_0 ⟨_, _, rfl⟩ (Nat.le_of_ble_eq_true rfl) (by decide) (Nat.le_of_ble_eq_true rfl) (s_X10_fresher hw) ?_
    clear hw
    intro z6 h5 hw
    obtain ⟨hc7, hw⟩ := hw
    replace hw := hw _ rfl
    refine PW.iast C dX10_lawLine_105 aM_28 hc7 ?_
    refine PW.ald0n C dX10_lawLine_106 ?_
    refine PW.callVV0 C ms_X10_expression ml_X10_363 dX10_lawLine_107 oM_0 ⟨_, _, rfl⟩ (Nat.le_of_ble_eq_true rfl) (by decide) (Nat.le_of_ble_eq_true rfl) (s_expr hw) ?_
    clear hw
    intro h9 hw
    refine PW.ald0n C dX10_lawLine_110 ?_
    refine PW.get0 (v := .ref 29) C cf_10 fl_X10_94 (by decide) oM_0 (fvR (o := 29) rfl) dX10_lawLine_111 ?_
    refine PW.iconst (v := 2) C dX10_lawLine_114 (by decide) ?_
    refine PW.ild1n C dX10_lawLine_115 ?_
    refine PW.iadd C dX10_lawLine_116 ?_
    refine PW.ald0n C dX10_lawLine_117 ?_
    refine PW.bipush (v := 10) C dX10_lawLine_118 (by decide) ?_
    refine PW.callVI1 C ms_X10_fresher ml_X10_305 dX10_lawLine_120 oM_0 ⟨_, _, rfl⟩ (Nat.le_of_ble_eq_true rfl) (by decide) (Nat.le_of_ble_eq_true rfl) (s_X10_fresher hw) ?_
    clear hw
    intro z11 h10 hw
    obtain ⟨hc12, hw⟩ := hw
    replace hw := hw _ rfl
    refine PW.iast C dX10_lawLine_123 aM_29 hc12 ?_
    exact PW.vret C dX10_lawLine_124 ⟨rfl, hw⟩
  · rw [if_neg c] at hw
    exact PW.vret C dX10_lawLine_72 ⟨rfl, hw⟩
def w_X10_lawLine_30 (Q : PH → Prop) (h : PH) : Prop :=
  ∀ (y2 : Int32), y2 = ((gI h 0 39) - 13) → if (gI h 0 40) = 0 then (if ((((gI h 0 33) : Int32) >>> (((16 + y2) : Int32) &&& 31)) &&& 1) = 1 then (w_X10_wrong 3 h (fun h14 => w_X10_lawLine_65 Q y2 h14)) else (w_X10_lawLine_65 Q y2 h)) else (w_X10_lawLine_65 Q y2 h)
set_option maxRecDepth 8000 in
theorem b_X10_lawLine_30 {D : va_G} {ca : Nat → ClassId} {ad : Nat → Nat} {K : Kt} {Q : PH → Prop} {h : PH} (C : CX (GM D ca ad) (XS (GM D ca ad)) cX10_lawLine RX10 2 none 501 K) (hw : w_X10_lawLine_30 Q h) : PW (GM D ca ad) K 2 (qV Q) h 30 [some (.ref 0), none] [] := by
  unfold w_X10_lawLine_30 at hw
  refine PW.ald0n C dX10_lawLine_30 ?_
  refine PW.get0 C cf_10 fl_X10_264 (by decide) oM_0 (fvI rfl) dX10_lawLine_31 ?_
  refine PW.bipush (v := 13) C dX10_lawLine_34 (by decide) ?_
  refine PW.isub C dX10_lawLine_36 ?_
  replace hw := hw _ rfl
  refine PW.ist1n C dX10_lawLine_37 (by decide) rfl ?_
  refine PW.ald0n C dX10_lawLine_38 ?_
  refine PW.get0 C cf_10 fl_X10_289 (by decide) oM_0 (fvI rfl) dX10_lawLine_39 ?_
  refine PW.if_ne (tgt := 65) C dX10_lawLine_42 (by decide) (fun c => ?_) (fun c => ?_)
  · rw [if_neg c] at hw
    exact PW.wk (wk_s (wk_s wk_0)) (b_X10_lawLine_65 C hw)
  · rw [if_pos c] at hw
    refine PW.ald0n C dX10_lawLine_45 ?_
    refine PW.get0 C cf_10 fl_X10_325 (by decide) oM_0 (fvI rfl) dX10_lawLine_46 ?_
    refine PW.bipush (v := 16) C dX10_lawLine_49 (by decide) ?_
    refine PW.ild1n C dX10_lawLine_51 ?_
    refine PW.iadd C dX10_lawLine_52 ?_
    refine PW.ishr C dX10_lawLine_53 ?_
    refine PW.iconst (v := 1) C dX10_lawLine_54 (by decide) ?_
    refine PW.iand C dX10_lawLine_55 ?_
    refine PW.iconst (v := 1) C dX10_lawLine_56 (by decide) ?_
    refine PW.icmp_ne (tgt := 65) C dX10_lawLine_57 (by decide) (fun c => ?_) (fun c => ?_)
    · rw [if_neg c] at hw
      exact PW.wk (wk_s (wk_s wk_0)) (b_X10_lawLine_65 C hw)
    · rw [if_pos c] at hw
      refine PW.ald0n C dX10_lawLine_60 ?_
      refine PW.iconst (v := 3) C dX10_lawLine_61 (by decide) ?_
      refine PW.callVV1 C ms_X10_wrong ml_X10_298 dX10_lawLine_62 oM_0 ⟨_, _, rfl⟩ (Nat.le_of_ble_eq_true rfl) (by decide) (Nat.le_of_ble_eq_true rfl) (s_X10_wrong hw) ?_
      clear hw
      intro h14 hw
      exact PW.wk (wk_s (wk_s wk_0)) (b_X10_lawLine_65 C hw)
def w_X10_lawLine_25 (Q : PH → Prop) (h : PH) : Prop :=
  w_X10_wrong 1 h (fun h1 => w_X10_lawLine_30 Q h1)
set_option maxRecDepth 8000 in
theorem b_X10_lawLine_25 {D : va_G} {ca : Nat → ClassId} {ad : Nat → Nat} {K : Kt} {Q : PH → Prop} {h : PH} (C : CX (GM D ca ad) (XS (GM D ca ad)) cX10_lawLine RX10 2 none 501 K) (hw : w_X10_lawLine_25 Q h) : PW (GM D ca ad) K 2 (qV Q) h 25 [some (.ref 0), none] [] := by
  unfold w_X10_lawLine_25 at hw
  refine PW.ald0n C dX10_lawLine_25 ?_
  refine PW.iconst (v := 1) C dX10_lawLine_26 (by decide) ?_
  refine PW.callVV1 C ms_X10_wrong ml_X10_298 dX10_lawLine_27 oM_0 ⟨_, _, rfl⟩ (Nat.le_of_ble_eq_true rfl) (by decide) (Nat.le_of_ble_eq_true rfl) (s_X10_wrong hw) ?_
  clear hw
  intro h1 hw
  exact PW.wk (wk_s (wk_n wk_0)) (b_X10_lawLine_30 C hw)
def w_X10_lawLine (h : PH) (Q : PH → Prop) : Prop :=
  if (gI h 0 38) = 0 then (if (gI h 0 39) = 13 then (w_X10_lawLine_30 Q h) else (if (gI h 0 39) = 14 then (w_X10_lawLine_30 Q h) else (w_X10_lawLine_25 Q h))) else (w_X10_lawLine_25 Q h)
set_option maxRecDepth 8000 in
theorem s_X10_lawLine {D : va_G} {ca : Nat → ClassId} {ad : Nat → Nat} {l : Launch} {h : PH} {Q : PH → Prop} (hw : w_X10_lawLine h Q) : Sp (GM D ca ad) (XS (GM D ca ad)) l 501 yX10_lawLine cX10_lawLine 2 none [.ref 0] h (qV Q) := by
  refine Sp.of (own := RX10) [some (.ref 0), none] (by decide +kernel) rfl rfl (Nat.le_of_ble_eq_true rfl) (fun K hl C => ?_)
  subst hl
  unfold w_X10_lawLine at hw
  refine PW.ald0n C dX10_lawLine_0 ?_
  refine PW.get0 C cf_10 fl_X10_254 (by decide) oM_0 (fvI rfl) dX10_lawLine_1 ?_
  refine PW.if_ne (tgt := 25) C dX10_lawLine_4 (by decide) (fun c => ?_) (fun c => ?_)
  · rw [if_neg c] at hw
    exact PW.wk (wk_s (wk_n wk_0)) (b_X10_lawLine_25 C hw)
  · rw [if_pos c] at hw
    refine PW.ald0n C dX10_lawLine_7 ?_
    refine PW.get0 C cf_10 fl_X10_264 (by decide) oM_0 (fvI rfl) dX10_lawLine_8 ?_
    refine PW.bipush (v := 13) C dX10_lawLine_11 (by decide) ?_
    refine PW.icmp_eq (tgt := 30) C dX10_lawLine_13 (by decide) (fun c => ?_) (fun c => ?_)
    · rw [if_pos c] at hw
      exact PW.wk (wk_s (wk_n wk_0)) (b_X10_lawLine_30 C hw)
    · rw [if_neg c] at hw
      refine PW.ald0n C dX10_lawLine_16 ?_
      refine PW.get0 C cf_10 fl_X10_264 (by decide) oM_0 (fvI rfl) dX10_lawLine_17 ?_
      refine PW.bipush (v := 14) C dX10_lawLine_20 (by decide) ?_
      refine PW.icmp_eq (tgt := 30) C dX10_lawLine_22 (by decide) (fun c => ?_) (fun c => ?_)
      · rw [if_pos c] at hw
        exact PW.wk (wk_s (wk_n wk_0)) (b_X10_lawLine_30 C hw)
      · rw [if_neg c] at hw
        exact PW.wk (wk_s (wk_n wk_0)) (b_X10_lawLine_25 C hw)
def w_X10_line_16 (Q : PH → Prop) (h : PH) : Prop :=
  w_X10_wrong 1 h (fun h1 => Q h1)
set_option maxRecDepth 8000 in
theorem b_X10_line_16 {D : va_G} {ca : Nat → ClassId} {ad : Nat → Nat} {K : Kt} {Q : PH → Prop} {h : PH} (C : CX (GM D ca ad) (XS (GM D ca ad)) cX10_line RX10 9 none 502 K) (hw : w_X10_line_16 Q h) : PW (GM D ca ad) K 9 (qV Q) h 16 [some (.ref 0), none, none, none, none, none, none, none, none] [] := by
  unfold w_X10_line_16 at hw
  refine PW.ald0n C dX10_line_16 ?_
  refine PW.iconst (v := 1) C dX10_line_17 (by decide) ?_
  refine PW.callVV1 C ms_X10_wrong ml_X10_298 dX10_line_18 oM_0 ⟨_, _, rfl⟩ (Nat.le_of_ble_eq_true rfl) (by decide) (Nat.le_of_ble_eq_true rfl) (s_X10_wrong hw) ?_
  clear hw
  intro h1 hw
  exact PW.vret C dX10_line_21 ⟨rfl, hw⟩
def w_X10_line_700 (Q : PH → Prop) (h : PH) : Prop :=
  ∀ h24, h24 = sI h 0 34 ((gI h 0 34) + 1) → Q h24
set_option maxRecDepth 8000 in
theorem b_X10_line_700 {D : va_G} {ca : Nat → ClassId} {ad : Nat → Nat} {K : Kt} {Q : PH → Prop} {h : PH} (C : CX (GM D ca ad) (XS (GM D ca ad)) cX10_line RX10 9 none 502 K) (hw : w_X10_line_700 Q h) : PW (GM D ca ad) K 9 (qV Q) h 700 [some (.ref 0), none, none, none, none, none, none, none, none] [] := by
  unfold w_X10_line_700 at hw
  refine PW.ald0n C dX10_line_700 ?_
  refine PW.dup C dX10_line_701 rfl ?_
  refine PW.get0 C cf_10 fl_X10_360 (by decide) oM_0 (fvI rfl) dX10_line_702 ?_
  refine PW.iconst (v := 1) C dX10_line_705 (by decide) ?_
  refine PW.iadd C dX10_line_706 ?_
  replace hw := hw _ rfl
  refine PW.put0 C cf_10 fl_X10_360 (by decide) oM_0 rfl rfl rfl (pw_sI oM_0 (by decide) rfl) dX10_line_707 ?_
  exact PW.vret C dX10_line_710 ⟨rfl, hw⟩
def w_X10_line_671 (Q : PH → Prop) (h : PH) : Prop :=
  if (gI h 0 40) = 0 then (w_X10_isSign 59 h (fun z22 h21 => if z22 = 0 then (w_X10_wrong 1 h21 (fun h25 => w_X10_line_700 Q h25)) else (w_X10_token h21 (fun h23 => w_X10_line_700 Q h23)))) else (Q h)
set_option maxRecDepth 8000 in
theorem b_X10_line_671 {D : va_G} {ca : Nat → ClassId} {ad : Nat → Nat} {K : Kt} {Q : PH → Prop} {h : PH} (C : CX (GM D ca ad) (XS (GM D ca ad)) cX10_line RX10 9 none 502 K) (hw : w_X10_line_671 Q h) : PW (GM D ca ad) K 9 (qV Q) h 671 [some (.ref 0), none, none, none, none, none, none, none, none] [] := by
  unfold w_X10_line_671 at hw
  refine PW.ald0n C dX10_line_671 ?_
  refine PW.get0 C cf_10 fl_X10_289 (by decide) oM_0 (fvI rfl) dX10_line_672 ?_
  refine PW.if_eq (tgt := 679) C dX10_line_675 (by decide) (fun c => ?_) (fun c => ?_)
  · rw [if_pos c] at hw
    refine PW.ald0n C dX10_line_679 ?_
    refine PW.bipush (v := 59) C dX10_line_680 (by decide) ?_
    refine PW.callVI1 C ms_X10_isSign ml_X10_357 dX10_line_682 oM_0 ⟨_, _, rfl⟩ (Nat.le_of_ble_eq_true rfl) (by decide) (Nat.le_of_ble_eq_true rfl) (s_X10_isSign hw) ?_
    clear hw
    intro z22 h21 hw
    refine PW.if_ne (tgt := 696) C dX10_line_685 (by decide) (fun c => ?_) (fun c => ?_)
    · rw [if_neg c] at hw
      refine PW.ald0n C dX10_line_696 ?_
      refine PW.callVV0 C ms_X10_token ml_X10_295 dX10_line_697 oM_0 ⟨_, _, rfl⟩ (Nat.le_of_ble_eq_true rfl) (by decide) (Nat.le_of_ble_eq_true rfl) (s_X10_token hw) ?_
      clear hw
      intro h23 hw
      exact PW.wk (wk_s (wk_n (wk_n (wk_n (wk_n (wk_n (wk_n (wk_n (wk_n wk_0))))))))) (b_X10_line_700 C hw)
    · rw [if_pos c] at hw
      refine PW.ald0n C dX10_line_688 ?_
      refine PW.iconst (v := 1) C dX10_line_689 (by decide) ?_
      refine PW.callVV1 C ms_X10_wrong ml_X10_298 dX10_line_690 oM_0 ⟨_, _, rfl⟩ (Nat.le_of_ble_eq_true rfl) (by decide) (Nat.le_of_ble_eq_true rfl) (s_X10_wrong hw) ?_
      clear hw
      intro h25 hw
      refine PW.goto (tgt := 700) C dX10_line_693 (by decide) ?_
      exact PW.wk (wk_s (wk_n (wk_n (wk_n (wk_n (wk_n (wk_n (wk_n (wk_n wk_0))))))))) (b_X10_line_700 C hw)
  · rw [if_neg c] at hw
    exact PW.vret C dX10_line_678 ⟨rfl, hw⟩
def w_X10_line_583 (Q : PH → Prop) (x7 : Int32) (h : PH) : Prop :=
  w_X10_goOn h (fun h129 => w_X10_numeral 1 20 h129 (fun z131 h130 => if (gI h130 0 40) = 0 then (vp_in (6 + x7) 12 ∧ ∀ h133, h133 = sI h130 27 (iN (6 + x7)) z131 → w_X10_line_671 Q h133) else (w_X10_line_671 Q h130)))
set_option maxRecDepth 8000 in
theorem b_X10_line_583 {D : va_G} {ca : Nat → ClassId} {ad : Nat → Nat} {K : Kt} {Q : PH → Prop} {x7 : Int32} {h : PH} (C : CX (GM D ca ad) (XS (GM D ca ad)) cX10_line RX10 9 none 502 K) (hw : w_X10_line_583 Q x7 h) : PW (GM D ca ad) K 9 (qV Q) h 583 [some (.ref 0), none, none, none, none, none, none, some (.int x7), none] [] := by
  unfold w_X10_line_583 at hw
  refine PW.ald0n C dX10_line_583 ?_
  refine PW.callVV0 C ms_X10_goOn ml_X10_316 dX10_line_584 oM_0 ⟨_, _, rfl⟩ (Nat.le_of_ble_eq_true rfl) (by decide) (Nat.le_of_ble_eq_true rfl) (s_X10_goOn hw) ?_
  clear hw
  intro h129 hw
  refine PW.ald0n C dX10_line_587 ?_
  refine PW.iconst (v := 1) C dX10_line_588 (by decide) ?_
  refine PW.bipush (v := 20) C dX10_line_589 (by decide) ?_
  refine PW.callVI2 C ms_X10_numeral ml_X10_338 dX10_line_591 oM_0 ⟨_, _, rfl⟩ (Nat.le_of_ble_eq_true rfl) (by decide) (Nat.le_of_ble_eq_true rfl) (s_X10_numeral hw) ?_
  clear hw
  intro z131 h130 hw
  refine PW.ist8 C dX10_line_594 (by decide) rfl ?_
  refine PW.ald0n C dX10_line_596 ?_
  refine PW.get0 C cf_10 fl_X10_289 (by decide) oM_0 (fvI rfl) dX10_line_597 ?_
  refine PW.if_ne (tgt := 671) C dX10_line_600 (by decide) (fun c => ?_) (fun c => ?_)
  · rw [if_neg c] at hw
    exact PW.wk (wk_s (wk_n (wk_n (wk_n (wk_n (wk_n (wk_n (wk_n (wk_n wk_0))))))))) (b_X10_line_671 C hw)
  · rw [if_pos c] at hw
    refine PW.ald0n C dX10_line_603 ?_
    refine PW.get0 (v := .ref 27) C cf_10 fl_X10_88 (by decide) oM_0 (fvR (o := 27) rfl) dX10_line_604 ?_
    refine PW.bipush (v := 6) C dX10_line_607 (by decide) ?_
    refine PW.ild7 C dX10_line_609 ?_
    refine PW.iadd C dX10_line_611 ?_
    refine PW.ild8 C dX10_line_612 ?_
    obtain ⟨hc132, hw⟩ := hw
    replace hw := hw _ rfl
    refine PW.iast C dX10_line_614 aM_27 hc132 ?_
    refine PW.goto (tgt := 671) C dX10_line_615 (by decide) ?_
    exact PW.wk (wk_s (wk_n (wk_n (wk_n (wk_n (wk_n (wk_n (wk_n (wk_n wk_0))))))))) (b_X10_line_671 C hw)
def w_X10_line_72 (Q : PH → Prop) (x1 : Int32) (h : PH) : Prop :=
  if (gI h 0 40) = 0 then (∀ h5, h5 = sI h 0 33 ((gI h 0 33) ||| ((1 : Int32) <<< ((x1 : Int32) &&& 31))) → w_X10_token h5 (fun h6 => if x1 = 0 then (w_X10_fresher 0 h6 (fun z8 h7 => ∀ (y9 : Int32), y9 = (6 + z8) → w_X10_fresher 0 h7 (fun z11 h10 => w_X10_fresh 3 6 z11 h10 (fun z13 h12 => vp_in y9 12 ∧ ∀ h15, h15 = sI h12 3 (iN y9) z13 → vp_in y9 12 ∧ ∀ h17, h17 = sI h15 27 (iN y9) 0 → w_X10_fresher 0 h17 (fun z19 h18 => w_X10_reads 0 (z19 + 1) h18 (fun h20 => w_X10_line_671 Q h20)))))) else (if x1 = 1 then (w_X10_fresher 1 h6 (fun z28 h27 => w_X10_linkLine (9 + z28) h27 (fun h29 => w_X10_line_671 Q h29))) else (if x1 = 2 then (w_X10_fresher 2 h6 (fun z32 h31 => ∀ (y33 : Int32), y33 = (4 + z32) → w_X10_fresher 2 h31 (fun z35 h34 => w_X10_fresh 7 4 z35 h34 (fun z37 h36 => vp_in y33 8 ∧ ∀ h39, h39 = sI h36 7 (iN y33) z37 → w_X10_numeral 0 999 h39 (fun z41 h40 => vp_in y33 8 ∧ ∀ h43, h43 = sI h40 8 (iN y33) z41 → vp_in y33 8 ∧ ∀ h45, h45 = sI h43 9 (iN y33) 0 → w_X10_fresher 2 h45 (fun z47 h46 => w_X10_reads 2 (z47 + 1) h46 (fun h48 => w_X10_line_671 Q h48))))))) else (if x1 = 3 then (w_X10_heirLine h6 (fun h50 => w_X10_line_671 Q h50)) else (if x1 = 4 then (w_X10_fresher 3 h6 (fun z53 h52 => w_X10_noiseLine (8 + z53) h52 (fun h54 => w_X10_line_671 Q h54))) else (if x1 = 5 then (w_X10_fresher 4 h6 (fun z57 h56 => ∀ (y58 : Int32), y58 = (8 + z57) → w_X10_ownerAhead h56 (fun z60 h59 => vp_in y58 16 ∧ ∀ h62, h62 = sI h59 15 (iN y58) z60 → w_X10_placeAhead h62 (fun z64 h63 => vp_in y58 16 ∧ ∀ h66, h66 = sI h63 16 (iN y58) z64 → w_X10_numeral 0 47 h66 (fun z68 h67 => vp_in y58 16 ∧ ∀ h70, h70 = sI h67 17 (iN y58) z68 → vp_in y58 16 ∧ w_X10_numeral (gI h70 17 (iN y58)) 47 h70 (fun z73 h72 => vp_in y58 16 ∧ ∀ h75, h75 = sI h72 18 (iN y58) z73 → w_X10_fresher 4 h75 (fun z77 h76 => w_X10_reads 4 (z77 + 1) h76 (fun h78 => w_X10_line_671 Q h78)))))))) else (if x1 = 6 then (w_X10_fresher 5 h6 (fun z81 h80 => ∀ (y82 : Int32), y82 = (6 + z81) → w_X10_ownerAhead h80 (fun z84 h83 => vp_in y82 12 ∧ ∀ h86, h86 = sI h83 19 (iN y82) z84 → w_X10_placeAhead h86 (fun z88 h87 => vp_in y82 12 ∧ ∀ h90, h90 = sI h87 20 (iN y82) z88 → w_X10_numeral 0 47 h90 (fun z92 h91 => vp_in y82 12 ∧ ∀ h94, h94 = sI h91 21 (iN y82) z92 → vp_in y82 12 ∧ w_X10_numeral (gI h94 21 (iN y82)) 47 h94 (fun z97 h96 => vp_in y82 12 ∧ ∀ h99, h99 = sI h96 22 (iN y82) z97 → w_X10_fresher 5 h99 (fun z101 h100 => w_X10_reads 5 (z101 + 1) h100 (fun h102 => w_X10_line_671 Q h102)))))))) else (if x1 = 7 then (w_X10_fresher 6 h6 (fun z105 h104 => ∀ (y106 : Int32), y106 = (4 + z105) → w_X10_ownerAhead h104 (fun z108 h107 => vp_in y106 8 ∧ ∀ h110, h110 = sI h107 23 (iN y106) z108 → w_X10_placeAhead h110 (fun z112 h111 => vp_in y106 8 ∧ ∀ h114, h114 = sI h111 24 (iN y106) z112 → w_X10_numeral 1 12 h114 (fun z116 h115 => vp_in y106 8 ∧ ∀ h118, h118 = sI h115 25 (iN y106) z116 → w_X10_numeral 1 20 h118 (fun z120 h119 => vp_in y106 8 ∧ ∀ h122, h122 = sI h119 26 (iN y106) z120 → w_X10_fresher 6 h122 (fun z124 h123 => w_X10_reads 6 (z124 + 1) h123 (fun h125 => w_X10_line_671 Q h125)))))))) else (if x1 = 8 then (w_X10_placeAtHand h6 (fun z128 h127 => if (gI h127 0 40) = 0 then (vp_in (6 + z128) 12 ∧ if (gI h127 27 (iN (6 + z128))) ≤ 0 then (w_X10_line_583 Q z128 h127) else (w_X10_wrong 3 h127 (fun h135 => w_X10_line_583 Q z128 h135))) else (w_X10_line_583 Q z128 h127))) else (if x1 = 9 then (w_X10_numeral 1 9 h6 (fun z138 h137 => w_X10_reads 7 z138 h137 (fun h139 => w_X10_line_671 Q h139))) else (if x1 = 10 then (w_X10_numeral 0 9 h6 (fun z142 h141 => w_X10_reads 8 z142 h141 (fun h143 => w_X10_line_671 Q h143))) else (if x1 = 11 then (w_X10_numeral 0 99999 h6 (fun z146 h145 => w_X10_reads 9 z146 h145 (fun h147 => w_X10_line_671 Q h147))) else (w_X10_lawLine h6 (fun h149 => w_X10_line_671 Q h149))))))))))))))) else (Q h)
set_option maxRecDepth 8000 in
theorem b_X10_line_72 {D : va_G} {ca : Nat → ClassId} {ad : Nat → Nat} {K : Kt} {Q : PH → Prop} {x1 : Int32} {h : PH} (C : CX (GM D ca ad) (XS (GM D ca ad)) cX10_line RX10 9 none 502 K) (hw : w_X10_line_72 Q x1 h) : PW (GM D ca ad) K 9 (qV Q) h 72 [some (.ref 0), some (.int x1), none, none, none, none, none, none, none] [] := by
  unfold w_X10_line_72 at hw
  refine PW.ald0n C dX10_line_72 ?_
  refine PW.get0 C cf_10 fl_X10_289 (by decide) oM_0 (fvI rfl) dX10_line_73 ?_
  refine PW.if_eq (tgt := 80) C dX10_line_76 (by decide) (fun c => ?_) (fun c => ?_)
  · rw [if_pos c] at hw
    refine PW.ald0n C dX10_line_80 ?_
    refine PW.dup C dX10_line_81 rfl ?_
    refine PW.get0 C cf_10 fl_X10_325 (by decide) oM_0 (fvI rfl) dX10_line_82 ?_
    refine PW.iconst (v := 1) C dX10_line_85 (by decide) ?_
    refine PW.ild1n C dX10_line_86 ?_
    refine PW.ishl C dX10_line_87 ?_
    refine PW.ior C dX10_line_88 ?_
    replace hw := hw _ rfl
    refine PW.put0 C cf_10 fl_X10_325 (by decide) oM_0 rfl rfl rfl (pw_sI oM_0 (by decide) rfl) dX10_line_89 ?_
    refine PW.ald0n C dX10_line_92 ?_
    refine PW.callVV0 C ms_X10_token ml_X10_295 dX10_line_93 oM_0 ⟨_, _, rfl⟩ (Nat.le_of_ble_eq_true rfl) (by decide) (Nat.le_of_ble_eq_true rfl) (s_X10_token hw) ?_
    clear hw
    intro h6 hw
    refine PW.ild1n C dX10_line_96 ?_
    refine PW.byc 0 (fun c => ?_) (fun c => ?_)
    · rw [if_pos c] at hw
      subst c
      refine PW.tin (tgt := 160) C dX10_line_97 (by decide) (by decide) rfl (by decide) ?_
      refine PW.bipush (v := 6) C dX10_line_160 (by decide) ?_
      refine PW.ald0n C dX10_line_162 ?_
      refine PW.iconst (v := 0) C dX10_line_163 (by decide) ?_
      refine PW.callVI1 C ms_X10_fresher ml_X10_305 dX10_line_164 oM_0 ⟨_, _, rfl⟩ (Nat.le_of_ble_eq_true rfl) (by decide) (Nat.le_of_ble_eq_true rfl) (s_X10_fresher hw) ?_
      clear hw
      intro z8 h7 hw
      refine PW.iadd C dX10_line_167 ?_
      replace hw := hw _ rfl
      refine PW.ist2n C dX10_line_168 (by decide) rfl ?_
      refine PW.ald0n C dX10_line_169 ?_
      refine PW.get0 (v := .ref 3) C cf_10 fl_X10_16 (by decide) oM_0 (fvR (o := 3) rfl) dX10_line_170 ?_
      refine PW.ild2n C dX10_line_173 ?_
      refine PW.ald0n C dX10_line_174 ?_
      refine PW.ald0n C dX10_line_175 ?_
      refine PW.get0 (v := .ref 3) C cf_10 fl_X10_16 (by decide) oM_0 (fvR (o := 3) rfl) dX10_line_176 ?_
      refine PW.bipush (v := 6) C dX10_line_179 (by decide) ?_
      refine PW.ald0n C dX10_line_181 ?_
      refine PW.iconst (v := 0) C dX10_line_182 (by decide) ?_
      refine PW.callVI1 C ms_X10_fresher ml_X10_305 dX10_line_183 oM_0 ⟨_, _, rfl⟩ (Nat.le_of_ble_eq_true rfl) (by decide) (Nat.le_of_ble_eq_true rfl) (s_X10_fresher hw) ?_
      clear hw
      intro z11 h10 hw
      refine PW.callVI3 C ms_X10_fresh ml_X10_328 dX10_line_186 oM_0 ⟨_, _, rfl⟩ (Nat.le_of_ble_eq_true rfl) (by decide) (Nat.le_of_ble_eq_true rfl) (s_X10_fresh aM_3 hw) ?_
      clear hw
      intro z13 h12 hw
      obtain ⟨hc14, hw⟩ := hw
      replace hw := hw _ rfl
      refine PW.iast C dX10_line_189 aM_3 hc14 ?_
      refine PW.ald0n C dX10_line_190 ?_
      refine PW.get0 (v := .ref 27) C cf_10 fl_X10_88 (by decide) oM_0 (fvR (o := 27) rfl) dX10_line_191 ?_
      refine PW.ild2n C dX10_line_194 ?_
      refine PW.iconst (v := 0) C dX10_line_195 (by decide) ?_
      obtain ⟨hc16, hw⟩ := hw
      replace hw := hw _ rfl
      refine PW.iast C dX10_line_196 aM_27 hc16 ?_
      refine PW.ald0n C dX10_line_197 ?_
      refine PW.iconst (v := 0) C dX10_line_198 (by decide) ?_
      refine PW.ald0n C dX10_line_199 ?_
      refine PW.iconst (v := 0) C dX10_line_200 (by decide) ?_
      refine PW.callVI1 C ms_X10_fresher ml_X10_305 dX10_line_201 oM_0 ⟨_, _, rfl⟩ (Nat.le_of_ble_eq_true rfl) (by decide) (Nat.le_of_ble_eq_true rfl) (s_X10_fresher hw) ?_
      clear hw
      intro z19 h18 hw
      refine PW.iconst (v := 1) C dX10_line_204 (by decide) ?_
      refine PW.iadd C dX10_line_205 ?_
      refine PW.callVV2 C ms_X10_reads ml_X10_331 dX10_line_206 oM_0 ⟨_, _, rfl⟩ (Nat.le_of_ble_eq_true rfl) (by decide) (Nat.le_of_ble_eq_true rfl) (s_X10_reads hw) ?_
      clear hw
      intro h20 hw
      refine PW.goto (tgt := 671) C dX10_line_209 (by decide) ?_
      exact PW.wk (wk_s (wk_n (wk_n (wk_n (wk_n (wk_n (wk_n (wk_n (wk_n wk_0))))))))) (b_X10_line_671 C hw)
    have n26 := c
    rw [if_neg c] at hw
    refine PW.byc 1 (fun c => ?_) (fun c => ?_)
    · rw [if_pos c] at hw
      subst c
      refine PW.tin (tgt := 212) C dX10_line_97 (by decide) (by decide) rfl (by decide) ?_
      refine PW.ald0n C dX10_line_212 ?_
      refine PW.bipush (v := 9) C dX10_line_213 (by decide) ?_
      refine PW.ald0n C dX10_line_215 ?_
      refine PW.iconst (v := 1) C dX10_line_216 (by decide) ?_
      refine PW.callVI1 C ms_X10_fresher ml_X10_305 dX10_line_217 oM_0 ⟨_, _, rfl⟩ (Nat.le_of_ble_eq_true rfl) (by decide) (Nat.le_of_ble_eq_true rfl) (s_X10_fresher hw) ?_
      clear hw
      intro z28 h27 hw
      refine PW.iadd C dX10_line_220 ?_
      refine PW.callVV1 C ms_X10_linkLine ml_X10_335 dX10_line_221 oM_0 ⟨_, _, rfl⟩ (Nat.le_of_ble_eq_true rfl) (by decide) (Nat.le_of_ble_eq_true rfl) (s_X10_linkLine hw) ?_
      clear hw
      intro h29 hw
      refine PW.goto (tgt := 671) C dX10_line_224 (by decide) ?_
      exact PW.wk (wk_s (wk_n (wk_n (wk_n (wk_n (wk_n (wk_n (wk_n (wk_n wk_0))))))))) (b_X10_line_671 C hw)
    have n30 := c
    rw [if_neg c] at hw
    refine PW.byc 2 (fun c => ?_) (fun c => ?_)
    · rw [if_pos c] at hw
      subst c
      refine PW.tin (tgt := 227) C dX10_line_97 (by decide) (by decide) rfl (by decide) ?_
      refine PW.iconst (v := 4) C dX10_line_227 (by decide) ?_
      refine PW.ald0n C dX10_line_228 ?_
      refine PW.iconst (v := 2) C dX10_line_229 (by decide) ?_
      refine PW.callVI1 C ms_X10_fresher ml_X10_305 dX10_line_230 oM_0 ⟨_, _, rfl⟩ (Nat.le_of_ble_eq_true rfl) (by decide) (Nat.le_of_ble_eq_true rfl) (s_X10_fresher hw) ?_
      clear hw
      intro z32 h31 hw
      refine PW.iadd C dX10_line_233 ?_
      replace hw := hw _ rfl
      refine PW.ist3n C dX10_line_234 (by decide) rfl ?_
      refine PW.ald0n C dX10_line_235 ?_
      refine PW.get0 (v := .ref 7) C cf_10 fl_X10_28 (by decide) oM_0 (fvR (o := 7) rfl) dX10_line_236 ?_
      refine PW.ild3n C dX10_line_239 ?_
      refine PW.ald0n C dX10_line_240 ?_
      refine PW.ald0n C dX10_line_241 ?_
      refine PW.get0 (v := .ref 7) C cf_10 fl_X10_28 (by decide) oM_0 (fvR (o := 7) rfl) dX10_line_242 ?_
      refine PW.iconst (v := 4) C dX10_line_245 (by decide) ?_
      refine PW.ald0n C dX10_line_246 ?_
      refine PW.iconst (v := 2) C dX10_line_247 (by decide) ?_
      refine PW.callVI1 C ms_X10_fresher ml_X10_305 dX10_line_248 oM_0 ⟨_, _, rfl⟩ (Nat.le_of_ble_eq_true rfl) (by decide) (Nat.le_of_ble_eq_true rfl) (s_X10_fresher hw) ?_
      clear hw
      intro z35 h34 hw
      refine PW.callVI3 C ms_X10_fresh ml_X10_328 dX10_line_251 oM_0 ⟨_, _, rfl⟩ (Nat.le_of_ble_eq_true rfl) (by decide) (Nat.le_of_ble_eq_true rfl) (s_X10_fresh aM_7 hw) ?_
      clear hw
      intro z37 h36 hw
      obtain ⟨hc38, hw⟩ := hw
      replace hw := hw _ rfl
      refine PW.iast C dX10_line_254 aM_7 hc38 ?_
      refine PW.ald0n C dX10_line_255 ?_
      refine PW.get0 (v := .ref 8) C cf_10 fl_X10_31 (by decide) oM_0 (fvR (o := 8) rfl) dX10_line_256 ?_
      refine PW.ild3n C dX10_line_259 ?_
      refine PW.ald0n C dX10_line_260 ?_
      refine PW.iconst (v := 0) C dX10_line_261 (by decide) ?_
      refine PW.sipush (v := 999) C dX10_line_262 (by decide) ?_
      refine PW.callVI2 C ms_X10_numeral ml_X10_338 dX10_line_265 oM_0 ⟨_, _, rfl⟩ (Nat.le_of_ble_eq_true rfl) (by decide) (Nat.le_of_ble_eq_true rfl) (s_X10_numeral hw) ?_
      clear hw
      intro z41 h40 hw
      obtain ⟨hc42, hw⟩ := hw
      replace hw := hw _ rfl
      refine PW.iast C dX10_line_268 aM_8 hc42 ?_
      refine PW.ald0n C dX10_line_269 ?_
      refine PW.get0 (v := .ref 9) C cf_10 fl_X10_34 (by decide) oM_0 (fvR (o := 9) rfl) dX10_line_270 ?_
      refine PW.ild3n C dX10_line_273 ?_
      refine PW.iconst (v := 0) C dX10_line_274 (by decide) ?_
      obtain ⟨hc44, hw⟩ := hw
      replace hw := hw _ rfl
      refine PW.iast C dX10_line_275 aM_9 hc44 ?_
      refine PW.ald0n C dX10_line_276 ?_
      refine PW.iconst (v := 2) C dX10_line_277 (by decide) ?_
      refine PW.ald0n C dX10_line_278 ?_
      refine PW.iconst (v := 2) C dX10_line_279 (by decide) ?_
      refine PW.callVI1 C ms_X10_fresher ml_X10_305 dX10_line_280 oM_0 ⟨_, _, rfl⟩ (Nat.le_of_ble_eq_true rfl) (by decide) (Nat.le_of_ble_eq_true rfl) (s_X10_fresher hw) ?_
      clear hw
      intro z47 h46 hw
      refine PW.iconst (v := 1) C dX10_line_283 (by decide) ?_
      refine PW.iadd C dX10_line_284 ?_
      refine PW.callVV2 C ms_X10_reads ml_X10_331 dX10_line_285 oM_0 ⟨_, _, rfl⟩ (Nat.le_of_ble_eq_true rfl) (by decide) (Nat.le_of_ble_eq_true rfl) (s_X10_reads hw) ?_
      clear hw
      intro h48 hw
      refine PW.goto (tgt := 671) C dX10_line_288 (by decide) ?_
      exact PW.wk (wk_s (wk_n (wk_n (wk_n (wk_n (wk_n (wk_n (wk_n (wk_n wk_0))))))))) (b_X10_line_671 C hw)
    have n49 := c
    rw [if_neg c] at hw
    refine PW.byc 3 (fun c => ?_) (fun c => ?_)
    · rw [if_pos c] at hw
      subst c
      refine PW.tin (tgt := 291) C dX10_line_97 (by decide) (by decide) rfl (by decide) ?_
      refine PW.ald0n C dX10_line_291 ?_
      refine PW.callVV0 C ms_X10_heirLine ml_X10_342 dX10_line_292 oM_0 ⟨_, _, rfl⟩ (Nat.le_of_ble_eq_true rfl) (by decide) (Nat.le_of_ble_eq_true rfl) (s_X10_heirLine hw) ?_
      clear hw
      intro h50 hw
      refine PW.goto (tgt := 671) C dX10_line_295 (by decide) ?_
      exact PW.wk (wk_s (wk_n (wk_n (wk_n (wk_n (wk_n (wk_n (wk_n (wk_n wk_0))))))))) (b_X10_line_671 C hw)
    have n51 := c
    rw [if_neg c] at hw
    refine PW.byc 4 (fun c => ?_) (fun c => ?_)
    · rw [if_pos c] at hw
      subst c
      refine PW.tin (tgt := 298) C dX10_line_97 (by decide) (by decide) rfl (by decide) ?_
      refine PW.ald0n C dX10_line_298 ?_
      refine PW.bipush (v := 8) C dX10_line_299 (by decide) ?_
      refine PW.ald0n C dX10_line_301 ?_
      refine PW.iconst (v := 3) C dX10_line_302 (by decide) ?_
      refine PW.callVI1 C ms_X10_fresher ml_X10_305 dX10_line_303 oM_0 ⟨_, _, rfl⟩ (Nat.le_of_ble_eq_true rfl) (by decide) (Nat.le_of_ble_eq_true rfl) (s_X10_fresher hw) ?_
      clear hw
      intro z53 h52 hw
      refine PW.iadd C dX10_line_306 ?_
      refine PW.callVV1 C ms_X10_noiseLine ml_X10_345 dX10_line_307 oM_0 ⟨_, _, rfl⟩ (Nat.le_of_ble_eq_true rfl) (by decide) (Nat.le_of_ble_eq_true rfl) (s_X10_noiseLine hw) ?_
      clear hw
      intro h54 hw
      refine PW.goto (tgt := 671) C dX10_line_310 (by decide) ?_
      exact PW.wk (wk_s (wk_n (wk_n (wk_n (wk_n (wk_n (wk_n (wk_n (wk_n wk_0))))))))) (b_X10_line_671 C hw)
    have n55 := c
    rw [if_neg c] at hw
    refine PW.byc 5 (fun c => ?_) (fun c => ?_)
    · rw [if_pos c] at hw
      subst c
      refine PW.tin (tgt := 313) C dX10_line_97 (by decide) (by decide) rfl (by decide) ?_
      refine PW.bipush (v := 8) C dX10_line_313 (by decide) ?_
      refine PW.ald0n C dX10_line_315 ?_
      refine PW.iconst (v := 4) C dX10_line_316 (by decide) ?_
      refine PW.callVI1 C ms_X10_fresher ml_X10_305 dX10_line_317 oM_0 ⟨_, _, rfl⟩ (Nat.le_of_ble_eq_true rfl) (by decide) (Nat.le_of_ble_eq_true rfl) (s_X10_fresher hw) ?_
      clear hw
      intro z57 h56 hw
      refine PW.iadd C dX10_line_320 ?_
      replace hw := hw _ rfl
      refine PW.ist4 C dX10_line_321 (by decide) rfl ?_
      refine PW.ald0n C dX10_line_323 ?_
      refine PW.get0 (v := .ref 15) C cf_10 fl_X10_52 (by decide) oM_0 (fvR (o := 15) rfl) dX10_line_324 ?_
      refine PW.ild4 C dX10_line_327 ?_
      refine PW.ald0n C dX10_line_329 ?_
      refine PW.callVI0 C ms_X10_ownerAhead ml_X10_348 dX10_line_330 oM_0 ⟨_, _, rfl⟩ (Nat.le_of_ble_eq_true rfl) (by decide) (Nat.le_of_ble_eq_true rfl) (s_X10_ownerAhead hw) ?_
      clear hw
      intro z60 h59 hw
      obtain ⟨hc61, hw⟩ := hw
      replace hw := hw _ rfl
      refine PW.iast C dX10_line_333 aM_15 hc61 ?_
      refine PW.ald0n C dX10_line_334 ?_
      refine PW.get0 (v := .ref 16) C cf_10 fl_X10_55 (by decide) oM_0 (fvR (o := 16) rfl) dX10_line_335 ?_
      refine PW.ild4 C dX10_line_338 ?_
      refine PW.ald0n C dX10_line_340 ?_
      refine PW.callVI0 C ms_X10_placeAhead ml_X10_351 dX10_line_341 oM_0 ⟨_, _, rfl⟩ (Nat.le_of_ble_eq_true rfl) (by decide) (Nat.le_of_ble_eq_true rfl) (s_X10_placeAhead hw) ?_
      clear hw
      intro z64 h63 hw
      obtain ⟨hc65, hw⟩ := hw
      replace hw := hw _ rfl
      refine PW.iast C dX10_line_344 aM_16 hc65 ?_
      refine PW.ald0n C dX10_line_345 ?_
      refine PW.get0 (v := .ref 17) C cf_10 fl_X10_58 (by decide) oM_0 (fvR (o := 17) rfl) dX10_line_346 ?_
      refine PW.ild4 C dX10_line_349 ?_
      refine PW.ald0n C dX10_line_351 ?_
      refine PW.iconst (v := 0) C dX10_line_352 (by decide) ?_
      refine PW.bipush (v := 47) C dX10_line_353 (by decide) ?_
      refine PW.callVI2 C ms_X10_numeral ml_X10_338 dX10_line_355 oM_0 ⟨_, _, rfl⟩ (Nat.le_of_ble_eq_true rfl) (by decide) (Nat.le_of_ble_eq_true rfl) (s_X10_numeral hw) ?_
      clear hw
      intro z68 h67 hw
      obtain ⟨hc69, hw⟩ := hw
      replace hw := hw _ rfl
      refine PW.iast C dX10_line_358 aM_17 hc69 ?_
      refine PW.ald0n C dX10_line_359 ?_
      refine PW.get0 (v := .ref 18) C cf_10 fl_X10_61 (by decide) oM_0 (fvR (o := 18) rfl) dX10_line_360 ?_
      refine PW.ild4 C dX10_line_363 ?_
      refine PW.ald0n C dX10_line_365 ?_
      refine PW.ald0n C dX10_line_366 ?_
      refine PW.get0 (v := .ref 17) C cf_10 fl_X10_58 (by decide) oM_0 (fvR (o := 17) rfl) dX10_line_367 ?_
      refine PW.ild4 C dX10_line_370 ?_
      obtain ⟨hc71, hw⟩ := hw
      refine PW.iald C dX10_line_372 aM_17 hc71 ?_
      refine PW.bipush (v := 47) C dX10_line_373 (by decide) ?_
      refine PW.callVI2 C ms_X10_numeral ml_X10_338 dX10_line_375 oM_0 ⟨_, _, rfl⟩ (Nat.le_of_ble_eq_true rfl) (by decide) (Nat.le_of_ble_eq_true rfl) (s_X10_numeral hw) ?_
      clear hw
      intro z73 h72 hw
      obtain ⟨hc74, hw⟩ := hw
      replace hw := hw _ rfl
      refine PW.iast C dX10_line_378 aM_18 hc74 ?_
      refine PW.ald0n C dX10_line_379 ?_
      refine PW.iconst (v := 4) C dX10_line_380 (by decide) ?_
      refine PW.ald0n C dX10_line_381 ?_
      refine PW.iconst (v := 4) C dX10_line_382 (by decide) ?_
      refine PW.callVI1 C ms_X10_fresher ml_X10_305 dX10_line_383 oM_0 ⟨_, _, rfl⟩ (Nat.le_of_ble_eq_true rfl) (by decide) (Nat.le_of_ble_eq_true rfl) (s_X10_fresher hw) ?_
      clear hw
      intro z77 h76 hw
      refine PW.iconst (v := 1) C dX10_line_386 (by decide) ?_
      refine PW.iadd C dX10_line_387 ?_
      refine PW.callVV2 C ms_X10_reads ml_X10_331 dX10_line_388 oM_0 ⟨_, _, rfl⟩ (Nat.le_of_ble_eq_true rfl) (by decide) (Nat.le_of_ble_eq_true rfl) (s_X10_reads hw) ?_
      clear hw
      intro h78 hw
      refine PW.goto (tgt := 671) C dX10_line_391 (by decide) ?_
      exact PW.wk (wk_s (wk_n (wk_n (wk_n (wk_n (wk_n (wk_n (wk_n (wk_n wk_0))))))))) (b_X10_line_671 C hw)
    have n79 := c
    rw [if_neg c] at hw
    refine PW.byc 6 (fun c => ?_) (fun c => ?_)
    · rw [if_pos c] at hw
      subst c
      refine PW.tin (tgt := 394) C dX10_line_97 (by decide) (by decide) rfl (by decide) ?_
      refine PW.bipush (v := 6) C dX10_line_394 (by decide) ?_
      refine PW.ald0n C dX10_line_396 ?_
      refine PW.iconst (v := 5) C dX10_line_397 (by decide) ?_
      refine PW.callVI1 C ms_X10_fresher ml_X10_305 dX10_line_398 oM_0 ⟨_, _, rfl⟩ (Nat.le_of_ble_eq_true rfl) (by decide) (Nat.le_of_ble_eq_true rfl) (s_X10_fresher hw) ?_
      clear hw
      intro z81 h80 hw
      refine PW.iadd C dX10_line_401 ?_
      replace hw := hw _ rfl
      refine PW.ist5 C dX10_line_402 (by decide) rfl ?_
      refine PW.ald0n C dX10_line_404 ?_
      refine PW.get0 (v := .ref 19) C cf_10 fl_X10_64 (by decide) oM_0 (fvR (o := 19) rfl) dX10_line_405 ?_
      refine PW.ild5 C dX10_line_408 ?_
      refine PW.ald0n C dX10_line_410 ?_
      refine PW.callVI0 C ms_X10_ownerAhead ml_X10_348 dX10_line_411 oM_0 ⟨_, _, rfl⟩ (Nat.le_of_ble_eq_true rfl) (by decide) (Nat.le_of_ble_eq_true rfl) (s_X10_ownerAhead hw) ?_
      clear hw
      intro z84 h83 hw
      obtain ⟨hc85, hw⟩ := hw
      replace hw := hw _ rfl
      refine PW.iast C dX10_line_414 aM_19 hc85 ?_
      refine PW.ald0n C dX10_line_415 ?_
      refine PW.get0 (v := .ref 20) C cf_10 fl_X10_67 (by decide) oM_0 (fvR (o := 20) rfl) dX10_line_416 ?_
      refine PW.ild5 C dX10_line_419 ?_
      refine PW.ald0n C dX10_line_421 ?_
      refine PW.callVI0 C ms_X10_placeAhead ml_X10_351 dX10_line_422 oM_0 ⟨_, _, rfl⟩ (Nat.le_of_ble_eq_true rfl) (by decide) (Nat.le_of_ble_eq_true rfl) (s_X10_placeAhead hw) ?_
      clear hw
      intro z88 h87 hw
      obtain ⟨hc89, hw⟩ := hw
      replace hw := hw _ rfl
      refine PW.iast C dX10_line_425 aM_20 hc89 ?_
      refine PW.ald0n C dX10_line_426 ?_
      refine PW.get0 (v := .ref 21) C cf_10 fl_X10_70 (by decide) oM_0 (fvR (o := 21) rfl) dX10_line_427 ?_
      refine PW.ild5 C dX10_line_430 ?_
      refine PW.ald0n C dX10_line_432 ?_
      refine PW.iconst (v := 0) C dX10_line_433 (by decide) ?_
      refine PW.bipush (v := 47) C dX10_line_434 (by decide) ?_
      refine PW.callVI2 C ms_X10_numeral ml_X10_338 dX10_line_436 oM_0 ⟨_, _, rfl⟩ (Nat.le_of_ble_eq_true rfl) (by decide) (Nat.le_of_ble_eq_true rfl) (s_X10_numeral hw) ?_
      clear hw
      intro z92 h91 hw
      obtain ⟨hc93, hw⟩ := hw
      replace hw := hw _ rfl
      refine PW.iast C dX10_line_439 aM_21 hc93 ?_
      refine PW.ald0n C dX10_line_440 ?_
      refine PW.get0 (v := .ref 22) C cf_10 fl_X10_73 (by decide) oM_0 (fvR (o := 22) rfl) dX10_line_441 ?_
      refine PW.ild5 C dX10_line_444 ?_
      refine PW.ald0n C dX10_line_446 ?_
      refine PW.ald0n C dX10_line_447 ?_
      refine PW.get0 (v := .ref 21) C cf_10 fl_X10_70 (by decide) oM_0 (fvR (o := 21) rfl) dX10_line_448 ?_
      refine PW.ild5 C dX10_line_451 ?_
      obtain ⟨hc95, hw⟩ := hw
      refine PW.iald C dX10_line_453 aM_21 hc95 ?_
      refine PW.bipush (v := 47) C dX10_line_454 (by decide) ?_
      refine PW.callVI2 C ms_X10_numeral ml_X10_338 dX10_line_456 oM_0 ⟨_, _, rfl⟩ (Nat.le_of_ble_eq_true rfl) (by decide) (Nat.le_of_ble_eq_true rfl) (s_X10_numeral hw) ?_
      clear hw
      intro z97 h96 hw
      obtain ⟨hc98, hw⟩ := hw
      replace hw := hw _ rfl
      refine PW.iast C dX10_line_459 aM_22 hc98 ?_
      refine PW.ald0n C dX10_line_460 ?_
      refine PW.iconst (v := 5) C dX10_line_461 (by decide) ?_
      refine PW.ald0n C dX10_line_462 ?_
      refine PW.iconst (v := 5) C dX10_line_463 (by decide) ?_
      refine PW.callVI1 C ms_X10_fresher ml_X10_305 dX10_line_464 oM_0 ⟨_, _, rfl⟩ (Nat.le_of_ble_eq_true rfl) (by decide) (Nat.le_of_ble_eq_true rfl) (s_X10_fresher hw) ?_
      clear hw
      intro z101 h100 hw
      refine PW.iconst (v := 1) C dX10_line_467 (by decide) ?_
      refine PW.iadd C dX10_line_468 ?_
      refine PW.callVV2 C ms_X10_reads ml_X10_331 dX10_line_469 oM_0 ⟨_, _, rfl⟩ (Nat.le_of_ble_eq_true rfl) (by decide) (Nat.le_of_ble_eq_true rfl) (s_X10_reads hw) ?_
      clear hw
      intro h102 hw
      refine PW.goto (tgt := 671) C dX10_line_472 (by decide) ?_
      exact PW.wk (wk_s (wk_n (wk_n (wk_n (wk_n (wk_n (wk_n (wk_n (wk_n wk_0))))))))) (b_X10_line_671 C hw)
    have n103 := c
    rw [if_neg c] at hw
    refine PW.byc 7 (fun c => ?_) (fun c => ?_)
    · rw [if_pos c] at hw
      subst c
      refine PW.tin (tgt := 475) C dX10_line_97 (by decide) (by decide) rfl (by decide) ?_
      refine PW.iconst (v := 4) C dX10_line_475 (by decide) ?_
      refine PW.ald0n C dX10_line_476 ?_
      refine PW.bipush (v := 6) C dX10_line_477 (by decide) ?_
      refine PW.callVI1 C ms_X10_fresher ml_X10_305 dX10_line_479 oM_0 ⟨_, _, rfl⟩ (Nat.le_of_ble_eq_true rfl) (by decide) (Nat.le_of_ble_eq_true rfl) (s_X10_fresher hw) ?_
      clear hw
      intro z105 h104 hw
      refine PW.iadd C dX10_line_482 ?_
      replace hw := hw _ rfl
      refine PW.ist6 C dX10_line_483 (by decide) rfl ?_
      refine PW.ald0n C dX10_line_485 ?_
      refine PW.get0 (v := .ref 23) C cf_10 fl_X10_76 (by decide) oM_0 (fvR (o := 23) rfl) dX10_line_486 ?_
      refine PW.ild6 C dX10_line_489 ?_
      refine PW.ald0n C dX10_line_491 ?_
      refine PW.callVI0 C ms_X10_ownerAhead ml_X10_348 dX10_line_492 oM_0 ⟨_, _, rfl⟩ (Nat.le_of_ble_eq_true rfl) (by decide) (Nat.le_of_ble_eq_true rfl) (s_X10_ownerAhead hw) ?_
      clear hw
      intro z108 h107 hw
      obtain ⟨hc109, hw⟩ := hw
      replace hw := hw _ rfl
      refine PW.iast C dX10_line_495 aM_23 hc109 ?_
      refine PW.ald0n C dX10_line_496 ?_
      refine PW.get0 (v := .ref 24) C cf_10 fl_X10_79 (by decide) oM_0 (fvR (o := 24) rfl) dX10_line_497 ?_
      refine PW.ild6 C dX10_line_500 ?_
      refine PW.ald0n C dX10_line_502 ?_
      refine PW.callVI0 C ms_X10_placeAhead ml_X10_351 dX10_line_503 oM_0 ⟨_, _, rfl⟩ (Nat.le_of_ble_eq_true rfl) (by decide) (Nat.le_of_ble_eq_true rfl) (s_X10_placeAhead hw) ?_
      clear hw
      intro z112 h111 hw
      obtain ⟨hc113, hw⟩ := hw
      replace hw := hw _ rfl
      refine PW.iast C dX10_line_506 aM_24 hc113 ?_
      refine PW.ald0n C dX10_line_507 ?_
      refine PW.get0 (v := .ref 25) C cf_10 fl_X10_82 (by decide) oM_0 (fvR (o := 25) rfl) dX10_line_508 ?_
      refine PW.ild6 C dX10_line_511 ?_
      refine PW.ald0n C dX10_line_513 ?_
      refine PW.iconst (v := 1) C dX10_line_514 (by decide) ?_
      refine PW.bipush (v := 12) C dX10_line_515 (by decide) ?_
      refine PW.callVI2 C ms_X10_numeral ml_X10_338 dX10_line_517 oM_0 ⟨_, _, rfl⟩ (Nat.le_of_ble_eq_true rfl) (by decide) (Nat.le_of_ble_eq_true rfl) (s_X10_numeral hw) ?_
      clear hw
      intro z116 h115 hw
      obtain ⟨hc117, hw⟩ := hw
      replace hw := hw _ rfl
      refine PW.iast C dX10_line_520 aM_25 hc117 ?_
      refine PW.ald0n C dX10_line_521 ?_
      refine PW.get0 (v := .ref 26) C cf_10 fl_X10_85 (by decide) oM_0 (fvR (o := 26) rfl) dX10_line_522 ?_
      refine PW.ild6 C dX10_line_525 ?_
      refine PW.ald0n C dX10_line_527 ?_
      refine PW.iconst (v := 1) C dX10_line_528 (by decide) ?_
      refine PW.bipush (v := 20) C dX10_line_529 (by decide) ?_
      refine PW.callVI2 C ms_X10_numeral ml_X10_338 dX10_line_531 oM_0 ⟨_, _, rfl⟩ (Nat.le_of_ble_eq_true rfl) (by decide) (Nat.le_of_ble_eq_true rfl) (s_X10_numeral hw) ?_
      clear hw
      intro z120 h119 hw
      obtain ⟨hc121, hw⟩ := hw
      replace hw := hw _ rfl
      refine PW.iast C dX10_line_534 aM_26 hc121 ?_
      refine PW.ald0n C dX10_line_535 ?_
      refine PW.bipush (v := 6) C dX10_line_536 (by decide) ?_
      refine PW.ald0n C dX10_line_538 ?_
      refine PW.bipush (v := 6) C dX10_line_539 (by decide) ?_
      refine PW.callVI1 C ms_X10_fresher ml_X10_305 dX10_line_541 oM_0 ⟨_, _, rfl⟩ (Nat.le_of_ble_eq_true rfl) (by decide) (Nat.le_of_ble_eq_true rfl) (s_X10_fresher hw) ?_
      clear hw
      intro z124 h123 hw
      refine PW.iconst (v := 1) C dX10_line_544 (by decide) ?_
      refine PW.iadd C dX10_line_545 ?_
      refine PW.callVV2 C ms_X10_reads ml_X10_331 dX10_line_546 oM_0 ⟨_, _, rfl⟩ (Nat.le_of_ble_eq_true rfl) (by decide) (Nat.le_of_ble_eq_true rfl) (s_X10_reads hw) ?_
      clear hw
      intro h125 hw
      refine PW.goto (tgt := 671) C dX10_line_549 (by decide) ?_
      exact PW.wk (wk_s (wk_n (wk_n (wk_n (wk_n (wk_n (wk_n (wk_n (wk_n wk_0))))))))) (b_X10_line_671 C hw)
    have n126 := c
    rw [if_neg c] at hw
    refine PW.byc 8 (fun c => ?_) (fun c => ?_)
    · rw [if_pos c] at hw
      subst c
      refine PW.tin (tgt := 552) C dX10_line_97 (by decide) (by decide) rfl (by decide) ?_
      refine PW.ald0n C dX10_line_552 ?_
      refine PW.callVI0 C ms_X10_placeAtHand ml_X10_313 dX10_line_553 oM_0 ⟨_, _, rfl⟩ (Nat.le_of_ble_eq_true rfl) (by decide) (Nat.le_of_ble_eq_true rfl) (s_X10_placeAtHand hw) ?_
      clear hw
      intro z128 h127 hw
      refine PW.ist7 C dX10_line_556 (by decide) rfl ?_
      refine PW.ald0n C dX10_line_558 ?_
      refine PW.get0 C cf_10 fl_X10_289 (by decide) oM_0 (fvI rfl) dX10_line_559 ?_
      refine PW.if_ne (tgt := 583) C dX10_line_562 (by decide) (fun c => ?_) (fun c => ?_)
      · rw [if_neg c] at hw
        exact PW.wk (wk_s (wk_n (wk_n (wk_n (wk_n (wk_n (wk_n (wk_s (wk_n wk_0))))))))) (b_X10_line_583 C hw)
      · rw [if_pos c] at hw
        refine PW.ald0n C dX10_line_565 ?_
        refine PW.get0 (v := .ref 27) C cf_10 fl_X10_88 (by decide) oM_0 (fvR (o := 27) rfl) dX10_line_566 ?_
        refine PW.bipush (v := 6) C dX10_line_569 (by decide) ?_
        refine PW.ild7 C dX10_line_571 ?_
        refine PW.iadd C dX10_line_573 ?_
        obtain ⟨hc134, hw⟩ := hw
        refine PW.iald C dX10_line_574 aM_27 hc134 ?_
        refine PW.if_le (tgt := 583) C dX10_line_575 (by decide) (fun c => ?_) (fun c => ?_)
        · rw [if_pos c] at hw
          exact PW.wk (wk_s (wk_n (wk_n (wk_n (wk_n (wk_n (wk_n (wk_s (wk_n wk_0))))))))) (b_X10_line_583 C hw)
        · rw [if_neg c] at hw
          refine PW.ald0n C dX10_line_578 ?_
          refine PW.iconst (v := 3) C dX10_line_579 (by decide) ?_
          refine PW.callVV1 C ms_X10_wrong ml_X10_298 dX10_line_580 oM_0 ⟨_, _, rfl⟩ (Nat.le_of_ble_eq_true rfl) (by decide) (Nat.le_of_ble_eq_true rfl) (s_X10_wrong hw) ?_
          clear hw
          intro h135 hw
          exact PW.wk (wk_s (wk_n (wk_n (wk_n (wk_n (wk_n (wk_n (wk_s (wk_n wk_0))))))))) (b_X10_line_583 C hw)
    have n136 := c
    rw [if_neg c] at hw
    refine PW.byc 9 (fun c => ?_) (fun c => ?_)
    · rw [if_pos c] at hw
      subst c
      refine PW.tin (tgt := 618) C dX10_line_97 (by decide) (by decide) rfl (by decide) ?_
      refine PW.ald0n C dX10_line_618 ?_
      refine PW.bipush (v := 7) C dX10_line_619 (by decide) ?_
      refine PW.ald0n C dX10_line_621 ?_
      refine PW.iconst (v := 1) C dX10_line_622 (by decide) ?_
      refine PW.bipush (v := 9) C dX10_line_623 (by decide) ?_
      refine PW.callVI2 C ms_X10_numeral ml_X10_338 dX10_line_625 oM_0 ⟨_, _, rfl⟩ (Nat.le_of_ble_eq_true rfl) (by decide) (Nat.le_of_ble_eq_true rfl) (s_X10_numeral hw) ?_
      clear hw
      intro z138 h137 hw
      refine PW.callVV2 C ms_X10_reads ml_X10_331 dX10_line_628 oM_0 ⟨_, _, rfl⟩ (Nat.le_of_ble_eq_true rfl) (by decide) (Nat.le_of_ble_eq_true rfl) (s_X10_reads hw) ?_
      clear hw
      intro h139 hw
      refine PW.goto (tgt := 671) C dX10_line_631 (by decide) ?_
      exact PW.wk (wk_s (wk_n (wk_n (wk_n (wk_n (wk_n (wk_n (wk_n (wk_n wk_0))))))))) (b_X10_line_671 C hw)
    have n140 := c
    rw [if_neg c] at hw
    refine PW.byc 10 (fun c => ?_) (fun c => ?_)
    · rw [if_pos c] at hw
      subst c
      refine PW.tin (tgt := 634) C dX10_line_97 (by decide) (by decide) rfl (by decide) ?_
      refine PW.ald0n C dX10_line_634 ?_
      refine PW.bipush (v := 8) C dX10_line_635 (by decide) ?_
      refine PW.ald0n C dX10_line_637 ?_
      refine PW.iconst (v := 0) C dX10_line_638 (by decide) ?_
      refine PW.bipush (v := 9) C dX10_line_639 (by decide) ?_
      refine PW.callVI2 C ms_X10_numeral ml_X10_338 dX10_line_641 oM_0 ⟨_, _, rfl⟩ (Nat.le_of_ble_eq_true rfl) (by decide) (Nat.le_of_ble_eq_true rfl) (s_X10_numeral hw) ?_
      clear hw
      intro z142 h141 hw
      refine PW.callVV2 C ms_X10_reads ml_X10_331 dX10_line_644 oM_0 ⟨_, _, rfl⟩ (Nat.le_of_ble_eq_true rfl) (by decide) (Nat.le_of_ble_eq_true rfl) (s_X10_reads hw) ?_
      clear hw
      intro h143 hw
      refine PW.goto (tgt := 671) C dX10_line_647 (by decide) ?_
      exact PW.wk (wk_s (wk_n (wk_n (wk_n (wk_n (wk_n (wk_n (wk_n (wk_n wk_0))))))))) (b_X10_line_671 C hw)
    have n144 := c
    rw [if_neg c] at hw
    refine PW.byc 11 (fun c => ?_) (fun c => ?_)
    · rw [if_pos c] at hw
      subst c
      refine PW.tin (tgt := 650) C dX10_line_97 (by decide) (by decide) rfl (by decide) ?_
      refine PW.ald0n C dX10_line_650 ?_
      refine PW.bipush (v := 9) C dX10_line_651 (by decide) ?_
      refine PW.ald0n C dX10_line_653 ?_
      refine PW.iconst (v := 0) C dX10_line_654 (by decide) ?_
      refine PW.ldcw (v := 99999) C cs_X10_273 dX10_line_655 ?_
      refine PW.callVI2 C ms_X10_numeral ml_X10_338 dX10_line_658 oM_0 ⟨_, _, rfl⟩ (Nat.le_of_ble_eq_true rfl) (by decide) (Nat.le_of_ble_eq_true rfl) (s_X10_numeral hw) ?_
      clear hw
      intro z146 h145 hw
      refine PW.callVV2 C ms_X10_reads ml_X10_331 dX10_line_661 oM_0 ⟨_, _, rfl⟩ (Nat.le_of_ble_eq_true rfl) (by decide) (Nat.le_of_ble_eq_true rfl) (s_X10_reads hw) ?_
      clear hw
      intro h147 hw
      refine PW.goto (tgt := 671) C dX10_line_664 (by decide) ?_
      exact PW.wk (wk_s (wk_n (wk_n (wk_n (wk_n (wk_n (wk_n (wk_n (wk_n wk_0))))))))) (b_X10_line_671 C hw)
    have n148 := c
    rw [if_neg c] at hw
    refine PW.tout (tgt := 667) C dX10_line_97 (by have e0 := ne_ti (z := 0) (by decide) n26; have e1 := ne_ti (z := 1) (by decide) n30; have e2 := ne_ti (z := 2) (by decide) n49; have e3 := ne_ti (z := 3) (by decide) n51; have e4 := ne_ti (z := 4) (by decide) n55; have e5 := ne_ti (z := 5) (by decide) n79; have e6 := ne_ti (z := 6) (by decide) n103; have e7 := ne_ti (z := 7) (by decide) n126; have e8 := ne_ti (z := 8) (by decide) n136; have e9 := ne_ti (z := 9) (by decide) n140; have e10 := ne_ti (z := 10) (by decide) n144; have e11 := ne_ti (z := 11) (by decide) n148; omega) (by decide) ?_
    refine PW.ald0n C dX10_line_667 ?_
    refine PW.callVV0 C ms_X10_lawLine ml_X10_354 dX10_line_668 oM_0 ⟨_, _, rfl⟩ (Nat.le_of_ble_eq_true rfl) (by decide) (Nat.le_of_ble_eq_true rfl) (s_X10_lawLine hw) ?_
    clear hw
    intro h149 hw
    exact PW.wk (wk_s (wk_n (wk_n (wk_n (wk_n (wk_n (wk_n (wk_n (wk_n wk_0))))))))) (b_X10_line_671 C hw)
  · rw [if_neg c] at hw
    exact PW.vret C dX10_line_79 ⟨rfl, hw⟩
def w_X10_line (h : PH) (Q : PH → Prop) : Prop :=
  if (gI h 0 38) = 0 then (if (gI h 0 39) ≤ 12 then (∀ (y2 : Int32), y2 = (gI h 0 39) → w_X10_isFull y2 h (fun z4 h3 => if z4 = 0 then (if y2 < 9 then (w_X10_line_72 Q y2 h3) else (if 11 < y2 then (w_X10_line_72 Q y2 h3) else (if ((((gI h3 0 33) : Int32) >>> ((y2 : Int32) &&& 31)) &&& 1) = 1 then (w_X10_wrong 3 h3 (fun h150 => w_X10_line_72 Q y2 h150)) else (w_X10_line_72 Q y2 h3)))) else (w_X10_wrong 2 h3 (fun h151 => w_X10_line_72 Q y2 h151)))) else (w_X10_line_16 Q h)) else (w_X10_line_16 Q h)
set_option maxRecDepth 8000 in
theorem s_X10_line {D : va_G} {ca : Nat → ClassId} {ad : Nat → Nat} {l : Launch} {h : PH} {Q : PH → Prop} (hw : w_X10_line h Q) : Sp (GM D ca ad) (XS (GM D ca ad)) l 502 yX10_line cX10_line 9 none [.ref 0] h (qV Q) := by
  refine Sp.of (own := RX10) [some (.ref 0), none, none, none, none, none, none, none, none] (by decide +kernel) rfl rfl (Nat.le_of_ble_eq_true rfl) (fun K hl C => ?_)
  subst hl
  unfold w_X10_line at hw
  refine PW.ald0n C dX10_line_0 ?_
  refine PW.get0 C cf_10 fl_X10_254 (by decide) oM_0 (fvI rfl) dX10_line_1 ?_
  refine PW.if_ne (tgt := 16) C dX10_line_4 (by decide) (fun c => ?_) (fun c => ?_)
  · rw [if_neg c] at hw
    exact PW.wk (wk_s (wk_n (wk_n (wk_n (wk_n (wk_n (wk_n (wk_n (wk_n wk_0))))))))) (b_X10_line_16 C hw)
  · rw [if_pos c] at hw
    refine PW.ald0n C dX10_line_7 ?_
    refine PW.get0 C cf_10 fl_X10_264 (by decide) oM_0 (fvI rfl) dX10_line_8 ?_
    refine PW.bipush (v := 12) C dX10_line_11 (by decide) ?_
    refine PW.icmp_le (tgt := 22) C dX10_line_13 (by decide) (fun c => ?_) (fun c => ?_)
    · rw [if_pos c] at hw
      refine PW.ald0n C dX10_line_22 ?_
      refine PW.get0 C cf_10 fl_X10_264 (by decide) oM_0 (fvI rfl) dX10_line_23 ?_
      replace hw := hw _ rfl
      refine PW.ist1n C dX10_line_26 (by decide) rfl ?_
      refine PW.ald0n C dX10_line_27 ?_
      refine PW.ild1n C dX10_line_28 ?_
      refine PW.callVI1 C ms_X10_isFull ml_X10_322 dX10_line_29 oM_0 ⟨_, _, rfl⟩ (Nat.le_of_ble_eq_true rfl) (by decide) (Nat.le_of_ble_eq_true rfl) (s_X10_isFull hw) ?_
      clear hw
      intro z4 h3 hw
      refine PW.if_eq (tgt := 43) C dX10_line_32 (by decide) (fun c => ?_) (fun c => ?_)
      · rw [if_pos c] at hw
        refine PW.ild1n C dX10_line_43 ?_
        refine PW.bipush (v := 9) C dX10_line_44 (by decide) ?_
        refine PW.icmp_lt (tgt := 72) C dX10_line_46 (by decide) (fun c => ?_) (fun c => ?_)
        · rw [if_pos c] at hw
          exact PW.wk (wk_s (wk_s (wk_n (wk_n (wk_n (wk_n (wk_n (wk_n (wk_n wk_0))))))))) (b_X10_line_72 C hw)
        · rw [if_neg c] at hw
          refine PW.ild1n C dX10_line_49 ?_
          refine PW.bipush (v := 11) C dX10_line_50 (by decide) ?_
          refine PW.icmp_gt (tgt := 72) C dX10_line_52 (by decide) (fun c => ?_) (fun c => ?_)
          · rw [if_pos c] at hw
            exact PW.wk (wk_s (wk_s (wk_n (wk_n (wk_n (wk_n (wk_n (wk_n (wk_n wk_0))))))))) (b_X10_line_72 C hw)
          · rw [if_neg c] at hw
            refine PW.ald0n C dX10_line_55 ?_
            refine PW.get0 C cf_10 fl_X10_325 (by decide) oM_0 (fvI rfl) dX10_line_56 ?_
            refine PW.ild1n C dX10_line_59 ?_
            refine PW.ishr C dX10_line_60 ?_
            refine PW.iconst (v := 1) C dX10_line_61 (by decide) ?_
            refine PW.iand C dX10_line_62 ?_
            refine PW.iconst (v := 1) C dX10_line_63 (by decide) ?_
            refine PW.icmp_ne (tgt := 72) C dX10_line_64 (by decide) (fun c => ?_) (fun c => ?_)
            · rw [if_neg c] at hw
              exact PW.wk (wk_s (wk_s (wk_n (wk_n (wk_n (wk_n (wk_n (wk_n (wk_n wk_0))))))))) (b_X10_line_72 C hw)
            · rw [if_pos c] at hw
              refine PW.ald0n C dX10_line_67 ?_
              refine PW.iconst (v := 3) C dX10_line_68 (by decide) ?_
              refine PW.callVV1 C ms_X10_wrong ml_X10_298 dX10_line_69 oM_0 ⟨_, _, rfl⟩ (Nat.le_of_ble_eq_true rfl) (by decide) (Nat.le_of_ble_eq_true rfl) (s_X10_wrong hw) ?_
              clear hw
              intro h150 hw
              exact PW.wk (wk_s (wk_s (wk_n (wk_n (wk_n (wk_n (wk_n (wk_n (wk_n wk_0))))))))) (b_X10_line_72 C hw)
      · rw [if_neg c] at hw
        refine PW.ald0n C dX10_line_35 ?_
        refine PW.iconst (v := 2) C dX10_line_36 (by decide) ?_
        refine PW.callVV1 C ms_X10_wrong ml_X10_298 dX10_line_37 oM_0 ⟨_, _, rfl⟩ (Nat.le_of_ble_eq_true rfl) (by decide) (Nat.le_of_ble_eq_true rfl) (s_X10_wrong hw) ?_
        clear hw
        intro h151 hw
        refine PW.goto (tgt := 72) C dX10_line_40 (by decide) ?_
        exact PW.wk (wk_s (wk_s (wk_n (wk_n (wk_n (wk_n (wk_n (wk_n (wk_n wk_0))))))))) (b_X10_line_72 C hw)
    · rw [if_neg c] at hw
      exact PW.wk (wk_s (wk_n (wk_n (wk_n (wk_n (wk_n (wk_n (wk_n (wk_n wk_0))))))))) (b_X10_line_16 C hw)
def w_X10_half_7 (r0 : Nat) (k26 : PH → Prop) (Q : PH → Prop) (x1 : Int32) (kb : Int32 → PH → Prop) (x2 : Int32) (h : PH) : Prop :=
  if x1 ≤ x2 then (k26 h) else (vp_in (x1 + x2) (alM r0) ∧ vp_in x2 (alM r0) ∧ ∀ h4, h4 = sI h r0 (iN x2) (gI h r0 (iN (x1 + x2))) → kb (x2 + 1) h4)
set_option maxRecDepth 8000 in
theorem b_X10_half_7 {D : va_G} {ca : Nat → ClassId} {ad : Nat → Nat} {K : Kt} {r0 : Nat} {k26 : PH → Prop} {kb : Int32 → PH → Prop} {Q : PH → Prop} {x1 : Int32} {x2 : Int32} {h : PH} (C : CX (GM D ca ad) (XS (GM D ca ad)) cX10_half RX10 3 none 1 K) (hr0 : aM r0 0 (alM r0)) (hk26 : ∀ (h : PH), k26 h → PW (GM D ca ad) K 3 (qV Q) h 26 [none, none, none] []) (hkb : ∀ (x2 : Int32) (h : PH), kb x2 h → PW (GM D ca ad) K 3 (qV Q) h 7 [some (.ref r0), some (.int x1), some (.int x2)] []) (hw : w_X10_half_7 r0 k26 Q x1 kb x2 h) : PW (GM D ca ad) K 3 (qV Q) h 7 [some (.ref r0), some (.int x1), some (.int x2)] [] := by
  unfold w_X10_half_7 at hw
  refine PW.ild2n C dX10_half_7 ?_
  refine PW.ild1n C dX10_half_8 ?_
  refine PW.icmp_ge (tgt := 26) C dX10_half_9 (by decide) (fun c => ?_) (fun c => ?_)
  · rw [if_pos c] at hw
    exact PW.wk (wk_n (wk_n (wk_n wk_0))) (hk26 _ hw)
  · rw [if_neg c] at hw
    refine PW.ald0n C dX10_half_12 ?_
    refine PW.ild2n C dX10_half_13 ?_
    refine PW.ald0n C dX10_half_14 ?_
    refine PW.ild1n C dX10_half_15 ?_
    refine PW.ild2n C dX10_half_16 ?_
    refine PW.iadd C dX10_half_17 ?_
    obtain ⟨hc2, hw⟩ := hw
    refine PW.iald C dX10_half_18 hr0 hc2 ?_
    obtain ⟨hc3, hw⟩ := hw
    replace hw := hw _ rfl
    refine PW.iast C dX10_half_19 hr0 hc3 ?_
    refine PW.inc2 (v := 1) C dX10_half_20 (by decide) rfl (by decide) ?_
    refine PW.goto (tgt := 7) C dX10_half_23 (by decide) ?_
    exact PW.wk (wk_s (wk_s (wk_s wk_0))) (hkb _ _ hw)
theorem l_X10_half_7 {D : va_G} {ca : Nat → ClassId} {ad : Nat → Nat} {K : Kt} {r0 : Nat} {k26 : PH → Prop} {Q : PH → Prop} {x1 : Int32} (C : CX (GM D ca ad) (XS (GM D ca ad)) cX10_half RX10 3 none 1 K) (hr0 : aM r0 0 (alM r0)) (hk26 : ∀ (h : PH), k26 h → PW (GM D ca ad) K 3 (qV Q) h 26 [none, none, none] []) : ∀ (n : Nat) (x2 : Int32) (h : PH), Lp1 (w_X10_half_7 r0 k26 Q x1) n x2 h → PW (GM D ca ad) K 3 (qV Q) h 7 [some (.ref r0), some (.int x1), some (.int x2)] [] := by
  intro n
  induction n with
  | zero => intro x2 h hw; exact hw.elim
  | succ n ih => intro x2 h hw; exact b_X10_half_7 C hr0 hk26 (fun x2 h hw => ih x2 h hw) hw
def w_X10_half (r0 : Nat) (h : PH) (Q : PH → Prop) : Prop :=
  ∀ (y1 : Int32), y1 = ((Int32.ofNat (alM r0)) / 2) → ∃ n, Lp1 (w_X10_half_7 r0 (fun h5 => Q h5) Q y1) n 0 h
set_option maxRecDepth 8000 in
theorem s_X10_half {D : va_G} {ca : Nat → ClassId} {ad : Nat → Nat} {l : Launch} {r0 : Nat} {h : PH} {Q : PH → Prop} (hr0 : aM r0 0 (alM r0)) (hw : w_X10_half r0 h Q) : Sp (GM D ca ad) (XS (GM D ca ad)) l 1 yX10_half cX10_half 3 none [.ref r0] h (qV Q) := by
  refine Sp.of (own := RX10) [some (.ref r0), none, none] (by decide +kernel) rfl rfl (Nat.le_of_ble_eq_true rfl) (fun K hl C => ?_)
  subst hl
  unfold w_X10_half at hw
  refine PW.ald0n C dX10_half_0 ?_
  refine PW.alen C dX10_half_1 hr0 (by decide) rfl ?_
  refine PW.iconst (v := 2) C dX10_half_2 (by decide) ?_
  refine PW.idiv C dX10_half_3 (by decide) ?_
  replace hw := hw _ rfl
  refine PW.ist1n C dX10_half_4 (by decide) rfl ?_
  refine PW.iconst (v := 0) C dX10_half_5 (by decide) ?_
  refine PW.ist2n C dX10_half_6 (by decide) rfl ?_
  obtain ⟨n, hw⟩ := hw
  refine PW.wk (wk_s (wk_s (wk_s wk_0))) (l_X10_half_7 C hr0 ?_ n _ _ hw)
  · intro h5 hw
    exact PW.vret C dX10_half_26 ⟨rfl, hw⟩
def w_X10_makes (x1 : Int32) (x2 : Int32) (x3 : Int32) (x4 : Int32) (x5 : Int32) (h : PH) (Q : PH → Prop) : Prop :=
  ∀ (y1 : Int32), y1 = (gI h 34 (iN 0)) → vp_in y1 264 ∧ ∀ h3, h3 = sI h 35 (iN y1) x1 → vp_in y1 264 ∧ ∀ h5, h5 = sI h3 36 (iN y1) x2 → vp_in y1 264 ∧ ∀ h7, h7 = sI h5 37 (iN y1) x3 → vp_in y1 264 ∧ ∀ h9, h9 = sI h7 38 (iN y1) x4 → vp_in y1 264 ∧ ∀ h11, h11 = sI h9 39 (iN y1) x5 → ∀ h12, h12 = sI h11 34 (iN 0) ((gI h11 34 (iN 0)) + 1) → Q h12
set_option maxRecDepth 8000 in
theorem s_X10_makes {D : va_G} {ca : Nat → ClassId} {ad : Nat → Nat} {l : Launch} {x1 : Int32} {x2 : Int32} {x3 : Int32} {x4 : Int32} {x5 : Int32} {h : PH} {Q : PH → Prop} (hw : w_X10_makes x1 x2 x3 x4 x5 h Q) : Sp (GM D ca ad) (XS (GM D ca ad)) l 1 yX10_makes cX10_makes 7 none [.ref 0, .int x1, .int x2, .int x3, .int x4, .int x5] h (qV Q) := by
  refine Sp.of (own := RX10) [some (.ref 0), some (.int x1), some (.int x2), some (.int x3), some (.int x4), some (.int x5), none] (by decide +kernel) rfl rfl (Nat.le_of_ble_eq_true rfl) (fun K hl C => ?_)
  subst hl
  unfold w_X10_makes at hw
  refine PW.ald0n C dX10_makes_0 ?_
  refine PW.get0 (v := .ref 34) C cf_10 fl_X10_114 (by decide) oM_0 (fvR (o := 34) rfl) dX10_makes_1 ?_
  refine PW.iconst (v := 0) C dX10_makes_4 (by decide) ?_
  refine PW.iald C dX10_makes_5 aM_34 (vpl (by decide)) ?_
  replace hw := hw _ rfl
  refine PW.ist6 C dX10_makes_6 (by decide) rfl ?_
  refine PW.ald0n C dX10_makes_8 ?_
  refine PW.get0 (v := .ref 35) C cf_10 fl_X10_117 (by decide) oM_0 (fvR (o := 35) rfl) dX10_makes_9 ?_
  refine PW.ild6 C dX10_makes_12 ?_
  refine PW.ild1n C dX10_makes_14 ?_
  obtain ⟨hc2, hw⟩ := hw
  replace hw := hw _ rfl
  refine PW.iast C dX10_makes_15 aM_35 hc2 ?_
  refine PW.ald0n C dX10_makes_16 ?_
  refine PW.get0 (v := .ref 36) C cf_10 fl_X10_120 (by decide) oM_0 (fvR (o := 36) rfl) dX10_makes_17 ?_
  refine PW.ild6 C dX10_makes_20 ?_
  refine PW.ild2n C dX10_makes_22 ?_
  obtain ⟨hc4, hw⟩ := hw
  replace hw := hw _ rfl
  refine PW.iast C dX10_makes_23 aM_36 hc4 ?_
  refine PW.ald0n C dX10_makes_24 ?_
  refine PW.get0 (v := .ref 37) C cf_10 fl_X10_123 (by decide) oM_0 (fvR (o := 37) rfl) dX10_makes_25 ?_
  refine PW.ild6 C dX10_makes_28 ?_
  refine PW.ild3n C dX10_makes_30 ?_
  obtain ⟨hc6, hw⟩ := hw
  replace hw := hw _ rfl
  refine PW.iast C dX10_makes_31 aM_37 hc6 ?_
  refine PW.ald0n C dX10_makes_32 ?_
  refine PW.get0 (v := .ref 38) C cf_10 fl_X10_126 (by decide) oM_0 (fvR (o := 38) rfl) dX10_makes_33 ?_
  refine PW.ild6 C dX10_makes_36 ?_
  refine PW.ild4 C dX10_makes_38 ?_
  obtain ⟨hc8, hw⟩ := hw
  replace hw := hw _ rfl
  refine PW.iast C dX10_makes_40 aM_38 hc8 ?_
  refine PW.ald0n C dX10_makes_41 ?_
  refine PW.get0 (v := .ref 39) C cf_10 fl_X10_129 (by decide) oM_0 (fvR (o := 39) rfl) dX10_makes_42 ?_
  refine PW.ild6 C dX10_makes_45 ?_
  refine PW.ild5 C dX10_makes_47 ?_
  obtain ⟨hc10, hw⟩ := hw
  replace hw := hw _ rfl
  refine PW.iast C dX10_makes_49 aM_39 hc10 ?_
  refine PW.ald0n C dX10_makes_50 ?_
  refine PW.get0 (v := .ref 34) C cf_10 fl_X10_114 (by decide) oM_0 (fvR (o := 34) rfl) dX10_makes_51 ?_
  refine PW.iconst (v := 0) C dX10_makes_54 (by decide) ?_
  refine PW.dup2 C dX10_makes_55 rfl rfl ?_
  refine PW.iald C dX10_makes_56 aM_34 (vpl (by decide)) ?_
  refine PW.iconst (v := 1) C dX10_makes_57 (by decide) ?_
  refine PW.iadd C dX10_makes_58 ?_
  replace hw := hw _ rfl
  refine PW.iast C dX10_makes_59 aM_34 (vpl (by decide)) ?_
  exact PW.vret C dX10_makes_60 ⟨rfl, hw⟩
def w_X10_begins_9 (k59 : PH → Prop) (Q : PH → Prop) (kb : Int32 → PH → Prop) (x1 : Int32) (h : PH) : Prop :=
  if (gI h 2 (iN 3)) ≤ x1 then (k59 h) else (vp_in x1 16 ∧ vp_in x1 16 ∧ vp_in x1 16 ∧ vp_in x1 16 ∧ vp_in x1 16 ∧ w_X10_makes (gI h 10 (iN x1)) (gI h 11 (iN x1)) (gI h 12 (iN x1)) (gI h 13 (iN x1)) (gI h 14 (iN x1)) h (fun h7 => kb (x1 + 1) h7))
set_option maxRecDepth 8000 in
theorem b_X10_begins_9 {D : va_G} {ca : Nat → ClassId} {ad : Nat → Nat} {K : Kt} {k59 : PH → Prop} {kb : Int32 → PH → Prop} {Q : PH → Prop} {x1 : Int32} {h : PH} (C : CX (GM D ca ad) (XS (GM D ca ad)) cX10_begins RX10 2 none 2 K) (hk59 : ∀ (h : PH), k59 h → PW (GM D ca ad) K 2 (qV Q) h 59 [some (.ref 0), none] []) (hkb : ∀ (x1 : Int32) (h : PH), kb x1 h → PW (GM D ca ad) K 2 (qV Q) h 9 [some (.ref 0), some (.int x1)] []) (hw : w_X10_begins_9 k59 Q kb x1 h) : PW (GM D ca ad) K 2 (qV Q) h 9 [some (.ref 0), some (.int x1)] [] := by
  unfold w_X10_begins_9 at hw
  refine PW.ild1n C dX10_begins_9 ?_
  refine PW.ald0n C dX10_begins_10 ?_
  refine PW.get0 (v := .ref 2) C cf_10 fl_X10_13 (by decide) oM_0 (fvR (o := 2) rfl) dX10_begins_11 ?_
  refine PW.iconst (v := 3) C dX10_begins_14 (by decide) ?_
  refine PW.iald C dX10_begins_15 aM_2 (vpl (by decide)) ?_
  refine PW.icmp_ge (tgt := 59) C dX10_begins_16 (by decide) (fun c => ?_) (fun c => ?_)
  · rw [if_pos c] at hw
    exact PW.wk (wk_s (wk_n wk_0)) (hk59 _ hw)
  · rw [if_neg c] at hw
    refine PW.ald0n C dX10_begins_19 ?_
    refine PW.ald0n C dX10_begins_20 ?_
    refine PW.get0 (v := .ref 10) C cf_10 fl_X10_37 (by decide) oM_0 (fvR (o := 10) rfl) dX10_begins_21 ?_
    refine PW.ild1n C dX10_begins_24 ?_
    obtain ⟨hc2, hw⟩ := hw
    refine PW.iald C dX10_begins_25 aM_10 hc2 ?_
    refine PW.ald0n C dX10_begins_26 ?_
    refine PW.get0 (v := .ref 11) C cf_10 fl_X10_40 (by decide) oM_0 (fvR (o := 11) rfl) dX10_begins_27 ?_
    refine PW.ild1n C dX10_begins_30 ?_
    obtain ⟨hc3, hw⟩ := hw
    refine PW.iald C dX10_begins_31 aM_11 hc3 ?_
    refine PW.ald0n C dX10_begins_32 ?_
    refine PW.get0 (v := .ref 12) C cf_10 fl_X10_43 (by decide) oM_0 (fvR (o := 12) rfl) dX10_begins_33 ?_
    refine PW.ild1n C dX10_begins_36 ?_
    obtain ⟨hc4, hw⟩ := hw
    refine PW.iald C dX10_begins_37 aM_12 hc4 ?_
    refine PW.ald0n C dX10_begins_38 ?_
    refine PW.get0 (v := .ref 13) C cf_10 fl_X10_46 (by decide) oM_0 (fvR (o := 13) rfl) dX10_begins_39 ?_
    refine PW.ild1n C dX10_begins_42 ?_
    obtain ⟨hc5, hw⟩ := hw
    refine PW.iald C dX10_begins_43 aM_13 hc5 ?_
    refine PW.ald0n C dX10_begins_44 ?_
    refine PW.get0 (v := .ref 14) C cf_10 fl_X10_49 (by decide) oM_0 (fvR (o := 14) rfl) dX10_begins_45 ?_
    refine PW.ild1n C dX10_begins_48 ?_
    obtain ⟨hc6, hw⟩ := hw
    refine PW.iald C dX10_begins_49 aM_14 hc6 ?_
    refine PW.callVV5 C ms_X10_makes ml_X10_466 dX10_begins_50 oM_0 ⟨_, _, rfl⟩ (Nat.le_of_ble_eq_true rfl) (by decide) (Nat.le_of_ble_eq_true rfl) (s_X10_makes hw) ?_
    clear hw
    intro h7 hw
    refine PW.inc1 (v := 1) C dX10_begins_53 (by decide) rfl (by decide) ?_
    refine PW.goto (tgt := 9) C dX10_begins_56 (by decide) ?_
    exact PW.wk (wk_s (wk_s wk_0)) (hkb _ _ hw)
theorem l_X10_begins_9 {D : va_G} {ca : Nat → ClassId} {ad : Nat → Nat} {K : Kt} {k59 : PH → Prop} {Q : PH → Prop} (C : CX (GM D ca ad) (XS (GM D ca ad)) cX10_begins RX10 2 none 2 K) (hk59 : ∀ (h : PH), k59 h → PW (GM D ca ad) K 2 (qV Q) h 59 [some (.ref 0), none] []) : ∀ (n : Nat) (x1 : Int32) (h : PH), Lp1 (w_X10_begins_9 k59 Q) n x1 h → PW (GM D ca ad) K 2 (qV Q) h 9 [some (.ref 0), some (.int x1)] [] := by
  intro n
  induction n with
  | zero => intro x1 h hw; exact hw.elim
  | succ n ih => intro x1 h hw; exact b_X10_begins_9 C hk59 (fun x1 h hw => ih x1 h hw) hw
def w_X10_begins_68 (k106 : PH → Prop) (Q : PH → Prop) (kb : Int32 → PH → Prop) (x1 : Int32) (h : PH) : Prop :=
  if 8 ≤ x1 then (k106 h) else (if (gI h 2 (iN 4)) ≤ x1 then (vp_in x1 176 ∧ ∀ h11, h11 = sI h 41 (iN x1) 0 → kb (x1 + 1) h11) else (vp_in x1 16 ∧ vp_in x1 176 ∧ ∀ h14, h14 = sI h 41 (iN x1) (gI h 15 (iN x1)) → kb (x1 + 1) h14))
set_option maxRecDepth 8000 in
theorem b_X10_begins_68 {D : va_G} {ca : Nat → ClassId} {ad : Nat → Nat} {K : Kt} {k106 : PH → Prop} {kb : Int32 → PH → Prop} {Q : PH → Prop} {x1 : Int32} {h : PH} (C : CX (GM D ca ad) (XS (GM D ca ad)) cX10_begins RX10 2 none 2 K) (hk106 : ∀ (h : PH), k106 h → PW (GM D ca ad) K 2 (qV Q) h 106 [some (.ref 0), none] []) (hkb : ∀ (x1 : Int32) (h : PH), kb x1 h → PW (GM D ca ad) K 2 (qV Q) h 68 [some (.ref 0), some (.int x1)] []) (hw : w_X10_begins_68 k106 Q kb x1 h) : PW (GM D ca ad) K 2 (qV Q) h 68 [some (.ref 0), some (.int x1)] [] := by
  unfold w_X10_begins_68 at hw
  refine PW.ild1n C dX10_begins_68 ?_
  refine PW.bipush (v := 8) C dX10_begins_69 (by decide) ?_
  refine PW.icmp_ge (tgt := 106) C dX10_begins_71 (by decide) (fun c => ?_) (fun c => ?_)
  · rw [if_pos c] at hw
    exact PW.wk (wk_s (wk_n wk_0)) (hk106 _ hw)
  · rw [if_neg c] at hw
    refine PW.ald0n C dX10_begins_74 ?_
    refine PW.get0 (v := .ref 41) C cf_10 fl_X10_135 (by decide) oM_0 (fvR (o := 41) rfl) dX10_begins_75 ?_
    refine PW.ild1n C dX10_begins_78 ?_
    refine PW.ild1n C dX10_begins_79 ?_
    refine PW.ald0n C dX10_begins_80 ?_
    refine PW.get0 (v := .ref 2) C cf_10 fl_X10_13 (by decide) oM_0 (fvR (o := 2) rfl) dX10_begins_81 ?_
    refine PW.iconst (v := 4) C dX10_begins_84 (by decide) ?_
    refine PW.iald C dX10_begins_85 aM_2 (vpl (by decide)) ?_
    refine PW.icmp_ge (tgt := 98) C dX10_begins_86 (by decide) (fun c => ?_) (fun c => ?_)
    · rw [if_pos c] at hw
      refine PW.iconst (v := 0) C dX10_begins_98 (by decide) ?_
      obtain ⟨hc10, hw⟩ := hw
      replace hw := hw _ rfl
      refine PW.iast C dX10_begins_99 aM_41 hc10 ?_
      refine PW.inc1 (v := 1) C dX10_begins_100 (by decide) rfl (by decide) ?_
      refine PW.goto (tgt := 68) C dX10_begins_103 (by decide) ?_
      exact PW.wk (wk_s (wk_s wk_0)) (hkb _ _ hw)
    · rw [if_neg c] at hw
      refine PW.ald0n C dX10_begins_89 ?_
      refine PW.get0 (v := .ref 15) C cf_10 fl_X10_52 (by decide) oM_0 (fvR (o := 15) rfl) dX10_begins_90 ?_
      refine PW.ild1n C dX10_begins_93 ?_
      obtain ⟨hc12, hw⟩ := hw
      refine PW.iald C dX10_begins_94 aM_15 hc12 ?_
      refine PW.goto (tgt := 99) C dX10_begins_95 (by decide) ?_
      obtain ⟨hc13, hw⟩ := hw
      replace hw := hw _ rfl
      refine PW.iast C dX10_begins_99 aM_41 hc13 ?_
      refine PW.inc1 (v := 1) C dX10_begins_100 (by decide) rfl (by decide) ?_
      refine PW.goto (tgt := 68) C dX10_begins_103 (by decide) ?_
      exact PW.wk (wk_s (wk_s wk_0)) (hkb _ _ hw)
theorem l_X10_begins_68 {D : va_G} {ca : Nat → ClassId} {ad : Nat → Nat} {K : Kt} {k106 : PH → Prop} {Q : PH → Prop} (C : CX (GM D ca ad) (XS (GM D ca ad)) cX10_begins RX10 2 none 2 K) (hk106 : ∀ (h : PH), k106 h → PW (GM D ca ad) K 2 (qV Q) h 106 [some (.ref 0), none] []) : ∀ (n : Nat) (x1 : Int32) (h : PH), Lp1 (w_X10_begins_68 k106 Q) n x1 h → PW (GM D ca ad) K 2 (qV Q) h 68 [some (.ref 0), some (.int x1)] [] := by
  intro n
  induction n with
  | zero => intro x1 h hw; exact hw.elim
  | succ n ih => intro x1 h hw; exact b_X10_begins_68 C hk106 (fun x1 h hw => ih x1 h hw) hw
def w_X10_begins_115 (k152 : PH → Prop) (Q : PH → Prop) (kb : Int32 → PH → Prop) (x1 : Int32) (h : PH) : Prop :=
  if 4 ≤ x1 then (k152 h) else (if (gI h 2 (iN 2)) ≤ x1 then (vp_in x1 88 ∧ ∀ h18, h18 = sI h 43 (iN x1) 0 → kb (x1 + 1) h18) else (vp_in x1 8 ∧ vp_in x1 88 ∧ ∀ h21, h21 = sI h 43 (iN x1) (gI h 8 (iN x1)) → kb (x1 + 1) h21))
set_option maxRecDepth 8000 in
theorem b_X10_begins_115 {D : va_G} {ca : Nat → ClassId} {ad : Nat → Nat} {K : Kt} {k152 : PH → Prop} {kb : Int32 → PH → Prop} {Q : PH → Prop} {x1 : Int32} {h : PH} (C : CX (GM D ca ad) (XS (GM D ca ad)) cX10_begins RX10 2 none 2 K) (hk152 : ∀ (h : PH), k152 h → PW (GM D ca ad) K 2 (qV Q) h 152 [some (.ref 0), none] []) (hkb : ∀ (x1 : Int32) (h : PH), kb x1 h → PW (GM D ca ad) K 2 (qV Q) h 115 [some (.ref 0), some (.int x1)] []) (hw : w_X10_begins_115 k152 Q kb x1 h) : PW (GM D ca ad) K 2 (qV Q) h 115 [some (.ref 0), some (.int x1)] [] := by
  unfold w_X10_begins_115 at hw
  refine PW.ild1n C dX10_begins_115 ?_
  refine PW.iconst (v := 4) C dX10_begins_116 (by decide) ?_
  refine PW.icmp_ge (tgt := 152) C dX10_begins_117 (by decide) (fun c => ?_) (fun c => ?_)
  · rw [if_pos c] at hw
    exact PW.wk (wk_s (wk_n wk_0)) (hk152 _ hw)
  · rw [if_neg c] at hw
    refine PW.ald0n C dX10_begins_120 ?_
    refine PW.get0 (v := .ref 43) C cf_10 fl_X10_141 (by decide) oM_0 (fvR (o := 43) rfl) dX10_begins_121 ?_
    refine PW.ild1n C dX10_begins_124 ?_
    refine PW.ild1n C dX10_begins_125 ?_
    refine PW.ald0n C dX10_begins_126 ?_
    refine PW.get0 (v := .ref 2) C cf_10 fl_X10_13 (by decide) oM_0 (fvR (o := 2) rfl) dX10_begins_127 ?_
    refine PW.iconst (v := 2) C dX10_begins_130 (by decide) ?_
    refine PW.iald C dX10_begins_131 aM_2 (vpl (by decide)) ?_
    refine PW.icmp_ge (tgt := 144) C dX10_begins_132 (by decide) (fun c => ?_) (fun c => ?_)
    · rw [if_pos c] at hw
      refine PW.iconst (v := 0) C dX10_begins_144 (by decide) ?_
      obtain ⟨hc17, hw⟩ := hw
      replace hw := hw _ rfl
      refine PW.iast C dX10_begins_145 aM_43 hc17 ?_
      refine PW.inc1 (v := 1) C dX10_begins_146 (by decide) rfl (by decide) ?_
      refine PW.goto (tgt := 115) C dX10_begins_149 (by decide) ?_
      exact PW.wk (wk_s (wk_s wk_0)) (hkb _ _ hw)
    · rw [if_neg c] at hw
      refine PW.ald0n C dX10_begins_135 ?_
      refine PW.get0 (v := .ref 8) C cf_10 fl_X10_31 (by decide) oM_0 (fvR (o := 8) rfl) dX10_begins_136 ?_
      refine PW.ild1n C dX10_begins_139 ?_
      obtain ⟨hc19, hw⟩ := hw
      refine PW.iald C dX10_begins_140 aM_8 hc19 ?_
      refine PW.goto (tgt := 145) C dX10_begins_141 (by decide) ?_
      obtain ⟨hc20, hw⟩ := hw
      replace hw := hw _ rfl
      refine PW.iast C dX10_begins_145 aM_43 hc20 ?_
      refine PW.inc1 (v := 1) C dX10_begins_146 (by decide) rfl (by decide) ?_
      refine PW.goto (tgt := 115) C dX10_begins_149 (by decide) ?_
      exact PW.wk (wk_s (wk_s wk_0)) (hkb _ _ hw)
theorem l_X10_begins_115 {D : va_G} {ca : Nat → ClassId} {ad : Nat → Nat} {K : Kt} {k152 : PH → Prop} {Q : PH → Prop} (C : CX (GM D ca ad) (XS (GM D ca ad)) cX10_begins RX10 2 none 2 K) (hk152 : ∀ (h : PH), k152 h → PW (GM D ca ad) K 2 (qV Q) h 152 [some (.ref 0), none] []) : ∀ (n : Nat) (x1 : Int32) (h : PH), Lp1 (w_X10_begins_115 k152 Q) n x1 h → PW (GM D ca ad) K 2 (qV Q) h 115 [some (.ref 0), some (.int x1)] [] := by
  intro n
  induction n with
  | zero => intro x1 h hw; exact hw.elim
  | succ n ih => intro x1 h hw; exact b_X10_begins_115 C hk152 (fun x1 h hw => ih x1 h hw) hw
def w_X10_begins (h : PH) (Q : PH → Prop) : Prop :=
  ∀ h1, h1 = sI h 34 (iN 0) 0 → ∃ n, Lp1 (w_X10_begins_9 (fun h8 => ∀ h9, h9 = sI h8 40 (iN 0) 0 → ∃ n, Lp1 (w_X10_begins_68 (fun h15 => ∀ h16, h16 = sI h15 42 (iN 0) 0 → ∃ n, Lp1 (w_X10_begins_115 (fun h22 => ∀ h23, h23 = sI h22 44 (iN 0) 0 → Q h23) Q) n 0 h16) Q) n 0 h9) Q) n 0 h1
set_option maxRecDepth 8000 in
theorem s_X10_begins {D : va_G} {ca : Nat → ClassId} {ad : Nat → Nat} {l : Launch} {h : PH} {Q : PH → Prop} (hw : w_X10_begins h Q) : Sp (GM D ca ad) (XS (GM D ca ad)) l 2 yX10_begins cX10_begins 2 none [.ref 0] h (qV Q) := by
  refine Sp.of (own := RX10) [some (.ref 0), none] (by decide +kernel) rfl rfl (Nat.le_of_ble_eq_true rfl) (fun K hl C => ?_)
  subst hl
  unfold w_X10_begins at hw
  refine PW.ald0n C dX10_begins_0 ?_
  refine PW.get0 (v := .ref 34) C cf_10 fl_X10_114 (by decide) oM_0 (fvR (o := 34) rfl) dX10_begins_1 ?_
  refine PW.iconst (v := 0) C dX10_begins_4 (by decide) ?_
  refine PW.iconst (v := 0) C dX10_begins_5 (by decide) ?_
  replace hw := hw _ rfl
  refine PW.iast C dX10_begins_6 aM_34 (vpl (by decide)) ?_
  refine PW.iconst (v := 0) C dX10_begins_7 (by decide) ?_
  refine PW.ist1n C dX10_begins_8 (by decide) rfl ?_
  obtain ⟨n, hw⟩ := hw
  refine PW.wk (wk_s (wk_s wk_0)) (l_X10_begins_9 C ?_ n _ _ hw)
  · intro h8 hw
    refine PW.ald0n C dX10_begins_59 ?_
    refine PW.get0 (v := .ref 40) C cf_10 fl_X10_132 (by decide) oM_0 (fvR (o := 40) rfl) dX10_begins_60 ?_
    refine PW.iconst (v := 0) C dX10_begins_63 (by decide) ?_
    refine PW.iconst (v := 0) C dX10_begins_64 (by decide) ?_
    replace hw := hw _ rfl
    refine PW.iast C dX10_begins_65 aM_40 (vpl (by decide)) ?_
    refine PW.iconst (v := 0) C dX10_begins_66 (by decide) ?_
    refine PW.ist1n C dX10_begins_67 (by decide) rfl ?_
    obtain ⟨n, hw⟩ := hw
    refine PW.wk (wk_s (wk_s wk_0)) (l_X10_begins_68 C ?_ n _ _ hw)
    · intro h15 hw
      refine PW.ald0n C dX10_begins_106 ?_
      refine PW.get0 (v := .ref 42) C cf_10 fl_X10_138 (by decide) oM_0 (fvR (o := 42) rfl) dX10_begins_107 ?_
      refine PW.iconst (v := 0) C dX10_begins_110 (by decide) ?_
      refine PW.iconst (v := 0) C dX10_begins_111 (by decide) ?_
      replace hw := hw _ rfl
      refine PW.iast C dX10_begins_112 aM_42 (vpl (by decide)) ?_
      refine PW.iconst (v := 0) C dX10_begins_113 (by decide) ?_
      refine PW.ist1n C dX10_begins_114 (by decide) rfl ?_
      obtain ⟨n, hw⟩ := hw
      refine PW.wk (wk_s (wk_s wk_0)) (l_X10_begins_115 C ?_ n _ _ hw)
      · intro h22 hw
        refine PW.ald0n C dX10_begins_152 ?_
        refine PW.get0 (v := .ref 44) C cf_10 fl_X10_144 (by decide) oM_0 (fvR (o := 44) rfl) dX10_begins_153 ?_
        refine PW.iconst (v := 0) C dX10_begins_156 (by decide) ?_
        refine PW.iconst (v := 0) C dX10_begins_157 (by decide) ?_
        replace hw := hw _ rfl
        refine PW.iast C dX10_begins_158 aM_44 (vpl (by decide)) ?_
        exact PW.vret C dX10_begins_159 ⟨rfl, hw⟩
def w_X10_text_76 (Q : Int32 → PH → Prop) (kb : Int32 → PH → Prop) (x2 : Int32) (s1 : Int32) (s2 : Int32) (h : PH) : Prop :=
  w_X10_reads s1 s2 h (fun h7 => kb (x2 + 1) h7)
set_option maxRecDepth 8000 in
theorem b_X10_text_76 {D : va_G} {ca : Nat → ClassId} {ad : Nat → Nat} {K : Kt} {kb : Int32 → PH → Prop} {Q : Int32 → PH → Prop} {x2 : Int32} {s1 : Int32} {s2 : Int32} {h : PH} (C : CX (GM D ca ad) (XS (GM D ca ad)) cX10_text RX10 3 (some .int) 503 K) (hkb : ∀ (x2 : Int32) (h : PH), kb x2 h → PW (GM D ca ad) K 3 (qI Q) h 47 [some (.ref 0), none, some (.int x2)] []) (hw : w_X10_text_76 Q kb x2 s1 s2 h) : PW (GM D ca ad) K 3 (qI Q) h 76 [some (.ref 0), none, some (.int x2)] [.int s2, .int s1, .ref 0] := by
  unfold w_X10_text_76 at hw
  refine PW.callVV2 C ms_X10_reads ml_X10_331 dX10_text_76 oM_0 ⟨_, _, rfl⟩ (Nat.le_of_ble_eq_true rfl) (by decide) (Nat.le_of_ble_eq_true rfl) (s_X10_reads hw) ?_
  clear hw
  intro h7 hw
  refine PW.inc2 (v := 1) C dX10_text_79 (by decide) rfl (by decide) ?_
  refine PW.goto (tgt := 47) C dX10_text_82 (by decide) ?_
  exact PW.wk (wk_s (wk_n (wk_s wk_0))) (hkb _ _ hw)
def w_X10_text_47 (k85 : PH → Prop) (Q : Int32 → PH → Prop) (kb : Int32 → PH → Prop) (x2 : Int32) (h : PH) : Prop :=
  if 11 ≤ x2 then (k85 h) else (if x2 = 7 then (w_X10_text_76 Q kb x2 x2 5 h) else (if x2 = 8 then (w_X10_text_76 Q kb x2 x2 1 h) else (w_X10_text_76 Q kb x2 x2 0 h)))
set_option maxRecDepth 8000 in
theorem b_X10_text_47 {D : va_G} {ca : Nat → ClassId} {ad : Nat → Nat} {K : Kt} {k85 : PH → Prop} {kb : Int32 → PH → Prop} {Q : Int32 → PH → Prop} {x2 : Int32} {h : PH} (C : CX (GM D ca ad) (XS (GM D ca ad)) cX10_text RX10 3 (some .int) 503 K) (hk85 : ∀ (h : PH), k85 h → PW (GM D ca ad) K 3 (qI Q) h 85 [some (.ref 0), none, none] []) (hkb : ∀ (x2 : Int32) (h : PH), kb x2 h → PW (GM D ca ad) K 3 (qI Q) h 47 [some (.ref 0), none, some (.int x2)] []) (hw : w_X10_text_47 k85 Q kb x2 h) : PW (GM D ca ad) K 3 (qI Q) h 47 [some (.ref 0), none, some (.int x2)] [] := by
  unfold w_X10_text_47 at hw
  refine PW.ild2n C dX10_text_47 ?_
  refine PW.bipush (v := 11) C dX10_text_48 (by decide) ?_
  refine PW.icmp_ge (tgt := 85) C dX10_text_50 (by decide) (fun c => ?_) (fun c => ?_)
  · rw [if_pos c] at hw
    exact PW.wk (wk_s (wk_n (wk_n wk_0))) (hk85 _ hw)
  · rw [if_neg c] at hw
    refine PW.ald0n C dX10_text_53 ?_
    refine PW.ild2n C dX10_text_54 ?_
    refine PW.ild2n C dX10_text_55 ?_
    refine PW.bipush (v := 7) C dX10_text_56 (by decide) ?_
    refine PW.icmp_ne (tgt := 65) C dX10_text_58 (by decide) (fun c => ?_) (fun c => ?_)
    · rw [if_neg c] at hw
      refine PW.ild2n C dX10_text_65 ?_
      refine PW.bipush (v := 8) C dX10_text_66 (by decide) ?_
      refine PW.icmp_ne (tgt := 75) C dX10_text_68 (by decide) (fun c => ?_) (fun c => ?_)
      · rw [if_neg c] at hw
        refine PW.iconst (v := 0) C dX10_text_75 (by decide) ?_
        exact PW.wk (wk_s (wk_n (wk_s wk_0))) (b_X10_text_76 C hkb hw)
      · rw [if_pos c] at hw
        refine PW.iconst (v := 1) C dX10_text_71 (by decide) ?_
        refine PW.goto (tgt := 76) C dX10_text_72 (by decide) ?_
        exact PW.wk (wk_s (wk_n (wk_s wk_0))) (b_X10_text_76 C hkb hw)
    · rw [if_pos c] at hw
      refine PW.iconst (v := 5) C dX10_text_61 (by decide) ?_
      refine PW.goto (tgt := 76) C dX10_text_62 (by decide) ?_
      exact PW.wk (wk_s (wk_n (wk_s wk_0))) (b_X10_text_76 C hkb hw)
theorem l_X10_text_47 {D : va_G} {ca : Nat → ClassId} {ad : Nat → Nat} {K : Kt} {k85 : PH → Prop} {Q : Int32 → PH → Prop} (C : CX (GM D ca ad) (XS (GM D ca ad)) cX10_text RX10 3 (some .int) 503 K) (hk85 : ∀ (h : PH), k85 h → PW (GM D ca ad) K 3 (qI Q) h 85 [some (.ref 0), none, none] []) : ∀ (n : Nat) (x2 : Int32) (h : PH), Lp1 (w_X10_text_47 k85 Q) n x2 h → PW (GM D ca ad) K 3 (qI Q) h 47 [some (.ref 0), none, some (.int x2)] [] := by
  intro n
  induction n with
  | zero => intro x2 h hw; exact hw.elim
  | succ n ih => intro x2 h hw; exact b_X10_text_47 C hk85 (fun x2 h hw => ih x2 h hw) hw
def w_X10_text_87 (k112 : PH → Prop) (Q : Int32 → PH → Prop) (kb : Int32 → PH → Prop) (x2 : Int32) (h : PH) : Prop :=
  if 4 ≤ x2 then (k112 h) else (vp_in x2 4 ∧ ∀ h10, h10 = sI h 28 (iN x2) 0 → vp_in x2 4 ∧ ∀ h12, h12 = sI h10 29 (iN x2) 0 → kb (x2 + 1) h12)
set_option maxRecDepth 8000 in
theorem b_X10_text_87 {D : va_G} {ca : Nat → ClassId} {ad : Nat → Nat} {K : Kt} {k112 : PH → Prop} {kb : Int32 → PH → Prop} {Q : Int32 → PH → Prop} {x2 : Int32} {h : PH} (C : CX (GM D ca ad) (XS (GM D ca ad)) cX10_text RX10 3 (some .int) 503 K) (hk112 : ∀ (h : PH), k112 h → PW (GM D ca ad) K 3 (qI Q) h 112 [some (.ref 0), none, none] []) (hkb : ∀ (x2 : Int32) (h : PH), kb x2 h → PW (GM D ca ad) K 3 (qI Q) h 87 [some (.ref 0), none, some (.int x2)] []) (hw : w_X10_text_87 k112 Q kb x2 h) : PW (GM D ca ad) K 3 (qI Q) h 87 [some (.ref 0), none, some (.int x2)] [] := by
  unfold w_X10_text_87 at hw
  refine PW.ild2n C dX10_text_87 ?_
  refine PW.iconst (v := 4) C dX10_text_88 (by decide) ?_
  refine PW.icmp_ge (tgt := 112) C dX10_text_89 (by decide) (fun c => ?_) (fun c => ?_)
  · rw [if_pos c] at hw
    exact PW.wk (wk_s (wk_n (wk_n wk_0))) (hk112 _ hw)
  · rw [if_neg c] at hw
    refine PW.ald0n C dX10_text_92 ?_
    refine PW.get0 (v := .ref 28) C cf_10 fl_X10_91 (by decide) oM_0 (fvR (o := 28) rfl) dX10_text_93 ?_
    refine PW.ild2n C dX10_text_96 ?_
    refine PW.iconst (v := 0) C dX10_text_97 (by decide) ?_
    obtain ⟨hc9, hw⟩ := hw
    replace hw := hw _ rfl
    refine PW.iast C dX10_text_98 aM_28 hc9 ?_
    refine PW.ald0n C dX10_text_99 ?_
    refine PW.get0 (v := .ref 29) C cf_10 fl_X10_94 (by decide) oM_0 (fvR (o := 29) rfl) dX10_text_100 ?_
    refine PW.ild2n C dX10_text_103 ?_
    refine PW.iconst (v := 0) C dX10_text_104 (by decide) ?_
    obtain ⟨hc11, hw⟩ := hw
    replace hw := hw _ rfl
    refine PW.iast C dX10_text_105 aM_29 hc11 ?_
    refine PW.inc2 (v := 1) C dX10_text_106 (by decide) rfl (by decide) ?_
    refine PW.goto (tgt := 87) C dX10_text_109 (by decide) ?_
    exact PW.wk (wk_s (wk_n (wk_s wk_0))) (hkb _ _ hw)
theorem l_X10_text_87 {D : va_G} {ca : Nat → ClassId} {ad : Nat → Nat} {K : Kt} {k112 : PH → Prop} {Q : Int32 → PH → Prop} (C : CX (GM D ca ad) (XS (GM D ca ad)) cX10_text RX10 3 (some .int) 503 K) (hk112 : ∀ (h : PH), k112 h → PW (GM D ca ad) K 3 (qI Q) h 112 [some (.ref 0), none, none] []) : ∀ (n : Nat) (x2 : Int32) (h : PH), Lp1 (w_X10_text_87 k112 Q) n x2 h → PW (GM D ca ad) K 3 (qI Q) h 87 [some (.ref 0), none, some (.int x2)] [] := by
  intro n
  induction n with
  | zero => intro x2 h hw; exact hw.elim
  | succ n ih => intro x2 h hw; exact b_X10_text_87 C hk112 (fun x2 h hw => ih x2 h hw) hw
def w_X10_text_136 (k158 : PH → Prop) (Q : Int32 → PH → Prop) (kb : PH → Prop) (h : PH) : Prop :=
  if (gI h 0 40) = 0 then (if (gI h 0 38) = 4 then (k158 h) else (w_X10_line h (fun h19 => kb h19))) else (k158 h)
set_option maxRecDepth 8000 in
theorem b_X10_text_136 {D : va_G} {ca : Nat → ClassId} {ad : Nat → Nat} {K : Kt} {k158 : PH → Prop} {kb : PH → Prop} {Q : Int32 → PH → Prop} {h : PH} (C : CX (GM D ca ad) (XS (GM D ca ad)) cX10_text RX10 3 (some .int) 503 K) (hk158 : ∀ (h : PH), k158 h → PW (GM D ca ad) K 3 (qI Q) h 158 [some (.ref 0), none, none] []) (hkb : ∀ (h : PH), kb h → PW (GM D ca ad) K 3 (qI Q) h 136 [some (.ref 0), none, none] []) (hw : w_X10_text_136 k158 Q kb h) : PW (GM D ca ad) K 3 (qI Q) h 136 [some (.ref 0), none, none] [] := by
  unfold w_X10_text_136 at hw
  refine PW.ald0n C dX10_text_136 ?_
  refine PW.get0 C cf_10 fl_X10_289 (by decide) oM_0 (fvI rfl) dX10_text_137 ?_
  refine PW.if_ne (tgt := 158) C dX10_text_140 (by decide) (fun c => ?_) (fun c => ?_)
  · rw [if_neg c] at hw
    exact PW.wk (wk_s (wk_n (wk_n wk_0))) (hk158 _ hw)
  · rw [if_pos c] at hw
    refine PW.ald0n C dX10_text_143 ?_
    refine PW.get0 C cf_10 fl_X10_254 (by decide) oM_0 (fvI rfl) dX10_text_144 ?_
    refine PW.iconst (v := 4) C dX10_text_147 (by decide) ?_
    refine PW.icmp_eq (tgt := 158) C dX10_text_148 (by decide) (fun c => ?_) (fun c => ?_)
    · rw [if_pos c] at hw
      exact PW.wk (wk_s (wk_n (wk_n wk_0))) (hk158 _ hw)
    · rw [if_neg c] at hw
      refine PW.ald0n C dX10_text_151 ?_
      refine PW.callVV0 C ms_X10_line ml_X10_396 dX10_text_152 oM_0 ⟨_, _, rfl⟩ (Nat.le_of_ble_eq_true rfl) (by decide) (Nat.le_of_ble_eq_true rfl) (s_X10_line hw) ?_
      clear hw
      intro h19 hw
      refine PW.goto (tgt := 136) C dX10_text_155 (by decide) ?_
      exact PW.wk (wk_s (wk_n (wk_n wk_0))) (hkb _ hw)
theorem l_X10_text_136 {D : va_G} {ca : Nat → ClassId} {ad : Nat → Nat} {K : Kt} {k158 : PH → Prop} {Q : Int32 → PH → Prop} (C : CX (GM D ca ad) (XS (GM D ca ad)) cX10_text RX10 3 (some .int) 503 K) (hk158 : ∀ (h : PH), k158 h → PW (GM D ca ad) K 3 (qI Q) h 158 [some (.ref 0), none, none] []) : ∀ (n : Nat) (h : PH), Lp0 (w_X10_text_136 k158 Q) n h → PW (GM D ca ad) K 3 (qI Q) h 136 [some (.ref 0), none, none] [] := by
  intro n
  induction n with
  | zero => intro h hw; exact hw.elim
  | succ n ih => intro h hw; exact b_X10_text_136 C hk158 (fun h hw => ih h hw) hw
def w_X10_text_158 (Q : Int32 → PH → Prop) (h : PH) : Prop :=
  ∀ h21, h21 = sI h 0 42 (gI h 0 40) → ∀ h22, h22 = sI h21 0 43 (gI h21 0 41) → if (gI h22 0 40) = 0 then (w_X10_half 2 h22 (fun h23 => w_X10_half 3 h23 (fun h24 => w_X10_half 4 h24 (fun h25 => w_X10_half 5 h25 (fun h26 => w_X10_half 6 h26 (fun h27 => w_X10_half 7 h27 (fun h28 => w_X10_half 8 h28 (fun h29 => w_X10_half 9 h29 (fun h30 => w_X10_half 10 h30 (fun h31 => w_X10_half 11 h31 (fun h32 => w_X10_half 12 h32 (fun h33 => w_X10_half 13 h33 (fun h34 => w_X10_half 14 h34 (fun h35 => w_X10_half 15 h35 (fun h36 => w_X10_half 16 h36 (fun h37 => w_X10_half 17 h37 (fun h38 => w_X10_half 18 h38 (fun h39 => w_X10_half 19 h39 (fun h40 => w_X10_half 20 h40 (fun h41 => w_X10_half 21 h41 (fun h42 => w_X10_half 22 h42 (fun h43 => w_X10_half 23 h43 (fun h44 => w_X10_half 24 h44 (fun h45 => w_X10_half 25 h45 (fun h46 => w_X10_half 26 h46 (fun h47 => w_X10_half 27 h47 (fun h48 => w_X10_half 28 h48 (fun h49 => w_X10_half 29 h49 (fun h50 => w_X10_half 30 h50 (fun h51 => w_X10_half 31 h51 (fun h52 => ∀ h53, h53 = sI h52 0 94 0 → ∀ h54, h54 = sI h53 0 95 (-1) → ∀ h55, h55 = sI h54 0 60 0 → ∀ h56, h56 = sI h55 0 61 0 → w_X10_begins h56 (fun h57 => Q (gI h57 0 34) h57)))))))))))))))))))))))))))))))) else (Q (-1) h22)
set_option maxRecDepth 8000 in
theorem b_X10_text_158 {D : va_G} {ca : Nat → ClassId} {ad : Nat → Nat} {K : Kt} {Q : Int32 → PH → Prop} {h : PH} (C : CX (GM D ca ad) (XS (GM D ca ad)) cX10_text RX10 3 (some .int) 503 K) (hw : w_X10_text_158 Q h) : PW (GM D ca ad) K 3 (qI Q) h 158 [some (.ref 0), none, none] [] := by
  unfold w_X10_text_158 at hw
  refine PW.ald0n C dX10_text_158 ?_
  refine PW.ald0n C dX10_text_159 ?_
  refine PW.get0 C cf_10 fl_X10_289 (by decide) oM_0 (fvI rfl) dX10_text_160 ?_
  replace hw := hw _ rfl
  refine PW.put0 C cf_10 fl_X10_399 (by decide) oM_0 rfl rfl rfl (pw_sI oM_0 (by decide) rfl) dX10_text_163 ?_
  refine PW.ald0n C dX10_text_166 ?_
  refine PW.ald0n C dX10_text_167 ?_
  refine PW.get0 C cf_10 fl_X10_292 (by decide) oM_0 (fvI rfl) dX10_text_168 ?_
  replace hw := hw _ rfl
  refine PW.put0 C cf_10 fl_X10_103 (by decide) oM_0 rfl rfl rfl (pw_sI oM_0 (by decide) rfl) dX10_text_171 ?_
  refine PW.ald0n C dX10_text_174 ?_
  refine PW.get0 C cf_10 fl_X10_289 (by decide) oM_0 (fvI rfl) dX10_text_175 ?_
  refine PW.if_eq (tgt := 183) C dX10_text_178 (by decide) (fun c => ?_) (fun c => ?_)
  · rw [if_pos c] at hw
    refine PW.ald0n C dX10_text_183 ?_
    refine PW.get0 (v := .ref 2) C cf_10 fl_X10_13 (by decide) oM_0 (fvR (o := 2) rfl) dX10_text_184 ?_
    refine PW.callSV1 C ms_X10_half ml_X10_402 dX10_text_187 (Nat.le_of_ble_eq_true rfl) (by decide) (Nat.le_of_ble_eq_true rfl) (s_X10_half aM_2 hw) ?_
    clear hw
    intro h23 hw
    refine PW.ald0n C dX10_text_190 ?_
    refine PW.get0 (v := .ref 3) C cf_10 fl_X10_16 (by decide) oM_0 (fvR (o := 3) rfl) dX10_text_191 ?_
    refine PW.callSV1 C ms_X10_half ml_X10_402 dX10_text_194 (Nat.le_of_ble_eq_true rfl) (by decide) (Nat.le_of_ble_eq_true rfl) (s_X10_half aM_3 hw) ?_
    clear hw
    intro h24 hw
    refine PW.ald0n C dX10_text_197 ?_
    refine PW.get0 (v := .ref 4) C cf_10 fl_X10_19 (by decide) oM_0 (fvR (o := 4) rfl) dX10_text_198 ?_
    refine PW.callSV1 C ms_X10_half ml_X10_402 dX10_text_201 (Nat.le_of_ble_eq_true rfl) (by decide) (Nat.le_of_ble_eq_true rfl) (s_X10_half aM_4 hw) ?_
    clear hw
    intro h25 hw
    refine PW.ald0n C dX10_text_204 ?_
    refine PW.get0 (v := .ref 5) C cf_10 fl_X10_22 (by decide) oM_0 (fvR (o := 5) rfl) dX10_text_205 ?_
    refine PW.callSV1 C ms_X10_half ml_X10_402 dX10_text_208 (Nat.le_of_ble_eq_true rfl) (by decide) (Nat.le_of_ble_eq_true rfl) (s_X10_half aM_5 hw) ?_
    clear hw
    intro h26 hw
    refine PW.ald0n C dX10_text_211 ?_
    refine PW.get0 (v := .ref 6) C cf_10 fl_X10_25 (by decide) oM_0 (fvR (o := 6) rfl) dX10_text_212 ?_
    refine PW.callSV1 C ms_X10_half ml_X10_402 dX10_text_215 (Nat.le_of_ble_eq_true rfl) (by decide) (Nat.le_of_ble_eq_true rfl) (s_X10_half aM_6 hw) ?_
    clear hw
    intro h27 hw
    refine PW.ald0n C dX10_text_218 ?_
    refine PW.get0 (v := .ref 7) C cf_10 fl_X10_28 (by decide) oM_0 (fvR (o := 7) rfl) dX10_text_219 ?_
    refine PW.callSV1 C ms_X10_half ml_X10_402 dX10_text_222 (Nat.le_of_ble_eq_true rfl) (by decide) (Nat.le_of_ble_eq_true rfl) (s_X10_half aM_7 hw) ?_
    clear hw
    intro h28 hw
    refine PW.ald0n C dX10_text_225 ?_
    refine PW.get0 (v := .ref 8) C cf_10 fl_X10_31 (by decide) oM_0 (fvR (o := 8) rfl) dX10_text_226 ?_
    refine PW.callSV1 C ms_X10_half ml_X10_402 dX10_text_229 (Nat.le_of_ble_eq_true rfl) (by decide) (Nat.le_of_ble_eq_true rfl) (s_X10_half aM_8 hw) ?_
    clear hw
    intro h29 hw
    refine PW.ald0n C dX10_text_232 ?_
    refine PW.get0 (v := .ref 9) C cf_10 fl_X10_34 (by decide) oM_0 (fvR (o := 9) rfl) dX10_text_233 ?_
    refine PW.callSV1 C ms_X10_half ml_X10_402 dX10_text_236 (Nat.le_of_ble_eq_true rfl) (by decide) (Nat.le_of_ble_eq_true rfl) (s_X10_half aM_9 hw) ?_
    clear hw
    intro h30 hw
    refine PW.ald0n C dX10_text_239 ?_
    refine PW.get0 (v := .ref 10) C cf_10 fl_X10_37 (by decide) oM_0 (fvR (o := 10) rfl) dX10_text_240 ?_
    refine PW.callSV1 C ms_X10_half ml_X10_402 dX10_text_243 (Nat.le_of_ble_eq_true rfl) (by decide) (Nat.le_of_ble_eq_true rfl) (s_X10_half aM_10 hw) ?_
    clear hw
    intro h31 hw
    refine PW.ald0n C dX10_text_246 ?_
    refine PW.get0 (v := .ref 11) C cf_10 fl_X10_40 (by decide) oM_0 (fvR (o := 11) rfl) dX10_text_247 ?_
    refine PW.callSV1 C ms_X10_half ml_X10_402 dX10_text_250 (Nat.le_of_ble_eq_true rfl) (by decide) (Nat.le_of_ble_eq_true rfl) (s_X10_half aM_11 hw) ?_
    clear hw
    intro h32 hw
    refine PW.ald0n C dX10_text_253 ?_
    refine PW.get0 (v := .ref 12) C cf_10 fl_X10_43 (by decide) oM_0 (fvR (o := 12) rfl) dX10_text_254 ?_
    refine PW.callSV1 C ms_X10_half ml_X10_402 dX10_text_257 (Nat.le_of_ble_eq_true rfl) (by decide) (Nat.le_of_ble_eq_true rfl) (s_X10_half aM_12 hw) ?_
    clear hw
    intro h33 hw
    refine PW.ald0n C dX10_text_260 ?_
    refine PW.get0 (v := .ref 13) C cf_10 fl_X10_46 (by decide) oM_0 (fvR (o := 13) rfl) dX10_text_261 ?_
    refine PW.callSV1 C ms_X10_half ml_X10_402 dX10_text_264 (Nat.le_of_ble_eq_true rfl) (by decide) (Nat.le_of_ble_eq_true rfl) (s_X10_half aM_13 hw) ?_
    clear hw
    intro h34 hw
    refine PW.ald0n C dX10_text_267 ?_
    refine PW.get0 (v := .ref 14) C cf_10 fl_X10_49 (by decide) oM_0 (fvR (o := 14) rfl) dX10_text_268 ?_
    refine PW.callSV1 C ms_X10_half ml_X10_402 dX10_text_271 (Nat.le_of_ble_eq_true rfl) (by decide) (Nat.le_of_ble_eq_true rfl) (s_X10_half aM_14 hw) ?_
    clear hw
    intro h35 hw
    refine PW.ald0n C dX10_text_274 ?_
    refine PW.get0 (v := .ref 15) C cf_10 fl_X10_52 (by decide) oM_0 (fvR (o := 15) rfl) dX10_text_275 ?_
    refine PW.callSV1 C ms_X10_half ml_X10_402 dX10_text_278 (Nat.le_of_ble_eq_true rfl) (by decide) (Nat.le_of_ble_eq_true rfl) (s_X10_half aM_15 hw) ?_
    clear hw
    intro h36 hw
    refine PW.ald0n C dX10_text_281 ?_
    refine PW.get0 (v := .ref 16) C cf_10 fl_X10_55 (by decide) oM_0 (fvR (o := 16) rfl) dX10_text_282 ?_
    refine PW.callSV1 C ms_X10_half ml_X10_402 dX10_text_285 (Nat.le_of_ble_eq_true rfl) (by decide) (Nat.le_of_ble_eq_true rfl) (s_X10_half aM_16 hw) ?_
    clear hw
    intro h37 hw
    refine PW.ald0n C dX10_text_288 ?_
    refine PW.get0 (v := .ref 17) C cf_10 fl_X10_58 (by decide) oM_0 (fvR (o := 17) rfl) dX10_text_289 ?_
    refine PW.callSV1 C ms_X10_half ml_X10_402 dX10_text_292 (Nat.le_of_ble_eq_true rfl) (by decide) (Nat.le_of_ble_eq_true rfl) (s_X10_half aM_17 hw) ?_
    clear hw
    intro h38 hw
    refine PW.ald0n C dX10_text_295 ?_
    refine PW.get0 (v := .ref 18) C cf_10 fl_X10_61 (by decide) oM_0 (fvR (o := 18) rfl) dX10_text_296 ?_
    refine PW.callSV1 C ms_X10_half ml_X10_402 dX10_text_299 (Nat.le_of_ble_eq_true rfl) (by decide) (Nat.le_of_ble_eq_true rfl) (s_X10_half aM_18 hw) ?_
    clear hw
    intro h39 hw
    refine PW.ald0n C dX10_text_302 ?_
    refine PW.get0 (v := .ref 19) C cf_10 fl_X10_64 (by decide) oM_0 (fvR (o := 19) rfl) dX10_text_303 ?_
    refine PW.callSV1 C ms_X10_half ml_X10_402 dX10_text_306 (Nat.le_of_ble_eq_true rfl) (by decide) (Nat.le_of_ble_eq_true rfl) (s_X10_half aM_19 hw) ?_
    clear hw
    intro h40 hw
    refine PW.ald0n C dX10_text_309 ?_
    refine PW.get0 (v := .ref 20) C cf_10 fl_X10_67 (by decide) oM_0 (fvR (o := 20) rfl) dX10_text_310 ?_
    refine PW.callSV1 C ms_X10_half ml_X10_402 dX10_text_313 (Nat.le_of_ble_eq_true rfl) (by decide) (Nat.le_of_ble_eq_true rfl) (s_X10_half aM_20 hw) ?_
    clear hw
    intro h41 hw
    refine PW.ald0n C dX10_text_316 ?_
    refine PW.get0 (v := .ref 21) C cf_10 fl_X10_70 (by decide) oM_0 (fvR (o := 21) rfl) dX10_text_317 ?_
    refine PW.callSV1 C ms_X10_half ml_X10_402 dX10_text_320 (Nat.le_of_ble_eq_true rfl) (by decide) (Nat.le_of_ble_eq_true rfl) (s_X10_half aM_21 hw) ?_
    clear hw
    intro h42 hw
    refine PW.ald0n C dX10_text_323 ?_
    refine PW.get0 (v := .ref 22) C cf_10 fl_X10_73 (by decide) oM_0 (fvR (o := 22) rfl) dX10_text_324 ?_
    refine PW.callSV1 C ms_X10_half ml_X10_402 dX10_text_327 (Nat.le_of_ble_eq_true rfl) (by decide) (Nat.le_of_ble_eq_true rfl) (s_X10_half aM_22 hw) ?_
    clear hw
    intro h43 hw
    refine PW.ald0n C dX10_text_330 ?_
    refine PW.get0 (v := .ref 23) C cf_10 fl_X10_76 (by decide) oM_0 (fvR (o := 23) rfl) dX10_text_331 ?_
    refine PW.callSV1 C ms_X10_half ml_X10_402 dX10_text_334 (Nat.le_of_ble_eq_true rfl) (by decide) (Nat.le_of_ble_eq_true rfl) (s_X10_half aM_23 hw) ?_
    clear hw
    intro h44 hw
    refine PW.ald0n C dX10_text_337 ?_
    refine PW.get0 (v := .ref 24) C cf_10 fl_X10_79 (by decide) oM_0 (fvR (o := 24) rfl) dX10_text_338 ?_
    refine PW.callSV1 C ms_X10_half ml_X10_402 dX10_text_341 (Nat.le_of_ble_eq_true rfl) (by decide) (Nat.le_of_ble_eq_true rfl) (s_X10_half aM_24 hw) ?_
    clear hw
    intro h45 hw
    refine PW.ald0n C dX10_text_344 ?_
    refine PW.get0 (v := .ref 25) C cf_10 fl_X10_82 (by decide) oM_0 (fvR (o := 25) rfl) dX10_text_345 ?_
    refine PW.callSV1 C ms_X10_half ml_X10_402 dX10_text_348 (Nat.le_of_ble_eq_true rfl) (by decide) (Nat.le_of_ble_eq_true rfl) (s_X10_half aM_25 hw) ?_
    clear hw
    intro h46 hw
    refine PW.ald0n C dX10_text_351 ?_
    refine PW.get0 (v := .ref 26) C cf_10 fl_X10_85 (by decide) oM_0 (fvR (o := 26) rfl) dX10_text_352 ?_
    refine PW.callSV1 C ms_X10_half ml_X10_402 dX10_text_355 (Nat.le_of_ble_eq_true rfl) (by decide) (Nat.le_of_ble_eq_true rfl) (s_X10_half aM_26 hw) ?_
    clear hw
    intro h47 hw
    refine PW.ald0n C dX10_text_358 ?_
    refine PW.get0 (v := .ref 27) C cf_10 fl_X10_88 (by decide) oM_0 (fvR (o := 27) rfl) dX10_text_359 ?_
    refine PW.callSV1 C ms_X10_half ml_X10_402 dX10_text_362 (Nat.le_of_ble_eq_true rfl) (by decide) (Nat.le_of_ble_eq_true rfl) (s_X10_half aM_27 hw) ?_
    clear hw
    intro h48 hw
    refine PW.ald0n C dX10_text_365 ?_
    refine PW.get0 (v := .ref 28) C cf_10 fl_X10_91 (by decide) oM_0 (fvR (o := 28) rfl) dX10_text_366 ?_
    refine PW.callSV1 C ms_X10_half ml_X10_402 dX10_text_369 (Nat.le_of_ble_eq_true rfl) (by decide) (Nat.le_of_ble_eq_true rfl) (s_X10_half aM_28 hw) ?_
    clear hw
    intro h49 hw
    refine PW.ald0n C dX10_text_372 ?_
    refine PW.get0 (v := .ref 29) C cf_10 fl_X10_94 (by decide) oM_0 (fvR (o := 29) rfl) dX10_text_373 ?_
    refine PW.callSV1 C ms_X10_half ml_X10_402 dX10_text_376 (Nat.le_of_ble_eq_true rfl) (by decide) (Nat.le_of_ble_eq_true rfl) (s_X10_half aM_29 hw) ?_
    clear hw
    intro h50 hw
    refine PW.ald0n C dX10_text_379 ?_
    refine PW.get0 (v := .ref 30) C cf_10 fl_X10_97 (by decide) oM_0 (fvR (o := 30) rfl) dX10_text_380 ?_
    refine PW.callSV1 C ms_X10_half ml_X10_402 dX10_text_383 (Nat.le_of_ble_eq_true rfl) (by decide) (Nat.le_of_ble_eq_true rfl) (s_X10_half aM_30 hw) ?_
    clear hw
    intro h51 hw
    refine PW.ald0n C dX10_text_386 ?_
    refine PW.get0 (v := .ref 31) C cf_10 fl_X10_100 (by decide) oM_0 (fvR (o := 31) rfl) dX10_text_387 ?_
    refine PW.callSV1 C ms_X10_half ml_X10_402 dX10_text_390 (Nat.le_of_ble_eq_true rfl) (by decide) (Nat.le_of_ble_eq_true rfl) (s_X10_half aM_31 hw) ?_
    clear hw
    intro h52 hw
    refine PW.ald0n C dX10_text_393 ?_
    refine PW.iconst (v := 0) C dX10_text_394 (by decide) ?_
    replace hw := hw _ rfl
    refine PW.put0 C cf_10 fl_X10_406 (by decide) oM_0 rfl rfl rfl (pw_sI oM_0 (by decide) rfl) dX10_text_395 ?_
    refine PW.ald0n C dX10_text_398 ?_
    refine PW.iconst (v := (-1)) C dX10_text_399 (by decide) ?_
    replace hw := hw _ rfl
    refine PW.put0 C cf_10 fl_X10_214 (by decide) oM_0 rfl rfl rfl (pw_sI oM_0 (by decide) rfl) dX10_text_400 ?_
    refine PW.ald0n C dX10_text_403 ?_
    refine PW.iconst (v := 0) C dX10_text_404 (by decide) ?_
    replace hw := hw _ rfl
    refine PW.put0 C cf_10 fl_X10_409 (by decide) oM_0 rfl (z_nar (by decide)).1 (z_nar (by decide)).2 (pw_sI oM_0 (by decide) rfl) dX10_text_405 ?_
    refine PW.ald0n C dX10_text_408 ?_
    refine PW.iconst (v := 0) C dX10_text_409 (by decide) ?_
    replace hw := hw _ rfl
    refine PW.put0 C cf_10 fl_X10_413 (by decide) oM_0 rfl rfl rfl (pw_sI oM_0 (by decide) rfl) dX10_text_410 ?_
    refine PW.ald0n C dX10_text_413 ?_
    refine PW.callVV0 C ms_X10_begins ml_X10_232 dX10_text_414 oM_0 ⟨_, _, rfl⟩ (Nat.le_of_ble_eq_true rfl) (by decide) (Nat.le_of_ble_eq_true rfl) (s_X10_begins hw) ?_
    clear hw
    intro h57 hw
    refine PW.ald0n C dX10_text_417 ?_
    refine PW.get0 C cf_10 fl_X10_360 (by decide) oM_0 (fvI rfl) dX10_text_418 ?_
    exact PW.iret C dX10_text_421 ⟨_, rfl, hw⟩
  · rw [if_neg c] at hw
    refine PW.iconst (v := (-1)) C dX10_text_181 (by decide) ?_
    exact PW.iret C dX10_text_182 ⟨_, rfl, hw⟩
def w_X10_text (x1 : Int32) (h : PH) (Q : Int32 → PH → Prop) : Prop :=
  ∀ h1, h1 = sI h 0 0 0 → if x1 < 0 then (Q (-2) h1) else (if x1 ≤ (gI h1 0 2) then (∀ h2, h2 = sI h1 0 35 x1 → ∀ h3, h3 = sI h2 0 2 0 → ∀ h4, h4 = sI h3 0 36 0 → ∀ h5, h5 = sI h4 0 40 0 → ∀ h6, h6 = sI h5 0 41 (-1) → ∃ n, Lp1 (w_X10_text_47 (fun h8 => ∃ n, Lp1 (w_X10_text_87 (fun h13 => ∀ h14, h14 = sI h13 0 33 0 → ∀ h15, h15 = sI h14 0 34 0 → ∀ h16, h16 = sI h15 0 44 0 → ∀ h17, h17 = sI h16 0 45 0 → w_X10_token h17 (fun h18 => ∃ n, Lp0 (w_X10_text_136 (fun h20 => w_X10_text_158 Q h20) Q) n h18)) Q) n 2 h8) Q) n 0 h6) else (Q (-2) h1))
set_option maxRecDepth 8000 in
theorem s_X10_text {D : va_G} {ca : Nat → ClassId} {ad : Nat → Nat} {l : Launch} {x1 : Int32} {h : PH} {Q : Int32 → PH → Prop} (hw : w_X10_text x1 h Q) : Sp (GM D ca ad) (XS (GM D ca ad)) l 503 yX10_text cX10_text 3 (some .int) [.ref 0, .int x1] h (qI Q) := by
  refine Sp.of (own := RX10) [some (.ref 0), some (.int x1), none] (by decide +kernel) rfl rfl (Nat.le_of_ble_eq_true rfl) (fun K hl C => ?_)
  subst hl
  unfold w_X10_text at hw
  refine PW.ald0n C dX10_text_0 ?_
  refine PW.iconst (v := 0) C dX10_text_1 (by decide) ?_
  replace hw := hw _ rfl
  refine PW.put0 C cf_10 fl_X10_235 (by decide) oM_0 rfl rfl rfl (pw_sI oM_0 (by decide) rfl) dX10_text_2 ?_
  refine PW.ild1n C dX10_text_5 ?_
  refine PW.if_lt (tgt := 17) C dX10_text_6 (by decide) (fun c => ?_) (fun c => ?_)
  · rw [if_pos c] at hw
    refine PW.bipush (v := (-2)) C dX10_text_17 (by decide) ?_
    exact PW.iret C dX10_text_19 ⟨_, rfl, hw⟩
  · rw [if_neg c] at hw
    refine PW.ild1n C dX10_text_9 ?_
    refine PW.ald0n C dX10_text_10 ?_
    refine PW.get0 C cf_10 fl_X10_238 (by decide) oM_0 (fvI rfl) dX10_text_11 ?_
    refine PW.icmp_le (tgt := 20) C dX10_text_14 (by decide) (fun c => ?_) (fun c => ?_)
    · rw [if_pos c] at hw
      refine PW.ald0n C dX10_text_20 ?_
      refine PW.ild1n C dX10_text_21 ?_
      replace hw := hw _ rfl
      refine PW.put0 C cf_10 fl_X10_244 (by decide) oM_0 rfl rfl rfl (pw_sI oM_0 (by decide) rfl) dX10_text_22 ?_
      refine PW.ald0n C dX10_text_25 ?_
      refine PW.iconst (v := 0) C dX10_text_26 (by decide) ?_
      replace hw := hw _ rfl
      refine PW.put0 C cf_10 fl_X10_238 (by decide) oM_0 rfl rfl rfl (pw_sI oM_0 (by decide) rfl) dX10_text_27 ?_
      refine PW.ald0n C dX10_text_30 ?_
      refine PW.iconst (v := 0) C dX10_text_31 (by decide) ?_
      replace hw := hw _ rfl
      refine PW.put0 C cf_10 fl_X10_241 (by decide) oM_0 rfl rfl rfl (pw_sI oM_0 (by decide) rfl) dX10_text_32 ?_
      refine PW.ald0n C dX10_text_35 ?_
      refine PW.iconst (v := 0) C dX10_text_36 (by decide) ?_
      replace hw := hw _ rfl
      refine PW.put0 C cf_10 fl_X10_289 (by decide) oM_0 rfl rfl rfl (pw_sI oM_0 (by decide) rfl) dX10_text_37 ?_
      refine PW.ald0n C dX10_text_40 ?_
      refine PW.iconst (v := (-1)) C dX10_text_41 (by decide) ?_
      replace hw := hw _ rfl
      refine PW.put0 C cf_10 fl_X10_292 (by decide) oM_0 rfl rfl rfl (pw_sI oM_0 (by decide) rfl) dX10_text_42 ?_
      refine PW.iconst (v := 0) C dX10_text_45 (by decide) ?_
      refine PW.ist2n C dX10_text_46 (by decide) rfl ?_
      obtain ⟨n, hw⟩ := hw
      refine PW.wk (wk_s (wk_n (wk_s wk_0))) (l_X10_text_47 C ?_ n _ _ hw)
      · intro h8 hw
        refine PW.iconst (v := 2) C dX10_text_85 (by decide) ?_
        refine PW.ist2n C dX10_text_86 (by decide) rfl ?_
        obtain ⟨n, hw⟩ := hw
        refine PW.wk (wk_s (wk_n (wk_s wk_0))) (l_X10_text_87 C ?_ n _ _ hw)
        · intro h13 hw
          refine PW.ald0n C dX10_text_112 ?_
          refine PW.iconst (v := 0) C dX10_text_113 (by decide) ?_
          replace hw := hw _ rfl
          refine PW.put0 C cf_10 fl_X10_325 (by decide) oM_0 rfl rfl rfl (pw_sI oM_0 (by decide) rfl) dX10_text_114 ?_
          refine PW.ald0n C dX10_text_117 ?_
          refine PW.iconst (v := 0) C dX10_text_118 (by decide) ?_
          replace hw := hw _ rfl
          refine PW.put0 C cf_10 fl_X10_360 (by decide) oM_0 rfl rfl rfl (pw_sI oM_0 (by decide) rfl) dX10_text_119 ?_
          refine PW.ald0n C dX10_text_122 ?_
          refine PW.iconst (v := 0) C dX10_text_123 (by decide) ?_
          replace hw := hw _ rfl
          refine PW.put0 C cf_10 fl_X10_393 (by decide) oM_0 rfl rfl rfl (pw_sI oM_0 (by decide) rfl) dX10_text_124 ?_
          refine PW.ald0n C dX10_text_127 ?_
          refine PW.iconst (v := 0) C dX10_text_128 (by decide) ?_
          replace hw := hw _ rfl
          refine PW.put0 C cf_10 fl_X10_366 (by decide) oM_0 rfl rfl rfl (pw_sI oM_0 (by decide) rfl) dX10_text_129 ?_
          refine PW.ald0n C dX10_text_132 ?_
          refine PW.callVV0 C ms_X10_token ml_X10_295 dX10_text_133 oM_0 ⟨_, _, rfl⟩ (Nat.le_of_ble_eq_true rfl) (by decide) (Nat.le_of_ble_eq_true rfl) (s_X10_token hw) ?_
          clear hw
          intro h18 hw
          obtain ⟨n, hw⟩ := hw
          refine PW.wk (wk_s (wk_n (wk_n wk_0))) (l_X10_text_136 C ?_ n _ hw)
          · intro h20 hw
            exact PW.wk (wk_s (wk_n (wk_n wk_0))) (b_X10_text_158 C hw)
    · rw [if_neg c] at hw
      refine PW.bipush (v := (-2)) C dX10_text_17 (by decide) ?_
      exact PW.iret C dX10_text_19 ⟨_, rfl, hw⟩
def w_X10_fault (x1 : Int32) (h : PH) (Q : Int32 → PH → Prop) : Prop :=
  ∀ h1, h1 = sI h 0 0 0 → if x1 = 0 then (Q (gI h1 0 42) h1) else (if x1 = 1 then (Q (gI h1 0 43) h1) else (Q (-1) h1))
set_option maxRecDepth 8000 in
theorem s_X10_fault {D : va_G} {ca : Nat → ClassId} {ad : Nat → Nat} {l : Launch} {x1 : Int32} {h : PH} {Q : Int32 → PH → Prop} (hw : w_X10_fault x1 h Q) : Sp (GM D ca ad) (XS (GM D ca ad)) l 1 yX10_fault cX10_fault 2 (some .int) [.ref 0, .int x1] h (qI Q) := by
  refine Sp.of (own := RX10) [some (.ref 0), some (.int x1)] (by decide +kernel) rfl rfl (Nat.le_of_ble_eq_true rfl) (fun K hl C => ?_)
  subst hl
  unfold w_X10_fault at hw
  refine PW.ald0n C dX10_fault_0 ?_
  refine PW.iconst (v := 0) C dX10_fault_1 (by decide) ?_
  replace hw := hw _ rfl
  refine PW.put0 C cf_10 fl_X10_235 (by decide) oM_0 rfl rfl rfl (pw_sI oM_0 (by decide) rfl) dX10_fault_2 ?_
  refine PW.ild1n C dX10_fault_5 ?_
  refine PW.if_ne (tgt := 16) C dX10_fault_6 (by decide) (fun c => ?_) (fun c => ?_)
  · rw [if_neg c] at hw
    refine PW.ild1n C dX10_fault_16 ?_
    refine PW.iconst (v := 1) C dX10_fault_17 (by decide) ?_
    refine PW.icmp_ne (tgt := 28) C dX10_fault_18 (by decide) (fun c => ?_) (fun c => ?_)
    · rw [if_neg c] at hw
      refine PW.iconst (v := (-1)) C dX10_fault_28 (by decide) ?_
      exact PW.iret C dX10_fault_29 ⟨_, rfl, hw⟩
    · rw [if_pos c] at hw
      refine PW.ald0n C dX10_fault_21 ?_
      refine PW.get0 C cf_10 fl_X10_103 (by decide) oM_0 (fvI rfl) dX10_fault_22 ?_
      refine PW.goto (tgt := 29) C dX10_fault_25 (by decide) ?_
      exact PW.iret C dX10_fault_29 ⟨_, rfl, hw⟩
  · rw [if_pos c] at hw
    refine PW.ald0n C dX10_fault_9 ?_
    refine PW.get0 C cf_10 fl_X10_399 (by decide) oM_0 (fvI rfl) dX10_fault_10 ?_
    refine PW.goto (tgt := 29) C dX10_fault_13 (by decide) ?_
    exact PW.iret C dX10_fault_29 ⟨_, rfl, hw⟩
def w_X10_named (x1 : Int32) (x2 : Int32) (h : PH) (Q : Int32 → PH → Prop) : Prop :=
  ∀ h1, h1 = sI h 0 0 0 → if x1 = 0 then (w_X10_found 3 0 (gI h1 2 (iN 0)) x2 h1 (fun z5 h4 => Q z5 h4)) else (if x1 = 1 then (w_X10_found 7 0 (gI h1 2 (iN 2)) x2 h1 (fun z3 h2 => Q z3 h2)) else (Q (-1) h1))
set_option maxRecDepth 8000 in
theorem s_X10_named {D : va_G} {ca : Nat → ClassId} {ad : Nat → Nat} {l : Launch} {x1 : Int32} {x2 : Int32} {h : PH} {Q : Int32 → PH → Prop} (hw : w_X10_named x1 x2 h Q) : Sp (GM D ca ad) (XS (GM D ca ad)) l 2 yX10_named cX10_named 3 (some .int) [.ref 0, .int x1, .int x2] h (qI Q) := by
  refine Sp.of (own := RX10) [some (.ref 0), some (.int x1), some (.int x2)] (by decide +kernel) rfl rfl (Nat.le_of_ble_eq_true rfl) (fun K hl C => ?_)
  subst hl
  unfold w_X10_named at hw
  refine PW.ald0n C dX10_named_0 ?_
  refine PW.iconst (v := 0) C dX10_named_1 (by decide) ?_
  replace hw := hw _ rfl
  refine PW.put0 C cf_10 fl_X10_235 (by decide) oM_0 rfl rfl rfl (pw_sI oM_0 (by decide) rfl) dX10_named_2 ?_
  refine PW.ild1n C dX10_named_5 ?_
  refine PW.if_ne (tgt := 27) C dX10_named_6 (by decide) (fun c => ?_) (fun c => ?_)
  · rw [if_neg c] at hw
    refine PW.ild1n C dX10_named_27 ?_
    refine PW.iconst (v := 1) C dX10_named_28 (by decide) ?_
    refine PW.icmp_ne (tgt := 50) C dX10_named_29 (by decide) (fun c => ?_) (fun c => ?_)
    · rw [if_neg c] at hw
      refine PW.iconst (v := (-1)) C dX10_named_50 (by decide) ?_
      exact PW.iret C dX10_named_51 ⟨_, rfl, hw⟩
    · rw [if_pos c] at hw
      refine PW.ald0n C dX10_named_32 ?_
      refine PW.get0 (v := .ref 7) C cf_10 fl_X10_28 (by decide) oM_0 (fvR (o := 7) rfl) dX10_named_33 ?_
      refine PW.iconst (v := 0) C dX10_named_36 (by decide) ?_
      refine PW.ald0n C dX10_named_37 ?_
      refine PW.get0 (v := .ref 2) C cf_10 fl_X10_13 (by decide) oM_0 (fvR (o := 2) rfl) dX10_named_38 ?_
      refine PW.iconst (v := 2) C dX10_named_41 (by decide) ?_
      refine PW.iald C dX10_named_42 aM_2 (vpl (by decide)) ?_
      refine PW.ild2n C dX10_named_43 ?_
      refine PW.callSI4 C ms_X10_found ml_X10_301 dX10_named_44 (Nat.le_of_ble_eq_true rfl) (by decide) (Nat.le_of_ble_eq_true rfl) (s_X10_found aM_7 hw) ?_
      clear hw
      intro z3 h2 hw
      refine PW.goto (tgt := 51) C dX10_named_47 (by decide) ?_
      exact PW.iret C dX10_named_51 ⟨_, rfl, hw⟩
  · rw [if_pos c] at hw
    refine PW.ald0n C dX10_named_9 ?_
    refine PW.get0 (v := .ref 3) C cf_10 fl_X10_16 (by decide) oM_0 (fvR (o := 3) rfl) dX10_named_10 ?_
    refine PW.iconst (v := 0) C dX10_named_13 (by decide) ?_
    refine PW.ald0n C dX10_named_14 ?_
    refine PW.get0 (v := .ref 2) C cf_10 fl_X10_13 (by decide) oM_0 (fvR (o := 2) rfl) dX10_named_15 ?_
    refine PW.iconst (v := 0) C dX10_named_18 (by decide) ?_
    refine PW.iald C dX10_named_19 aM_2 (vpl (by decide)) ?_
    refine PW.ild2n C dX10_named_20 ?_
    refine PW.callSI4 C ms_X10_found ml_X10_301 dX10_named_21 (Nat.le_of_ble_eq_true rfl) (by decide) (Nat.le_of_ble_eq_true rfl) (s_X10_found aM_3 hw) ?_
    clear hw
    intro z5 h4 hw
    refine PW.goto (tgt := 51) C dX10_named_24 (by decide) ?_
    exact PW.iret C dX10_named_51 ⟨_, rfl, hw⟩
def w_X10_is (x0 : Int32) (h : PH) (Q : Int64 → PH → Prop) : Prop :=
  if x0 = 0 then (Q 0 h) else (Q 1 h)
set_option maxRecDepth 8000 in
theorem s_X10_is {D : va_G} {ca : Nat → ClassId} {ad : Nat → Nat} {l : Launch} {x0 : Int32} {h : PH} {Q : Int64 → PH → Prop} (hw : w_X10_is x0 h Q) : Sp (GM D ca ad) (XS (GM D ca ad)) l 1 yX10_is cX10_is 1 (some .long) [.int x0] h (qJ Q) := by
  refine Sp.of (own := RX10) [some (.int x0)] (by decide +kernel) rfl rfl (Nat.le_of_ble_eq_true rfl) (fun K hl C => ?_)
  subst hl
  unfold w_X10_is at hw
  refine PW.ild0n C dX10_is_0 ?_
  refine PW.if_eq (tgt := 8) C dX10_is_1 (by decide) (fun c => ?_) (fun c => ?_)
  · rw [if_pos c] at hw
    refine PW.lconst (v := 0) C dX10_is_8 (by decide) ?_
    exact PW.lret C dX10_is_9 ⟨_, rfl, hw⟩
  · rw [if_neg c] at hw
    refine PW.lconst (v := 1) C dX10_is_4 (by decide) ?_
    refine PW.goto (tgt := 9) C dX10_is_5 (by decide) ?_
    exact PW.lret C dX10_is_9 ⟨_, rfl, hw⟩
def w_X10_works_407 (Q : Int32 → PH → Prop) (x6 : Int64) (h : PH) : Prop :=
  vp_in ((gI h 0 48) - 1) 64 ∧ ∀ h8, h8 = sJ h 33 (iN ((gI h 0 48) - 1)) x6 → if 0 < (lg_cmp x6 1000000000000) then (Q 0 h8) else (if (lg_cmp x6 (-1000000000000)) < 0 then (Q 0 h8) else (Q 1 h8))
set_option maxRecDepth 8000 in
theorem b_X10_works_407 {D : va_G} {ca : Nat → ClassId} {ad : Nat → Nat} {K : Kt} {Q : Int32 → PH → Prop} {x6 : Int64} {h : PH} (C : CX (GM D ca ad) (XS (GM D ca ad)) cX10_works RX10 8 (some .boolean) 2 K) (hw : w_X10_works_407 Q x6 h) : PW (GM D ca ad) K 8 (qI Q) h 407 [some (.ref 0), none, none, none, none, none, some (.long x6), none] [] := by
  unfold w_X10_works_407 at hw
  refine PW.ald0n C dX10_works_407 ?_
  refine PW.get0 (v := .ref 33) C cf_10 fl_X10_111 (by decide) oM_0 (fvR (o := 33) rfl) dX10_works_408 ?_
  refine PW.ald0n C dX10_works_411 ?_
  refine PW.get0 C cf_10 fl_X10_416 (by decide) oM_0 (fvI rfl) dX10_works_412 ?_
  refine PW.iconst (v := 1) C dX10_works_415 (by decide) ?_
  refine PW.isub C dX10_works_416 ?_
  refine PW.lld6 C dX10_works_417 ?_
  obtain ⟨hc7, hw⟩ := hw
  replace hw := hw _ rfl
  refine PW.last C dX10_works_419 aM_33 hc7 ?_
  refine PW.lld6 C dX10_works_420 ?_
  refine PW.ldc2 (v := 1000000000000) C cs_X10_429 dX10_works_422 ?_
  refine PW.lcmp C dX10_works_425 ?_
  refine PW.if_gt (tgt := 442) C dX10_works_426 (by decide) (fun c => ?_) (fun c => ?_)
  · rw [if_pos c] at hw
    refine PW.iconst (v := 0) C dX10_works_442 (by decide) ?_
    exact PW.zret C dX10_works_443 (by decide) ⟨_, rfl, hw⟩
  · rw [if_neg c] at hw
    refine PW.lld6 C dX10_works_429 ?_
    refine PW.ldc2 (v := (-1000000000000)) C cs_X10_431 dX10_works_431 ?_
    refine PW.lcmp C dX10_works_434 ?_
    refine PW.if_lt (tgt := 442) C dX10_works_435 (by decide) (fun c => ?_) (fun c => ?_)
    · rw [if_pos c] at hw
      refine PW.iconst (v := 0) C dX10_works_442 (by decide) ?_
      exact PW.zret C dX10_works_443 (by decide) ⟨_, rfl, hw⟩
    · rw [if_neg c] at hw
      refine PW.iconst (v := 1) C dX10_works_438 (by decide) ?_
      refine PW.goto (tgt := 443) C dX10_works_439 (by decide) ?_
      exact PW.zret C dX10_works_443 (by decide) ⟨_, rfl, hw⟩
def w_X10_works_212 (Q : Int32 → PH → Prop) (x2 : Int64) (x4 : Int64) (h : PH) : Prop :=
  ∀ (y6 : Int64), y6 = (x4 * x2) → w_X10_works_407 Q y6 h
set_option maxRecDepth 8000 in
theorem b_X10_works_212 {D : va_G} {ca : Nat → ClassId} {ad : Nat → Nat} {K : Kt} {Q : Int32 → PH → Prop} {x2 : Int64} {x4 : Int64} {h : PH} (C : CX (GM D ca ad) (XS (GM D ca ad)) cX10_works RX10 8 (some .boolean) 2 K) (hw : w_X10_works_212 Q x2 x4 h) : PW (GM D ca ad) K 8 (qI Q) h 212 [some (.ref 0), none, some (.long x2), none, some (.long x4), none, none, none] [] := by
  unfold w_X10_works_212 at hw
  refine PW.lld4 C dX10_works_212 ?_
  refine PW.lld2n C dX10_works_214 ?_
  refine PW.lmul C dX10_works_215 ?_
  replace hw := hw _ rfl
  refine PW.lst6 C dX10_works_216 (by decide) rfl ?_
  refine PW.goto (tgt := 407) C dX10_works_218 (by decide) ?_
  exact PW.wk (wk_s (wk_n (wk_n (wk_n (wk_n (wk_n (wk_s (wk_n wk_0)))))))) (b_X10_works_407 C hw)
def w_X10_works_250 (Q : Int32 → PH → Prop) (s0 : Int32) (h : PH) : Prop :=
  w_X10_is s0 h (fun z19 h18 => w_X10_works_407 Q z19 h18)
set_option maxRecDepth 8000 in
theorem b_X10_works_250 {D : va_G} {ca : Nat → ClassId} {ad : Nat → Nat} {K : Kt} {Q : Int32 → PH → Prop} {s0 : Int32} {h : PH} (C : CX (GM D ca ad) (XS (GM D ca ad)) cX10_works RX10 8 (some .boolean) 2 K) (hw : w_X10_works_250 Q s0 h) : PW (GM D ca ad) K 8 (qI Q) h 250 [some (.ref 0), none, none, none, none, none, none, none] [.int s0] := by
  unfold w_X10_works_250 at hw
  refine PW.callSJ1 C ms_X10_is ml_X10_419 dX10_works_250 (Nat.le_of_ble_eq_true rfl) (by decide) (Nat.le_of_ble_eq_true rfl) (s_X10_is hw) ?_
  clear hw
  intro z19 h18 hw
  refine PW.lst6 C dX10_works_253 (by decide) rfl ?_
  refine PW.goto (tgt := 407) C dX10_works_255 (by decide) ?_
  exact PW.wk (wk_s (wk_n (wk_n (wk_n (wk_n (wk_n (wk_s (wk_n wk_0)))))))) (b_X10_works_407 C hw)
def w_X10_works_290 (Q : Int32 → PH → Prop) (s0 : Int32) (h : PH) : Prop :=
  w_X10_is s0 h (fun z22 h21 => w_X10_works_407 Q z22 h21)
set_option maxRecDepth 8000 in
theorem b_X10_works_290 {D : va_G} {ca : Nat → ClassId} {ad : Nat → Nat} {K : Kt} {Q : Int32 → PH → Prop} {s0 : Int32} {h : PH} (C : CX (GM D ca ad) (XS (GM D ca ad)) cX10_works RX10 8 (some .boolean) 2 K) (hw : w_X10_works_290 Q s0 h) : PW (GM D ca ad) K 8 (qI Q) h 290 [some (.ref 0), none, none, none, none, none, none, none] [.int s0] := by
  unfold w_X10_works_290 at hw
  refine PW.callSJ1 C ms_X10_is ml_X10_419 dX10_works_290 (Nat.le_of_ble_eq_true rfl) (by decide) (Nat.le_of_ble_eq_true rfl) (s_X10_is hw) ?_
  clear hw
  intro z22 h21 hw
  refine PW.lst6 C dX10_works_293 (by decide) rfl ?_
  refine PW.goto (tgt := 407) C dX10_works_295 (by decide) ?_
  exact PW.wk (wk_s (wk_n (wk_n (wk_n (wk_n (wk_n (wk_s (wk_n wk_0)))))))) (b_X10_works_407 C hw)
def w_X10_works_270 (Q : Int32 → PH → Prop) (s0 : Int32) (h : PH) : Prop :=
  w_X10_is s0 h (fun z25 h24 => w_X10_works_407 Q z25 h24)
set_option maxRecDepth 8000 in
theorem b_X10_works_270 {D : va_G} {ca : Nat → ClassId} {ad : Nat → Nat} {K : Kt} {Q : Int32 → PH → Prop} {s0 : Int32} {h : PH} (C : CX (GM D ca ad) (XS (GM D ca ad)) cX10_works RX10 8 (some .boolean) 2 K) (hw : w_X10_works_270 Q s0 h) : PW (GM D ca ad) K 8 (qI Q) h 270 [some (.ref 0), none, none, none, none, none, none, none] [.int s0] := by
  unfold w_X10_works_270 at hw
  refine PW.callSJ1 C ms_X10_is ml_X10_419 dX10_works_270 (Nat.le_of_ble_eq_true rfl) (by decide) (Nat.le_of_ble_eq_true rfl) (s_X10_is hw) ?_
  clear hw
  intro z25 h24 hw
  refine PW.lst6 C dX10_works_273 (by decide) rfl ?_
  refine PW.goto (tgt := 407) C dX10_works_275 (by decide) ?_
  exact PW.wk (wk_s (wk_n (wk_n (wk_n (wk_n (wk_n (wk_s (wk_n wk_0)))))))) (b_X10_works_407 C hw)
def w_X10_works_310 (Q : Int32 → PH → Prop) (s0 : Int32) (h : PH) : Prop :=
  w_X10_is s0 h (fun z28 h27 => w_X10_works_407 Q z28 h27)
set_option maxRecDepth 8000 in
theorem b_X10_works_310 {D : va_G} {ca : Nat → ClassId} {ad : Nat → Nat} {K : Kt} {Q : Int32 → PH → Prop} {s0 : Int32} {h : PH} (C : CX (GM D ca ad) (XS (GM D ca ad)) cX10_works RX10 8 (some .boolean) 2 K) (hw : w_X10_works_310 Q s0 h) : PW (GM D ca ad) K 8 (qI Q) h 310 [some (.ref 0), none, none, none, none, none, none, none] [.int s0] := by
  unfold w_X10_works_310 at hw
  refine PW.callSJ1 C ms_X10_is ml_X10_419 dX10_works_310 (Nat.le_of_ble_eq_true rfl) (by decide) (Nat.le_of_ble_eq_true rfl) (s_X10_is hw) ?_
  clear hw
  intro z28 h27 hw
  refine PW.lst6 C dX10_works_313 (by decide) rfl ?_
  refine PW.goto (tgt := 407) C dX10_works_315 (by decide) ?_
  exact PW.wk (wk_s (wk_n (wk_n (wk_n (wk_n (wk_n (wk_s (wk_n wk_0)))))))) (b_X10_works_407 C hw)
def w_X10_works_350 (Q : Int32 → PH → Prop) (s0 : Int32) (h : PH) : Prop :=
  w_X10_is s0 h (fun z31 h30 => w_X10_works_407 Q z31 h30)
set_option maxRecDepth 8000 in
theorem b_X10_works_350 {D : va_G} {ca : Nat → ClassId} {ad : Nat → Nat} {K : Kt} {Q : Int32 → PH → Prop} {s0 : Int32} {h : PH} (C : CX (GM D ca ad) (XS (GM D ca ad)) cX10_works RX10 8 (some .boolean) 2 K) (hw : w_X10_works_350 Q s0 h) : PW (GM D ca ad) K 8 (qI Q) h 350 [some (.ref 0), none, none, none, none, none, none, none] [.int s0] := by
  unfold w_X10_works_350 at hw
  refine PW.callSJ1 C ms_X10_is ml_X10_419 dX10_works_350 (Nat.le_of_ble_eq_true rfl) (by decide) (Nat.le_of_ble_eq_true rfl) (s_X10_is hw) ?_
  clear hw
  intro z31 h30 hw
  refine PW.lst6 C dX10_works_353 (by decide) rfl ?_
  refine PW.goto (tgt := 407) C dX10_works_355 (by decide) ?_
  exact PW.wk (wk_s (wk_n (wk_n (wk_n (wk_n (wk_n (wk_s (wk_n wk_0)))))))) (b_X10_works_407 C hw)
def w_X10_works_330 (Q : Int32 → PH → Prop) (s0 : Int32) (h : PH) : Prop :=
  w_X10_is s0 h (fun z34 h33 => w_X10_works_407 Q z34 h33)
set_option maxRecDepth 8000 in
theorem b_X10_works_330 {D : va_G} {ca : Nat → ClassId} {ad : Nat → Nat} {K : Kt} {Q : Int32 → PH → Prop} {s0 : Int32} {h : PH} (C : CX (GM D ca ad) (XS (GM D ca ad)) cX10_works RX10 8 (some .boolean) 2 K) (hw : w_X10_works_330 Q s0 h) : PW (GM D ca ad) K 8 (qI Q) h 330 [some (.ref 0), none, none, none, none, none, none, none] [.int s0] := by
  unfold w_X10_works_330 at hw
  refine PW.callSJ1 C ms_X10_is ml_X10_419 dX10_works_330 (Nat.le_of_ble_eq_true rfl) (by decide) (Nat.le_of_ble_eq_true rfl) (s_X10_is hw) ?_
  clear hw
  intro z34 h33 hw
  refine PW.lst6 C dX10_works_333 (by decide) rfl ?_
  refine PW.goto (tgt := 407) C dX10_works_335 (by decide) ?_
  exact PW.wk (wk_s (wk_n (wk_n (wk_n (wk_n (wk_n (wk_s (wk_n wk_0)))))))) (b_X10_works_407 C hw)
def w_X10_works_376 (Q : Int32 → PH → Prop) (s0 : Int32) (h : PH) : Prop :=
  w_X10_is s0 h (fun z37 h36 => w_X10_works_407 Q z37 h36)
set_option maxRecDepth 8000 in
theorem b_X10_works_376 {D : va_G} {ca : Nat → ClassId} {ad : Nat → Nat} {K : Kt} {Q : Int32 → PH → Prop} {s0 : Int32} {h : PH} (C : CX (GM D ca ad) (XS (GM D ca ad)) cX10_works RX10 8 (some .boolean) 2 K) (hw : w_X10_works_376 Q s0 h) : PW (GM D ca ad) K 8 (qI Q) h 376 [some (.ref 0), none, none, none, none, none, none, none] [.int s0] := by
  unfold w_X10_works_376 at hw
  refine PW.callSJ1 C ms_X10_is ml_X10_419 dX10_works_376 (Nat.le_of_ble_eq_true rfl) (by decide) (Nat.le_of_ble_eq_true rfl) (s_X10_is hw) ?_
  clear hw
  intro z37 h36 hw
  refine PW.lst6 C dX10_works_379 (by decide) rfl ?_
  refine PW.goto (tgt := 407) C dX10_works_381 (by decide) ?_
  exact PW.wk (wk_s (wk_n (wk_n (wk_n (wk_n (wk_n (wk_s (wk_n wk_0)))))))) (b_X10_works_407 C hw)
def w_X10_works_375 (Q : Int32 → PH → Prop) (h : PH) : Prop :=
  w_X10_works_376 Q 0 h
set_option maxRecDepth 8000 in
theorem b_X10_works_375 {D : va_G} {ca : Nat → ClassId} {ad : Nat → Nat} {K : Kt} {Q : Int32 → PH → Prop} {h : PH} (C : CX (GM D ca ad) (XS (GM D ca ad)) cX10_works RX10 8 (some .boolean) 2 K) (hw : w_X10_works_375 Q h) : PW (GM D ca ad) K 8 (qI Q) h 375 [some (.ref 0), none, none, none, none, none, none, none] [] := by
  unfold w_X10_works_375 at hw
  refine PW.iconst (v := 0) C dX10_works_375 (by decide) ?_
  exact PW.wk (wk_s (wk_n (wk_n (wk_n (wk_n (wk_n (wk_n (wk_n wk_0)))))))) (b_X10_works_376 C hw)
def w_X10_works_402 (Q : Int32 → PH → Prop) (s0 : Int32) (h : PH) : Prop :=
  w_X10_is s0 h (fun z40 h39 => w_X10_works_407 Q z40 h39)
set_option maxRecDepth 8000 in
theorem b_X10_works_402 {D : va_G} {ca : Nat → ClassId} {ad : Nat → Nat} {K : Kt} {Q : Int32 → PH → Prop} {s0 : Int32} {h : PH} (C : CX (GM D ca ad) (XS (GM D ca ad)) cX10_works RX10 8 (some .boolean) 2 K) (hw : w_X10_works_402 Q s0 h) : PW (GM D ca ad) K 8 (qI Q) h 402 [some (.ref 0), none, none, none, none, none, none, none] [.int s0] := by
  unfold w_X10_works_402 at hw
  refine PW.callSJ1 C ms_X10_is ml_X10_419 dX10_works_402 (Nat.le_of_ble_eq_true rfl) (by decide) (Nat.le_of_ble_eq_true rfl) (s_X10_is hw) ?_
  clear hw
  intro z40 h39 hw
  refine PW.lst6 C dX10_works_405 (by decide) rfl ?_
  exact PW.wk (wk_s (wk_n (wk_n (wk_n (wk_n (wk_n (wk_s (wk_n wk_0)))))))) (b_X10_works_407 C hw)
def w_X10_works_397 (Q : Int32 → PH → Prop) (h : PH) : Prop :=
  w_X10_works_402 Q 1 h
set_option maxRecDepth 8000 in
theorem b_X10_works_397 {D : va_G} {ca : Nat → ClassId} {ad : Nat → Nat} {K : Kt} {Q : Int32 → PH → Prop} {h : PH} (C : CX (GM D ca ad) (XS (GM D ca ad)) cX10_works RX10 8 (some .boolean) 2 K) (hw : w_X10_works_397 Q h) : PW (GM D ca ad) K 8 (qI Q) h 397 [some (.ref 0), none, none, none, none, none, none, none] [] := by
  unfold w_X10_works_397 at hw
  refine PW.iconst (v := 1) C dX10_works_397 (by decide) ?_
  refine PW.goto (tgt := 402) C dX10_works_398 (by decide) ?_
  exact PW.wk (wk_s (wk_n (wk_n (wk_n (wk_n (wk_n (wk_n (wk_n wk_0)))))))) (b_X10_works_402 C hw)
def w_X10_works_40 (Q : Int32 → PH → Prop) (s1 : Int32) (s2 : Int32) (h : PH) : Prop :=
  w_X10_is s2 h (fun z42 h41 => vp_in s1 64 ∧ ∀ h44, h44 = sJ h41 33 (iN s1) z42 → Q 1 h44)
set_option maxRecDepth 8000 in
theorem b_X10_works_40 {D : va_G} {ca : Nat → ClassId} {ad : Nat → Nat} {K : Kt} {Q : Int32 → PH → Prop} {s1 : Int32} {s2 : Int32} {h : PH} (C : CX (GM D ca ad) (XS (GM D ca ad)) cX10_works RX10 8 (some .boolean) 2 K) (hw : w_X10_works_40 Q s1 s2 h) : PW (GM D ca ad) K 8 (qI Q) h 40 [none, none, none, none, none, none, none, none] [.int s2, .int s1, .ref 33] := by
  unfold w_X10_works_40 at hw
  refine PW.callSJ1 C ms_X10_is ml_X10_419 dX10_works_40 (Nat.le_of_ble_eq_true rfl) (by decide) (Nat.le_of_ble_eq_true rfl) (s_X10_is hw) ?_
  clear hw
  intro z42 h41 hw
  obtain ⟨hc43, hw⟩ := hw
  replace hw := hw _ rfl
  refine PW.last C dX10_works_43 aM_33 hc43 ?_
  refine PW.iconst (v := 1) C dX10_works_44 (by decide) ?_
  exact PW.zret C dX10_works_45 (by decide) ⟨_, rfl, hw⟩
def w_X10_works (x1 : Int32) (h : PH) (Q : Int32 → PH → Prop) : Prop :=
  vp_in ((gI h 0 48) - 1) 64 ∧ ∀ (y2 : Int64), y2 = (gJ h 33 (iN ((gI h 0 48) - 1))) → if x1 = 260 then (if (lg_cmp y2 0) = 0 then (w_X10_works_40 Q ((gI h 0 48) - 1) 1 h) else (w_X10_works_40 Q ((gI h 0 48) - 1) 0 h)) else (vp_in ((gI h 0 48) - 2) 64 ∧ ∀ (y4 : Int64), y4 = (gJ h 33 (iN ((gI h 0 48) - 2))) → ∀ h5, h5 = sI h 0 48 ((gI h 0 48) - 1) → if x1 = 42 then (if (lg_cmp y4 0) = 0 then (w_X10_works_212 Q y2 y4 h5) else (¬ (abJ y4) = 0 ∧ if (lg_cmp (abJ y2) (1000000000000 / (abJ y4))) ≤ 0 then (w_X10_works_212 Q y2 y4 h5) else (Q 0 h5))) else (if x1 = 43 then (∀ (y11 : Int64), y11 = (y4 + y2) → w_X10_works_407 Q y11 h5) else (if x1 = 45 then (∀ (y13 : Int64), y13 = (y4 - y2) → w_X10_works_407 Q y13 h5) else (if x1 = 47 then (if (lg_cmp y2 0) = 0 then (Q 0 h5) else (¬ y2 = 0 ∧ ∀ (y16 : Int64), y16 = (y4 / y2) → w_X10_works_407 Q y16 h5)) else (if x1 = 60 then (if 0 ≤ (lg_cmp y4 y2) then (w_X10_works_250 Q 0 h5) else (w_X10_works_250 Q 1 h5)) else (if x1 = 61 then (if (lg_cmp y4 y2) = 0 then (w_X10_works_290 Q 1 h5) else (w_X10_works_290 Q 0 h5)) else (if x1 = 62 then (if (lg_cmp y4 y2) ≤ 0 then (w_X10_works_270 Q 0 h5) else (w_X10_works_270 Q 1 h5)) else (if x1 = 256 then (if 0 < (lg_cmp y4 y2) then (w_X10_works_310 Q 0 h5) else (w_X10_works_310 Q 1 h5)) else (if x1 = 257 then (if (lg_cmp y4 y2) = 0 then (w_X10_works_350 Q 0 h5) else (w_X10_works_350 Q 1 h5)) else (if x1 = 258 then (if (lg_cmp y4 y2) < 0 then (w_X10_works_330 Q 0 h5) else (w_X10_works_330 Q 1 h5)) else (if x1 = 261 then (if (lg_cmp y4 0) = 0 then (w_X10_works_375 Q h5) else (if (lg_cmp y2 0) = 0 then (w_X10_works_375 Q h5) else (w_X10_works_376 Q 1 h5))) else (if (lg_cmp y4 0) = 0 then (if (lg_cmp y2 0) = 0 then (w_X10_works_402 Q 0 h5) else (w_X10_works_397 Q h5)) else (w_X10_works_397 Q h5)))))))))))))
set_option maxRecDepth 8000 in
theorem s_X10_works {D : va_G} {ca : Nat → ClassId} {ad : Nat → Nat} {l : Launch} {x1 : Int32} {h : PH} {Q : Int32 → PH → Prop} (hw : w_X10_works x1 h Q) : Sp (GM D ca ad) (XS (GM D ca ad)) l 2 yX10_works cX10_works 8 (some .boolean) [.ref 0, .int x1] h (qI Q) := by
  refine Sp.of (own := RX10) [some (.ref 0), some (.int x1), none, none, none, none, none, none] (by decide +kernel) rfl rfl (Nat.le_of_ble_eq_true rfl) (fun K hl C => ?_)
  subst hl
  unfold w_X10_works at hw
  refine PW.ald0n C dX10_works_0 ?_
  refine PW.get0 (v := .ref 33) C cf_10 fl_X10_111 (by decide) oM_0 (fvR (o := 33) rfl) dX10_works_1 ?_
  refine PW.ald0n C dX10_works_4 ?_
  refine PW.get0 C cf_10 fl_X10_416 (by decide) oM_0 (fvI rfl) dX10_works_5 ?_
  refine PW.iconst (v := 1) C dX10_works_8 (by decide) ?_
  refine PW.isub C dX10_works_9 ?_
  obtain ⟨hc1, hw⟩ := hw
  refine PW.lald C dX10_works_10 aM_33 hc1 ?_
  replace hw := hw _ rfl
  refine PW.lst2n C dX10_works_11 (by decide) rfl ?_
  refine PW.ild1n C dX10_works_12 ?_
  refine PW.sipush (v := 260) C dX10_works_13 (by decide) ?_
  refine PW.icmp_ne (tgt := 46) C dX10_works_16 (by decide) (fun c => ?_) (fun c => ?_)
  · rw [if_neg c] at hw
    refine PW.ald0n C dX10_works_46 ?_
    refine PW.get0 (v := .ref 33) C cf_10 fl_X10_111 (by decide) oM_0 (fvR (o := 33) rfl) dX10_works_47 ?_
    refine PW.ald0n C dX10_works_50 ?_
    refine PW.get0 C cf_10 fl_X10_416 (by decide) oM_0 (fvI rfl) dX10_works_51 ?_
    refine PW.iconst (v := 2) C dX10_works_54 (by decide) ?_
    refine PW.isub C dX10_works_55 ?_
    obtain ⟨hc3, hw⟩ := hw
    refine PW.lald C dX10_works_56 aM_33 hc3 ?_
    replace hw := hw _ rfl
    refine PW.lst4 C dX10_works_57 (by decide) rfl ?_
    refine PW.ald0n C dX10_works_59 ?_
    refine PW.dup C dX10_works_60 rfl ?_
    refine PW.get0 C cf_10 fl_X10_416 (by decide) oM_0 (fvI rfl) dX10_works_61 ?_
    refine PW.iconst (v := 1) C dX10_works_64 (by decide) ?_
    refine PW.isub C dX10_works_65 ?_
    replace hw := hw _ rfl
    refine PW.put0 C cf_10 fl_X10_416 (by decide) oM_0 rfl rfl rfl (pw_sI oM_0 (by decide) rfl) dX10_works_66 ?_
    refine PW.ild1n C dX10_works_69 ?_
    refine PW.byc 42 (fun c => ?_) (fun c => ?_)
    · rw [if_pos c] at hw
      subst c
      refine PW.look (tgt := 186) C dX10_works_70 (by decide) rfl (by decide) ?_
      refine PW.lld4 C dX10_works_186 ?_
      refine PW.lconst (v := 0) C dX10_works_188 (by decide) ?_
      refine PW.lcmp C dX10_works_189 ?_
      refine PW.if_eq (tgt := 212) C dX10_works_190 (by decide) (fun c => ?_) (fun c => ?_)
      · rw [if_pos c] at hw
        exact PW.wk (wk_s (wk_n (wk_s (wk_n (wk_s (wk_n (wk_n (wk_n wk_0)))))))) (b_X10_works_212 C hw)
      · rw [if_neg c] at hw
        refine PW.lld2n C dX10_works_193 ?_
        refine PW.abJ C ml_X10_423 (Nat.le_of_ble_eq_true rfl) (by decide) dX10_works_194 ?_
        refine PW.ldc2 (v := 1000000000000) C cs_X10_429 dX10_works_197 ?_
        refine PW.lld4 C dX10_works_200 ?_
        refine PW.abJ C ml_X10_423 (Nat.le_of_ble_eq_true rfl) (by decide) dX10_works_202 ?_
        obtain ⟨hc9, hw⟩ := hw
        refine PW.ldiv C dX10_works_205 hc9 ?_
        refine PW.lcmp C dX10_works_206 ?_
        refine PW.if_le (tgt := 212) C dX10_works_207 (by decide) (fun c => ?_) (fun c => ?_)
        · rw [if_pos c] at hw
          exact PW.wk (wk_s (wk_n (wk_s (wk_n (wk_s (wk_n (wk_n (wk_n wk_0)))))))) (b_X10_works_212 C hw)
        · rw [if_neg c] at hw
          refine PW.iconst (v := 0) C dX10_works_210 (by decide) ?_
          exact PW.zret C dX10_works_211 (by decide) ⟨_, rfl, hw⟩
    have n10 := c
    rw [if_neg c] at hw
    refine PW.byc 43 (fun c => ?_) (fun c => ?_)
    · rw [if_pos c] at hw
      subst c
      refine PW.look (tgt := 168) C dX10_works_70 (by decide) rfl (by decide) ?_
      refine PW.lld4 C dX10_works_168 ?_
      refine PW.lld2n C dX10_works_170 ?_
      refine PW.ladd C dX10_works_171 ?_
      replace hw := hw _ rfl
      refine PW.lst6 C dX10_works_172 (by decide) rfl ?_
      refine PW.goto (tgt := 407) C dX10_works_174 (by decide) ?_
      exact PW.wk (wk_s (wk_n (wk_n (wk_n (wk_n (wk_n (wk_s (wk_n wk_0)))))))) (b_X10_works_407 C hw)
    have n12 := c
    rw [if_neg c] at hw
    refine PW.byc 45 (fun c => ?_) (fun c => ?_)
    · rw [if_pos c] at hw
      subst c
      refine PW.look (tgt := 177) C dX10_works_70 (by decide) rfl (by decide) ?_
      refine PW.lld4 C dX10_works_177 ?_
      refine PW.lld2n C dX10_works_179 ?_
      refine PW.lsub C dX10_works_180 ?_
      replace hw := hw _ rfl
      refine PW.lst6 C dX10_works_181 (by decide) rfl ?_
      refine PW.goto (tgt := 407) C dX10_works_183 (by decide) ?_
      exact PW.wk (wk_s (wk_n (wk_n (wk_n (wk_n (wk_n (wk_s (wk_n wk_0)))))))) (b_X10_works_407 C hw)
    have n14 := c
    rw [if_neg c] at hw
    refine PW.byc 47 (fun c => ?_) (fun c => ?_)
    · rw [if_pos c] at hw
      subst c
      refine PW.look (tgt := 221) C dX10_works_70 (by decide) rfl (by decide) ?_
      refine PW.lld2n C dX10_works_221 ?_
      refine PW.lconst (v := 0) C dX10_works_222 (by decide) ?_
      refine PW.lcmp C dX10_works_223 ?_
      refine PW.if_ne (tgt := 229) C dX10_works_224 (by decide) (fun c => ?_) (fun c => ?_)
      · rw [if_neg c] at hw
        refine PW.lld4 C dX10_works_229 ?_
        refine PW.lld2n C dX10_works_231 ?_
        obtain ⟨hc15, hw⟩ := hw
        refine PW.ldiv C dX10_works_232 hc15 ?_
        replace hw := hw _ rfl
        refine PW.lst6 C dX10_works_233 (by decide) rfl ?_
        refine PW.goto (tgt := 407) C dX10_works_235 (by decide) ?_
        exact PW.wk (wk_s (wk_n (wk_n (wk_n (wk_n (wk_n (wk_s (wk_n wk_0)))))))) (b_X10_works_407 C hw)
      · rw [if_pos c] at hw
        refine PW.iconst (v := 0) C dX10_works_227 (by decide) ?_
        exact PW.zret C dX10_works_228 (by decide) ⟨_, rfl, hw⟩
    have n17 := c
    rw [if_neg c] at hw
    refine PW.byc 60 (fun c => ?_) (fun c => ?_)
    · rw [if_pos c] at hw
      subst c
      refine PW.look (tgt := 238) C dX10_works_70 (by decide) rfl (by decide) ?_
      refine PW.lld4 C dX10_works_238 ?_
      refine PW.lld2n C dX10_works_240 ?_
      refine PW.lcmp C dX10_works_241 ?_
      refine PW.if_ge (tgt := 249) C dX10_works_242 (by decide) (fun c => ?_) (fun c => ?_)
      · rw [if_pos c] at hw
        refine PW.iconst (v := 0) C dX10_works_249 (by decide) ?_
        exact PW.wk (wk_s (wk_n (wk_n (wk_n (wk_n (wk_n (wk_n (wk_n wk_0)))))))) (b_X10_works_250 C hw)
      · rw [if_neg c] at hw
        refine PW.iconst (v := 1) C dX10_works_245 (by decide) ?_
        refine PW.goto (tgt := 250) C dX10_works_246 (by decide) ?_
        exact PW.wk (wk_s (wk_n (wk_n (wk_n (wk_n (wk_n (wk_n (wk_n wk_0)))))))) (b_X10_works_250 C hw)
    have n20 := c
    rw [if_neg c] at hw
    refine PW.byc 61 (fun c => ?_) (fun c => ?_)
    · rw [if_pos c] at hw
      subst c
      refine PW.look (tgt := 278) C dX10_works_70 (by decide) rfl (by decide) ?_
      refine PW.lld4 C dX10_works_278 ?_
      refine PW.lld2n C dX10_works_280 ?_
      refine PW.lcmp C dX10_works_281 ?_
      refine PW.if_ne (tgt := 289) C dX10_works_282 (by decide) (fun c => ?_) (fun c => ?_)
      · rw [if_neg c] at hw
        refine PW.iconst (v := 0) C dX10_works_289 (by decide) ?_
        exact PW.wk (wk_s (wk_n (wk_n (wk_n (wk_n (wk_n (wk_n (wk_n wk_0)))))))) (b_X10_works_290 C hw)
      · rw [if_pos c] at hw
        refine PW.iconst (v := 1) C dX10_works_285 (by decide) ?_
        refine PW.goto (tgt := 290) C dX10_works_286 (by decide) ?_
        exact PW.wk (wk_s (wk_n (wk_n (wk_n (wk_n (wk_n (wk_n (wk_n wk_0)))))))) (b_X10_works_290 C hw)
    have n23 := c
    rw [if_neg c] at hw
    refine PW.byc 62 (fun c => ?_) (fun c => ?_)
    · rw [if_pos c] at hw
      subst c
      refine PW.look (tgt := 258) C dX10_works_70 (by decide) rfl (by decide) ?_
      refine PW.lld4 C dX10_works_258 ?_
      refine PW.lld2n C dX10_works_260 ?_
      refine PW.lcmp C dX10_works_261 ?_
      refine PW.if_le (tgt := 269) C dX10_works_262 (by decide) (fun c => ?_) (fun c => ?_)
      · rw [if_pos c] at hw
        refine PW.iconst (v := 0) C dX10_works_269 (by decide) ?_
        exact PW.wk (wk_s (wk_n (wk_n (wk_n (wk_n (wk_n (wk_n (wk_n wk_0)))))))) (b_X10_works_270 C hw)
      · rw [if_neg c] at hw
        refine PW.iconst (v := 1) C dX10_works_265 (by decide) ?_
        refine PW.goto (tgt := 270) C dX10_works_266 (by decide) ?_
        exact PW.wk (wk_s (wk_n (wk_n (wk_n (wk_n (wk_n (wk_n (wk_n wk_0)))))))) (b_X10_works_270 C hw)
    have n26 := c
    rw [if_neg c] at hw
    refine PW.byc 256 (fun c => ?_) (fun c => ?_)
    · rw [if_pos c] at hw
      subst c
      refine PW.look (tgt := 298) C dX10_works_70 (by decide) rfl (by decide) ?_
      refine PW.lld4 C dX10_works_298 ?_
      refine PW.lld2n C dX10_works_300 ?_
      refine PW.lcmp C dX10_works_301 ?_
      refine PW.if_gt (tgt := 309) C dX10_works_302 (by decide) (fun c => ?_) (fun c => ?_)
      · rw [if_pos c] at hw
        refine PW.iconst (v := 0) C dX10_works_309 (by decide) ?_
        exact PW.wk (wk_s (wk_n (wk_n (wk_n (wk_n (wk_n (wk_n (wk_n wk_0)))))))) (b_X10_works_310 C hw)
      · rw [if_neg c] at hw
        refine PW.iconst (v := 1) C dX10_works_305 (by decide) ?_
        refine PW.goto (tgt := 310) C dX10_works_306 (by decide) ?_
        exact PW.wk (wk_s (wk_n (wk_n (wk_n (wk_n (wk_n (wk_n (wk_n wk_0)))))))) (b_X10_works_310 C hw)
    have n29 := c
    rw [if_neg c] at hw
    refine PW.byc 257 (fun c => ?_) (fun c => ?_)
    · rw [if_pos c] at hw
      subst c
      refine PW.look (tgt := 338) C dX10_works_70 (by decide) rfl (by decide) ?_
      refine PW.lld4 C dX10_works_338 ?_
      refine PW.lld2n C dX10_works_340 ?_
      refine PW.lcmp C dX10_works_341 ?_
      refine PW.if_eq (tgt := 349) C dX10_works_342 (by decide) (fun c => ?_) (fun c => ?_)
      · rw [if_pos c] at hw
        refine PW.iconst (v := 0) C dX10_works_349 (by decide) ?_
        exact PW.wk (wk_s (wk_n (wk_n (wk_n (wk_n (wk_n (wk_n (wk_n wk_0)))))))) (b_X10_works_350 C hw)
      · rw [if_neg c] at hw
        refine PW.iconst (v := 1) C dX10_works_345 (by decide) ?_
        refine PW.goto (tgt := 350) C dX10_works_346 (by decide) ?_
        exact PW.wk (wk_s (wk_n (wk_n (wk_n (wk_n (wk_n (wk_n (wk_n wk_0)))))))) (b_X10_works_350 C hw)
    have n32 := c
    rw [if_neg c] at hw
    refine PW.byc 258 (fun c => ?_) (fun c => ?_)
    · rw [if_pos c] at hw
      subst c
      refine PW.look (tgt := 318) C dX10_works_70 (by decide) rfl (by decide) ?_
      refine PW.lld4 C dX10_works_318 ?_
      refine PW.lld2n C dX10_works_320 ?_
      refine PW.lcmp C dX10_works_321 ?_
      refine PW.if_lt (tgt := 329) C dX10_works_322 (by decide) (fun c => ?_) (fun c => ?_)
      · rw [if_pos c] at hw
        refine PW.iconst (v := 0) C dX10_works_329 (by decide) ?_
        exact PW.wk (wk_s (wk_n (wk_n (wk_n (wk_n (wk_n (wk_n (wk_n wk_0)))))))) (b_X10_works_330 C hw)
      · rw [if_neg c] at hw
        refine PW.iconst (v := 1) C dX10_works_325 (by decide) ?_
        refine PW.goto (tgt := 330) C dX10_works_326 (by decide) ?_
        exact PW.wk (wk_s (wk_n (wk_n (wk_n (wk_n (wk_n (wk_n (wk_n wk_0)))))))) (b_X10_works_330 C hw)
    have n35 := c
    rw [if_neg c] at hw
    refine PW.byc 261 (fun c => ?_) (fun c => ?_)
    · rw [if_pos c] at hw
      subst c
      refine PW.look (tgt := 358) C dX10_works_70 (by decide) rfl (by decide) ?_
      refine PW.lld4 C dX10_works_358 ?_
      refine PW.lconst (v := 0) C dX10_works_360 (by decide) ?_
      refine PW.lcmp C dX10_works_361 ?_
      refine PW.if_eq (tgt := 375) C dX10_works_362 (by decide) (fun c => ?_) (fun c => ?_)
      · rw [if_pos c] at hw
        exact PW.wk (wk_s (wk_n (wk_n (wk_n (wk_n (wk_n (wk_n (wk_n wk_0)))))))) (b_X10_works_375 C hw)
      · rw [if_neg c] at hw
        refine PW.lld2n C dX10_works_365 ?_
        refine PW.lconst (v := 0) C dX10_works_366 (by decide) ?_
        refine PW.lcmp C dX10_works_367 ?_
        refine PW.if_eq (tgt := 375) C dX10_works_368 (by decide) (fun c => ?_) (fun c => ?_)
        · rw [if_pos c] at hw
          exact PW.wk (wk_s (wk_n (wk_n (wk_n (wk_n (wk_n (wk_n (wk_n wk_0)))))))) (b_X10_works_375 C hw)
        · rw [if_neg c] at hw
          refine PW.iconst (v := 1) C dX10_works_371 (by decide) ?_
          refine PW.goto (tgt := 376) C dX10_works_372 (by decide) ?_
          exact PW.wk (wk_s (wk_n (wk_n (wk_n (wk_n (wk_n (wk_n (wk_n wk_0)))))))) (b_X10_works_376 C hw)
    have n38 := c
    rw [if_neg c] at hw
    refine PW.look (off := 314) (tgt := 384) C dX10_works_70 (by decide) (by have e0 := ne_ti (z := 42) (by decide) n10; have e1 := ne_ti (z := 43) (by decide) n12; have e2 := ne_ti (z := 45) (by decide) n14; have e3 := ne_ti (z := 47) (by decide) n17; have e4 := ne_ti (z := 60) (by decide) n20; have e5 := ne_ti (z := 61) (by decide) n23; have e6 := ne_ti (z := 62) (by decide) n26; have e7 := ne_ti (z := 256) (by decide) n29; have e8 := ne_ti (z := 257) (by decide) n32; have e9 := ne_ti (z := 258) (by decide) n35; have e10 := ne_ti (z := 261) (by decide) n38; simp [Op.lookupswitch.offset, Ne.symm e0, e0, Ne.symm e1, e1, Ne.symm e2, e2, Ne.symm e3, e3, Ne.symm e4, e4, Ne.symm e5, e5, Ne.symm e6, e6, Ne.symm e7, e7, Ne.symm e8, e8, Ne.symm e9, e9, Ne.symm e10, e10]) (by decide) ?_
    refine PW.lld4 C dX10_works_384 ?_
    refine PW.lconst (v := 0) C dX10_works_386 (by decide) ?_
    refine PW.lcmp C dX10_works_387 ?_
    refine PW.if_ne (tgt := 397) C dX10_works_388 (by decide) (fun c => ?_) (fun c => ?_)
    · rw [if_neg c] at hw
      exact PW.wk (wk_s (wk_n (wk_n (wk_n (wk_n (wk_n (wk_n (wk_n wk_0)))))))) (b_X10_works_397 C hw)
    · rw [if_pos c] at hw
      refine PW.lld2n C dX10_works_391 ?_
      refine PW.lconst (v := 0) C dX10_works_392 (by decide) ?_
      refine PW.lcmp C dX10_works_393 ?_
      refine PW.if_eq (tgt := 401) C dX10_works_394 (by decide) (fun c => ?_) (fun c => ?_)
      · rw [if_pos c] at hw
        refine PW.iconst (v := 0) C dX10_works_401 (by decide) ?_
        exact PW.wk (wk_s (wk_n (wk_n (wk_n (wk_n (wk_n (wk_n (wk_n wk_0)))))))) (b_X10_works_402 C hw)
      · rw [if_neg c] at hw
        exact PW.wk (wk_s (wk_n (wk_n (wk_n (wk_n (wk_n (wk_n (wk_n wk_0)))))))) (b_X10_works_397 C hw)
  · rw [if_pos c] at hw
    refine PW.ald0n C dX10_works_19 ?_
    refine PW.get0 (v := .ref 33) C cf_10 fl_X10_111 (by decide) oM_0 (fvR (o := 33) rfl) dX10_works_20 ?_
    refine PW.ald0n C dX10_works_23 ?_
    refine PW.get0 C cf_10 fl_X10_416 (by decide) oM_0 (fvI rfl) dX10_works_24 ?_
    refine PW.iconst (v := 1) C dX10_works_27 (by decide) ?_
    refine PW.isub C dX10_works_28 ?_
    refine PW.lld2n C dX10_works_29 ?_
    refine PW.lconst (v := 0) C dX10_works_30 (by decide) ?_
    refine PW.lcmp C dX10_works_31 ?_
    refine PW.if_ne (tgt := 39) C dX10_works_32 (by decide) (fun c => ?_) (fun c => ?_)
    · rw [if_neg c] at hw
      refine PW.iconst (v := 0) C dX10_works_39 (by decide) ?_
      exact PW.wk (wk_n (wk_n (wk_n (wk_n (wk_n (wk_n (wk_n (wk_n wk_0)))))))) (b_X10_works_40 C hw)
    · rw [if_pos c] at hw
      refine PW.iconst (v := 1) C dX10_works_35 (by decide) ?_
      refine PW.goto (tgt := 40) C dX10_works_36 (by decide) ?_
      exact PW.wk (wk_n (wk_n (wk_n (wk_n (wk_n (wk_n (wk_n (wk_n wk_0)))))))) (b_X10_works_40 C hw)
def w_X10_goes_85 (Q : Int32 → PH → Prop) (kb : Int32 → PH → Prop) (x1 : Int32) (x2 : Int32) (s1 : Int32) (s2 : Int64) (h : PH) : Prop :=
  vp_in s1 64 ∧ ∀ h10, h10 = sJ h 33 (iN s1) s2 → ∀ h11, h11 = sI h10 0 48 ((gI h10 0 48) + 1) → kb (x2 + 1) h11
set_option maxRecDepth 8000 in
theorem b_X10_goes_85 {D : va_G} {ca : Nat → ClassId} {ad : Nat → Nat} {K : Kt} {kb : Int32 → PH → Prop} {Q : Int32 → PH → Prop} {x1 : Int32} {x2 : Int32} {s1 : Int32} {s2 : Int64} {h : PH} (C : CX (GM D ca ad) (XS (GM D ca ad)) cX10_goes RX10 3 (some .boolean) 3 K) (hkb : ∀ (x2 : Int32) (h : PH), kb x2 h → PW (GM D ca ad) K 3 (qI Q) h 12 [some (.ref 0), some (.int x1), some (.int x2)] []) (hw : w_X10_goes_85 Q kb x1 x2 s1 s2 h) : PW (GM D ca ad) K 3 (qI Q) h 85 [some (.ref 0), some (.int x1), some (.int x2)] [.long s2, .int s1, .ref 33] := by
  unfold w_X10_goes_85 at hw
  obtain ⟨hc9, hw⟩ := hw
  replace hw := hw _ rfl
  refine PW.last C dX10_goes_85 aM_33 hc9 ?_
  refine PW.ald0n C dX10_goes_86 ?_
  refine PW.dup C dX10_goes_87 rfl ?_
  refine PW.get0 C cf_10 fl_X10_416 (by decide) oM_0 (fvI rfl) dX10_goes_88 ?_
  refine PW.iconst (v := 1) C dX10_goes_91 (by decide) ?_
  refine PW.iadd C dX10_goes_92 ?_
  replace hw := hw _ rfl
  refine PW.put0 C cf_10 fl_X10_416 (by decide) oM_0 rfl rfl rfl (pw_sI oM_0 (by decide) rfl) dX10_goes_93 ?_
  refine PW.inc2 (v := 1) C dX10_goes_96 (by decide) rfl (by decide) ?_
  refine PW.goto (tgt := 12) C dX10_goes_99 (by decide) ?_
  exact PW.wk (wk_s (wk_s (wk_s wk_0))) (hkb _ _ hw)
def w_X10_goes_12 (k45 : PH → Prop) (k102 : PH → Prop) (Q : Int32 → PH → Prop) (x1 : Int32) (kb : Int32 → PH → Prop) (x2 : Int32) (h : PH) : Prop :=
  vp_in x1 4 ∧ if (gI h 29 (iN x1)) ≤ x2 then (k102 h) else (vp_in x2 128 ∧ if (gI h 30 (iN x2)) = 2 then (vp_in x2 128 ∧ w_X10_works (gI h 31 (iN x2)) h (fun z15 h14 => if z15 = 0 then (k45 h14) else (kb (x2 + 1) h14))) else (vp_in x2 128 ∧ if (gI h 30 (iN x2)) = 0 then (vp_in x2 128 ∧ w_X10_goes_85 Q kb x1 x2 (gI h 0 48) (((gI h 31 (iN x2)) : Int32).toInt64) h) else (vp_in x2 128 ∧ vp_in (gI h 31 (iN x2)) 6 ∧ w_X10_goes_85 Q kb x1 x2 (gI h 0 48) (gJ h 32 (iN (gI h 31 (iN x2)))) h)))
set_option maxRecDepth 8000 in
theorem b_X10_goes_12 {D : va_G} {ca : Nat → ClassId} {ad : Nat → Nat} {K : Kt} {k45 : PH → Prop} {k102 : PH → Prop} {kb : Int32 → PH → Prop} {Q : Int32 → PH → Prop} {x1 : Int32} {x2 : Int32} {h : PH} (C : CX (GM D ca ad) (XS (GM D ca ad)) cX10_goes RX10 3 (some .boolean) 3 K) (hk45 : ∀ (h : PH), k45 h → PW (GM D ca ad) K 3 (qI Q) h 45 [none, none, none] []) (hk102 : ∀ (h : PH), k102 h → PW (GM D ca ad) K 3 (qI Q) h 102 [none, none, none] []) (hkb : ∀ (x2 : Int32) (h : PH), kb x2 h → PW (GM D ca ad) K 3 (qI Q) h 12 [some (.ref 0), some (.int x1), some (.int x2)] []) (hw : w_X10_goes_12 k45 k102 Q x1 kb x2 h) : PW (GM D ca ad) K 3 (qI Q) h 12 [some (.ref 0), some (.int x1), some (.int x2)] [] := by
  unfold w_X10_goes_12 at hw
  refine PW.ild2n C dX10_goes_12 ?_
  refine PW.ald0n C dX10_goes_13 ?_
  refine PW.get0 (v := .ref 29) C cf_10 fl_X10_94 (by decide) oM_0 (fvR (o := 29) rfl) dX10_goes_14 ?_
  refine PW.ild1n C dX10_goes_17 ?_
  obtain ⟨hc4, hw⟩ := hw
  refine PW.iald C dX10_goes_18 aM_29 hc4 ?_
  refine PW.icmp_ge (tgt := 102) C dX10_goes_19 (by decide) (fun c => ?_) (fun c => ?_)
  · rw [if_pos c] at hw
    exact PW.wk (wk_n (wk_n (wk_n wk_0))) (hk102 _ hw)
  · rw [if_neg c] at hw
    refine PW.ald0n C dX10_goes_22 ?_
    refine PW.get0 (v := .ref 30) C cf_10 fl_X10_97 (by decide) oM_0 (fvR (o := 30) rfl) dX10_goes_23 ?_
    refine PW.ild2n C dX10_goes_26 ?_
    obtain ⟨hc5, hw⟩ := hw
    refine PW.iald C dX10_goes_27 aM_30 hc5 ?_
    refine PW.iconst (v := 2) C dX10_goes_28 (by decide) ?_
    refine PW.icmp_ne (tgt := 47) C dX10_goes_29 (by decide) (fun c => ?_) (fun c => ?_)
    · rw [if_neg c] at hw
      refine PW.ald0n C dX10_goes_47 ?_
      refine PW.get0 (v := .ref 33) C cf_10 fl_X10_111 (by decide) oM_0 (fvR (o := 33) rfl) dX10_goes_48 ?_
      refine PW.ald0n C dX10_goes_51 ?_
      refine PW.get0 C cf_10 fl_X10_416 (by decide) oM_0 (fvI rfl) dX10_goes_52 ?_
      refine PW.ald0n C dX10_goes_55 ?_
      refine PW.get0 (v := .ref 30) C cf_10 fl_X10_97 (by decide) oM_0 (fvR (o := 30) rfl) dX10_goes_56 ?_
      refine PW.ild2n C dX10_goes_59 ?_
      obtain ⟨hc6, hw⟩ := hw
      refine PW.iald C dX10_goes_60 aM_30 hc6 ?_
      refine PW.if_ne (tgt := 74) C dX10_goes_61 (by decide) (fun c => ?_) (fun c => ?_)
      · rw [if_neg c] at hw
        refine PW.ald0n C dX10_goes_74 ?_
        refine PW.get0 (v := .ref 32) C cf_10 fl_X10_107 (by decide) oM_0 (fvR (o := 32) rfl) dX10_goes_75 ?_
        refine PW.ald0n C dX10_goes_78 ?_
        refine PW.get0 (v := .ref 31) C cf_10 fl_X10_100 (by decide) oM_0 (fvR (o := 31) rfl) dX10_goes_79 ?_
        refine PW.ild2n C dX10_goes_82 ?_
        obtain ⟨hc7, hw⟩ := hw
        refine PW.iald C dX10_goes_83 aM_31 hc7 ?_
        obtain ⟨hc8, hw⟩ := hw
        refine PW.lald C dX10_goes_84 aM_32 hc8 ?_
        exact PW.wk (wk_s (wk_s (wk_s wk_0))) (b_X10_goes_85 C hkb hw)
      · rw [if_pos c] at hw
        refine PW.ald0n C dX10_goes_64 ?_
        refine PW.get0 (v := .ref 31) C cf_10 fl_X10_100 (by decide) oM_0 (fvR (o := 31) rfl) dX10_goes_65 ?_
        refine PW.ild2n C dX10_goes_68 ?_
        obtain ⟨hc12, hw⟩ := hw
        refine PW.iald C dX10_goes_69 aM_31 hc12 ?_
        refine PW.i2l C dX10_goes_70 ?_
        refine PW.goto (tgt := 85) C dX10_goes_71 (by decide) ?_
        exact PW.wk (wk_s (wk_s (wk_s wk_0))) (b_X10_goes_85 C hkb hw)
    · rw [if_pos c] at hw
      refine PW.ald0n C dX10_goes_32 ?_
      refine PW.ald0n C dX10_goes_33 ?_
      refine PW.get0 (v := .ref 31) C cf_10 fl_X10_100 (by decide) oM_0 (fvR (o := 31) rfl) dX10_goes_34 ?_
      refine PW.ild2n C dX10_goes_37 ?_
      obtain ⟨hc13, hw⟩ := hw
      refine PW.iald C dX10_goes_38 aM_31 hc13 ?_
      refine PW.callVI1 C ms_X10_works ml_X10_433 dX10_goes_39 oM_0 ⟨_, _, rfl⟩ (Nat.le_of_ble_eq_true rfl) (by decide) (Nat.le_of_ble_eq_true rfl) (s_X10_works hw) ?_
      clear hw
      intro z15 h14 hw
      refine PW.if_ne (tgt := 96) C dX10_goes_42 (by decide) (fun c => ?_) (fun c => ?_)
      · rw [if_neg c] at hw
        refine PW.inc2 (v := 1) C dX10_goes_96 (by decide) rfl (by decide) ?_
        refine PW.goto (tgt := 12) C dX10_goes_99 (by decide) ?_
        exact PW.wk (wk_s (wk_s (wk_s wk_0))) (hkb _ _ hw)
      · rw [if_pos c] at hw
        exact PW.wk (wk_n (wk_n (wk_n wk_0))) (hk45 _ hw)
theorem l_X10_goes_12 {D : va_G} {ca : Nat → ClassId} {ad : Nat → Nat} {K : Kt} {k45 : PH → Prop} {k102 : PH → Prop} {Q : Int32 → PH → Prop} {x1 : Int32} (C : CX (GM D ca ad) (XS (GM D ca ad)) cX10_goes RX10 3 (some .boolean) 3 K) (hk45 : ∀ (h : PH), k45 h → PW (GM D ca ad) K 3 (qI Q) h 45 [none, none, none] []) (hk102 : ∀ (h : PH), k102 h → PW (GM D ca ad) K 3 (qI Q) h 102 [none, none, none] []) : ∀ (n : Nat) (x2 : Int32) (h : PH), Lp1 (w_X10_goes_12 k45 k102 Q x1) n x2 h → PW (GM D ca ad) K 3 (qI Q) h 12 [some (.ref 0), some (.int x1), some (.int x2)] [] := by
  intro n
  induction n with
  | zero => intro x2 h hw; exact hw.elim
  | succ n ih => intro x2 h hw; exact b_X10_goes_12 C hk45 hk102 (fun x2 h hw => ih x2 h hw) hw
def w_X10_goes (x1 : Int32) (h : PH) (Q : Int32 → PH → Prop) : Prop :=
  ∀ h1, h1 = sI h 0 48 0 → vp_in x1 4 ∧ ∀ (y3 : Int32), y3 = (gI h1 28 (iN x1)) → ∃ n, Lp1 (w_X10_goes_12 (fun h16 => Q 0 h16) (fun h17 => Q 1 h17) Q x1) n y3 h1
set_option maxRecDepth 8000 in
theorem s_X10_goes {D : va_G} {ca : Nat → ClassId} {ad : Nat → Nat} {l : Launch} {x1 : Int32} {h : PH} {Q : Int32 → PH → Prop} (hw : w_X10_goes x1 h Q) : Sp (GM D ca ad) (XS (GM D ca ad)) l 3 yX10_goes cX10_goes 3 (some .boolean) [.ref 0, .int x1] h (qI Q) := by
  refine Sp.of (own := RX10) [some (.ref 0), some (.int x1), none] (by decide +kernel) rfl rfl (Nat.le_of_ble_eq_true rfl) (fun K hl C => ?_)
  subst hl
  unfold w_X10_goes at hw
  refine PW.ald0n C dX10_goes_0 ?_
  refine PW.iconst (v := 0) C dX10_goes_1 (by decide) ?_
  replace hw := hw _ rfl
  refine PW.put0 C cf_10 fl_X10_416 (by decide) oM_0 rfl rfl rfl (pw_sI oM_0 (by decide) rfl) dX10_goes_2 ?_
  refine PW.ald0n C dX10_goes_5 ?_
  refine PW.get0 (v := .ref 28) C cf_10 fl_X10_91 (by decide) oM_0 (fvR (o := 28) rfl) dX10_goes_6 ?_
  refine PW.ild1n C dX10_goes_9 ?_
  obtain ⟨hc2, hw⟩ := hw
  refine PW.iald C dX10_goes_10 aM_28 hc2 ?_
  replace hw := hw _ rfl
  refine PW.ist2n C dX10_goes_11 (by decide) rfl ?_
  obtain ⟨n, hw⟩ := hw
  refine PW.wk (wk_s (wk_s (wk_s wk_0))) (l_X10_goes_12 C ?_ ?_ n _ _ hw)
  · intro h16 hw
    refine PW.iconst (v := 0) C dX10_goes_45 (by decide) ?_
    exact PW.zret C dX10_goes_46 (by decide) ⟨_, rfl, hw⟩
  · intro h17 hw
    refine PW.iconst (v := 1) C dX10_goes_102 (by decide) ?_
    exact PW.zret C dX10_goes_103 (by decide) ⟨_, rfl, hw⟩
def w_X10_hasLaw (x1 : Int32) (h : PH) (Q : Int32 → PH → Prop) : Prop :=
  vp_in x1 4 ∧ vp_in x1 4 ∧ if (gI h 29 (iN x1)) ≤ (gI h 28 (iN x1)) then (Q 0 h) else (Q 1 h)
set_option maxRecDepth 8000 in
theorem s_X10_hasLaw {D : va_G} {ca : Nat → ClassId} {ad : Nat → Nat} {l : Launch} {x1 : Int32} {h : PH} {Q : Int32 → PH → Prop} (hw : w_X10_hasLaw x1 h Q) : Sp (GM D ca ad) (XS (GM D ca ad)) l 1 yX10_hasLaw cX10_hasLaw 2 (some .boolean) [.ref 0, .int x1] h (qI Q) := by
  refine Sp.of (own := RX10) [some (.ref 0), some (.int x1)] (by decide +kernel) rfl rfl (Nat.le_of_ble_eq_true rfl) (fun K hl C => ?_)
  subst hl
  unfold w_X10_hasLaw at hw
  refine PW.ald0n C dX10_hasLaw_0 ?_
  refine PW.get0 (v := .ref 29) C cf_10 fl_X10_94 (by decide) oM_0 (fvR (o := 29) rfl) dX10_hasLaw_1 ?_
  refine PW.ild1n C dX10_hasLaw_4 ?_
  obtain ⟨hc1, hw⟩ := hw
  refine PW.iald C dX10_hasLaw_5 aM_29 hc1 ?_
  refine PW.ald0n C dX10_hasLaw_6 ?_
  refine PW.get0 (v := .ref 28) C cf_10 fl_X10_91 (by decide) oM_0 (fvR (o := 28) rfl) dX10_hasLaw_7 ?_
  refine PW.ild1n C dX10_hasLaw_10 ?_
  obtain ⟨hc2, hw⟩ := hw
  refine PW.iald C dX10_hasLaw_11 aM_28 hc2 ?_
  refine PW.icmp_le (tgt := 19) C dX10_hasLaw_12 (by decide) (fun c => ?_) (fun c => ?_)
  · rw [if_pos c] at hw
    refine PW.iconst (v := 0) C dX10_hasLaw_19 (by decide) ?_
    exact PW.zret C dX10_hasLaw_20 (by decide) ⟨_, rfl, hw⟩
  · rw [if_neg c] at hw
    refine PW.iconst (v := 1) C dX10_hasLaw_15 (by decide) ?_
    refine PW.goto (tgt := 20) C dX10_hasLaw_16 (by decide) ?_
    exact PW.zret C dX10_hasLaw_20 (by decide) ⟨_, rfl, hw⟩
def w_X10_callsFade_3 (k24 : PH → Prop) (Q : PH → Prop) (x1 : Int32) (x2 : Int32) (x3 : Int32) (kb : Int32 → PH → Prop) (x4 : Int32) (h : PH) : Prop :=
  if 6 ≤ x4 then (k24 h) else (vp_in x4 6 ∧ ∀ h2, h2 = sJ h 32 (iN x4) 0 → kb (x4 + 1) h2)
set_option maxRecDepth 8000 in
theorem b_X10_callsFade_3 {D : va_G} {ca : Nat → ClassId} {ad : Nat → Nat} {K : Kt} {k24 : PH → Prop} {kb : Int32 → PH → Prop} {Q : PH → Prop} {x1 : Int32} {x2 : Int32} {x3 : Int32} {x4 : Int32} {h : PH} (C : CX (GM D ca ad) (XS (GM D ca ad)) cX10_callsFade RX10 5 none 1 K) (hk24 : ∀ (h : PH), k24 h → PW (GM D ca ad) K 5 (qV Q) h 24 [some (.ref 0), some (.int x1), some (.int x2), some (.int x3), none] []) (hkb : ∀ (x4 : Int32) (h : PH), kb x4 h → PW (GM D ca ad) K 5 (qV Q) h 3 [some (.ref 0), some (.int x1), some (.int x2), some (.int x3), some (.int x4)] []) (hw : w_X10_callsFade_3 k24 Q x1 x2 x3 kb x4 h) : PW (GM D ca ad) K 5 (qV Q) h 3 [some (.ref 0), some (.int x1), some (.int x2), some (.int x3), some (.int x4)] [] := by
  unfold w_X10_callsFade_3 at hw
  refine PW.ild4 C dX10_callsFade_3 ?_
  refine PW.bipush (v := 6) C dX10_callsFade_5 (by decide) ?_
  refine PW.icmp_ge (tgt := 24) C dX10_callsFade_7 (by decide) (fun c => ?_) (fun c => ?_)
  · rw [if_pos c] at hw
    exact PW.wk (wk_s (wk_s (wk_s (wk_s (wk_n wk_0))))) (hk24 _ hw)
  · rw [if_neg c] at hw
    refine PW.ald0n C dX10_callsFade_10 ?_
    refine PW.get0 (v := .ref 32) C cf_10 fl_X10_107 (by decide) oM_0 (fvR (o := 32) rfl) dX10_callsFade_11 ?_
    refine PW.ild4 C dX10_callsFade_14 ?_
    refine PW.lconst (v := 0) C dX10_callsFade_16 (by decide) ?_
    obtain ⟨hc1, hw⟩ := hw
    replace hw := hw _ rfl
    refine PW.last C dX10_callsFade_17 aM_32 hc1 ?_
    refine PW.inc4 (v := 1) C dX10_callsFade_18 (by decide) rfl (by decide) ?_
    refine PW.goto (tgt := 3) C dX10_callsFade_21 (by decide) ?_
    exact PW.wk (wk_s (wk_s (wk_s (wk_s (wk_s wk_0))))) (hkb _ _ hw)
theorem l_X10_callsFade_3 {D : va_G} {ca : Nat → ClassId} {ad : Nat → Nat} {K : Kt} {k24 : PH → Prop} {Q : PH → Prop} {x1 : Int32} {x2 : Int32} {x3 : Int32} (C : CX (GM D ca ad) (XS (GM D ca ad)) cX10_callsFade RX10 5 none 1 K) (hk24 : ∀ (h : PH), k24 h → PW (GM D ca ad) K 5 (qV Q) h 24 [some (.ref 0), some (.int x1), some (.int x2), some (.int x3), none] []) : ∀ (n : Nat) (x4 : Int32) (h : PH), Lp1 (w_X10_callsFade_3 k24 Q x1 x2 x3) n x4 h → PW (GM D ca ad) K 5 (qV Q) h 3 [some (.ref 0), some (.int x1), some (.int x2), some (.int x3), some (.int x4)] [] := by
  intro n
  induction n with
  | zero => intro x4 h hw; exact hw.elim
  | succ n ih => intro x4 h hw; exact b_X10_callsFade_3 C hk24 (fun x4 h hw => ih x4 h hw) hw
def w_X10_callsFade (x1 : Int32) (x2 : Int32) (x3 : Int32) (h : PH) (Q : PH → Prop) : Prop :=
  ∃ n, Lp1 (w_X10_callsFade_3 (fun h3 => ∀ h4, h4 = sJ h3 32 (iN 0) ((x1 : Int32).toInt64) → ∀ h5, h5 = sJ h4 32 (iN 1) ((x2 : Int32).toInt64) → ∀ h6, h6 = sJ h5 32 (iN 2) ((x3 : Int32).toInt64) → Q h6) Q x1 x2 x3) n 0 h
set_option maxRecDepth 8000 in
theorem s_X10_callsFade {D : va_G} {ca : Nat → ClassId} {ad : Nat → Nat} {l : Launch} {x1 : Int32} {x2 : Int32} {x3 : Int32} {h : PH} {Q : PH → Prop} (hw : w_X10_callsFade x1 x2 x3 h Q) : Sp (GM D ca ad) (XS (GM D ca ad)) l 1 yX10_callsFade cX10_callsFade 5 none [.ref 0, .int x1, .int x2, .int x3] h (qV Q) := by
  refine Sp.of (own := RX10) [some (.ref 0), some (.int x1), some (.int x2), some (.int x3), none] (by decide +kernel) rfl rfl (Nat.le_of_ble_eq_true rfl) (fun K hl C => ?_)
  subst hl
  unfold w_X10_callsFade at hw
  refine PW.iconst (v := 0) C dX10_callsFade_0 (by decide) ?_
  refine PW.ist4 C dX10_callsFade_1 (by decide) rfl ?_
  obtain ⟨n, hw⟩ := hw
  refine PW.wk (wk_s (wk_s (wk_s (wk_s (wk_s wk_0))))) (l_X10_callsFade_3 C ?_ n _ _ hw)
  · intro h3 hw
    refine PW.ald0n C dX10_callsFade_24 ?_
    refine PW.get0 (v := .ref 32) C cf_10 fl_X10_107 (by decide) oM_0 (fvR (o := 32) rfl) dX10_callsFade_25 ?_
    refine PW.iconst (v := 0) C dX10_callsFade_28 (by decide) ?_
    refine PW.ild1n C dX10_callsFade_29 ?_
    refine PW.i2l C dX10_callsFade_30 ?_
    replace hw := hw _ rfl
    refine PW.last C dX10_callsFade_31 aM_32 (vpl (by decide)) ?_
    refine PW.ald0n C dX10_callsFade_32 ?_
    refine PW.get0 (v := .ref 32) C cf_10 fl_X10_107 (by decide) oM_0 (fvR (o := 32) rfl) dX10_callsFade_33 ?_
    refine PW.iconst (v := 1) C dX10_callsFade_36 (by decide) ?_
    refine PW.ild2n C dX10_callsFade_37 ?_
    refine PW.i2l C dX10_callsFade_38 ?_
    replace hw := hw _ rfl
    refine PW.last C dX10_callsFade_39 aM_32 (vpl (by decide)) ?_
    refine PW.ald0n C dX10_callsFade_40 ?_
    refine PW.get0 (v := .ref 32) C cf_10 fl_X10_107 (by decide) oM_0 (fvR (o := 32) rfl) dX10_callsFade_41 ?_
    refine PW.iconst (v := 2) C dX10_callsFade_44 (by decide) ?_
    refine PW.ild3n C dX10_callsFade_45 ?_
    refine PW.i2l C dX10_callsFade_46 ?_
    replace hw := hw _ rfl
    refine PW.last C dX10_callsFade_47 aM_32 (vpl (by decide)) ?_
    exact PW.vret C dX10_callsFade_48 ⟨rfl, hw⟩
def w_X10_callsWorth_3 (k24 : PH → Prop) (Q : PH → Prop) (x1 : Int32) (x2 : Int32) (x3 : Int32) (x4 : Int32) (kb : Int32 → PH → Prop) (x5 : Int32) (h : PH) : Prop :=
  if 6 ≤ x5 then (k24 h) else (vp_in x5 6 ∧ ∀ h2, h2 = sJ h 32 (iN x5) 0 → kb (x5 + 1) h2)
set_option maxRecDepth 8000 in
theorem b_X10_callsWorth_3 {D : va_G} {ca : Nat → ClassId} {ad : Nat → Nat} {K : Kt} {k24 : PH → Prop} {kb : Int32 → PH → Prop} {Q : PH → Prop} {x1 : Int32} {x2 : Int32} {x3 : Int32} {x4 : Int32} {x5 : Int32} {h : PH} (C : CX (GM D ca ad) (XS (GM D ca ad)) cX10_callsWorth RX10 6 none 1 K) (hk24 : ∀ (h : PH), k24 h → PW (GM D ca ad) K 6 (qV Q) h 24 [some (.ref 0), some (.int x1), some (.int x2), some (.int x3), some (.int x4), none] []) (hkb : ∀ (x5 : Int32) (h : PH), kb x5 h → PW (GM D ca ad) K 6 (qV Q) h 3 [some (.ref 0), some (.int x1), some (.int x2), some (.int x3), some (.int x4), some (.int x5)] []) (hw : w_X10_callsWorth_3 k24 Q x1 x2 x3 x4 kb x5 h) : PW (GM D ca ad) K 6 (qV Q) h 3 [some (.ref 0), some (.int x1), some (.int x2), some (.int x3), some (.int x4), some (.int x5)] [] := by
  unfold w_X10_callsWorth_3 at hw
  refine PW.ild5 C dX10_callsWorth_3 ?_
  refine PW.bipush (v := 6) C dX10_callsWorth_5 (by decide) ?_
  refine PW.icmp_ge (tgt := 24) C dX10_callsWorth_7 (by decide) (fun c => ?_) (fun c => ?_)
  · rw [if_pos c] at hw
    exact PW.wk (wk_s (wk_s (wk_s (wk_s (wk_s (wk_n wk_0)))))) (hk24 _ hw)
  · rw [if_neg c] at hw
    refine PW.ald0n C dX10_callsWorth_10 ?_
    refine PW.get0 (v := .ref 32) C cf_10 fl_X10_107 (by decide) oM_0 (fvR (o := 32) rfl) dX10_callsWorth_11 ?_
    refine PW.ild5 C dX10_callsWorth_14 ?_
    refine PW.lconst (v := 0) C dX10_callsWorth_16 (by decide) ?_
    obtain ⟨hc1, hw⟩ := hw
    replace hw := hw _ rfl
    refine PW.last C dX10_callsWorth_17 aM_32 hc1 ?_
    refine PW.inc5 (v := 1) C dX10_callsWorth_18 (by decide) rfl (by decide) ?_
    refine PW.goto (tgt := 3) C dX10_callsWorth_21 (by decide) ?_
    exact PW.wk (wk_s (wk_s (wk_s (wk_s (wk_s (wk_s wk_0)))))) (hkb _ _ hw)
theorem l_X10_callsWorth_3 {D : va_G} {ca : Nat → ClassId} {ad : Nat → Nat} {K : Kt} {k24 : PH → Prop} {Q : PH → Prop} {x1 : Int32} {x2 : Int32} {x3 : Int32} {x4 : Int32} (C : CX (GM D ca ad) (XS (GM D ca ad)) cX10_callsWorth RX10 6 none 1 K) (hk24 : ∀ (h : PH), k24 h → PW (GM D ca ad) K 6 (qV Q) h 24 [some (.ref 0), some (.int x1), some (.int x2), some (.int x3), some (.int x4), none] []) : ∀ (n : Nat) (x5 : Int32) (h : PH), Lp1 (w_X10_callsWorth_3 k24 Q x1 x2 x3 x4) n x5 h → PW (GM D ca ad) K 6 (qV Q) h 3 [some (.ref 0), some (.int x1), some (.int x2), some (.int x3), some (.int x4), some (.int x5)] [] := by
  intro n
  induction n with
  | zero => intro x5 h hw; exact hw.elim
  | succ n ih => intro x5 h hw; exact b_X10_callsWorth_3 C hk24 (fun x5 h hw => ih x5 h hw) hw
def w_X10_callsWorth (x1 : Int32) (x2 : Int32) (x3 : Int32) (x4 : Int32) (h : PH) (Q : PH → Prop) : Prop :=
  ∃ n, Lp1 (w_X10_callsWorth_3 (fun h3 => ∀ h4, h4 = sJ h3 32 (iN 3) ((x1 : Int32).toInt64) → ∀ h5, h5 = sJ h4 32 (iN 4) ((x2 : Int32).toInt64) → ∀ h6, h6 = sJ h5 32 (iN 5) ((x3 : Int32).toInt64) → ∀ h7, h7 = sJ h6 32 (iN 2) ((x4 : Int32).toInt64) → Q h7) Q x1 x2 x3 x4) n 0 h
set_option maxRecDepth 8000 in
theorem s_X10_callsWorth {D : va_G} {ca : Nat → ClassId} {ad : Nat → Nat} {l : Launch} {x1 : Int32} {x2 : Int32} {x3 : Int32} {x4 : Int32} {h : PH} {Q : PH → Prop} (hw : w_X10_callsWorth x1 x2 x3 x4 h Q) : Sp (GM D ca ad) (XS (GM D ca ad)) l 1 yX10_callsWorth cX10_callsWorth 6 none [.ref 0, .int x1, .int x2, .int x3, .int x4] h (qV Q) := by
  refine Sp.of (own := RX10) [some (.ref 0), some (.int x1), some (.int x2), some (.int x3), some (.int x4), none] (by decide +kernel) rfl rfl (Nat.le_of_ble_eq_true rfl) (fun K hl C => ?_)
  subst hl
  unfold w_X10_callsWorth at hw
  refine PW.iconst (v := 0) C dX10_callsWorth_0 (by decide) ?_
  refine PW.ist5 C dX10_callsWorth_1 (by decide) rfl ?_
  obtain ⟨n, hw⟩ := hw
  refine PW.wk (wk_s (wk_s (wk_s (wk_s (wk_s (wk_s wk_0)))))) (l_X10_callsWorth_3 C ?_ n _ _ hw)
  · intro h3 hw
    refine PW.ald0n C dX10_callsWorth_24 ?_
    refine PW.get0 (v := .ref 32) C cf_10 fl_X10_107 (by decide) oM_0 (fvR (o := 32) rfl) dX10_callsWorth_25 ?_
    refine PW.iconst (v := 3) C dX10_callsWorth_28 (by decide) ?_
    refine PW.ild1n C dX10_callsWorth_29 ?_
    refine PW.i2l C dX10_callsWorth_30 ?_
    replace hw := hw _ rfl
    refine PW.last C dX10_callsWorth_31 aM_32 (vpl (by decide)) ?_
    refine PW.ald0n C dX10_callsWorth_32 ?_
    refine PW.get0 (v := .ref 32) C cf_10 fl_X10_107 (by decide) oM_0 (fvR (o := 32) rfl) dX10_callsWorth_33 ?_
    refine PW.iconst (v := 4) C dX10_callsWorth_36 (by decide) ?_
    refine PW.ild2n C dX10_callsWorth_37 ?_
    refine PW.i2l C dX10_callsWorth_38 ?_
    replace hw := hw _ rfl
    refine PW.last C dX10_callsWorth_39 aM_32 (vpl (by decide)) ?_
    refine PW.ald0n C dX10_callsWorth_40 ?_
    refine PW.get0 (v := .ref 32) C cf_10 fl_X10_107 (by decide) oM_0 (fvR (o := 32) rfl) dX10_callsWorth_41 ?_
    refine PW.iconst (v := 5) C dX10_callsWorth_44 (by decide) ?_
    refine PW.ild3n C dX10_callsWorth_45 ?_
    refine PW.i2l C dX10_callsWorth_46 ?_
    replace hw := hw _ rfl
    refine PW.last C dX10_callsWorth_47 aM_32 (vpl (by decide)) ?_
    refine PW.ald0n C dX10_callsWorth_48 ?_
    refine PW.get0 (v := .ref 32) C cf_10 fl_X10_107 (by decide) oM_0 (fvR (o := 32) rfl) dX10_callsWorth_49 ?_
    refine PW.iconst (v := 2) C dX10_callsWorth_52 (by decide) ?_
    refine PW.ild4 C dX10_callsWorth_53 ?_
    refine PW.i2l C dX10_callsWorth_55 ?_
    replace hw := hw _ rfl
    refine PW.last C dX10_callsWorth_56 aM_32 (vpl (by decide)) ?_
    exact PW.vret C dX10_callsWorth_57 ⟨rfl, hw⟩
def w_X10_worthOf (x1 : Int32) (x2 : Int32) (x3 : Int32) (x4 : Int32) (h : PH) (Q : Int32 → PH → Prop) : Prop :=
  w_X10_callsWorth x1 x2 x3 x4 h (fun h1 => w_X10_hasLaw 1 h1 (fun z3 h2 => if z3 = 0 then (Q x1 h2) else (w_X10_goes 1 h2 (fun z5 h4 => if z5 = 0 then (Q x1 h4) else (Q (((mxJ 0 (mnJ 9999 (gJ h4 33 (iN 0)))) : Int64).toInt32) h4)))))
set_option maxRecDepth 8000 in
theorem s_X10_worthOf {D : va_G} {ca : Nat → ClassId} {ad : Nat → Nat} {l : Launch} {x1 : Int32} {x2 : Int32} {x3 : Int32} {x4 : Int32} {h : PH} {Q : Int32 → PH → Prop} (hw : w_X10_worthOf x1 x2 x3 x4 h Q) : Sp (GM D ca ad) (XS (GM D ca ad)) l 4 yX10_worthOf cX10_worthOf 5 (some .int) [.ref 0, .int x1, .int x2, .int x3, .int x4] h (qI Q) := by
  refine Sp.of (own := RX10) [some (.ref 0), some (.int x1), some (.int x2), some (.int x3), some (.int x4)] (by decide +kernel) rfl rfl (Nat.le_of_ble_eq_true rfl) (fun K hl C => ?_)
  subst hl
  unfold w_X10_worthOf at hw
  refine PW.ald0n C dX10_worthOf_0 ?_
  refine PW.ild1n C dX10_worthOf_1 ?_
  refine PW.ild2n C dX10_worthOf_2 ?_
  refine PW.ild3n C dX10_worthOf_3 ?_
  refine PW.ild4 C dX10_worthOf_4 ?_
  refine PW.callVV4 C ms_X10_callsWorth ml_X10_436 dX10_worthOf_6 oM_0 ⟨_, _, rfl⟩ (Nat.le_of_ble_eq_true rfl) (by decide) (Nat.le_of_ble_eq_true rfl) (s_X10_callsWorth hw) ?_
  clear hw
  intro h1 hw
  refine PW.ald0n C dX10_worthOf_9 ?_
  refine PW.iconst (v := 1) C dX10_worthOf_10 (by decide) ?_
  refine PW.callVI1 C ms_X10_hasLaw ml_X10_440 dX10_worthOf_11 oM_0 ⟨_, _, rfl⟩ (Nat.le_of_ble_eq_true rfl) (by decide) (Nat.le_of_ble_eq_true rfl) (s_X10_hasLaw hw) ?_
  clear hw
  intro z3 h2 hw
  refine PW.if_eq (tgt := 25) C dX10_worthOf_14 (by decide) (fun c => ?_) (fun c => ?_)
  · rw [if_pos c] at hw
    refine PW.ild1n C dX10_worthOf_25 ?_
    exact PW.iret C dX10_worthOf_26 ⟨_, rfl, hw⟩
  · rw [if_neg c] at hw
    refine PW.ald0n C dX10_worthOf_17 ?_
    refine PW.iconst (v := 1) C dX10_worthOf_18 (by decide) ?_
    refine PW.callVI1 C ms_X10_goes ml_X10_443 dX10_worthOf_19 oM_0 ⟨_, _, rfl⟩ (Nat.le_of_ble_eq_true rfl) (by decide) (Nat.le_of_ble_eq_true rfl) (s_X10_goes hw) ?_
    clear hw
    intro z5 h4 hw
    refine PW.if_ne (tgt := 27) C dX10_worthOf_22 (by decide) (fun c => ?_) (fun c => ?_)
    · rw [if_neg c] at hw
      refine PW.lconst (v := 0) C dX10_worthOf_27 (by decide) ?_
      refine PW.ldc2 (v := 9999) C cs_X10_446 dX10_worthOf_28 ?_
      refine PW.ald0n C dX10_worthOf_31 ?_
      refine PW.get0 (v := .ref 33) C cf_10 fl_X10_111 (by decide) oM_0 (fvR (o := 33) rfl) dX10_worthOf_32 ?_
      refine PW.iconst (v := 0) C dX10_worthOf_35 (by decide) ?_
      refine PW.lald C dX10_worthOf_36 aM_33 (vpl (by decide)) ?_
      refine PW.mnJ C ml_X10_448 (Nat.le_of_ble_eq_true rfl) (by decide) dX10_worthOf_37 ?_
      refine PW.mxJ C ml_X10_452 (Nat.le_of_ble_eq_true rfl) (by decide) dX10_worthOf_40 ?_
      refine PW.l2i C dX10_worthOf_43 ?_
      exact PW.iret C dX10_worthOf_44 ⟨_, rfl, hw⟩
    · rw [if_pos c] at hw
      refine PW.ild1n C dX10_worthOf_25 ?_
      exact PW.iret C dX10_worthOf_26 ⟨_, rfl, hw⟩
def w_X10_isOff (x0 : Int32) (h : PH) (Q : Int32 → PH → Prop) : Prop :=
  if x0 < 0 then (Q 1 h) else (if x0 ≤ 9999 then (Q 0 h) else (Q 1 h))
set_option maxRecDepth 8000 in
theorem s_X10_isOff {D : va_G} {ca : Nat → ClassId} {ad : Nat → Nat} {l : Launch} {x0 : Int32} {h : PH} {Q : Int32 → PH → Prop} (hw : w_X10_isOff x0 h Q) : Sp (GM D ca ad) (XS (GM D ca ad)) l 1 yX10_isOff cX10_isOff 1 (some .boolean) [.int x0] h (qI Q) := by
  refine Sp.of (own := RX10) [some (.int x0)] (by decide +kernel) rfl rfl (Nat.le_of_ble_eq_true rfl) (fun K hl C => ?_)
  subst hl
  unfold w_X10_isOff at hw
  refine PW.ild0n C dX10_isOff_0 ?_
  refine PW.if_lt (tgt := 11) C dX10_isOff_1 (by decide) (fun c => ?_) (fun c => ?_)
  · rw [if_pos c] at hw
    refine PW.iconst (v := 1) C dX10_isOff_11 (by decide) ?_
    refine PW.goto (tgt := 16) C dX10_isOff_12 (by decide) ?_
    exact PW.zret C dX10_isOff_16 (by decide) ⟨_, rfl, hw⟩
  · rw [if_neg c] at hw
    refine PW.ild0n C dX10_isOff_4 ?_
    refine PW.sipush (v := 9999) C dX10_isOff_5 (by decide) ?_
    refine PW.icmp_le (tgt := 15) C dX10_isOff_8 (by decide) (fun c => ?_) (fun c => ?_)
    · rw [if_pos c] at hw
      refine PW.iconst (v := 0) C dX10_isOff_15 (by decide) ?_
      exact PW.zret C dX10_isOff_16 (by decide) ⟨_, rfl, hw⟩
    · rw [if_neg c] at hw
      refine PW.iconst (v := 1) C dX10_isOff_11 (by decide) ?_
      refine PW.goto (tgt := 16) C dX10_isOff_12 (by decide) ?_
      exact PW.zret C dX10_isOff_16 (by decide) ⟨_, rfl, hw⟩
def w_X10_law_72 (Q : Int64 → PH → Prop) (x1 : Int32) (h : PH) : Prop :=
  w_X10_goes x1 h (fun z12 h11 => if z12 = 0 then (Q (-9223372036854775808) h11) else (Q (gJ h11 33 (iN 0)) h11))
set_option maxRecDepth 8000 in
theorem b_X10_law_72 {D : va_G} {ca : Nat → ClassId} {ad : Nat → Nat} {K : Kt} {Q : Int64 → PH → Prop} {x1 : Int32} {h : PH} (C : CX (GM D ca ad) (XS (GM D ca ad)) cX10_law RX10 5 (some .long) 4 K) (hw : w_X10_law_72 Q x1 h) : PW (GM D ca ad) K 5 (qJ Q) h 72 [some (.ref 0), some (.int x1), none, none, none] [] := by
  unfold w_X10_law_72 at hw
  refine PW.ald0n C dX10_law_72 ?_
  refine PW.ild1n C dX10_law_73 ?_
  refine PW.callVI1 C ms_X10_goes ml_X10_443 dX10_law_74 oM_0 ⟨_, _, rfl⟩ (Nat.le_of_ble_eq_true rfl) (by decide) (Nat.le_of_ble_eq_true rfl) (s_X10_goes hw) ?_
  clear hw
  intro z12 h11 hw
  refine PW.if_eq (tgt := 89) C dX10_law_77 (by decide) (fun c => ?_) (fun c => ?_)
  · rw [if_pos c] at hw
    refine PW.ldc2 (v := (-9223372036854775808)) C cs_X10_460 dX10_law_89 ?_
    exact PW.lret C dX10_law_92 ⟨_, rfl, hw⟩
  · rw [if_neg c] at hw
    refine PW.ald0n C dX10_law_80 ?_
    refine PW.get0 (v := .ref 33) C cf_10 fl_X10_111 (by decide) oM_0 (fvR (o := 33) rfl) dX10_law_81 ?_
    refine PW.iconst (v := 0) C dX10_law_84 (by decide) ?_
    refine PW.lald C dX10_law_85 aM_33 (vpl (by decide)) ?_
    refine PW.goto (tgt := 92) C dX10_law_86 (by decide) ?_
    exact PW.lret C dX10_law_92 ⟨_, rfl, hw⟩
def w_X10_law (x1 : Int32) (x2 : Int32) (x3 : Int32) (x4 : Int32) (h : PH) (Q : Int64 → PH → Prop) : Prop :=
  ∀ h1, h1 = sI h 0 0 0 → if x1 < 0 then (Q (-9223372036854775808) h1) else (if 1 < x1 then (Q (-9223372036854775808) h1) else (w_X10_hasLaw x1 h1 (fun z3 h2 => if z3 = 0 then (Q (-9223372036854775808) h2) else (w_X10_isOff x2 h2 (fun z5 h4 => if z5 = 0 then (w_X10_isOff x3 h4 (fun z7 h6 => if z7 = 0 then (w_X10_isOff x4 h6 (fun z9 h8 => if z9 = 0 then (if x1 = 0 then (w_X10_callsFade x2 x3 x4 h8 (fun h13 => w_X10_law_72 Q x1 h13)) else (w_X10_callsWorth x2 x3 x4 0 h8 (fun h10 => w_X10_law_72 Q x1 h10))) else (Q (-9223372036854775808) h8))) else (Q (-9223372036854775808) h6))) else (Q (-9223372036854775808) h4))))))
set_option maxRecDepth 8000 in
theorem s_X10_law {D : va_G} {ca : Nat → ClassId} {ad : Nat → Nat} {l : Launch} {x1 : Int32} {x2 : Int32} {x3 : Int32} {x4 : Int32} {h : PH} {Q : Int64 → PH → Prop} (hw : w_X10_law x1 x2 x3 x4 h Q) : Sp (GM D ca ad) (XS (GM D ca ad)) l 4 yX10_law cX10_law 5 (some .long) [.ref 0, .int x1, .int x2, .int x3, .int x4] h (qJ Q) := by
  refine Sp.of (own := RX10) [some (.ref 0), some (.int x1), some (.int x2), some (.int x3), some (.int x4)] (by decide +kernel) rfl rfl (Nat.le_of_ble_eq_true rfl) (fun K hl C => ?_)
  subst hl
  unfold w_X10_law at hw
  refine PW.ald0n C dX10_law_0 ?_
  refine PW.iconst (v := 0) C dX10_law_1 (by decide) ?_
  replace hw := hw _ rfl
  refine PW.put0 C cf_10 fl_X10_235 (by decide) oM_0 rfl rfl rfl (pw_sI oM_0 (by decide) rfl) dX10_law_2 ?_
  refine PW.ild1n C dX10_law_5 ?_
  refine PW.if_lt (tgt := 44) C dX10_law_6 (by decide) (fun c => ?_) (fun c => ?_)
  · rw [if_pos c] at hw
    refine PW.ldc2 (v := (-9223372036854775808)) C cs_X10_460 dX10_law_44 ?_
    exact PW.lret C dX10_law_47 ⟨_, rfl, hw⟩
  · rw [if_neg c] at hw
    refine PW.ild1n C dX10_law_9 ?_
    refine PW.iconst (v := 1) C dX10_law_10 (by decide) ?_
    refine PW.icmp_gt (tgt := 44) C dX10_law_11 (by decide) (fun c => ?_) (fun c => ?_)
    · rw [if_pos c] at hw
      refine PW.ldc2 (v := (-9223372036854775808)) C cs_X10_460 dX10_law_44 ?_
      exact PW.lret C dX10_law_47 ⟨_, rfl, hw⟩
    · rw [if_neg c] at hw
      refine PW.ald0n C dX10_law_14 ?_
      refine PW.ild1n C dX10_law_15 ?_
      refine PW.callVI1 C ms_X10_hasLaw ml_X10_440 dX10_law_16 oM_0 ⟨_, _, rfl⟩ (Nat.le_of_ble_eq_true rfl) (by decide) (Nat.le_of_ble_eq_true rfl) (s_X10_hasLaw hw) ?_
      clear hw
      intro z3 h2 hw
      refine PW.if_eq (tgt := 44) C dX10_law_19 (by decide) (fun c => ?_) (fun c => ?_)
      · rw [if_pos c] at hw
        refine PW.ldc2 (v := (-9223372036854775808)) C cs_X10_460 dX10_law_44 ?_
        exact PW.lret C dX10_law_47 ⟨_, rfl, hw⟩
      · rw [if_neg c] at hw
        refine PW.ild2n C dX10_law_22 ?_
        refine PW.callSI1 C ms_X10_isOff ml_X10_455 dX10_law_23 (Nat.le_of_ble_eq_true rfl) (by decide) (Nat.le_of_ble_eq_true rfl) (s_X10_isOff hw) ?_
        clear hw
        intro z5 h4 hw
        refine PW.if_ne (tgt := 44) C dX10_law_26 (by decide) (fun c => ?_) (fun c => ?_)
        · rw [if_neg c] at hw
          refine PW.ldc2 (v := (-9223372036854775808)) C cs_X10_460 dX10_law_44 ?_
          exact PW.lret C dX10_law_47 ⟨_, rfl, hw⟩
        · rw [if_pos c] at hw
          refine PW.ild3n C dX10_law_29 ?_
          refine PW.callSI1 C ms_X10_isOff ml_X10_455 dX10_law_30 (Nat.le_of_ble_eq_true rfl) (by decide) (Nat.le_of_ble_eq_true rfl) (s_X10_isOff hw) ?_
          clear hw
          intro z7 h6 hw
          refine PW.if_ne (tgt := 44) C dX10_law_33 (by decide) (fun c => ?_) (fun c => ?_)
          · rw [if_neg c] at hw
            refine PW.ldc2 (v := (-9223372036854775808)) C cs_X10_460 dX10_law_44 ?_
            exact PW.lret C dX10_law_47 ⟨_, rfl, hw⟩
          · rw [if_pos c] at hw
            refine PW.ild4 C dX10_law_36 ?_
            refine PW.callSI1 C ms_X10_isOff ml_X10_455 dX10_law_38 (Nat.le_of_ble_eq_true rfl) (by decide) (Nat.le_of_ble_eq_true rfl) (s_X10_isOff hw) ?_
            clear hw
            intro z9 h8 hw
            refine PW.if_eq (tgt := 48) C dX10_law_41 (by decide) (fun c => ?_) (fun c => ?_)
            · rw [if_pos c] at hw
              refine PW.ild1n C dX10_law_48 ?_
              refine PW.if_ne (tgt := 63) C dX10_law_49 (by decide) (fun c => ?_) (fun c => ?_)
              · rw [if_neg c] at hw
                refine PW.ald0n C dX10_law_63 ?_
                refine PW.ild2n C dX10_law_64 ?_
                refine PW.ild3n C dX10_law_65 ?_
                refine PW.ild4 C dX10_law_66 ?_
                refine PW.iconst (v := 0) C dX10_law_68 (by decide) ?_
                refine PW.callVV4 C ms_X10_callsWorth ml_X10_436 dX10_law_69 oM_0 ⟨_, _, rfl⟩ (Nat.le_of_ble_eq_true rfl) (by decide) (Nat.le_of_ble_eq_true rfl) (s_X10_callsWorth hw) ?_
                clear hw
                intro h10 hw
                exact PW.wk (wk_s (wk_s (wk_n (wk_n (wk_n wk_0))))) (b_X10_law_72 C hw)
              · rw [if_pos c] at hw
                refine PW.ald0n C dX10_law_52 ?_
                refine PW.ild2n C dX10_law_53 ?_
                refine PW.ild3n C dX10_law_54 ?_
                refine PW.ild4 C dX10_law_55 ?_
                refine PW.callVV3 C ms_X10_callsFade ml_X10_462 dX10_law_57 oM_0 ⟨_, _, rfl⟩ (Nat.le_of_ble_eq_true rfl) (by decide) (Nat.le_of_ble_eq_true rfl) (s_X10_callsFade hw) ?_
                clear hw
                intro h13 hw
                refine PW.goto (tgt := 72) C dX10_law_60 (by decide) ?_
                exact PW.wk (wk_s (wk_s (wk_n (wk_n (wk_n wk_0))))) (b_X10_law_72 C hw)
            · rw [if_neg c] at hw
              refine PW.ldc2 (v := (-9223372036854775808)) C cs_X10_460 dX10_law_44 ?_
              exact PW.lret C dX10_law_47 ⟨_, rfl, hw⟩
def w_X10_copies_14 (k140 : PH → Prop) (Q : PH → Prop) (x1 : Int32) (x2 : Int32) (kb : Int32 → PH → Prop) (x3 : Int32) (h : PH) : Prop :=
  vp_in x2 22 ∧ if (gI h 34 (iN x2)) ≤ x3 then (k140 h) else (vp_in ((12 * x2) + x3) 264 ∧ vp_in ((12 * x1) + x3) 264 ∧ ∀ h7, h7 = sI h 35 (iN ((12 * x1) + x3)) (gI h 35 (iN ((12 * x2) + x3))) → vp_in ((12 * x2) + x3) 264 ∧ vp_in ((12 * x1) + x3) 264 ∧ ∀ h10, h10 = sI h7 36 (iN ((12 * x1) + x3)) (gI h7 36 (iN ((12 * x2) + x3))) → vp_in ((12 * x2) + x3) 264 ∧ vp_in ((12 * x1) + x3) 264 ∧ ∀ h13, h13 = sI h10 37 (iN ((12 * x1) + x3)) (gI h10 37 (iN ((12 * x2) + x3))) → vp_in ((12 * x2) + x3) 264 ∧ vp_in ((12 * x1) + x3) 264 ∧ ∀ h16, h16 = sI h13 38 (iN ((12 * x1) + x3)) (gI h13 38 (iN ((12 * x2) + x3))) → vp_in ((12 * x2) + x3) 264 ∧ vp_in ((12 * x1) + x3) 264 ∧ ∀ h19, h19 = sI h16 39 (iN ((12 * x1) + x3)) (gI h16 39 (iN ((12 * x2) + x3))) → kb (x3 + 1) h19)
set_option maxRecDepth 8000 in
theorem b_X10_copies_14 {D : va_G} {ca : Nat → ClassId} {ad : Nat → Nat} {K : Kt} {k140 : PH → Prop} {kb : Int32 → PH → Prop} {Q : PH → Prop} {x1 : Int32} {x2 : Int32} {x3 : Int32} {h : PH} (C : CX (GM D ca ad) (XS (GM D ca ad)) cX10_copies RX10 4 none 1 K) (hk140 : ∀ (h : PH), k140 h → PW (GM D ca ad) K 4 (qV Q) h 140 [some (.ref 0), some (.int x1), some (.int x2), none] []) (hkb : ∀ (x3 : Int32) (h : PH), kb x3 h → PW (GM D ca ad) K 4 (qV Q) h 14 [some (.ref 0), some (.int x1), some (.int x2), some (.int x3)] []) (hw : w_X10_copies_14 k140 Q x1 x2 kb x3 h) : PW (GM D ca ad) K 4 (qV Q) h 14 [some (.ref 0), some (.int x1), some (.int x2), some (.int x3)] [] := by
  unfold w_X10_copies_14 at hw
  refine PW.ild3n C dX10_copies_14 ?_
  refine PW.ald0n C dX10_copies_15 ?_
  refine PW.get0 (v := .ref 34) C cf_10 fl_X10_114 (by decide) oM_0 (fvR (o := 34) rfl) dX10_copies_16 ?_
  refine PW.ild2n C dX10_copies_19 ?_
  obtain ⟨hc4, hw⟩ := hw
  refine PW.iald C dX10_copies_20 aM_34 hc4 ?_
  refine PW.icmp_ge (tgt := 140) C dX10_copies_21 (by decide) (fun c => ?_) (fun c => ?_)
  · rw [if_pos c] at hw
    exact PW.wk (wk_s (wk_s (wk_s (wk_n wk_0)))) (hk140 _ hw)
  · rw [if_neg c] at hw
    refine PW.ald0n C dX10_copies_24 ?_
    refine PW.get0 (v := .ref 35) C cf_10 fl_X10_117 (by decide) oM_0 (fvR (o := 35) rfl) dX10_copies_25 ?_
    refine PW.bipush (v := 12) C dX10_copies_28 (by decide) ?_
    refine PW.ild1n C dX10_copies_30 ?_
    refine PW.imul C dX10_copies_31 ?_
    refine PW.ild3n C dX10_copies_32 ?_
    refine PW.iadd C dX10_copies_33 ?_
    refine PW.ald0n C dX10_copies_34 ?_
    refine PW.get0 (v := .ref 35) C cf_10 fl_X10_117 (by decide) oM_0 (fvR (o := 35) rfl) dX10_copies_35 ?_
    refine PW.bipush (v := 12) C dX10_copies_38 (by decide) ?_
    refine PW.ild2n C dX10_copies_40 ?_
    refine PW.imul C dX10_copies_41 ?_
    refine PW.ild3n C dX10_copies_42 ?_
    refine PW.iadd C dX10_copies_43 ?_
    obtain ⟨hc5, hw⟩ := hw
    refine PW.iald C dX10_copies_44 aM_35 hc5 ?_
    obtain ⟨hc6, hw⟩ := hw
    replace hw := hw _ rfl
    refine PW.iast C dX10_copies_45 aM_35 hc6 ?_
    refine PW.ald0n C dX10_copies_46 ?_
    refine PW.get0 (v := .ref 36) C cf_10 fl_X10_120 (by decide) oM_0 (fvR (o := 36) rfl) dX10_copies_47 ?_
    refine PW.bipush (v := 12) C dX10_copies_50 (by decide) ?_
    refine PW.ild1n C dX10_copies_52 ?_
    refine PW.imul C dX10_copies_53 ?_
    refine PW.ild3n C dX10_copies_54 ?_
    refine PW.iadd C dX10_copies_55 ?_
    refine PW.ald0n C dX10_copies_56 ?_
    refine PW.get0 (v := .ref 36) C cf_10 fl_X10_120 (by decide) oM_0 (fvR (o := 36) rfl) dX10_copies_57 ?_
    refine PW.bipush (v := 12) C dX10_copies_60 (by decide) ?_
    refine PW.ild2n C dX10_copies_62 ?_
    refine PW.imul C dX10_copies_63 ?_
    refine PW.ild3n C dX10_copies_64 ?_
    refine PW.iadd C dX10_copies_65 ?_
    obtain ⟨hc8, hw⟩ := hw
    refine PW.iald C dX10_copies_66 aM_36 hc8 ?_
    obtain ⟨hc9, hw⟩ := hw
    replace hw := hw _ rfl
    refine PW.iast C dX10_copies_67 aM_36 hc9 ?_
    refine PW.ald0n C dX10_copies_68 ?_
    refine PW.get0 (v := .ref 37) C cf_10 fl_X10_123 (by decide) oM_0 (fvR (o := 37) rfl) dX10_copies_69 ?_
    refine PW.bipush (v := 12) C dX10_copies_72 (by decide) ?_
    refine PW.ild1n C dX10_copies_74 ?_
    refine PW.imul C dX10_copies_75 ?_
    refine PW.ild3n C dX10_copies_76 ?_
    refine PW.iadd C dX10_copies_77 ?_
    refine PW.ald0n C dX10_copies_78 ?_
    refine PW.get0 (v := .ref 37) C cf_10 fl_X10_123 (by decide) oM_0 (fvR (o := 37) rfl) dX10_copies_79 ?_
    refine PW.bipush (v := 12) C dX10_copies_82 (by decide) ?_
    refine PW.ild2n C dX10_copies_84 ?_
    refine PW.imul C dX10_copies_85 ?_
    refine PW.ild3n C dX10_copies_86 ?_
    refine PW.iadd C dX10_copies_87 ?_
    obtain ⟨hc11, hw⟩ := hw
    refine PW.iald C dX10_copies_88 aM_37 hc11 ?_
    obtain ⟨hc12, hw⟩ := hw
    replace hw := hw _ rfl
    refine PW.iast C dX10_copies_89 aM_37 hc12 ?_
    refine PW.ald0n C dX10_copies_90 ?_
    refine PW.get0 (v := .ref 38) C cf_10 fl_X10_126 (by decide) oM_0 (fvR (o := 38) rfl) dX10_copies_91 ?_
    refine PW.bipush (v := 12) C dX10_copies_94 (by decide) ?_
    refine PW.ild1n C dX10_copies_96 ?_
    refine PW.imul C dX10_copies_97 ?_
    refine PW.ild3n C dX10_copies_98 ?_
    refine PW.iadd C dX10_copies_99 ?_
    refine PW.ald0n C dX10_copies_100 ?_
    refine PW.get0 (v := .ref 38) C cf_10 fl_X10_126 (by decide) oM_0 (fvR (o := 38) rfl) dX10_copies_101 ?_
    refine PW.bipush (v := 12) C dX10_copies_104 (by decide) ?_
    refine PW.ild2n C dX10_copies_106 ?_
    refine PW.imul C dX10_copies_107 ?_
    refine PW.ild3n C dX10_copies_108 ?_
    refine PW.iadd C dX10_copies_109 ?_
    obtain ⟨hc14, hw⟩ := hw
    refine PW.iald C dX10_copies_110 aM_38 hc14 ?_
    obtain ⟨hc15, hw⟩ := hw
    replace hw := hw _ rfl
    refine PW.iast C dX10_copies_111 aM_38 hc15 ?_
    refine PW.ald0n C dX10_copies_112 ?_
    refine PW.get0 (v := .ref 39) C cf_10 fl_X10_129 (by decide) oM_0 (fvR (o := 39) rfl) dX10_copies_113 ?_
    refine PW.bipush (v := 12) C dX10_copies_116 (by decide) ?_
    refine PW.ild1n C dX10_copies_118 ?_
    refine PW.imul C dX10_copies_119 ?_
    refine PW.ild3n C dX10_copies_120 ?_
    refine PW.iadd C dX10_copies_121 ?_
    refine PW.ald0n C dX10_copies_122 ?_
    refine PW.get0 (v := .ref 39) C cf_10 fl_X10_129 (by decide) oM_0 (fvR (o := 39) rfl) dX10_copies_123 ?_
    refine PW.bipush (v := 12) C dX10_copies_126 (by decide) ?_
    refine PW.ild2n C dX10_copies_128 ?_
    refine PW.imul C dX10_copies_129 ?_
    refine PW.ild3n C dX10_copies_130 ?_
    refine PW.iadd C dX10_copies_131 ?_
    obtain ⟨hc17, hw⟩ := hw
    refine PW.iald C dX10_copies_132 aM_39 hc17 ?_
    obtain ⟨hc18, hw⟩ := hw
    replace hw := hw _ rfl
    refine PW.iast C dX10_copies_133 aM_39 hc18 ?_
    refine PW.inc3 (v := 1) C dX10_copies_134 (by decide) rfl (by decide) ?_
    refine PW.goto (tgt := 14) C dX10_copies_137 (by decide) ?_
    exact PW.wk (wk_s (wk_s (wk_s (wk_s wk_0)))) (hkb _ _ hw)
theorem l_X10_copies_14 {D : va_G} {ca : Nat → ClassId} {ad : Nat → Nat} {K : Kt} {k140 : PH → Prop} {Q : PH → Prop} {x1 : Int32} {x2 : Int32} (C : CX (GM D ca ad) (XS (GM D ca ad)) cX10_copies RX10 4 none 1 K) (hk140 : ∀ (h : PH), k140 h → PW (GM D ca ad) K 4 (qV Q) h 140 [some (.ref 0), some (.int x1), some (.int x2), none] []) : ∀ (n : Nat) (x3 : Int32) (h : PH), Lp1 (w_X10_copies_14 k140 Q x1 x2) n x3 h → PW (GM D ca ad) K 4 (qV Q) h 14 [some (.ref 0), some (.int x1), some (.int x2), some (.int x3)] [] := by
  intro n
  induction n with
  | zero => intro x3 h hw; exact hw.elim
  | succ n ih => intro x3 h hw; exact b_X10_copies_14 C hk140 (fun x3 h hw => ih x3 h hw) hw
def w_X10_copies_154 (k188 : PH → Prop) (Q : PH → Prop) (x1 : Int32) (x2 : Int32) (kb : Int32 → PH → Prop) (x3 : Int32) (h : PH) : Prop :=
  if 8 ≤ x3 then (k188 h) else (vp_in ((8 * x2) + x3) 176 ∧ vp_in ((8 * x1) + x3) 176 ∧ ∀ h26, h26 = sI h 41 (iN ((8 * x1) + x3)) (gI h 41 (iN ((8 * x2) + x3))) → kb (x3 + 1) h26)
set_option maxRecDepth 8000 in
theorem b_X10_copies_154 {D : va_G} {ca : Nat → ClassId} {ad : Nat → Nat} {K : Kt} {k188 : PH → Prop} {kb : Int32 → PH → Prop} {Q : PH → Prop} {x1 : Int32} {x2 : Int32} {x3 : Int32} {h : PH} (C : CX (GM D ca ad) (XS (GM D ca ad)) cX10_copies RX10 4 none 1 K) (hk188 : ∀ (h : PH), k188 h → PW (GM D ca ad) K 4 (qV Q) h 188 [some (.ref 0), some (.int x1), some (.int x2), none] []) (hkb : ∀ (x3 : Int32) (h : PH), kb x3 h → PW (GM D ca ad) K 4 (qV Q) h 154 [some (.ref 0), some (.int x1), some (.int x2), some (.int x3)] []) (hw : w_X10_copies_154 k188 Q x1 x2 kb x3 h) : PW (GM D ca ad) K 4 (qV Q) h 154 [some (.ref 0), some (.int x1), some (.int x2), some (.int x3)] [] := by
  unfold w_X10_copies_154 at hw
  refine PW.ild3n C dX10_copies_154 ?_
  refine PW.bipush (v := 8) C dX10_copies_155 (by decide) ?_
  refine PW.icmp_ge (tgt := 188) C dX10_copies_157 (by decide) (fun c => ?_) (fun c => ?_)
  · rw [if_pos c] at hw
    exact PW.wk (wk_s (wk_s (wk_s (wk_n wk_0)))) (hk188 _ hw)
  · rw [if_neg c] at hw
    refine PW.ald0n C dX10_copies_160 ?_
    refine PW.get0 (v := .ref 41) C cf_10 fl_X10_135 (by decide) oM_0 (fvR (o := 41) rfl) dX10_copies_161 ?_
    refine PW.bipush (v := 8) C dX10_copies_164 (by decide) ?_
    refine PW.ild1n C dX10_copies_166 ?_
    refine PW.imul C dX10_copies_167 ?_
    refine PW.ild3n C dX10_copies_168 ?_
    refine PW.iadd C dX10_copies_169 ?_
    refine PW.ald0n C dX10_copies_170 ?_
    refine PW.get0 (v := .ref 41) C cf_10 fl_X10_135 (by decide) oM_0 (fvR (o := 41) rfl) dX10_copies_171 ?_
    refine PW.bipush (v := 8) C dX10_copies_174 (by decide) ?_
    refine PW.ild2n C dX10_copies_176 ?_
    refine PW.imul C dX10_copies_177 ?_
    refine PW.ild3n C dX10_copies_178 ?_
    refine PW.iadd C dX10_copies_179 ?_
    obtain ⟨hc24, hw⟩ := hw
    refine PW.iald C dX10_copies_180 aM_41 hc24 ?_
    obtain ⟨hc25, hw⟩ := hw
    replace hw := hw _ rfl
    refine PW.iast C dX10_copies_181 aM_41 hc25 ?_
    refine PW.inc3 (v := 1) C dX10_copies_182 (by decide) rfl (by decide) ?_
    refine PW.goto (tgt := 154) C dX10_copies_185 (by decide) ?_
    exact PW.wk (wk_s (wk_s (wk_s (wk_s wk_0)))) (hkb _ _ hw)
theorem l_X10_copies_154 {D : va_G} {ca : Nat → ClassId} {ad : Nat → Nat} {K : Kt} {k188 : PH → Prop} {Q : PH → Prop} {x1 : Int32} {x2 : Int32} (C : CX (GM D ca ad) (XS (GM D ca ad)) cX10_copies RX10 4 none 1 K) (hk188 : ∀ (h : PH), k188 h → PW (GM D ca ad) K 4 (qV Q) h 188 [some (.ref 0), some (.int x1), some (.int x2), none] []) : ∀ (n : Nat) (x3 : Int32) (h : PH), Lp1 (w_X10_copies_154 k188 Q x1 x2) n x3 h → PW (GM D ca ad) K 4 (qV Q) h 154 [some (.ref 0), some (.int x1), some (.int x2), some (.int x3)] [] := by
  intro n
  induction n with
  | zero => intro x3 h hw; exact hw.elim
  | succ n ih => intro x3 h hw; exact b_X10_copies_154 C hk188 (fun x3 h hw => ih x3 h hw) hw
def w_X10_copies_202 (k233 : PH → Prop) (Q : PH → Prop) (x1 : Int32) (x2 : Int32) (kb : Int32 → PH → Prop) (x3 : Int32) (h : PH) : Prop :=
  if 4 ≤ x3 then (k233 h) else (vp_in ((4 * x2) + x3) 88 ∧ vp_in ((4 * x1) + x3) 88 ∧ ∀ h33, h33 = sI h 43 (iN ((4 * x1) + x3)) (gI h 43 (iN ((4 * x2) + x3))) → kb (x3 + 1) h33)
set_option maxRecDepth 8000 in
theorem b_X10_copies_202 {D : va_G} {ca : Nat → ClassId} {ad : Nat → Nat} {K : Kt} {k233 : PH → Prop} {kb : Int32 → PH → Prop} {Q : PH → Prop} {x1 : Int32} {x2 : Int32} {x3 : Int32} {h : PH} (C : CX (GM D ca ad) (XS (GM D ca ad)) cX10_copies RX10 4 none 1 K) (hk233 : ∀ (h : PH), k233 h → PW (GM D ca ad) K 4 (qV Q) h 233 [some (.ref 0), some (.int x1), some (.int x2), none] []) (hkb : ∀ (x3 : Int32) (h : PH), kb x3 h → PW (GM D ca ad) K 4 (qV Q) h 202 [some (.ref 0), some (.int x1), some (.int x2), some (.int x3)] []) (hw : w_X10_copies_202 k233 Q x1 x2 kb x3 h) : PW (GM D ca ad) K 4 (qV Q) h 202 [some (.ref 0), some (.int x1), some (.int x2), some (.int x3)] [] := by
  unfold w_X10_copies_202 at hw
  refine PW.ild3n C dX10_copies_202 ?_
  refine PW.iconst (v := 4) C dX10_copies_203 (by decide) ?_
  refine PW.icmp_ge (tgt := 233) C dX10_copies_204 (by decide) (fun c => ?_) (fun c => ?_)
  · rw [if_pos c] at hw
    exact PW.wk (wk_s (wk_s (wk_s (wk_n wk_0)))) (hk233 _ hw)
  · rw [if_neg c] at hw
    refine PW.ald0n C dX10_copies_207 ?_
    refine PW.get0 (v := .ref 43) C cf_10 fl_X10_141 (by decide) oM_0 (fvR (o := 43) rfl) dX10_copies_208 ?_
    refine PW.iconst (v := 4) C dX10_copies_211 (by decide) ?_
    refine PW.ild1n C dX10_copies_212 ?_
    refine PW.imul C dX10_copies_213 ?_
    refine PW.ild3n C dX10_copies_214 ?_
    refine PW.iadd C dX10_copies_215 ?_
    refine PW.ald0n C dX10_copies_216 ?_
    refine PW.get0 (v := .ref 43) C cf_10 fl_X10_141 (by decide) oM_0 (fvR (o := 43) rfl) dX10_copies_217 ?_
    refine PW.iconst (v := 4) C dX10_copies_220 (by decide) ?_
    refine PW.ild2n C dX10_copies_221 ?_
    refine PW.imul C dX10_copies_222 ?_
    refine PW.ild3n C dX10_copies_223 ?_
    refine PW.iadd C dX10_copies_224 ?_
    obtain ⟨hc31, hw⟩ := hw
    refine PW.iald C dX10_copies_225 aM_43 hc31 ?_
    obtain ⟨hc32, hw⟩ := hw
    replace hw := hw _ rfl
    refine PW.iast C dX10_copies_226 aM_43 hc32 ?_
    refine PW.inc3 (v := 1) C dX10_copies_227 (by decide) rfl (by decide) ?_
    refine PW.goto (tgt := 202) C dX10_copies_230 (by decide) ?_
    exact PW.wk (wk_s (wk_s (wk_s (wk_s wk_0)))) (hkb _ _ hw)
theorem l_X10_copies_202 {D : va_G} {ca : Nat → ClassId} {ad : Nat → Nat} {K : Kt} {k233 : PH → Prop} {Q : PH → Prop} {x1 : Int32} {x2 : Int32} (C : CX (GM D ca ad) (XS (GM D ca ad)) cX10_copies RX10 4 none 1 K) (hk233 : ∀ (h : PH), k233 h → PW (GM D ca ad) K 4 (qV Q) h 233 [some (.ref 0), some (.int x1), some (.int x2), none] []) : ∀ (n : Nat) (x3 : Int32) (h : PH), Lp1 (w_X10_copies_202 k233 Q x1 x2) n x3 h → PW (GM D ca ad) K 4 (qV Q) h 202 [some (.ref 0), some (.int x1), some (.int x2), some (.int x3)] [] := by
  intro n
  induction n with
  | zero => intro x3 h hw; exact hw.elim
  | succ n ih => intro x3 h hw; exact b_X10_copies_202 C hk233 (fun x3 h hw => ih x3 h hw) hw
def w_X10_copies (x1 : Int32) (x2 : Int32) (h : PH) (Q : PH → Prop) : Prop :=
  vp_in x2 22 ∧ vp_in x1 22 ∧ ∀ h3, h3 = sI h 34 (iN x1) (gI h 34 (iN x2)) → ∃ n, Lp1 (w_X10_copies_14 (fun h20 => vp_in x2 22 ∧ vp_in x1 22 ∧ ∀ h23, h23 = sI h20 40 (iN x1) (gI h20 40 (iN x2)) → ∃ n, Lp1 (w_X10_copies_154 (fun h27 => vp_in x2 22 ∧ vp_in x1 22 ∧ ∀ h30, h30 = sI h27 42 (iN x1) (gI h27 42 (iN x2)) → ∃ n, Lp1 (w_X10_copies_202 (fun h34 => vp_in x2 22 ∧ vp_in x1 22 ∧ ∀ h37, h37 = sI h34 44 (iN x1) (gI h34 44 (iN x2)) → Q h37) Q x1 x2) n 0 h30) Q x1 x2) n 0 h23) Q x1 x2) n 0 h3
set_option maxRecDepth 8000 in
theorem s_X10_copies {D : va_G} {ca : Nat → ClassId} {ad : Nat → Nat} {l : Launch} {x1 : Int32} {x2 : Int32} {h : PH} {Q : PH → Prop} (hw : w_X10_copies x1 x2 h Q) : Sp (GM D ca ad) (XS (GM D ca ad)) l 1 yX10_copies cX10_copies 4 none [.ref 0, .int x1, .int x2] h (qV Q) := by
  refine Sp.of (own := RX10) [some (.ref 0), some (.int x1), some (.int x2), none] (by decide +kernel) rfl rfl (Nat.le_of_ble_eq_true rfl) (fun K hl C => ?_)
  subst hl
  unfold w_X10_copies at hw
  refine PW.ald0n C dX10_copies_0 ?_
  refine PW.get0 (v := .ref 34) C cf_10 fl_X10_114 (by decide) oM_0 (fvR (o := 34) rfl) dX10_copies_1 ?_
  refine PW.ild1n C dX10_copies_4 ?_
  refine PW.ald0n C dX10_copies_5 ?_
  refine PW.get0 (v := .ref 34) C cf_10 fl_X10_114 (by decide) oM_0 (fvR (o := 34) rfl) dX10_copies_6 ?_
  refine PW.ild2n C dX10_copies_9 ?_
  obtain ⟨hc1, hw⟩ := hw
  refine PW.iald C dX10_copies_10 aM_34 hc1 ?_
  obtain ⟨hc2, hw⟩ := hw
  replace hw := hw _ rfl
  refine PW.iast C dX10_copies_11 aM_34 hc2 ?_
  refine PW.iconst (v := 0) C dX10_copies_12 (by decide) ?_
  refine PW.ist3n C dX10_copies_13 (by decide) rfl ?_
  obtain ⟨n, hw⟩ := hw
  refine PW.wk (wk_s (wk_s (wk_s (wk_s wk_0)))) (l_X10_copies_14 C ?_ n _ _ hw)
  · intro h20 hw
    refine PW.ald0n C dX10_copies_140 ?_
    refine PW.get0 (v := .ref 40) C cf_10 fl_X10_132 (by decide) oM_0 (fvR (o := 40) rfl) dX10_copies_141 ?_
    refine PW.ild1n C dX10_copies_144 ?_
    refine PW.ald0n C dX10_copies_145 ?_
    refine PW.get0 (v := .ref 40) C cf_10 fl_X10_132 (by decide) oM_0 (fvR (o := 40) rfl) dX10_copies_146 ?_
    refine PW.ild2n C dX10_copies_149 ?_
    obtain ⟨hc21, hw⟩ := hw
    refine PW.iald C dX10_copies_150 aM_40 hc21 ?_
    obtain ⟨hc22, hw⟩ := hw
    replace hw := hw _ rfl
    refine PW.iast C dX10_copies_151 aM_40 hc22 ?_
    refine PW.iconst (v := 0) C dX10_copies_152 (by decide) ?_
    refine PW.ist3n C dX10_copies_153 (by decide) rfl ?_
    obtain ⟨n, hw⟩ := hw
    refine PW.wk (wk_s (wk_s (wk_s (wk_s wk_0)))) (l_X10_copies_154 C ?_ n _ _ hw)
    · intro h27 hw
      refine PW.ald0n C dX10_copies_188 ?_
      refine PW.get0 (v := .ref 42) C cf_10 fl_X10_138 (by decide) oM_0 (fvR (o := 42) rfl) dX10_copies_189 ?_
      refine PW.ild1n C dX10_copies_192 ?_
      refine PW.ald0n C dX10_copies_193 ?_
      refine PW.get0 (v := .ref 42) C cf_10 fl_X10_138 (by decide) oM_0 (fvR (o := 42) rfl) dX10_copies_194 ?_
      refine PW.ild2n C dX10_copies_197 ?_
      obtain ⟨hc28, hw⟩ := hw
      refine PW.iald C dX10_copies_198 aM_42 hc28 ?_
      obtain ⟨hc29, hw⟩ := hw
      replace hw := hw _ rfl
      refine PW.iast C dX10_copies_199 aM_42 hc29 ?_
      refine PW.iconst (v := 0) C dX10_copies_200 (by decide) ?_
      refine PW.ist3n C dX10_copies_201 (by decide) rfl ?_
      obtain ⟨n, hw⟩ := hw
      refine PW.wk (wk_s (wk_s (wk_s (wk_s wk_0)))) (l_X10_copies_202 C ?_ n _ _ hw)
      · intro h34 hw
        refine PW.ald0n C dX10_copies_233 ?_
        refine PW.get0 (v := .ref 44) C cf_10 fl_X10_144 (by decide) oM_0 (fvR (o := 44) rfl) dX10_copies_234 ?_
        refine PW.ild1n C dX10_copies_237 ?_
        refine PW.ald0n C dX10_copies_238 ?_
        refine PW.get0 (v := .ref 44) C cf_10 fl_X10_144 (by decide) oM_0 (fvR (o := 44) rfl) dX10_copies_239 ?_
        refine PW.ild2n C dX10_copies_242 ?_
        obtain ⟨hc35, hw⟩ := hw
        refine PW.iald C dX10_copies_243 aM_44 hc35 ?_
        obtain ⟨hc36, hw⟩ := hw
        replace hw := hw _ rfl
        refine PW.iast C dX10_copies_244 aM_44 hc36 ?_
        exact PW.vret C dX10_copies_245 ⟨rfl, hw⟩
def w_X10_isPlace (x1 : Int32) (h : PH) (Q : Int32 → PH → Prop) : Prop :=
  if x1 < 0 then (Q 0 h) else (if (gI h 2 (iN 0)) ≤ x1 then (Q 0 h) else (Q 1 h))
set_option maxRecDepth 8000 in
theorem s_X10_isPlace {D : va_G} {ca : Nat → ClassId} {ad : Nat → Nat} {l : Launch} {x1 : Int32} {h : PH} {Q : Int32 → PH → Prop} (hw : w_X10_isPlace x1 h Q) : Sp (GM D ca ad) (XS (GM D ca ad)) l 1 yX10_isPlace cX10_isPlace 2 (some .boolean) [.ref 0, .int x1] h (qI Q) := by
  refine Sp.of (own := RX10) [some (.ref 0), some (.int x1)] (by decide +kernel) rfl rfl (Nat.le_of_ble_eq_true rfl) (fun K hl C => ?_)
  subst hl
  unfold w_X10_isPlace at hw
  refine PW.ild1n C dX10_isPlace_0 ?_
  refine PW.if_lt (tgt := 18) C dX10_isPlace_1 (by decide) (fun c => ?_) (fun c => ?_)
  · rw [if_pos c] at hw
    refine PW.iconst (v := 0) C dX10_isPlace_18 (by decide) ?_
    exact PW.zret C dX10_isPlace_19 (by decide) ⟨_, rfl, hw⟩
  · rw [if_neg c] at hw
    refine PW.ild1n C dX10_isPlace_4 ?_
    refine PW.ald0n C dX10_isPlace_5 ?_
    refine PW.get0 (v := .ref 2) C cf_10 fl_X10_13 (by decide) oM_0 (fvR (o := 2) rfl) dX10_isPlace_6 ?_
    refine PW.iconst (v := 0) C dX10_isPlace_9 (by decide) ?_
    refine PW.iald C dX10_isPlace_10 aM_2 (vpl (by decide)) ?_
    refine PW.icmp_ge (tgt := 18) C dX10_isPlace_11 (by decide) (fun c => ?_) (fun c => ?_)
    · rw [if_pos c] at hw
      refine PW.iconst (v := 0) C dX10_isPlace_18 (by decide) ?_
      exact PW.zret C dX10_isPlace_19 (by decide) ⟨_, rfl, hw⟩
    · rw [if_neg c] at hw
      refine PW.iconst (v := 1) C dX10_isPlace_14 (by decide) ?_
      refine PW.goto (tgt := 19) C dX10_isPlace_15 (by decide) ?_
      exact PW.zret C dX10_isPlace_19 (by decide) ⟨_, rfl, hw⟩
def w_X10_isOwner (x1 : Int32) (h : PH) (Q : Int32 → PH → Prop) : Prop :=
  if x1 < 0 then (Q 0 h) else (if (gI h 2 (iN 2)) ≤ x1 then (Q 0 h) else (Q 1 h))
set_option maxRecDepth 8000 in
theorem s_X10_isOwner {D : va_G} {ca : Nat → ClassId} {ad : Nat → Nat} {l : Launch} {x1 : Int32} {h : PH} {Q : Int32 → PH → Prop} (hw : w_X10_isOwner x1 h Q) : Sp (GM D ca ad) (XS (GM D ca ad)) l 1 yX10_isOwner cX10_isOwner 2 (some .boolean) [.ref 0, .int x1] h (qI Q) := by
  refine Sp.of (own := RX10) [some (.ref 0), some (.int x1)] (by decide +kernel) rfl rfl (Nat.le_of_ble_eq_true rfl) (fun K hl C => ?_)
  subst hl
  unfold w_X10_isOwner at hw
  refine PW.ild1n C dX10_isOwner_0 ?_
  refine PW.if_lt (tgt := 18) C dX10_isOwner_1 (by decide) (fun c => ?_) (fun c => ?_)
  · rw [if_pos c] at hw
    refine PW.iconst (v := 0) C dX10_isOwner_18 (by decide) ?_
    exact PW.zret C dX10_isOwner_19 (by decide) ⟨_, rfl, hw⟩
  · rw [if_neg c] at hw
    refine PW.ild1n C dX10_isOwner_4 ?_
    refine PW.ald0n C dX10_isOwner_5 ?_
    refine PW.get0 (v := .ref 2) C cf_10 fl_X10_13 (by decide) oM_0 (fvR (o := 2) rfl) dX10_isOwner_6 ?_
    refine PW.iconst (v := 2) C dX10_isOwner_9 (by decide) ?_
    refine PW.iald C dX10_isOwner_10 aM_2 (vpl (by decide)) ?_
    refine PW.icmp_ge (tgt := 18) C dX10_isOwner_11 (by decide) (fun c => ?_) (fun c => ?_)
    · rw [if_pos c] at hw
      refine PW.iconst (v := 0) C dX10_isOwner_18 (by decide) ?_
      exact PW.zret C dX10_isOwner_19 (by decide) ⟨_, rfl, hw⟩
    · rw [if_neg c] at hw
      refine PW.iconst (v := 1) C dX10_isOwner_14 (by decide) ?_
      refine PW.goto (tgt := 19) C dX10_isOwner_15 (by decide) ?_
      exact PW.zret C dX10_isOwner_19 (by decide) ⟨_, rfl, hw⟩
def w_X10_isNoise (x1 : Int32) (h : PH) (Q : Int32 → PH → Prop) : Prop :=
  if x1 < 0 then (Q 0 h) else (if (gI h 34 (iN 0)) ≤ x1 then (Q 0 h) else (Q 1 h))
set_option maxRecDepth 8000 in
theorem s_X10_isNoise {D : va_G} {ca : Nat → ClassId} {ad : Nat → Nat} {l : Launch} {x1 : Int32} {h : PH} {Q : Int32 → PH → Prop} (hw : w_X10_isNoise x1 h Q) : Sp (GM D ca ad) (XS (GM D ca ad)) l 1 yX10_isNoise cX10_isNoise 2 (some .boolean) [.ref 0, .int x1] h (qI Q) := by
  refine Sp.of (own := RX10) [some (.ref 0), some (.int x1)] (by decide +kernel) rfl rfl (Nat.le_of_ble_eq_true rfl) (fun K hl C => ?_)
  subst hl
  unfold w_X10_isNoise at hw
  refine PW.ild1n C dX10_isNoise_0 ?_
  refine PW.if_lt (tgt := 18) C dX10_isNoise_1 (by decide) (fun c => ?_) (fun c => ?_)
  · rw [if_pos c] at hw
    refine PW.iconst (v := 0) C dX10_isNoise_18 (by decide) ?_
    exact PW.zret C dX10_isNoise_19 (by decide) ⟨_, rfl, hw⟩
  · rw [if_neg c] at hw
    refine PW.ild1n C dX10_isNoise_4 ?_
    refine PW.ald0n C dX10_isNoise_5 ?_
    refine PW.get0 (v := .ref 34) C cf_10 fl_X10_114 (by decide) oM_0 (fvR (o := 34) rfl) dX10_isNoise_6 ?_
    refine PW.iconst (v := 0) C dX10_isNoise_9 (by decide) ?_
    refine PW.iald C dX10_isNoise_10 aM_34 (vpl (by decide)) ?_
    refine PW.icmp_ge (tgt := 18) C dX10_isNoise_11 (by decide) (fun c => ?_) (fun c => ?_)
    · rw [if_pos c] at hw
      refine PW.iconst (v := 0) C dX10_isNoise_18 (by decide) ?_
      exact PW.zret C dX10_isNoise_19 (by decide) ⟨_, rfl, hw⟩
    · rw [if_neg c] at hw
      refine PW.iconst (v := 1) C dX10_isNoise_14 (by decide) ?_
      refine PW.goto (tgt := 19) C dX10_isNoise_15 (by decide) ?_
      exact PW.zret C dX10_isNoise_19 (by decide) ⟨_, rfl, hw⟩
def w_X10_isMinute (x0 : Int32) (h : PH) (Q : Int32 → PH → Prop) : Prop :=
  if x0 < 0 then (Q 0 h) else (if 48 ≤ x0 then (Q 0 h) else (Q 1 h))
set_option maxRecDepth 8000 in
theorem s_X10_isMinute {D : va_G} {ca : Nat → ClassId} {ad : Nat → Nat} {l : Launch} {x0 : Int32} {h : PH} {Q : Int32 → PH → Prop} (hw : w_X10_isMinute x0 h Q) : Sp (GM D ca ad) (XS (GM D ca ad)) l 1 yX10_isMinute cX10_isMinute 1 (some .boolean) [.int x0] h (qI Q) := by
  refine Sp.of (own := RX10) [some (.int x0)] (by decide +kernel) rfl rfl (Nat.le_of_ble_eq_true rfl) (fun K hl C => ?_)
  subst hl
  unfold w_X10_isMinute at hw
  refine PW.ild0n C dX10_isMinute_0 ?_
  refine PW.if_lt (tgt := 14) C dX10_isMinute_1 (by decide) (fun c => ?_) (fun c => ?_)
  · rw [if_pos c] at hw
    refine PW.iconst (v := 0) C dX10_isMinute_14 (by decide) ?_
    exact PW.zret C dX10_isMinute_15 (by decide) ⟨_, rfl, hw⟩
  · rw [if_neg c] at hw
    refine PW.ild0n C dX10_isMinute_4 ?_
    refine PW.bipush (v := 48) C dX10_isMinute_5 (by decide) ?_
    refine PW.icmp_ge (tgt := 14) C dX10_isMinute_7 (by decide) (fun c => ?_) (fun c => ?_)
    · rw [if_pos c] at hw
      refine PW.iconst (v := 0) C dX10_isMinute_14 (by decide) ?_
      exact PW.zret C dX10_isMinute_15 (by decide) ⟨_, rfl, hw⟩
    · rw [if_neg c] at hw
      refine PW.iconst (v := 1) C dX10_isMinute_10 (by decide) ?_
      refine PW.goto (tgt := 15) C dX10_isMinute_11 (by decide) ?_
      exact PW.zret C dX10_isMinute_15 (by decide) ⟨_, rfl, hw⟩
def w_X10_isLoud (x0 : Int32) (h : PH) (Q : Int32 → PH → Prop) : Prop :=
  if x0 < 1 then (Q 0 h) else (if 20 < x0 then (Q 0 h) else (Q 1 h))
set_option maxRecDepth 8000 in
theorem s_X10_isLoud {D : va_G} {ca : Nat → ClassId} {ad : Nat → Nat} {l : Launch} {x0 : Int32} {h : PH} {Q : Int32 → PH → Prop} (hw : w_X10_isLoud x0 h Q) : Sp (GM D ca ad) (XS (GM D ca ad)) l 1 yX10_isLoud cX10_isLoud 1 (some .boolean) [.int x0] h (qI Q) := by
  refine Sp.of (own := RX10) [some (.int x0)] (by decide +kernel) rfl rfl (Nat.le_of_ble_eq_true rfl) (fun K hl C => ?_)
  subst hl
  unfold w_X10_isLoud at hw
  refine PW.ild0n C dX10_isLoud_0 ?_
  refine PW.iconst (v := 1) C dX10_isLoud_1 (by decide) ?_
  refine PW.icmp_lt (tgt := 15) C dX10_isLoud_2 (by decide) (fun c => ?_) (fun c => ?_)
  · rw [if_pos c] at hw
    refine PW.iconst (v := 0) C dX10_isLoud_15 (by decide) ?_
    exact PW.zret C dX10_isLoud_16 (by decide) ⟨_, rfl, hw⟩
  · rw [if_neg c] at hw
    refine PW.ild0n C dX10_isLoud_5 ?_
    refine PW.bipush (v := 20) C dX10_isLoud_6 (by decide) ?_
    refine PW.icmp_gt (tgt := 15) C dX10_isLoud_8 (by decide) (fun c => ?_) (fun c => ?_)
    · rw [if_pos c] at hw
      refine PW.iconst (v := 0) C dX10_isLoud_15 (by decide) ?_
      exact PW.zret C dX10_isLoud_16 (by decide) ⟨_, rfl, hw⟩
    · rw [if_neg c] at hw
      refine PW.iconst (v := 1) C dX10_isLoud_11 (by decide) ?_
      refine PW.goto (tgt := 16) C dX10_isLoud_12 (by decide) ?_
      exact PW.zret C dX10_isLoud_16 (by decide) ⟨_, rfl, hw⟩
def w_X10_layNoises_12 (k104 : PH → Prop) (Q : PH → Prop) (kb : Int32 → PH → Prop) (x1 : Int32) (h : PH) : Prop :=
  if (gI h 0 62) ≤ x1 then (k104 h) else (vp_in x1 264 ∧ vp_in x1 16 ∧ ∀ h4, h4 = sI h 45 (iN x1) (gI h 35 (iN x1)) → vp_in x1 264 ∧ vp_in x1 16 ∧ ∀ h7, h7 = sI h4 46 (iN x1) (gI h4 36 (iN x1)) → vp_in x1 264 ∧ vp_in x1 16 ∧ ∀ h10, h10 = sI h7 47 (iN x1) (gI h7 37 (iN x1)) → vp_in x1 264 ∧ vp_in x1 16 ∧ ∀ h13, h13 = sI h10 48 (iN x1) (gI h10 38 (iN x1)) → if ((((gI h13 40 (iN 0)) : Int32) >>> ((x1 : Int32) &&& 31)) &&& 1) = 1 then (vp_in x1 16 ∧ ∀ h18, h18 = sI h13 49 (iN x1) 0 → kb (x1 + 1) h18) else (vp_in x1 264 ∧ vp_in x1 16 ∧ ∀ h16, h16 = sI h13 49 (iN x1) (gI h13 39 (iN x1)) → kb (x1 + 1) h16))
set_option maxRecDepth 8000 in
theorem b_X10_layNoises_12 {D : va_G} {ca : Nat → ClassId} {ad : Nat → Nat} {K : Kt} {k104 : PH → Prop} {kb : Int32 → PH → Prop} {Q : PH → Prop} {x1 : Int32} {h : PH} (C : CX (GM D ca ad) (XS (GM D ca ad)) cX10_layNoises RX10 2 none 1 K) (hk104 : ∀ (h : PH), k104 h → PW (GM D ca ad) K 2 (qV Q) h 104 [none, none] []) (hkb : ∀ (x1 : Int32) (h : PH), kb x1 h → PW (GM D ca ad) K 2 (qV Q) h 12 [some (.ref 0), some (.int x1)] []) (hw : w_X10_layNoises_12 k104 Q kb x1 h) : PW (GM D ca ad) K 2 (qV Q) h 12 [some (.ref 0), some (.int x1)] [] := by
  unfold w_X10_layNoises_12 at hw
  refine PW.ild1n C dX10_layNoises_12 ?_
  refine PW.ald0n C dX10_layNoises_13 ?_
  refine PW.get0 C cf_10 fl_X10_470 (by decide) oM_0 (fvI rfl) dX10_layNoises_14 ?_
  refine PW.icmp_ge (tgt := 104) C dX10_layNoises_17 (by decide) (fun c => ?_) (fun c => ?_)
  · rw [if_pos c] at hw
    exact PW.wk (wk_n (wk_n wk_0)) (hk104 _ hw)
  · rw [if_neg c] at hw
    refine PW.ald0n C dX10_layNoises_20 ?_
    refine PW.get0 (v := .ref 45) C cf_10 fl_X10_147 (by decide) oM_0 (fvR (o := 45) rfl) dX10_layNoises_21 ?_
    refine PW.ild1n C dX10_layNoises_24 ?_
    refine PW.ald0n C dX10_layNoises_25 ?_
    refine PW.get0 (v := .ref 35) C cf_10 fl_X10_117 (by decide) oM_0 (fvR (o := 35) rfl) dX10_layNoises_26 ?_
    refine PW.ild1n C dX10_layNoises_29 ?_
    obtain ⟨hc2, hw⟩ := hw
    refine PW.iald C dX10_layNoises_30 aM_35 hc2 ?_
    obtain ⟨hc3, hw⟩ := hw
    replace hw := hw _ rfl
    refine PW.iast C dX10_layNoises_31 aM_45 hc3 ?_
    refine PW.ald0n C dX10_layNoises_32 ?_
    refine PW.get0 (v := .ref 46) C cf_10 fl_X10_150 (by decide) oM_0 (fvR (o := 46) rfl) dX10_layNoises_33 ?_
    refine PW.ild1n C dX10_layNoises_36 ?_
    refine PW.ald0n C dX10_layNoises_37 ?_
    refine PW.get0 (v := .ref 36) C cf_10 fl_X10_120 (by decide) oM_0 (fvR (o := 36) rfl) dX10_layNoises_38 ?_
    refine PW.ild1n C dX10_layNoises_41 ?_
    obtain ⟨hc5, hw⟩ := hw
    refine PW.iald C dX10_layNoises_42 aM_36 hc5 ?_
    obtain ⟨hc6, hw⟩ := hw
    replace hw := hw _ rfl
    refine PW.iast C dX10_layNoises_43 aM_46 hc6 ?_
    refine PW.ald0n C dX10_layNoises_44 ?_
    refine PW.get0 (v := .ref 47) C cf_10 fl_X10_153 (by decide) oM_0 (fvR (o := 47) rfl) dX10_layNoises_45 ?_
    refine PW.ild1n C dX10_layNoises_48 ?_
    refine PW.ald0n C dX10_layNoises_49 ?_
    refine PW.get0 (v := .ref 37) C cf_10 fl_X10_123 (by decide) oM_0 (fvR (o := 37) rfl) dX10_layNoises_50 ?_
    refine PW.ild1n C dX10_layNoises_53 ?_
    obtain ⟨hc8, hw⟩ := hw
    refine PW.iald C dX10_layNoises_54 aM_37 hc8 ?_
    obtain ⟨hc9, hw⟩ := hw
    replace hw := hw _ rfl
    refine PW.iast C dX10_layNoises_55 aM_47 hc9 ?_
    refine PW.ald0n C dX10_layNoises_56 ?_
    refine PW.get0 (v := .ref 48) C cf_10 fl_X10_156 (by decide) oM_0 (fvR (o := 48) rfl) dX10_layNoises_57 ?_
    refine PW.ild1n C dX10_layNoises_60 ?_
    refine PW.ald0n C dX10_layNoises_61 ?_
    refine PW.get0 (v := .ref 38) C cf_10 fl_X10_126 (by decide) oM_0 (fvR (o := 38) rfl) dX10_layNoises_62 ?_
    refine PW.ild1n C dX10_layNoises_65 ?_
    obtain ⟨hc11, hw⟩ := hw
    refine PW.iald C dX10_layNoises_66 aM_38 hc11 ?_
    obtain ⟨hc12, hw⟩ := hw
    replace hw := hw _ rfl
    refine PW.iast C dX10_layNoises_67 aM_48 hc12 ?_
    refine PW.ald0n C dX10_layNoises_68 ?_
    refine PW.get0 (v := .ref 49) C cf_10 fl_X10_159 (by decide) oM_0 (fvR (o := 49) rfl) dX10_layNoises_69 ?_
    refine PW.ild1n C dX10_layNoises_72 ?_
    refine PW.ald0n C dX10_layNoises_73 ?_
    refine PW.get0 (v := .ref 40) C cf_10 fl_X10_132 (by decide) oM_0 (fvR (o := 40) rfl) dX10_layNoises_74 ?_
    refine PW.iconst (v := 0) C dX10_layNoises_77 (by decide) ?_
    refine PW.iald C dX10_layNoises_78 aM_40 (vpl (by decide)) ?_
    refine PW.ild1n C dX10_layNoises_79 ?_
    refine PW.ishr C dX10_layNoises_80 ?_
    refine PW.iconst (v := 1) C dX10_layNoises_81 (by decide) ?_
    refine PW.iand C dX10_layNoises_82 ?_
    refine PW.iconst (v := 1) C dX10_layNoises_83 (by decide) ?_
    refine PW.icmp_ne (tgt := 91) C dX10_layNoises_84 (by decide) (fun c => ?_) (fun c => ?_)
    · rw [if_neg c] at hw
      refine PW.ald0n C dX10_layNoises_91 ?_
      refine PW.get0 (v := .ref 39) C cf_10 fl_X10_129 (by decide) oM_0 (fvR (o := 39) rfl) dX10_layNoises_92 ?_
      refine PW.ild1n C dX10_layNoises_95 ?_
      obtain ⟨hc14, hw⟩ := hw
      refine PW.iald C dX10_layNoises_96 aM_39 hc14 ?_
      obtain ⟨hc15, hw⟩ := hw
      replace hw := hw _ rfl
      refine PW.iast C dX10_layNoises_97 aM_49 hc15 ?_
      refine PW.inc1 (v := 1) C dX10_layNoises_98 (by decide) rfl (by decide) ?_
      refine PW.goto (tgt := 12) C dX10_layNoises_101 (by decide) ?_
      exact PW.wk (wk_s (wk_s wk_0)) (hkb _ _ hw)
    · rw [if_pos c] at hw
      refine PW.iconst (v := 0) C dX10_layNoises_87 (by decide) ?_
      refine PW.goto (tgt := 97) C dX10_layNoises_88 (by decide) ?_
      obtain ⟨hc17, hw⟩ := hw
      replace hw := hw _ rfl
      refine PW.iast C dX10_layNoises_97 aM_49 hc17 ?_
      refine PW.inc1 (v := 1) C dX10_layNoises_98 (by decide) rfl (by decide) ?_
      refine PW.goto (tgt := 12) C dX10_layNoises_101 (by decide) ?_
      exact PW.wk (wk_s (wk_s wk_0)) (hkb _ _ hw)
theorem l_X10_layNoises_12 {D : va_G} {ca : Nat → ClassId} {ad : Nat → Nat} {K : Kt} {k104 : PH → Prop} {Q : PH → Prop} (C : CX (GM D ca ad) (XS (GM D ca ad)) cX10_layNoises RX10 2 none 1 K) (hk104 : ∀ (h : PH), k104 h → PW (GM D ca ad) K 2 (qV Q) h 104 [none, none] []) : ∀ (n : Nat) (x1 : Int32) (h : PH), Lp1 (w_X10_layNoises_12 k104 Q) n x1 h → PW (GM D ca ad) K 2 (qV Q) h 12 [some (.ref 0), some (.int x1)] [] := by
  intro n
  induction n with
  | zero => intro x1 h hw; exact hw.elim
  | succ n ih => intro x1 h hw; exact b_X10_layNoises_12 C hk104 (fun x1 h hw => ih x1 h hw) hw
def w_X10_layNoises (h : PH) (Q : PH → Prop) : Prop :=
  ∀ h1, h1 = sI h 0 62 (gI h 34 (iN 0)) → ∃ n, Lp1 (w_X10_layNoises_12 (fun h19 => Q h19) Q) n 0 h1
set_option maxRecDepth 8000 in
theorem s_X10_layNoises {D : va_G} {ca : Nat → ClassId} {ad : Nat → Nat} {l : Launch} {h : PH} {Q : PH → Prop} (hw : w_X10_layNoises h Q) : Sp (GM D ca ad) (XS (GM D ca ad)) l 1 yX10_layNoises cX10_layNoises 2 none [.ref 0] h (qV Q) := by
  refine Sp.of (own := RX10) [some (.ref 0), none] (by decide +kernel) rfl rfl (Nat.le_of_ble_eq_true rfl) (fun K hl C => ?_)
  subst hl
  unfold w_X10_layNoises at hw
  refine PW.ald0n C dX10_layNoises_0 ?_
  refine PW.ald0n C dX10_layNoises_1 ?_
  refine PW.get0 (v := .ref 34) C cf_10 fl_X10_114 (by decide) oM_0 (fvR (o := 34) rfl) dX10_layNoises_2 ?_
  refine PW.iconst (v := 0) C dX10_layNoises_5 (by decide) ?_
  refine PW.iald C dX10_layNoises_6 aM_34 (vpl (by decide)) ?_
  replace hw := hw _ rfl
  refine PW.put0 C cf_10 fl_X10_470 (by decide) oM_0 rfl rfl rfl (pw_sI oM_0 (by decide) rfl) dX10_layNoises_7 ?_
  refine PW.iconst (v := 0) C dX10_layNoises_10 (by decide) ?_
  refine PW.ist1n C dX10_layNoises_11 (by decide) rfl ?_
  obtain ⟨n, hw⟩ := hw
  refine PW.wk (wk_s (wk_s wk_0)) (l_X10_layNoises_12 C ?_ n _ _ hw)
  · intro h19 hw
    exact PW.vret C dX10_layNoises_104 ⟨rfl, hw⟩
def w_X10_adds (x1 : Int32) (x2 : Int32) (x3 : Int32) (x4 : Int32) (x5 : Int32) (h : PH) (Q : PH → Prop) : Prop :=
  vp_in (gI h 0 62) 16 ∧ ∀ h2, h2 = sI h 45 (iN (gI h 0 62)) x1 → vp_in (gI h2 0 62) 16 ∧ ∀ h4, h4 = sI h2 46 (iN (gI h2 0 62)) x2 → vp_in (gI h4 0 62) 16 ∧ ∀ h6, h6 = sI h4 47 (iN (gI h4 0 62)) x3 → vp_in (gI h6 0 62) 16 ∧ ∀ h8, h8 = sI h6 48 (iN (gI h6 0 62)) x4 → vp_in (gI h8 0 62) 16 ∧ ∀ h10, h10 = sI h8 49 (iN (gI h8 0 62)) x5 → ∀ h11, h11 = sI h10 0 62 ((gI h10 0 62) + 1) → Q h11
set_option maxRecDepth 8000 in
theorem s_X10_adds {D : va_G} {ca : Nat → ClassId} {ad : Nat → Nat} {l : Launch} {x1 : Int32} {x2 : Int32} {x3 : Int32} {x4 : Int32} {x5 : Int32} {h : PH} {Q : PH → Prop} (hw : w_X10_adds x1 x2 x3 x4 x5 h Q) : Sp (GM D ca ad) (XS (GM D ca ad)) l 1 yX10_adds cX10_adds 6 none [.ref 0, .int x1, .int x2, .int x3, .int x4, .int x5] h (qV Q) := by
  refine Sp.of (own := RX10) [some (.ref 0), some (.int x1), some (.int x2), some (.int x3), some (.int x4), some (.int x5)] (by decide +kernel) rfl rfl (Nat.le_of_ble_eq_true rfl) (fun K hl C => ?_)
  subst hl
  unfold w_X10_adds at hw
  refine PW.ald0n C dX10_adds_0 ?_
  refine PW.get0 (v := .ref 45) C cf_10 fl_X10_147 (by decide) oM_0 (fvR (o := 45) rfl) dX10_adds_1 ?_
  refine PW.ald0n C dX10_adds_4 ?_
  refine PW.get0 C cf_10 fl_X10_470 (by decide) oM_0 (fvI rfl) dX10_adds_5 ?_
  refine PW.ild1n C dX10_adds_8 ?_
  obtain ⟨hc1, hw⟩ := hw
  replace hw := hw _ rfl
  refine PW.iast C dX10_adds_9 aM_45 hc1 ?_
  refine PW.ald0n C dX10_adds_10 ?_
  refine PW.get0 (v := .ref 46) C cf_10 fl_X10_150 (by decide) oM_0 (fvR (o := 46) rfl) dX10_adds_11 ?_
  refine PW.ald0n C dX10_adds_14 ?_
  refine PW.get0 C cf_10 fl_X10_470 (by decide) oM_0 (fvI rfl) dX10_adds_15 ?_
  refine PW.ild2n C dX10_adds_18 ?_
  obtain ⟨hc3, hw⟩ := hw
  replace hw := hw _ rfl
  refine PW.iast C dX10_adds_19 aM_46 hc3 ?_
  refine PW.ald0n C dX10_adds_20 ?_
  refine PW.get0 (v := .ref 47) C cf_10 fl_X10_153 (by decide) oM_0 (fvR (o := 47) rfl) dX10_adds_21 ?_
  refine PW.ald0n C dX10_adds_24 ?_
  refine PW.get0 C cf_10 fl_X10_470 (by decide) oM_0 (fvI rfl) dX10_adds_25 ?_
  refine PW.ild3n C dX10_adds_28 ?_
  obtain ⟨hc5, hw⟩ := hw
  replace hw := hw _ rfl
  refine PW.iast C dX10_adds_29 aM_47 hc5 ?_
  refine PW.ald0n C dX10_adds_30 ?_
  refine PW.get0 (v := .ref 48) C cf_10 fl_X10_156 (by decide) oM_0 (fvR (o := 48) rfl) dX10_adds_31 ?_
  refine PW.ald0n C dX10_adds_34 ?_
  refine PW.get0 C cf_10 fl_X10_470 (by decide) oM_0 (fvI rfl) dX10_adds_35 ?_
  refine PW.ild4 C dX10_adds_38 ?_
  obtain ⟨hc7, hw⟩ := hw
  replace hw := hw _ rfl
  refine PW.iast C dX10_adds_40 aM_48 hc7 ?_
  refine PW.ald0n C dX10_adds_41 ?_
  refine PW.get0 (v := .ref 49) C cf_10 fl_X10_159 (by decide) oM_0 (fvR (o := 49) rfl) dX10_adds_42 ?_
  refine PW.ald0n C dX10_adds_45 ?_
  refine PW.get0 C cf_10 fl_X10_470 (by decide) oM_0 (fvI rfl) dX10_adds_46 ?_
  refine PW.ild5 C dX10_adds_49 ?_
  obtain ⟨hc9, hw⟩ := hw
  replace hw := hw _ rfl
  refine PW.iast C dX10_adds_51 aM_49 hc9 ?_
  refine PW.ald0n C dX10_adds_52 ?_
  refine PW.dup C dX10_adds_53 rfl ?_
  refine PW.get0 C cf_10 fl_X10_470 (by decide) oM_0 (fvI rfl) dX10_adds_54 ?_
  refine PW.iconst (v := 1) C dX10_adds_57 (by decide) ?_
  refine PW.iadd C dX10_adds_58 ?_
  replace hw := hw _ rfl
  refine PW.put0 C cf_10 fl_X10_470 (by decide) oM_0 rfl rfl rfl (pw_sI oM_0 (by decide) rfl) dX10_adds_59 ?_
  exact PW.vret C dX10_adds_62 ⟨rfl, hw⟩
def w_X10_layFar_2 (k34 : PH → Prop) (Q : PH → Prop) (x1 : Int32) (x2 : Int32) (kb : Int32 → PH → Prop) (x3 : Int32) (h : PH) : Prop :=
  if 36 ≤ x3 then (k34 h) else (if (x3 - x3 / 7 * 7) = 0 then (vp_in x3 36 ∧ ∀ h4, h4 = sI h 50 (iN x3) 0 → kb (x3 + 1) h4) else (vp_in x3 36 ∧ ∀ h2, h2 = sI h 50 (iN x3) 100000 → kb (x3 + 1) h2))
set_option maxRecDepth 8000 in
theorem b_X10_layFar_2 {D : va_G} {ca : Nat → ClassId} {ad : Nat → Nat} {K : Kt} {k34 : PH → Prop} {kb : Int32 → PH → Prop} {Q : PH → Prop} {x1 : Int32} {x2 : Int32} {x3 : Int32} {h : PH} (C : CX (GM D ca ad) (XS (GM D ca ad)) cX10_layFar RX10 7 none 1 K) (hk34 : ∀ (h : PH), k34 h → PW (GM D ca ad) K 7 (qV Q) h 34 [some (.ref 0), some (.int x1), some (.int x2), none, none, none, none] []) (hkb : ∀ (x3 : Int32) (h : PH), kb x3 h → PW (GM D ca ad) K 7 (qV Q) h 2 [some (.ref 0), some (.int x1), some (.int x2), some (.int x3), none, none, none] []) (hw : w_X10_layFar_2 k34 Q x1 x2 kb x3 h) : PW (GM D ca ad) K 7 (qV Q) h 2 [some (.ref 0), some (.int x1), some (.int x2), some (.int x3), none, none, none] [] := by
  unfold w_X10_layFar_2 at hw
  refine PW.ild3n C dX10_layFar_2 ?_
  refine PW.bipush (v := 36) C dX10_layFar_3 (by decide) ?_
  refine PW.icmp_ge (tgt := 34) C dX10_layFar_5 (by decide) (fun c => ?_) (fun c => ?_)
  · rw [if_pos c] at hw
    exact PW.wk (wk_s (wk_s (wk_s (wk_n (wk_n (wk_n (wk_n wk_0))))))) (hk34 _ hw)
  · rw [if_neg c] at hw
    refine PW.ald0n C dX10_layFar_8 ?_
    refine PW.get0 (v := .ref 50) C cf_10 fl_X10_162 (by decide) oM_0 (fvR (o := 50) rfl) dX10_layFar_9 ?_
    refine PW.ild3n C dX10_layFar_12 ?_
    refine PW.ild3n C dX10_layFar_13 ?_
    refine PW.bipush (v := 7) C dX10_layFar_14 (by decide) ?_
    refine PW.irem C dX10_layFar_16 (by decide) ?_
    refine PW.if_ne (tgt := 24) C dX10_layFar_17 (by decide) (fun c => ?_) (fun c => ?_)
    · rw [if_neg c] at hw
      refine PW.ldcw (v := 100000) C cs_X10_473 dX10_layFar_24 ?_
      obtain ⟨hc1, hw⟩ := hw
      replace hw := hw _ rfl
      refine PW.iast C dX10_layFar_27 aM_50 hc1 ?_
      refine PW.inc3 (v := 1) C dX10_layFar_28 (by decide) rfl (by decide) ?_
      refine PW.goto (tgt := 2) C dX10_layFar_31 (by decide) ?_
      exact PW.wk (wk_s (wk_s (wk_s (wk_s (wk_n (wk_n (wk_n wk_0))))))) (hkb _ _ hw)
    · rw [if_pos c] at hw
      refine PW.iconst (v := 0) C dX10_layFar_20 (by decide) ?_
      refine PW.goto (tgt := 27) C dX10_layFar_21 (by decide) ?_
      obtain ⟨hc3, hw⟩ := hw
      replace hw := hw _ rfl
      refine PW.iast C dX10_layFar_27 aM_50 hc3 ?_
      refine PW.inc3 (v := 1) C dX10_layFar_28 (by decide) rfl (by decide) ?_
      refine PW.goto (tgt := 2) C dX10_layFar_31 (by decide) ?_
      exact PW.wk (wk_s (wk_s (wk_s (wk_s (wk_n (wk_n (wk_n wk_0))))))) (hkb _ _ hw)
theorem l_X10_layFar_2 {D : va_G} {ca : Nat → ClassId} {ad : Nat → Nat} {K : Kt} {k34 : PH → Prop} {Q : PH → Prop} {x1 : Int32} {x2 : Int32} (C : CX (GM D ca ad) (XS (GM D ca ad)) cX10_layFar RX10 7 none 1 K) (hk34 : ∀ (h : PH), k34 h → PW (GM D ca ad) K 7 (qV Q) h 34 [some (.ref 0), some (.int x1), some (.int x2), none, none, none, none] []) : ∀ (n : Nat) (x3 : Int32) (h : PH), Lp1 (w_X10_layFar_2 k34 Q x1 x2) n x3 h → PW (GM D ca ad) K 7 (qV Q) h 2 [some (.ref 0), some (.int x1), some (.int x2), some (.int x3), none, none, none] [] := by
  intro n
  induction n with
  | zero => intro x3 h hw; exact hw.elim
  | succ n ih => intro x3 h hw; exact b_X10_layFar_2 C hk34 (fun x3 h hw => ih x3 h hw) hw
def w_X10_layFar_80 (Q : PH → Prop) (kb : Int32 → PH → Prop) (x1 : Int32) (x2 : Int32) (x3 : Int32) (s0 : Int32) (s1 : Int32) (h : PH) : Prop :=
  ∀ (y7 : Int32), y7 = (s0 + s1) → vp_in x3 18 ∧ vp_in x3 18 ∧ ∀ (y10 : Int32), y10 = ((6 * (gI h 4 (iN x3))) + (gI h 5 (iN x3))) → vp_in x3 18 ∧ vp_in x3 18 ∧ ∀ (y13 : Int32), y13 = ((6 * (gI h 5 (iN x3))) + (gI h 4 (iN x3))) → vp_in y10 36 ∧ vp_in y10 36 ∧ ∀ h16, h16 = sI h 50 (iN y10) (mnI (gI h 50 (iN y10)) y7) → vp_in y13 36 ∧ vp_in y13 36 ∧ ∀ h19, h19 = sI h16 50 (iN y13) (mnI (gI h16 50 (iN y13)) y7) → kb (x3 + 1) h19
set_option maxRecDepth 8000 in
theorem b_X10_layFar_80 {D : va_G} {ca : Nat → ClassId} {ad : Nat → Nat} {K : Kt} {kb : Int32 → PH → Prop} {Q : PH → Prop} {x1 : Int32} {x2 : Int32} {x3 : Int32} {s0 : Int32} {s1 : Int32} {h : PH} (C : CX (GM D ca ad) (XS (GM D ca ad)) cX10_layFar RX10 7 none 1 K) (hkb : ∀ (x3 : Int32) (h : PH), kb x3 h → PW (GM D ca ad) K 7 (qV Q) h 36 [some (.ref 0), some (.int x1), some (.int x2), some (.int x3), none, none, none] []) (hw : w_X10_layFar_80 Q kb x1 x2 x3 s0 s1 h) : PW (GM D ca ad) K 7 (qV Q) h 80 [some (.ref 0), some (.int x1), some (.int x2), some (.int x3), none, none, none] [.int s1, .int s0] := by
  unfold w_X10_layFar_80 at hw
  refine PW.iadd C dX10_layFar_80 ?_
  replace hw := hw _ rfl
  refine PW.ist4 C dX10_layFar_81 (by decide) rfl ?_
  refine PW.bipush (v := 6) C dX10_layFar_83 (by decide) ?_
  refine PW.ald0n C dX10_layFar_85 ?_
  refine PW.get0 (v := .ref 4) C cf_10 fl_X10_19 (by decide) oM_0 (fvR (o := 4) rfl) dX10_layFar_86 ?_
  refine PW.ild3n C dX10_layFar_89 ?_
  obtain ⟨hc8, hw⟩ := hw
  refine PW.iald C dX10_layFar_90 aM_4 hc8 ?_
  refine PW.imul C dX10_layFar_91 ?_
  refine PW.ald0n C dX10_layFar_92 ?_
  refine PW.get0 (v := .ref 5) C cf_10 fl_X10_22 (by decide) oM_0 (fvR (o := 5) rfl) dX10_layFar_93 ?_
  refine PW.ild3n C dX10_layFar_96 ?_
  obtain ⟨hc9, hw⟩ := hw
  refine PW.iald C dX10_layFar_97 aM_5 hc9 ?_
  refine PW.iadd C dX10_layFar_98 ?_
  replace hw := hw _ rfl
  refine PW.ist5 C dX10_layFar_99 (by decide) rfl ?_
  refine PW.bipush (v := 6) C dX10_layFar_101 (by decide) ?_
  refine PW.ald0n C dX10_layFar_103 ?_
  refine PW.get0 (v := .ref 5) C cf_10 fl_X10_22 (by decide) oM_0 (fvR (o := 5) rfl) dX10_layFar_104 ?_
  refine PW.ild3n C dX10_layFar_107 ?_
  obtain ⟨hc11, hw⟩ := hw
  refine PW.iald C dX10_layFar_108 aM_5 hc11 ?_
  refine PW.imul C dX10_layFar_109 ?_
  refine PW.ald0n C dX10_layFar_110 ?_
  refine PW.get0 (v := .ref 4) C cf_10 fl_X10_19 (by decide) oM_0 (fvR (o := 4) rfl) dX10_layFar_111 ?_
  refine PW.ild3n C dX10_layFar_114 ?_
  obtain ⟨hc12, hw⟩ := hw
  refine PW.iald C dX10_layFar_115 aM_4 hc12 ?_
  refine PW.iadd C dX10_layFar_116 ?_
  replace hw := hw _ rfl
  refine PW.ist6 C dX10_layFar_117 (by decide) rfl ?_
  refine PW.ald0n C dX10_layFar_119 ?_
  refine PW.get0 (v := .ref 50) C cf_10 fl_X10_162 (by decide) oM_0 (fvR (o := 50) rfl) dX10_layFar_120 ?_
  refine PW.ild5 C dX10_layFar_123 ?_
  refine PW.ald0n C dX10_layFar_125 ?_
  refine PW.get0 (v := .ref 50) C cf_10 fl_X10_162 (by decide) oM_0 (fvR (o := 50) rfl) dX10_layFar_126 ?_
  refine PW.ild5 C dX10_layFar_129 ?_
  obtain ⟨hc14, hw⟩ := hw
  refine PW.iald C dX10_layFar_131 aM_50 hc14 ?_
  refine PW.ild4 C dX10_layFar_132 ?_
  refine PW.mnI C ml_X10_474 (Nat.le_of_ble_eq_true rfl) (by decide) dX10_layFar_134 ?_
  obtain ⟨hc15, hw⟩ := hw
  replace hw := hw _ rfl
  refine PW.iast C dX10_layFar_137 aM_50 hc15 ?_
  refine PW.ald0n C dX10_layFar_138 ?_
  refine PW.get0 (v := .ref 50) C cf_10 fl_X10_162 (by decide) oM_0 (fvR (o := 50) rfl) dX10_layFar_139 ?_
  refine PW.ild6 C dX10_layFar_142 ?_
  refine PW.ald0n C dX10_layFar_144 ?_
  refine PW.get0 (v := .ref 50) C cf_10 fl_X10_162 (by decide) oM_0 (fvR (o := 50) rfl) dX10_layFar_145 ?_
  refine PW.ild6 C dX10_layFar_148 ?_
  obtain ⟨hc17, hw⟩ := hw
  refine PW.iald C dX10_layFar_150 aM_50 hc17 ?_
  refine PW.ild4 C dX10_layFar_151 ?_
  refine PW.mnI C ml_X10_474 (Nat.le_of_ble_eq_true rfl) (by decide) dX10_layFar_153 ?_
  obtain ⟨hc18, hw⟩ := hw
  replace hw := hw _ rfl
  refine PW.iast C dX10_layFar_156 aM_50 hc18 ?_
  refine PW.inc3 (v := 1) C dX10_layFar_157 (by decide) rfl (by decide) ?_
  refine PW.goto (tgt := 36) C dX10_layFar_160 (by decide) ?_
  exact PW.wk (wk_s (wk_s (wk_s (wk_s (wk_n (wk_n (wk_n wk_0))))))) (hkb _ _ hw)
def w_X10_layFar_36 (k163 : PH → Prop) (Q : PH → Prop) (x1 : Int32) (x2 : Int32) (kb : Int32 → PH → Prop) (x3 : Int32) (h : PH) : Prop :=
  if (gI h 2 (iN 1)) ≤ x3 then (k163 h) else (if x3 = x2 then (kb (x3 + 1) h) else (vp_in x3 18 ∧ if (((x1 : Int32) >>> ((x3 : Int32) &&& 31)) &&& 1) = 1 then (w_X10_layFar_80 Q kb x1 x2 x3 (gI h 6 (iN x3)) (gI h 2 (iN 7)) h) else (w_X10_layFar_80 Q kb x1 x2 x3 (gI h 6 (iN x3)) 0 h)))
set_option maxRecDepth 8000 in
theorem b_X10_layFar_36 {D : va_G} {ca : Nat → ClassId} {ad : Nat → Nat} {K : Kt} {k163 : PH → Prop} {kb : Int32 → PH → Prop} {Q : PH → Prop} {x1 : Int32} {x2 : Int32} {x3 : Int32} {h : PH} (C : CX (GM D ca ad) (XS (GM D ca ad)) cX10_layFar RX10 7 none 1 K) (hk163 : ∀ (h : PH), k163 h → PW (GM D ca ad) K 7 (qV Q) h 163 [some (.ref 0), none, none, none, none, none, none] []) (hkb : ∀ (x3 : Int32) (h : PH), kb x3 h → PW (GM D ca ad) K 7 (qV Q) h 36 [some (.ref 0), some (.int x1), some (.int x2), some (.int x3), none, none, none] []) (hw : w_X10_layFar_36 k163 Q x1 x2 kb x3 h) : PW (GM D ca ad) K 7 (qV Q) h 36 [some (.ref 0), some (.int x1), some (.int x2), some (.int x3), none, none, none] [] := by
  unfold w_X10_layFar_36 at hw
  refine PW.ild3n C dX10_layFar_36 ?_
  refine PW.ald0n C dX10_layFar_37 ?_
  refine PW.get0 (v := .ref 2) C cf_10 fl_X10_13 (by decide) oM_0 (fvR (o := 2) rfl) dX10_layFar_38 ?_
  refine PW.iconst (v := 1) C dX10_layFar_41 (by decide) ?_
  refine PW.iald C dX10_layFar_42 aM_2 (vpl (by decide)) ?_
  refine PW.icmp_ge (tgt := 163) C dX10_layFar_43 (by decide) (fun c => ?_) (fun c => ?_)
  · rw [if_pos c] at hw
    exact PW.wk (wk_s (wk_n (wk_n (wk_n (wk_n (wk_n (wk_n wk_0))))))) (hk163 _ hw)
  · rw [if_neg c] at hw
    refine PW.ild3n C dX10_layFar_46 ?_
    refine PW.ild2n C dX10_layFar_47 ?_
    refine PW.icmp_ne (tgt := 54) C dX10_layFar_48 (by decide) (fun c => ?_) (fun c => ?_)
    · rw [if_neg c] at hw
      refine PW.ald0n C dX10_layFar_54 ?_
      refine PW.get0 (v := .ref 6) C cf_10 fl_X10_25 (by decide) oM_0 (fvR (o := 6) rfl) dX10_layFar_55 ?_
      refine PW.ild3n C dX10_layFar_58 ?_
      obtain ⟨hc6, hw⟩ := hw
      refine PW.iald C dX10_layFar_59 aM_6 hc6 ?_
      refine PW.ild1n C dX10_layFar_60 ?_
      refine PW.ild3n C dX10_layFar_61 ?_
      refine PW.ishr C dX10_layFar_62 ?_
      refine PW.iconst (v := 1) C dX10_layFar_63 (by decide) ?_
      refine PW.iand C dX10_layFar_64 ?_
      refine PW.iconst (v := 1) C dX10_layFar_65 (by decide) ?_
      refine PW.icmp_ne (tgt := 79) C dX10_layFar_66 (by decide) (fun c => ?_) (fun c => ?_)
      · rw [if_neg c] at hw
        refine PW.iconst (v := 0) C dX10_layFar_79 (by decide) ?_
        exact PW.wk (wk_s (wk_s (wk_s (wk_s (wk_n (wk_n (wk_n wk_0))))))) (b_X10_layFar_80 C hkb hw)
      · rw [if_pos c] at hw
        refine PW.ald0n C dX10_layFar_69 ?_
        refine PW.get0 (v := .ref 2) C cf_10 fl_X10_13 (by decide) oM_0 (fvR (o := 2) rfl) dX10_layFar_70 ?_
        refine PW.bipush (v := 7) C dX10_layFar_73 (by decide) ?_
        refine PW.iald C dX10_layFar_75 aM_2 (vpl (by decide)) ?_
        refine PW.goto (tgt := 80) C dX10_layFar_76 (by decide) ?_
        exact PW.wk (wk_s (wk_s (wk_s (wk_s (wk_n (wk_n (wk_n wk_0))))))) (b_X10_layFar_80 C hkb hw)
    · rw [if_pos c] at hw
      refine PW.goto (tgt := 157) C dX10_layFar_51 (by decide) ?_
      refine PW.inc3 (v := 1) C dX10_layFar_157 (by decide) rfl (by decide) ?_
      refine PW.goto (tgt := 36) C dX10_layFar_160 (by decide) ?_
      exact PW.wk (wk_s (wk_s (wk_s (wk_s (wk_n (wk_n (wk_n wk_0))))))) (hkb _ _ hw)
theorem l_X10_layFar_36 {D : va_G} {ca : Nat → ClassId} {ad : Nat → Nat} {K : Kt} {k163 : PH → Prop} {Q : PH → Prop} {x1 : Int32} {x2 : Int32} (C : CX (GM D ca ad) (XS (GM D ca ad)) cX10_layFar RX10 7 none 1 K) (hk163 : ∀ (h : PH), k163 h → PW (GM D ca ad) K 7 (qV Q) h 163 [some (.ref 0), none, none, none, none, none, none] []) : ∀ (n : Nat) (x3 : Int32) (h : PH), Lp1 (w_X10_layFar_36 k163 Q x1 x2) n x3 h → PW (GM D ca ad) K 7 (qV Q) h 36 [some (.ref 0), some (.int x1), some (.int x2), some (.int x3), none, none, none] [] := by
  intro n
  induction n with
  | zero => intro x3 h hw; exact hw.elim
  | succ n ih => intro x3 h hw; exact b_X10_layFar_36 C hk163 (fun x3 h hw => ih x3 h hw) hw
def w_X10_layFar_184 (k251 : PH → Prop) (Q : PH → Prop) (x3 : Int32) (x4 : Int32) (kb : Int32 → PH → Prop) (x5 : Int32) (h : PH) : Prop :=
  if 6 ≤ x5 then (k251 h) else (vp_in ((6 * x4) + x5) 36 ∧ vp_in ((6 * x4) + x3) 36 ∧ vp_in ((6 * x3) + x5) 36 ∧ vp_in ((6 * x4) + x5) 36 ∧ ∀ h25, h25 = sI h 50 (iN ((6 * x4) + x5)) (mnI (gI h 50 (iN ((6 * x4) + x5))) ((gI h 50 (iN ((6 * x4) + x3))) + (gI h 50 (iN ((6 * x3) + x5))))) → kb (x5 + 1) h25)
set_option maxRecDepth 8000 in
theorem b_X10_layFar_184 {D : va_G} {ca : Nat → ClassId} {ad : Nat → Nat} {K : Kt} {k251 : PH → Prop} {kb : Int32 → PH → Prop} {Q : PH → Prop} {x3 : Int32} {x4 : Int32} {x5 : Int32} {h : PH} (C : CX (GM D ca ad) (XS (GM D ca ad)) cX10_layFar RX10 7 none 1 K) (hk251 : ∀ (h : PH), k251 h → PW (GM D ca ad) K 7 (qV Q) h 251 [some (.ref 0), none, none, some (.int x3), some (.int x4), none, none] []) (hkb : ∀ (x5 : Int32) (h : PH), kb x5 h → PW (GM D ca ad) K 7 (qV Q) h 184 [some (.ref 0), none, none, some (.int x3), some (.int x4), some (.int x5), none] []) (hw : w_X10_layFar_184 k251 Q x3 x4 kb x5 h) : PW (GM D ca ad) K 7 (qV Q) h 184 [some (.ref 0), none, none, some (.int x3), some (.int x4), some (.int x5), none] [] := by
  unfold w_X10_layFar_184 at hw
  refine PW.ild5 C dX10_layFar_184 ?_
  refine PW.bipush (v := 6) C dX10_layFar_186 (by decide) ?_
  refine PW.icmp_ge (tgt := 251) C dX10_layFar_188 (by decide) (fun c => ?_) (fun c => ?_)
  · rw [if_pos c] at hw
    exact PW.wk (wk_s (wk_n (wk_n (wk_s (wk_s (wk_n (wk_n wk_0))))))) (hk251 _ hw)
  · rw [if_neg c] at hw
    refine PW.ald0n C dX10_layFar_191 ?_
    refine PW.get0 (v := .ref 50) C cf_10 fl_X10_162 (by decide) oM_0 (fvR (o := 50) rfl) dX10_layFar_192 ?_
    refine PW.bipush (v := 6) C dX10_layFar_195 (by decide) ?_
    refine PW.ild4 C dX10_layFar_197 ?_
    refine PW.imul C dX10_layFar_199 ?_
    refine PW.ild5 C dX10_layFar_200 ?_
    refine PW.iadd C dX10_layFar_202 ?_
    refine PW.ald0n C dX10_layFar_203 ?_
    refine PW.get0 (v := .ref 50) C cf_10 fl_X10_162 (by decide) oM_0 (fvR (o := 50) rfl) dX10_layFar_204 ?_
    refine PW.bipush (v := 6) C dX10_layFar_207 (by decide) ?_
    refine PW.ild4 C dX10_layFar_209 ?_
    refine PW.imul C dX10_layFar_211 ?_
    refine PW.ild5 C dX10_layFar_212 ?_
    refine PW.iadd C dX10_layFar_214 ?_
    obtain ⟨hc21, hw⟩ := hw
    refine PW.iald C dX10_layFar_215 aM_50 hc21 ?_
    refine PW.ald0n C dX10_layFar_216 ?_
    refine PW.get0 (v := .ref 50) C cf_10 fl_X10_162 (by decide) oM_0 (fvR (o := 50) rfl) dX10_layFar_217 ?_
    refine PW.bipush (v := 6) C dX10_layFar_220 (by decide) ?_
    refine PW.ild4 C dX10_layFar_222 ?_
    refine PW.imul C dX10_layFar_224 ?_
    refine PW.ild3n C dX10_layFar_225 ?_
    refine PW.iadd C dX10_layFar_226 ?_
    obtain ⟨hc22, hw⟩ := hw
    refine PW.iald C dX10_layFar_227 aM_50 hc22 ?_
    refine PW.ald0n C dX10_layFar_228 ?_
    refine PW.get0 (v := .ref 50) C cf_10 fl_X10_162 (by decide) oM_0 (fvR (o := 50) rfl) dX10_layFar_229 ?_
    refine PW.bipush (v := 6) C dX10_layFar_232 (by decide) ?_
    refine PW.ild3n C dX10_layFar_234 ?_
    refine PW.imul C dX10_layFar_235 ?_
    refine PW.ild5 C dX10_layFar_236 ?_
    refine PW.iadd C dX10_layFar_238 ?_
    obtain ⟨hc23, hw⟩ := hw
    refine PW.iald C dX10_layFar_239 aM_50 hc23 ?_
    refine PW.iadd C dX10_layFar_240 ?_
    refine PW.mnI C ml_X10_474 (Nat.le_of_ble_eq_true rfl) (by decide) dX10_layFar_241 ?_
    obtain ⟨hc24, hw⟩ := hw
    replace hw := hw _ rfl
    refine PW.iast C dX10_layFar_244 aM_50 hc24 ?_
    refine PW.inc5 (v := 1) C dX10_layFar_245 (by decide) rfl (by decide) ?_
    refine PW.goto (tgt := 184) C dX10_layFar_248 (by decide) ?_
    exact PW.wk (wk_s (wk_n (wk_n (wk_s (wk_s (wk_s (wk_n wk_0))))))) (hkb _ _ hw)
theorem l_X10_layFar_184 {D : va_G} {ca : Nat → ClassId} {ad : Nat → Nat} {K : Kt} {k251 : PH → Prop} {Q : PH → Prop} {x3 : Int32} {x4 : Int32} (C : CX (GM D ca ad) (XS (GM D ca ad)) cX10_layFar RX10 7 none 1 K) (hk251 : ∀ (h : PH), k251 h → PW (GM D ca ad) K 7 (qV Q) h 251 [some (.ref 0), none, none, some (.int x3), some (.int x4), none, none] []) : ∀ (n : Nat) (x5 : Int32) (h : PH), Lp1 (w_X10_layFar_184 k251 Q x3 x4) n x5 h → PW (GM D ca ad) K 7 (qV Q) h 184 [some (.ref 0), none, none, some (.int x3), some (.int x4), some (.int x5), none] [] := by
  intro n
  induction n with
  | zero => intro x5 h hw; exact hw.elim
  | succ n ih => intro x5 h hw; exact b_X10_layFar_184 C hk251 (fun x5 h hw => ih x5 h hw) hw
def w_X10_layFar_174 (k257 : PH → Prop) (Q : PH → Prop) (x3 : Int32) (kb : Int32 → PH → Prop) (x4 : Int32) (h : PH) : Prop :=
  if 6 ≤ x4 then (k257 h) else (∃ n, Lp1 (w_X10_layFar_184 (fun h26 => kb (x4 + 1) h26) Q x3 x4) n 0 h)
set_option maxRecDepth 8000 in
theorem b_X10_layFar_174 {D : va_G} {ca : Nat → ClassId} {ad : Nat → Nat} {K : Kt} {k257 : PH → Prop} {kb : Int32 → PH → Prop} {Q : PH → Prop} {x3 : Int32} {x4 : Int32} {h : PH} (C : CX (GM D ca ad) (XS (GM D ca ad)) cX10_layFar RX10 7 none 1 K) (hk257 : ∀ (h : PH), k257 h → PW (GM D ca ad) K 7 (qV Q) h 257 [some (.ref 0), none, none, some (.int x3), none, none, none] []) (hkb : ∀ (x4 : Int32) (h : PH), kb x4 h → PW (GM D ca ad) K 7 (qV Q) h 174 [some (.ref 0), none, none, some (.int x3), some (.int x4), none, none] []) (hw : w_X10_layFar_174 k257 Q x3 kb x4 h) : PW (GM D ca ad) K 7 (qV Q) h 174 [some (.ref 0), none, none, some (.int x3), some (.int x4), none, none] [] := by
  unfold w_X10_layFar_174 at hw
  refine PW.ild4 C dX10_layFar_174 ?_
  refine PW.bipush (v := 6) C dX10_layFar_176 (by decide) ?_
  refine PW.icmp_ge (tgt := 257) C dX10_layFar_178 (by decide) (fun c => ?_) (fun c => ?_)
  · rw [if_pos c] at hw
    exact PW.wk (wk_s (wk_n (wk_n (wk_s (wk_n (wk_n (wk_n wk_0))))))) (hk257 _ hw)
  · rw [if_neg c] at hw
    refine PW.iconst (v := 0) C dX10_layFar_181 (by decide) ?_
    refine PW.ist5 C dX10_layFar_182 (by decide) rfl ?_
    obtain ⟨n, hw⟩ := hw
    refine PW.wk (wk_s (wk_n (wk_n (wk_s (wk_s (wk_s (wk_n wk_0))))))) (l_X10_layFar_184 C ?_ n _ _ hw)
    · intro h26 hw
      refine PW.inc4 (v := 1) C dX10_layFar_251 (by decide) rfl (by decide) ?_
      refine PW.goto (tgt := 174) C dX10_layFar_254 (by decide) ?_
      exact PW.wk (wk_s (wk_n (wk_n (wk_s (wk_s (wk_n (wk_n wk_0))))))) (hkb _ _ hw)
theorem l_X10_layFar_174 {D : va_G} {ca : Nat → ClassId} {ad : Nat → Nat} {K : Kt} {k257 : PH → Prop} {Q : PH → Prop} {x3 : Int32} (C : CX (GM D ca ad) (XS (GM D ca ad)) cX10_layFar RX10 7 none 1 K) (hk257 : ∀ (h : PH), k257 h → PW (GM D ca ad) K 7 (qV Q) h 257 [some (.ref 0), none, none, some (.int x3), none, none, none] []) : ∀ (n : Nat) (x4 : Int32) (h : PH), Lp1 (w_X10_layFar_174 k257 Q x3) n x4 h → PW (GM D ca ad) K 7 (qV Q) h 174 [some (.ref 0), none, none, some (.int x3), some (.int x4), none, none] [] := by
  intro n
  induction n with
  | zero => intro x4 h hw; exact hw.elim
  | succ n ih => intro x4 h hw; exact b_X10_layFar_174 C hk257 (fun x4 h hw => ih x4 h hw) hw
def w_X10_layFar_165 (k263 : PH → Prop) (Q : PH → Prop) (kb : Int32 → PH → Prop) (x3 : Int32) (h : PH) : Prop :=
  if 6 ≤ x3 then (k263 h) else (∃ n, Lp1 (w_X10_layFar_174 (fun h27 => kb (x3 + 1) h27) Q x3) n 0 h)
set_option maxRecDepth 8000 in
theorem b_X10_layFar_165 {D : va_G} {ca : Nat → ClassId} {ad : Nat → Nat} {K : Kt} {k263 : PH → Prop} {kb : Int32 → PH → Prop} {Q : PH → Prop} {x3 : Int32} {h : PH} (C : CX (GM D ca ad) (XS (GM D ca ad)) cX10_layFar RX10 7 none 1 K) (hk263 : ∀ (h : PH), k263 h → PW (GM D ca ad) K 7 (qV Q) h 263 [none, none, none, none, none, none, none] []) (hkb : ∀ (x3 : Int32) (h : PH), kb x3 h → PW (GM D ca ad) K 7 (qV Q) h 165 [some (.ref 0), none, none, some (.int x3), none, none, none] []) (hw : w_X10_layFar_165 k263 Q kb x3 h) : PW (GM D ca ad) K 7 (qV Q) h 165 [some (.ref 0), none, none, some (.int x3), none, none, none] [] := by
  unfold w_X10_layFar_165 at hw
  refine PW.ild3n C dX10_layFar_165 ?_
  refine PW.bipush (v := 6) C dX10_layFar_166 (by decide) ?_
  refine PW.icmp_ge (tgt := 263) C dX10_layFar_168 (by decide) (fun c => ?_) (fun c => ?_)
  · rw [if_pos c] at hw
    exact PW.wk (wk_n (wk_n (wk_n (wk_n (wk_n (wk_n (wk_n wk_0))))))) (hk263 _ hw)
  · rw [if_neg c] at hw
    refine PW.iconst (v := 0) C dX10_layFar_171 (by decide) ?_
    refine PW.ist4 C dX10_layFar_172 (by decide) rfl ?_
    obtain ⟨n, hw⟩ := hw
    refine PW.wk (wk_s (wk_n (wk_n (wk_s (wk_s (wk_n (wk_n wk_0))))))) (l_X10_layFar_174 C ?_ n _ _ hw)
    · intro h27 hw
      refine PW.inc3 (v := 1) C dX10_layFar_257 (by decide) rfl (by decide) ?_
      refine PW.goto (tgt := 165) C dX10_layFar_260 (by decide) ?_
      exact PW.wk (wk_s (wk_n (wk_n (wk_s (wk_n (wk_n (wk_n wk_0))))))) (hkb _ _ hw)
theorem l_X10_layFar_165 {D : va_G} {ca : Nat → ClassId} {ad : Nat → Nat} {K : Kt} {k263 : PH → Prop} {Q : PH → Prop} (C : CX (GM D ca ad) (XS (GM D ca ad)) cX10_layFar RX10 7 none 1 K) (hk263 : ∀ (h : PH), k263 h → PW (GM D ca ad) K 7 (qV Q) h 263 [none, none, none, none, none, none, none] []) : ∀ (n : Nat) (x3 : Int32) (h : PH), Lp1 (w_X10_layFar_165 k263 Q) n x3 h → PW (GM D ca ad) K 7 (qV Q) h 165 [some (.ref 0), none, none, some (.int x3), none, none, none] [] := by
  intro n
  induction n with
  | zero => intro x3 h hw; exact hw.elim
  | succ n ih => intro x3 h hw; exact b_X10_layFar_165 C hk263 (fun x3 h hw => ih x3 h hw) hw
def w_X10_layFar (x1 : Int32) (x2 : Int32) (h : PH) (Q : PH → Prop) : Prop :=
  ∃ n, Lp1 (w_X10_layFar_2 (fun h5 => ∃ n, Lp1 (w_X10_layFar_36 (fun h20 => ∃ n, Lp1 (w_X10_layFar_165 (fun h28 => Q h28) Q) n 0 h20) Q x1 x2) n 0 h5) Q x1 x2) n 0 h
set_option maxRecDepth 8000 in
theorem s_X10_layFar {D : va_G} {ca : Nat → ClassId} {ad : Nat → Nat} {l : Launch} {x1 : Int32} {x2 : Int32} {h : PH} {Q : PH → Prop} (hw : w_X10_layFar x1 x2 h Q) : Sp (GM D ca ad) (XS (GM D ca ad)) l 1 yX10_layFar cX10_layFar 7 none [.ref 0, .int x1, .int x2] h (qV Q) := by
  refine Sp.of (own := RX10) [some (.ref 0), some (.int x1), some (.int x2), none, none, none, none] (by decide +kernel) rfl rfl (Nat.le_of_ble_eq_true rfl) (fun K hl C => ?_)
  subst hl
  unfold w_X10_layFar at hw
  refine PW.iconst (v := 0) C dX10_layFar_0 (by decide) ?_
  refine PW.ist3n C dX10_layFar_1 (by decide) rfl ?_
  obtain ⟨n, hw⟩ := hw
  refine PW.wk (wk_s (wk_s (wk_s (wk_s (wk_n (wk_n (wk_n wk_0))))))) (l_X10_layFar_2 C ?_ n _ _ hw)
  · intro h5 hw
    refine PW.iconst (v := 0) C dX10_layFar_34 (by decide) ?_
    refine PW.ist3n C dX10_layFar_35 (by decide) rfl ?_
    obtain ⟨n, hw⟩ := hw
    refine PW.wk (wk_s (wk_s (wk_s (wk_s (wk_n (wk_n (wk_n wk_0))))))) (l_X10_layFar_36 C ?_ n _ _ hw)
    · intro h20 hw
      refine PW.iconst (v := 0) C dX10_layFar_163 (by decide) ?_
      refine PW.ist3n C dX10_layFar_164 (by decide) rfl ?_
      obtain ⟨n, hw⟩ := hw
      refine PW.wk (wk_s (wk_n (wk_n (wk_s (wk_n (wk_n (wk_n wk_0))))))) (l_X10_layFar_165 C ?_ n _ _ hw)
      · intro h28 hw
        exact PW.vret C dX10_layFar_263 ⟨rfl, hw⟩
def w_X10_carries_72 (Q : Int32 → PH → Prop) (x2 : Int32) (x5 : Int32) (h : PH) : Prop :=
  if (x2 - x5) < 1 then (Q 0 h) else (Q 1 h)
set_option maxRecDepth 8000 in
theorem b_X10_carries_72 {D : va_G} {ca : Nat → ClassId} {ad : Nat → Nat} {K : Kt} {Q : Int32 → PH → Prop} {x2 : Int32} {x5 : Int32} {h : PH} (C : CX (GM D ca ad) (XS (GM D ca ad)) cX10_carries RX10 6 (some .boolean) 4 K) (hw : w_X10_carries_72 Q x2 x5 h) : PW (GM D ca ad) K 6 (qI Q) h 72 [none, none, some (.int x2), none, none, some (.int x5)] [] := by
  unfold w_X10_carries_72 at hw
  refine PW.ild2n C dX10_carries_72 ?_
  refine PW.ild5 C dX10_carries_73 ?_
  refine PW.isub C dX10_carries_75 ?_
  refine PW.iconst (v := 1) C dX10_carries_76 (by decide) ?_
  refine PW.icmp_lt (tgt := 84) C dX10_carries_77 (by decide) (fun c => ?_) (fun c => ?_)
  · rw [if_pos c] at hw
    refine PW.iconst (v := 0) C dX10_carries_84 (by decide) ?_
    exact PW.zret C dX10_carries_85 (by decide) ⟨_, rfl, hw⟩
  · rw [if_neg c] at hw
    refine PW.iconst (v := 1) C dX10_carries_80 (by decide) ?_
    refine PW.goto (tgt := 85) C dX10_carries_81 (by decide) ?_
    exact PW.zret C dX10_carries_85 (by decide) ⟨_, rfl, hw⟩
def w_X10_carries (x1 : Int32) (x2 : Int32) (x3 : Int32) (x4 : Int32) (h : PH) (Q : Int32 → PH → Prop) : Prop :=
  vp_in ((6 * x1) + x3) 36 ∧ ∀ (y2 : Int32), y2 = (gI h 50 (iN ((6 * x1) + x3))) → if 100000 ≤ y2 then (Q 0 h) else (if 1 ≤ x2 then (w_X10_callsFade x2 y2 x4 h (fun h3 => w_X10_hasLaw 0 h3 (fun z5 h4 => if z5 = 0 then (w_X10_carries_72 Q x2 y2 h4) else (w_X10_goes 0 h4 (fun z7 h6 => if z7 = 0 then (w_X10_carries_72 Q x2 y2 h6) else (if (lg_cmp (gJ h6 33 (iN 0)) 1) < 0 then (Q 0 h6) else (Q 1 h6))))))) else (Q 0 h))
set_option maxRecDepth 8000 in
theorem s_X10_carries {D : va_G} {ca : Nat → ClassId} {ad : Nat → Nat} {l : Launch} {x1 : Int32} {x2 : Int32} {x3 : Int32} {x4 : Int32} {h : PH} {Q : Int32 → PH → Prop} (hw : w_X10_carries x1 x2 x3 x4 h Q) : Sp (GM D ca ad) (XS (GM D ca ad)) l 4 yX10_carries cX10_carries 6 (some .boolean) [.ref 0, .int x1, .int x2, .int x3, .int x4] h (qI Q) := by
  refine Sp.of (own := RX10) [some (.ref 0), some (.int x1), some (.int x2), some (.int x3), some (.int x4), none] (by decide +kernel) rfl rfl (Nat.le_of_ble_eq_true rfl) (fun K hl C => ?_)
  subst hl
  unfold w_X10_carries at hw
  refine PW.ald0n C dX10_carries_0 ?_
  refine PW.get0 (v := .ref 50) C cf_10 fl_X10_162 (by decide) oM_0 (fvR (o := 50) rfl) dX10_carries_1 ?_
  refine PW.bipush (v := 6) C dX10_carries_4 (by decide) ?_
  refine PW.ild1n C dX10_carries_6 ?_
  refine PW.imul C dX10_carries_7 ?_
  refine PW.ild3n C dX10_carries_8 ?_
  refine PW.iadd C dX10_carries_9 ?_
  obtain ⟨hc1, hw⟩ := hw
  refine PW.iald C dX10_carries_10 aM_50 hc1 ?_
  replace hw := hw _ rfl
  refine PW.ist5 C dX10_carries_11 (by decide) rfl ?_
  refine PW.ild5 C dX10_carries_13 ?_
  refine PW.ldcw (v := 100000) C cs_X10_473 dX10_carries_15 ?_
  refine PW.icmp_ge (tgt := 26) C dX10_carries_18 (by decide) (fun c => ?_) (fun c => ?_)
  · rw [if_pos c] at hw
    refine PW.iconst (v := 0) C dX10_carries_26 (by decide) ?_
    exact PW.zret C dX10_carries_27 (by decide) ⟨_, rfl, hw⟩
  · rw [if_neg c] at hw
    refine PW.ild2n C dX10_carries_21 ?_
    refine PW.iconst (v := 1) C dX10_carries_22 (by decide) ?_
    refine PW.icmp_ge (tgt := 28) C dX10_carries_23 (by decide) (fun c => ?_) (fun c => ?_)
    · rw [if_pos c] at hw
      refine PW.ald0n C dX10_carries_28 ?_
      refine PW.ild2n C dX10_carries_29 ?_
      refine PW.ild5 C dX10_carries_30 ?_
      refine PW.ild4 C dX10_carries_32 ?_
      refine PW.callVV3 C ms_X10_callsFade ml_X10_462 dX10_carries_34 oM_0 ⟨_, _, rfl⟩ (Nat.le_of_ble_eq_true rfl) (by decide) (Nat.le_of_ble_eq_true rfl) (s_X10_callsFade hw) ?_
      clear hw
      intro h3 hw
      refine PW.ald0n C dX10_carries_37 ?_
      refine PW.iconst (v := 0) C dX10_carries_38 (by decide) ?_
      refine PW.callVI1 C ms_X10_hasLaw ml_X10_440 dX10_carries_39 oM_0 ⟨_, _, rfl⟩ (Nat.le_of_ble_eq_true rfl) (by decide) (Nat.le_of_ble_eq_true rfl) (s_X10_hasLaw hw) ?_
      clear hw
      intro z5 h4 hw
      refine PW.if_eq (tgt := 72) C dX10_carries_42 (by decide) (fun c => ?_) (fun c => ?_)
      · rw [if_pos c] at hw
        exact PW.wk (wk_n (wk_n (wk_s (wk_n (wk_n (wk_s wk_0)))))) (b_X10_carries_72 C hw)
      · rw [if_neg c] at hw
        refine PW.ald0n C dX10_carries_45 ?_
        refine PW.iconst (v := 0) C dX10_carries_46 (by decide) ?_
        refine PW.callVI1 C ms_X10_goes ml_X10_443 dX10_carries_47 oM_0 ⟨_, _, rfl⟩ (Nat.le_of_ble_eq_true rfl) (by decide) (Nat.le_of_ble_eq_true rfl) (s_X10_goes hw) ?_
        clear hw
        intro z7 h6 hw
        refine PW.if_eq (tgt := 72) C dX10_carries_50 (by decide) (fun c => ?_) (fun c => ?_)
        · rw [if_pos c] at hw
          exact PW.wk (wk_n (wk_n (wk_s (wk_n (wk_n (wk_s wk_0)))))) (b_X10_carries_72 C hw)
        · rw [if_neg c] at hw
          refine PW.ald0n C dX10_carries_53 ?_
          refine PW.get0 (v := .ref 33) C cf_10 fl_X10_111 (by decide) oM_0 (fvR (o := 33) rfl) dX10_carries_54 ?_
          refine PW.iconst (v := 0) C dX10_carries_57 (by decide) ?_
          refine PW.lald C dX10_carries_58 aM_33 (vpl (by decide)) ?_
          refine PW.lconst (v := 1) C dX10_carries_59 (by decide) ?_
          refine PW.lcmp C dX10_carries_60 ?_
          refine PW.if_lt (tgt := 68) C dX10_carries_61 (by decide) (fun c => ?_) (fun c => ?_)
          · rw [if_pos c] at hw
            refine PW.iconst (v := 0) C dX10_carries_68 (by decide) ?_
            refine PW.goto (tgt := 85) C dX10_carries_69 (by decide) ?_
            exact PW.zret C dX10_carries_85 (by decide) ⟨_, rfl, hw⟩
          · rw [if_neg c] at hw
            refine PW.iconst (v := 1) C dX10_carries_64 (by decide) ?_
            refine PW.goto (tgt := 85) C dX10_carries_65 (by decide) ?_
            exact PW.zret C dX10_carries_85 (by decide) ⟨_, rfl, hw⟩
    · rw [if_neg c] at hw
      refine PW.iconst (v := 0) C dX10_carries_26 (by decide) ?_
      exact PW.zret C dX10_carries_27 (by decide) ⟨_, rfl, hw⟩
def w_X10_hears (x1 : Int32) (x2 : Int32) (x3 : Int32) (h : PH) (Q : Int32 → PH → Prop) : Prop :=
  vp_in x1 16 ∧ if x3 < (gI h 47 (iN x1)) then (Q 0 h) else (vp_in x1 16 ∧ if (gI h 48 (iN x1)) < x3 then (Q 0 h) else (vp_in x1 16 ∧ vp_in x1 16 ∧ w_X10_carries (gI h 45 (iN x1)) (gI h 49 (iN x1)) x2 x3 h (fun z6 h5 => if z6 = 0 then (Q 0 h5) else (Q 1 h5))))
set_option maxRecDepth 8000 in
theorem s_X10_hears {D : va_G} {ca : Nat → ClassId} {ad : Nat → Nat} {l : Launch} {x1 : Int32} {x2 : Int32} {x3 : Int32} {h : PH} {Q : Int32 → PH → Prop} (hw : w_X10_hears x1 x2 x3 h Q) : Sp (GM D ca ad) (XS (GM D ca ad)) l 5 yX10_hears cX10_hears 4 (some .boolean) [.ref 0, .int x1, .int x2, .int x3] h (qI Q) := by
  refine Sp.of (own := RX10) [some (.ref 0), some (.int x1), some (.int x2), some (.int x3)] (by decide +kernel) rfl rfl (Nat.le_of_ble_eq_true rfl) (fun K hl C => ?_)
  subst hl
  unfold w_X10_hears at hw
  refine PW.ild3n C dX10_hears_0 ?_
  refine PW.ald0n C dX10_hears_1 ?_
  refine PW.get0 (v := .ref 47) C cf_10 fl_X10_153 (by decide) oM_0 (fvR (o := 47) rfl) dX10_hears_2 ?_
  refine PW.ild1n C dX10_hears_5 ?_
  obtain ⟨hc1, hw⟩ := hw
  refine PW.iald C dX10_hears_6 aM_47 hc1 ?_
  refine PW.icmp_lt (tgt := 45) C dX10_hears_7 (by decide) (fun c => ?_) (fun c => ?_)
  · rw [if_pos c] at hw
    refine PW.iconst (v := 0) C dX10_hears_45 (by decide) ?_
    exact PW.zret C dX10_hears_46 (by decide) ⟨_, rfl, hw⟩
  · rw [if_neg c] at hw
    refine PW.ild3n C dX10_hears_10 ?_
    refine PW.ald0n C dX10_hears_11 ?_
    refine PW.get0 (v := .ref 48) C cf_10 fl_X10_156 (by decide) oM_0 (fvR (o := 48) rfl) dX10_hears_12 ?_
    refine PW.ild1n C dX10_hears_15 ?_
    obtain ⟨hc2, hw⟩ := hw
    refine PW.iald C dX10_hears_16 aM_48 hc2 ?_
    refine PW.icmp_gt (tgt := 45) C dX10_hears_17 (by decide) (fun c => ?_) (fun c => ?_)
    · rw [if_pos c] at hw
      refine PW.iconst (v := 0) C dX10_hears_45 (by decide) ?_
      exact PW.zret C dX10_hears_46 (by decide) ⟨_, rfl, hw⟩
    · rw [if_neg c] at hw
      refine PW.ald0n C dX10_hears_20 ?_
      refine PW.ald0n C dX10_hears_21 ?_
      refine PW.get0 (v := .ref 45) C cf_10 fl_X10_147 (by decide) oM_0 (fvR (o := 45) rfl) dX10_hears_22 ?_
      refine PW.ild1n C dX10_hears_25 ?_
      obtain ⟨hc3, hw⟩ := hw
      refine PW.iald C dX10_hears_26 aM_45 hc3 ?_
      refine PW.ald0n C dX10_hears_27 ?_
      refine PW.get0 (v := .ref 49) C cf_10 fl_X10_159 (by decide) oM_0 (fvR (o := 49) rfl) dX10_hears_28 ?_
      refine PW.ild1n C dX10_hears_31 ?_
      obtain ⟨hc4, hw⟩ := hw
      refine PW.iald C dX10_hears_32 aM_49 hc4 ?_
      refine PW.ild2n C dX10_hears_33 ?_
      refine PW.ild3n C dX10_hears_34 ?_
      refine PW.callVI4 C ms_X10_carries ml_X10_476 dX10_hears_35 oM_0 ⟨_, _, rfl⟩ (Nat.le_of_ble_eq_true rfl) (by decide) (Nat.le_of_ble_eq_true rfl) (s_X10_carries hw) ?_
      clear hw
      intro z6 h5 hw
      refine PW.if_eq (tgt := 45) C dX10_hears_38 (by decide) (fun c => ?_) (fun c => ?_)
      · rw [if_pos c] at hw
        refine PW.iconst (v := 0) C dX10_hears_45 (by decide) ?_
        exact PW.zret C dX10_hears_46 (by decide) ⟨_, rfl, hw⟩
      · rw [if_neg c] at hw
        refine PW.iconst (v := 1) C dX10_hears_41 (by decide) ?_
        refine PW.goto (tgt := 46) C dX10_hears_42 (by decide) ?_
        exact PW.zret C dX10_hears_46 (by decide) ⟨_, rfl, hw⟩
def w_X10_layFirst_22 (k46 : Int32 → PH → Prop) (Q : PH → Prop) (x1 : Int32) (x2 : Int32) (kb : Int32 → PH → Prop) (x3 : Int32) (h : PH) : Prop :=
  if (gI h 0 62) ≤ x3 then (k46 x3 h) else (w_X10_hears x3 x1 x2 h (fun z2 h1 => if z2 = 0 then (kb (x3 + 1) h1) else (k46 x3 h1)))
set_option maxRecDepth 8000 in
theorem b_X10_layFirst_22 {D : va_G} {ca : Nat → ClassId} {ad : Nat → Nat} {K : Kt} {k46 : Int32 → PH → Prop} {kb : Int32 → PH → Prop} {Q : PH → Prop} {x1 : Int32} {x2 : Int32} {x3 : Int32} {h : PH} (C : CX (GM D ca ad) (XS (GM D ca ad)) cX10_layFirst RX10 4 none 6 K) (hk46 : ∀ (x3 : Int32) (h : PH), k46 x3 h → PW (GM D ca ad) K 4 (qV Q) h 46 [some (.ref 0), some (.int x1), some (.int x2), some (.int x3)] []) (hkb : ∀ (x3 : Int32) (h : PH), kb x3 h → PW (GM D ca ad) K 4 (qV Q) h 22 [some (.ref 0), some (.int x1), some (.int x2), some (.int x3)] []) (hw : w_X10_layFirst_22 k46 Q x1 x2 kb x3 h) : PW (GM D ca ad) K 4 (qV Q) h 22 [some (.ref 0), some (.int x1), some (.int x2), some (.int x3)] [] := by
  unfold w_X10_layFirst_22 at hw
  refine PW.ild3n C dX10_layFirst_22 ?_
  refine PW.ald0n C dX10_layFirst_23 ?_
  refine PW.get0 C cf_10 fl_X10_470 (by decide) oM_0 (fvI rfl) dX10_layFirst_24 ?_
  refine PW.icmp_ge (tgt := 46) C dX10_layFirst_27 (by decide) (fun c => ?_) (fun c => ?_)
  · rw [if_pos c] at hw
    exact PW.wk (wk_s (wk_s (wk_s (wk_s wk_0)))) (hk46 _ _ hw)
  · rw [if_neg c] at hw
    refine PW.ald0n C dX10_layFirst_30 ?_
    refine PW.ild3n C dX10_layFirst_31 ?_
    refine PW.ild1n C dX10_layFirst_32 ?_
    refine PW.ild2n C dX10_layFirst_33 ?_
    refine PW.callVI3 C ms_X10_hears ml_X10_480 dX10_layFirst_34 oM_0 ⟨_, _, rfl⟩ (Nat.le_of_ble_eq_true rfl) (by decide) (Nat.le_of_ble_eq_true rfl) (s_X10_hears hw) ?_
    clear hw
    intro z2 h1 hw
    refine PW.if_ne (tgt := 46) C dX10_layFirst_37 (by decide) (fun c => ?_) (fun c => ?_)
    · rw [if_neg c] at hw
      exact PW.wk (wk_s (wk_s (wk_s (wk_s wk_0)))) (hk46 _ _ hw)
    · rw [if_pos c] at hw
      refine PW.inc3 (v := 1) C dX10_layFirst_40 (by decide) rfl (by decide) ?_
      refine PW.goto (tgt := 22) C dX10_layFirst_43 (by decide) ?_
      exact PW.wk (wk_s (wk_s (wk_s (wk_s wk_0)))) (hkb _ _ hw)
theorem l_X10_layFirst_22 {D : va_G} {ca : Nat → ClassId} {ad : Nat → Nat} {K : Kt} {k46 : Int32 → PH → Prop} {Q : PH → Prop} {x1 : Int32} {x2 : Int32} (C : CX (GM D ca ad) (XS (GM D ca ad)) cX10_layFirst RX10 4 none 6 K) (hk46 : ∀ (x3 : Int32) (h : PH), k46 x3 h → PW (GM D ca ad) K 4 (qV Q) h 46 [some (.ref 0), some (.int x1), some (.int x2), some (.int x3)] []) : ∀ (n : Nat) (x3 : Int32) (h : PH), Lp1 (w_X10_layFirst_22 k46 Q x1 x2) n x3 h → PW (GM D ca ad) K 4 (qV Q) h 22 [some (.ref 0), some (.int x1), some (.int x2), some (.int x3)] [] := by
  intro n
  induction n with
  | zero => intro x3 h hw; exact hw.elim
  | succ n ih => intro x3 h hw; exact b_X10_layFirst_22 C hk46 (fun x3 h hw => ih x3 h hw) hw
def w_X10_layFirst_46 (Q : PH → Prop) (kb : Int32 → PH → Prop) (x1 : Int32) (x2 : Int32) (x3 : Int32) (h : PH) : Prop :=
  if (gI h 0 62) ≤ x3 then (vp_in ((48 * x1) + x2) 288 ∧ ∀ h6, h6 = sI h 51 (iN ((48 * x1) + x2)) (-1) → kb (x2 + 1) h6) else (vp_in ((48 * x1) + x2) 288 ∧ ∀ h8, h8 = sI h 51 (iN ((48 * x1) + x2)) x3 → kb (x2 + 1) h8)
set_option maxRecDepth 8000 in
theorem b_X10_layFirst_46 {D : va_G} {ca : Nat → ClassId} {ad : Nat → Nat} {K : Kt} {kb : Int32 → PH → Prop} {Q : PH → Prop} {x1 : Int32} {x2 : Int32} {x3 : Int32} {h : PH} (C : CX (GM D ca ad) (XS (GM D ca ad)) cX10_layFirst RX10 4 none 6 K) (hkb : ∀ (x2 : Int32) (h : PH), kb x2 h → PW (GM D ca ad) K 4 (qV Q) h 14 [some (.ref 0), some (.int x1), some (.int x2), none] []) (hw : w_X10_layFirst_46 Q kb x1 x2 x3 h) : PW (GM D ca ad) K 4 (qV Q) h 46 [some (.ref 0), some (.int x1), some (.int x2), some (.int x3)] [] := by
  unfold w_X10_layFirst_46 at hw
  refine PW.ald0n C dX10_layFirst_46 ?_
  refine PW.get0 (v := .ref 51) C cf_10 fl_X10_165 (by decide) oM_0 (fvR (o := 51) rfl) dX10_layFirst_47 ?_
  refine PW.bipush (v := 48) C dX10_layFirst_50 (by decide) ?_
  refine PW.ild1n C dX10_layFirst_52 ?_
  refine PW.imul C dX10_layFirst_53 ?_
  refine PW.ild2n C dX10_layFirst_54 ?_
  refine PW.iadd C dX10_layFirst_55 ?_
  refine PW.ild3n C dX10_layFirst_56 ?_
  refine PW.ald0n C dX10_layFirst_57 ?_
  refine PW.get0 C cf_10 fl_X10_470 (by decide) oM_0 (fvI rfl) dX10_layFirst_58 ?_
  refine PW.icmp_ge (tgt := 68) C dX10_layFirst_61 (by decide) (fun c => ?_) (fun c => ?_)
  · rw [if_pos c] at hw
    refine PW.iconst (v := (-1)) C dX10_layFirst_68 (by decide) ?_
    obtain ⟨hc5, hw⟩ := hw
    replace hw := hw _ rfl
    refine PW.iast C dX10_layFirst_69 aM_51 hc5 ?_
    refine PW.inc2 (v := 1) C dX10_layFirst_70 (by decide) rfl (by decide) ?_
    refine PW.goto (tgt := 14) C dX10_layFirst_73 (by decide) ?_
    exact PW.wk (wk_s (wk_s (wk_s (wk_n wk_0)))) (hkb _ _ hw)
  · rw [if_neg c] at hw
    refine PW.ild3n C dX10_layFirst_64 ?_
    refine PW.goto (tgt := 69) C dX10_layFirst_65 (by decide) ?_
    obtain ⟨hc7, hw⟩ := hw
    replace hw := hw _ rfl
    refine PW.iast C dX10_layFirst_69 aM_51 hc7 ?_
    refine PW.inc2 (v := 1) C dX10_layFirst_70 (by decide) rfl (by decide) ?_
    refine PW.goto (tgt := 14) C dX10_layFirst_73 (by decide) ?_
    exact PW.wk (wk_s (wk_s (wk_s (wk_n wk_0)))) (hkb _ _ hw)
def w_X10_layFirst_14 (k76 : PH → Prop) (Q : PH → Prop) (x1 : Int32) (kb : Int32 → PH → Prop) (x2 : Int32) (h : PH) : Prop :=
  if 48 ≤ x2 then (k76 h) else (∃ n, Lp1 (w_X10_layFirst_22 (fun y4 h3 => w_X10_layFirst_46 Q kb x1 x2 y4 h3) Q x1 x2) n 0 h)
set_option maxRecDepth 8000 in
theorem b_X10_layFirst_14 {D : va_G} {ca : Nat → ClassId} {ad : Nat → Nat} {K : Kt} {k76 : PH → Prop} {kb : Int32 → PH → Prop} {Q : PH → Prop} {x1 : Int32} {x2 : Int32} {h : PH} (C : CX (GM D ca ad) (XS (GM D ca ad)) cX10_layFirst RX10 4 none 6 K) (hk76 : ∀ (h : PH), k76 h → PW (GM D ca ad) K 4 (qV Q) h 76 [some (.ref 0), some (.int x1), none, none] []) (hkb : ∀ (x2 : Int32) (h : PH), kb x2 h → PW (GM D ca ad) K 4 (qV Q) h 14 [some (.ref 0), some (.int x1), some (.int x2), none] []) (hw : w_X10_layFirst_14 k76 Q x1 kb x2 h) : PW (GM D ca ad) K 4 (qV Q) h 14 [some (.ref 0), some (.int x1), some (.int x2), none] [] := by
  unfold w_X10_layFirst_14 at hw
  refine PW.ild2n C dX10_layFirst_14 ?_
  refine PW.bipush (v := 48) C dX10_layFirst_15 (by decide) ?_
  refine PW.icmp_ge (tgt := 76) C dX10_layFirst_17 (by decide) (fun c => ?_) (fun c => ?_)
  · rw [if_pos c] at hw
    exact PW.wk (wk_s (wk_s (wk_n (wk_n wk_0)))) (hk76 _ hw)
  · rw [if_neg c] at hw
    refine PW.iconst (v := 0) C dX10_layFirst_20 (by decide) ?_
    refine PW.ist3n C dX10_layFirst_21 (by decide) rfl ?_
    obtain ⟨n, hw⟩ := hw
    refine PW.wk (wk_s (wk_s (wk_s (wk_s wk_0)))) (l_X10_layFirst_22 C ?_ n _ _ hw)
    · intro y4 h3 hw
      exact PW.wk (wk_s (wk_s (wk_s (wk_s wk_0)))) (b_X10_layFirst_46 C hkb hw)
theorem l_X10_layFirst_14 {D : va_G} {ca : Nat → ClassId} {ad : Nat → Nat} {K : Kt} {k76 : PH → Prop} {Q : PH → Prop} {x1 : Int32} (C : CX (GM D ca ad) (XS (GM D ca ad)) cX10_layFirst RX10 4 none 6 K) (hk76 : ∀ (h : PH), k76 h → PW (GM D ca ad) K 4 (qV Q) h 76 [some (.ref 0), some (.int x1), none, none] []) : ∀ (n : Nat) (x2 : Int32) (h : PH), Lp1 (w_X10_layFirst_14 k76 Q x1) n x2 h → PW (GM D ca ad) K 4 (qV Q) h 14 [some (.ref 0), some (.int x1), some (.int x2), none] [] := by
  intro n
  induction n with
  | zero => intro x2 h hw; exact hw.elim
  | succ n ih => intro x2 h hw; exact b_X10_layFirst_14 C hk76 (fun x2 h hw => ih x2 h hw) hw
def w_X10_layFirst_2 (k82 : PH → Prop) (Q : PH → Prop) (kb : Int32 → PH → Prop) (x1 : Int32) (h : PH) : Prop :=
  if (gI h 2 (iN 0)) ≤ x1 then (k82 h) else (∃ n, Lp1 (w_X10_layFirst_14 (fun h9 => kb (x1 + 1) h9) Q x1) n 0 h)
set_option maxRecDepth 8000 in
theorem b_X10_layFirst_2 {D : va_G} {ca : Nat → ClassId} {ad : Nat → Nat} {K : Kt} {k82 : PH → Prop} {kb : Int32 → PH → Prop} {Q : PH → Prop} {x1 : Int32} {h : PH} (C : CX (GM D ca ad) (XS (GM D ca ad)) cX10_layFirst RX10 4 none 6 K) (hk82 : ∀ (h : PH), k82 h → PW (GM D ca ad) K 4 (qV Q) h 82 [none, none, none, none] []) (hkb : ∀ (x1 : Int32) (h : PH), kb x1 h → PW (GM D ca ad) K 4 (qV Q) h 2 [some (.ref 0), some (.int x1), none, none] []) (hw : w_X10_layFirst_2 k82 Q kb x1 h) : PW (GM D ca ad) K 4 (qV Q) h 2 [some (.ref 0), some (.int x1), none, none] [] := by
  unfold w_X10_layFirst_2 at hw
  refine PW.ild1n C dX10_layFirst_2 ?_
  refine PW.ald0n C dX10_layFirst_3 ?_
  refine PW.get0 (v := .ref 2) C cf_10 fl_X10_13 (by decide) oM_0 (fvR (o := 2) rfl) dX10_layFirst_4 ?_
  refine PW.iconst (v := 0) C dX10_layFirst_7 (by decide) ?_
  refine PW.iald C dX10_layFirst_8 aM_2 (vpl (by decide)) ?_
  refine PW.icmp_ge (tgt := 82) C dX10_layFirst_9 (by decide) (fun c => ?_) (fun c => ?_)
  · rw [if_pos c] at hw
    exact PW.wk (wk_n (wk_n (wk_n (wk_n wk_0)))) (hk82 _ hw)
  · rw [if_neg c] at hw
    refine PW.iconst (v := 0) C dX10_layFirst_12 (by decide) ?_
    refine PW.ist2n C dX10_layFirst_13 (by decide) rfl ?_
    obtain ⟨n, hw⟩ := hw
    refine PW.wk (wk_s (wk_s (wk_s (wk_n wk_0)))) (l_X10_layFirst_14 C ?_ n _ _ hw)
    · intro h9 hw
      refine PW.inc1 (v := 1) C dX10_layFirst_76 (by decide) rfl (by decide) ?_
      refine PW.goto (tgt := 2) C dX10_layFirst_79 (by decide) ?_
      exact PW.wk (wk_s (wk_s (wk_n (wk_n wk_0)))) (hkb _ _ hw)
theorem l_X10_layFirst_2 {D : va_G} {ca : Nat → ClassId} {ad : Nat → Nat} {K : Kt} {k82 : PH → Prop} {Q : PH → Prop} (C : CX (GM D ca ad) (XS (GM D ca ad)) cX10_layFirst RX10 4 none 6 K) (hk82 : ∀ (h : PH), k82 h → PW (GM D ca ad) K 4 (qV Q) h 82 [none, none, none, none] []) : ∀ (n : Nat) (x1 : Int32) (h : PH), Lp1 (w_X10_layFirst_2 k82 Q) n x1 h → PW (GM D ca ad) K 4 (qV Q) h 2 [some (.ref 0), some (.int x1), none, none] [] := by
  intro n
  induction n with
  | zero => intro x1 h hw; exact hw.elim
  | succ n ih => intro x1 h hw; exact b_X10_layFirst_2 C hk82 (fun x1 h hw => ih x1 h hw) hw
def w_X10_layFirst (h : PH) (Q : PH → Prop) : Prop :=
  ∃ n, Lp1 (w_X10_layFirst_2 (fun h10 => Q h10) Q) n 0 h
set_option maxRecDepth 8000 in
theorem s_X10_layFirst {D : va_G} {ca : Nat → ClassId} {ad : Nat → Nat} {l : Launch} {h : PH} {Q : PH → Prop} (hw : w_X10_layFirst h Q) : Sp (GM D ca ad) (XS (GM D ca ad)) l 6 yX10_layFirst cX10_layFirst 4 none [.ref 0] h (qV Q) := by
  refine Sp.of (own := RX10) [some (.ref 0), none, none, none] (by decide +kernel) rfl rfl (Nat.le_of_ble_eq_true rfl) (fun K hl C => ?_)
  subst hl
  unfold w_X10_layFirst at hw
  refine PW.iconst (v := 0) C dX10_layFirst_0 (by decide) ?_
  refine PW.ist1n C dX10_layFirst_1 (by decide) rfl ?_
  obtain ⟨n, hw⟩ := hw
  refine PW.wk (wk_s (wk_s (wk_n (wk_n wk_0)))) (l_X10_layFirst_2 C ?_ n _ _ hw)
  · intro h10 hw
    exact PW.vret C dX10_layFirst_82 ⟨rfl, hw⟩
def w_X10_silentAll_8 (k45 : Int32 → PH → Prop) (Q : Int32 → PH → Prop) (kb : Int32 → Int32 → PH → Prop) (x1 : Int32) (x2 : Int32) (h : PH) : Prop :=
  if (48 * (gI h 2 (iN 0))) ≤ x2 then (k45 x1 h) else (vp_in x2 288 ∧ if (gI h 51 (iN x2)) = (-1) then (∀ (y4 : Int32), y4 = (x1 + 1) → kb y4 (x2 + 1) h) else (∀ (y3 : Int32), y3 = (x1 + 0) → kb y3 (x2 + 1) h))
set_option maxRecDepth 8000 in
theorem b_X10_silentAll_8 {D : va_G} {ca : Nat → ClassId} {ad : Nat → Nat} {K : Kt} {k45 : Int32 → PH → Prop} {kb : Int32 → Int32 → PH → Prop} {Q : Int32 → PH → Prop} {x1 : Int32} {x2 : Int32} {h : PH} (C : CX (GM D ca ad) (XS (GM D ca ad)) cX10_silentAll RX10 3 (some .int) 7 K) (hk45 : ∀ (x1 : Int32) (h : PH), k45 x1 h → PW (GM D ca ad) K 3 (qI Q) h 45 [none, some (.int x1), none] []) (hkb : ∀ (x1 : Int32) (x2 : Int32) (h : PH), kb x1 x2 h → PW (GM D ca ad) K 3 (qI Q) h 8 [some (.ref 0), some (.int x1), some (.int x2)] []) (hw : w_X10_silentAll_8 k45 Q kb x1 x2 h) : PW (GM D ca ad) K 3 (qI Q) h 8 [some (.ref 0), some (.int x1), some (.int x2)] [] := by
  unfold w_X10_silentAll_8 at hw
  refine PW.ild2n C dX10_silentAll_8 ?_
  refine PW.bipush (v := 48) C dX10_silentAll_9 (by decide) ?_
  refine PW.ald0n C dX10_silentAll_11 ?_
  refine PW.get0 (v := .ref 2) C cf_10 fl_X10_13 (by decide) oM_0 (fvR (o := 2) rfl) dX10_silentAll_12 ?_
  refine PW.iconst (v := 0) C dX10_silentAll_15 (by decide) ?_
  refine PW.iald C dX10_silentAll_16 aM_2 (vpl (by decide)) ?_
  refine PW.imul C dX10_silentAll_17 ?_
  refine PW.icmp_ge (tgt := 45) C dX10_silentAll_18 (by decide) (fun c => ?_) (fun c => ?_)
  · rw [if_pos c] at hw
    exact PW.wk (wk_n (wk_s (wk_n wk_0))) (hk45 _ _ hw)
  · rw [if_neg c] at hw
    refine PW.ild1n C dX10_silentAll_21 ?_
    refine PW.ald0n C dX10_silentAll_22 ?_
    refine PW.get0 (v := .ref 51) C cf_10 fl_X10_165 (by decide) oM_0 (fvR (o := 51) rfl) dX10_silentAll_23 ?_
    refine PW.ild2n C dX10_silentAll_26 ?_
    obtain ⟨hc2, hw⟩ := hw
    refine PW.iald C dX10_silentAll_27 aM_51 hc2 ?_
    refine PW.iconst (v := (-1)) C dX10_silentAll_28 (by decide) ?_
    refine PW.icmp_ne (tgt := 36) C dX10_silentAll_29 (by decide) (fun c => ?_) (fun c => ?_)
    · rw [if_neg c] at hw
      refine PW.iconst (v := 0) C dX10_silentAll_36 (by decide) ?_
      refine PW.iadd C dX10_silentAll_37 ?_
      replace hw := hw _ rfl
      refine PW.ist1n C dX10_silentAll_38 (by decide) rfl ?_
      refine PW.inc2 (v := 1) C dX10_silentAll_39 (by decide) rfl (by decide) ?_
      refine PW.goto (tgt := 8) C dX10_silentAll_42 (by decide) ?_
      exact PW.wk (wk_s (wk_s (wk_s wk_0))) (hkb _ _ _ hw)
    · rw [if_pos c] at hw
      refine PW.iconst (v := 1) C dX10_silentAll_32 (by decide) ?_
      refine PW.goto (tgt := 37) C dX10_silentAll_33 (by decide) ?_
      refine PW.iadd C dX10_silentAll_37 ?_
      replace hw := hw _ rfl
      refine PW.ist1n C dX10_silentAll_38 (by decide) rfl ?_
      refine PW.inc2 (v := 1) C dX10_silentAll_39 (by decide) rfl (by decide) ?_
      refine PW.goto (tgt := 8) C dX10_silentAll_42 (by decide) ?_
      exact PW.wk (wk_s (wk_s (wk_s wk_0))) (hkb _ _ _ hw)
theorem l_X10_silentAll_8 {D : va_G} {ca : Nat → ClassId} {ad : Nat → Nat} {K : Kt} {k45 : Int32 → PH → Prop} {Q : Int32 → PH → Prop} (C : CX (GM D ca ad) (XS (GM D ca ad)) cX10_silentAll RX10 3 (some .int) 7 K) (hk45 : ∀ (x1 : Int32) (h : PH), k45 x1 h → PW (GM D ca ad) K 3 (qI Q) h 45 [none, some (.int x1), none] []) : ∀ (n : Nat) (x1 : Int32) (x2 : Int32) (h : PH), Lp2 (w_X10_silentAll_8 k45 Q) n x1 x2 h → PW (GM D ca ad) K 3 (qI Q) h 8 [some (.ref 0), some (.int x1), some (.int x2)] [] := by
  intro n
  induction n with
  | zero => intro x1 x2 h hw; exact hw.elim
  | succ n ih => intro x1 x2 h hw; exact b_X10_silentAll_8 C hk45 (fun x1 x2 h hw => ih x1 x2 h hw) hw
def w_X10_silentAll (h : PH) (Q : Int32 → PH → Prop) : Prop :=
  w_X10_layFirst h (fun h1 => ∃ n, Lp2 (w_X10_silentAll_8 (fun y6 h5 => Q y6 h5) Q) n 0 0 h1)
set_option maxRecDepth 8000 in
theorem s_X10_silentAll {D : va_G} {ca : Nat → ClassId} {ad : Nat → Nat} {l : Launch} {h : PH} {Q : Int32 → PH → Prop} (hw : w_X10_silentAll h Q) : Sp (GM D ca ad) (XS (GM D ca ad)) l 7 yX10_silentAll cX10_silentAll 3 (some .int) [.ref 0] h (qI Q) := by
  refine Sp.of (own := RX10) [some (.ref 0), none, none] (by decide +kernel) rfl rfl (Nat.le_of_ble_eq_true rfl) (fun K hl C => ?_)
  subst hl
  unfold w_X10_silentAll at hw
  refine PW.ald0n C dX10_silentAll_0 ?_
  refine PW.callVV0 C ms_X10_layFirst ml_X10_484 dX10_silentAll_1 oM_0 ⟨_, _, rfl⟩ (Nat.le_of_ble_eq_true rfl) (by decide) (Nat.le_of_ble_eq_true rfl) (s_X10_layFirst hw) ?_
  clear hw
  intro h1 hw
  refine PW.iconst (v := 0) C dX10_silentAll_4 (by decide) ?_
  refine PW.ist1n C dX10_silentAll_5 (by decide) rfl ?_
  refine PW.iconst (v := 0) C dX10_silentAll_6 (by decide) ?_
  refine PW.ist2n C dX10_silentAll_7 (by decide) rfl ?_
  obtain ⟨n, hw⟩ := hw
  refine PW.wk (wk_s (wk_s (wk_s wk_0))) (l_X10_silentAll_8 C ?_ n _ _ _ hw)
  · intro y6 h5 hw
    refine PW.ild1n C dX10_silentAll_45 ?_
    exact PW.iret C dX10_silentAll_46 ⟨_, rfl, hw⟩
def w_X10_layClaims_12 (k74 : PH → Prop) (Q : PH → Prop) (kb : Int32 → PH → Prop) (x1 : Int32) (h : PH) : Prop :=
  if (gI h 0 70) ≤ x1 then (k74 h) else (vp_in x1 176 ∧ vp_in x1 16 ∧ ∀ h4, h4 = sI h 52 (iN x1) (gI h 41 (iN x1)) → vp_in x1 16 ∧ vp_in x1 16 ∧ ∀ h7, h7 = sI h4 53 (iN x1) (gI h4 16 (iN x1)) → vp_in x1 16 ∧ vp_in x1 16 ∧ ∀ h10, h10 = sI h7 54 (iN x1) (gI h7 17 (iN x1)) → vp_in x1 16 ∧ vp_in x1 16 ∧ ∀ h13, h13 = sI h10 55 (iN x1) (gI h10 18 (iN x1)) → kb (x1 + 1) h13)
set_option maxRecDepth 8000 in
theorem b_X10_layClaims_12 {D : va_G} {ca : Nat → ClassId} {ad : Nat → Nat} {K : Kt} {k74 : PH → Prop} {kb : Int32 → PH → Prop} {Q : PH → Prop} {x1 : Int32} {h : PH} (C : CX (GM D ca ad) (XS (GM D ca ad)) cX10_layClaims RX10 2 none 1 K) (hk74 : ∀ (h : PH), k74 h → PW (GM D ca ad) K 2 (qV Q) h 74 [none, none] []) (hkb : ∀ (x1 : Int32) (h : PH), kb x1 h → PW (GM D ca ad) K 2 (qV Q) h 12 [some (.ref 0), some (.int x1)] []) (hw : w_X10_layClaims_12 k74 Q kb x1 h) : PW (GM D ca ad) K 2 (qV Q) h 12 [some (.ref 0), some (.int x1)] [] := by
  unfold w_X10_layClaims_12 at hw
  refine PW.ild1n C dX10_layClaims_12 ?_
  refine PW.ald0n C dX10_layClaims_13 ?_
  refine PW.get0 C cf_10 fl_X10_487 (by decide) oM_0 (fvI rfl) dX10_layClaims_14 ?_
  refine PW.icmp_ge (tgt := 74) C dX10_layClaims_17 (by decide) (fun c => ?_) (fun c => ?_)
  · rw [if_pos c] at hw
    exact PW.wk (wk_n (wk_n wk_0)) (hk74 _ hw)
  · rw [if_neg c] at hw
    refine PW.ald0n C dX10_layClaims_20 ?_
    refine PW.get0 (v := .ref 52) C cf_10 fl_X10_168 (by decide) oM_0 (fvR (o := 52) rfl) dX10_layClaims_21 ?_
    refine PW.ild1n C dX10_layClaims_24 ?_
    refine PW.ald0n C dX10_layClaims_25 ?_
    refine PW.get0 (v := .ref 41) C cf_10 fl_X10_135 (by decide) oM_0 (fvR (o := 41) rfl) dX10_layClaims_26 ?_
    refine PW.ild1n C dX10_layClaims_29 ?_
    obtain ⟨hc2, hw⟩ := hw
    refine PW.iald C dX10_layClaims_30 aM_41 hc2 ?_
    obtain ⟨hc3, hw⟩ := hw
    replace hw := hw _ rfl
    refine PW.iast C dX10_layClaims_31 aM_52 hc3 ?_
    refine PW.ald0n C dX10_layClaims_32 ?_
    refine PW.get0 (v := .ref 53) C cf_10 fl_X10_171 (by decide) oM_0 (fvR (o := 53) rfl) dX10_layClaims_33 ?_
    refine PW.ild1n C dX10_layClaims_36 ?_
    refine PW.ald0n C dX10_layClaims_37 ?_
    refine PW.get0 (v := .ref 16) C cf_10 fl_X10_55 (by decide) oM_0 (fvR (o := 16) rfl) dX10_layClaims_38 ?_
    refine PW.ild1n C dX10_layClaims_41 ?_
    obtain ⟨hc5, hw⟩ := hw
    refine PW.iald C dX10_layClaims_42 aM_16 hc5 ?_
    obtain ⟨hc6, hw⟩ := hw
    replace hw := hw _ rfl
    refine PW.iast C dX10_layClaims_43 aM_53 hc6 ?_
    refine PW.ald0n C dX10_layClaims_44 ?_
    refine PW.get0 (v := .ref 54) C cf_10 fl_X10_174 (by decide) oM_0 (fvR (o := 54) rfl) dX10_layClaims_45 ?_
    refine PW.ild1n C dX10_layClaims_48 ?_
    refine PW.ald0n C dX10_layClaims_49 ?_
    refine PW.get0 (v := .ref 17) C cf_10 fl_X10_58 (by decide) oM_0 (fvR (o := 17) rfl) dX10_layClaims_50 ?_
    refine PW.ild1n C dX10_layClaims_53 ?_
    obtain ⟨hc8, hw⟩ := hw
    refine PW.iald C dX10_layClaims_54 aM_17 hc8 ?_
    obtain ⟨hc9, hw⟩ := hw
    replace hw := hw _ rfl
    refine PW.iast C dX10_layClaims_55 aM_54 hc9 ?_
    refine PW.ald0n C dX10_layClaims_56 ?_
    refine PW.get0 (v := .ref 55) C cf_10 fl_X10_177 (by decide) oM_0 (fvR (o := 55) rfl) dX10_layClaims_57 ?_
    refine PW.ild1n C dX10_layClaims_60 ?_
    refine PW.ald0n C dX10_layClaims_61 ?_
    refine PW.get0 (v := .ref 18) C cf_10 fl_X10_61 (by decide) oM_0 (fvR (o := 18) rfl) dX10_layClaims_62 ?_
    refine PW.ild1n C dX10_layClaims_65 ?_
    obtain ⟨hc11, hw⟩ := hw
    refine PW.iald C dX10_layClaims_66 aM_18 hc11 ?_
    obtain ⟨hc12, hw⟩ := hw
    replace hw := hw _ rfl
    refine PW.iast C dX10_layClaims_67 aM_55 hc12 ?_
    refine PW.inc1 (v := 1) C dX10_layClaims_68 (by decide) rfl (by decide) ?_
    refine PW.goto (tgt := 12) C dX10_layClaims_71 (by decide) ?_
    exact PW.wk (wk_s (wk_s wk_0)) (hkb _ _ hw)
theorem l_X10_layClaims_12 {D : va_G} {ca : Nat → ClassId} {ad : Nat → Nat} {K : Kt} {k74 : PH → Prop} {Q : PH → Prop} (C : CX (GM D ca ad) (XS (GM D ca ad)) cX10_layClaims RX10 2 none 1 K) (hk74 : ∀ (h : PH), k74 h → PW (GM D ca ad) K 2 (qV Q) h 74 [none, none] []) : ∀ (n : Nat) (x1 : Int32) (h : PH), Lp1 (w_X10_layClaims_12 k74 Q) n x1 h → PW (GM D ca ad) K 2 (qV Q) h 12 [some (.ref 0), some (.int x1)] [] := by
  intro n
  induction n with
  | zero => intro x1 h hw; exact hw.elim
  | succ n ih => intro x1 h hw; exact b_X10_layClaims_12 C hk74 (fun x1 h hw => ih x1 h hw) hw
def w_X10_layClaims (h : PH) (Q : PH → Prop) : Prop :=
  ∀ h1, h1 = sI h 0 70 (gI h 2 (iN 4)) → ∃ n, Lp1 (w_X10_layClaims_12 (fun h14 => Q h14) Q) n 0 h1
set_option maxRecDepth 8000 in
theorem s_X10_layClaims {D : va_G} {ca : Nat → ClassId} {ad : Nat → Nat} {l : Launch} {h : PH} {Q : PH → Prop} (hw : w_X10_layClaims h Q) : Sp (GM D ca ad) (XS (GM D ca ad)) l 1 yX10_layClaims cX10_layClaims 2 none [.ref 0] h (qV Q) := by
  refine Sp.of (own := RX10) [some (.ref 0), none] (by decide +kernel) rfl rfl (Nat.le_of_ble_eq_true rfl) (fun K hl C => ?_)
  subst hl
  unfold w_X10_layClaims at hw
  refine PW.ald0n C dX10_layClaims_0 ?_
  refine PW.ald0n C dX10_layClaims_1 ?_
  refine PW.get0 (v := .ref 2) C cf_10 fl_X10_13 (by decide) oM_0 (fvR (o := 2) rfl) dX10_layClaims_2 ?_
  refine PW.iconst (v := 4) C dX10_layClaims_5 (by decide) ?_
  refine PW.iald C dX10_layClaims_6 aM_2 (vpl (by decide)) ?_
  replace hw := hw _ rfl
  refine PW.put0 C cf_10 fl_X10_487 (by decide) oM_0 rfl rfl rfl (pw_sI oM_0 (by decide) rfl) dX10_layClaims_7 ?_
  refine PW.iconst (v := 0) C dX10_layClaims_10 (by decide) ?_
  refine PW.ist1n C dX10_layClaims_11 (by decide) rfl ?_
  obtain ⟨n, hw⟩ := hw
  refine PW.wk (wk_s (wk_s wk_0)) (l_X10_layClaims_12 C ?_ n _ _ hw)
  · intro h14 hw
    exact PW.vret C dX10_layClaims_74 ⟨rfl, hw⟩
def w_X10_claimed_2 (k40 : Int32 → PH → Prop) (k53 : PH → Prop) (Q : Int32 → PH → Prop) (x1 : Int32) (x2 : Int32) (kb : Int32 → PH → Prop) (x3 : Int32) (h : PH) : Prop :=
  if (gI h 0 70) ≤ x3 then (k53 h) else (vp_in x3 16 ∧ if (gI h 53 (iN x3)) = x1 then (vp_in x3 16 ∧ if x2 < (gI h 54 (iN x3)) then (kb (x3 + 1) h) else (vp_in x3 16 ∧ if (gI h 55 (iN x3)) < x2 then (kb (x3 + 1) h) else (k40 x3 h))) else (kb (x3 + 1) h))
set_option maxRecDepth 8000 in
theorem b_X10_claimed_2 {D : va_G} {ca : Nat → ClassId} {ad : Nat → Nat} {K : Kt} {k40 : Int32 → PH → Prop} {k53 : PH → Prop} {kb : Int32 → PH → Prop} {Q : Int32 → PH → Prop} {x1 : Int32} {x2 : Int32} {x3 : Int32} {h : PH} (C : CX (GM D ca ad) (XS (GM D ca ad)) cX10_claimed RX10 4 (some .int) 1 K) (hk40 : ∀ (x3 : Int32) (h : PH), k40 x3 h → PW (GM D ca ad) K 4 (qI Q) h 40 [some (.ref 0), none, none, some (.int x3)] []) (hk53 : ∀ (h : PH), k53 h → PW (GM D ca ad) K 4 (qI Q) h 53 [none, none, none, none] []) (hkb : ∀ (x3 : Int32) (h : PH), kb x3 h → PW (GM D ca ad) K 4 (qI Q) h 2 [some (.ref 0), some (.int x1), some (.int x2), some (.int x3)] []) (hw : w_X10_claimed_2 k40 k53 Q x1 x2 kb x3 h) : PW (GM D ca ad) K 4 (qI Q) h 2 [some (.ref 0), some (.int x1), some (.int x2), some (.int x3)] [] := by
  unfold w_X10_claimed_2 at hw
  refine PW.ild3n C dX10_claimed_2 ?_
  refine PW.ald0n C dX10_claimed_3 ?_
  refine PW.get0 C cf_10 fl_X10_487 (by decide) oM_0 (fvI rfl) dX10_claimed_4 ?_
  refine PW.icmp_ge (tgt := 53) C dX10_claimed_7 (by decide) (fun c => ?_) (fun c => ?_)
  · rw [if_pos c] at hw
    exact PW.wk (wk_n (wk_n (wk_n (wk_n wk_0)))) (hk53 _ hw)
  · rw [if_neg c] at hw
    refine PW.ald0n C dX10_claimed_10 ?_
    refine PW.get0 (v := .ref 53) C cf_10 fl_X10_171 (by decide) oM_0 (fvR (o := 53) rfl) dX10_claimed_11 ?_
    refine PW.ild3n C dX10_claimed_14 ?_
    obtain ⟨hc1, hw⟩ := hw
    refine PW.iald C dX10_claimed_15 aM_53 hc1 ?_
    refine PW.ild1n C dX10_claimed_16 ?_
    refine PW.icmp_ne (tgt := 47) C dX10_claimed_17 (by decide) (fun c => ?_) (fun c => ?_)
    · rw [if_neg c] at hw
      refine PW.inc3 (v := 1) C dX10_claimed_47 (by decide) rfl (by decide) ?_
      refine PW.goto (tgt := 2) C dX10_claimed_50 (by decide) ?_
      exact PW.wk (wk_s (wk_s (wk_s (wk_s wk_0)))) (hkb _ _ hw)
    · rw [if_pos c] at hw
      refine PW.ild2n C dX10_claimed_20 ?_
      refine PW.ald0n C dX10_claimed_21 ?_
      refine PW.get0 (v := .ref 54) C cf_10 fl_X10_174 (by decide) oM_0 (fvR (o := 54) rfl) dX10_claimed_22 ?_
      refine PW.ild3n C dX10_claimed_25 ?_
      obtain ⟨hc2, hw⟩ := hw
      refine PW.iald C dX10_claimed_26 aM_54 hc2 ?_
      refine PW.icmp_lt (tgt := 47) C dX10_claimed_27 (by decide) (fun c => ?_) (fun c => ?_)
      · rw [if_pos c] at hw
        refine PW.inc3 (v := 1) C dX10_claimed_47 (by decide) rfl (by decide) ?_
        refine PW.goto (tgt := 2) C dX10_claimed_50 (by decide) ?_
        exact PW.wk (wk_s (wk_s (wk_s (wk_s wk_0)))) (hkb _ _ hw)
      · rw [if_neg c] at hw
        refine PW.ild2n C dX10_claimed_30 ?_
        refine PW.ald0n C dX10_claimed_31 ?_
        refine PW.get0 (v := .ref 55) C cf_10 fl_X10_177 (by decide) oM_0 (fvR (o := 55) rfl) dX10_claimed_32 ?_
        refine PW.ild3n C dX10_claimed_35 ?_
        obtain ⟨hc3, hw⟩ := hw
        refine PW.iald C dX10_claimed_36 aM_55 hc3 ?_
        refine PW.icmp_gt (tgt := 47) C dX10_claimed_37 (by decide) (fun c => ?_) (fun c => ?_)
        · rw [if_pos c] at hw
          refine PW.inc3 (v := 1) C dX10_claimed_47 (by decide) rfl (by decide) ?_
          refine PW.goto (tgt := 2) C dX10_claimed_50 (by decide) ?_
          exact PW.wk (wk_s (wk_s (wk_s (wk_s wk_0)))) (hkb _ _ hw)
        · rw [if_neg c] at hw
          exact PW.wk (wk_s (wk_n (wk_n (wk_s wk_0)))) (hk40 _ _ hw)
theorem l_X10_claimed_2 {D : va_G} {ca : Nat → ClassId} {ad : Nat → Nat} {K : Kt} {k40 : Int32 → PH → Prop} {k53 : PH → Prop} {Q : Int32 → PH → Prop} {x1 : Int32} {x2 : Int32} (C : CX (GM D ca ad) (XS (GM D ca ad)) cX10_claimed RX10 4 (some .int) 1 K) (hk40 : ∀ (x3 : Int32) (h : PH), k40 x3 h → PW (GM D ca ad) K 4 (qI Q) h 40 [some (.ref 0), none, none, some (.int x3)] []) (hk53 : ∀ (h : PH), k53 h → PW (GM D ca ad) K 4 (qI Q) h 53 [none, none, none, none] []) : ∀ (n : Nat) (x3 : Int32) (h : PH), Lp1 (w_X10_claimed_2 k40 k53 Q x1 x2) n x3 h → PW (GM D ca ad) K 4 (qI Q) h 2 [some (.ref 0), some (.int x1), some (.int x2), some (.int x3)] [] := by
  intro n
  induction n with
  | zero => intro x3 h hw; exact hw.elim
  | succ n ih => intro x3 h hw; exact b_X10_claimed_2 C hk40 hk53 (fun x3 h hw => ih x3 h hw) hw
def w_X10_claimed (x1 : Int32) (x2 : Int32) (h : PH) (Q : Int32 → PH → Prop) : Prop :=
  ∃ n, Lp1 (w_X10_claimed_2 (fun y5 h4 => vp_in y5 16 ∧ Q (gI h4 52 (iN y5)) h4) (fun h7 => Q (-1) h7) Q x1 x2) n 0 h
set_option maxRecDepth 8000 in
theorem s_X10_claimed {D : va_G} {ca : Nat → ClassId} {ad : Nat → Nat} {l : Launch} {x1 : Int32} {x2 : Int32} {h : PH} {Q : Int32 → PH → Prop} (hw : w_X10_claimed x1 x2 h Q) : Sp (GM D ca ad) (XS (GM D ca ad)) l 1 yX10_claimed cX10_claimed 4 (some .int) [.ref 0, .int x1, .int x2] h (qI Q) := by
  refine Sp.of (own := RX10) [some (.ref 0), some (.int x1), some (.int x2), none] (by decide +kernel) rfl rfl (Nat.le_of_ble_eq_true rfl) (fun K hl C => ?_)
  subst hl
  unfold w_X10_claimed at hw
  refine PW.iconst (v := 0) C dX10_claimed_0 (by decide) ?_
  refine PW.ist3n C dX10_claimed_1 (by decide) rfl ?_
  obtain ⟨n, hw⟩ := hw
  refine PW.wk (wk_s (wk_s (wk_s (wk_s wk_0)))) (l_X10_claimed_2 C ?_ ?_ n _ _ hw)
  · intro y5 h4 hw
    refine PW.ald0n C dX10_claimed_40 ?_
    refine PW.get0 (v := .ref 52) C cf_10 fl_X10_168 (by decide) oM_0 (fvR (o := 52) rfl) dX10_claimed_41 ?_
    refine PW.ild3n C dX10_claimed_44 ?_
    obtain ⟨hc6, hw⟩ := hw
    refine PW.iald C dX10_claimed_45 aM_52 hc6 ?_
    exact PW.iret C dX10_claimed_46 ⟨_, rfl, hw⟩
  · intro h7 hw
    refine PW.iconst (v := (-1)) C dX10_claimed_53 (by decide) ?_
    exact PW.iret C dX10_claimed_54 ⟨_, rfl, hw⟩
def w_X10_layWhose_17 (k100 : PH → Prop) (Q : PH → Prop) (x1 : Int32) (kb : Int32 → Int32 → PH → Prop) (x2 : Int32) (x3 : Int32) (h : PH) : Prop :=
  if 48 ≤ x3 then (k100 h) else (∀ (y1 : Int32), y1 = ((48 * x1) + x3) → vp_in y1 288 ∧ if (gI h 51 (iN y1)) = (-1) then (w_X10_claimed x1 x3 h (fun z4 h3 => if z4 = (-1) then (vp_in y1 288 ∧ ∀ h6, h6 = sI h3 56 (iN y1) x2 → kb x2 (x3 + 1) h6) else (vp_in y1 288 ∧ ∀ h8, h8 = sI h3 56 (iN y1) z4 → kb x2 (x3 + 1) h8))) else (vp_in y1 288 ∧ vp_in (gI h 51 (iN y1)) 16 ∧ ∀ (y11 : Int32), y11 = (gI h 46 (iN (gI h 51 (iN y1)))) → vp_in y1 288 ∧ ∀ h13, h13 = sI h 56 (iN y1) (-3) → kb y11 (x3 + 1) h13))
set_option maxRecDepth 8000 in
theorem b_X10_layWhose_17 {D : va_G} {ca : Nat → ClassId} {ad : Nat → Nat} {K : Kt} {k100 : PH → Prop} {kb : Int32 → Int32 → PH → Prop} {Q : PH → Prop} {x1 : Int32} {x2 : Int32} {x3 : Int32} {h : PH} (C : CX (GM D ca ad) (XS (GM D ca ad)) cX10_layWhose RX10 6 none 2 K) (hk100 : ∀ (h : PH), k100 h → PW (GM D ca ad) K 6 (qV Q) h 100 [some (.ref 0), some (.int x1), none, none, none, none] []) (hkb : ∀ (x2 : Int32) (x3 : Int32) (h : PH), kb x2 x3 h → PW (GM D ca ad) K 6 (qV Q) h 17 [some (.ref 0), some (.int x1), some (.int x2), some (.int x3), none, none] []) (hw : w_X10_layWhose_17 k100 Q x1 kb x2 x3 h) : PW (GM D ca ad) K 6 (qV Q) h 17 [some (.ref 0), some (.int x1), some (.int x2), some (.int x3), none, none] [] := by
  unfold w_X10_layWhose_17 at hw
  refine PW.ild3n C dX10_layWhose_17 ?_
  refine PW.bipush (v := 48) C dX10_layWhose_18 (by decide) ?_
  refine PW.icmp_ge (tgt := 100) C dX10_layWhose_20 (by decide) (fun c => ?_) (fun c => ?_)
  · rw [if_pos c] at hw
    exact PW.wk (wk_s (wk_s (wk_n (wk_n (wk_n (wk_n wk_0)))))) (hk100 _ hw)
  · rw [if_neg c] at hw
    refine PW.bipush (v := 48) C dX10_layWhose_23 (by decide) ?_
    refine PW.ild1n C dX10_layWhose_25 ?_
    refine PW.imul C dX10_layWhose_26 ?_
    refine PW.ild3n C dX10_layWhose_27 ?_
    refine PW.iadd C dX10_layWhose_28 ?_
    replace hw := hw _ rfl
    refine PW.ist4 C dX10_layWhose_29 (by decide) rfl ?_
    refine PW.ald0n C dX10_layWhose_31 ?_
    refine PW.get0 (v := .ref 51) C cf_10 fl_X10_165 (by decide) oM_0 (fvR (o := 51) rfl) dX10_layWhose_32 ?_
    refine PW.ild4 C dX10_layWhose_35 ?_
    obtain ⟨hc2, hw⟩ := hw
    refine PW.iald C dX10_layWhose_37 aM_51 hc2 ?_
    refine PW.iconst (v := (-1)) C dX10_layWhose_38 (by decide) ?_
    refine PW.icmp_eq (tgt := 67) C dX10_layWhose_39 (by decide) (fun c => ?_) (fun c => ?_)
    · rw [if_pos c] at hw
      refine PW.ald0n C dX10_layWhose_67 ?_
      refine PW.ild1n C dX10_layWhose_68 ?_
      refine PW.ild3n C dX10_layWhose_69 ?_
      refine PW.callVI2 C ms_X10_claimed ml_X10_490 dX10_layWhose_70 oM_0 ⟨_, _, rfl⟩ (Nat.le_of_ble_eq_true rfl) (by decide) (Nat.le_of_ble_eq_true rfl) (s_X10_claimed hw) ?_
      clear hw
      intro z4 h3 hw
      refine PW.ist5 C dX10_layWhose_73 (by decide) rfl ?_
      refine PW.ald0n C dX10_layWhose_75 ?_
      refine PW.get0 (v := .ref 56) C cf_10 fl_X10_180 (by decide) oM_0 (fvR (o := 56) rfl) dX10_layWhose_76 ?_
      refine PW.ild4 C dX10_layWhose_79 ?_
      refine PW.ild5 C dX10_layWhose_81 ?_
      refine PW.iconst (v := (-1)) C dX10_layWhose_83 (by decide) ?_
      refine PW.icmp_eq (tgt := 92) C dX10_layWhose_84 (by decide) (fun c => ?_) (fun c => ?_)
      · rw [if_pos c] at hw
        refine PW.ild2n C dX10_layWhose_92 ?_
        obtain ⟨hc5, hw⟩ := hw
        replace hw := hw _ rfl
        refine PW.iast C dX10_layWhose_93 aM_56 hc5 ?_
        refine PW.inc3 (v := 1) C dX10_layWhose_94 (by decide) rfl (by decide) ?_
        refine PW.goto (tgt := 17) C dX10_layWhose_97 (by decide) ?_
        exact PW.wk (wk_s (wk_s (wk_s (wk_s (wk_n (wk_n wk_0)))))) (hkb _ _ _ hw)
      · rw [if_neg c] at hw
        refine PW.ild5 C dX10_layWhose_87 ?_
        refine PW.goto (tgt := 93) C dX10_layWhose_89 (by decide) ?_
        obtain ⟨hc7, hw⟩ := hw
        replace hw := hw _ rfl
        refine PW.iast C dX10_layWhose_93 aM_56 hc7 ?_
        refine PW.inc3 (v := 1) C dX10_layWhose_94 (by decide) rfl (by decide) ?_
        refine PW.goto (tgt := 17) C dX10_layWhose_97 (by decide) ?_
        exact PW.wk (wk_s (wk_s (wk_s (wk_s (wk_n (wk_n wk_0)))))) (hkb _ _ _ hw)
    · rw [if_neg c] at hw
      refine PW.ald0n C dX10_layWhose_42 ?_
      refine PW.get0 (v := .ref 46) C cf_10 fl_X10_150 (by decide) oM_0 (fvR (o := 46) rfl) dX10_layWhose_43 ?_
      refine PW.ald0n C dX10_layWhose_46 ?_
      refine PW.get0 (v := .ref 51) C cf_10 fl_X10_165 (by decide) oM_0 (fvR (o := 51) rfl) dX10_layWhose_47 ?_
      refine PW.ild4 C dX10_layWhose_50 ?_
      obtain ⟨hc9, hw⟩ := hw
      refine PW.iald C dX10_layWhose_52 aM_51 hc9 ?_
      obtain ⟨hc10, hw⟩ := hw
      refine PW.iald C dX10_layWhose_53 aM_46 hc10 ?_
      replace hw := hw _ rfl
      refine PW.ist2n C dX10_layWhose_54 (by decide) rfl ?_
      refine PW.ald0n C dX10_layWhose_55 ?_
      refine PW.get0 (v := .ref 56) C cf_10 fl_X10_180 (by decide) oM_0 (fvR (o := 56) rfl) dX10_layWhose_56 ?_
      refine PW.ild4 C dX10_layWhose_59 ?_
      refine PW.bipush (v := (-3)) C dX10_layWhose_61 (by decide) ?_
      obtain ⟨hc12, hw⟩ := hw
      replace hw := hw _ rfl
      refine PW.iast C dX10_layWhose_63 aM_56 hc12 ?_
      refine PW.goto (tgt := 94) C dX10_layWhose_64 (by decide) ?_
      refine PW.inc3 (v := 1) C dX10_layWhose_94 (by decide) rfl (by decide) ?_
      refine PW.goto (tgt := 17) C dX10_layWhose_97 (by decide) ?_
      exact PW.wk (wk_s (wk_s (wk_s (wk_s (wk_n (wk_n wk_0)))))) (hkb _ _ _ hw)
theorem l_X10_layWhose_17 {D : va_G} {ca : Nat → ClassId} {ad : Nat → Nat} {K : Kt} {k100 : PH → Prop} {Q : PH → Prop} {x1 : Int32} (C : CX (GM D ca ad) (XS (GM D ca ad)) cX10_layWhose RX10 6 none 2 K) (hk100 : ∀ (h : PH), k100 h → PW (GM D ca ad) K 6 (qV Q) h 100 [some (.ref 0), some (.int x1), none, none, none, none] []) : ∀ (n : Nat) (x2 : Int32) (x3 : Int32) (h : PH), Lp2 (w_X10_layWhose_17 k100 Q x1) n x2 x3 h → PW (GM D ca ad) K 6 (qV Q) h 17 [some (.ref 0), some (.int x1), some (.int x2), some (.int x3), none, none] [] := by
  intro n
  induction n with
  | zero => intro x2 x3 h hw; exact hw.elim
  | succ n ih => intro x2 x3 h hw; exact b_X10_layWhose_17 C hk100 (fun x2 x3 h hw => ih x2 x3 h hw) hw
def w_X10_layWhose_2 (k106 : PH → Prop) (Q : PH → Prop) (kb : Int32 → PH → Prop) (x1 : Int32) (h : PH) : Prop :=
  if (gI h 2 (iN 0)) ≤ x1 then (k106 h) else (∃ n, Lp2 (w_X10_layWhose_17 (fun h14 => kb (x1 + 1) h14) Q x1) n (-2) 0 h)
set_option maxRecDepth 8000 in
theorem b_X10_layWhose_2 {D : va_G} {ca : Nat → ClassId} {ad : Nat → Nat} {K : Kt} {k106 : PH → Prop} {kb : Int32 → PH → Prop} {Q : PH → Prop} {x1 : Int32} {h : PH} (C : CX (GM D ca ad) (XS (GM D ca ad)) cX10_layWhose RX10 6 none 2 K) (hk106 : ∀ (h : PH), k106 h → PW (GM D ca ad) K 6 (qV Q) h 106 [none, none, none, none, none, none] []) (hkb : ∀ (x1 : Int32) (h : PH), kb x1 h → PW (GM D ca ad) K 6 (qV Q) h 2 [some (.ref 0), some (.int x1), none, none, none, none] []) (hw : w_X10_layWhose_2 k106 Q kb x1 h) : PW (GM D ca ad) K 6 (qV Q) h 2 [some (.ref 0), some (.int x1), none, none, none, none] [] := by
  unfold w_X10_layWhose_2 at hw
  refine PW.ild1n C dX10_layWhose_2 ?_
  refine PW.ald0n C dX10_layWhose_3 ?_
  refine PW.get0 (v := .ref 2) C cf_10 fl_X10_13 (by decide) oM_0 (fvR (o := 2) rfl) dX10_layWhose_4 ?_
  refine PW.iconst (v := 0) C dX10_layWhose_7 (by decide) ?_
  refine PW.iald C dX10_layWhose_8 aM_2 (vpl (by decide)) ?_
  refine PW.icmp_ge (tgt := 106) C dX10_layWhose_9 (by decide) (fun c => ?_) (fun c => ?_)
  · rw [if_pos c] at hw
    exact PW.wk (wk_n (wk_n (wk_n (wk_n (wk_n (wk_n wk_0)))))) (hk106 _ hw)
  · rw [if_neg c] at hw
    refine PW.bipush (v := (-2)) C dX10_layWhose_12 (by decide) ?_
    refine PW.ist2n C dX10_layWhose_14 (by decide) rfl ?_
    refine PW.iconst (v := 0) C dX10_layWhose_15 (by decide) ?_
    refine PW.ist3n C dX10_layWhose_16 (by decide) rfl ?_
    obtain ⟨n, hw⟩ := hw
    refine PW.wk (wk_s (wk_s (wk_s (wk_s (wk_n (wk_n wk_0)))))) (l_X10_layWhose_17 C ?_ n _ _ _ hw)
    · intro h14 hw
      refine PW.inc1 (v := 1) C dX10_layWhose_100 (by decide) rfl (by decide) ?_
      refine PW.goto (tgt := 2) C dX10_layWhose_103 (by decide) ?_
      exact PW.wk (wk_s (wk_s (wk_n (wk_n (wk_n (wk_n wk_0)))))) (hkb _ _ hw)
theorem l_X10_layWhose_2 {D : va_G} {ca : Nat → ClassId} {ad : Nat → Nat} {K : Kt} {k106 : PH → Prop} {Q : PH → Prop} (C : CX (GM D ca ad) (XS (GM D ca ad)) cX10_layWhose RX10 6 none 2 K) (hk106 : ∀ (h : PH), k106 h → PW (GM D ca ad) K 6 (qV Q) h 106 [none, none, none, none, none, none] []) : ∀ (n : Nat) (x1 : Int32) (h : PH), Lp1 (w_X10_layWhose_2 k106 Q) n x1 h → PW (GM D ca ad) K 6 (qV Q) h 2 [some (.ref 0), some (.int x1), none, none, none, none] [] := by
  intro n
  induction n with
  | zero => intro x1 h hw; exact hw.elim
  | succ n ih => intro x1 h hw; exact b_X10_layWhose_2 C hk106 (fun x1 h hw => ih x1 h hw) hw
def w_X10_layWhose (h : PH) (Q : PH → Prop) : Prop :=
  ∃ n, Lp1 (w_X10_layWhose_2 (fun h15 => Q h15) Q) n 0 h
set_option maxRecDepth 8000 in
theorem s_X10_layWhose {D : va_G} {ca : Nat → ClassId} {ad : Nat → Nat} {l : Launch} {h : PH} {Q : PH → Prop} (hw : w_X10_layWhose h Q) : Sp (GM D ca ad) (XS (GM D ca ad)) l 2 yX10_layWhose cX10_layWhose 6 none [.ref 0] h (qV Q) := by
  refine Sp.of (own := RX10) [some (.ref 0), none, none, none, none, none] (by decide +kernel) rfl rfl (Nat.le_of_ble_eq_true rfl) (fun K hl C => ?_)
  subst hl
  unfold w_X10_layWhose at hw
  refine PW.iconst (v := 0) C dX10_layWhose_0 (by decide) ?_
  refine PW.ist1n C dX10_layWhose_1 (by decide) rfl ?_
  obtain ⟨n, hw⟩ := hw
  refine PW.wk (wk_s (wk_s (wk_n (wk_n (wk_n (wk_n wk_0)))))) (l_X10_layWhose_2 C ?_ n _ _ hw)
  · intro h15 hw
    exact PW.vret C dX10_layWhose_106 ⟨rfl, hw⟩
def w_X10_layDay (h : PH) (Q : PH → Prop) : Prop :=
  w_X10_layNoises h (fun h1 => w_X10_layFar (gI h1 42 (iN 0)) (-1) h1 (fun h2 => w_X10_layFirst h2 (fun h3 => w_X10_layClaims h3 (fun h4 => w_X10_layWhose h4 (fun h5 => Q h5)))))
set_option maxRecDepth 8000 in
theorem s_X10_layDay {D : va_G} {ca : Nat → ClassId} {ad : Nat → Nat} {l : Launch} {h : PH} {Q : PH → Prop} (hw : w_X10_layDay h Q) : Sp (GM D ca ad) (XS (GM D ca ad)) l 7 yX10_layDay cX10_layDay 1 none [.ref 0] h (qV Q) := by
  refine Sp.of (own := RX10) [some (.ref 0)] (by decide +kernel) rfl rfl (Nat.le_of_ble_eq_true rfl) (fun K hl C => ?_)
  subst hl
  unfold w_X10_layDay at hw
  refine PW.ald0n C dX10_layDay_0 ?_
  refine PW.callVV0 C ms_X10_layNoises ml_X10_493 dX10_layDay_1 oM_0 ⟨_, _, rfl⟩ (Nat.le_of_ble_eq_true rfl) (by decide) (Nat.le_of_ble_eq_true rfl) (s_X10_layNoises hw) ?_
  clear hw
  intro h1 hw
  refine PW.ald0n C dX10_layDay_4 ?_
  refine PW.ald0n C dX10_layDay_5 ?_
  refine PW.get0 (v := .ref 42) C cf_10 fl_X10_138 (by decide) oM_0 (fvR (o := 42) rfl) dX10_layDay_6 ?_
  refine PW.iconst (v := 0) C dX10_layDay_9 (by decide) ?_
  refine PW.iald C dX10_layDay_10 aM_42 (vpl (by decide)) ?_
  refine PW.iconst (v := (-1)) C dX10_layDay_11 (by decide) ?_
  refine PW.callVV2 C ms_X10_layFar ml_X10_496 dX10_layDay_12 oM_0 ⟨_, _, rfl⟩ (Nat.le_of_ble_eq_true rfl) (by decide) (Nat.le_of_ble_eq_true rfl) (s_X10_layFar hw) ?_
  clear hw
  intro h2 hw
  refine PW.ald0n C dX10_layDay_15 ?_
  refine PW.callVV0 C ms_X10_layFirst ml_X10_484 dX10_layDay_16 oM_0 ⟨_, _, rfl⟩ (Nat.le_of_ble_eq_true rfl) (by decide) (Nat.le_of_ble_eq_true rfl) (s_X10_layFirst hw) ?_
  clear hw
  intro h3 hw
  refine PW.ald0n C dX10_layDay_19 ?_
  refine PW.callVV0 C ms_X10_layClaims ml_X10_499 dX10_layDay_20 oM_0 ⟨_, _, rfl⟩ (Nat.le_of_ble_eq_true rfl) (by decide) (Nat.le_of_ble_eq_true rfl) (s_X10_layClaims hw) ?_
  clear hw
  intro h4 hw
  refine PW.ald0n C dX10_layDay_23 ?_
  refine PW.callVV0 C ms_X10_layWhose ml_X10_502 dX10_layDay_24 oM_0 ⟨_, _, rfl⟩ (Nat.le_of_ble_eq_true rfl) (by decide) (Nat.le_of_ble_eq_true rfl) (s_X10_layWhose hw) ?_
  clear hw
  intro h5 hw
  exact PW.vret C dX10_layDay_27 ⟨rfl, hw⟩
def w_X10_hasRight_3 (k58 : PH → Prop) (k66 : PH → Prop) (Q : Int32 → PH → Prop) (x1 : Int32) (x2 : Int32) (x3 : Int32) (kb : Int32 → PH → Prop) (x4 : Int32) (h : PH) : Prop :=
  if (gI h 2 (iN 5)) ≤ x4 then (k66 h) else (vp_in x4 12 ∧ if (gI h 19 (iN x4)) = x1 then (vp_in x4 12 ∧ if (gI h 20 (iN x4)) = x2 then (vp_in x4 12 ∧ if x3 < (gI h 21 (iN x4)) then (kb (x4 + 1) h) else (vp_in x4 12 ∧ if (gI h 22 (iN x4)) < x3 then (kb (x4 + 1) h) else (k58 h))) else (kb (x4 + 1) h)) else (kb (x4 + 1) h))
set_option maxRecDepth 8000 in
theorem b_X10_hasRight_3 {D : va_G} {ca : Nat → ClassId} {ad : Nat → Nat} {K : Kt} {k58 : PH → Prop} {k66 : PH → Prop} {kb : Int32 → PH → Prop} {Q : Int32 → PH → Prop} {x1 : Int32} {x2 : Int32} {x3 : Int32} {x4 : Int32} {h : PH} (C : CX (GM D ca ad) (XS (GM D ca ad)) cX10_hasRight RX10 5 (some .boolean) 1 K) (hk58 : ∀ (h : PH), k58 h → PW (GM D ca ad) K 5 (qI Q) h 58 [none, none, none, none, none] []) (hk66 : ∀ (h : PH), k66 h → PW (GM D ca ad) K 5 (qI Q) h 66 [none, none, none, none, none] []) (hkb : ∀ (x4 : Int32) (h : PH), kb x4 h → PW (GM D ca ad) K 5 (qI Q) h 3 [some (.ref 0), some (.int x1), some (.int x2), some (.int x3), some (.int x4)] []) (hw : w_X10_hasRight_3 k58 k66 Q x1 x2 x3 kb x4 h) : PW (GM D ca ad) K 5 (qI Q) h 3 [some (.ref 0), some (.int x1), some (.int x2), some (.int x3), some (.int x4)] [] := by
  unfold w_X10_hasRight_3 at hw
  refine PW.ild4 C dX10_hasRight_3 ?_
  refine PW.ald0n C dX10_hasRight_5 ?_
  refine PW.get0 (v := .ref 2) C cf_10 fl_X10_13 (by decide) oM_0 (fvR (o := 2) rfl) dX10_hasRight_6 ?_
  refine PW.iconst (v := 5) C dX10_hasRight_9 (by decide) ?_
  refine PW.iald C dX10_hasRight_10 aM_2 (vpl (by decide)) ?_
  refine PW.icmp_ge (tgt := 66) C dX10_hasRight_11 (by decide) (fun c => ?_) (fun c => ?_)
  · rw [if_pos c] at hw
    exact PW.wk (wk_n (wk_n (wk_n (wk_n (wk_n wk_0))))) (hk66 _ hw)
  · rw [if_neg c] at hw
    refine PW.ald0n C dX10_hasRight_14 ?_
    refine PW.get0 (v := .ref 19) C cf_10 fl_X10_64 (by decide) oM_0 (fvR (o := 19) rfl) dX10_hasRight_15 ?_
    refine PW.ild4 C dX10_hasRight_18 ?_
    obtain ⟨hc1, hw⟩ := hw
    refine PW.iald C dX10_hasRight_20 aM_19 hc1 ?_
    refine PW.ild1n C dX10_hasRight_21 ?_
    refine PW.icmp_ne (tgt := 60) C dX10_hasRight_22 (by decide) (fun c => ?_) (fun c => ?_)
    · rw [if_neg c] at hw
      refine PW.inc4 (v := 1) C dX10_hasRight_60 (by decide) rfl (by decide) ?_
      refine PW.goto (tgt := 3) C dX10_hasRight_63 (by decide) ?_
      exact PW.wk (wk_s (wk_s (wk_s (wk_s (wk_s wk_0))))) (hkb _ _ hw)
    · rw [if_pos c] at hw
      refine PW.ald0n C dX10_hasRight_25 ?_
      refine PW.get0 (v := .ref 20) C cf_10 fl_X10_67 (by decide) oM_0 (fvR (o := 20) rfl) dX10_hasRight_26 ?_
      refine PW.ild4 C dX10_hasRight_29 ?_
      obtain ⟨hc2, hw⟩ := hw
      refine PW.iald C dX10_hasRight_31 aM_20 hc2 ?_
      refine PW.ild2n C dX10_hasRight_32 ?_
      refine PW.icmp_ne (tgt := 60) C dX10_hasRight_33 (by decide) (fun c => ?_) (fun c => ?_)
      · rw [if_neg c] at hw
        refine PW.inc4 (v := 1) C dX10_hasRight_60 (by decide) rfl (by decide) ?_
        refine PW.goto (tgt := 3) C dX10_hasRight_63 (by decide) ?_
        exact PW.wk (wk_s (wk_s (wk_s (wk_s (wk_s wk_0))))) (hkb _ _ hw)
      · rw [if_pos c] at hw
        refine PW.ild3n C dX10_hasRight_36 ?_
        refine PW.ald0n C dX10_hasRight_37 ?_
        refine PW.get0 (v := .ref 21) C cf_10 fl_X10_70 (by decide) oM_0 (fvR (o := 21) rfl) dX10_hasRight_38 ?_
        refine PW.ild4 C dX10_hasRight_41 ?_
        obtain ⟨hc3, hw⟩ := hw
        refine PW.iald C dX10_hasRight_43 aM_21 hc3 ?_
        refine PW.icmp_lt (tgt := 60) C dX10_hasRight_44 (by decide) (fun c => ?_) (fun c => ?_)
        · rw [if_pos c] at hw
          refine PW.inc4 (v := 1) C dX10_hasRight_60 (by decide) rfl (by decide) ?_
          refine PW.goto (tgt := 3) C dX10_hasRight_63 (by decide) ?_
          exact PW.wk (wk_s (wk_s (wk_s (wk_s (wk_s wk_0))))) (hkb _ _ hw)
        · rw [if_neg c] at hw
          refine PW.ild3n C dX10_hasRight_47 ?_
          refine PW.ald0n C dX10_hasRight_48 ?_
          refine PW.get0 (v := .ref 22) C cf_10 fl_X10_73 (by decide) oM_0 (fvR (o := 22) rfl) dX10_hasRight_49 ?_
          refine PW.ild4 C dX10_hasRight_52 ?_
          obtain ⟨hc4, hw⟩ := hw
          refine PW.iald C dX10_hasRight_54 aM_22 hc4 ?_
          refine PW.icmp_gt (tgt := 60) C dX10_hasRight_55 (by decide) (fun c => ?_) (fun c => ?_)
          · rw [if_pos c] at hw
            refine PW.inc4 (v := 1) C dX10_hasRight_60 (by decide) rfl (by decide) ?_
            refine PW.goto (tgt := 3) C dX10_hasRight_63 (by decide) ?_
            exact PW.wk (wk_s (wk_s (wk_s (wk_s (wk_s wk_0))))) (hkb _ _ hw)
          · rw [if_neg c] at hw
            exact PW.wk (wk_n (wk_n (wk_n (wk_n (wk_n wk_0))))) (hk58 _ hw)
theorem l_X10_hasRight_3 {D : va_G} {ca : Nat → ClassId} {ad : Nat → Nat} {K : Kt} {k58 : PH → Prop} {k66 : PH → Prop} {Q : Int32 → PH → Prop} {x1 : Int32} {x2 : Int32} {x3 : Int32} (C : CX (GM D ca ad) (XS (GM D ca ad)) cX10_hasRight RX10 5 (some .boolean) 1 K) (hk58 : ∀ (h : PH), k58 h → PW (GM D ca ad) K 5 (qI Q) h 58 [none, none, none, none, none] []) (hk66 : ∀ (h : PH), k66 h → PW (GM D ca ad) K 5 (qI Q) h 66 [none, none, none, none, none] []) : ∀ (n : Nat) (x4 : Int32) (h : PH), Lp1 (w_X10_hasRight_3 k58 k66 Q x1 x2 x3) n x4 h → PW (GM D ca ad) K 5 (qI Q) h 3 [some (.ref 0), some (.int x1), some (.int x2), some (.int x3), some (.int x4)] [] := by
  intro n
  induction n with
  | zero => intro x4 h hw; exact hw.elim
  | succ n ih => intro x4 h hw; exact b_X10_hasRight_3 C hk58 hk66 (fun x4 h hw => ih x4 h hw) hw
def w_X10_hasRight (x1 : Int32) (x2 : Int32) (x3 : Int32) (h : PH) (Q : Int32 → PH → Prop) : Prop :=
  ∃ n, Lp1 (w_X10_hasRight_3 (fun h5 => Q 1 h5) (fun h6 => Q 0 h6) Q x1 x2 x3) n 0 h
set_option maxRecDepth 8000 in
theorem s_X10_hasRight {D : va_G} {ca : Nat → ClassId} {ad : Nat → Nat} {l : Launch} {x1 : Int32} {x2 : Int32} {x3 : Int32} {h : PH} {Q : Int32 → PH → Prop} (hw : w_X10_hasRight x1 x2 x3 h Q) : Sp (GM D ca ad) (XS (GM D ca ad)) l 1 yX10_hasRight cX10_hasRight 5 (some .boolean) [.ref 0, .int x1, .int x2, .int x3] h (qI Q) := by
  refine Sp.of (own := RX10) [some (.ref 0), some (.int x1), some (.int x2), some (.int x3), none] (by decide +kernel) rfl rfl (Nat.le_of_ble_eq_true rfl) (fun K hl C => ?_)
  subst hl
  unfold w_X10_hasRight at hw
  refine PW.iconst (v := 0) C dX10_hasRight_0 (by decide) ?_
  refine PW.ist4 C dX10_hasRight_1 (by decide) rfl ?_
  obtain ⟨n, hw⟩ := hw
  refine PW.wk (wk_s (wk_s (wk_s (wk_s (wk_s wk_0))))) (l_X10_hasRight_3 C ?_ ?_ n _ _ hw)
  · intro h5 hw
    refine PW.iconst (v := 1) C dX10_hasRight_58 (by decide) ?_
    exact PW.zret C dX10_hasRight_59 (by decide) ⟨_, rfl, hw⟩
  · intro h6 hw
    refine PW.iconst (v := 0) C dX10_hasRight_66 (by decide) ?_
    exact PW.zret C dX10_hasRight_67 (by decide) ⟨_, rfl, hw⟩
def w_X10_against (x1 : Int32) (x2 : Int32) (x3 : Int32) (h : PH) (Q : Int32 → PH → Prop) : Prop :=
  w_X10_claimed x2 x3 h (fun z2 h1 => if z2 = (-1) then (Q (-1) h1) else (if z2 = x1 then (Q (-1) h1) else (w_X10_hasRight x1 x2 x3 h1 (fun z4 h3 => if z4 = 0 then (Q z2 h3) else (Q (-1) h3)))))
set_option maxRecDepth 8000 in
theorem s_X10_against {D : va_G} {ca : Nat → ClassId} {ad : Nat → Nat} {l : Launch} {x1 : Int32} {x2 : Int32} {x3 : Int32} {h : PH} {Q : Int32 → PH → Prop} (hw : w_X10_against x1 x2 x3 h Q) : Sp (GM D ca ad) (XS (GM D ca ad)) l 2 yX10_against cX10_against 5 (some .int) [.ref 0, .int x1, .int x2, .int x3] h (qI Q) := by
  refine Sp.of (own := RX10) [some (.ref 0), some (.int x1), some (.int x2), some (.int x3), none] (by decide +kernel) rfl rfl (Nat.le_of_ble_eq_true rfl) (fun K hl C => ?_)
  subst hl
  unfold w_X10_against at hw
  refine PW.ald0n C dX10_against_0 ?_
  refine PW.ild2n C dX10_against_1 ?_
  refine PW.ild3n C dX10_against_2 ?_
  refine PW.callVI2 C ms_X10_claimed ml_X10_490 dX10_against_3 oM_0 ⟨_, _, rfl⟩ (Nat.le_of_ble_eq_true rfl) (by decide) (Nat.le_of_ble_eq_true rfl) (s_X10_claimed hw) ?_
  clear hw
  intro z2 h1 hw
  refine PW.ist4 C dX10_against_6 (by decide) rfl ?_
  refine PW.ild4 C dX10_against_8 ?_
  refine PW.iconst (v := (-1)) C dX10_against_10 (by decide) ?_
  refine PW.icmp_eq (tgt := 30) C dX10_against_11 (by decide) (fun c => ?_) (fun c => ?_)
  · rw [if_pos c] at hw
    refine PW.iconst (v := (-1)) C dX10_against_30 (by decide) ?_
    refine PW.goto (tgt := 36) C dX10_against_31 (by decide) ?_
    exact PW.iret C dX10_against_36 ⟨_, rfl, hw⟩
  · rw [if_neg c] at hw
    refine PW.ild4 C dX10_against_14 ?_
    refine PW.ild1n C dX10_against_16 ?_
    refine PW.icmp_eq (tgt := 30) C dX10_against_17 (by decide) (fun c => ?_) (fun c => ?_)
    · rw [if_pos c] at hw
      refine PW.iconst (v := (-1)) C dX10_against_30 (by decide) ?_
      refine PW.goto (tgt := 36) C dX10_against_31 (by decide) ?_
      exact PW.iret C dX10_against_36 ⟨_, rfl, hw⟩
    · rw [if_neg c] at hw
      refine PW.ald0n C dX10_against_20 ?_
      refine PW.ild1n C dX10_against_21 ?_
      refine PW.ild2n C dX10_against_22 ?_
      refine PW.ild3n C dX10_against_23 ?_
      refine PW.callVI3 C ms_X10_hasRight ml_X10_505 dX10_against_24 oM_0 ⟨_, _, rfl⟩ (Nat.le_of_ble_eq_true rfl) (by decide) (Nat.le_of_ble_eq_true rfl) (s_X10_hasRight hw) ?_
      clear hw
      intro z4 h3 hw
      refine PW.if_eq (tgt := 34) C dX10_against_27 (by decide) (fun c => ?_) (fun c => ?_)
      · rw [if_pos c] at hw
        refine PW.ild4 C dX10_against_34 ?_
        exact PW.iret C dX10_against_36 ⟨_, rfl, hw⟩
      · rw [if_neg c] at hw
        refine PW.iconst (v := (-1)) C dX10_against_30 (by decide) ?_
        refine PW.goto (tgt := 36) C dX10_against_31 (by decide) ?_
        exact PW.iret C dX10_against_36 ⟨_, rfl, hw⟩
def w_X10_trespasses_110 (Q : Int32 → PH → Prop) (kb : Int32 → Int32 → PH → Prop) (x1 : Int32) (x2 : Int32) (x4 : Int32) (x5 : Int32) (x6 : Int32) (s0 : Int32) (h : PH) : Prop :=
  ∀ (y3 : Int32), y3 = (s0 + 0) → kb y3 (x6 + 1) h
set_option maxRecDepth 8000 in
theorem b_X10_trespasses_110 {D : va_G} {ca : Nat → ClassId} {ad : Nat → Nat} {K : Kt} {kb : Int32 → Int32 → PH → Prop} {Q : Int32 → PH → Prop} {x1 : Int32} {x2 : Int32} {x4 : Int32} {x5 : Int32} {x6 : Int32} {s0 : Int32} {h : PH} (C : CX (GM D ca ad) (XS (GM D ca ad)) cX10_trespasses RX10 8 (some .int) 6 K) (hkb : ∀ (x3 : Int32) (x6 : Int32) (h : PH), kb x3 x6 h → PW (GM D ca ad) K 8 (qI Q) h 29 [some (.ref 0), some (.int x1), some (.int x2), some (.int x3), some (.int x4), some (.int x5), some (.int x6), none] []) (hw : w_X10_trespasses_110 Q kb x1 x2 x4 x5 x6 s0 h) : PW (GM D ca ad) K 8 (qI Q) h 110 [some (.ref 0), some (.int x1), some (.int x2), none, some (.int x4), some (.int x5), some (.int x6), none] [.int s0] := by
  unfold w_X10_trespasses_110 at hw
  refine PW.iconst (v := 0) C dX10_trespasses_110 (by decide) ?_
  refine PW.iadd C dX10_trespasses_111 ?_
  replace hw := hw _ rfl
  refine PW.ist3n C dX10_trespasses_112 (by decide) rfl ?_
  refine PW.inc6 (v := 1) C dX10_trespasses_113 (by decide) rfl (by decide) ?_
  refine PW.goto (tgt := 29) C dX10_trespasses_116 (by decide) ?_
  exact PW.wk (wk_s (wk_s (wk_s (wk_s (wk_s (wk_s (wk_s (wk_n wk_0)))))))) (hkb _ _ _ hw)
def w_X10_trespasses_106 (Q : Int32 → PH → Prop) (kb : Int32 → Int32 → PH → Prop) (x1 : Int32) (x2 : Int32) (x4 : Int32) (x5 : Int32) (x6 : Int32) (s0 : Int32) (h : PH) : Prop :=
  ∀ (y4 : Int32), y4 = (s0 + 1) → kb y4 (x6 + 1) h
set_option maxRecDepth 8000 in
theorem b_X10_trespasses_106 {D : va_G} {ca : Nat → ClassId} {ad : Nat → Nat} {K : Kt} {kb : Int32 → Int32 → PH → Prop} {Q : Int32 → PH → Prop} {x1 : Int32} {x2 : Int32} {x4 : Int32} {x5 : Int32} {x6 : Int32} {s0 : Int32} {h : PH} (C : CX (GM D ca ad) (XS (GM D ca ad)) cX10_trespasses RX10 8 (some .int) 6 K) (hkb : ∀ (x3 : Int32) (x6 : Int32) (h : PH), kb x3 x6 h → PW (GM D ca ad) K 8 (qI Q) h 29 [some (.ref 0), some (.int x1), some (.int x2), some (.int x3), some (.int x4), some (.int x5), some (.int x6), none] []) (hw : w_X10_trespasses_106 Q kb x1 x2 x4 x5 x6 s0 h) : PW (GM D ca ad) K 8 (qI Q) h 106 [some (.ref 0), some (.int x1), some (.int x2), none, some (.int x4), some (.int x5), some (.int x6), none] [.int s0] := by
  unfold w_X10_trespasses_106 at hw
  refine PW.iconst (v := 1) C dX10_trespasses_106 (by decide) ?_
  refine PW.goto (tgt := 111) C dX10_trespasses_107 (by decide) ?_
  refine PW.iadd C dX10_trespasses_111 ?_
  replace hw := hw _ rfl
  refine PW.ist3n C dX10_trespasses_112 (by decide) rfl ?_
  refine PW.inc6 (v := 1) C dX10_trespasses_113 (by decide) rfl (by decide) ?_
  refine PW.goto (tgt := 29) C dX10_trespasses_116 (by decide) ?_
  exact PW.wk (wk_s (wk_s (wk_s (wk_s (wk_s (wk_s (wk_s (wk_n wk_0)))))))) (hkb _ _ _ hw)
def w_X10_trespasses_95 (Q : Int32 → PH → Prop) (kb : Int32 → Int32 → PH → Prop) (x1 : Int32) (x2 : Int32) (x4 : Int32) (x5 : Int32) (x6 : Int32) (x7 : Int32) (s0 : Int32) (h : PH) : Prop :=
  if x2 = (-1) then (w_X10_trespasses_106 Q kb x1 x2 x4 x5 x6 s0 h) else (if x2 = x7 then (w_X10_trespasses_106 Q kb x1 x2 x4 x5 x6 s0 h) else (w_X10_trespasses_110 Q kb x1 x2 x4 x5 x6 s0 h))
set_option maxRecDepth 8000 in
theorem b_X10_trespasses_95 {D : va_G} {ca : Nat → ClassId} {ad : Nat → Nat} {K : Kt} {kb : Int32 → Int32 → PH → Prop} {Q : Int32 → PH → Prop} {x1 : Int32} {x2 : Int32} {x4 : Int32} {x5 : Int32} {x6 : Int32} {x7 : Int32} {s0 : Int32} {h : PH} (C : CX (GM D ca ad) (XS (GM D ca ad)) cX10_trespasses RX10 8 (some .int) 6 K) (hkb : ∀ (x3 : Int32) (x6 : Int32) (h : PH), kb x3 x6 h → PW (GM D ca ad) K 8 (qI Q) h 29 [some (.ref 0), some (.int x1), some (.int x2), some (.int x3), some (.int x4), some (.int x5), some (.int x6), none] []) (hw : w_X10_trespasses_95 Q kb x1 x2 x4 x5 x6 x7 s0 h) : PW (GM D ca ad) K 8 (qI Q) h 95 [some (.ref 0), some (.int x1), some (.int x2), none, some (.int x4), some (.int x5), some (.int x6), some (.int x7)] [.int s0] := by
  unfold w_X10_trespasses_95 at hw
  refine PW.ild2n C dX10_trespasses_95 ?_
  refine PW.iconst (v := (-1)) C dX10_trespasses_96 (by decide) ?_
  refine PW.icmp_eq (tgt := 106) C dX10_trespasses_97 (by decide) (fun c => ?_) (fun c => ?_)
  · rw [if_pos c] at hw
    exact PW.wk (wk_s (wk_s (wk_s (wk_n (wk_s (wk_s (wk_s (wk_n wk_0)))))))) (b_X10_trespasses_106 C hkb hw)
  · rw [if_neg c] at hw
    refine PW.ild2n C dX10_trespasses_100 ?_
    refine PW.ild7 C dX10_trespasses_101 ?_
    refine PW.icmp_ne (tgt := 110) C dX10_trespasses_103 (by decide) (fun c => ?_) (fun c => ?_)
    · rw [if_neg c] at hw
      exact PW.wk (wk_s (wk_s (wk_s (wk_n (wk_s (wk_s (wk_s (wk_n wk_0)))))))) (b_X10_trespasses_110 C hkb hw)
    · rw [if_pos c] at hw
      exact PW.wk (wk_s (wk_s (wk_s (wk_n (wk_s (wk_s (wk_s (wk_n wk_0)))))))) (b_X10_trespasses_106 C hkb hw)
def w_X10_trespasses_70 (Q : Int32 → PH → Prop) (kb : Int32 → Int32 → PH → Prop) (x1 : Int32) (x2 : Int32) (x3 : Int32) (x4 : Int32) (x5 : Int32) (x6 : Int32) (s0 : Int32) (h : PH) : Prop :=
  if s0 = (-1) then (w_X10_trespasses_110 Q kb x1 x2 x4 x5 x6 x3 h) else (if x1 = (-1) then (w_X10_trespasses_95 Q kb x1 x2 x4 x5 x6 s0 x3 h) else (vp_in x6 16 ∧ if x1 = (gI h 46 (iN x6)) then (w_X10_trespasses_95 Q kb x1 x2 x4 x5 x6 s0 x3 h) else (w_X10_trespasses_110 Q kb x1 x2 x4 x5 x6 x3 h)))
set_option maxRecDepth 8000 in
theorem b_X10_trespasses_70 {D : va_G} {ca : Nat → ClassId} {ad : Nat → Nat} {K : Kt} {kb : Int32 → Int32 → PH → Prop} {Q : Int32 → PH → Prop} {x1 : Int32} {x2 : Int32} {x3 : Int32} {x4 : Int32} {x5 : Int32} {x6 : Int32} {s0 : Int32} {h : PH} (C : CX (GM D ca ad) (XS (GM D ca ad)) cX10_trespasses RX10 8 (some .int) 6 K) (hkb : ∀ (x3 : Int32) (x6 : Int32) (h : PH), kb x3 x6 h → PW (GM D ca ad) K 8 (qI Q) h 29 [some (.ref 0), some (.int x1), some (.int x2), some (.int x3), some (.int x4), some (.int x5), some (.int x6), none] []) (hw : w_X10_trespasses_70 Q kb x1 x2 x3 x4 x5 x6 s0 h) : PW (GM D ca ad) K 8 (qI Q) h 70 [some (.ref 0), some (.int x1), some (.int x2), some (.int x3), some (.int x4), some (.int x5), some (.int x6), none] [.int s0] := by
  unfold w_X10_trespasses_70 at hw
  refine PW.ist7 C dX10_trespasses_70 (by decide) rfl ?_
  refine PW.ild3n C dX10_trespasses_72 ?_
  refine PW.ild7 C dX10_trespasses_73 ?_
  refine PW.iconst (v := (-1)) C dX10_trespasses_75 (by decide) ?_
  refine PW.icmp_eq (tgt := 110) C dX10_trespasses_76 (by decide) (fun c => ?_) (fun c => ?_)
  · rw [if_pos c] at hw
    exact PW.wk (wk_s (wk_s (wk_s (wk_n (wk_s (wk_s (wk_s (wk_n wk_0)))))))) (b_X10_trespasses_110 C hkb hw)
  · rw [if_neg c] at hw
    refine PW.ild1n C dX10_trespasses_79 ?_
    refine PW.iconst (v := (-1)) C dX10_trespasses_80 (by decide) ?_
    refine PW.icmp_eq (tgt := 95) C dX10_trespasses_81 (by decide) (fun c => ?_) (fun c => ?_)
    · rw [if_pos c] at hw
      exact PW.wk (wk_s (wk_s (wk_s (wk_n (wk_s (wk_s (wk_s (wk_s wk_0)))))))) (b_X10_trespasses_95 C hkb hw)
    · rw [if_neg c] at hw
      refine PW.ild1n C dX10_trespasses_84 ?_
      refine PW.ald0n C dX10_trespasses_85 ?_
      refine PW.get0 (v := .ref 46) C cf_10 fl_X10_150 (by decide) oM_0 (fvR (o := 46) rfl) dX10_trespasses_86 ?_
      refine PW.ild6 C dX10_trespasses_89 ?_
      obtain ⟨hc5, hw⟩ := hw
      refine PW.iald C dX10_trespasses_91 aM_46 hc5 ?_
      refine PW.icmp_ne (tgt := 110) C dX10_trespasses_92 (by decide) (fun c => ?_) (fun c => ?_)
      · rw [if_neg c] at hw
        exact PW.wk (wk_s (wk_s (wk_s (wk_n (wk_s (wk_s (wk_s (wk_n wk_0)))))))) (b_X10_trespasses_110 C hkb hw)
      · rw [if_pos c] at hw
        exact PW.wk (wk_s (wk_s (wk_s (wk_n (wk_s (wk_s (wk_s (wk_s wk_0)))))))) (b_X10_trespasses_95 C hkb hw)
def w_X10_trespasses_29 (k119 : Int32 → PH → Prop) (Q : Int32 → PH → Prop) (x1 : Int32) (x2 : Int32) (x4 : Int32) (x5 : Int32) (kb : Int32 → Int32 → PH → Prop) (x3 : Int32) (x6 : Int32) (h : PH) : Prop :=
  if (gI h 0 62) ≤ x6 then (k119 x3 h) else (w_X10_hears x6 x4 x5 h (fun z2 h1 => if z2 = 0 then (w_X10_trespasses_70 Q kb x1 x2 x3 x4 x5 x6 (-1) h1) else (vp_in x6 16 ∧ w_X10_against (gI h1 46 (iN x6)) x4 x5 h1 (fun z8 h7 => w_X10_trespasses_70 Q kb x1 x2 x3 x4 x5 x6 z8 h7))))
set_option maxRecDepth 8000 in
theorem b_X10_trespasses_29 {D : va_G} {ca : Nat → ClassId} {ad : Nat → Nat} {K : Kt} {k119 : Int32 → PH → Prop} {kb : Int32 → Int32 → PH → Prop} {Q : Int32 → PH → Prop} {x1 : Int32} {x2 : Int32} {x4 : Int32} {x5 : Int32} {x3 : Int32} {x6 : Int32} {h : PH} (C : CX (GM D ca ad) (XS (GM D ca ad)) cX10_trespasses RX10 8 (some .int) 6 K) (hk119 : ∀ (x3 : Int32) (h : PH), k119 x3 h → PW (GM D ca ad) K 8 (qI Q) h 119 [some (.ref 0), some (.int x1), some (.int x2), some (.int x3), some (.int x4), some (.int x5), none, none] []) (hkb : ∀ (x3 : Int32) (x6 : Int32) (h : PH), kb x3 x6 h → PW (GM D ca ad) K 8 (qI Q) h 29 [some (.ref 0), some (.int x1), some (.int x2), some (.int x3), some (.int x4), some (.int x5), some (.int x6), none] []) (hw : w_X10_trespasses_29 k119 Q x1 x2 x4 x5 kb x3 x6 h) : PW (GM D ca ad) K 8 (qI Q) h 29 [some (.ref 0), some (.int x1), some (.int x2), some (.int x3), some (.int x4), some (.int x5), some (.int x6), none] [] := by
  unfold w_X10_trespasses_29 at hw
  refine PW.ild6 C dX10_trespasses_29 ?_
  refine PW.ald0n C dX10_trespasses_31 ?_
  refine PW.get0 C cf_10 fl_X10_470 (by decide) oM_0 (fvI rfl) dX10_trespasses_32 ?_
  refine PW.icmp_ge (tgt := 119) C dX10_trespasses_35 (by decide) (fun c => ?_) (fun c => ?_)
  · rw [if_pos c] at hw
    exact PW.wk (wk_s (wk_s (wk_s (wk_s (wk_s (wk_s (wk_n (wk_n wk_0)))))))) (hk119 _ _ hw)
  · rw [if_neg c] at hw
    refine PW.ald0n C dX10_trespasses_38 ?_
    refine PW.ild6 C dX10_trespasses_39 ?_
    refine PW.ild4 C dX10_trespasses_41 ?_
    refine PW.ild5 C dX10_trespasses_43 ?_
    refine PW.callVI3 C ms_X10_hears ml_X10_480 dX10_trespasses_45 oM_0 ⟨_, _, rfl⟩ (Nat.le_of_ble_eq_true rfl) (by decide) (Nat.le_of_ble_eq_true rfl) (s_X10_hears hw) ?_
    clear hw
    intro z2 h1 hw
    refine PW.if_eq (tgt := 69) C dX10_trespasses_48 (by decide) (fun c => ?_) (fun c => ?_)
    · rw [if_pos c] at hw
      refine PW.iconst (v := (-1)) C dX10_trespasses_69 (by decide) ?_
      exact PW.wk (wk_s (wk_s (wk_s (wk_s (wk_s (wk_s (wk_s (wk_n wk_0)))))))) (b_X10_trespasses_70 C hkb hw)
    · rw [if_neg c] at hw
      refine PW.ald0n C dX10_trespasses_51 ?_
      refine PW.ald0n C dX10_trespasses_52 ?_
      refine PW.get0 (v := .ref 46) C cf_10 fl_X10_150 (by decide) oM_0 (fvR (o := 46) rfl) dX10_trespasses_53 ?_
      refine PW.ild6 C dX10_trespasses_56 ?_
      obtain ⟨hc6, hw⟩ := hw
      refine PW.iald C dX10_trespasses_58 aM_46 hc6 ?_
      refine PW.ild4 C dX10_trespasses_59 ?_
      refine PW.ild5 C dX10_trespasses_61 ?_
      refine PW.callVI3 C ms_X10_against ml_X10_508 dX10_trespasses_63 oM_0 ⟨_, _, rfl⟩ (Nat.le_of_ble_eq_true rfl) (by decide) (Nat.le_of_ble_eq_true rfl) (s_X10_against hw) ?_
      clear hw
      intro z8 h7 hw
      refine PW.goto (tgt := 70) C dX10_trespasses_66 (by decide) ?_
      exact PW.wk (wk_s (wk_s (wk_s (wk_s (wk_s (wk_s (wk_s (wk_n wk_0)))))))) (b_X10_trespasses_70 C hkb hw)
theorem l_X10_trespasses_29 {D : va_G} {ca : Nat → ClassId} {ad : Nat → Nat} {K : Kt} {k119 : Int32 → PH → Prop} {Q : Int32 → PH → Prop} {x1 : Int32} {x2 : Int32} {x4 : Int32} {x5 : Int32} (C : CX (GM D ca ad) (XS (GM D ca ad)) cX10_trespasses RX10 8 (some .int) 6 K) (hk119 : ∀ (x3 : Int32) (h : PH), k119 x3 h → PW (GM D ca ad) K 8 (qI Q) h 119 [some (.ref 0), some (.int x1), some (.int x2), some (.int x3), some (.int x4), some (.int x5), none, none] []) : ∀ (n : Nat) (x3 : Int32) (x6 : Int32) (h : PH), Lp2 (w_X10_trespasses_29 k119 Q x1 x2 x4 x5) n x3 x6 h → PW (GM D ca ad) K 8 (qI Q) h 29 [some (.ref 0), some (.int x1), some (.int x2), some (.int x3), some (.int x4), some (.int x5), some (.int x6), none] [] := by
  intro n
  induction n with
  | zero => intro x3 x6 h hw; exact hw.elim
  | succ n ih => intro x3 x6 h hw; exact b_X10_trespasses_29 C hk119 (fun x3 x6 h hw => ih x3 x6 h hw) hw
def w_X10_trespasses_19 (k125 : Int32 → PH → Prop) (Q : Int32 → PH → Prop) (x1 : Int32) (x2 : Int32) (x4 : Int32) (kb : Int32 → Int32 → PH → Prop) (x3 : Int32) (x5 : Int32) (h : PH) : Prop :=
  if 48 ≤ x5 then (k125 x3 h) else (∃ n, Lp2 (w_X10_trespasses_29 (fun y10 h9 => kb y10 (x5 + 1) h9) Q x1 x2 x4 x5) n x3 0 h)
set_option maxRecDepth 8000 in
theorem b_X10_trespasses_19 {D : va_G} {ca : Nat → ClassId} {ad : Nat → Nat} {K : Kt} {k125 : Int32 → PH → Prop} {kb : Int32 → Int32 → PH → Prop} {Q : Int32 → PH → Prop} {x1 : Int32} {x2 : Int32} {x4 : Int32} {x3 : Int32} {x5 : Int32} {h : PH} (C : CX (GM D ca ad) (XS (GM D ca ad)) cX10_trespasses RX10 8 (some .int) 6 K) (hk125 : ∀ (x3 : Int32) (h : PH), k125 x3 h → PW (GM D ca ad) K 8 (qI Q) h 125 [some (.ref 0), some (.int x1), some (.int x2), some (.int x3), some (.int x4), none, none, none] []) (hkb : ∀ (x3 : Int32) (x5 : Int32) (h : PH), kb x3 x5 h → PW (GM D ca ad) K 8 (qI Q) h 19 [some (.ref 0), some (.int x1), some (.int x2), some (.int x3), some (.int x4), some (.int x5), none, none] []) (hw : w_X10_trespasses_19 k125 Q x1 x2 x4 kb x3 x5 h) : PW (GM D ca ad) K 8 (qI Q) h 19 [some (.ref 0), some (.int x1), some (.int x2), some (.int x3), some (.int x4), some (.int x5), none, none] [] := by
  unfold w_X10_trespasses_19 at hw
  refine PW.ild5 C dX10_trespasses_19 ?_
  refine PW.bipush (v := 48) C dX10_trespasses_21 (by decide) ?_
  refine PW.icmp_ge (tgt := 125) C dX10_trespasses_23 (by decide) (fun c => ?_) (fun c => ?_)
  · rw [if_pos c] at hw
    exact PW.wk (wk_s (wk_s (wk_s (wk_s (wk_s (wk_n (wk_n (wk_n wk_0)))))))) (hk125 _ _ hw)
  · rw [if_neg c] at hw
    refine PW.iconst (v := 0) C dX10_trespasses_26 (by decide) ?_
    refine PW.ist6 C dX10_trespasses_27 (by decide) rfl ?_
    obtain ⟨n, hw⟩ := hw
    refine PW.wk (wk_s (wk_s (wk_s (wk_s (wk_s (wk_s (wk_s (wk_n wk_0)))))))) (l_X10_trespasses_29 C ?_ n _ _ _ hw)
    · intro y10 h9 hw
      refine PW.inc5 (v := 1) C dX10_trespasses_119 (by decide) rfl (by decide) ?_
      refine PW.goto (tgt := 19) C dX10_trespasses_122 (by decide) ?_
      exact PW.wk (wk_s (wk_s (wk_s (wk_s (wk_s (wk_s (wk_n (wk_n wk_0)))))))) (hkb _ _ _ hw)
theorem l_X10_trespasses_19 {D : va_G} {ca : Nat → ClassId} {ad : Nat → Nat} {K : Kt} {k125 : Int32 → PH → Prop} {Q : Int32 → PH → Prop} {x1 : Int32} {x2 : Int32} {x4 : Int32} (C : CX (GM D ca ad) (XS (GM D ca ad)) cX10_trespasses RX10 8 (some .int) 6 K) (hk125 : ∀ (x3 : Int32) (h : PH), k125 x3 h → PW (GM D ca ad) K 8 (qI Q) h 125 [some (.ref 0), some (.int x1), some (.int x2), some (.int x3), some (.int x4), none, none, none] []) : ∀ (n : Nat) (x3 : Int32) (x5 : Int32) (h : PH), Lp2 (w_X10_trespasses_19 k125 Q x1 x2 x4) n x3 x5 h → PW (GM D ca ad) K 8 (qI Q) h 19 [some (.ref 0), some (.int x1), some (.int x2), some (.int x3), some (.int x4), some (.int x5), none, none] [] := by
  intro n
  induction n with
  | zero => intro x3 x5 h hw; exact hw.elim
  | succ n ih => intro x3 x5 h hw; exact b_X10_trespasses_19 C hk125 (fun x3 x5 h hw => ih x3 x5 h hw) hw
def w_X10_trespasses_5 (k131 : Int32 → PH → Prop) (Q : Int32 → PH → Prop) (x1 : Int32) (x2 : Int32) (kb : Int32 → Int32 → PH → Prop) (x3 : Int32) (x4 : Int32) (h : PH) : Prop :=
  if (gI h 2 (iN 0)) ≤ x4 then (k131 x3 h) else (∃ n, Lp2 (w_X10_trespasses_19 (fun y12 h11 => kb y12 (x4 + 1) h11) Q x1 x2 x4) n x3 0 h)
set_option maxRecDepth 8000 in
theorem b_X10_trespasses_5 {D : va_G} {ca : Nat → ClassId} {ad : Nat → Nat} {K : Kt} {k131 : Int32 → PH → Prop} {kb : Int32 → Int32 → PH → Prop} {Q : Int32 → PH → Prop} {x1 : Int32} {x2 : Int32} {x3 : Int32} {x4 : Int32} {h : PH} (C : CX (GM D ca ad) (XS (GM D ca ad)) cX10_trespasses RX10 8 (some .int) 6 K) (hk131 : ∀ (x3 : Int32) (h : PH), k131 x3 h → PW (GM D ca ad) K 8 (qI Q) h 131 [none, none, none, some (.int x3), none, none, none, none] []) (hkb : ∀ (x3 : Int32) (x4 : Int32) (h : PH), kb x3 x4 h → PW (GM D ca ad) K 8 (qI Q) h 5 [some (.ref 0), some (.int x1), some (.int x2), some (.int x3), some (.int x4), none, none, none] []) (hw : w_X10_trespasses_5 k131 Q x1 x2 kb x3 x4 h) : PW (GM D ca ad) K 8 (qI Q) h 5 [some (.ref 0), some (.int x1), some (.int x2), some (.int x3), some (.int x4), none, none, none] [] := by
  unfold w_X10_trespasses_5 at hw
  refine PW.ild4 C dX10_trespasses_5 ?_
  refine PW.ald0n C dX10_trespasses_7 ?_
  refine PW.get0 (v := .ref 2) C cf_10 fl_X10_13 (by decide) oM_0 (fvR (o := 2) rfl) dX10_trespasses_8 ?_
  refine PW.iconst (v := 0) C dX10_trespasses_11 (by decide) ?_
  refine PW.iald C dX10_trespasses_12 aM_2 (vpl (by decide)) ?_
  refine PW.icmp_ge (tgt := 131) C dX10_trespasses_13 (by decide) (fun c => ?_) (fun c => ?_)
  · rw [if_pos c] at hw
    exact PW.wk (wk_n (wk_n (wk_n (wk_s (wk_n (wk_n (wk_n (wk_n wk_0)))))))) (hk131 _ _ hw)
  · rw [if_neg c] at hw
    refine PW.iconst (v := 0) C dX10_trespasses_16 (by decide) ?_
    refine PW.ist5 C dX10_trespasses_17 (by decide) rfl ?_
    obtain ⟨n, hw⟩ := hw
    refine PW.wk (wk_s (wk_s (wk_s (wk_s (wk_s (wk_s (wk_n (wk_n wk_0)))))))) (l_X10_trespasses_19 C ?_ n _ _ _ hw)
    · intro y12 h11 hw
      refine PW.inc4 (v := 1) C dX10_trespasses_125 (by decide) rfl (by decide) ?_
      refine PW.goto (tgt := 5) C dX10_trespasses_128 (by decide) ?_
      exact PW.wk (wk_s (wk_s (wk_s (wk_s (wk_s (wk_n (wk_n (wk_n wk_0)))))))) (hkb _ _ _ hw)
theorem l_X10_trespasses_5 {D : va_G} {ca : Nat → ClassId} {ad : Nat → Nat} {K : Kt} {k131 : Int32 → PH → Prop} {Q : Int32 → PH → Prop} {x1 : Int32} {x2 : Int32} (C : CX (GM D ca ad) (XS (GM D ca ad)) cX10_trespasses RX10 8 (some .int) 6 K) (hk131 : ∀ (x3 : Int32) (h : PH), k131 x3 h → PW (GM D ca ad) K 8 (qI Q) h 131 [none, none, none, some (.int x3), none, none, none, none] []) : ∀ (n : Nat) (x3 : Int32) (x4 : Int32) (h : PH), Lp2 (w_X10_trespasses_5 k131 Q x1 x2) n x3 x4 h → PW (GM D ca ad) K 8 (qI Q) h 5 [some (.ref 0), some (.int x1), some (.int x2), some (.int x3), some (.int x4), none, none, none] [] := by
  intro n
  induction n with
  | zero => intro x3 x4 h hw; exact hw.elim
  | succ n ih => intro x3 x4 h hw; exact b_X10_trespasses_5 C hk131 (fun x3 x4 h hw => ih x3 x4 h hw) hw
def w_X10_trespasses (x1 : Int32) (x2 : Int32) (h : PH) (Q : Int32 → PH → Prop) : Prop :=
  ∃ n, Lp2 (w_X10_trespasses_5 (fun y14 h13 => Q y14 h13) Q x1 x2) n 0 0 h
set_option maxRecDepth 8000 in
theorem s_X10_trespasses {D : va_G} {ca : Nat → ClassId} {ad : Nat → Nat} {l : Launch} {x1 : Int32} {x2 : Int32} {h : PH} {Q : Int32 → PH → Prop} (hw : w_X10_trespasses x1 x2 h Q) : Sp (GM D ca ad) (XS (GM D ca ad)) l 6 yX10_trespasses cX10_trespasses 8 (some .int) [.ref 0, .int x1, .int x2] h (qI Q) := by
  refine Sp.of (own := RX10) [some (.ref 0), some (.int x1), some (.int x2), none, none, none, none, none] (by decide +kernel) rfl rfl (Nat.le_of_ble_eq_true rfl) (fun K hl C => ?_)
  subst hl
  unfold w_X10_trespasses at hw
  refine PW.iconst (v := 0) C dX10_trespasses_0 (by decide) ?_
  refine PW.ist3n C dX10_trespasses_1 (by decide) rfl ?_
  refine PW.iconst (v := 0) C dX10_trespasses_2 (by decide) ?_
  refine PW.ist4 C dX10_trespasses_3 (by decide) rfl ?_
  obtain ⟨n, hw⟩ := hw
  refine PW.wk (wk_s (wk_s (wk_s (wk_s (wk_s (wk_n (wk_n (wk_n wk_0)))))))) (l_X10_trespasses_5 C ?_ n _ _ _ hw)
  · intro y14 h13 hw
    refine PW.ild3n C dX10_trespasses_131 ?_
    exact PW.iret C dX10_trespasses_132 ⟨_, rfl, hw⟩
def w_X10_owner_97 (k136 : Int32 → PH → Prop) (Q : Int32 → PH → Prop) (x1 : Int32) (kb : Int32 → Int32 → PH → Prop) (x3 : Int32) (x4 : Int32) (h : PH) : Prop :=
  if (48 * (gI h 2 (iN 0))) ≤ x4 then (k136 x3 h) else (vp_in x4 288 ∧ if (gI h 56 (iN x4)) = x1 then (∀ (y7 : Int32), y7 = (x3 + 1) → kb y7 (x4 + 1) h) else (∀ (y6 : Int32), y6 = (x3 + 0) → kb y6 (x4 + 1) h))
set_option maxRecDepth 8000 in
theorem b_X10_owner_97 {D : va_G} {ca : Nat → ClassId} {ad : Nat → Nat} {K : Kt} {k136 : Int32 → PH → Prop} {kb : Int32 → Int32 → PH → Prop} {Q : Int32 → PH → Prop} {x1 : Int32} {x3 : Int32} {x4 : Int32} {h : PH} (C : CX (GM D ca ad) (XS (GM D ca ad)) cX10_owner RX10 5 (some .int) 8 K) (hk136 : ∀ (x3 : Int32) (h : PH), k136 x3 h → PW (GM D ca ad) K 5 (qI Q) h 136 [none, none, none, some (.int x3), none] []) (hkb : ∀ (x3 : Int32) (x4 : Int32) (h : PH), kb x3 x4 h → PW (GM D ca ad) K 5 (qI Q) h 97 [some (.ref 0), some (.int x1), none, some (.int x3), some (.int x4)] []) (hw : w_X10_owner_97 k136 Q x1 kb x3 x4 h) : PW (GM D ca ad) K 5 (qI Q) h 97 [some (.ref 0), some (.int x1), none, some (.int x3), some (.int x4)] [] := by
  unfold w_X10_owner_97 at hw
  refine PW.ild4 C dX10_owner_97 ?_
  refine PW.bipush (v := 48) C dX10_owner_99 (by decide) ?_
  refine PW.ald0n C dX10_owner_101 ?_
  refine PW.get0 (v := .ref 2) C cf_10 fl_X10_13 (by decide) oM_0 (fvR (o := 2) rfl) dX10_owner_102 ?_
  refine PW.iconst (v := 0) C dX10_owner_105 (by decide) ?_
  refine PW.iald C dX10_owner_106 aM_2 (vpl (by decide)) ?_
  refine PW.imul C dX10_owner_107 ?_
  refine PW.icmp_ge (tgt := 136) C dX10_owner_108 (by decide) (fun c => ?_) (fun c => ?_)
  · rw [if_pos c] at hw
    exact PW.wk (wk_n (wk_n (wk_n (wk_s (wk_n wk_0))))) (hk136 _ _ hw)
  · rw [if_neg c] at hw
    refine PW.ild3n C dX10_owner_111 ?_
    refine PW.ald0n C dX10_owner_112 ?_
    refine PW.get0 (v := .ref 56) C cf_10 fl_X10_180 (by decide) oM_0 (fvR (o := 56) rfl) dX10_owner_113 ?_
    refine PW.ild4 C dX10_owner_116 ?_
    obtain ⟨hc5, hw⟩ := hw
    refine PW.iald C dX10_owner_118 aM_56 hc5 ?_
    refine PW.ild1n C dX10_owner_119 ?_
    refine PW.icmp_ne (tgt := 127) C dX10_owner_120 (by decide) (fun c => ?_) (fun c => ?_)
    · rw [if_neg c] at hw
      refine PW.iconst (v := 0) C dX10_owner_127 (by decide) ?_
      refine PW.iadd C dX10_owner_128 ?_
      replace hw := hw _ rfl
      refine PW.ist3n C dX10_owner_129 (by decide) rfl ?_
      refine PW.inc4 (v := 1) C dX10_owner_130 (by decide) rfl (by decide) ?_
      refine PW.goto (tgt := 97) C dX10_owner_133 (by decide) ?_
      exact PW.wk (wk_s (wk_s (wk_n (wk_s (wk_s wk_0))))) (hkb _ _ _ hw)
    · rw [if_pos c] at hw
      refine PW.iconst (v := 1) C dX10_owner_123 (by decide) ?_
      refine PW.goto (tgt := 128) C dX10_owner_124 (by decide) ?_
      refine PW.iadd C dX10_owner_128 ?_
      replace hw := hw _ rfl
      refine PW.ist3n C dX10_owner_129 (by decide) rfl ?_
      refine PW.inc4 (v := 1) C dX10_owner_130 (by decide) rfl (by decide) ?_
      refine PW.goto (tgt := 97) C dX10_owner_133 (by decide) ?_
      exact PW.wk (wk_s (wk_s (wk_n (wk_s (wk_s wk_0))))) (hkb _ _ _ hw)
theorem l_X10_owner_97 {D : va_G} {ca : Nat → ClassId} {ad : Nat → Nat} {K : Kt} {k136 : Int32 → PH → Prop} {Q : Int32 → PH → Prop} {x1 : Int32} (C : CX (GM D ca ad) (XS (GM D ca ad)) cX10_owner RX10 5 (some .int) 8 K) (hk136 : ∀ (x3 : Int32) (h : PH), k136 x3 h → PW (GM D ca ad) K 5 (qI Q) h 136 [none, none, none, some (.int x3), none] []) : ∀ (n : Nat) (x3 : Int32) (x4 : Int32) (h : PH), Lp2 (w_X10_owner_97 k136 Q x1) n x3 x4 h → PW (GM D ca ad) K 5 (qI Q) h 97 [some (.ref 0), some (.int x1), none, some (.int x3), some (.int x4)] [] := by
  intro n
  induction n with
  | zero => intro x3 x4 h hw; exact hw.elim
  | succ n ih => intro x3 x4 h hw; exact b_X10_owner_97 C hk136 (fun x3 x4 h hw => ih x3 x4 h hw) hw
def w_X10_owner_27 (Q : Int32 → PH → Prop) (x1 : Int32) (x2 : Int32) (s1 : Int32) (h : PH) : Prop :=
  ∀ h3, h3 = sI h 0 0 s1 → if (gI h3 0 0) = 0 then (if x2 = 0 then (vp_in x1 88 ∧ Q (gI h3 43 (iN x1)) h3) else (if x2 = 1 then (vp_in x1 8 ∧ Q ((gI h3 9 (iN x1)) - 1) h3) else (w_X10_layDay h3 (fun h4 => if x2 = 3 then (w_X10_trespasses x1 (-1) h4 (fun z13 h12 => Q z13 h12)) else (if x2 = 4 then (w_X10_trespasses (-1) x1 h4 (fun z11 h10 => Q z11 h10)) else (∃ n, Lp2 (w_X10_owner_97 (fun y9 h8 => Q y9 h8) Q x1) n 0 0 h4)))))) else (Q 0 h3)
set_option maxRecDepth 8000 in
theorem b_X10_owner_27 {D : va_G} {ca : Nat → ClassId} {ad : Nat → Nat} {K : Kt} {Q : Int32 → PH → Prop} {x1 : Int32} {x2 : Int32} {s1 : Int32} {h : PH} (C : CX (GM D ca ad) (XS (GM D ca ad)) cX10_owner RX10 5 (some .int) 8 K) (hw : w_X10_owner_27 Q x1 x2 s1 h) : PW (GM D ca ad) K 5 (qI Q) h 27 [some (.ref 0), some (.int x1), some (.int x2), none, none] [.int s1, .ref 0] := by
  unfold w_X10_owner_27 at hw
  replace hw := hw _ rfl
  refine PW.put0 C cf_10 fl_X10_235 (by decide) oM_0 rfl rfl rfl (pw_sI oM_0 (by decide) rfl) dX10_owner_27 ?_
  refine PW.ald0n C dX10_owner_30 ?_
  refine PW.get0 C cf_10 fl_X10_235 (by decide) oM_0 (fvI rfl) dX10_owner_31 ?_
  refine PW.if_eq (tgt := 39) C dX10_owner_34 (by decide) (fun c => ?_) (fun c => ?_)
  · rw [if_pos c] at hw
    refine PW.ild2n C dX10_owner_39 ?_
    refine PW.if_ne (tgt := 50) C dX10_owner_40 (by decide) (fun c => ?_) (fun c => ?_)
    · rw [if_neg c] at hw
      refine PW.ild2n C dX10_owner_50 ?_
      refine PW.iconst (v := 1) C dX10_owner_51 (by decide) ?_
      refine PW.icmp_ne (tgt := 64) C dX10_owner_52 (by decide) (fun c => ?_) (fun c => ?_)
      · rw [if_neg c] at hw
        refine PW.ald0n C dX10_owner_64 ?_
        refine PW.callVV0 C ms_X10_layDay ml_X10_515 dX10_owner_65 oM_0 ⟨_, _, rfl⟩ (Nat.le_of_ble_eq_true rfl) (by decide) (Nat.le_of_ble_eq_true rfl) (s_X10_layDay hw) ?_
        clear hw
        intro h4 hw
        refine PW.ild2n C dX10_owner_68 ?_
        refine PW.iconst (v := 3) C dX10_owner_69 (by decide) ?_
        refine PW.icmp_ne (tgt := 80) C dX10_owner_70 (by decide) (fun c => ?_) (fun c => ?_)
        · rw [if_neg c] at hw
          refine PW.ild2n C dX10_owner_80 ?_
          refine PW.iconst (v := 4) C dX10_owner_81 (by decide) ?_
          refine PW.icmp_ne (tgt := 92) C dX10_owner_82 (by decide) (fun c => ?_) (fun c => ?_)
          · rw [if_neg c] at hw
            refine PW.iconst (v := 0) C dX10_owner_92 (by decide) ?_
            refine PW.ist3n C dX10_owner_93 (by decide) rfl ?_
            refine PW.iconst (v := 0) C dX10_owner_94 (by decide) ?_
            refine PW.ist4 C dX10_owner_95 (by decide) rfl ?_
            obtain ⟨n, hw⟩ := hw
            refine PW.wk (wk_s (wk_s (wk_n (wk_s (wk_s wk_0))))) (l_X10_owner_97 C ?_ n _ _ _ hw)
            · intro y9 h8 hw
              refine PW.ild3n C dX10_owner_136 ?_
              exact PW.iret C dX10_owner_137 ⟨_, rfl, hw⟩
          · rw [if_pos c] at hw
            refine PW.ald0n C dX10_owner_85 ?_
            refine PW.iconst (v := (-1)) C dX10_owner_86 (by decide) ?_
            refine PW.ild1n C dX10_owner_87 ?_
            refine PW.callVI2 C ms_X10_trespasses ml_X10_518 dX10_owner_88 oM_0 ⟨_, _, rfl⟩ (Nat.le_of_ble_eq_true rfl) (by decide) (Nat.le_of_ble_eq_true rfl) (s_X10_trespasses hw) ?_
            clear hw
            intro z11 h10 hw
            exact PW.iret C dX10_owner_91 ⟨_, rfl, hw⟩
        · rw [if_pos c] at hw
          refine PW.ald0n C dX10_owner_73 ?_
          refine PW.ild1n C dX10_owner_74 ?_
          refine PW.iconst (v := (-1)) C dX10_owner_75 (by decide) ?_
          refine PW.callVI2 C ms_X10_trespasses ml_X10_518 dX10_owner_76 oM_0 ⟨_, _, rfl⟩ (Nat.le_of_ble_eq_true rfl) (by decide) (Nat.le_of_ble_eq_true rfl) (s_X10_trespasses hw) ?_
          clear hw
          intro z13 h12 hw
          exact PW.iret C dX10_owner_79 ⟨_, rfl, hw⟩
      · rw [if_pos c] at hw
        refine PW.ald0n C dX10_owner_55 ?_
        refine PW.get0 (v := .ref 9) C cf_10 fl_X10_34 (by decide) oM_0 (fvR (o := 9) rfl) dX10_owner_56 ?_
        refine PW.ild1n C dX10_owner_59 ?_
        obtain ⟨hc14, hw⟩ := hw
        refine PW.iald C dX10_owner_60 aM_9 hc14 ?_
        refine PW.iconst (v := 1) C dX10_owner_61 (by decide) ?_
        refine PW.isub C dX10_owner_62 ?_
        exact PW.iret C dX10_owner_63 ⟨_, rfl, hw⟩
    · rw [if_pos c] at hw
      refine PW.ald0n C dX10_owner_43 ?_
      refine PW.get0 (v := .ref 43) C cf_10 fl_X10_141 (by decide) oM_0 (fvR (o := 43) rfl) dX10_owner_44 ?_
      refine PW.ild1n C dX10_owner_47 ?_
      obtain ⟨hc15, hw⟩ := hw
      refine PW.iald C dX10_owner_48 aM_43 hc15 ?_
      exact PW.iret C dX10_owner_49 ⟨_, rfl, hw⟩
  · rw [if_neg c] at hw
    refine PW.iconst (v := 0) C dX10_owner_37 (by decide) ?_
    exact PW.iret C dX10_owner_38 ⟨_, rfl, hw⟩
def w_X10_owner_22 (Q : Int32 → PH → Prop) (x1 : Int32) (x2 : Int32) (h : PH) : Prop :=
  w_X10_owner_27 Q x1 x2 2 h
set_option maxRecDepth 8000 in
theorem b_X10_owner_22 {D : va_G} {ca : Nat → ClassId} {ad : Nat → Nat} {K : Kt} {Q : Int32 → PH → Prop} {x1 : Int32} {x2 : Int32} {h : PH} (C : CX (GM D ca ad) (XS (GM D ca ad)) cX10_owner RX10 5 (some .int) 8 K) (hw : w_X10_owner_22 Q x1 x2 h) : PW (GM D ca ad) K 5 (qI Q) h 22 [some (.ref 0), some (.int x1), some (.int x2), none, none] [.ref 0] := by
  unfold w_X10_owner_22 at hw
  refine PW.iconst (v := 2) C dX10_owner_22 (by decide) ?_
  refine PW.goto (tgt := 27) C dX10_owner_23 (by decide) ?_
  exact PW.wk (wk_s (wk_s (wk_s (wk_n (wk_n wk_0))))) (b_X10_owner_27 C hw)
def w_X10_owner (x1 : Int32) (x2 : Int32) (h : PH) (Q : Int32 → PH → Prop) : Prop :=
  w_X10_isOwner x1 h (fun z2 h1 => if z2 = 0 then (w_X10_owner_27 Q x1 x2 1 h1) else (if x2 < 0 then (w_X10_owner_22 Q x1 x2 h1) else (if x2 ≤ 4 then (w_X10_owner_27 Q x1 x2 0 h1) else (w_X10_owner_22 Q x1 x2 h1))))
set_option maxRecDepth 8000 in
theorem s_X10_owner {D : va_G} {ca : Nat → ClassId} {ad : Nat → Nat} {l : Launch} {x1 : Int32} {x2 : Int32} {h : PH} {Q : Int32 → PH → Prop} (hw : w_X10_owner x1 x2 h Q) : Sp (GM D ca ad) (XS (GM D ca ad)) l 8 yX10_owner cX10_owner 5 (some .int) [.ref 0, .int x1, .int x2] h (qI Q) := by
  refine Sp.of (own := RX10) [some (.ref 0), some (.int x1), some (.int x2), none, none] (by decide +kernel) rfl rfl (Nat.le_of_ble_eq_true rfl) (fun K hl C => ?_)
  subst hl
  unfold w_X10_owner at hw
  refine PW.ald0n C dX10_owner_0 ?_
  refine PW.ald0n C dX10_owner_1 ?_
  refine PW.ild1n C dX10_owner_2 ?_
  refine PW.callVI1 C ms_X10_isOwner ml_X10_512 dX10_owner_3 oM_0 ⟨_, _, rfl⟩ (Nat.le_of_ble_eq_true rfl) (by decide) (Nat.le_of_ble_eq_true rfl) (s_X10_isOwner hw) ?_
  clear hw
  intro z2 h1 hw
  refine PW.if_ne (tgt := 13) C dX10_owner_6 (by decide) (fun c => ?_) (fun c => ?_)
  · rw [if_neg c] at hw
    refine PW.ild2n C dX10_owner_13 ?_
    refine PW.if_lt (tgt := 22) C dX10_owner_14 (by decide) (fun c => ?_) (fun c => ?_)
    · rw [if_pos c] at hw
      exact PW.wk (wk_s (wk_s (wk_s (wk_n (wk_n wk_0))))) (b_X10_owner_22 C hw)
    · rw [if_neg c] at hw
      refine PW.ild2n C dX10_owner_17 ?_
      refine PW.iconst (v := 4) C dX10_owner_18 (by decide) ?_
      refine PW.icmp_le (tgt := 26) C dX10_owner_19 (by decide) (fun c => ?_) (fun c => ?_)
      · rw [if_pos c] at hw
        refine PW.iconst (v := 0) C dX10_owner_26 (by decide) ?_
        exact PW.wk (wk_s (wk_s (wk_s (wk_n (wk_n wk_0))))) (b_X10_owner_27 C hw)
      · rw [if_neg c] at hw
        exact PW.wk (wk_s (wk_s (wk_s (wk_n (wk_n wk_0))))) (b_X10_owner_22 C hw)
  · rw [if_pos c] at hw
    refine PW.iconst (v := 1) C dX10_owner_9 (by decide) ?_
    refine PW.goto (tgt := 27) C dX10_owner_10 (by decide) ?_
    exact PW.wk (wk_s (wk_s (wk_s (wk_n (wk_n wk_0))))) (b_X10_owner_27 C hw)
def w_X10_noise (x1 : Int32) (x2 : Int32) (h : PH) (Q : Int32 → PH → Prop) : Prop :=
  ∀ h1, h1 = sI h 0 0 0 → w_X10_isNoise x1 h1 (fun z3 h2 => if z3 = 0 then (Q (-1) h2) else (if x2 = 0 then (vp_in x1 264 ∧ Q (gI h2 35 (iN x1)) h2) else (if x2 = 1 then (vp_in x1 264 ∧ Q (gI h2 36 (iN x1)) h2) else (if x2 = 2 then (vp_in x1 264 ∧ Q (gI h2 37 (iN x1)) h2) else (if x2 = 3 then (vp_in x1 264 ∧ Q (gI h2 38 (iN x1)) h2) else (if x2 = 4 then (vp_in x1 264 ∧ Q (gI h2 39 (iN x1)) h2) else (if x2 = 5 then (Q ((((gI h2 40 (iN 0)) : Int32) >>> ((x1 : Int32) &&& 31)) &&& 1) h2) else (Q (-1) h2))))))))
set_option maxRecDepth 8000 in
theorem s_X10_noise {D : va_G} {ca : Nat → ClassId} {ad : Nat → Nat} {l : Launch} {x1 : Int32} {x2 : Int32} {h : PH} {Q : Int32 → PH → Prop} (hw : w_X10_noise x1 x2 h Q) : Sp (GM D ca ad) (XS (GM D ca ad)) l 2 yX10_noise cX10_noise 3 (some .int) [.ref 0, .int x1, .int x2] h (qI Q) := by
  refine Sp.of (own := RX10) [some (.ref 0), some (.int x1), some (.int x2)] (by decide +kernel) rfl rfl (Nat.le_of_ble_eq_true rfl) (fun K hl C => ?_)
  subst hl
  unfold w_X10_noise at hw
  refine PW.ald0n C dX10_noise_0 ?_
  refine PW.iconst (v := 0) C dX10_noise_1 (by decide) ?_
  replace hw := hw _ rfl
  refine PW.put0 C cf_10 fl_X10_235 (by decide) oM_0 rfl rfl rfl (pw_sI oM_0 (by decide) rfl) dX10_noise_2 ?_
  refine PW.ald0n C dX10_noise_5 ?_
  refine PW.ild1n C dX10_noise_6 ?_
  refine PW.callVI1 C ms_X10_isNoise ml_X10_521 dX10_noise_7 oM_0 ⟨_, _, rfl⟩ (Nat.le_of_ble_eq_true rfl) (by decide) (Nat.le_of_ble_eq_true rfl) (s_X10_isNoise hw) ?_
  clear hw
  intro z3 h2 hw
  refine PW.if_ne (tgt := 15) C dX10_noise_10 (by decide) (fun c => ?_) (fun c => ?_)
  · rw [if_neg c] at hw
    refine PW.ild2n C dX10_noise_15 ?_
    refine PW.byc 0 (fun c => ?_) (fun c => ?_)
    · rw [if_pos c] at hw
      subst c
      refine PW.tin (tgt := 56) C dX10_noise_16 (by decide) (by decide) rfl (by decide) ?_
      refine PW.ald0n C dX10_noise_56 ?_
      refine PW.get0 (v := .ref 35) C cf_10 fl_X10_117 (by decide) oM_0 (fvR (o := 35) rfl) dX10_noise_57 ?_
      refine PW.ild1n C dX10_noise_60 ?_
      obtain ⟨hc4, hw⟩ := hw
      refine PW.iald C dX10_noise_61 aM_35 hc4 ?_
      exact PW.iret C dX10_noise_62 ⟨_, rfl, hw⟩
    have n5 := c
    rw [if_neg c] at hw
    refine PW.byc 1 (fun c => ?_) (fun c => ?_)
    · rw [if_pos c] at hw
      subst c
      refine PW.tin (tgt := 63) C dX10_noise_16 (by decide) (by decide) rfl (by decide) ?_
      refine PW.ald0n C dX10_noise_63 ?_
      refine PW.get0 (v := .ref 36) C cf_10 fl_X10_120 (by decide) oM_0 (fvR (o := 36) rfl) dX10_noise_64 ?_
      refine PW.ild1n C dX10_noise_67 ?_
      obtain ⟨hc6, hw⟩ := hw
      refine PW.iald C dX10_noise_68 aM_36 hc6 ?_
      exact PW.iret C dX10_noise_69 ⟨_, rfl, hw⟩
    have n7 := c
    rw [if_neg c] at hw
    refine PW.byc 2 (fun c => ?_) (fun c => ?_)
    · rw [if_pos c] at hw
      subst c
      refine PW.tin (tgt := 70) C dX10_noise_16 (by decide) (by decide) rfl (by decide) ?_
      refine PW.ald0n C dX10_noise_70 ?_
      refine PW.get0 (v := .ref 37) C cf_10 fl_X10_123 (by decide) oM_0 (fvR (o := 37) rfl) dX10_noise_71 ?_
      refine PW.ild1n C dX10_noise_74 ?_
      obtain ⟨hc8, hw⟩ := hw
      refine PW.iald C dX10_noise_75 aM_37 hc8 ?_
      exact PW.iret C dX10_noise_76 ⟨_, rfl, hw⟩
    have n9 := c
    rw [if_neg c] at hw
    refine PW.byc 3 (fun c => ?_) (fun c => ?_)
    · rw [if_pos c] at hw
      subst c
      refine PW.tin (tgt := 77) C dX10_noise_16 (by decide) (by decide) rfl (by decide) ?_
      refine PW.ald0n C dX10_noise_77 ?_
      refine PW.get0 (v := .ref 38) C cf_10 fl_X10_126 (by decide) oM_0 (fvR (o := 38) rfl) dX10_noise_78 ?_
      refine PW.ild1n C dX10_noise_81 ?_
      obtain ⟨hc10, hw⟩ := hw
      refine PW.iald C dX10_noise_82 aM_38 hc10 ?_
      exact PW.iret C dX10_noise_83 ⟨_, rfl, hw⟩
    have n11 := c
    rw [if_neg c] at hw
    refine PW.byc 4 (fun c => ?_) (fun c => ?_)
    · rw [if_pos c] at hw
      subst c
      refine PW.tin (tgt := 84) C dX10_noise_16 (by decide) (by decide) rfl (by decide) ?_
      refine PW.ald0n C dX10_noise_84 ?_
      refine PW.get0 (v := .ref 39) C cf_10 fl_X10_129 (by decide) oM_0 (fvR (o := 39) rfl) dX10_noise_85 ?_
      refine PW.ild1n C dX10_noise_88 ?_
      obtain ⟨hc12, hw⟩ := hw
      refine PW.iald C dX10_noise_89 aM_39 hc12 ?_
      exact PW.iret C dX10_noise_90 ⟨_, rfl, hw⟩
    have n13 := c
    rw [if_neg c] at hw
    refine PW.byc 5 (fun c => ?_) (fun c => ?_)
    · rw [if_pos c] at hw
      subst c
      refine PW.tin (tgt := 91) C dX10_noise_16 (by decide) (by decide) rfl (by decide) ?_
      refine PW.ald0n C dX10_noise_91 ?_
      refine PW.get0 (v := .ref 40) C cf_10 fl_X10_132 (by decide) oM_0 (fvR (o := 40) rfl) dX10_noise_92 ?_
      refine PW.iconst (v := 0) C dX10_noise_95 (by decide) ?_
      refine PW.iald C dX10_noise_96 aM_40 (vpl (by decide)) ?_
      refine PW.ild1n C dX10_noise_97 ?_
      refine PW.ishr C dX10_noise_98 ?_
      refine PW.iconst (v := 1) C dX10_noise_99 (by decide) ?_
      refine PW.iand C dX10_noise_100 ?_
      exact PW.iret C dX10_noise_101 ⟨_, rfl, hw⟩
    have n14 := c
    rw [if_neg c] at hw
    refine PW.tout (tgt := 102) C dX10_noise_16 (by have e0 := ne_ti (z := 0) (by decide) n5; have e1 := ne_ti (z := 1) (by decide) n7; have e2 := ne_ti (z := 2) (by decide) n9; have e3 := ne_ti (z := 3) (by decide) n11; have e4 := ne_ti (z := 4) (by decide) n13; have e5 := ne_ti (z := 5) (by decide) n14; omega) (by decide) ?_
    refine PW.iconst (v := (-1)) C dX10_noise_102 (by decide) ?_
    exact PW.iret C dX10_noise_103 ⟨_, rfl, hw⟩
  · rw [if_pos c] at hw
    refine PW.iconst (v := (-1)) C dX10_noise_13 (by decide) ?_
    exact PW.iret C dX10_noise_14 ⟨_, rfl, hw⟩
def w_X10_claim (x1 : Int32) (x2 : Int32) (h : PH) (Q : Int32 → PH → Prop) : Prop :=
  ∀ h1, h1 = sI h 0 0 0 → if x1 < 0 then (Q (-1) h1) else (if x1 < (gI h1 2 (iN 4)) then (if x2 = 0 then (vp_in x1 176 ∧ Q (gI h1 41 (iN x1)) h1) else (if x2 = 1 then (vp_in x1 16 ∧ Q (gI h1 16 (iN x1)) h1) else (if x2 = 2 then (vp_in x1 16 ∧ Q (gI h1 17 (iN x1)) h1) else (if x2 = 3 then (vp_in x1 16 ∧ Q (gI h1 18 (iN x1)) h1) else (Q (-1) h1))))) else (Q (-1) h1))
set_option maxRecDepth 8000 in
theorem s_X10_claim {D : va_G} {ca : Nat → ClassId} {ad : Nat → Nat} {l : Launch} {x1 : Int32} {x2 : Int32} {h : PH} {Q : Int32 → PH → Prop} (hw : w_X10_claim x1 x2 h Q) : Sp (GM D ca ad) (XS (GM D ca ad)) l 1 yX10_claim cX10_claim 3 (some .int) [.ref 0, .int x1, .int x2] h (qI Q) := by
  refine Sp.of (own := RX10) [some (.ref 0), some (.int x1), some (.int x2)] (by decide +kernel) rfl rfl (Nat.le_of_ble_eq_true rfl) (fun K hl C => ?_)
  subst hl
  unfold w_X10_claim at hw
  refine PW.ald0n C dX10_claim_0 ?_
  refine PW.iconst (v := 0) C dX10_claim_1 (by decide) ?_
  replace hw := hw _ rfl
  refine PW.put0 C cf_10 fl_X10_235 (by decide) oM_0 rfl rfl rfl (pw_sI oM_0 (by decide) rfl) dX10_claim_2 ?_
  refine PW.ild1n C dX10_claim_5 ?_
  refine PW.if_lt (tgt := 19) C dX10_claim_6 (by decide) (fun c => ?_) (fun c => ?_)
  · rw [if_pos c] at hw
    refine PW.iconst (v := (-1)) C dX10_claim_19 (by decide) ?_
    exact PW.iret C dX10_claim_20 ⟨_, rfl, hw⟩
  · rw [if_neg c] at hw
    refine PW.ild1n C dX10_claim_9 ?_
    refine PW.ald0n C dX10_claim_10 ?_
    refine PW.get0 (v := .ref 2) C cf_10 fl_X10_13 (by decide) oM_0 (fvR (o := 2) rfl) dX10_claim_11 ?_
    refine PW.iconst (v := 4) C dX10_claim_14 (by decide) ?_
    refine PW.iald C dX10_claim_15 aM_2 (vpl (by decide)) ?_
    refine PW.icmp_lt (tgt := 21) C dX10_claim_16 (by decide) (fun c => ?_) (fun c => ?_)
    · rw [if_pos c] at hw
      refine PW.ild2n C dX10_claim_21 ?_
      refine PW.if_ne (tgt := 34) C dX10_claim_22 (by decide) (fun c => ?_) (fun c => ?_)
      · rw [if_neg c] at hw
        refine PW.ild2n C dX10_claim_34 ?_
        refine PW.iconst (v := 1) C dX10_claim_35 (by decide) ?_
        refine PW.icmp_ne (tgt := 48) C dX10_claim_36 (by decide) (fun c => ?_) (fun c => ?_)
        · rw [if_neg c] at hw
          refine PW.ild2n C dX10_claim_48 ?_
          refine PW.iconst (v := 2) C dX10_claim_49 (by decide) ?_
          refine PW.icmp_ne (tgt := 62) C dX10_claim_50 (by decide) (fun c => ?_) (fun c => ?_)
          · rw [if_neg c] at hw
            refine PW.ild2n C dX10_claim_62 ?_
            refine PW.iconst (v := 3) C dX10_claim_63 (by decide) ?_
            refine PW.icmp_ne (tgt := 76) C dX10_claim_64 (by decide) (fun c => ?_) (fun c => ?_)
            · rw [if_neg c] at hw
              refine PW.iconst (v := (-1)) C dX10_claim_76 (by decide) ?_
              exact PW.iret C dX10_claim_77 ⟨_, rfl, hw⟩
            · rw [if_pos c] at hw
              refine PW.ald0n C dX10_claim_67 ?_
              refine PW.get0 (v := .ref 18) C cf_10 fl_X10_61 (by decide) oM_0 (fvR (o := 18) rfl) dX10_claim_68 ?_
              refine PW.ild1n C dX10_claim_71 ?_
              obtain ⟨hc2, hw⟩ := hw
              refine PW.iald C dX10_claim_72 aM_18 hc2 ?_
              refine PW.goto (tgt := 77) C dX10_claim_73 (by decide) ?_
              exact PW.iret C dX10_claim_77 ⟨_, rfl, hw⟩
          · rw [if_pos c] at hw
            refine PW.ald0n C dX10_claim_53 ?_
            refine PW.get0 (v := .ref 17) C cf_10 fl_X10_58 (by decide) oM_0 (fvR (o := 17) rfl) dX10_claim_54 ?_
            refine PW.ild1n C dX10_claim_57 ?_
            obtain ⟨hc3, hw⟩ := hw
            refine PW.iald C dX10_claim_58 aM_17 hc3 ?_
            refine PW.goto (tgt := 77) C dX10_claim_59 (by decide) ?_
            exact PW.iret C dX10_claim_77 ⟨_, rfl, hw⟩
        · rw [if_pos c] at hw
          refine PW.ald0n C dX10_claim_39 ?_
          refine PW.get0 (v := .ref 16) C cf_10 fl_X10_55 (by decide) oM_0 (fvR (o := 16) rfl) dX10_claim_40 ?_
          refine PW.ild1n C dX10_claim_43 ?_
          obtain ⟨hc4, hw⟩ := hw
          refine PW.iald C dX10_claim_44 aM_16 hc4 ?_
          refine PW.goto (tgt := 77) C dX10_claim_45 (by decide) ?_
          exact PW.iret C dX10_claim_77 ⟨_, rfl, hw⟩
      · rw [if_pos c] at hw
        refine PW.ald0n C dX10_claim_25 ?_
        refine PW.get0 (v := .ref 41) C cf_10 fl_X10_135 (by decide) oM_0 (fvR (o := 41) rfl) dX10_claim_26 ?_
        refine PW.ild1n C dX10_claim_29 ?_
        obtain ⟨hc5, hw⟩ := hw
        refine PW.iald C dX10_claim_30 aM_41 hc5 ?_
        refine PW.goto (tgt := 77) C dX10_claim_31 (by decide) ?_
        exact PW.iret C dX10_claim_77 ⟨_, rfl, hw⟩
    · rw [if_neg c] at hw
      refine PW.iconst (v := (-1)) C dX10_claim_19 (by decide) ?_
      exact PW.iret C dX10_claim_20 ⟨_, rfl, hw⟩
def w_X10_isLink (x1 : Int32) (h : PH) (Q : Int32 → PH → Prop) : Prop :=
  if x1 < 0 then (Q 0 h) else (if (gI h 2 (iN 1)) ≤ x1 then (Q 0 h) else (Q 1 h))
set_option maxRecDepth 8000 in
theorem s_X10_isLink {D : va_G} {ca : Nat → ClassId} {ad : Nat → Nat} {l : Launch} {x1 : Int32} {h : PH} {Q : Int32 → PH → Prop} (hw : w_X10_isLink x1 h Q) : Sp (GM D ca ad) (XS (GM D ca ad)) l 1 yX10_isLink cX10_isLink 2 (some .boolean) [.ref 0, .int x1] h (qI Q) := by
  refine Sp.of (own := RX10) [some (.ref 0), some (.int x1)] (by decide +kernel) rfl rfl (Nat.le_of_ble_eq_true rfl) (fun K hl C => ?_)
  subst hl
  unfold w_X10_isLink at hw
  refine PW.ild1n C dX10_isLink_0 ?_
  refine PW.if_lt (tgt := 18) C dX10_isLink_1 (by decide) (fun c => ?_) (fun c => ?_)
  · rw [if_pos c] at hw
    refine PW.iconst (v := 0) C dX10_isLink_18 (by decide) ?_
    exact PW.zret C dX10_isLink_19 (by decide) ⟨_, rfl, hw⟩
  · rw [if_neg c] at hw
    refine PW.ild1n C dX10_isLink_4 ?_
    refine PW.ald0n C dX10_isLink_5 ?_
    refine PW.get0 (v := .ref 2) C cf_10 fl_X10_13 (by decide) oM_0 (fvR (o := 2) rfl) dX10_isLink_6 ?_
    refine PW.iconst (v := 1) C dX10_isLink_9 (by decide) ?_
    refine PW.iald C dX10_isLink_10 aM_2 (vpl (by decide)) ?_
    refine PW.icmp_ge (tgt := 18) C dX10_isLink_11 (by decide) (fun c => ?_) (fun c => ?_)
    · rw [if_pos c] at hw
      refine PW.iconst (v := 0) C dX10_isLink_18 (by decide) ?_
      exact PW.zret C dX10_isLink_19 (by decide) ⟨_, rfl, hw⟩
    · rw [if_neg c] at hw
      refine PW.iconst (v := 1) C dX10_isLink_14 (by decide) ?_
      refine PW.goto (tgt := 19) C dX10_isLink_15 (by decide) ?_
      exact PW.zret C dX10_isLink_19 (by decide) ⟨_, rfl, hw⟩
def w_X10_link (x1 : Int32) (x2 : Int32) (h : PH) (Q : Int32 → PH → Prop) : Prop :=
  ∀ h1, h1 = sI h 0 0 0 → w_X10_isLink x1 h1 (fun z3 h2 => if z3 = 0 then (Q (-1) h2) else (if x2 = 0 then (vp_in x1 18 ∧ Q (gI h2 4 (iN x1)) h2) else (if x2 = 1 then (vp_in x1 18 ∧ Q (gI h2 5 (iN x1)) h2) else (if x2 = 2 then (vp_in x1 18 ∧ Q (gI h2 6 (iN x1)) h2) else (if x2 = 3 then (Q ((((gI h2 42 (iN 0)) : Int32) >>> ((x1 : Int32) &&& 31)) &&& 1) h2) else (Q (-1) h2))))))
set_option maxRecDepth 8000 in
theorem s_X10_link {D : va_G} {ca : Nat → ClassId} {ad : Nat → Nat} {l : Launch} {x1 : Int32} {x2 : Int32} {h : PH} {Q : Int32 → PH → Prop} (hw : w_X10_link x1 x2 h Q) : Sp (GM D ca ad) (XS (GM D ca ad)) l 2 yX10_link cX10_link 3 (some .int) [.ref 0, .int x1, .int x2] h (qI Q) := by
  refine Sp.of (own := RX10) [some (.ref 0), some (.int x1), some (.int x2)] (by decide +kernel) rfl rfl (Nat.le_of_ble_eq_true rfl) (fun K hl C => ?_)
  subst hl
  unfold w_X10_link at hw
  refine PW.ald0n C dX10_link_0 ?_
  refine PW.iconst (v := 0) C dX10_link_1 (by decide) ?_
  replace hw := hw _ rfl
  refine PW.put0 C cf_10 fl_X10_235 (by decide) oM_0 rfl rfl rfl (pw_sI oM_0 (by decide) rfl) dX10_link_2 ?_
  refine PW.ald0n C dX10_link_5 ?_
  refine PW.ild1n C dX10_link_6 ?_
  refine PW.callVI1 C ms_X10_isLink ml_X10_524 dX10_link_7 oM_0 ⟨_, _, rfl⟩ (Nat.le_of_ble_eq_true rfl) (by decide) (Nat.le_of_ble_eq_true rfl) (s_X10_isLink hw) ?_
  clear hw
  intro z3 h2 hw
  refine PW.if_ne (tgt := 15) C dX10_link_10 (by decide) (fun c => ?_) (fun c => ?_)
  · rw [if_neg c] at hw
    refine PW.ild2n C dX10_link_15 ?_
    refine PW.if_ne (tgt := 28) C dX10_link_16 (by decide) (fun c => ?_) (fun c => ?_)
    · rw [if_neg c] at hw
      refine PW.ild2n C dX10_link_28 ?_
      refine PW.iconst (v := 1) C dX10_link_29 (by decide) ?_
      refine PW.icmp_ne (tgt := 42) C dX10_link_30 (by decide) (fun c => ?_) (fun c => ?_)
      · rw [if_neg c] at hw
        refine PW.ild2n C dX10_link_42 ?_
        refine PW.iconst (v := 2) C dX10_link_43 (by decide) ?_
        refine PW.icmp_ne (tgt := 56) C dX10_link_44 (by decide) (fun c => ?_) (fun c => ?_)
        · rw [if_neg c] at hw
          refine PW.ild2n C dX10_link_56 ?_
          refine PW.iconst (v := 3) C dX10_link_57 (by decide) ?_
          refine PW.icmp_ne (tgt := 74) C dX10_link_58 (by decide) (fun c => ?_) (fun c => ?_)
          · rw [if_neg c] at hw
            refine PW.iconst (v := (-1)) C dX10_link_74 (by decide) ?_
            exact PW.iret C dX10_link_75 ⟨_, rfl, hw⟩
          · rw [if_pos c] at hw
            refine PW.ald0n C dX10_link_61 ?_
            refine PW.get0 (v := .ref 42) C cf_10 fl_X10_138 (by decide) oM_0 (fvR (o := 42) rfl) dX10_link_62 ?_
            refine PW.iconst (v := 0) C dX10_link_65 (by decide) ?_
            refine PW.iald C dX10_link_66 aM_42 (vpl (by decide)) ?_
            refine PW.ild1n C dX10_link_67 ?_
            refine PW.ishr C dX10_link_68 ?_
            refine PW.iconst (v := 1) C dX10_link_69 (by decide) ?_
            refine PW.iand C dX10_link_70 ?_
            refine PW.goto (tgt := 75) C dX10_link_71 (by decide) ?_
            exact PW.iret C dX10_link_75 ⟨_, rfl, hw⟩
        · rw [if_pos c] at hw
          refine PW.ald0n C dX10_link_47 ?_
          refine PW.get0 (v := .ref 6) C cf_10 fl_X10_25 (by decide) oM_0 (fvR (o := 6) rfl) dX10_link_48 ?_
          refine PW.ild1n C dX10_link_51 ?_
          obtain ⟨hc4, hw⟩ := hw
          refine PW.iald C dX10_link_52 aM_6 hc4 ?_
          refine PW.goto (tgt := 75) C dX10_link_53 (by decide) ?_
          exact PW.iret C dX10_link_75 ⟨_, rfl, hw⟩
      · rw [if_pos c] at hw
        refine PW.ald0n C dX10_link_33 ?_
        refine PW.get0 (v := .ref 5) C cf_10 fl_X10_22 (by decide) oM_0 (fvR (o := 5) rfl) dX10_link_34 ?_
        refine PW.ild1n C dX10_link_37 ?_
        obtain ⟨hc5, hw⟩ := hw
        refine PW.iald C dX10_link_38 aM_5 hc5 ?_
        refine PW.goto (tgt := 75) C dX10_link_39 (by decide) ?_
        exact PW.iret C dX10_link_75 ⟨_, rfl, hw⟩
    · rw [if_pos c] at hw
      refine PW.ald0n C dX10_link_19 ?_
      refine PW.get0 (v := .ref 4) C cf_10 fl_X10_19 (by decide) oM_0 (fvR (o := 4) rfl) dX10_link_20 ?_
      refine PW.ild1n C dX10_link_23 ?_
      obtain ⟨hc6, hw⟩ := hw
      refine PW.iald C dX10_link_24 aM_4 hc6 ?_
      refine PW.goto (tgt := 75) C dX10_link_25 (by decide) ?_
      exact PW.iret C dX10_link_75 ⟨_, rfl, hw⟩
  · rw [if_pos c] at hw
    refine PW.iconst (v := (-1)) C dX10_link_13 (by decide) ?_
    exact PW.iret C dX10_link_14 ⟨_, rfl, hw⟩
def w_X10_far (x1 : Int32) (x2 : Int32) (h : PH) (Q : Int32 → PH → Prop) : Prop :=
  ∀ h1, h1 = sI h 0 0 0 → w_X10_isPlace x1 h1 (fun z3 h2 => if z3 = 0 then (Q (-1) h2) else (w_X10_isPlace x2 h2 (fun z5 h4 => if z5 = 0 then (Q (-1) h4) else (w_X10_layFar (gI h4 42 (iN 0)) (-1) h4 (fun h6 => vp_in ((6 * x1) + x2) 36 ∧ ∀ (y8 : Int32), y8 = (gI h6 50 (iN ((6 * x1) + x2))) → if y8 < 100000 then (Q y8 h6) else (Q (-2) h6))))))
set_option maxRecDepth 8000 in
theorem s_X10_far {D : va_G} {ca : Nat → ClassId} {ad : Nat → Nat} {l : Launch} {x1 : Int32} {x2 : Int32} {h : PH} {Q : Int32 → PH → Prop} (hw : w_X10_far x1 x2 h Q) : Sp (GM D ca ad) (XS (GM D ca ad)) l 2 yX10_far cX10_far 4 (some .int) [.ref 0, .int x1, .int x2] h (qI Q) := by
  refine Sp.of (own := RX10) [some (.ref 0), some (.int x1), some (.int x2), none] (by decide +kernel) rfl rfl (Nat.le_of_ble_eq_true rfl) (fun K hl C => ?_)
  subst hl
  unfold w_X10_far at hw
  refine PW.ald0n C dX10_far_0 ?_
  refine PW.iconst (v := 0) C dX10_far_1 (by decide) ?_
  replace hw := hw _ rfl
  refine PW.put0 C cf_10 fl_X10_235 (by decide) oM_0 rfl rfl rfl (pw_sI oM_0 (by decide) rfl) dX10_far_2 ?_
  refine PW.ald0n C dX10_far_5 ?_
  refine PW.ild1n C dX10_far_6 ?_
  refine PW.callVI1 C ms_X10_isPlace ml_X10_527 dX10_far_7 oM_0 ⟨_, _, rfl⟩ (Nat.le_of_ble_eq_true rfl) (by decide) (Nat.le_of_ble_eq_true rfl) (s_X10_isPlace hw) ?_
  clear hw
  intro z3 h2 hw
  refine PW.if_eq (tgt := 21) C dX10_far_10 (by decide) (fun c => ?_) (fun c => ?_)
  · rw [if_pos c] at hw
    refine PW.iconst (v := (-1)) C dX10_far_21 (by decide) ?_
    exact PW.iret C dX10_far_22 ⟨_, rfl, hw⟩
  · rw [if_neg c] at hw
    refine PW.ald0n C dX10_far_13 ?_
    refine PW.ild2n C dX10_far_14 ?_
    refine PW.callVI1 C ms_X10_isPlace ml_X10_527 dX10_far_15 oM_0 ⟨_, _, rfl⟩ (Nat.le_of_ble_eq_true rfl) (by decide) (Nat.le_of_ble_eq_true rfl) (s_X10_isPlace hw) ?_
    clear hw
    intro z5 h4 hw
    refine PW.if_ne (tgt := 23) C dX10_far_18 (by decide) (fun c => ?_) (fun c => ?_)
    · rw [if_neg c] at hw
      refine PW.ald0n C dX10_far_23 ?_
      refine PW.ald0n C dX10_far_24 ?_
      refine PW.get0 (v := .ref 42) C cf_10 fl_X10_138 (by decide) oM_0 (fvR (o := 42) rfl) dX10_far_25 ?_
      refine PW.iconst (v := 0) C dX10_far_28 (by decide) ?_
      refine PW.iald C dX10_far_29 aM_42 (vpl (by decide)) ?_
      refine PW.iconst (v := (-1)) C dX10_far_30 (by decide) ?_
      refine PW.callVV2 C ms_X10_layFar ml_X10_496 dX10_far_31 oM_0 ⟨_, _, rfl⟩ (Nat.le_of_ble_eq_true rfl) (by decide) (Nat.le_of_ble_eq_true rfl) (s_X10_layFar hw) ?_
      clear hw
      intro h6 hw
      refine PW.ald0n C dX10_far_34 ?_
      refine PW.get0 (v := .ref 50) C cf_10 fl_X10_162 (by decide) oM_0 (fvR (o := 50) rfl) dX10_far_35 ?_
      refine PW.bipush (v := 6) C dX10_far_38 (by decide) ?_
      refine PW.ild1n C dX10_far_40 ?_
      refine PW.imul C dX10_far_41 ?_
      refine PW.ild2n C dX10_far_42 ?_
      refine PW.iadd C dX10_far_43 ?_
      obtain ⟨hc7, hw⟩ := hw
      refine PW.iald C dX10_far_44 aM_50 hc7 ?_
      replace hw := hw _ rfl
      refine PW.ist3n C dX10_far_45 (by decide) rfl ?_
      refine PW.ild3n C dX10_far_46 ?_
      refine PW.ldcw (v := 100000) C cs_X10_473 dX10_far_47 ?_
      refine PW.icmp_lt (tgt := 58) C dX10_far_50 (by decide) (fun c => ?_) (fun c => ?_)
      · rw [if_pos c] at hw
        refine PW.ild3n C dX10_far_58 ?_
        exact PW.iret C dX10_far_59 ⟨_, rfl, hw⟩
      · rw [if_neg c] at hw
        refine PW.bipush (v := (-2)) C dX10_far_53 (by decide) ?_
        refine PW.goto (tgt := 59) C dX10_far_55 (by decide) ?_
        exact PW.iret C dX10_far_59 ⟨_, rfl, hw⟩
    · rw [if_pos c] at hw
      refine PW.iconst (v := (-1)) C dX10_far_21 (by decide) ?_
      exact PW.iret C dX10_far_22 ⟨_, rfl, hw⟩
def w_X10_heard (x1 : Int32) (x2 : Int32) (h : PH) (Q : Int32 → PH → Prop) : Prop :=
  ∀ h1, h1 = sI h 0 0 0 → w_X10_isPlace x1 h1 (fun z3 h2 => if z3 = 0 then (Q (-1) h2) else (w_X10_isMinute x2 h2 (fun z5 h4 => if z5 = 0 then (Q (-1) h4) else (w_X10_layDay h4 (fun h6 => vp_in ((48 * x1) + x2) 288 ∧ ∀ (y8 : Int32), y8 = (gI h6 51 (iN ((48 * x1) + x2))) → if y8 = (-1) then (Q (-2) h6) else (Q y8 h6))))))
set_option maxRecDepth 8000 in
theorem s_X10_heard {D : va_G} {ca : Nat → ClassId} {ad : Nat → Nat} {l : Launch} {x1 : Int32} {x2 : Int32} {h : PH} {Q : Int32 → PH → Prop} (hw : w_X10_heard x1 x2 h Q) : Sp (GM D ca ad) (XS (GM D ca ad)) l 8 yX10_heard cX10_heard 4 (some .int) [.ref 0, .int x1, .int x2] h (qI Q) := by
  refine Sp.of (own := RX10) [some (.ref 0), some (.int x1), some (.int x2), none] (by decide +kernel) rfl rfl (Nat.le_of_ble_eq_true rfl) (fun K hl C => ?_)
  subst hl
  unfold w_X10_heard at hw
  refine PW.ald0n C dX10_heard_0 ?_
  refine PW.iconst (v := 0) C dX10_heard_1 (by decide) ?_
  replace hw := hw _ rfl
  refine PW.put0 C cf_10 fl_X10_235 (by decide) oM_0 rfl rfl rfl (pw_sI oM_0 (by decide) rfl) dX10_heard_2 ?_
  refine PW.ald0n C dX10_heard_5 ?_
  refine PW.ild1n C dX10_heard_6 ?_
  refine PW.callVI1 C ms_X10_isPlace ml_X10_527 dX10_heard_7 oM_0 ⟨_, _, rfl⟩ (Nat.le_of_ble_eq_true rfl) (by decide) (Nat.le_of_ble_eq_true rfl) (s_X10_isPlace hw) ?_
  clear hw
  intro z3 h2 hw
  refine PW.if_eq (tgt := 20) C dX10_heard_10 (by decide) (fun c => ?_) (fun c => ?_)
  · rw [if_pos c] at hw
    refine PW.iconst (v := (-1)) C dX10_heard_20 (by decide) ?_
    exact PW.iret C dX10_heard_21 ⟨_, rfl, hw⟩
  · rw [if_neg c] at hw
    refine PW.ild2n C dX10_heard_13 ?_
    refine PW.callSI1 C ms_X10_isMinute ml_X10_530 dX10_heard_14 (Nat.le_of_ble_eq_true rfl) (by decide) (Nat.le_of_ble_eq_true rfl) (s_X10_isMinute hw) ?_
    clear hw
    intro z5 h4 hw
    refine PW.if_ne (tgt := 22) C dX10_heard_17 (by decide) (fun c => ?_) (fun c => ?_)
    · rw [if_neg c] at hw
      refine PW.ald0n C dX10_heard_22 ?_
      refine PW.callVV0 C ms_X10_layDay ml_X10_515 dX10_heard_23 oM_0 ⟨_, _, rfl⟩ (Nat.le_of_ble_eq_true rfl) (by decide) (Nat.le_of_ble_eq_true rfl) (s_X10_layDay hw) ?_
      clear hw
      intro h6 hw
      refine PW.ald0n C dX10_heard_26 ?_
      refine PW.get0 (v := .ref 51) C cf_10 fl_X10_165 (by decide) oM_0 (fvR (o := 51) rfl) dX10_heard_27 ?_
      refine PW.bipush (v := 48) C dX10_heard_30 (by decide) ?_
      refine PW.ild1n C dX10_heard_32 ?_
      refine PW.imul C dX10_heard_33 ?_
      refine PW.ild2n C dX10_heard_34 ?_
      refine PW.iadd C dX10_heard_35 ?_
      obtain ⟨hc7, hw⟩ := hw
      refine PW.iald C dX10_heard_36 aM_51 hc7 ?_
      replace hw := hw _ rfl
      refine PW.ist3n C dX10_heard_37 (by decide) rfl ?_
      refine PW.ild3n C dX10_heard_38 ?_
      refine PW.iconst (v := (-1)) C dX10_heard_39 (by decide) ?_
      refine PW.icmp_ne (tgt := 48) C dX10_heard_40 (by decide) (fun c => ?_) (fun c => ?_)
      · rw [if_neg c] at hw
        refine PW.ild3n C dX10_heard_48 ?_
        exact PW.iret C dX10_heard_49 ⟨_, rfl, hw⟩
      · rw [if_pos c] at hw
        refine PW.bipush (v := (-2)) C dX10_heard_43 (by decide) ?_
        refine PW.goto (tgt := 49) C dX10_heard_45 (by decide) ?_
        exact PW.iret C dX10_heard_49 ⟨_, rfl, hw⟩
    · rw [if_pos c] at hw
      refine PW.iconst (v := (-1)) C dX10_heard_20 (by decide) ?_
      exact PW.iret C dX10_heard_21 ⟨_, rfl, hw⟩
def w_X10_hush_26 (k62 : Int64 → PH → Prop) (Q : Int64 → PH → Prop) (x1 : Int32) (kb : Int64 → Int32 → PH → Prop) (x2 : Int64) (x4 : Int32) (h : PH) : Prop :=
  if 48 ≤ x4 then (k62 x2 h) else (vp_in ((48 * x1) + x4) 288 ∧ if (gI h 51 (iN ((48 * x1) + x4))) = (-1) then (∀ (y6 : Int64), y6 = (x2 ||| ((1 : Int64) <<< ((x4 : Int32).toInt64 &&& 63))) → kb y6 (x4 + 1) h) else (kb x2 (x4 + 1) h))
set_option maxRecDepth 8000 in
theorem b_X10_hush_26 {D : va_G} {ca : Nat → ClassId} {ad : Nat → Nat} {K : Kt} {k62 : Int64 → PH → Prop} {kb : Int64 → Int32 → PH → Prop} {Q : Int64 → PH → Prop} {x1 : Int32} {x2 : Int64} {x4 : Int32} {h : PH} (C : CX (GM D ca ad) (XS (GM D ca ad)) cX10_hush RX10 5 (some .long) 8 K) (hk62 : ∀ (x2 : Int64) (h : PH), k62 x2 h → PW (GM D ca ad) K 5 (qJ Q) h 62 [none, none, some (.long x2), none, none] []) (hkb : ∀ (x2 : Int64) (x4 : Int32) (h : PH), kb x2 x4 h → PW (GM D ca ad) K 5 (qJ Q) h 26 [some (.ref 0), some (.int x1), some (.long x2), none, some (.int x4)] []) (hw : w_X10_hush_26 k62 Q x1 kb x2 x4 h) : PW (GM D ca ad) K 5 (qJ Q) h 26 [some (.ref 0), some (.int x1), some (.long x2), none, some (.int x4)] [] := by
  unfold w_X10_hush_26 at hw
  refine PW.ild4 C dX10_hush_26 ?_
  refine PW.bipush (v := 48) C dX10_hush_28 (by decide) ?_
  refine PW.icmp_ge (tgt := 62) C dX10_hush_30 (by decide) (fun c => ?_) (fun c => ?_)
  · rw [if_pos c] at hw
    exact PW.wk (wk_n (wk_n (wk_s (wk_n (wk_n wk_0))))) (hk62 _ _ hw)
  · rw [if_neg c] at hw
    refine PW.ald0n C dX10_hush_33 ?_
    refine PW.get0 (v := .ref 51) C cf_10 fl_X10_165 (by decide) oM_0 (fvR (o := 51) rfl) dX10_hush_34 ?_
    refine PW.bipush (v := 48) C dX10_hush_37 (by decide) ?_
    refine PW.ild1n C dX10_hush_39 ?_
    refine PW.imul C dX10_hush_40 ?_
    refine PW.ild4 C dX10_hush_41 ?_
    refine PW.iadd C dX10_hush_43 ?_
    obtain ⟨hc5, hw⟩ := hw
    refine PW.iald C dX10_hush_44 aM_51 hc5 ?_
    refine PW.iconst (v := (-1)) C dX10_hush_45 (by decide) ?_
    refine PW.icmp_ne (tgt := 56) C dX10_hush_46 (by decide) (fun c => ?_) (fun c => ?_)
    · rw [if_neg c] at hw
      refine PW.inc4 (v := 1) C dX10_hush_56 (by decide) rfl (by decide) ?_
      refine PW.goto (tgt := 26) C dX10_hush_59 (by decide) ?_
      exact PW.wk (wk_s (wk_s (wk_s (wk_n (wk_s wk_0))))) (hkb _ _ _ hw)
    · rw [if_pos c] at hw
      refine PW.lld2n C dX10_hush_49 ?_
      refine PW.lconst (v := 1) C dX10_hush_50 (by decide) ?_
      refine PW.ild4 C dX10_hush_51 ?_
      refine PW.lshl C dX10_hush_53 ?_
      refine PW.lor C dX10_hush_54 ?_
      replace hw := hw _ rfl
      refine PW.lst2n C dX10_hush_55 (by decide) rfl ?_
      refine PW.inc4 (v := 1) C dX10_hush_56 (by decide) rfl (by decide) ?_
      refine PW.goto (tgt := 26) C dX10_hush_59 (by decide) ?_
      exact PW.wk (wk_s (wk_s (wk_s (wk_n (wk_s wk_0))))) (hkb _ _ _ hw)
theorem l_X10_hush_26 {D : va_G} {ca : Nat → ClassId} {ad : Nat → Nat} {K : Kt} {k62 : Int64 → PH → Prop} {Q : Int64 → PH → Prop} {x1 : Int32} (C : CX (GM D ca ad) (XS (GM D ca ad)) cX10_hush RX10 5 (some .long) 8 K) (hk62 : ∀ (x2 : Int64) (h : PH), k62 x2 h → PW (GM D ca ad) K 5 (qJ Q) h 62 [none, none, some (.long x2), none, none] []) : ∀ (n : Nat) (x2 : Int64) (x4 : Int32) (h : PH), Lp2 (w_X10_hush_26 k62 Q x1) n x2 x4 h → PW (GM D ca ad) K 5 (qJ Q) h 26 [some (.ref 0), some (.int x1), some (.long x2), none, some (.int x4)] [] := by
  intro n
  induction n with
  | zero => intro x2 x4 h hw; exact hw.elim
  | succ n ih => intro x2 x4 h hw; exact b_X10_hush_26 C hk62 (fun x2 x4 h hw => ih x2 x4 h hw) hw
def w_X10_hush (x1 : Int32) (h : PH) (Q : Int64 → PH → Prop) : Prop :=
  ∀ h1, h1 = sI h 0 0 0 → w_X10_isPlace x1 h1 (fun z3 h2 => if z3 = 0 then (Q (-1) h2) else (w_X10_layDay h2 (fun h4 => ∃ n, Lp2 (w_X10_hush_26 (fun y8 h7 => Q y8 h7) Q x1) n 0 0 h4)))
set_option maxRecDepth 8000 in
theorem s_X10_hush {D : va_G} {ca : Nat → ClassId} {ad : Nat → Nat} {l : Launch} {x1 : Int32} {h : PH} {Q : Int64 → PH → Prop} (hw : w_X10_hush x1 h Q) : Sp (GM D ca ad) (XS (GM D ca ad)) l 8 yX10_hush cX10_hush 5 (some .long) [.ref 0, .int x1] h (qJ Q) := by
  refine Sp.of (own := RX10) [some (.ref 0), some (.int x1), none, none, none] (by decide +kernel) rfl rfl (Nat.le_of_ble_eq_true rfl) (fun K hl C => ?_)
  subst hl
  unfold w_X10_hush at hw
  refine PW.ald0n C dX10_hush_0 ?_
  refine PW.iconst (v := 0) C dX10_hush_1 (by decide) ?_
  replace hw := hw _ rfl
  refine PW.put0 C cf_10 fl_X10_235 (by decide) oM_0 rfl rfl rfl (pw_sI oM_0 (by decide) rfl) dX10_hush_2 ?_
  refine PW.ald0n C dX10_hush_5 ?_
  refine PW.ild1n C dX10_hush_6 ?_
  refine PW.callVI1 C ms_X10_isPlace ml_X10_527 dX10_hush_7 oM_0 ⟨_, _, rfl⟩ (Nat.le_of_ble_eq_true rfl) (by decide) (Nat.le_of_ble_eq_true rfl) (s_X10_isPlace hw) ?_
  clear hw
  intro z3 h2 hw
  refine PW.if_ne (tgt := 17) C dX10_hush_10 (by decide) (fun c => ?_) (fun c => ?_)
  · rw [if_neg c] at hw
    refine PW.ald0n C dX10_hush_17 ?_
    refine PW.callVV0 C ms_X10_layDay ml_X10_515 dX10_hush_18 oM_0 ⟨_, _, rfl⟩ (Nat.le_of_ble_eq_true rfl) (by decide) (Nat.le_of_ble_eq_true rfl) (s_X10_layDay hw) ?_
    clear hw
    intro h4 hw
    refine PW.lconst (v := 0) C dX10_hush_21 (by decide) ?_
    refine PW.lst2n C dX10_hush_22 (by decide) rfl ?_
    refine PW.iconst (v := 0) C dX10_hush_23 (by decide) ?_
    refine PW.ist4 C dX10_hush_24 (by decide) rfl ?_
    obtain ⟨n, hw⟩ := hw
    refine PW.wk (wk_s (wk_s (wk_s (wk_n (wk_s wk_0))))) (l_X10_hush_26 C ?_ n _ _ _ hw)
    · intro y8 h7 hw
      refine PW.lld2n C dX10_hush_62 ?_
      exact PW.lret C dX10_hush_63 ⟨_, rfl, hw⟩
  · rw [if_pos c] at hw
    refine PW.ldc2 (v := (-1)) C cs_X10_533 dX10_hush_13 ?_
    exact PW.lret C dX10_hush_16 ⟨_, rfl, hw⟩
def w_X10_whose (x1 : Int32) (x2 : Int32) (h : PH) (Q : Int32 → PH → Prop) : Prop :=
  ∀ h1, h1 = sI h 0 0 0 → w_X10_isPlace x1 h1 (fun z3 h2 => if z3 = 0 then (Q (-1) h2) else (w_X10_isMinute x2 h2 (fun z5 h4 => if z5 = 0 then (Q (-1) h4) else (w_X10_layDay h4 (fun h6 => vp_in ((48 * x1) + x2) 288 ∧ Q (gI h6 56 (iN ((48 * x1) + x2))) h6)))))
set_option maxRecDepth 8000 in
theorem s_X10_whose {D : va_G} {ca : Nat → ClassId} {ad : Nat → Nat} {l : Launch} {x1 : Int32} {x2 : Int32} {h : PH} {Q : Int32 → PH → Prop} (hw : w_X10_whose x1 x2 h Q) : Sp (GM D ca ad) (XS (GM D ca ad)) l 8 yX10_whose cX10_whose 3 (some .int) [.ref 0, .int x1, .int x2] h (qI Q) := by
  refine Sp.of (own := RX10) [some (.ref 0), some (.int x1), some (.int x2)] (by decide +kernel) rfl rfl (Nat.le_of_ble_eq_true rfl) (fun K hl C => ?_)
  subst hl
  unfold w_X10_whose at hw
  refine PW.ald0n C dX10_whose_0 ?_
  refine PW.iconst (v := 0) C dX10_whose_1 (by decide) ?_
  replace hw := hw _ rfl
  refine PW.put0 C cf_10 fl_X10_235 (by decide) oM_0 rfl rfl rfl (pw_sI oM_0 (by decide) rfl) dX10_whose_2 ?_
  refine PW.ald0n C dX10_whose_5 ?_
  refine PW.ild1n C dX10_whose_6 ?_
  refine PW.callVI1 C ms_X10_isPlace ml_X10_527 dX10_whose_7 oM_0 ⟨_, _, rfl⟩ (Nat.le_of_ble_eq_true rfl) (by decide) (Nat.le_of_ble_eq_true rfl) (s_X10_isPlace hw) ?_
  clear hw
  intro z3 h2 hw
  refine PW.if_eq (tgt := 20) C dX10_whose_10 (by decide) (fun c => ?_) (fun c => ?_)
  · rw [if_pos c] at hw
    refine PW.iconst (v := (-1)) C dX10_whose_20 (by decide) ?_
    exact PW.iret C dX10_whose_21 ⟨_, rfl, hw⟩
  · rw [if_neg c] at hw
    refine PW.ild2n C dX10_whose_13 ?_
    refine PW.callSI1 C ms_X10_isMinute ml_X10_530 dX10_whose_14 (Nat.le_of_ble_eq_true rfl) (by decide) (Nat.le_of_ble_eq_true rfl) (s_X10_isMinute hw) ?_
    clear hw
    intro z5 h4 hw
    refine PW.if_ne (tgt := 22) C dX10_whose_17 (by decide) (fun c => ?_) (fun c => ?_)
    · rw [if_neg c] at hw
      refine PW.ald0n C dX10_whose_22 ?_
      refine PW.callVV0 C ms_X10_layDay ml_X10_515 dX10_whose_23 oM_0 ⟨_, _, rfl⟩ (Nat.le_of_ble_eq_true rfl) (by decide) (Nat.le_of_ble_eq_true rfl) (s_X10_layDay hw) ?_
      clear hw
      intro h6 hw
      refine PW.ald0n C dX10_whose_26 ?_
      refine PW.get0 (v := .ref 56) C cf_10 fl_X10_180 (by decide) oM_0 (fvR (o := 56) rfl) dX10_whose_27 ?_
      refine PW.bipush (v := 48) C dX10_whose_30 (by decide) ?_
      refine PW.ild1n C dX10_whose_32 ?_
      refine PW.imul C dX10_whose_33 ?_
      refine PW.ild2n C dX10_whose_34 ?_
      refine PW.iadd C dX10_whose_35 ?_
      obtain ⟨hc7, hw⟩ := hw
      refine PW.iald C dX10_whose_36 aM_56 hc7 ?_
      exact PW.iret C dX10_whose_37 ⟨_, rfl, hw⟩
    · rw [if_pos c] at hw
      refine PW.iconst (v := (-1)) C dX10_whose_20 (by decide) ?_
      exact PW.iret C dX10_whose_21 ⟨_, rfl, hw⟩
def w_X10_areBeside_45 (k65 : PH → Prop) (Q : Int32 → PH → Prop) (kb : Int32 → PH → Prop) (x1 : Int32) (x2 : Int32) (x3 : Int32) (h : PH) : Prop :=
  vp_in x3 18 ∧ if (gI h 4 (iN x3)) = x2 then (vp_in x3 18 ∧ if (gI h 5 (iN x3)) = x1 then (k65 h) else (kb (x3 + 1) h)) else (kb (x3 + 1) h)
set_option maxRecDepth 8000 in
theorem b_X10_areBeside_45 {D : va_G} {ca : Nat → ClassId} {ad : Nat → Nat} {K : Kt} {k65 : PH → Prop} {kb : Int32 → PH → Prop} {Q : Int32 → PH → Prop} {x1 : Int32} {x2 : Int32} {x3 : Int32} {h : PH} (C : CX (GM D ca ad) (XS (GM D ca ad)) cX10_areBeside RX10 4 (some .boolean) 1 K) (hk65 : ∀ (h : PH), k65 h → PW (GM D ca ad) K 4 (qI Q) h 65 [none, none, none, none] []) (hkb : ∀ (x3 : Int32) (h : PH), kb x3 h → PW (GM D ca ad) K 4 (qI Q) h 2 [some (.ref 0), some (.int x1), some (.int x2), some (.int x3)] []) (hw : w_X10_areBeside_45 k65 Q kb x1 x2 x3 h) : PW (GM D ca ad) K 4 (qI Q) h 45 [some (.ref 0), some (.int x1), some (.int x2), some (.int x3)] [] := by
  unfold w_X10_areBeside_45 at hw
  refine PW.ald0n C dX10_areBeside_45 ?_
  refine PW.get0 (v := .ref 4) C cf_10 fl_X10_19 (by decide) oM_0 (fvR (o := 4) rfl) dX10_areBeside_46 ?_
  refine PW.ild3n C dX10_areBeside_49 ?_
  obtain ⟨hc2, hw⟩ := hw
  refine PW.iald C dX10_areBeside_50 aM_4 hc2 ?_
  refine PW.ild2n C dX10_areBeside_51 ?_
  refine PW.icmp_ne (tgt := 67) C dX10_areBeside_52 (by decide) (fun c => ?_) (fun c => ?_)
  · rw [if_neg c] at hw
    refine PW.inc3 (v := 1) C dX10_areBeside_67 (by decide) rfl (by decide) ?_
    refine PW.goto (tgt := 2) C dX10_areBeside_70 (by decide) ?_
    exact PW.wk (wk_s (wk_s (wk_s (wk_s wk_0)))) (hkb _ _ hw)
  · rw [if_pos c] at hw
    refine PW.ald0n C dX10_areBeside_55 ?_
    refine PW.get0 (v := .ref 5) C cf_10 fl_X10_22 (by decide) oM_0 (fvR (o := 5) rfl) dX10_areBeside_56 ?_
    refine PW.ild3n C dX10_areBeside_59 ?_
    obtain ⟨hc3, hw⟩ := hw
    refine PW.iald C dX10_areBeside_60 aM_5 hc3 ?_
    refine PW.ild1n C dX10_areBeside_61 ?_
    refine PW.icmp_ne (tgt := 67) C dX10_areBeside_62 (by decide) (fun c => ?_) (fun c => ?_)
    · rw [if_neg c] at hw
      refine PW.inc3 (v := 1) C dX10_areBeside_67 (by decide) rfl (by decide) ?_
      refine PW.goto (tgt := 2) C dX10_areBeside_70 (by decide) ?_
      exact PW.wk (wk_s (wk_s (wk_s (wk_s wk_0)))) (hkb _ _ hw)
    · rw [if_pos c] at hw
      exact PW.wk (wk_n (wk_n (wk_n (wk_n wk_0)))) (hk65 _ hw)
def w_X10_areBeside_2 (k65 : PH → Prop) (k73 : PH → Prop) (Q : Int32 → PH → Prop) (x1 : Int32) (x2 : Int32) (kb : Int32 → PH → Prop) (x3 : Int32) (h : PH) : Prop :=
  if (gI h 2 (iN 1)) ≤ x3 then (k73 h) else (if ((((gI h 42 (iN 0)) : Int32) >>> ((x3 : Int32) &&& 31)) &&& 1) = 0 then (vp_in x3 18 ∧ if (gI h 4 (iN x3)) = x1 then (vp_in x3 18 ∧ if (gI h 5 (iN x3)) = x2 then (k65 h) else (w_X10_areBeside_45 k65 Q kb x1 x2 x3 h)) else (w_X10_areBeside_45 k65 Q kb x1 x2 x3 h)) else (kb (x3 + 1) h))
set_option maxRecDepth 8000 in
theorem b_X10_areBeside_2 {D : va_G} {ca : Nat → ClassId} {ad : Nat → Nat} {K : Kt} {k65 : PH → Prop} {k73 : PH → Prop} {kb : Int32 → PH → Prop} {Q : Int32 → PH → Prop} {x1 : Int32} {x2 : Int32} {x3 : Int32} {h : PH} (C : CX (GM D ca ad) (XS (GM D ca ad)) cX10_areBeside RX10 4 (some .boolean) 1 K) (hk65 : ∀ (h : PH), k65 h → PW (GM D ca ad) K 4 (qI Q) h 65 [none, none, none, none] []) (hk73 : ∀ (h : PH), k73 h → PW (GM D ca ad) K 4 (qI Q) h 73 [none, none, none, none] []) (hkb : ∀ (x3 : Int32) (h : PH), kb x3 h → PW (GM D ca ad) K 4 (qI Q) h 2 [some (.ref 0), some (.int x1), some (.int x2), some (.int x3)] []) (hw : w_X10_areBeside_2 k65 k73 Q x1 x2 kb x3 h) : PW (GM D ca ad) K 4 (qI Q) h 2 [some (.ref 0), some (.int x1), some (.int x2), some (.int x3)] [] := by
  unfold w_X10_areBeside_2 at hw
  refine PW.ild3n C dX10_areBeside_2 ?_
  refine PW.ald0n C dX10_areBeside_3 ?_
  refine PW.get0 (v := .ref 2) C cf_10 fl_X10_13 (by decide) oM_0 (fvR (o := 2) rfl) dX10_areBeside_4 ?_
  refine PW.iconst (v := 1) C dX10_areBeside_7 (by decide) ?_
  refine PW.iald C dX10_areBeside_8 aM_2 (vpl (by decide)) ?_
  refine PW.icmp_ge (tgt := 73) C dX10_areBeside_9 (by decide) (fun c => ?_) (fun c => ?_)
  · rw [if_pos c] at hw
    exact PW.wk (wk_n (wk_n (wk_n (wk_n wk_0)))) (hk73 _ hw)
  · rw [if_neg c] at hw
    refine PW.ald0n C dX10_areBeside_12 ?_
    refine PW.get0 (v := .ref 42) C cf_10 fl_X10_138 (by decide) oM_0 (fvR (o := 42) rfl) dX10_areBeside_13 ?_
    refine PW.iconst (v := 0) C dX10_areBeside_16 (by decide) ?_
    refine PW.iald C dX10_areBeside_17 aM_42 (vpl (by decide)) ?_
    refine PW.ild3n C dX10_areBeside_18 ?_
    refine PW.ishr C dX10_areBeside_19 ?_
    refine PW.iconst (v := 1) C dX10_areBeside_20 (by decide) ?_
    refine PW.iand C dX10_areBeside_21 ?_
    refine PW.if_ne (tgt := 67) C dX10_areBeside_22 (by decide) (fun c => ?_) (fun c => ?_)
    · rw [if_neg c] at hw
      refine PW.inc3 (v := 1) C dX10_areBeside_67 (by decide) rfl (by decide) ?_
      refine PW.goto (tgt := 2) C dX10_areBeside_70 (by decide) ?_
      exact PW.wk (wk_s (wk_s (wk_s (wk_s wk_0)))) (hkb _ _ hw)
    · rw [if_pos c] at hw
      refine PW.ald0n C dX10_areBeside_25 ?_
      refine PW.get0 (v := .ref 4) C cf_10 fl_X10_19 (by decide) oM_0 (fvR (o := 4) rfl) dX10_areBeside_26 ?_
      refine PW.ild3n C dX10_areBeside_29 ?_
      obtain ⟨hc1, hw⟩ := hw
      refine PW.iald C dX10_areBeside_30 aM_4 hc1 ?_
      refine PW.ild1n C dX10_areBeside_31 ?_
      refine PW.icmp_ne (tgt := 45) C dX10_areBeside_32 (by decide) (fun c => ?_) (fun c => ?_)
      · rw [if_neg c] at hw
        exact PW.wk (wk_s (wk_s (wk_s (wk_s wk_0)))) (b_X10_areBeside_45 C hk65 hkb hw)
      · rw [if_pos c] at hw
        refine PW.ald0n C dX10_areBeside_35 ?_
        refine PW.get0 (v := .ref 5) C cf_10 fl_X10_22 (by decide) oM_0 (fvR (o := 5) rfl) dX10_areBeside_36 ?_
        refine PW.ild3n C dX10_areBeside_39 ?_
        obtain ⟨hc4, hw⟩ := hw
        refine PW.iald C dX10_areBeside_40 aM_5 hc4 ?_
        refine PW.ild2n C dX10_areBeside_41 ?_
        refine PW.icmp_eq (tgt := 65) C dX10_areBeside_42 (by decide) (fun c => ?_) (fun c => ?_)
        · rw [if_pos c] at hw
          exact PW.wk (wk_n (wk_n (wk_n (wk_n wk_0)))) (hk65 _ hw)
        · rw [if_neg c] at hw
          exact PW.wk (wk_s (wk_s (wk_s (wk_s wk_0)))) (b_X10_areBeside_45 C hk65 hkb hw)
theorem l_X10_areBeside_2 {D : va_G} {ca : Nat → ClassId} {ad : Nat → Nat} {K : Kt} {k65 : PH → Prop} {k73 : PH → Prop} {Q : Int32 → PH → Prop} {x1 : Int32} {x2 : Int32} (C : CX (GM D ca ad) (XS (GM D ca ad)) cX10_areBeside RX10 4 (some .boolean) 1 K) (hk65 : ∀ (h : PH), k65 h → PW (GM D ca ad) K 4 (qI Q) h 65 [none, none, none, none] []) (hk73 : ∀ (h : PH), k73 h → PW (GM D ca ad) K 4 (qI Q) h 73 [none, none, none, none] []) : ∀ (n : Nat) (x3 : Int32) (h : PH), Lp1 (w_X10_areBeside_2 k65 k73 Q x1 x2) n x3 h → PW (GM D ca ad) K 4 (qI Q) h 2 [some (.ref 0), some (.int x1), some (.int x2), some (.int x3)] [] := by
  intro n
  induction n with
  | zero => intro x3 h hw; exact hw.elim
  | succ n ih => intro x3 h hw; exact b_X10_areBeside_2 C hk65 hk73 (fun x3 h hw => ih x3 h hw) hw
def w_X10_areBeside (x1 : Int32) (x2 : Int32) (h : PH) (Q : Int32 → PH → Prop) : Prop :=
  ∃ n, Lp1 (w_X10_areBeside_2 (fun h5 => Q 1 h5) (fun h6 => Q 0 h6) Q x1 x2) n 0 h
set_option maxRecDepth 8000 in
theorem s_X10_areBeside {D : va_G} {ca : Nat → ClassId} {ad : Nat → Nat} {l : Launch} {x1 : Int32} {x2 : Int32} {h : PH} {Q : Int32 → PH → Prop} (hw : w_X10_areBeside x1 x2 h Q) : Sp (GM D ca ad) (XS (GM D ca ad)) l 1 yX10_areBeside cX10_areBeside 4 (some .boolean) [.ref 0, .int x1, .int x2] h (qI Q) := by
  refine Sp.of (own := RX10) [some (.ref 0), some (.int x1), some (.int x2), none] (by decide +kernel) rfl rfl (Nat.le_of_ble_eq_true rfl) (fun K hl C => ?_)
  subst hl
  unfold w_X10_areBeside at hw
  refine PW.iconst (v := 0) C dX10_areBeside_0 (by decide) ?_
  refine PW.ist3n C dX10_areBeside_1 (by decide) rfl ?_
  obtain ⟨n, hw⟩ := hw
  refine PW.wk (wk_s (wk_s (wk_s (wk_s wk_0)))) (l_X10_areBeside_2 C ?_ ?_ n _ _ hw)
  · intro h5 hw
    refine PW.iconst (v := 1) C dX10_areBeside_65 (by decide) ?_
    exact PW.zret C dX10_areBeside_66 (by decide) ⟨_, rfl, hw⟩
  · intro h6 hw
    refine PW.iconst (v := 0) C dX10_areBeside_73 (by decide) ?_
    exact PW.zret C dX10_areBeside_74 (by decide) ⟨_, rfl, hw⟩
def w_X10_doTouch (x1 : Int32) (x2 : Int32) (h : PH) (Q : Int32 → PH → Prop) : Prop :=
  vp_in x1 144 ∧ vp_in x2 144 ∧ if (gI h 59 (iN x2)) < (gI h 58 (iN x1)) then (Q 0 h) else (vp_in x2 144 ∧ vp_in x1 144 ∧ if (gI h 59 (iN x1)) < (gI h 58 (iN x2)) then (Q 0 h) else (vp_in x1 144 ∧ vp_in x2 144 ∧ w_X10_areBeside (gI h 57 (iN x1)) (gI h 57 (iN x2)) h (fun z8 h7 => if z8 = 0 then (Q 0 h7) else (Q 1 h7))))
set_option maxRecDepth 8000 in
theorem s_X10_doTouch {D : va_G} {ca : Nat → ClassId} {ad : Nat → Nat} {l : Launch} {x1 : Int32} {x2 : Int32} {h : PH} {Q : Int32 → PH → Prop} (hw : w_X10_doTouch x1 x2 h Q) : Sp (GM D ca ad) (XS (GM D ca ad)) l 2 yX10_doTouch cX10_doTouch 3 (some .boolean) [.ref 0, .int x1, .int x2] h (qI Q) := by
  refine Sp.of (own := RX10) [some (.ref 0), some (.int x1), some (.int x2)] (by decide +kernel) rfl rfl (Nat.le_of_ble_eq_true rfl) (fun K hl C => ?_)
  subst hl
  unfold w_X10_doTouch at hw
  refine PW.ald0n C dX10_doTouch_0 ?_
  refine PW.get0 (v := .ref 58) C cf_10 fl_X10_186 (by decide) oM_0 (fvR (o := 58) rfl) dX10_doTouch_1 ?_
  refine PW.ild1n C dX10_doTouch_4 ?_
  obtain ⟨hc1, hw⟩ := hw
  refine PW.iald C dX10_doTouch_5 aM_58 hc1 ?_
  refine PW.ald0n C dX10_doTouch_6 ?_
  refine PW.get0 (v := .ref 59) C cf_10 fl_X10_189 (by decide) oM_0 (fvR (o := 59) rfl) dX10_doTouch_7 ?_
  refine PW.ild2n C dX10_doTouch_10 ?_
  obtain ⟨hc2, hw⟩ := hw
  refine PW.iald C dX10_doTouch_11 aM_59 hc2 ?_
  refine PW.icmp_gt (tgt := 53) C dX10_doTouch_12 (by decide) (fun c => ?_) (fun c => ?_)
  · rw [if_pos c] at hw
    refine PW.iconst (v := 0) C dX10_doTouch_53 (by decide) ?_
    exact PW.zret C dX10_doTouch_54 (by decide) ⟨_, rfl, hw⟩
  · rw [if_neg c] at hw
    refine PW.ald0n C dX10_doTouch_15 ?_
    refine PW.get0 (v := .ref 58) C cf_10 fl_X10_186 (by decide) oM_0 (fvR (o := 58) rfl) dX10_doTouch_16 ?_
    refine PW.ild2n C dX10_doTouch_19 ?_
    obtain ⟨hc3, hw⟩ := hw
    refine PW.iald C dX10_doTouch_20 aM_58 hc3 ?_
    refine PW.ald0n C dX10_doTouch_21 ?_
    refine PW.get0 (v := .ref 59) C cf_10 fl_X10_189 (by decide) oM_0 (fvR (o := 59) rfl) dX10_doTouch_22 ?_
    refine PW.ild1n C dX10_doTouch_25 ?_
    obtain ⟨hc4, hw⟩ := hw
    refine PW.iald C dX10_doTouch_26 aM_59 hc4 ?_
    refine PW.icmp_gt (tgt := 53) C dX10_doTouch_27 (by decide) (fun c => ?_) (fun c => ?_)
    · rw [if_pos c] at hw
      refine PW.iconst (v := 0) C dX10_doTouch_53 (by decide) ?_
      exact PW.zret C dX10_doTouch_54 (by decide) ⟨_, rfl, hw⟩
    · rw [if_neg c] at hw
      refine PW.ald0n C dX10_doTouch_30 ?_
      refine PW.ald0n C dX10_doTouch_31 ?_
      refine PW.get0 (v := .ref 57) C cf_10 fl_X10_183 (by decide) oM_0 (fvR (o := 57) rfl) dX10_doTouch_32 ?_
      refine PW.ild1n C dX10_doTouch_35 ?_
      obtain ⟨hc5, hw⟩ := hw
      refine PW.iald C dX10_doTouch_36 aM_57 hc5 ?_
      refine PW.ald0n C dX10_doTouch_37 ?_
      refine PW.get0 (v := .ref 57) C cf_10 fl_X10_183 (by decide) oM_0 (fvR (o := 57) rfl) dX10_doTouch_38 ?_
      refine PW.ild2n C dX10_doTouch_41 ?_
      obtain ⟨hc6, hw⟩ := hw
      refine PW.iald C dX10_doTouch_42 aM_57 hc6 ?_
      refine PW.callVI2 C ms_X10_areBeside ml_X10_535 dX10_doTouch_43 oM_0 ⟨_, _, rfl⟩ (Nat.le_of_ble_eq_true rfl) (by decide) (Nat.le_of_ble_eq_true rfl) (s_X10_areBeside hw) ?_
      clear hw
      intro z8 h7 hw
      refine PW.if_eq (tgt := 53) C dX10_doTouch_46 (by decide) (fun c => ?_) (fun c => ?_)
      · rw [if_pos c] at hw
        refine PW.iconst (v := 0) C dX10_doTouch_53 (by decide) ?_
        exact PW.zret C dX10_doTouch_54 (by decide) ⟨_, rfl, hw⟩
      · rw [if_neg c] at hw
        refine PW.iconst (v := 1) C dX10_doTouch_49 (by decide) ?_
        refine PW.goto (tgt := 54) C dX10_doTouch_50 (by decide) ?_
        exact PW.zret C dX10_doTouch_54 (by decide) ⟨_, rfl, hw⟩
def w_X10_spreads_21 (k80 : Int32 → PH → Prop) (Q : PH → Prop) (x1 : Int32) (x3 : Int32) (kb : Int32 → Int32 → PH → Prop) (x2 : Int32) (x4 : Int32) (h : PH) : Prop :=
  if (gI h 0 76) ≤ x4 then (k80 x2 h) else (vp_in x3 144 ∧ if (gI h 60 (iN x3)) = x1 then (vp_in x4 144 ∧ if (gI h 60 (iN x4)) = (-1) then (w_X10_doTouch x3 x4 h (fun z4 h3 => if z4 = 0 then (kb x2 (x4 + 1) h3) else (vp_in x4 144 ∧ ∀ h6, h6 = sI h3 60 (iN x4) x1 → kb 1 (x4 + 1) h6))) else (kb x2 (x4 + 1) h)) else (k80 x2 h))
set_option maxRecDepth 8000 in
theorem b_X10_spreads_21 {D : va_G} {ca : Nat → ClassId} {ad : Nat → Nat} {K : Kt} {k80 : Int32 → PH → Prop} {kb : Int32 → Int32 → PH → Prop} {Q : PH → Prop} {x1 : Int32} {x3 : Int32} {x2 : Int32} {x4 : Int32} {h : PH} (C : CX (GM D ca ad) (XS (GM D ca ad)) cX10_spreads RX10 5 none 3 K) (hk80 : ∀ (x2 : Int32) (h : PH), k80 x2 h → PW (GM D ca ad) K 5 (qV Q) h 80 [some (.ref 0), some (.int x1), some (.int x2), some (.int x3), none] []) (hkb : ∀ (x2 : Int32) (x4 : Int32) (h : PH), kb x2 x4 h → PW (GM D ca ad) K 5 (qV Q) h 21 [some (.ref 0), some (.int x1), some (.int x2), some (.int x3), some (.int x4)] []) (hw : w_X10_spreads_21 k80 Q x1 x3 kb x2 x4 h) : PW (GM D ca ad) K 5 (qV Q) h 21 [some (.ref 0), some (.int x1), some (.int x2), some (.int x3), some (.int x4)] [] := by
  unfold w_X10_spreads_21 at hw
  refine PW.ild4 C dX10_spreads_21 ?_
  refine PW.ald0n C dX10_spreads_23 ?_
  refine PW.get0 C cf_10 fl_X10_539 (by decide) oM_0 (fvI rfl) dX10_spreads_24 ?_
  refine PW.icmp_ge (tgt := 80) C dX10_spreads_27 (by decide) (fun c => ?_) (fun c => ?_)
  · rw [if_pos c] at hw
    exact PW.wk (wk_s (wk_s (wk_s (wk_s (wk_n wk_0))))) (hk80 _ _ hw)
  · rw [if_neg c] at hw
    refine PW.ald0n C dX10_spreads_30 ?_
    refine PW.get0 (v := .ref 60) C cf_10 fl_X10_192 (by decide) oM_0 (fvR (o := 60) rfl) dX10_spreads_31 ?_
    refine PW.ild3n C dX10_spreads_34 ?_
    obtain ⟨hc1, hw⟩ := hw
    refine PW.iald C dX10_spreads_35 aM_60 hc1 ?_
    refine PW.ild1n C dX10_spreads_36 ?_
    refine PW.icmp_ne (tgt := 80) C dX10_spreads_37 (by decide) (fun c => ?_) (fun c => ?_)
    · rw [if_neg c] at hw
      exact PW.wk (wk_s (wk_s (wk_s (wk_s (wk_n wk_0))))) (hk80 _ _ hw)
    · rw [if_pos c] at hw
      refine PW.ald0n C dX10_spreads_40 ?_
      refine PW.get0 (v := .ref 60) C cf_10 fl_X10_192 (by decide) oM_0 (fvR (o := 60) rfl) dX10_spreads_41 ?_
      refine PW.ild4 C dX10_spreads_44 ?_
      obtain ⟨hc2, hw⟩ := hw
      refine PW.iald C dX10_spreads_46 aM_60 hc2 ?_
      refine PW.iconst (v := (-1)) C dX10_spreads_47 (by decide) ?_
      refine PW.icmp_ne (tgt := 74) C dX10_spreads_48 (by decide) (fun c => ?_) (fun c => ?_)
      · rw [if_neg c] at hw
        refine PW.inc4 (v := 1) C dX10_spreads_74 (by decide) rfl (by decide) ?_
        refine PW.goto (tgt := 21) C dX10_spreads_77 (by decide) ?_
        exact PW.wk (wk_s (wk_s (wk_s (wk_s (wk_s wk_0))))) (hkb _ _ _ hw)
      · rw [if_pos c] at hw
        refine PW.ald0n C dX10_spreads_51 ?_
        refine PW.ild3n C dX10_spreads_52 ?_
        refine PW.ild4 C dX10_spreads_53 ?_
        refine PW.callVI2 C ms_X10_doTouch ml_X10_548 dX10_spreads_55 oM_0 ⟨_, _, rfl⟩ (Nat.le_of_ble_eq_true rfl) (by decide) (Nat.le_of_ble_eq_true rfl) (s_X10_doTouch hw) ?_
        clear hw
        intro z4 h3 hw
        refine PW.if_ne (tgt := 64) C dX10_spreads_58 (by decide) (fun c => ?_) (fun c => ?_)
        · rw [if_neg c] at hw
          refine PW.ald0n C dX10_spreads_64 ?_
          refine PW.get0 (v := .ref 60) C cf_10 fl_X10_192 (by decide) oM_0 (fvR (o := 60) rfl) dX10_spreads_65 ?_
          refine PW.ild4 C dX10_spreads_68 ?_
          refine PW.ild1n C dX10_spreads_70 ?_
          obtain ⟨hc5, hw⟩ := hw
          replace hw := hw _ rfl
          refine PW.iast C dX10_spreads_71 aM_60 hc5 ?_
          refine PW.iconst (v := 1) C dX10_spreads_72 (by decide) ?_
          refine PW.ist2n C dX10_spreads_73 (by decide) rfl ?_
          refine PW.inc4 (v := 1) C dX10_spreads_74 (by decide) rfl (by decide) ?_
          refine PW.goto (tgt := 21) C dX10_spreads_77 (by decide) ?_
          exact PW.wk (wk_s (wk_s (wk_s (wk_s (wk_s wk_0))))) (hkb _ _ _ hw)
        · rw [if_pos c] at hw
          refine PW.goto (tgt := 74) C dX10_spreads_61 (by decide) ?_
          refine PW.inc4 (v := 1) C dX10_spreads_74 (by decide) rfl (by decide) ?_
          refine PW.goto (tgt := 21) C dX10_spreads_77 (by decide) ?_
          exact PW.wk (wk_s (wk_s (wk_s (wk_s (wk_s wk_0))))) (hkb _ _ _ hw)
theorem l_X10_spreads_21 {D : va_G} {ca : Nat → ClassId} {ad : Nat → Nat} {K : Kt} {k80 : Int32 → PH → Prop} {Q : PH → Prop} {x1 : Int32} {x3 : Int32} (C : CX (GM D ca ad) (XS (GM D ca ad)) cX10_spreads RX10 5 none 3 K) (hk80 : ∀ (x2 : Int32) (h : PH), k80 x2 h → PW (GM D ca ad) K 5 (qV Q) h 80 [some (.ref 0), some (.int x1), some (.int x2), some (.int x3), none] []) : ∀ (n : Nat) (x2 : Int32) (x4 : Int32) (h : PH), Lp2 (w_X10_spreads_21 k80 Q x1 x3) n x2 x4 h → PW (GM D ca ad) K 5 (qV Q) h 21 [some (.ref 0), some (.int x1), some (.int x2), some (.int x3), some (.int x4)] [] := by
  intro n
  induction n with
  | zero => intro x2 x4 h hw; exact hw.elim
  | succ n ih => intro x2 x4 h hw; exact b_X10_spreads_21 C hk80 (fun x2 x4 h hw => ih x2 x4 h hw) hw
def w_X10_spreads_10 (k86 : Int32 → PH → Prop) (Q : PH → Prop) (x1 : Int32) (kb : Int32 → Int32 → PH → Prop) (x2 : Int32) (x3 : Int32) (h : PH) : Prop :=
  if (gI h 0 76) ≤ x3 then (k86 x2 h) else (∃ n, Lp2 (w_X10_spreads_21 (fun y8 h7 => kb y8 (x3 + 1) h7) Q x1 x3) n x2 0 h)
set_option maxRecDepth 8000 in
theorem b_X10_spreads_10 {D : va_G} {ca : Nat → ClassId} {ad : Nat → Nat} {K : Kt} {k86 : Int32 → PH → Prop} {kb : Int32 → Int32 → PH → Prop} {Q : PH → Prop} {x1 : Int32} {x2 : Int32} {x3 : Int32} {h : PH} (C : CX (GM D ca ad) (XS (GM D ca ad)) cX10_spreads RX10 5 none 3 K) (hk86 : ∀ (x2 : Int32) (h : PH), k86 x2 h → PW (GM D ca ad) K 5 (qV Q) h 86 [some (.ref 0), some (.int x1), some (.int x2), none, none] []) (hkb : ∀ (x2 : Int32) (x3 : Int32) (h : PH), kb x2 x3 h → PW (GM D ca ad) K 5 (qV Q) h 10 [some (.ref 0), some (.int x1), some (.int x2), some (.int x3), none] []) (hw : w_X10_spreads_10 k86 Q x1 kb x2 x3 h) : PW (GM D ca ad) K 5 (qV Q) h 10 [some (.ref 0), some (.int x1), some (.int x2), some (.int x3), none] [] := by
  unfold w_X10_spreads_10 at hw
  refine PW.ild3n C dX10_spreads_10 ?_
  refine PW.ald0n C dX10_spreads_11 ?_
  refine PW.get0 C cf_10 fl_X10_539 (by decide) oM_0 (fvI rfl) dX10_spreads_12 ?_
  refine PW.icmp_ge (tgt := 86) C dX10_spreads_15 (by decide) (fun c => ?_) (fun c => ?_)
  · rw [if_pos c] at hw
    exact PW.wk (wk_s (wk_s (wk_s (wk_n (wk_n wk_0))))) (hk86 _ _ hw)
  · rw [if_neg c] at hw
    refine PW.iconst (v := 0) C dX10_spreads_18 (by decide) ?_
    refine PW.ist4 C dX10_spreads_19 (by decide) rfl ?_
    obtain ⟨n, hw⟩ := hw
    refine PW.wk (wk_s (wk_s (wk_s (wk_s (wk_s wk_0))))) (l_X10_spreads_21 C ?_ n _ _ _ hw)
    · intro y8 h7 hw
      refine PW.inc3 (v := 1) C dX10_spreads_80 (by decide) rfl (by decide) ?_
      refine PW.goto (tgt := 10) C dX10_spreads_83 (by decide) ?_
      exact PW.wk (wk_s (wk_s (wk_s (wk_s (wk_n wk_0))))) (hkb _ _ _ hw)
theorem l_X10_spreads_10 {D : va_G} {ca : Nat → ClassId} {ad : Nat → Nat} {K : Kt} {k86 : Int32 → PH → Prop} {Q : PH → Prop} {x1 : Int32} (C : CX (GM D ca ad) (XS (GM D ca ad)) cX10_spreads RX10 5 none 3 K) (hk86 : ∀ (x2 : Int32) (h : PH), k86 x2 h → PW (GM D ca ad) K 5 (qV Q) h 86 [some (.ref 0), some (.int x1), some (.int x2), none, none] []) : ∀ (n : Nat) (x2 : Int32) (x3 : Int32) (h : PH), Lp2 (w_X10_spreads_10 k86 Q x1) n x2 x3 h → PW (GM D ca ad) K 5 (qV Q) h 10 [some (.ref 0), some (.int x1), some (.int x2), some (.int x3), none] [] := by
  intro n
  induction n with
  | zero => intro x2 x3 h hw; exact hw.elim
  | succ n ih => intro x2 x3 h hw; exact b_X10_spreads_10 C hk86 (fun x2 x3 h hw => ih x2 x3 h hw) hw
def w_X10_spreads_2 (k89 : PH → Prop) (Q : PH → Prop) (x1 : Int32) (kb : Int32 → PH → Prop) (x2 : Int32) (h : PH) : Prop :=
  if x2 = 0 then (k89 h) else (∃ n, Lp2 (w_X10_spreads_10 (fun y10 h9 => kb y10 h9) Q x1) n 0 0 h)
set_option maxRecDepth 8000 in
theorem b_X10_spreads_2 {D : va_G} {ca : Nat → ClassId} {ad : Nat → Nat} {K : Kt} {k89 : PH → Prop} {kb : Int32 → PH → Prop} {Q : PH → Prop} {x1 : Int32} {x2 : Int32} {h : PH} (C : CX (GM D ca ad) (XS (GM D ca ad)) cX10_spreads RX10 5 none 3 K) (hk89 : ∀ (h : PH), k89 h → PW (GM D ca ad) K 5 (qV Q) h 89 [none, none, none, none, none] []) (hkb : ∀ (x2 : Int32) (h : PH), kb x2 h → PW (GM D ca ad) K 5 (qV Q) h 2 [some (.ref 0), some (.int x1), some (.int x2), none, none] []) (hw : w_X10_spreads_2 k89 Q x1 kb x2 h) : PW (GM D ca ad) K 5 (qV Q) h 2 [some (.ref 0), some (.int x1), some (.int x2), none, none] [] := by
  unfold w_X10_spreads_2 at hw
  refine PW.ild2n C dX10_spreads_2 ?_
  refine PW.if_eq (tgt := 89) C dX10_spreads_3 (by decide) (fun c => ?_) (fun c => ?_)
  · rw [if_pos c] at hw
    exact PW.wk (wk_n (wk_n (wk_n (wk_n (wk_n wk_0))))) (hk89 _ hw)
  · rw [if_neg c] at hw
    refine PW.iconst (v := 0) C dX10_spreads_6 (by decide) ?_
    refine PW.ist2n C dX10_spreads_7 (by decide) rfl ?_
    refine PW.iconst (v := 0) C dX10_spreads_8 (by decide) ?_
    refine PW.ist3n C dX10_spreads_9 (by decide) rfl ?_
    obtain ⟨n, hw⟩ := hw
    refine PW.wk (wk_s (wk_s (wk_s (wk_s (wk_n wk_0))))) (l_X10_spreads_10 C ?_ n _ _ _ hw)
    · intro y10 h9 hw
      refine PW.goto (tgt := 2) C dX10_spreads_86 (by decide) ?_
      exact PW.wk (wk_s (wk_s (wk_s (wk_n (wk_n wk_0))))) (hkb _ _ hw)
theorem l_X10_spreads_2 {D : va_G} {ca : Nat → ClassId} {ad : Nat → Nat} {K : Kt} {k89 : PH → Prop} {Q : PH → Prop} {x1 : Int32} (C : CX (GM D ca ad) (XS (GM D ca ad)) cX10_spreads RX10 5 none 3 K) (hk89 : ∀ (h : PH), k89 h → PW (GM D ca ad) K 5 (qV Q) h 89 [none, none, none, none, none] []) : ∀ (n : Nat) (x2 : Int32) (h : PH), Lp1 (w_X10_spreads_2 k89 Q x1) n x2 h → PW (GM D ca ad) K 5 (qV Q) h 2 [some (.ref 0), some (.int x1), some (.int x2), none, none] [] := by
  intro n
  induction n with
  | zero => intro x2 h hw; exact hw.elim
  | succ n ih => intro x2 h hw; exact b_X10_spreads_2 C hk89 (fun x2 h hw => ih x2 h hw) hw
def w_X10_spreads (x1 : Int32) (h : PH) (Q : PH → Prop) : Prop :=
  ∃ n, Lp1 (w_X10_spreads_2 (fun h11 => Q h11) Q x1) n 1 h
set_option maxRecDepth 8000 in
theorem s_X10_spreads {D : va_G} {ca : Nat → ClassId} {ad : Nat → Nat} {l : Launch} {x1 : Int32} {h : PH} {Q : PH → Prop} (hw : w_X10_spreads x1 h Q) : Sp (GM D ca ad) (XS (GM D ca ad)) l 3 yX10_spreads cX10_spreads 5 none [.ref 0, .int x1] h (qV Q) := by
  refine Sp.of (own := RX10) [some (.ref 0), some (.int x1), none, none, none] (by decide +kernel) rfl rfl (Nat.le_of_ble_eq_true rfl) (fun K hl C => ?_)
  subst hl
  unfold w_X10_spreads at hw
  refine PW.iconst (v := 1) C dX10_spreads_0 (by decide) ?_
  refine PW.ist2n C dX10_spreads_1 (by decide) rfl ?_
  obtain ⟨n, hw⟩ := hw
  refine PW.wk (wk_s (wk_s (wk_s (wk_n (wk_n wk_0))))) (l_X10_spreads_2 C ?_ n _ _ hw)
  · intro h11 hw
    exact PW.vret C dX10_spreads_89 ⟨rfl, hw⟩
def w_X10_layPieces_108 (Q : PH → Prop) (kb : Int32 → PH → Prop) (x1 : Int32) (x2 : Int32) (h : PH) : Prop :=
  vp_in ((gI h 0 76) - 1) 144 ∧ ∀ h5, h5 = sI h 59 (iN ((gI h 0 76) - 1)) x2 → kb (x2 + 1) h5
set_option maxRecDepth 8000 in
theorem b_X10_layPieces_108 {D : va_G} {ca : Nat → ClassId} {ad : Nat → Nat} {K : Kt} {kb : Int32 → PH → Prop} {Q : PH → Prop} {x1 : Int32} {x2 : Int32} {h : PH} (C : CX (GM D ca ad) (XS (GM D ca ad)) cX10_layPieces RX10 4 none 8 K) (hkb : ∀ (x2 : Int32) (h : PH), kb x2 h → PW (GM D ca ad) K 4 (qV Q) h 23 [some (.ref 0), some (.int x1), some (.int x2), none] []) (hw : w_X10_layPieces_108 Q kb x1 x2 h) : PW (GM D ca ad) K 4 (qV Q) h 108 [some (.ref 0), some (.int x1), some (.int x2), none] [] := by
  unfold w_X10_layPieces_108 at hw
  refine PW.ald0n C dX10_layPieces_108 ?_
  refine PW.get0 (v := .ref 59) C cf_10 fl_X10_189 (by decide) oM_0 (fvR (o := 59) rfl) dX10_layPieces_109 ?_
  refine PW.ald0n C dX10_layPieces_112 ?_
  refine PW.get0 C cf_10 fl_X10_539 (by decide) oM_0 (fvI rfl) dX10_layPieces_113 ?_
  refine PW.iconst (v := 1) C dX10_layPieces_116 (by decide) ?_
  refine PW.isub C dX10_layPieces_117 ?_
  refine PW.ild2n C dX10_layPieces_118 ?_
  obtain ⟨hc4, hw⟩ := hw
  replace hw := hw _ rfl
  refine PW.iast C dX10_layPieces_119 aM_59 hc4 ?_
  refine PW.inc2 (v := 1) C dX10_layPieces_120 (by decide) rfl (by decide) ?_
  refine PW.goto (tgt := 23) C dX10_layPieces_123 (by decide) ?_
  exact PW.wk (wk_s (wk_s (wk_s (wk_n wk_0)))) (hkb _ _ hw)
def w_X10_layPieces_73 (Q : PH → Prop) (kb : Int32 → PH → Prop) (x1 : Int32) (x2 : Int32) (s0 : Int32) (h : PH) : Prop :=
  if s0 = 0 then (w_X10_layPieces_108 Q kb x1 x2 h) else (vp_in (gI h 0 76) 144 ∧ ∀ h7, h7 = sI h 57 (iN (gI h 0 76)) x1 → vp_in (gI h7 0 76) 144 ∧ ∀ h9, h9 = sI h7 58 (iN (gI h7 0 76)) x2 → ∀ h10, h10 = sI h9 0 76 ((gI h9 0 76) + 1) → w_X10_layPieces_108 Q kb x1 x2 h10)
set_option maxRecDepth 8000 in
theorem b_X10_layPieces_73 {D : va_G} {ca : Nat → ClassId} {ad : Nat → Nat} {K : Kt} {kb : Int32 → PH → Prop} {Q : PH → Prop} {x1 : Int32} {x2 : Int32} {s0 : Int32} {h : PH} (C : CX (GM D ca ad) (XS (GM D ca ad)) cX10_layPieces RX10 4 none 8 K) (hkb : ∀ (x2 : Int32) (h : PH), kb x2 h → PW (GM D ca ad) K 4 (qV Q) h 23 [some (.ref 0), some (.int x1), some (.int x2), none] []) (hw : w_X10_layPieces_73 Q kb x1 x2 s0 h) : PW (GM D ca ad) K 4 (qV Q) h 73 [some (.ref 0), some (.int x1), some (.int x2), none] [.int s0] := by
  unfold w_X10_layPieces_73 at hw
  refine PW.ist3n C dX10_layPieces_73 (by decide) rfl ?_
  refine PW.ild3n C dX10_layPieces_74 ?_
  refine PW.if_eq (tgt := 108) C dX10_layPieces_75 (by decide) (fun c => ?_) (fun c => ?_)
  · rw [if_pos c] at hw
    exact PW.wk (wk_s (wk_s (wk_s (wk_n wk_0)))) (b_X10_layPieces_108 C hkb hw)
  · rw [if_neg c] at hw
    refine PW.ald0n C dX10_layPieces_78 ?_
    refine PW.get0 (v := .ref 57) C cf_10 fl_X10_183 (by decide) oM_0 (fvR (o := 57) rfl) dX10_layPieces_79 ?_
    refine PW.ald0n C dX10_layPieces_82 ?_
    refine PW.get0 C cf_10 fl_X10_539 (by decide) oM_0 (fvI rfl) dX10_layPieces_83 ?_
    refine PW.ild1n C dX10_layPieces_86 ?_
    obtain ⟨hc6, hw⟩ := hw
    replace hw := hw _ rfl
    refine PW.iast C dX10_layPieces_87 aM_57 hc6 ?_
    refine PW.ald0n C dX10_layPieces_88 ?_
    refine PW.get0 (v := .ref 58) C cf_10 fl_X10_186 (by decide) oM_0 (fvR (o := 58) rfl) dX10_layPieces_89 ?_
    refine PW.ald0n C dX10_layPieces_92 ?_
    refine PW.get0 C cf_10 fl_X10_539 (by decide) oM_0 (fvI rfl) dX10_layPieces_93 ?_
    refine PW.ild2n C dX10_layPieces_96 ?_
    obtain ⟨hc8, hw⟩ := hw
    replace hw := hw _ rfl
    refine PW.iast C dX10_layPieces_97 aM_58 hc8 ?_
    refine PW.ald0n C dX10_layPieces_98 ?_
    refine PW.dup C dX10_layPieces_99 rfl ?_
    refine PW.get0 C cf_10 fl_X10_539 (by decide) oM_0 (fvI rfl) dX10_layPieces_100 ?_
    refine PW.iconst (v := 1) C dX10_layPieces_103 (by decide) ?_
    refine PW.iadd C dX10_layPieces_104 ?_
    replace hw := hw _ rfl
    refine PW.put0 C cf_10 fl_X10_539 (by decide) oM_0 rfl rfl rfl (pw_sI oM_0 (by decide) rfl) dX10_layPieces_105 ?_
    exact PW.wk (wk_s (wk_s (wk_s (wk_n wk_0)))) (b_X10_layPieces_108 C hkb hw)
def w_X10_layPieces_68 (Q : PH → Prop) (kb : Int32 → PH → Prop) (x1 : Int32) (x2 : Int32) (h : PH) : Prop :=
  w_X10_layPieces_73 Q kb x1 x2 1 h
set_option maxRecDepth 8000 in
theorem b_X10_layPieces_68 {D : va_G} {ca : Nat → ClassId} {ad : Nat → Nat} {K : Kt} {kb : Int32 → PH → Prop} {Q : PH → Prop} {x1 : Int32} {x2 : Int32} {h : PH} (C : CX (GM D ca ad) (XS (GM D ca ad)) cX10_layPieces RX10 4 none 8 K) (hkb : ∀ (x2 : Int32) (h : PH), kb x2 h → PW (GM D ca ad) K 4 (qV Q) h 23 [some (.ref 0), some (.int x1), some (.int x2), none] []) (hw : w_X10_layPieces_68 Q kb x1 x2 h) : PW (GM D ca ad) K 4 (qV Q) h 68 [some (.ref 0), some (.int x1), some (.int x2), none] [] := by
  unfold w_X10_layPieces_68 at hw
  refine PW.iconst (v := 1) C dX10_layPieces_68 (by decide) ?_
  refine PW.goto (tgt := 73) C dX10_layPieces_69 (by decide) ?_
  exact PW.wk (wk_s (wk_s (wk_s (wk_n wk_0)))) (b_X10_layPieces_73 C hkb hw)
def w_X10_layPieces_23 (k126 : PH → Prop) (Q : PH → Prop) (x1 : Int32) (kb : Int32 → PH → Prop) (x2 : Int32) (h : PH) : Prop :=
  if 48 ≤ x2 then (k126 h) else (vp_in ((48 * x1) + x2) 288 ∧ if (gI h 51 (iN ((48 * x1) + x2))) = (-1) then (if x2 = 0 then (w_X10_layPieces_68 Q kb x1 x2 h) else (vp_in (((48 * x1) + x2) - 1) 288 ∧ if (gI h 51 (iN (((48 * x1) + x2) - 1))) = (-1) then (w_X10_layPieces_73 Q kb x1 x2 0 h) else (w_X10_layPieces_68 Q kb x1 x2 h))) else (kb (x2 + 1) h))
set_option maxRecDepth 8000 in
theorem b_X10_layPieces_23 {D : va_G} {ca : Nat → ClassId} {ad : Nat → Nat} {K : Kt} {k126 : PH → Prop} {kb : Int32 → PH → Prop} {Q : PH → Prop} {x1 : Int32} {x2 : Int32} {h : PH} (C : CX (GM D ca ad) (XS (GM D ca ad)) cX10_layPieces RX10 4 none 8 K) (hk126 : ∀ (h : PH), k126 h → PW (GM D ca ad) K 4 (qV Q) h 126 [some (.ref 0), some (.int x1), none, none] []) (hkb : ∀ (x2 : Int32) (h : PH), kb x2 h → PW (GM D ca ad) K 4 (qV Q) h 23 [some (.ref 0), some (.int x1), some (.int x2), none] []) (hw : w_X10_layPieces_23 k126 Q x1 kb x2 h) : PW (GM D ca ad) K 4 (qV Q) h 23 [some (.ref 0), some (.int x1), some (.int x2), none] [] := by
  unfold w_X10_layPieces_23 at hw
  refine PW.ild2n C dX10_layPieces_23 ?_
  refine PW.bipush (v := 48) C dX10_layPieces_24 (by decide) ?_
  refine PW.icmp_ge (tgt := 126) C dX10_layPieces_26 (by decide) (fun c => ?_) (fun c => ?_)
  · rw [if_pos c] at hw
    exact PW.wk (wk_s (wk_s (wk_n (wk_n wk_0)))) (hk126 _ hw)
  · rw [if_neg c] at hw
    refine PW.ald0n C dX10_layPieces_29 ?_
    refine PW.get0 (v := .ref 51) C cf_10 fl_X10_165 (by decide) oM_0 (fvR (o := 51) rfl) dX10_layPieces_30 ?_
    refine PW.bipush (v := 48) C dX10_layPieces_33 (by decide) ?_
    refine PW.ild1n C dX10_layPieces_35 ?_
    refine PW.imul C dX10_layPieces_36 ?_
    refine PW.ild2n C dX10_layPieces_37 ?_
    refine PW.iadd C dX10_layPieces_38 ?_
    obtain ⟨hc3, hw⟩ := hw
    refine PW.iald C dX10_layPieces_39 aM_51 hc3 ?_
    refine PW.iconst (v := (-1)) C dX10_layPieces_40 (by decide) ?_
    refine PW.icmp_eq (tgt := 47) C dX10_layPieces_41 (by decide) (fun c => ?_) (fun c => ?_)
    · rw [if_pos c] at hw
      refine PW.ild2n C dX10_layPieces_47 ?_
      refine PW.if_eq (tgt := 68) C dX10_layPieces_48 (by decide) (fun c => ?_) (fun c => ?_)
      · rw [if_pos c] at hw
        exact PW.wk (wk_s (wk_s (wk_s (wk_n wk_0)))) (b_X10_layPieces_68 C hkb hw)
      · rw [if_neg c] at hw
        refine PW.ald0n C dX10_layPieces_51 ?_
        refine PW.get0 (v := .ref 51) C cf_10 fl_X10_165 (by decide) oM_0 (fvR (o := 51) rfl) dX10_layPieces_52 ?_
        refine PW.bipush (v := 48) C dX10_layPieces_55 (by decide) ?_
        refine PW.ild1n C dX10_layPieces_57 ?_
        refine PW.imul C dX10_layPieces_58 ?_
        refine PW.ild2n C dX10_layPieces_59 ?_
        refine PW.iadd C dX10_layPieces_60 ?_
        refine PW.iconst (v := 1) C dX10_layPieces_61 (by decide) ?_
        refine PW.isub C dX10_layPieces_62 ?_
        obtain ⟨hc11, hw⟩ := hw
        refine PW.iald C dX10_layPieces_63 aM_51 hc11 ?_
        refine PW.iconst (v := (-1)) C dX10_layPieces_64 (by decide) ?_
        refine PW.icmp_eq (tgt := 72) C dX10_layPieces_65 (by decide) (fun c => ?_) (fun c => ?_)
        · rw [if_pos c] at hw
          refine PW.iconst (v := 0) C dX10_layPieces_72 (by decide) ?_
          exact PW.wk (wk_s (wk_s (wk_s (wk_n wk_0)))) (b_X10_layPieces_73 C hkb hw)
        · rw [if_neg c] at hw
          exact PW.wk (wk_s (wk_s (wk_s (wk_n wk_0)))) (b_X10_layPieces_68 C hkb hw)
    · rw [if_neg c] at hw
      refine PW.goto (tgt := 120) C dX10_layPieces_44 (by decide) ?_
      refine PW.inc2 (v := 1) C dX10_layPieces_120 (by decide) rfl (by decide) ?_
      refine PW.goto (tgt := 23) C dX10_layPieces_123 (by decide) ?_
      exact PW.wk (wk_s (wk_s (wk_s (wk_n wk_0)))) (hkb _ _ hw)
theorem l_X10_layPieces_23 {D : va_G} {ca : Nat → ClassId} {ad : Nat → Nat} {K : Kt} {k126 : PH → Prop} {Q : PH → Prop} {x1 : Int32} (C : CX (GM D ca ad) (XS (GM D ca ad)) cX10_layPieces RX10 4 none 8 K) (hk126 : ∀ (h : PH), k126 h → PW (GM D ca ad) K 4 (qV Q) h 126 [some (.ref 0), some (.int x1), none, none] []) : ∀ (n : Nat) (x2 : Int32) (h : PH), Lp1 (w_X10_layPieces_23 k126 Q x1) n x2 h → PW (GM D ca ad) K 4 (qV Q) h 23 [some (.ref 0), some (.int x1), some (.int x2), none] [] := by
  intro n
  induction n with
  | zero => intro x2 h hw; exact hw.elim
  | succ n ih => intro x2 h hw; exact b_X10_layPieces_23 C hk126 (fun x2 h hw => ih x2 h hw) hw
def w_X10_layPieces_11 (k132 : PH → Prop) (Q : PH → Prop) (kb : Int32 → PH → Prop) (x1 : Int32) (h : PH) : Prop :=
  if (gI h 2 (iN 0)) ≤ x1 then (k132 h) else (∃ n, Lp1 (w_X10_layPieces_23 (fun h12 => kb (x1 + 1) h12) Q x1) n 0 h)
set_option maxRecDepth 8000 in
theorem b_X10_layPieces_11 {D : va_G} {ca : Nat → ClassId} {ad : Nat → Nat} {K : Kt} {k132 : PH → Prop} {kb : Int32 → PH → Prop} {Q : PH → Prop} {x1 : Int32} {h : PH} (C : CX (GM D ca ad) (XS (GM D ca ad)) cX10_layPieces RX10 4 none 8 K) (hk132 : ∀ (h : PH), k132 h → PW (GM D ca ad) K 4 (qV Q) h 132 [some (.ref 0), none, none, none] []) (hkb : ∀ (x1 : Int32) (h : PH), kb x1 h → PW (GM D ca ad) K 4 (qV Q) h 11 [some (.ref 0), some (.int x1), none, none] []) (hw : w_X10_layPieces_11 k132 Q kb x1 h) : PW (GM D ca ad) K 4 (qV Q) h 11 [some (.ref 0), some (.int x1), none, none] [] := by
  unfold w_X10_layPieces_11 at hw
  refine PW.ild1n C dX10_layPieces_11 ?_
  refine PW.ald0n C dX10_layPieces_12 ?_
  refine PW.get0 (v := .ref 2) C cf_10 fl_X10_13 (by decide) oM_0 (fvR (o := 2) rfl) dX10_layPieces_13 ?_
  refine PW.iconst (v := 0) C dX10_layPieces_16 (by decide) ?_
  refine PW.iald C dX10_layPieces_17 aM_2 (vpl (by decide)) ?_
  refine PW.icmp_ge (tgt := 132) C dX10_layPieces_18 (by decide) (fun c => ?_) (fun c => ?_)
  · rw [if_pos c] at hw
    exact PW.wk (wk_s (wk_n (wk_n (wk_n wk_0)))) (hk132 _ hw)
  · rw [if_neg c] at hw
    refine PW.iconst (v := 0) C dX10_layPieces_21 (by decide) ?_
    refine PW.ist2n C dX10_layPieces_22 (by decide) rfl ?_
    obtain ⟨n, hw⟩ := hw
    refine PW.wk (wk_s (wk_s (wk_s (wk_n wk_0)))) (l_X10_layPieces_23 C ?_ n _ _ hw)
    · intro h12 hw
      refine PW.inc1 (v := 1) C dX10_layPieces_126 (by decide) rfl (by decide) ?_
      refine PW.goto (tgt := 11) C dX10_layPieces_129 (by decide) ?_
      exact PW.wk (wk_s (wk_s (wk_n (wk_n wk_0)))) (hkb _ _ hw)
theorem l_X10_layPieces_11 {D : va_G} {ca : Nat → ClassId} {ad : Nat → Nat} {K : Kt} {k132 : PH → Prop} {Q : PH → Prop} (C : CX (GM D ca ad) (XS (GM D ca ad)) cX10_layPieces RX10 4 none 8 K) (hk132 : ∀ (h : PH), k132 h → PW (GM D ca ad) K 4 (qV Q) h 132 [some (.ref 0), none, none, none] []) : ∀ (n : Nat) (x1 : Int32) (h : PH), Lp1 (w_X10_layPieces_11 k132 Q) n x1 h → PW (GM D ca ad) K 4 (qV Q) h 11 [some (.ref 0), some (.int x1), none, none] [] := by
  intro n
  induction n with
  | zero => intro x1 h hw; exact hw.elim
  | succ n ih => intro x1 h hw; exact b_X10_layPieces_11 C hk132 (fun x1 h hw => ih x1 h hw) hw
def w_X10_layPieces_134 (k155 : PH → Prop) (Q : PH → Prop) (kb : Int32 → PH → Prop) (x1 : Int32) (h : PH) : Prop :=
  if (gI h 0 76) ≤ x1 then (k155 h) else (vp_in x1 144 ∧ ∀ h15, h15 = sI h 60 (iN x1) (-1) → kb (x1 + 1) h15)
set_option maxRecDepth 8000 in
theorem b_X10_layPieces_134 {D : va_G} {ca : Nat → ClassId} {ad : Nat → Nat} {K : Kt} {k155 : PH → Prop} {kb : Int32 → PH → Prop} {Q : PH → Prop} {x1 : Int32} {h : PH} (C : CX (GM D ca ad) (XS (GM D ca ad)) cX10_layPieces RX10 4 none 8 K) (hk155 : ∀ (h : PH), k155 h → PW (GM D ca ad) K 4 (qV Q) h 155 [some (.ref 0), none, none, none] []) (hkb : ∀ (x1 : Int32) (h : PH), kb x1 h → PW (GM D ca ad) K 4 (qV Q) h 134 [some (.ref 0), some (.int x1), none, none] []) (hw : w_X10_layPieces_134 k155 Q kb x1 h) : PW (GM D ca ad) K 4 (qV Q) h 134 [some (.ref 0), some (.int x1), none, none] [] := by
  unfold w_X10_layPieces_134 at hw
  refine PW.ild1n C dX10_layPieces_134 ?_
  refine PW.ald0n C dX10_layPieces_135 ?_
  refine PW.get0 C cf_10 fl_X10_539 (by decide) oM_0 (fvI rfl) dX10_layPieces_136 ?_
  refine PW.icmp_ge (tgt := 155) C dX10_layPieces_139 (by decide) (fun c => ?_) (fun c => ?_)
  · rw [if_pos c] at hw
    exact PW.wk (wk_s (wk_n (wk_n (wk_n wk_0)))) (hk155 _ hw)
  · rw [if_neg c] at hw
    refine PW.ald0n C dX10_layPieces_142 ?_
    refine PW.get0 (v := .ref 60) C cf_10 fl_X10_192 (by decide) oM_0 (fvR (o := 60) rfl) dX10_layPieces_143 ?_
    refine PW.ild1n C dX10_layPieces_146 ?_
    refine PW.iconst (v := (-1)) C dX10_layPieces_147 (by decide) ?_
    obtain ⟨hc14, hw⟩ := hw
    replace hw := hw _ rfl
    refine PW.iast C dX10_layPieces_148 aM_60 hc14 ?_
    refine PW.inc1 (v := 1) C dX10_layPieces_149 (by decide) rfl (by decide) ?_
    refine PW.goto (tgt := 134) C dX10_layPieces_152 (by decide) ?_
    exact PW.wk (wk_s (wk_s (wk_n (wk_n wk_0)))) (hkb _ _ hw)
theorem l_X10_layPieces_134 {D : va_G} {ca : Nat → ClassId} {ad : Nat → Nat} {K : Kt} {k155 : PH → Prop} {Q : PH → Prop} (C : CX (GM D ca ad) (XS (GM D ca ad)) cX10_layPieces RX10 4 none 8 K) (hk155 : ∀ (h : PH), k155 h → PW (GM D ca ad) K 4 (qV Q) h 155 [some (.ref 0), none, none, none] []) : ∀ (n : Nat) (x1 : Int32) (h : PH), Lp1 (w_X10_layPieces_134 k155 Q) n x1 h → PW (GM D ca ad) K 4 (qV Q) h 134 [some (.ref 0), some (.int x1), none, none] [] := by
  intro n
  induction n with
  | zero => intro x1 h hw; exact hw.elim
  | succ n ih => intro x1 h hw; exact b_X10_layPieces_134 C hk155 (fun x1 h hw => ih x1 h hw) hw
def w_X10_layPieces_162 (k217 : PH → Prop) (Q : PH → Prop) (kb : Int32 → PH → Prop) (x1 : Int32) (h : PH) : Prop :=
  if (gI h 0 76) ≤ x1 then (k217 h) else (vp_in x1 144 ∧ if (gI h 60 (iN x1)) = (-1) then (vp_in x1 144 ∧ ∀ h20, h20 = sI h 60 (iN x1) (gI h 0 77) → w_X10_spreads (gI h20 0 77) h20 (fun h21 => ∀ h22, h22 = sI h21 0 77 ((gI h21 0 77) + 1) → kb (x1 + 1) h22)) else (kb (x1 + 1) h))
set_option maxRecDepth 8000 in
theorem b_X10_layPieces_162 {D : va_G} {ca : Nat → ClassId} {ad : Nat → Nat} {K : Kt} {k217 : PH → Prop} {kb : Int32 → PH → Prop} {Q : PH → Prop} {x1 : Int32} {h : PH} (C : CX (GM D ca ad) (XS (GM D ca ad)) cX10_layPieces RX10 4 none 8 K) (hk217 : ∀ (h : PH), k217 h → PW (GM D ca ad) K 4 (qV Q) h 217 [none, none, none, none] []) (hkb : ∀ (x1 : Int32) (h : PH), kb x1 h → PW (GM D ca ad) K 4 (qV Q) h 162 [some (.ref 0), some (.int x1), none, none] []) (hw : w_X10_layPieces_162 k217 Q kb x1 h) : PW (GM D ca ad) K 4 (qV Q) h 162 [some (.ref 0), some (.int x1), none, none] [] := by
  unfold w_X10_layPieces_162 at hw
  refine PW.ild1n C dX10_layPieces_162 ?_
  refine PW.ald0n C dX10_layPieces_163 ?_
  refine PW.get0 C cf_10 fl_X10_539 (by decide) oM_0 (fvI rfl) dX10_layPieces_164 ?_
  refine PW.icmp_ge (tgt := 217) C dX10_layPieces_167 (by decide) (fun c => ?_) (fun c => ?_)
  · rw [if_pos c] at hw
    exact PW.wk (wk_n (wk_n (wk_n (wk_n wk_0)))) (hk217 _ hw)
  · rw [if_neg c] at hw
    refine PW.ald0n C dX10_layPieces_170 ?_
    refine PW.get0 (v := .ref 60) C cf_10 fl_X10_192 (by decide) oM_0 (fvR (o := 60) rfl) dX10_layPieces_171 ?_
    refine PW.ild1n C dX10_layPieces_174 ?_
    obtain ⟨hc18, hw⟩ := hw
    refine PW.iald C dX10_layPieces_175 aM_60 hc18 ?_
    refine PW.iconst (v := (-1)) C dX10_layPieces_176 (by decide) ?_
    refine PW.icmp_eq (tgt := 183) C dX10_layPieces_177 (by decide) (fun c => ?_) (fun c => ?_)
    · rw [if_pos c] at hw
      refine PW.ald0n C dX10_layPieces_183 ?_
      refine PW.get0 (v := .ref 60) C cf_10 fl_X10_192 (by decide) oM_0 (fvR (o := 60) rfl) dX10_layPieces_184 ?_
      refine PW.ild1n C dX10_layPieces_187 ?_
      refine PW.ald0n C dX10_layPieces_188 ?_
      refine PW.get0 C cf_10 fl_X10_542 (by decide) oM_0 (fvI rfl) dX10_layPieces_189 ?_
      obtain ⟨hc19, hw⟩ := hw
      replace hw := hw _ rfl
      refine PW.iast C dX10_layPieces_192 aM_60 hc19 ?_
      refine PW.ald0n C dX10_layPieces_193 ?_
      refine PW.ald0n C dX10_layPieces_194 ?_
      refine PW.get0 C cf_10 fl_X10_542 (by decide) oM_0 (fvI rfl) dX10_layPieces_195 ?_
      refine PW.callVV1 C ms_X10_spreads ml_X10_545 dX10_layPieces_198 oM_0 ⟨_, _, rfl⟩ (Nat.le_of_ble_eq_true rfl) (by decide) (Nat.le_of_ble_eq_true rfl) (s_X10_spreads hw) ?_
      clear hw
      intro h21 hw
      refine PW.ald0n C dX10_layPieces_201 ?_
      refine PW.dup C dX10_layPieces_202 rfl ?_
      refine PW.get0 C cf_10 fl_X10_542 (by decide) oM_0 (fvI rfl) dX10_layPieces_203 ?_
      refine PW.iconst (v := 1) C dX10_layPieces_206 (by decide) ?_
      refine PW.iadd C dX10_layPieces_207 ?_
      replace hw := hw _ rfl
      refine PW.put0 C cf_10 fl_X10_542 (by decide) oM_0 rfl rfl rfl (pw_sI oM_0 (by decide) rfl) dX10_layPieces_208 ?_
      refine PW.inc1 (v := 1) C dX10_layPieces_211 (by decide) rfl (by decide) ?_
      refine PW.goto (tgt := 162) C dX10_layPieces_214 (by decide) ?_
      exact PW.wk (wk_s (wk_s (wk_n (wk_n wk_0)))) (hkb _ _ hw)
    · rw [if_neg c] at hw
      refine PW.goto (tgt := 211) C dX10_layPieces_180 (by decide) ?_
      refine PW.inc1 (v := 1) C dX10_layPieces_211 (by decide) rfl (by decide) ?_
      refine PW.goto (tgt := 162) C dX10_layPieces_214 (by decide) ?_
      exact PW.wk (wk_s (wk_s (wk_n (wk_n wk_0)))) (hkb _ _ hw)
theorem l_X10_layPieces_162 {D : va_G} {ca : Nat → ClassId} {ad : Nat → Nat} {K : Kt} {k217 : PH → Prop} {Q : PH → Prop} (C : CX (GM D ca ad) (XS (GM D ca ad)) cX10_layPieces RX10 4 none 8 K) (hk217 : ∀ (h : PH), k217 h → PW (GM D ca ad) K 4 (qV Q) h 217 [none, none, none, none] []) : ∀ (n : Nat) (x1 : Int32) (h : PH), Lp1 (w_X10_layPieces_162 k217 Q) n x1 h → PW (GM D ca ad) K 4 (qV Q) h 162 [some (.ref 0), some (.int x1), none, none] [] := by
  intro n
  induction n with
  | zero => intro x1 h hw; exact hw.elim
  | succ n ih => intro x1 h hw; exact b_X10_layPieces_162 C hk217 (fun x1 h hw => ih x1 h hw) hw
def w_X10_layPieces (h : PH) (Q : PH → Prop) : Prop :=
  w_X10_layDay h (fun h1 => ∀ h2, h2 = sI h1 0 76 0 → ∃ n, Lp1 (w_X10_layPieces_11 (fun h13 => ∃ n, Lp1 (w_X10_layPieces_134 (fun h16 => ∀ h17, h17 = sI h16 0 77 0 → ∃ n, Lp1 (w_X10_layPieces_162 (fun h23 => Q h23) Q) n 0 h17) Q) n 0 h13) Q) n 0 h2)
set_option maxRecDepth 8000 in
theorem s_X10_layPieces {D : va_G} {ca : Nat → ClassId} {ad : Nat → Nat} {l : Launch} {h : PH} {Q : PH → Prop} (hw : w_X10_layPieces h Q) : Sp (GM D ca ad) (XS (GM D ca ad)) l 8 yX10_layPieces cX10_layPieces 4 none [.ref 0] h (qV Q) := by
  refine Sp.of (own := RX10) [some (.ref 0), none, none, none] (by decide +kernel) rfl rfl (Nat.le_of_ble_eq_true rfl) (fun K hl C => ?_)
  subst hl
  unfold w_X10_layPieces at hw
  refine PW.ald0n C dX10_layPieces_0 ?_
  refine PW.callVV0 C ms_X10_layDay ml_X10_515 dX10_layPieces_1 oM_0 ⟨_, _, rfl⟩ (Nat.le_of_ble_eq_true rfl) (by decide) (Nat.le_of_ble_eq_true rfl) (s_X10_layDay hw) ?_
  clear hw
  intro h1 hw
  refine PW.ald0n C dX10_layPieces_4 ?_
  refine PW.iconst (v := 0) C dX10_layPieces_5 (by decide) ?_
  replace hw := hw _ rfl
  refine PW.put0 C cf_10 fl_X10_539 (by decide) oM_0 rfl rfl rfl (pw_sI oM_0 (by decide) rfl) dX10_layPieces_6 ?_
  refine PW.iconst (v := 0) C dX10_layPieces_9 (by decide) ?_
  refine PW.ist1n C dX10_layPieces_10 (by decide) rfl ?_
  obtain ⟨n, hw⟩ := hw
  refine PW.wk (wk_s (wk_s (wk_n (wk_n wk_0)))) (l_X10_layPieces_11 C ?_ n _ _ hw)
  · intro h13 hw
    refine PW.iconst (v := 0) C dX10_layPieces_132 (by decide) ?_
    refine PW.ist1n C dX10_layPieces_133 (by decide) rfl ?_
    obtain ⟨n, hw⟩ := hw
    refine PW.wk (wk_s (wk_s (wk_n (wk_n wk_0)))) (l_X10_layPieces_134 C ?_ n _ _ hw)
    · intro h16 hw
      refine PW.ald0n C dX10_layPieces_155 ?_
      refine PW.iconst (v := 0) C dX10_layPieces_156 (by decide) ?_
      replace hw := hw _ rfl
      refine PW.put0 C cf_10 fl_X10_542 (by decide) oM_0 rfl rfl rfl (pw_sI oM_0 (by decide) rfl) dX10_layPieces_157 ?_
      refine PW.iconst (v := 0) C dX10_layPieces_160 (by decide) ?_
      refine PW.ist1n C dX10_layPieces_161 (by decide) rfl ?_
      obtain ⟨n, hw⟩ := hw
      refine PW.wk (wk_s (wk_s (wk_n (wk_n wk_0)))) (l_X10_layPieces_162 C ?_ n _ _ hw)
      · intro h23 hw
        exact PW.vret C dX10_layPieces_217 ⟨rfl, hw⟩
def w_X10_spans (h : PH) (Q : Int32 → PH → Prop) : Prop :=
  ∀ h1, h1 = sI h 0 0 0 → w_X10_layPieces h1 (fun h2 => Q (gI h2 0 76) h2)
set_option maxRecDepth 8000 in
theorem s_X10_spans {D : va_G} {ca : Nat → ClassId} {ad : Nat → Nat} {l : Launch} {h : PH} {Q : Int32 → PH → Prop} (hw : w_X10_spans h Q) : Sp (GM D ca ad) (XS (GM D ca ad)) l 9 yX10_spans cX10_spans 1 (some .int) [.ref 0] h (qI Q) := by
  refine Sp.of (own := RX10) [some (.ref 0)] (by decide +kernel) rfl rfl (Nat.le_of_ble_eq_true rfl) (fun K hl C => ?_)
  subst hl
  unfold w_X10_spans at hw
  refine PW.ald0n C dX10_spans_0 ?_
  refine PW.iconst (v := 0) C dX10_spans_1 (by decide) ?_
  replace hw := hw _ rfl
  refine PW.put0 C cf_10 fl_X10_235 (by decide) oM_0 rfl rfl rfl (pw_sI oM_0 (by decide) rfl) dX10_spans_2 ?_
  refine PW.ald0n C dX10_spans_5 ?_
  refine PW.callVV0 C ms_X10_layPieces ml_X10_551 dX10_spans_6 oM_0 ⟨_, _, rfl⟩ (Nat.le_of_ble_eq_true rfl) (by decide) (Nat.le_of_ble_eq_true rfl) (s_X10_layPieces hw) ?_
  clear hw
  intro h2 hw
  refine PW.ald0n C dX10_spans_9 ?_
  refine PW.get0 C cf_10 fl_X10_539 (by decide) oM_0 (fvI rfl) dX10_spans_10 ?_
  exact PW.iret C dX10_spans_13 ⟨_, rfl, hw⟩
def w_X10_span (x1 : Int32) (x2 : Int32) (h : PH) (Q : Int32 → PH → Prop) : Prop :=
  ∀ h1, h1 = sI h 0 0 0 → if x1 < 0 then (Q (-1) h1) else (if x2 < 0 then (Q (-1) h1) else (if x2 ≤ 3 then (w_X10_layPieces h1 (fun h2 => if x1 < (gI h2 0 76) then (if x2 = 0 then (vp_in x1 144 ∧ Q (gI h2 57 (iN x1)) h2) else (if x2 = 1 then (vp_in x1 144 ∧ Q (gI h2 58 (iN x1)) h2) else (if x2 = 2 then (vp_in x1 144 ∧ Q (gI h2 59 (iN x1)) h2) else (vp_in x1 144 ∧ Q (gI h2 60 (iN x1)) h2)))) else (Q (-2) h2))) else (Q (-1) h1)))
set_option maxRecDepth 8000 in
theorem s_X10_span {D : va_G} {ca : Nat → ClassId} {ad : Nat → Nat} {l : Launch} {x1 : Int32} {x2 : Int32} {h : PH} {Q : Int32 → PH → Prop} (hw : w_X10_span x1 x2 h Q) : Sp (GM D ca ad) (XS (GM D ca ad)) l 9 yX10_span cX10_span 3 (some .int) [.ref 0, .int x1, .int x2] h (qI Q) := by
  refine Sp.of (own := RX10) [some (.ref 0), some (.int x1), some (.int x2)] (by decide +kernel) rfl rfl (Nat.le_of_ble_eq_true rfl) (fun K hl C => ?_)
  subst hl
  unfold w_X10_span at hw
  refine PW.ald0n C dX10_span_0 ?_
  refine PW.iconst (v := 0) C dX10_span_1 (by decide) ?_
  replace hw := hw _ rfl
  refine PW.put0 C cf_10 fl_X10_235 (by decide) oM_0 rfl rfl rfl (pw_sI oM_0 (by decide) rfl) dX10_span_2 ?_
  refine PW.ild1n C dX10_span_5 ?_
  refine PW.if_lt (tgt := 18) C dX10_span_6 (by decide) (fun c => ?_) (fun c => ?_)
  · rw [if_pos c] at hw
    refine PW.iconst (v := (-1)) C dX10_span_18 (by decide) ?_
    exact PW.iret C dX10_span_19 ⟨_, rfl, hw⟩
  · rw [if_neg c] at hw
    refine PW.ild2n C dX10_span_9 ?_
    refine PW.if_lt (tgt := 18) C dX10_span_10 (by decide) (fun c => ?_) (fun c => ?_)
    · rw [if_pos c] at hw
      refine PW.iconst (v := (-1)) C dX10_span_18 (by decide) ?_
      exact PW.iret C dX10_span_19 ⟨_, rfl, hw⟩
    · rw [if_neg c] at hw
      refine PW.ild2n C dX10_span_13 ?_
      refine PW.iconst (v := 3) C dX10_span_14 (by decide) ?_
      refine PW.icmp_le (tgt := 20) C dX10_span_15 (by decide) (fun c => ?_) (fun c => ?_)
      · rw [if_pos c] at hw
        refine PW.ald0n C dX10_span_20 ?_
        refine PW.callVV0 C ms_X10_layPieces ml_X10_551 dX10_span_21 oM_0 ⟨_, _, rfl⟩ (Nat.le_of_ble_eq_true rfl) (by decide) (Nat.le_of_ble_eq_true rfl) (s_X10_layPieces hw) ?_
        clear hw
        intro h2 hw
        refine PW.ild1n C dX10_span_24 ?_
        refine PW.ald0n C dX10_span_25 ?_
        refine PW.get0 C cf_10 fl_X10_539 (by decide) oM_0 (fvI rfl) dX10_span_26 ?_
        refine PW.icmp_lt (tgt := 35) C dX10_span_29 (by decide) (fun c => ?_) (fun c => ?_)
        · rw [if_pos c] at hw
          refine PW.ild2n C dX10_span_35 ?_
          refine PW.if_ne (tgt := 48) C dX10_span_36 (by decide) (fun c => ?_) (fun c => ?_)
          · rw [if_neg c] at hw
            refine PW.ild2n C dX10_span_48 ?_
            refine PW.iconst (v := 1) C dX10_span_49 (by decide) ?_
            refine PW.icmp_ne (tgt := 62) C dX10_span_50 (by decide) (fun c => ?_) (fun c => ?_)
            · rw [if_neg c] at hw
              refine PW.ild2n C dX10_span_62 ?_
              refine PW.iconst (v := 2) C dX10_span_63 (by decide) ?_
              refine PW.icmp_ne (tgt := 76) C dX10_span_64 (by decide) (fun c => ?_) (fun c => ?_)
              · rw [if_neg c] at hw
                refine PW.ald0n C dX10_span_76 ?_
                refine PW.get0 (v := .ref 60) C cf_10 fl_X10_192 (by decide) oM_0 (fvR (o := 60) rfl) dX10_span_77 ?_
                refine PW.ild1n C dX10_span_80 ?_
                obtain ⟨hc3, hw⟩ := hw
                refine PW.iald C dX10_span_81 aM_60 hc3 ?_
                exact PW.iret C dX10_span_82 ⟨_, rfl, hw⟩
              · rw [if_pos c] at hw
                refine PW.ald0n C dX10_span_67 ?_
                refine PW.get0 (v := .ref 59) C cf_10 fl_X10_189 (by decide) oM_0 (fvR (o := 59) rfl) dX10_span_68 ?_
                refine PW.ild1n C dX10_span_71 ?_
                obtain ⟨hc4, hw⟩ := hw
                refine PW.iald C dX10_span_72 aM_59 hc4 ?_
                refine PW.goto (tgt := 82) C dX10_span_73 (by decide) ?_
                exact PW.iret C dX10_span_82 ⟨_, rfl, hw⟩
            · rw [if_pos c] at hw
              refine PW.ald0n C dX10_span_53 ?_
              refine PW.get0 (v := .ref 58) C cf_10 fl_X10_186 (by decide) oM_0 (fvR (o := 58) rfl) dX10_span_54 ?_
              refine PW.ild1n C dX10_span_57 ?_
              obtain ⟨hc5, hw⟩ := hw
              refine PW.iald C dX10_span_58 aM_58 hc5 ?_
              refine PW.goto (tgt := 82) C dX10_span_59 (by decide) ?_
              exact PW.iret C dX10_span_82 ⟨_, rfl, hw⟩
          · rw [if_pos c] at hw
            refine PW.ald0n C dX10_span_39 ?_
            refine PW.get0 (v := .ref 57) C cf_10 fl_X10_183 (by decide) oM_0 (fvR (o := 57) rfl) dX10_span_40 ?_
            refine PW.ild1n C dX10_span_43 ?_
            obtain ⟨hc6, hw⟩ := hw
            refine PW.iald C dX10_span_44 aM_57 hc6 ?_
            refine PW.goto (tgt := 82) C dX10_span_45 (by decide) ?_
            exact PW.iret C dX10_span_82 ⟨_, rfl, hw⟩
        · rw [if_neg c] at hw
          refine PW.bipush (v := (-2)) C dX10_span_32 (by decide) ?_
          exact PW.iret C dX10_span_34 ⟨_, rfl, hw⟩
      · rw [if_neg c] at hw
        refine PW.iconst (v := (-1)) C dX10_span_18 (by decide) ?_
        exact PW.iret C dX10_span_19 ⟨_, rfl, hw⟩
def w_X10_pieces (h : PH) (Q : Int32 → PH → Prop) : Prop :=
  ∀ h1, h1 = sI h 0 0 0 → w_X10_layPieces h1 (fun h2 => Q (gI h2 0 77) h2)
set_option maxRecDepth 8000 in
theorem s_X10_pieces {D : va_G} {ca : Nat → ClassId} {ad : Nat → Nat} {l : Launch} {h : PH} {Q : Int32 → PH → Prop} (hw : w_X10_pieces h Q) : Sp (GM D ca ad) (XS (GM D ca ad)) l 9 yX10_pieces cX10_pieces 1 (some .int) [.ref 0] h (qI Q) := by
  refine Sp.of (own := RX10) [some (.ref 0)] (by decide +kernel) rfl rfl (Nat.le_of_ble_eq_true rfl) (fun K hl C => ?_)
  subst hl
  unfold w_X10_pieces at hw
  refine PW.ald0n C dX10_pieces_0 ?_
  refine PW.iconst (v := 0) C dX10_pieces_1 (by decide) ?_
  replace hw := hw _ rfl
  refine PW.put0 C cf_10 fl_X10_235 (by decide) oM_0 rfl rfl rfl (pw_sI oM_0 (by decide) rfl) dX10_pieces_2 ?_
  refine PW.ald0n C dX10_pieces_5 ?_
  refine PW.callVV0 C ms_X10_layPieces ml_X10_551 dX10_pieces_6 oM_0 ⟨_, _, rfl⟩ (Nat.le_of_ble_eq_true rfl) (by decide) (Nat.le_of_ble_eq_true rfl) (s_X10_layPieces hw) ?_
  clear hw
  intro h2 hw
  refine PW.ald0n C dX10_pieces_9 ?_
  refine PW.get0 C cf_10 fl_X10_542 (by decide) oM_0 (fvI rfl) dX10_pieces_10 ?_
  exact PW.iret C dX10_pieces_13 ⟨_, rfl, hw⟩
def w_X10_bitsOf_4 (k24 : Int32 → PH → Prop) (Q : Int32 → PH → Prop) (x0 : Int32) (kb : Int32 → Int32 → PH → Prop) (x1 : Int32) (x2 : Int32) (h : PH) : Prop :=
  if 10 ≤ x2 then (k24 x1 h) else (∀ (y1 : Int32), y1 = (x1 + (((x0 : Int32) >>> ((x2 : Int32) &&& 31)) &&& 1)) → kb y1 (x2 + 1) h)
set_option maxRecDepth 8000 in
theorem b_X10_bitsOf_4 {D : va_G} {ca : Nat → ClassId} {ad : Nat → Nat} {K : Kt} {k24 : Int32 → PH → Prop} {kb : Int32 → Int32 → PH → Prop} {Q : Int32 → PH → Prop} {x0 : Int32} {x1 : Int32} {x2 : Int32} {h : PH} (C : CX (GM D ca ad) (XS (GM D ca ad)) cX10_bitsOf RX10 3 (some .int) 1 K) (hk24 : ∀ (x1 : Int32) (h : PH), k24 x1 h → PW (GM D ca ad) K 3 (qI Q) h 24 [none, some (.int x1), none] []) (hkb : ∀ (x1 : Int32) (x2 : Int32) (h : PH), kb x1 x2 h → PW (GM D ca ad) K 3 (qI Q) h 4 [some (.int x0), some (.int x1), some (.int x2)] []) (hw : w_X10_bitsOf_4 k24 Q x0 kb x1 x2 h) : PW (GM D ca ad) K 3 (qI Q) h 4 [some (.int x0), some (.int x1), some (.int x2)] [] := by
  unfold w_X10_bitsOf_4 at hw
  refine PW.ild2n C dX10_bitsOf_4 ?_
  refine PW.bipush (v := 10) C dX10_bitsOf_5 (by decide) ?_
  refine PW.icmp_ge (tgt := 24) C dX10_bitsOf_7 (by decide) (fun c => ?_) (fun c => ?_)
  · rw [if_pos c] at hw
    exact PW.wk (wk_n (wk_s (wk_n wk_0))) (hk24 _ _ hw)
  · rw [if_neg c] at hw
    refine PW.ild1n C dX10_bitsOf_10 ?_
    refine PW.ild0n C dX10_bitsOf_11 ?_
    refine PW.ild2n C dX10_bitsOf_12 ?_
    refine PW.ishr C dX10_bitsOf_13 ?_
    refine PW.iconst (v := 1) C dX10_bitsOf_14 (by decide) ?_
    refine PW.iand C dX10_bitsOf_15 ?_
    refine PW.iadd C dX10_bitsOf_16 ?_
    replace hw := hw _ rfl
    refine PW.ist1n C dX10_bitsOf_17 (by decide) rfl ?_
    refine PW.inc2 (v := 1) C dX10_bitsOf_18 (by decide) rfl (by decide) ?_
    refine PW.goto (tgt := 4) C dX10_bitsOf_21 (by decide) ?_
    exact PW.wk (wk_s (wk_s (wk_s wk_0))) (hkb _ _ _ hw)
theorem l_X10_bitsOf_4 {D : va_G} {ca : Nat → ClassId} {ad : Nat → Nat} {K : Kt} {k24 : Int32 → PH → Prop} {Q : Int32 → PH → Prop} {x0 : Int32} (C : CX (GM D ca ad) (XS (GM D ca ad)) cX10_bitsOf RX10 3 (some .int) 1 K) (hk24 : ∀ (x1 : Int32) (h : PH), k24 x1 h → PW (GM D ca ad) K 3 (qI Q) h 24 [none, some (.int x1), none] []) : ∀ (n : Nat) (x1 : Int32) (x2 : Int32) (h : PH), Lp2 (w_X10_bitsOf_4 k24 Q x0) n x1 x2 h → PW (GM D ca ad) K 3 (qI Q) h 4 [some (.int x0), some (.int x1), some (.int x2)] [] := by
  intro n
  induction n with
  | zero => intro x1 x2 h hw; exact hw.elim
  | succ n ih => intro x1 x2 h hw; exact b_X10_bitsOf_4 C hk24 (fun x1 x2 h hw => ih x1 x2 h hw) hw
def w_X10_bitsOf (x0 : Int32) (h : PH) (Q : Int32 → PH → Prop) : Prop :=
  ∃ n, Lp2 (w_X10_bitsOf_4 (fun y3 h2 => Q y3 h2) Q x0) n 0 0 h
set_option maxRecDepth 8000 in
theorem s_X10_bitsOf {D : va_G} {ca : Nat → ClassId} {ad : Nat → Nat} {l : Launch} {x0 : Int32} {h : PH} {Q : Int32 → PH → Prop} (hw : w_X10_bitsOf x0 h Q) : Sp (GM D ca ad) (XS (GM D ca ad)) l 1 yX10_bitsOf cX10_bitsOf 3 (some .int) [.int x0] h (qI Q) := by
  refine Sp.of (own := RX10) [some (.int x0), none, none] (by decide +kernel) rfl rfl (Nat.le_of_ble_eq_true rfl) (fun K hl C => ?_)
  subst hl
  unfold w_X10_bitsOf at hw
  refine PW.iconst (v := 0) C dX10_bitsOf_0 (by decide) ?_
  refine PW.ist1n C dX10_bitsOf_1 (by decide) rfl ?_
  refine PW.iconst (v := 0) C dX10_bitsOf_2 (by decide) ?_
  refine PW.ist2n C dX10_bitsOf_3 (by decide) rfl ?_
  obtain ⟨n, hw⟩ := hw
  refine PW.wk (wk_s (wk_s (wk_s wk_0))) (l_X10_bitsOf_4 C ?_ n _ _ _ hw)
  · intro y3 h2 hw
    refine PW.ild1n C dX10_bitsOf_24 ?_
    exact PW.iret C dX10_bitsOf_25 ⟨_, rfl, hw⟩
def w_X10_layIts_122 (Q : PH → Prop) (kb : Int32 → Int32 → PH → Prop) (x1 : Int32) (x2 : Int32) (x3 : Int32) (x4 : Int32) (x5 : Int32) (x6 : Int32) (h : PH) : Prop :=
  ∀ h13, h13 = sI h 0 82 ((gI h 0 82) + 1) → ∀ h14, h14 = sI h13 0 84 (mnI (gI h13 0 84) x5) → vp_in x4 144 ∧ ∀ (y16 : Int32), y16 = (x3 ||| ((1 : Int32) <<< (((gI h14 57 (iN x4)) : Int32) &&& 31))) → if x6 < 0 then (kb y16 (x5 + 1) h14) else (∀ h17, h17 = sI h14 0 85 ((gI h14 0 85) ||| ((1 : Int32) <<< ((x6 : Int32) &&& 31))) → kb y16 (x5 + 1) h17)
set_option maxRecDepth 8000 in
theorem b_X10_layIts_122 {D : va_G} {ca : Nat → ClassId} {ad : Nat → Nat} {K : Kt} {kb : Int32 → Int32 → PH → Prop} {Q : PH → Prop} {x1 : Int32} {x2 : Int32} {x3 : Int32} {x4 : Int32} {x5 : Int32} {x6 : Int32} {h : PH} (C : CX (GM D ca ad) (XS (GM D ca ad)) cX10_layIts RX10 7 none 2 K) (hkb : ∀ (x3 : Int32) (x5 : Int32) (h : PH), kb x3 x5 h → PW (GM D ca ad) K 7 (qV Q) h 68 [some (.ref 0), some (.int x1), some (.int x2), some (.int x3), some (.int x4), some (.int x5), none] []) (hw : w_X10_layIts_122 Q kb x1 x2 x3 x4 x5 x6 h) : PW (GM D ca ad) K 7 (qV Q) h 122 [some (.ref 0), some (.int x1), some (.int x2), some (.int x3), some (.int x4), some (.int x5), some (.int x6)] [] := by
  unfold w_X10_layIts_122 at hw
  refine PW.ald0n C dX10_layIts_122 ?_
  refine PW.dup C dX10_layIts_123 rfl ?_
  refine PW.get0 C cf_10 fl_X10_554 (by decide) oM_0 (fvI rfl) dX10_layIts_124 ?_
  refine PW.iconst (v := 1) C dX10_layIts_127 (by decide) ?_
  refine PW.iadd C dX10_layIts_128 ?_
  replace hw := hw _ rfl
  refine PW.put0 C cf_10 fl_X10_554 (by decide) oM_0 rfl rfl rfl (pw_sI oM_0 (by decide) rfl) dX10_layIts_129 ?_
  refine PW.ald0n C dX10_layIts_132 ?_
  refine PW.ald0n C dX10_layIts_133 ?_
  refine PW.get0 C cf_10 fl_X10_557 (by decide) oM_0 (fvI rfl) dX10_layIts_134 ?_
  refine PW.ild5 C dX10_layIts_137 ?_
  refine PW.mnI C ml_X10_474 (Nat.le_of_ble_eq_true rfl) (by decide) dX10_layIts_139 ?_
  replace hw := hw _ rfl
  refine PW.put0 C cf_10 fl_X10_557 (by decide) oM_0 rfl rfl rfl (pw_sI oM_0 (by decide) rfl) dX10_layIts_142 ?_
  refine PW.ild3n C dX10_layIts_145 ?_
  refine PW.iconst (v := 1) C dX10_layIts_146 (by decide) ?_
  refine PW.ald0n C dX10_layIts_147 ?_
  refine PW.get0 (v := .ref 57) C cf_10 fl_X10_183 (by decide) oM_0 (fvR (o := 57) rfl) dX10_layIts_148 ?_
  refine PW.ild4 C dX10_layIts_151 ?_
  obtain ⟨hc15, hw⟩ := hw
  refine PW.iald C dX10_layIts_153 aM_57 hc15 ?_
  refine PW.ishl C dX10_layIts_154 ?_
  refine PW.ior C dX10_layIts_155 ?_
  replace hw := hw _ rfl
  refine PW.ist3n C dX10_layIts_156 (by decide) rfl ?_
  refine PW.ild6 C dX10_layIts_157 ?_
  refine PW.if_lt (tgt := 175) C dX10_layIts_159 (by decide) (fun c => ?_) (fun c => ?_)
  · rw [if_pos c] at hw
    refine PW.inc5 (v := 1) C dX10_layIts_175 (by decide) rfl (by decide) ?_
    refine PW.goto (tgt := 68) C dX10_layIts_178 (by decide) ?_
    exact PW.wk (wk_s (wk_s (wk_s (wk_s (wk_s (wk_s (wk_n wk_0))))))) (hkb _ _ _ hw)
  · rw [if_neg c] at hw
    refine PW.ald0n C dX10_layIts_162 ?_
    refine PW.dup C dX10_layIts_163 rfl ?_
    refine PW.get0 C cf_10 fl_X10_560 (by decide) oM_0 (fvI rfl) dX10_layIts_164 ?_
    refine PW.iconst (v := 1) C dX10_layIts_167 (by decide) ?_
    refine PW.ild6 C dX10_layIts_168 ?_
    refine PW.ishl C dX10_layIts_170 ?_
    refine PW.ior C dX10_layIts_171 ?_
    replace hw := hw _ rfl
    refine PW.put0 C cf_10 fl_X10_560 (by decide) oM_0 rfl rfl rfl (pw_sI oM_0 (by decide) rfl) dX10_layIts_172 ?_
    refine PW.inc5 (v := 1) C dX10_layIts_175 (by decide) rfl (by decide) ?_
    refine PW.goto (tgt := 68) C dX10_layIts_178 (by decide) ?_
    exact PW.wk (wk_s (wk_s (wk_s (wk_s (wk_s (wk_s (wk_n wk_0))))))) (hkb _ _ _ hw)
def w_X10_layIts_68 (k181 : Int32 → PH → Prop) (Q : PH → Prop) (x1 : Int32) (x2 : Int32) (x4 : Int32) (kb : Int32 → Int32 → PH → Prop) (x3 : Int32) (x5 : Int32) (h : PH) : Prop :=
  vp_in x4 144 ∧ if (gI h 59 (iN x4)) < x5 then (k181 x3 h) else (vp_in x4 144 ∧ vp_in ((48 * (gI h 57 (iN x4))) + x5) 288 ∧ ∀ (y12 : Int32), y12 = (gI h 56 (iN ((48 * (gI h 57 (iN x4))) + x5))) → if x2 = (-1) then (w_X10_layIts_122 Q kb x1 x2 x3 x4 x5 y12 h) else (if y12 < 0 then (kb x3 (x5 + 1) h) else (if (((x2 : Int32) >>> ((y12 : Int32) &&& 31)) &&& 1) = 0 then (kb x3 (x5 + 1) h) else (w_X10_layIts_122 Q kb x1 x2 x3 x4 x5 y12 h))))
set_option maxRecDepth 8000 in
theorem b_X10_layIts_68 {D : va_G} {ca : Nat → ClassId} {ad : Nat → Nat} {K : Kt} {k181 : Int32 → PH → Prop} {kb : Int32 → Int32 → PH → Prop} {Q : PH → Prop} {x1 : Int32} {x2 : Int32} {x4 : Int32} {x3 : Int32} {x5 : Int32} {h : PH} (C : CX (GM D ca ad) (XS (GM D ca ad)) cX10_layIts RX10 7 none 2 K) (hk181 : ∀ (x3 : Int32) (h : PH), k181 x3 h → PW (GM D ca ad) K 7 (qV Q) h 181 [some (.ref 0), some (.int x1), some (.int x2), some (.int x3), some (.int x4), none, none] []) (hkb : ∀ (x3 : Int32) (x5 : Int32) (h : PH), kb x3 x5 h → PW (GM D ca ad) K 7 (qV Q) h 68 [some (.ref 0), some (.int x1), some (.int x2), some (.int x3), some (.int x4), some (.int x5), none] []) (hw : w_X10_layIts_68 k181 Q x1 x2 x4 kb x3 x5 h) : PW (GM D ca ad) K 7 (qV Q) h 68 [some (.ref 0), some (.int x1), some (.int x2), some (.int x3), some (.int x4), some (.int x5), none] [] := by
  unfold w_X10_layIts_68 at hw
  refine PW.ild5 C dX10_layIts_68 ?_
  refine PW.ald0n C dX10_layIts_70 ?_
  refine PW.get0 (v := .ref 59) C cf_10 fl_X10_189 (by decide) oM_0 (fvR (o := 59) rfl) dX10_layIts_71 ?_
  refine PW.ild4 C dX10_layIts_74 ?_
  obtain ⟨hc9, hw⟩ := hw
  refine PW.iald C dX10_layIts_76 aM_59 hc9 ?_
  refine PW.icmp_gt (tgt := 181) C dX10_layIts_77 (by decide) (fun c => ?_) (fun c => ?_)
  · rw [if_pos c] at hw
    exact PW.wk (wk_s (wk_s (wk_s (wk_s (wk_s (wk_n (wk_n wk_0))))))) (hk181 _ _ hw)
  · rw [if_neg c] at hw
    refine PW.ald0n C dX10_layIts_80 ?_
    refine PW.get0 (v := .ref 56) C cf_10 fl_X10_180 (by decide) oM_0 (fvR (o := 56) rfl) dX10_layIts_81 ?_
    refine PW.bipush (v := 48) C dX10_layIts_84 (by decide) ?_
    refine PW.ald0n C dX10_layIts_86 ?_
    refine PW.get0 (v := .ref 57) C cf_10 fl_X10_183 (by decide) oM_0 (fvR (o := 57) rfl) dX10_layIts_87 ?_
    refine PW.ild4 C dX10_layIts_90 ?_
    obtain ⟨hc10, hw⟩ := hw
    refine PW.iald C dX10_layIts_92 aM_57 hc10 ?_
    refine PW.imul C dX10_layIts_93 ?_
    refine PW.ild5 C dX10_layIts_94 ?_
    refine PW.iadd C dX10_layIts_96 ?_
    obtain ⟨hc11, hw⟩ := hw
    refine PW.iald C dX10_layIts_97 aM_56 hc11 ?_
    replace hw := hw _ rfl
    refine PW.ist6 C dX10_layIts_98 (by decide) rfl ?_
    refine PW.ild2n C dX10_layIts_100 ?_
    refine PW.iconst (v := (-1)) C dX10_layIts_101 (by decide) ?_
    refine PW.icmp_eq (tgt := 122) C dX10_layIts_102 (by decide) (fun c => ?_) (fun c => ?_)
    · rw [if_pos c] at hw
      exact PW.wk (wk_s (wk_s (wk_s (wk_s (wk_s (wk_s (wk_s wk_0))))))) (b_X10_layIts_122 C hkb hw)
    · rw [if_neg c] at hw
      refine PW.ild6 C dX10_layIts_105 ?_
      refine PW.if_lt (tgt := 175) C dX10_layIts_107 (by decide) (fun c => ?_) (fun c => ?_)
      · rw [if_pos c] at hw
        refine PW.inc5 (v := 1) C dX10_layIts_175 (by decide) rfl (by decide) ?_
        refine PW.goto (tgt := 68) C dX10_layIts_178 (by decide) ?_
        exact PW.wk (wk_s (wk_s (wk_s (wk_s (wk_s (wk_s (wk_n wk_0))))))) (hkb _ _ _ hw)
      · rw [if_neg c] at hw
        refine PW.ild2n C dX10_layIts_110 ?_
        refine PW.ild6 C dX10_layIts_111 ?_
        refine PW.ishr C dX10_layIts_113 ?_
        refine PW.iconst (v := 1) C dX10_layIts_114 (by decide) ?_
        refine PW.iand C dX10_layIts_115 ?_
        refine PW.if_ne (tgt := 122) C dX10_layIts_116 (by decide) (fun c => ?_) (fun c => ?_)
        · rw [if_neg c] at hw
          exact PW.wk (wk_s (wk_s (wk_s (wk_s (wk_s (wk_s (wk_s wk_0))))))) (b_X10_layIts_122 C hkb hw)
        · rw [if_pos c] at hw
          refine PW.goto (tgt := 175) C dX10_layIts_119 (by decide) ?_
          refine PW.inc5 (v := 1) C dX10_layIts_175 (by decide) rfl (by decide) ?_
          refine PW.goto (tgt := 68) C dX10_layIts_178 (by decide) ?_
          exact PW.wk (wk_s (wk_s (wk_s (wk_s (wk_s (wk_s (wk_n wk_0))))))) (hkb _ _ _ hw)
theorem l_X10_layIts_68 {D : va_G} {ca : Nat → ClassId} {ad : Nat → Nat} {K : Kt} {k181 : Int32 → PH → Prop} {Q : PH → Prop} {x1 : Int32} {x2 : Int32} {x4 : Int32} (C : CX (GM D ca ad) (XS (GM D ca ad)) cX10_layIts RX10 7 none 2 K) (hk181 : ∀ (x3 : Int32) (h : PH), k181 x3 h → PW (GM D ca ad) K 7 (qV Q) h 181 [some (.ref 0), some (.int x1), some (.int x2), some (.int x3), some (.int x4), none, none] []) : ∀ (n : Nat) (x3 : Int32) (x5 : Int32) (h : PH), Lp2 (w_X10_layIts_68 k181 Q x1 x2 x4) n x3 x5 h → PW (GM D ca ad) K 7 (qV Q) h 68 [some (.ref 0), some (.int x1), some (.int x2), some (.int x3), some (.int x4), some (.int x5), none] [] := by
  intro n
  induction n with
  | zero => intro x3 x5 h hw; exact hw.elim
  | succ n ih => intro x3 x5 h hw; exact b_X10_layIts_68 C hk181 (fun x3 x5 h hw => ih x3 x5 h hw) hw
def w_X10_layIts_26 (k187 : Int32 → PH → Prop) (Q : PH → Prop) (x1 : Int32) (x2 : Int32) (kb : Int32 → Int32 → PH → Prop) (x3 : Int32) (x4 : Int32) (h : PH) : Prop :=
  if (gI h 0 76) ≤ x4 then (k187 x3 h) else (vp_in x4 144 ∧ if (gI h 60 (iN x4)) = x1 then (∀ h6, h6 = sI h 0 86 ((gI h 0 86) + 1) → vp_in x4 144 ∧ ∀ (y8 : Int32), y8 = (gI h6 58 (iN x4)) → ∃ n, Lp2 (w_X10_layIts_68 (fun y19 h18 => kb y19 (x4 + 1) h18) Q x1 x2 x4) n x3 y8 h6) else (kb x3 (x4 + 1) h))
set_option maxRecDepth 8000 in
theorem b_X10_layIts_26 {D : va_G} {ca : Nat → ClassId} {ad : Nat → Nat} {K : Kt} {k187 : Int32 → PH → Prop} {kb : Int32 → Int32 → PH → Prop} {Q : PH → Prop} {x1 : Int32} {x2 : Int32} {x3 : Int32} {x4 : Int32} {h : PH} (C : CX (GM D ca ad) (XS (GM D ca ad)) cX10_layIts RX10 7 none 2 K) (hk187 : ∀ (x3 : Int32) (h : PH), k187 x3 h → PW (GM D ca ad) K 7 (qV Q) h 187 [some (.ref 0), none, none, some (.int x3), none, none, none] []) (hkb : ∀ (x3 : Int32) (x4 : Int32) (h : PH), kb x3 x4 h → PW (GM D ca ad) K 7 (qV Q) h 26 [some (.ref 0), some (.int x1), some (.int x2), some (.int x3), some (.int x4), none, none] []) (hw : w_X10_layIts_26 k187 Q x1 x2 kb x3 x4 h) : PW (GM D ca ad) K 7 (qV Q) h 26 [some (.ref 0), some (.int x1), some (.int x2), some (.int x3), some (.int x4), none, none] [] := by
  unfold w_X10_layIts_26 at hw
  refine PW.ild4 C dX10_layIts_26 ?_
  refine PW.ald0n C dX10_layIts_28 ?_
  refine PW.get0 C cf_10 fl_X10_539 (by decide) oM_0 (fvI rfl) dX10_layIts_29 ?_
  refine PW.icmp_ge (tgt := 187) C dX10_layIts_32 (by decide) (fun c => ?_) (fun c => ?_)
  · rw [if_pos c] at hw
    exact PW.wk (wk_s (wk_n (wk_n (wk_s (wk_n (wk_n (wk_n wk_0))))))) (hk187 _ _ hw)
  · rw [if_neg c] at hw
    refine PW.ald0n C dX10_layIts_35 ?_
    refine PW.get0 (v := .ref 60) C cf_10 fl_X10_192 (by decide) oM_0 (fvR (o := 60) rfl) dX10_layIts_36 ?_
    refine PW.ild4 C dX10_layIts_39 ?_
    obtain ⟨hc5, hw⟩ := hw
    refine PW.iald C dX10_layIts_41 aM_60 hc5 ?_
    refine PW.ild1n C dX10_layIts_42 ?_
    refine PW.icmp_eq (tgt := 49) C dX10_layIts_43 (by decide) (fun c => ?_) (fun c => ?_)
    · rw [if_pos c] at hw
      refine PW.ald0n C dX10_layIts_49 ?_
      refine PW.dup C dX10_layIts_50 rfl ?_
      refine PW.get0 C cf_10 fl_X10_563 (by decide) oM_0 (fvI rfl) dX10_layIts_51 ?_
      refine PW.iconst (v := 1) C dX10_layIts_54 (by decide) ?_
      refine PW.iadd C dX10_layIts_55 ?_
      replace hw := hw _ rfl
      refine PW.put0 C cf_10 fl_X10_563 (by decide) oM_0 rfl rfl rfl (pw_sI oM_0 (by decide) rfl) dX10_layIts_56 ?_
      refine PW.ald0n C dX10_layIts_59 ?_
      refine PW.get0 (v := .ref 58) C cf_10 fl_X10_186 (by decide) oM_0 (fvR (o := 58) rfl) dX10_layIts_60 ?_
      refine PW.ild4 C dX10_layIts_63 ?_
      obtain ⟨hc7, hw⟩ := hw
      refine PW.iald C dX10_layIts_65 aM_58 hc7 ?_
      replace hw := hw _ rfl
      refine PW.ist5 C dX10_layIts_66 (by decide) rfl ?_
      obtain ⟨n, hw⟩ := hw
      refine PW.wk (wk_s (wk_s (wk_s (wk_s (wk_s (wk_s (wk_n wk_0))))))) (l_X10_layIts_68 C ?_ n _ _ _ hw)
      · intro y19 h18 hw
        refine PW.inc4 (v := 1) C dX10_layIts_181 (by decide) rfl (by decide) ?_
        refine PW.goto (tgt := 26) C dX10_layIts_184 (by decide) ?_
        exact PW.wk (wk_s (wk_s (wk_s (wk_s (wk_s (wk_n (wk_n wk_0))))))) (hkb _ _ _ hw)
    · rw [if_neg c] at hw
      refine PW.goto (tgt := 181) C dX10_layIts_46 (by decide) ?_
      refine PW.inc4 (v := 1) C dX10_layIts_181 (by decide) rfl (by decide) ?_
      refine PW.goto (tgt := 26) C dX10_layIts_184 (by decide) ?_
      exact PW.wk (wk_s (wk_s (wk_s (wk_s (wk_s (wk_n (wk_n wk_0))))))) (hkb _ _ _ hw)
theorem l_X10_layIts_26 {D : va_G} {ca : Nat → ClassId} {ad : Nat → Nat} {K : Kt} {k187 : Int32 → PH → Prop} {Q : PH → Prop} {x1 : Int32} {x2 : Int32} (C : CX (GM D ca ad) (XS (GM D ca ad)) cX10_layIts RX10 7 none 2 K) (hk187 : ∀ (x3 : Int32) (h : PH), k187 x3 h → PW (GM D ca ad) K 7 (qV Q) h 187 [some (.ref 0), none, none, some (.int x3), none, none, none] []) : ∀ (n : Nat) (x3 : Int32) (x4 : Int32) (h : PH), Lp2 (w_X10_layIts_26 k187 Q x1 x2) n x3 x4 h → PW (GM D ca ad) K 7 (qV Q) h 26 [some (.ref 0), some (.int x1), some (.int x2), some (.int x3), some (.int x4), none, none] [] := by
  intro n
  induction n with
  | zero => intro x3 x4 h hw; exact hw.elim
  | succ n ih => intro x3 x4 h hw; exact b_X10_layIts_26 C hk187 (fun x3 x4 h hw => ih x3 x4 h hw) hw
def w_X10_layIts (x1 : Int32) (x2 : Int32) (h : PH) (Q : PH → Prop) : Prop :=
  ∀ h1, h1 = sI h 0 82 0 → ∀ h2, h2 = sI h1 0 84 48 → ∀ h3, h3 = sI h2 0 85 0 → ∀ h4, h4 = sI h3 0 86 0 → ∃ n, Lp2 (w_X10_layIts_26 (fun y21 h20 => w_X10_bitsOf y21 h20 (fun z23 h22 => ∀ h24, h24 = sI h22 0 83 z23 → Q h24)) Q x1 x2) n 0 0 h4
set_option maxRecDepth 8000 in
theorem s_X10_layIts {D : va_G} {ca : Nat → ClassId} {ad : Nat → Nat} {l : Launch} {x1 : Int32} {x2 : Int32} {h : PH} {Q : PH → Prop} (hw : w_X10_layIts x1 x2 h Q) : Sp (GM D ca ad) (XS (GM D ca ad)) l 2 yX10_layIts cX10_layIts 7 none [.ref 0, .int x1, .int x2] h (qV Q) := by
  refine Sp.of (own := RX10) [some (.ref 0), some (.int x1), some (.int x2), none, none, none, none] (by decide +kernel) rfl rfl (Nat.le_of_ble_eq_true rfl) (fun K hl C => ?_)
  subst hl
  unfold w_X10_layIts at hw
  refine PW.ald0n C dX10_layIts_0 ?_
  refine PW.iconst (v := 0) C dX10_layIts_1 (by decide) ?_
  replace hw := hw _ rfl
  refine PW.put0 C cf_10 fl_X10_554 (by decide) oM_0 rfl rfl rfl (pw_sI oM_0 (by decide) rfl) dX10_layIts_2 ?_
  refine PW.ald0n C dX10_layIts_5 ?_
  refine PW.bipush (v := 48) C dX10_layIts_6 (by decide) ?_
  replace hw := hw _ rfl
  refine PW.put0 C cf_10 fl_X10_557 (by decide) oM_0 rfl rfl rfl (pw_sI oM_0 (by decide) rfl) dX10_layIts_8 ?_
  refine PW.ald0n C dX10_layIts_11 ?_
  refine PW.iconst (v := 0) C dX10_layIts_12 (by decide) ?_
  replace hw := hw _ rfl
  refine PW.put0 C cf_10 fl_X10_560 (by decide) oM_0 rfl rfl rfl (pw_sI oM_0 (by decide) rfl) dX10_layIts_13 ?_
  refine PW.ald0n C dX10_layIts_16 ?_
  refine PW.iconst (v := 0) C dX10_layIts_17 (by decide) ?_
  replace hw := hw _ rfl
  refine PW.put0 C cf_10 fl_X10_563 (by decide) oM_0 rfl rfl rfl (pw_sI oM_0 (by decide) rfl) dX10_layIts_18 ?_
  refine PW.iconst (v := 0) C dX10_layIts_21 (by decide) ?_
  refine PW.ist3n C dX10_layIts_22 (by decide) rfl ?_
  refine PW.iconst (v := 0) C dX10_layIts_23 (by decide) ?_
  refine PW.ist4 C dX10_layIts_24 (by decide) rfl ?_
  obtain ⟨n, hw⟩ := hw
  refine PW.wk (wk_s (wk_s (wk_s (wk_s (wk_s (wk_n (wk_n wk_0))))))) (l_X10_layIts_26 C ?_ n _ _ _ hw)
  · intro y21 h20 hw
    refine PW.ald0n C dX10_layIts_187 ?_
    refine PW.ild3n C dX10_layIts_188 ?_
    refine PW.callSI1 C ms_X10_bitsOf ml_X10_566 dX10_layIts_189 (Nat.le_of_ble_eq_true rfl) (by decide) (Nat.le_of_ble_eq_true rfl) (s_X10_bitsOf hw) ?_
    clear hw
    intro z23 h22 hw
    replace hw := hw _ rfl
    refine PW.put0 C cf_10 fl_X10_569 (by decide) oM_0 rfl rfl rfl (pw_sI oM_0 (by decide) rfl) dX10_layIts_192 ?_
    exact PW.vret C dX10_layIts_195 ⟨rfl, hw⟩
def w_X10_worthOfPiece (x1 : Int32) (h : PH) (Q : Int32 → PH → Prop) : Prop :=
  w_X10_layIts x1 (-1) h (fun h1 => w_X10_bitsOf (gI h1 0 85) h1 (fun z3 h2 => w_X10_worthOf (gI h1 0 82) (gI h1 0 83) z3 (gI h2 0 84) h2 (fun z5 h4 => Q z5 h4)))
set_option maxRecDepth 8000 in
theorem s_X10_worthOfPiece {D : va_G} {ca : Nat → ClassId} {ad : Nat → Nat} {l : Launch} {x1 : Int32} {h : PH} {Q : Int32 → PH → Prop} (hw : w_X10_worthOfPiece x1 h Q) : Sp (GM D ca ad) (XS (GM D ca ad)) l 5 yX10_worthOfPiece cX10_worthOfPiece 2 (some .int) [.ref 0, .int x1] h (qI Q) := by
  refine Sp.of (own := RX10) [some (.ref 0), some (.int x1)] (by decide +kernel) rfl rfl (Nat.le_of_ble_eq_true rfl) (fun K hl C => ?_)
  subst hl
  unfold w_X10_worthOfPiece at hw
  refine PW.ald0n C dX10_worthOfPiece_0 ?_
  refine PW.ild1n C dX10_worthOfPiece_1 ?_
  refine PW.iconst (v := (-1)) C dX10_worthOfPiece_2 (by decide) ?_
  refine PW.callVV2 C ms_X10_layIts ml_X10_572 dX10_worthOfPiece_3 oM_0 ⟨_, _, rfl⟩ (Nat.le_of_ble_eq_true rfl) (by decide) (Nat.le_of_ble_eq_true rfl) (s_X10_layIts hw) ?_
  clear hw
  intro h1 hw
  refine PW.ald0n C dX10_worthOfPiece_6 ?_
  refine PW.ald0n C dX10_worthOfPiece_7 ?_
  refine PW.get0 C cf_10 fl_X10_554 (by decide) oM_0 (fvI rfl) dX10_worthOfPiece_8 ?_
  refine PW.ald0n C dX10_worthOfPiece_11 ?_
  refine PW.get0 C cf_10 fl_X10_569 (by decide) oM_0 (fvI rfl) dX10_worthOfPiece_12 ?_
  refine PW.ald0n C dX10_worthOfPiece_15 ?_
  refine PW.get0 C cf_10 fl_X10_560 (by decide) oM_0 (fvI rfl) dX10_worthOfPiece_16 ?_
  refine PW.callSI1 C ms_X10_bitsOf ml_X10_566 dX10_worthOfPiece_19 (Nat.le_of_ble_eq_true rfl) (by decide) (Nat.le_of_ble_eq_true rfl) (s_X10_bitsOf hw) ?_
  clear hw
  intro z3 h2 hw
  refine PW.ald0n C dX10_worthOfPiece_22 ?_
  refine PW.get0 C cf_10 fl_X10_557 (by decide) oM_0 (fvI rfl) dX10_worthOfPiece_23 ?_
  refine PW.callVI4 C ms_X10_worthOf ml_X10_575 dX10_worthOfPiece_26 oM_0 ⟨_, _, rfl⟩ (Nat.le_of_ble_eq_true rfl) (by decide) (Nat.le_of_ble_eq_true rfl) (s_X10_worthOf hw) ?_
  clear hw
  intro z5 h4 hw
  exact PW.iret C dX10_worthOfPiece_29 ⟨_, rfl, hw⟩
def w_X10_worthOfSet (x1 : Int32) (x2 : Int32) (h : PH) (Q : Int32 → PH → Prop) : Prop :=
  if x2 = 0 then (Q 0 h) else (w_X10_layIts x1 x2 h (fun h1 => w_X10_bitsOf x2 h1 (fun z3 h2 => w_X10_worthOf (gI h1 0 82) (gI h1 0 83) z3 (gI h2 0 84) h2 (fun z5 h4 => Q z5 h4))))
set_option maxRecDepth 8000 in
theorem s_X10_worthOfSet {D : va_G} {ca : Nat → ClassId} {ad : Nat → Nat} {l : Launch} {x1 : Int32} {x2 : Int32} {h : PH} {Q : Int32 → PH → Prop} (hw : w_X10_worthOfSet x1 x2 h Q) : Sp (GM D ca ad) (XS (GM D ca ad)) l 5 yX10_worthOfSet cX10_worthOfSet 3 (some .int) [.ref 0, .int x1, .int x2] h (qI Q) := by
  refine Sp.of (own := RX10) [some (.ref 0), some (.int x1), some (.int x2)] (by decide +kernel) rfl rfl (Nat.le_of_ble_eq_true rfl) (fun K hl C => ?_)
  subst hl
  unfold w_X10_worthOfSet at hw
  refine PW.ild2n C dX10_worthOfSet_0 ?_
  refine PW.if_ne (tgt := 6) C dX10_worthOfSet_1 (by decide) (fun c => ?_) (fun c => ?_)
  · rw [if_neg c] at hw
    refine PW.ald0n C dX10_worthOfSet_6 ?_
    refine PW.ild1n C dX10_worthOfSet_7 ?_
    refine PW.ild2n C dX10_worthOfSet_8 ?_
    refine PW.callVV2 C ms_X10_layIts ml_X10_572 dX10_worthOfSet_9 oM_0 ⟨_, _, rfl⟩ (Nat.le_of_ble_eq_true rfl) (by decide) (Nat.le_of_ble_eq_true rfl) (s_X10_layIts hw) ?_
    clear hw
    intro h1 hw
    refine PW.ald0n C dX10_worthOfSet_12 ?_
    refine PW.ald0n C dX10_worthOfSet_13 ?_
    refine PW.get0 C cf_10 fl_X10_554 (by decide) oM_0 (fvI rfl) dX10_worthOfSet_14 ?_
    refine PW.ald0n C dX10_worthOfSet_17 ?_
    refine PW.get0 C cf_10 fl_X10_569 (by decide) oM_0 (fvI rfl) dX10_worthOfSet_18 ?_
    refine PW.ild2n C dX10_worthOfSet_21 ?_
    refine PW.callSI1 C ms_X10_bitsOf ml_X10_566 dX10_worthOfSet_22 (Nat.le_of_ble_eq_true rfl) (by decide) (Nat.le_of_ble_eq_true rfl) (s_X10_bitsOf hw) ?_
    clear hw
    intro z3 h2 hw
    refine PW.ald0n C dX10_worthOfSet_25 ?_
    refine PW.get0 C cf_10 fl_X10_557 (by decide) oM_0 (fvI rfl) dX10_worthOfSet_26 ?_
    refine PW.callVI4 C ms_X10_worthOf ml_X10_575 dX10_worthOfSet_29 oM_0 ⟨_, _, rfl⟩ (Nat.le_of_ble_eq_true rfl) (by decide) (Nat.le_of_ble_eq_true rfl) (s_X10_worthOf hw) ?_
    clear hw
    intro z5 h4 hw
    exact PW.iret C dX10_worthOfSet_32 ⟨_, rfl, hw⟩
  · rw [if_pos c] at hw
    refine PW.iconst (v := 0) C dX10_worthOfSet_4 (by decide) ?_
    exact PW.iret C dX10_worthOfSet_5 ⟨_, rfl, hw⟩
def w_X10_piece (x1 : Int32) (x2 : Int32) (h : PH) (Q : Int32 → PH → Prop) : Prop :=
  ∀ h1, h1 = sI h 0 0 0 → if x1 < 0 then (Q (-1) h1) else (if x2 < 0 then (Q (-1) h1) else (if x2 ≤ 5 then (w_X10_layPieces h1 (fun h2 => if x1 < (gI h2 0 77) then (if x2 = 3 then (w_X10_worthOfPiece x1 h2 (fun z5 h4 => Q z5 h4)) else (w_X10_layIts x1 (-1) h2 (fun h3 => if x2 = 0 then (Q (gI h3 0 82) h3) else (if x2 = 1 then (Q (gI h3 0 83) h3) else (if x2 = 2 then (Q (gI h3 0 85) h3) else (if x2 = 4 then (Q (gI h3 0 84) h3) else (Q (gI h3 0 86) h3))))))) else (Q (-2) h2))) else (Q (-1) h1)))
set_option maxRecDepth 8000 in
theorem s_X10_piece {D : va_G} {ca : Nat → ClassId} {ad : Nat → Nat} {l : Launch} {x1 : Int32} {x2 : Int32} {h : PH} {Q : Int32 → PH → Prop} (hw : w_X10_piece x1 x2 h Q) : Sp (GM D ca ad) (XS (GM D ca ad)) l 9 yX10_piece cX10_piece 3 (some .int) [.ref 0, .int x1, .int x2] h (qI Q) := by
  refine Sp.of (own := RX10) [some (.ref 0), some (.int x1), some (.int x2)] (by decide +kernel) rfl rfl (Nat.le_of_ble_eq_true rfl) (fun K hl C => ?_)
  subst hl
  unfold w_X10_piece at hw
  refine PW.ald0n C dX10_piece_0 ?_
  refine PW.iconst (v := 0) C dX10_piece_1 (by decide) ?_
  replace hw := hw _ rfl
  refine PW.put0 C cf_10 fl_X10_235 (by decide) oM_0 rfl rfl rfl (pw_sI oM_0 (by decide) rfl) dX10_piece_2 ?_
  refine PW.ild1n C dX10_piece_5 ?_
  refine PW.if_lt (tgt := 18) C dX10_piece_6 (by decide) (fun c => ?_) (fun c => ?_)
  · rw [if_pos c] at hw
    refine PW.iconst (v := (-1)) C dX10_piece_18 (by decide) ?_
    exact PW.iret C dX10_piece_19 ⟨_, rfl, hw⟩
  · rw [if_neg c] at hw
    refine PW.ild2n C dX10_piece_9 ?_
    refine PW.if_lt (tgt := 18) C dX10_piece_10 (by decide) (fun c => ?_) (fun c => ?_)
    · rw [if_pos c] at hw
      refine PW.iconst (v := (-1)) C dX10_piece_18 (by decide) ?_
      exact PW.iret C dX10_piece_19 ⟨_, rfl, hw⟩
    · rw [if_neg c] at hw
      refine PW.ild2n C dX10_piece_13 ?_
      refine PW.iconst (v := 5) C dX10_piece_14 (by decide) ?_
      refine PW.icmp_le (tgt := 20) C dX10_piece_15 (by decide) (fun c => ?_) (fun c => ?_)
      · rw [if_pos c] at hw
        refine PW.ald0n C dX10_piece_20 ?_
        refine PW.callVV0 C ms_X10_layPieces ml_X10_551 dX10_piece_21 oM_0 ⟨_, _, rfl⟩ (Nat.le_of_ble_eq_true rfl) (by decide) (Nat.le_of_ble_eq_true rfl) (s_X10_layPieces hw) ?_
        clear hw
        intro h2 hw
        refine PW.ild1n C dX10_piece_24 ?_
        refine PW.ald0n C dX10_piece_25 ?_
        refine PW.get0 C cf_10 fl_X10_542 (by decide) oM_0 (fvI rfl) dX10_piece_26 ?_
        refine PW.icmp_lt (tgt := 35) C dX10_piece_29 (by decide) (fun c => ?_) (fun c => ?_)
        · rw [if_pos c] at hw
          refine PW.ild2n C dX10_piece_35 ?_
          refine PW.iconst (v := 3) C dX10_piece_36 (by decide) ?_
          refine PW.icmp_ne (tgt := 46) C dX10_piece_37 (by decide) (fun c => ?_) (fun c => ?_)
          · rw [if_neg c] at hw
            refine PW.ald0n C dX10_piece_46 ?_
            refine PW.ild1n C dX10_piece_47 ?_
            refine PW.iconst (v := (-1)) C dX10_piece_48 (by decide) ?_
            refine PW.callVV2 C ms_X10_layIts ml_X10_572 dX10_piece_49 oM_0 ⟨_, _, rfl⟩ (Nat.le_of_ble_eq_true rfl) (by decide) (Nat.le_of_ble_eq_true rfl) (s_X10_layIts hw) ?_
            clear hw
            intro h3 hw
            refine PW.ild2n C dX10_piece_52 ?_
            refine PW.if_ne (tgt := 63) C dX10_piece_53 (by decide) (fun c => ?_) (fun c => ?_)
            · rw [if_neg c] at hw
              refine PW.ild2n C dX10_piece_63 ?_
              refine PW.iconst (v := 1) C dX10_piece_64 (by decide) ?_
              refine PW.icmp_ne (tgt := 75) C dX10_piece_65 (by decide) (fun c => ?_) (fun c => ?_)
              · rw [if_neg c] at hw
                refine PW.ild2n C dX10_piece_75 ?_
                refine PW.iconst (v := 2) C dX10_piece_76 (by decide) ?_
                refine PW.icmp_ne (tgt := 87) C dX10_piece_77 (by decide) (fun c => ?_) (fun c => ?_)
                · rw [if_neg c] at hw
                  refine PW.ild2n C dX10_piece_87 ?_
                  refine PW.iconst (v := 4) C dX10_piece_88 (by decide) ?_
                  refine PW.icmp_ne (tgt := 99) C dX10_piece_89 (by decide) (fun c => ?_) (fun c => ?_)
                  · rw [if_neg c] at hw
                    refine PW.ald0n C dX10_piece_99 ?_
                    refine PW.get0 C cf_10 fl_X10_563 (by decide) oM_0 (fvI rfl) dX10_piece_100 ?_
                    exact PW.iret C dX10_piece_103 ⟨_, rfl, hw⟩
                  · rw [if_pos c] at hw
                    refine PW.ald0n C dX10_piece_92 ?_
                    refine PW.get0 C cf_10 fl_X10_557 (by decide) oM_0 (fvI rfl) dX10_piece_93 ?_
                    refine PW.goto (tgt := 103) C dX10_piece_96 (by decide) ?_
                    exact PW.iret C dX10_piece_103 ⟨_, rfl, hw⟩
                · rw [if_pos c] at hw
                  refine PW.ald0n C dX10_piece_80 ?_
                  refine PW.get0 C cf_10 fl_X10_560 (by decide) oM_0 (fvI rfl) dX10_piece_81 ?_
                  refine PW.goto (tgt := 103) C dX10_piece_84 (by decide) ?_
                  exact PW.iret C dX10_piece_103 ⟨_, rfl, hw⟩
              · rw [if_pos c] at hw
                refine PW.ald0n C dX10_piece_68 ?_
                refine PW.get0 C cf_10 fl_X10_569 (by decide) oM_0 (fvI rfl) dX10_piece_69 ?_
                refine PW.goto (tgt := 103) C dX10_piece_72 (by decide) ?_
                exact PW.iret C dX10_piece_103 ⟨_, rfl, hw⟩
            · rw [if_pos c] at hw
              refine PW.ald0n C dX10_piece_56 ?_
              refine PW.get0 C cf_10 fl_X10_554 (by decide) oM_0 (fvI rfl) dX10_piece_57 ?_
              refine PW.goto (tgt := 103) C dX10_piece_60 (by decide) ?_
              exact PW.iret C dX10_piece_103 ⟨_, rfl, hw⟩
          · rw [if_pos c] at hw
            refine PW.ald0n C dX10_piece_40 ?_
            refine PW.ild1n C dX10_piece_41 ?_
            refine PW.callVI1 C ms_X10_worthOfPiece ml_X10_579 dX10_piece_42 oM_0 ⟨_, _, rfl⟩ (Nat.le_of_ble_eq_true rfl) (by decide) (Nat.le_of_ble_eq_true rfl) (s_X10_worthOfPiece hw) ?_
            clear hw
            intro z5 h4 hw
            exact PW.iret C dX10_piece_45 ⟨_, rfl, hw⟩
        · rw [if_neg c] at hw
          refine PW.bipush (v := (-2)) C dX10_piece_32 (by decide) ?_
          exact PW.iret C dX10_piece_34 ⟨_, rfl, hw⟩
      · rw [if_neg c] at hw
        refine PW.iconst (v := (-1)) C dX10_piece_18 (by decide) ?_
        exact PW.iret C dX10_piece_19 ⟨_, rfl, hw⟩
def w_X10_share (x1 : Int32) (x2 : Int32) (h : PH) (Q : Int32 → PH → Prop) : Prop :=
  ∀ h1, h1 = sI h 0 0 0 → if x1 < 0 then (Q (-1) h1) else (w_X10_isOwner x2 h1 (fun z3 h2 => if z3 = 0 then (Q (-1) h2) else (w_X10_layPieces h2 (fun h4 => if x1 < (gI h4 0 77) then (w_X10_layIts x1 ((1 : Int32) <<< ((x2 : Int32) &&& 31)) h4 (fun h5 => Q (gI h5 0 82) h5)) else (Q (-2) h4)))))
set_option maxRecDepth 8000 in
theorem s_X10_share {D : va_G} {ca : Nat → ClassId} {ad : Nat → Nat} {l : Launch} {x1 : Int32} {x2 : Int32} {h : PH} {Q : Int32 → PH → Prop} (hw : w_X10_share x1 x2 h Q) : Sp (GM D ca ad) (XS (GM D ca ad)) l 9 yX10_share cX10_share 3 (some .int) [.ref 0, .int x1, .int x2] h (qI Q) := by
  refine Sp.of (own := RX10) [some (.ref 0), some (.int x1), some (.int x2)] (by decide +kernel) rfl rfl (Nat.le_of_ble_eq_true rfl) (fun K hl C => ?_)
  subst hl
  unfold w_X10_share at hw
  refine PW.ald0n C dX10_share_0 ?_
  refine PW.iconst (v := 0) C dX10_share_1 (by decide) ?_
  replace hw := hw _ rfl
  refine PW.put0 C cf_10 fl_X10_235 (by decide) oM_0 rfl rfl rfl (pw_sI oM_0 (by decide) rfl) dX10_share_2 ?_
  refine PW.ild1n C dX10_share_5 ?_
  refine PW.if_lt (tgt := 17) C dX10_share_6 (by decide) (fun c => ?_) (fun c => ?_)
  · rw [if_pos c] at hw
    refine PW.iconst (v := (-1)) C dX10_share_17 (by decide) ?_
    exact PW.iret C dX10_share_18 ⟨_, rfl, hw⟩
  · rw [if_neg c] at hw
    refine PW.ald0n C dX10_share_9 ?_
    refine PW.ild2n C dX10_share_10 ?_
    refine PW.callVI1 C ms_X10_isOwner ml_X10_512 dX10_share_11 oM_0 ⟨_, _, rfl⟩ (Nat.le_of_ble_eq_true rfl) (by decide) (Nat.le_of_ble_eq_true rfl) (s_X10_isOwner hw) ?_
    clear hw
    intro z3 h2 hw
    refine PW.if_ne (tgt := 19) C dX10_share_14 (by decide) (fun c => ?_) (fun c => ?_)
    · rw [if_neg c] at hw
      refine PW.ald0n C dX10_share_19 ?_
      refine PW.callVV0 C ms_X10_layPieces ml_X10_551 dX10_share_20 oM_0 ⟨_, _, rfl⟩ (Nat.le_of_ble_eq_true rfl) (by decide) (Nat.le_of_ble_eq_true rfl) (s_X10_layPieces hw) ?_
      clear hw
      intro h4 hw
      refine PW.ild1n C dX10_share_23 ?_
      refine PW.ald0n C dX10_share_24 ?_
      refine PW.get0 C cf_10 fl_X10_542 (by decide) oM_0 (fvI rfl) dX10_share_25 ?_
      refine PW.icmp_lt (tgt := 34) C dX10_share_28 (by decide) (fun c => ?_) (fun c => ?_)
      · rw [if_pos c] at hw
        refine PW.ald0n C dX10_share_34 ?_
        refine PW.ild1n C dX10_share_35 ?_
        refine PW.iconst (v := 1) C dX10_share_36 (by decide) ?_
        refine PW.ild2n C dX10_share_37 ?_
        refine PW.ishl C dX10_share_38 ?_
        refine PW.callVV2 C ms_X10_layIts ml_X10_572 dX10_share_39 oM_0 ⟨_, _, rfl⟩ (Nat.le_of_ble_eq_true rfl) (by decide) (Nat.le_of_ble_eq_true rfl) (s_X10_layIts hw) ?_
        clear hw
        intro h5 hw
        refine PW.ald0n C dX10_share_42 ?_
        refine PW.get0 C cf_10 fl_X10_554 (by decide) oM_0 (fvI rfl) dX10_share_43 ?_
        exact PW.iret C dX10_share_46 ⟨_, rfl, hw⟩
      · rw [if_neg c] at hw
        refine PW.bipush (v := (-2)) C dX10_share_31 (by decide) ?_
        exact PW.iret C dX10_share_33 ⟨_, rfl, hw⟩
    · rw [if_pos c] at hw
      refine PW.iconst (v := (-1)) C dX10_share_17 (by decide) ?_
      exact PW.iret C dX10_share_18 ⟨_, rfl, hw⟩
def w_X10_factorial (x0 : Int32) (h : PH) (Q : Int32 → PH → Prop) : Prop :=
  if 2 ≤ x0 then (if x0 = 2 then (Q 2 h) else (if x0 = 3 then (Q 6 h) else (Q 24 h))) else (Q 1 h)
set_option maxRecDepth 8000 in
theorem s_X10_factorial {D : va_G} {ca : Nat → ClassId} {ad : Nat → Nat} {l : Launch} {x0 : Int32} {h : PH} {Q : Int32 → PH → Prop} (hw : w_X10_factorial x0 h Q) : Sp (GM D ca ad) (XS (GM D ca ad)) l 1 yX10_factorial cX10_factorial 1 (some .int) [.int x0] h (qI Q) := by
  refine Sp.of (own := RX10) [some (.int x0)] (by decide +kernel) rfl rfl (Nat.le_of_ble_eq_true rfl) (fun K hl C => ?_)
  subst hl
  unfold w_X10_factorial at hw
  refine PW.ild0n C dX10_factorial_0 ?_
  refine PW.iconst (v := 2) C dX10_factorial_1 (by decide) ?_
  refine PW.icmp_ge (tgt := 9) C dX10_factorial_2 (by decide) (fun c => ?_) (fun c => ?_)
  · rw [if_pos c] at hw
    refine PW.ild0n C dX10_factorial_9 ?_
    refine PW.iconst (v := 2) C dX10_factorial_10 (by decide) ?_
    refine PW.icmp_ne (tgt := 18) C dX10_factorial_11 (by decide) (fun c => ?_) (fun c => ?_)
    · rw [if_neg c] at hw
      refine PW.ild0n C dX10_factorial_18 ?_
      refine PW.iconst (v := 3) C dX10_factorial_19 (by decide) ?_
      refine PW.icmp_ne (tgt := 28) C dX10_factorial_20 (by decide) (fun c => ?_) (fun c => ?_)
      · rw [if_neg c] at hw
        refine PW.bipush (v := 24) C dX10_factorial_28 (by decide) ?_
        exact PW.iret C dX10_factorial_30 ⟨_, rfl, hw⟩
      · rw [if_pos c] at hw
        refine PW.bipush (v := 6) C dX10_factorial_23 (by decide) ?_
        refine PW.goto (tgt := 30) C dX10_factorial_25 (by decide) ?_
        exact PW.iret C dX10_factorial_30 ⟨_, rfl, hw⟩
    · rw [if_pos c] at hw
      refine PW.iconst (v := 2) C dX10_factorial_14 (by decide) ?_
      refine PW.goto (tgt := 30) C dX10_factorial_15 (by decide) ?_
      exact PW.iret C dX10_factorial_30 ⟨_, rfl, hw⟩
  · rw [if_neg c] at hw
    refine PW.iconst (v := 1) C dX10_factorial_5 (by decide) ?_
    refine PW.goto (tgt := 30) C dX10_factorial_6 (by decide) ?_
    exact PW.iret C dX10_factorial_30 ⟨_, rfl, hw⟩
def w_X10_part_61 (k149 : Int32 → PH → Prop) (Q : Int32 → PH → Prop) (x1 : Int32) (x2 : Int32) (x3 : Int32) (kb : Int32 → Int32 → PH → Prop) (x4 : Int32) (x5 : Int32) (h : PH) : Prop :=
  if 16 ≤ x5 then (k149 x4 h) else (if (x5 &&& (x3 ^^^ (-1))) = 0 then (if (((x5 : Int32) >>> ((x2 : Int32) &&& 31)) &&& 1) = 1 then (kb x4 (x5 + 1) h) else (w_X10_bitsOf x5 h (fun z8 h7 => w_X10_factorial z8 h7 (fun z10 h9 => w_X10_bitsOf x3 h9 (fun z12 h11 => w_X10_bitsOf x5 h11 (fun z14 h13 => w_X10_factorial ((z12 - z14) - 1) h13 (fun z16 h15 => ∀ (y17 : Int32), y17 = (z10 * z16) → w_X10_worthOfSet x1 (x5 ||| ((1 : Int32) <<< ((x2 : Int32) &&& 31))) h15 (fun z19 h18 => w_X10_worthOfSet x1 x5 h18 (fun z21 h20 => ∀ (y22 : Int32), y22 = (x4 + (y17 * (z19 - z21))) → kb y22 (x5 + 1) h20))))))))) else (kb x4 (x5 + 1) h))
set_option maxRecDepth 8000 in
theorem b_X10_part_61 {D : va_G} {ca : Nat → ClassId} {ad : Nat → Nat} {K : Kt} {k149 : Int32 → PH → Prop} {kb : Int32 → Int32 → PH → Prop} {Q : Int32 → PH → Prop} {x1 : Int32} {x2 : Int32} {x3 : Int32} {x4 : Int32} {x5 : Int32} {h : PH} (C : CX (GM D ca ad) (XS (GM D ca ad)) cX10_part RX10 7 (some .int) 9 K) (hk149 : ∀ (x4 : Int32) (h : PH), k149 x4 h → PW (GM D ca ad) K 7 (qI Q) h 149 [none, none, none, none, some (.int x4), none, none] []) (hkb : ∀ (x4 : Int32) (x5 : Int32) (h : PH), kb x4 x5 h → PW (GM D ca ad) K 7 (qI Q) h 61 [some (.ref 0), some (.int x1), some (.int x2), some (.int x3), some (.int x4), some (.int x5), none] []) (hw : w_X10_part_61 k149 Q x1 x2 x3 kb x4 x5 h) : PW (GM D ca ad) K 7 (qI Q) h 61 [some (.ref 0), some (.int x1), some (.int x2), some (.int x3), some (.int x4), some (.int x5), none] [] := by
  unfold w_X10_part_61 at hw
  refine PW.ild5 C dX10_part_61 ?_
  refine PW.bipush (v := 16) C dX10_part_63 (by decide) ?_
  refine PW.icmp_ge (tgt := 149) C dX10_part_65 (by decide) (fun c => ?_) (fun c => ?_)
  · rw [if_pos c] at hw
    exact PW.wk (wk_n (wk_n (wk_n (wk_n (wk_s (wk_n (wk_n wk_0))))))) (hk149 _ _ hw)
  · rw [if_neg c] at hw
    refine PW.ild5 C dX10_part_68 ?_
    refine PW.ild3n C dX10_part_70 ?_
    refine PW.iconst (v := (-1)) C dX10_part_71 (by decide) ?_
    refine PW.ixor C dX10_part_72 ?_
    refine PW.iand C dX10_part_73 ?_
    refine PW.if_ne (tgt := 143) C dX10_part_74 (by decide) (fun c => ?_) (fun c => ?_)
    · rw [if_neg c] at hw
      refine PW.inc5 (v := 1) C dX10_part_143 (by decide) rfl (by decide) ?_
      refine PW.goto (tgt := 61) C dX10_part_146 (by decide) ?_
      exact PW.wk (wk_s (wk_s (wk_s (wk_s (wk_s (wk_s (wk_n wk_0))))))) (hkb _ _ _ hw)
    · rw [if_pos c] at hw
      refine PW.ild5 C dX10_part_77 ?_
      refine PW.ild2n C dX10_part_79 ?_
      refine PW.ishr C dX10_part_80 ?_
      refine PW.iconst (v := 1) C dX10_part_81 (by decide) ?_
      refine PW.iand C dX10_part_82 ?_
      refine PW.iconst (v := 1) C dX10_part_83 (by decide) ?_
      refine PW.icmp_ne (tgt := 90) C dX10_part_84 (by decide) (fun c => ?_) (fun c => ?_)
      · rw [if_neg c] at hw
        refine PW.ild5 C dX10_part_90 ?_
        refine PW.callSI1 C ms_X10_bitsOf ml_X10_566 dX10_part_92 (Nat.le_of_ble_eq_true rfl) (by decide) (Nat.le_of_ble_eq_true rfl) (s_X10_bitsOf hw) ?_
        clear hw
        intro z8 h7 hw
        refine PW.callSI1 C ms_X10_factorial ml_X10_582 dX10_part_95 (Nat.le_of_ble_eq_true rfl) (by decide) (Nat.le_of_ble_eq_true rfl) (s_X10_factorial hw) ?_
        clear hw
        intro z10 h9 hw
        refine PW.ild3n C dX10_part_98 ?_
        refine PW.callSI1 C ms_X10_bitsOf ml_X10_566 dX10_part_99 (Nat.le_of_ble_eq_true rfl) (by decide) (Nat.le_of_ble_eq_true rfl) (s_X10_bitsOf hw) ?_
        clear hw
        intro z12 h11 hw
        refine PW.ild5 C dX10_part_102 ?_
        refine PW.callSI1 C ms_X10_bitsOf ml_X10_566 dX10_part_104 (Nat.le_of_ble_eq_true rfl) (by decide) (Nat.le_of_ble_eq_true rfl) (s_X10_bitsOf hw) ?_
        clear hw
        intro z14 h13 hw
        refine PW.isub C dX10_part_107 ?_
        refine PW.iconst (v := 1) C dX10_part_108 (by decide) ?_
        refine PW.isub C dX10_part_109 ?_
        refine PW.callSI1 C ms_X10_factorial ml_X10_582 dX10_part_110 (Nat.le_of_ble_eq_true rfl) (by decide) (Nat.le_of_ble_eq_true rfl) (s_X10_factorial hw) ?_
        clear hw
        intro z16 h15 hw
        refine PW.imul C dX10_part_113 ?_
        replace hw := hw _ rfl
        refine PW.ist6 C dX10_part_114 (by decide) rfl ?_
        refine PW.ild4 C dX10_part_116 ?_
        refine PW.ild6 C dX10_part_118 ?_
        refine PW.ald0n C dX10_part_120 ?_
        refine PW.ild1n C dX10_part_121 ?_
        refine PW.ild5 C dX10_part_122 ?_
        refine PW.iconst (v := 1) C dX10_part_124 (by decide) ?_
        refine PW.ild2n C dX10_part_125 ?_
        refine PW.ishl C dX10_part_126 ?_
        refine PW.ior C dX10_part_127 ?_
        refine PW.callVI2 C ms_X10_worthOfSet ml_X10_585 dX10_part_128 oM_0 ⟨_, _, rfl⟩ (Nat.le_of_ble_eq_true rfl) (by decide) (Nat.le_of_ble_eq_true rfl) (s_X10_worthOfSet hw) ?_
        clear hw
        intro z19 h18 hw
        refine PW.ald0n C dX10_part_131 ?_
        refine PW.ild1n C dX10_part_132 ?_
        refine PW.ild5 C dX10_part_133 ?_
        refine PW.callVI2 C ms_X10_worthOfSet ml_X10_585 dX10_part_135 oM_0 ⟨_, _, rfl⟩ (Nat.le_of_ble_eq_true rfl) (by decide) (Nat.le_of_ble_eq_true rfl) (s_X10_worthOfSet hw) ?_
        clear hw
        intro z21 h20 hw
        refine PW.isub C dX10_part_138 ?_
        refine PW.imul C dX10_part_139 ?_
        refine PW.iadd C dX10_part_140 ?_
        replace hw := hw _ rfl
        refine PW.ist4 C dX10_part_141 (by decide) rfl ?_
        refine PW.inc5 (v := 1) C dX10_part_143 (by decide) rfl (by decide) ?_
        refine PW.goto (tgt := 61) C dX10_part_146 (by decide) ?_
        exact PW.wk (wk_s (wk_s (wk_s (wk_s (wk_s (wk_s (wk_n wk_0))))))) (hkb _ _ _ hw)
      · rw [if_pos c] at hw
        refine PW.goto (tgt := 143) C dX10_part_87 (by decide) ?_
        refine PW.inc5 (v := 1) C dX10_part_143 (by decide) rfl (by decide) ?_
        refine PW.goto (tgt := 61) C dX10_part_146 (by decide) ?_
        exact PW.wk (wk_s (wk_s (wk_s (wk_s (wk_s (wk_s (wk_n wk_0))))))) (hkb _ _ _ hw)
theorem l_X10_part_61 {D : va_G} {ca : Nat → ClassId} {ad : Nat → Nat} {K : Kt} {k149 : Int32 → PH → Prop} {Q : Int32 → PH → Prop} {x1 : Int32} {x2 : Int32} {x3 : Int32} (C : CX (GM D ca ad) (XS (GM D ca ad)) cX10_part RX10 7 (some .int) 9 K) (hk149 : ∀ (x4 : Int32) (h : PH), k149 x4 h → PW (GM D ca ad) K 7 (qI Q) h 149 [none, none, none, none, some (.int x4), none, none] []) : ∀ (n : Nat) (x4 : Int32) (x5 : Int32) (h : PH), Lp2 (w_X10_part_61 k149 Q x1 x2 x3) n x4 x5 h → PW (GM D ca ad) K 7 (qI Q) h 61 [some (.ref 0), some (.int x1), some (.int x2), some (.int x3), some (.int x4), some (.int x5), none] [] := by
  intro n
  induction n with
  | zero => intro x4 x5 h hw; exact hw.elim
  | succ n ih => intro x4 x5 h hw; exact b_X10_part_61 C hk149 (fun x4 x5 h hw => ih x4 x5 h hw) hw
def w_X10_part (x1 : Int32) (x2 : Int32) (h : PH) (Q : Int32 → PH → Prop) : Prop :=
  ∀ h1, h1 = sI h 0 0 0 → if x1 < 0 then (Q (-1) h1) else (w_X10_isOwner x2 h1 (fun z3 h2 => if z3 = 0 then (Q (-1) h2) else (w_X10_layPieces h2 (fun h4 => if x1 < (gI h4 0 77) then (w_X10_layIts x1 (-1) h4 (fun h5 => ∀ (y6 : Int32), y6 = (gI h5 0 85) → if (((y6 : Int32) >>> ((x2 : Int32) &&& 31)) &&& 1) = 0 then (Q 0 h5) else (∃ n, Lp2 (w_X10_part_61 (fun y24 h23 => Q y24 h23) Q x1 x2 y6) n 0 0 h5))) else (Q (-2) h4)))))
set_option maxRecDepth 8000 in
theorem s_X10_part {D : va_G} {ca : Nat → ClassId} {ad : Nat → Nat} {l : Launch} {x1 : Int32} {x2 : Int32} {h : PH} {Q : Int32 → PH → Prop} (hw : w_X10_part x1 x2 h Q) : Sp (GM D ca ad) (XS (GM D ca ad)) l 9 yX10_part cX10_part 7 (some .int) [.ref 0, .int x1, .int x2] h (qI Q) := by
  refine Sp.of (own := RX10) [some (.ref 0), some (.int x1), some (.int x2), none, none, none, none] (by decide +kernel) rfl rfl (Nat.le_of_ble_eq_true rfl) (fun K hl C => ?_)
  subst hl
  unfold w_X10_part at hw
  refine PW.ald0n C dX10_part_0 ?_
  refine PW.iconst (v := 0) C dX10_part_1 (by decide) ?_
  replace hw := hw _ rfl
  refine PW.put0 C cf_10 fl_X10_235 (by decide) oM_0 rfl rfl rfl (pw_sI oM_0 (by decide) rfl) dX10_part_2 ?_
  refine PW.ild1n C dX10_part_5 ?_
  refine PW.if_lt (tgt := 17) C dX10_part_6 (by decide) (fun c => ?_) (fun c => ?_)
  · rw [if_pos c] at hw
    refine PW.iconst (v := (-1)) C dX10_part_17 (by decide) ?_
    exact PW.iret C dX10_part_18 ⟨_, rfl, hw⟩
  · rw [if_neg c] at hw
    refine PW.ald0n C dX10_part_9 ?_
    refine PW.ild2n C dX10_part_10 ?_
    refine PW.callVI1 C ms_X10_isOwner ml_X10_512 dX10_part_11 oM_0 ⟨_, _, rfl⟩ (Nat.le_of_ble_eq_true rfl) (by decide) (Nat.le_of_ble_eq_true rfl) (s_X10_isOwner hw) ?_
    clear hw
    intro z3 h2 hw
    refine PW.if_ne (tgt := 19) C dX10_part_14 (by decide) (fun c => ?_) (fun c => ?_)
    · rw [if_neg c] at hw
      refine PW.ald0n C dX10_part_19 ?_
      refine PW.callVV0 C ms_X10_layPieces ml_X10_551 dX10_part_20 oM_0 ⟨_, _, rfl⟩ (Nat.le_of_ble_eq_true rfl) (by decide) (Nat.le_of_ble_eq_true rfl) (s_X10_layPieces hw) ?_
      clear hw
      intro h4 hw
      refine PW.ild1n C dX10_part_23 ?_
      refine PW.ald0n C dX10_part_24 ?_
      refine PW.get0 C cf_10 fl_X10_542 (by decide) oM_0 (fvI rfl) dX10_part_25 ?_
      refine PW.icmp_lt (tgt := 34) C dX10_part_28 (by decide) (fun c => ?_) (fun c => ?_)
      · rw [if_pos c] at hw
        refine PW.ald0n C dX10_part_34 ?_
        refine PW.ild1n C dX10_part_35 ?_
        refine PW.iconst (v := (-1)) C dX10_part_36 (by decide) ?_
        refine PW.callVV2 C ms_X10_layIts ml_X10_572 dX10_part_37 oM_0 ⟨_, _, rfl⟩ (Nat.le_of_ble_eq_true rfl) (by decide) (Nat.le_of_ble_eq_true rfl) (s_X10_layIts hw) ?_
        clear hw
        intro h5 hw
        refine PW.ald0n C dX10_part_40 ?_
        refine PW.get0 C cf_10 fl_X10_560 (by decide) oM_0 (fvI rfl) dX10_part_41 ?_
        replace hw := hw _ rfl
        refine PW.ist3n C dX10_part_44 (by decide) rfl ?_
        refine PW.ild3n C dX10_part_45 ?_
        refine PW.ild2n C dX10_part_46 ?_
        refine PW.ishr C dX10_part_47 ?_
        refine PW.iconst (v := 1) C dX10_part_48 (by decide) ?_
        refine PW.iand C dX10_part_49 ?_
        refine PW.if_ne (tgt := 55) C dX10_part_50 (by decide) (fun c => ?_) (fun c => ?_)
        · rw [if_neg c] at hw
          refine PW.iconst (v := 0) C dX10_part_55 (by decide) ?_
          refine PW.ist4 C dX10_part_56 (by decide) rfl ?_
          refine PW.iconst (v := 0) C dX10_part_58 (by decide) ?_
          refine PW.ist5 C dX10_part_59 (by decide) rfl ?_
          obtain ⟨n, hw⟩ := hw
          refine PW.wk (wk_s (wk_s (wk_s (wk_s (wk_s (wk_s (wk_n wk_0))))))) (l_X10_part_61 C ?_ n _ _ _ hw)
          · intro y24 h23 hw
            refine PW.ild4 C dX10_part_149 ?_
            exact PW.iret C dX10_part_151 ⟨_, rfl, hw⟩
        · rw [if_pos c] at hw
          refine PW.iconst (v := 0) C dX10_part_53 (by decide) ?_
          exact PW.iret C dX10_part_54 ⟨_, rfl, hw⟩
      · rw [if_neg c] at hw
        refine PW.bipush (v := (-2)) C dX10_part_31 (by decide) ?_
        exact PW.iret C dX10_part_33 ⟨_, rfl, hw⟩
    · rw [if_pos c] at hw
      refine PW.iconst (v := (-1)) C dX10_part_17 (by decide) ?_
      exact PW.iret C dX10_part_18 ⟨_, rfl, hw⟩
def w_X10_leaves_56 (k102 : Int32 → PH → Prop) (k111 : PH → Prop) (Q : Int32 → PH → Prop) (x1 : Int32) (x2 : Int64) (x4 : Int32) (x5 : Int64) (kb : Int32 → PH → Prop) (x7 : Int32) (h : PH) : Prop :=
  if 16 ≤ x7 then (k111 h) else (if (x7 &&& (x4 ^^^ (-1))) = 0 then (w_X10_worthOfSet x1 x7 h (fun z10 h9 => ∀ (y11 : Int64), y11 = (z10 : Int32).toInt64 → if (lg_cmp (y11 * x5) (x2 * ((gI h9 0 82) : Int32).toInt64)) ≤ 0 then (kb (x7 + 1) h9) else (k102 x7 h9))) else (kb (x7 + 1) h))
set_option maxRecDepth 8000 in
theorem b_X10_leaves_56 {D : va_G} {ca : Nat → ClassId} {ad : Nat → Nat} {K : Kt} {k102 : Int32 → PH → Prop} {k111 : PH → Prop} {kb : Int32 → PH → Prop} {Q : Int32 → PH → Prop} {x1 : Int32} {x2 : Int64} {x4 : Int32} {x5 : Int64} {x7 : Int32} {h : PH} (C : CX (GM D ca ad) (XS (GM D ca ad)) cX10_leaves RX10 10 (some .int) 9 K) (hk102 : ∀ (x7 : Int32) (h : PH), k102 x7 h → PW (GM D ca ad) K 10 (qI Q) h 102 [none, none, none, none, none, none, none, some (.int x7), none, none] []) (hk111 : ∀ (h : PH), k111 h → PW (GM D ca ad) K 10 (qI Q) h 111 [none, none, none, none, none, none, none, none, none, none] []) (hkb : ∀ (x7 : Int32) (h : PH), kb x7 h → PW (GM D ca ad) K 10 (qI Q) h 56 [some (.ref 0), some (.int x1), some (.long x2), none, some (.int x4), some (.long x5), none, some (.int x7), none, none] []) (hw : w_X10_leaves_56 k102 k111 Q x1 x2 x4 x5 kb x7 h) : PW (GM D ca ad) K 10 (qI Q) h 56 [some (.ref 0), some (.int x1), some (.long x2), none, some (.int x4), some (.long x5), none, some (.int x7), none, none] [] := by
  unfold w_X10_leaves_56 at hw
  refine PW.ild7 C dX10_leaves_56 ?_
  refine PW.bipush (v := 16) C dX10_leaves_58 (by decide) ?_
  refine PW.icmp_ge (tgt := 111) C dX10_leaves_60 (by decide) (fun c => ?_) (fun c => ?_)
  · rw [if_pos c] at hw
    exact PW.wk (wk_n (wk_n (wk_n (wk_n (wk_n (wk_n (wk_n (wk_n (wk_n (wk_n wk_0)))))))))) (hk111 _ hw)
  · rw [if_neg c] at hw
    refine PW.ild7 C dX10_leaves_63 ?_
    refine PW.ild4 C dX10_leaves_65 ?_
    refine PW.iconst (v := (-1)) C dX10_leaves_67 (by decide) ?_
    refine PW.ixor C dX10_leaves_68 ?_
    refine PW.iand C dX10_leaves_69 ?_
    refine PW.if_eq (tgt := 76) C dX10_leaves_70 (by decide) (fun c => ?_) (fun c => ?_)
    · rw [if_pos c] at hw
      refine PW.ald0n C dX10_leaves_76 ?_
      refine PW.ild1n C dX10_leaves_77 ?_
      refine PW.ild7 C dX10_leaves_78 ?_
      refine PW.callVI2 C ms_X10_worthOfSet ml_X10_585 dX10_leaves_80 oM_0 ⟨_, _, rfl⟩ (Nat.le_of_ble_eq_true rfl) (by decide) (Nat.le_of_ble_eq_true rfl) (s_X10_worthOfSet hw) ?_
      clear hw
      intro z10 h9 hw
      refine PW.i2l C dX10_leaves_83 ?_
      replace hw := hw _ rfl
      refine PW.lst8 C dX10_leaves_84 (by decide) rfl ?_
      refine PW.lld8 C dX10_leaves_86 ?_
      refine PW.lld5 C dX10_leaves_88 ?_
      refine PW.lmul C dX10_leaves_90 ?_
      refine PW.lld2n C dX10_leaves_91 ?_
      refine PW.ald0n C dX10_leaves_92 ?_
      refine PW.get0 C cf_10 fl_X10_554 (by decide) oM_0 (fvI rfl) dX10_leaves_93 ?_
      refine PW.i2l C dX10_leaves_96 ?_
      refine PW.lmul C dX10_leaves_97 ?_
      refine PW.lcmp C dX10_leaves_98 ?_
      refine PW.if_le (tgt := 105) C dX10_leaves_99 (by decide) (fun c => ?_) (fun c => ?_)
      · rw [if_pos c] at hw
        refine PW.inc7 (v := 1) C dX10_leaves_105 (by decide) rfl (by decide) ?_
        refine PW.goto (tgt := 56) C dX10_leaves_108 (by decide) ?_
        exact PW.wk (wk_s (wk_s (wk_s (wk_n (wk_s (wk_s (wk_n (wk_s (wk_n (wk_n wk_0)))))))))) (hkb _ _ hw)
      · rw [if_neg c] at hw
        exact PW.wk (wk_n (wk_n (wk_n (wk_n (wk_n (wk_n (wk_n (wk_s (wk_n (wk_n wk_0)))))))))) (hk102 _ _ hw)
    · rw [if_neg c] at hw
      refine PW.goto (tgt := 105) C dX10_leaves_73 (by decide) ?_
      refine PW.inc7 (v := 1) C dX10_leaves_105 (by decide) rfl (by decide) ?_
      refine PW.goto (tgt := 56) C dX10_leaves_108 (by decide) ?_
      exact PW.wk (wk_s (wk_s (wk_s (wk_n (wk_s (wk_s (wk_n (wk_s (wk_n (wk_n wk_0)))))))))) (hkb _ _ hw)
theorem l_X10_leaves_56 {D : va_G} {ca : Nat → ClassId} {ad : Nat → Nat} {K : Kt} {k102 : Int32 → PH → Prop} {k111 : PH → Prop} {Q : Int32 → PH → Prop} {x1 : Int32} {x2 : Int64} {x4 : Int32} {x5 : Int64} (C : CX (GM D ca ad) (XS (GM D ca ad)) cX10_leaves RX10 10 (some .int) 9 K) (hk102 : ∀ (x7 : Int32) (h : PH), k102 x7 h → PW (GM D ca ad) K 10 (qI Q) h 102 [none, none, none, none, none, none, none, some (.int x7), none, none] []) (hk111 : ∀ (h : PH), k111 h → PW (GM D ca ad) K 10 (qI Q) h 111 [none, none, none, none, none, none, none, none, none, none] []) : ∀ (n : Nat) (x7 : Int32) (h : PH), Lp1 (w_X10_leaves_56 k102 k111 Q x1 x2 x4 x5) n x7 h → PW (GM D ca ad) K 10 (qI Q) h 56 [some (.ref 0), some (.int x1), some (.long x2), none, some (.int x4), some (.long x5), none, some (.int x7), none, none] [] := by
  intro n
  induction n with
  | zero => intro x7 h hw; exact hw.elim
  | succ n ih => intro x7 h hw; exact b_X10_leaves_56 C hk102 hk111 (fun x7 h hw => ih x7 h hw) hw
def w_X10_leaves (x1 : Int32) (h : PH) (Q : Int32 → PH → Prop) : Prop :=
  ∀ h1, h1 = sI h 0 0 0 → if 0 ≤ x1 then (w_X10_layPieces h1 (fun h2 => if x1 < (gI h2 0 77) then (w_X10_worthOfPiece x1 h2 (fun z4 h3 => ∀ (y5 : Int64), y5 = (z4 : Int32).toInt64 → ∀ (y6 : Int32), y6 = (gI h3 0 85) → w_X10_layIts x1 y6 h3 (fun h7 => ∀ (y8 : Int64), y8 = ((gI h7 0 82) : Int32).toInt64 → ∃ n, Lp1 (w_X10_leaves_56 (fun y13 h12 => Q y13 h12) (fun h14 => Q 0 h14) Q x1 y5 y6 y8) n 1 h7))) else (Q (-2) h2))) else (Q (-1) h1)
set_option maxRecDepth 8000 in
theorem s_X10_leaves {D : va_G} {ca : Nat → ClassId} {ad : Nat → Nat} {l : Launch} {x1 : Int32} {h : PH} {Q : Int32 → PH → Prop} (hw : w_X10_leaves x1 h Q) : Sp (GM D ca ad) (XS (GM D ca ad)) l 9 yX10_leaves cX10_leaves 10 (some .int) [.ref 0, .int x1] h (qI Q) := by
  refine Sp.of (own := RX10) [some (.ref 0), some (.int x1), none, none, none, none, none, none, none, none] (by decide +kernel) rfl rfl (Nat.le_of_ble_eq_true rfl) (fun K hl C => ?_)
  subst hl
  unfold w_X10_leaves at hw
  refine PW.ald0n C dX10_leaves_0 ?_
  refine PW.iconst (v := 0) C dX10_leaves_1 (by decide) ?_
  replace hw := hw _ rfl
  refine PW.put0 C cf_10 fl_X10_235 (by decide) oM_0 rfl rfl rfl (pw_sI oM_0 (by decide) rfl) dX10_leaves_2 ?_
  refine PW.ild1n C dX10_leaves_5 ?_
  refine PW.if_ge (tgt := 11) C dX10_leaves_6 (by decide) (fun c => ?_) (fun c => ?_)
  · rw [if_pos c] at hw
    refine PW.ald0n C dX10_leaves_11 ?_
    refine PW.callVV0 C ms_X10_layPieces ml_X10_551 dX10_leaves_12 oM_0 ⟨_, _, rfl⟩ (Nat.le_of_ble_eq_true rfl) (by decide) (Nat.le_of_ble_eq_true rfl) (s_X10_layPieces hw) ?_
    clear hw
    intro h2 hw
    refine PW.ild1n C dX10_leaves_15 ?_
    refine PW.ald0n C dX10_leaves_16 ?_
    refine PW.get0 C cf_10 fl_X10_542 (by decide) oM_0 (fvI rfl) dX10_leaves_17 ?_
    refine PW.icmp_lt (tgt := 26) C dX10_leaves_20 (by decide) (fun c => ?_) (fun c => ?_)
    · rw [if_pos c] at hw
      refine PW.ald0n C dX10_leaves_26 ?_
      refine PW.ild1n C dX10_leaves_27 ?_
      refine PW.callVI1 C ms_X10_worthOfPiece ml_X10_579 dX10_leaves_28 oM_0 ⟨_, _, rfl⟩ (Nat.le_of_ble_eq_true rfl) (by decide) (Nat.le_of_ble_eq_true rfl) (s_X10_worthOfPiece hw) ?_
      clear hw
      intro z4 h3 hw
      refine PW.i2l C dX10_leaves_31 ?_
      replace hw := hw _ rfl
      refine PW.lst2n C dX10_leaves_32 (by decide) rfl ?_
      refine PW.ald0n C dX10_leaves_33 ?_
      refine PW.get0 C cf_10 fl_X10_560 (by decide) oM_0 (fvI rfl) dX10_leaves_34 ?_
      replace hw := hw _ rfl
      refine PW.ist4 C dX10_leaves_37 (by decide) rfl ?_
      refine PW.ald0n C dX10_leaves_39 ?_
      refine PW.ild1n C dX10_leaves_40 ?_
      refine PW.ild4 C dX10_leaves_41 ?_
      refine PW.callVV2 C ms_X10_layIts ml_X10_572 dX10_leaves_43 oM_0 ⟨_, _, rfl⟩ (Nat.le_of_ble_eq_true rfl) (by decide) (Nat.le_of_ble_eq_true rfl) (s_X10_layIts hw) ?_
      clear hw
      intro h7 hw
      refine PW.ald0n C dX10_leaves_46 ?_
      refine PW.get0 C cf_10 fl_X10_554 (by decide) oM_0 (fvI rfl) dX10_leaves_47 ?_
      refine PW.i2l C dX10_leaves_50 ?_
      replace hw := hw _ rfl
      refine PW.lst5 C dX10_leaves_51 (by decide) rfl ?_
      refine PW.iconst (v := 1) C dX10_leaves_53 (by decide) ?_
      refine PW.ist7 C dX10_leaves_54 (by decide) rfl ?_
      obtain ⟨n, hw⟩ := hw
      refine PW.wk (wk_s (wk_s (wk_s (wk_n (wk_s (wk_s (wk_n (wk_s (wk_n (wk_n wk_0)))))))))) (l_X10_leaves_56 C ?_ ?_ n _ _ hw)
      · intro y13 h12 hw
        refine PW.ild7 C dX10_leaves_102 ?_
        exact PW.iret C dX10_leaves_104 ⟨_, rfl, hw⟩
      · intro h14 hw
        refine PW.iconst (v := 0) C dX10_leaves_111 (by decide) ?_
        exact PW.iret C dX10_leaves_112 ⟨_, rfl, hw⟩
    · rw [if_neg c] at hw
      refine PW.bipush (v := (-2)) C dX10_leaves_23 (by decide) ?_
      exact PW.iret C dX10_leaves_25 ⟨_, rfl, hw⟩
  · rw [if_neg c] at hw
    refine PW.iconst (v := (-1)) C dX10_leaves_9 (by decide) ?_
    exact PW.iret C dX10_leaves_10 ⟨_, rfl, hw⟩
def w_X10_keepNow_45 (Q : PH → Prop) (h : PH) : Prop :=
  w_X10_copies (2 + (gI h 0 61)) 0 h (fun h1 => ∀ h2, h2 = sI h1 0 61 ((gI h1 0 61) + 1) → Q h2)
set_option maxRecDepth 8000 in
theorem b_X10_keepNow_45 {D : va_G} {ca : Nat → ClassId} {ad : Nat → Nat} {K : Kt} {Q : PH → Prop} {h : PH} (C : CX (GM D ca ad) (XS (GM D ca ad)) cX10_keepNow RX10 2 none 2 K) (hw : w_X10_keepNow_45 Q h) : PW (GM D ca ad) K 2 (qV Q) h 45 [some (.ref 0), none] [] := by
  unfold w_X10_keepNow_45 at hw
  refine PW.ald0n C dX10_keepNow_45 ?_
  refine PW.iconst (v := 2) C dX10_keepNow_46 (by decide) ?_
  refine PW.ald0n C dX10_keepNow_47 ?_
  refine PW.get0 C cf_10 fl_X10_413 (by decide) oM_0 (fvI rfl) dX10_keepNow_48 ?_
  refine PW.iadd C dX10_keepNow_51 ?_
  refine PW.iconst (v := 0) C dX10_keepNow_52 (by decide) ?_
  refine PW.callVV2 C ms_X10_copies ml_X10_588 dX10_keepNow_53 oM_0 ⟨_, _, rfl⟩ (Nat.le_of_ble_eq_true rfl) (by decide) (Nat.le_of_ble_eq_true rfl) (s_X10_copies hw) ?_
  clear hw
  intro h1 hw
  refine PW.ald0n C dX10_keepNow_56 ?_
  refine PW.dup C dX10_keepNow_57 rfl ?_
  refine PW.get0 C cf_10 fl_X10_413 (by decide) oM_0 (fvI rfl) dX10_keepNow_58 ?_
  refine PW.iconst (v := 1) C dX10_keepNow_61 (by decide) ?_
  refine PW.iadd C dX10_keepNow_62 ?_
  replace hw := hw _ rfl
  refine PW.put0 C cf_10 fl_X10_413 (by decide) oM_0 rfl rfl rfl (pw_sI oM_0 (by decide) rfl) dX10_keepNow_63 ?_
  exact PW.vret C dX10_keepNow_66 ⟨rfl, hw⟩
def w_X10_keepNow_11 (k35 : PH → Prop) (Q : PH → Prop) (kb : Int32 → PH → Prop) (x1 : Int32) (h : PH) : Prop :=
  if 20 ≤ x1 then (k35 h) else (w_X10_copies ((2 + x1) - 1) (2 + x1) h (fun h3 => kb (x1 + 1) h3))
set_option maxRecDepth 8000 in
theorem b_X10_keepNow_11 {D : va_G} {ca : Nat → ClassId} {ad : Nat → Nat} {K : Kt} {k35 : PH → Prop} {kb : Int32 → PH → Prop} {Q : PH → Prop} {x1 : Int32} {h : PH} (C : CX (GM D ca ad) (XS (GM D ca ad)) cX10_keepNow RX10 2 none 2 K) (hk35 : ∀ (h : PH), k35 h → PW (GM D ca ad) K 2 (qV Q) h 35 [some (.ref 0), none] []) (hkb : ∀ (x1 : Int32) (h : PH), kb x1 h → PW (GM D ca ad) K 2 (qV Q) h 11 [some (.ref 0), some (.int x1)] []) (hw : w_X10_keepNow_11 k35 Q kb x1 h) : PW (GM D ca ad) K 2 (qV Q) h 11 [some (.ref 0), some (.int x1)] [] := by
  unfold w_X10_keepNow_11 at hw
  refine PW.ild1n C dX10_keepNow_11 ?_
  refine PW.bipush (v := 20) C dX10_keepNow_12 (by decide) ?_
  refine PW.icmp_ge (tgt := 35) C dX10_keepNow_14 (by decide) (fun c => ?_) (fun c => ?_)
  · rw [if_pos c] at hw
    exact PW.wk (wk_s (wk_n wk_0)) (hk35 _ hw)
  · rw [if_neg c] at hw
    refine PW.ald0n C dX10_keepNow_17 ?_
    refine PW.iconst (v := 2) C dX10_keepNow_18 (by decide) ?_
    refine PW.ild1n C dX10_keepNow_19 ?_
    refine PW.iadd C dX10_keepNow_20 ?_
    refine PW.iconst (v := 1) C dX10_keepNow_21 (by decide) ?_
    refine PW.isub C dX10_keepNow_22 ?_
    refine PW.iconst (v := 2) C dX10_keepNow_23 (by decide) ?_
    refine PW.ild1n C dX10_keepNow_24 ?_
    refine PW.iadd C dX10_keepNow_25 ?_
    refine PW.callVV2 C ms_X10_copies ml_X10_588 dX10_keepNow_26 oM_0 ⟨_, _, rfl⟩ (Nat.le_of_ble_eq_true rfl) (by decide) (Nat.le_of_ble_eq_true rfl) (s_X10_copies hw) ?_
    clear hw
    intro h3 hw
    refine PW.inc1 (v := 1) C dX10_keepNow_29 (by decide) rfl (by decide) ?_
    refine PW.goto (tgt := 11) C dX10_keepNow_32 (by decide) ?_
    exact PW.wk (wk_s (wk_s wk_0)) (hkb _ _ hw)
theorem l_X10_keepNow_11 {D : va_G} {ca : Nat → ClassId} {ad : Nat → Nat} {K : Kt} {k35 : PH → Prop} {Q : PH → Prop} (C : CX (GM D ca ad) (XS (GM D ca ad)) cX10_keepNow RX10 2 none 2 K) (hk35 : ∀ (h : PH), k35 h → PW (GM D ca ad) K 2 (qV Q) h 35 [some (.ref 0), none] []) : ∀ (n : Nat) (x1 : Int32) (h : PH), Lp1 (w_X10_keepNow_11 k35 Q) n x1 h → PW (GM D ca ad) K 2 (qV Q) h 11 [some (.ref 0), some (.int x1)] [] := by
  intro n
  induction n with
  | zero => intro x1 h hw; exact hw.elim
  | succ n ih => intro x1 h hw; exact b_X10_keepNow_11 C hk35 (fun x1 h hw => ih x1 h hw) hw
def w_X10_keepNow (h : PH) (Q : PH → Prop) : Prop :=
  if (gI h 0 61) = 20 then (∃ n, Lp1 (w_X10_keepNow_11 (fun h4 => ∀ h5, h5 = sI h4 0 61 ((gI h4 0 61) - 1) → w_X10_keepNow_45 Q h5) Q) n 1 h) else (w_X10_keepNow_45 Q h)
set_option maxRecDepth 8000 in
theorem s_X10_keepNow {D : va_G} {ca : Nat → ClassId} {ad : Nat → Nat} {l : Launch} {h : PH} {Q : PH → Prop} (hw : w_X10_keepNow h Q) : Sp (GM D ca ad) (XS (GM D ca ad)) l 2 yX10_keepNow cX10_keepNow 2 none [.ref 0] h (qV Q) := by
  refine Sp.of (own := RX10) [some (.ref 0), none] (by decide +kernel) rfl rfl (Nat.le_of_ble_eq_true rfl) (fun K hl C => ?_)
  subst hl
  unfold w_X10_keepNow at hw
  refine PW.ald0n C dX10_keepNow_0 ?_
  refine PW.get0 C cf_10 fl_X10_413 (by decide) oM_0 (fvI rfl) dX10_keepNow_1 ?_
  refine PW.bipush (v := 20) C dX10_keepNow_4 (by decide) ?_
  refine PW.icmp_ne (tgt := 45) C dX10_keepNow_6 (by decide) (fun c => ?_) (fun c => ?_)
  · rw [if_neg c] at hw
    exact PW.wk (wk_s (wk_n wk_0)) (b_X10_keepNow_45 C hw)
  · rw [if_pos c] at hw
    refine PW.iconst (v := 1) C dX10_keepNow_9 (by decide) ?_
    refine PW.ist1n C dX10_keepNow_10 (by decide) rfl ?_
    obtain ⟨n, hw⟩ := hw
    refine PW.wk (wk_s (wk_s wk_0)) (l_X10_keepNow_11 C ?_ n _ _ hw)
    · intro h4 hw
      refine PW.ald0n C dX10_keepNow_35 ?_
      refine PW.dup C dX10_keepNow_36 rfl ?_
      refine PW.get0 C cf_10 fl_X10_413 (by decide) oM_0 (fvI rfl) dX10_keepNow_37 ?_
      refine PW.iconst (v := 1) C dX10_keepNow_40 (by decide) ?_
      refine PW.isub C dX10_keepNow_41 ?_
      replace hw := hw _ rfl
      refine PW.put0 C cf_10 fl_X10_413 (by decide) oM_0 rfl rfl rfl (pw_sI oM_0 (by decide) rfl) dX10_keepNow_42 ?_
      exact PW.wk (wk_s (wk_n wk_0)) (b_X10_keepNow_45 C hw)
def w_X10_make (x1 : Int32) (x2 : Int32) (x3 : Int32) (x4 : Int32) (x5 : Int32) (h : PH) (Q : Int32 → PH → Prop) : Prop :=
  ∀ h1, h1 = sI h 0 0 0 → w_X10_isPlace x1 h1 (fun z3 h2 => if z3 = 0 then (Q (-1) h2) else (w_X10_isOwner x2 h2 (fun z5 h4 => if z5 = 0 then (Q (-1) h4) else (w_X10_isMinute x3 h4 (fun z7 h6 => if z7 = 0 then (Q (-1) h6) else (w_X10_isMinute x4 h6 (fun z9 h8 => if z9 = 0 then (Q (-1) h8) else (if x4 < x3 then (Q (-1) h8) else (w_X10_isLoud x5 h8 (fun z11 h10 => if z11 = 0 then (Q (-1) h10) else (if (gI h10 34 (iN 0)) = 12 then (Q (-1) h10) else (w_X10_keepNow h10 (fun h12 => w_X10_makes x1 x2 x3 x4 x5 h12 (fun h13 => Q ((gI h13 34 (iN 0)) - 1) h13))))))))))))))
set_option maxRecDepth 8000 in
theorem s_X10_make {D : va_G} {ca : Nat → ClassId} {ad : Nat → Nat} {l : Launch} {x1 : Int32} {x2 : Int32} {x3 : Int32} {x4 : Int32} {x5 : Int32} {h : PH} {Q : Int32 → PH → Prop} (hw : w_X10_make x1 x2 x3 x4 x5 h Q) : Sp (GM D ca ad) (XS (GM D ca ad)) l 3 yX10_make cX10_make 6 (some .int) [.ref 0, .int x1, .int x2, .int x3, .int x4, .int x5] h (qI Q) := by
  refine Sp.of (own := RX10) [some (.ref 0), some (.int x1), some (.int x2), some (.int x3), some (.int x4), some (.int x5)] (by decide +kernel) rfl rfl (Nat.le_of_ble_eq_true rfl) (fun K hl C => ?_)
  subst hl
  unfold w_X10_make at hw
  refine PW.ald0n C dX10_make_0 ?_
  refine PW.iconst (v := 0) C dX10_make_1 (by decide) ?_
  replace hw := hw _ rfl
  refine PW.put0 C cf_10 fl_X10_235 (by decide) oM_0 rfl rfl rfl (pw_sI oM_0 (by decide) rfl) dX10_make_2 ?_
  refine PW.ald0n C dX10_make_5 ?_
  refine PW.ild1n C dX10_make_6 ?_
  refine PW.callVI1 C ms_X10_isPlace ml_X10_527 dX10_make_7 oM_0 ⟨_, _, rfl⟩ (Nat.le_of_ble_eq_true rfl) (by decide) (Nat.le_of_ble_eq_true rfl) (s_X10_isPlace hw) ?_
  clear hw
  intro z3 h2 hw
  refine PW.if_eq (tgt := 61) C dX10_make_10 (by decide) (fun c => ?_) (fun c => ?_)
  · rw [if_pos c] at hw
    refine PW.iconst (v := (-1)) C dX10_make_61 (by decide) ?_
    exact PW.iret C dX10_make_62 ⟨_, rfl, hw⟩
  · rw [if_neg c] at hw
    refine PW.ald0n C dX10_make_13 ?_
    refine PW.ild2n C dX10_make_14 ?_
    refine PW.callVI1 C ms_X10_isOwner ml_X10_512 dX10_make_15 oM_0 ⟨_, _, rfl⟩ (Nat.le_of_ble_eq_true rfl) (by decide) (Nat.le_of_ble_eq_true rfl) (s_X10_isOwner hw) ?_
    clear hw
    intro z5 h4 hw
    refine PW.if_eq (tgt := 61) C dX10_make_18 (by decide) (fun c => ?_) (fun c => ?_)
    · rw [if_pos c] at hw
      refine PW.iconst (v := (-1)) C dX10_make_61 (by decide) ?_
      exact PW.iret C dX10_make_62 ⟨_, rfl, hw⟩
    · rw [if_neg c] at hw
      refine PW.ild3n C dX10_make_21 ?_
      refine PW.callSI1 C ms_X10_isMinute ml_X10_530 dX10_make_22 (Nat.le_of_ble_eq_true rfl) (by decide) (Nat.le_of_ble_eq_true rfl) (s_X10_isMinute hw) ?_
      clear hw
      intro z7 h6 hw
      refine PW.if_eq (tgt := 61) C dX10_make_25 (by decide) (fun c => ?_) (fun c => ?_)
      · rw [if_pos c] at hw
        refine PW.iconst (v := (-1)) C dX10_make_61 (by decide) ?_
        exact PW.iret C dX10_make_62 ⟨_, rfl, hw⟩
      · rw [if_neg c] at hw
        refine PW.ild4 C dX10_make_28 ?_
        refine PW.callSI1 C ms_X10_isMinute ml_X10_530 dX10_make_30 (Nat.le_of_ble_eq_true rfl) (by decide) (Nat.le_of_ble_eq_true rfl) (s_X10_isMinute hw) ?_
        clear hw
        intro z9 h8 hw
        refine PW.if_eq (tgt := 61) C dX10_make_33 (by decide) (fun c => ?_) (fun c => ?_)
        · rw [if_pos c] at hw
          refine PW.iconst (v := (-1)) C dX10_make_61 (by decide) ?_
          exact PW.iret C dX10_make_62 ⟨_, rfl, hw⟩
        · rw [if_neg c] at hw
          refine PW.ild4 C dX10_make_36 ?_
          refine PW.ild3n C dX10_make_38 ?_
          refine PW.icmp_lt (tgt := 61) C dX10_make_39 (by decide) (fun c => ?_) (fun c => ?_)
          · rw [if_pos c] at hw
            refine PW.iconst (v := (-1)) C dX10_make_61 (by decide) ?_
            exact PW.iret C dX10_make_62 ⟨_, rfl, hw⟩
          · rw [if_neg c] at hw
            refine PW.ild5 C dX10_make_42 ?_
            refine PW.callSI1 C ms_X10_isLoud ml_X10_591 dX10_make_44 (Nat.le_of_ble_eq_true rfl) (by decide) (Nat.le_of_ble_eq_true rfl) (s_X10_isLoud hw) ?_
            clear hw
            intro z11 h10 hw
            refine PW.if_eq (tgt := 61) C dX10_make_47 (by decide) (fun c => ?_) (fun c => ?_)
            · rw [if_pos c] at hw
              refine PW.iconst (v := (-1)) C dX10_make_61 (by decide) ?_
              exact PW.iret C dX10_make_62 ⟨_, rfl, hw⟩
            · rw [if_neg c] at hw
              refine PW.ald0n C dX10_make_50 ?_
              refine PW.get0 (v := .ref 34) C cf_10 fl_X10_114 (by decide) oM_0 (fvR (o := 34) rfl) dX10_make_51 ?_
              refine PW.iconst (v := 0) C dX10_make_54 (by decide) ?_
              refine PW.iald C dX10_make_55 aM_34 (vpl (by decide)) ?_
              refine PW.bipush (v := 12) C dX10_make_56 (by decide) ?_
              refine PW.icmp_ne (tgt := 63) C dX10_make_58 (by decide) (fun c => ?_) (fun c => ?_)
              · rw [if_neg c] at hw
                refine PW.ald0n C dX10_make_63 ?_
                refine PW.callVV0 C ms_X10_keepNow ml_X10_594 dX10_make_64 oM_0 ⟨_, _, rfl⟩ (Nat.le_of_ble_eq_true rfl) (by decide) (Nat.le_of_ble_eq_true rfl) (s_X10_keepNow hw) ?_
                clear hw
                intro h12 hw
                refine PW.ald0n C dX10_make_67 ?_
                refine PW.ild1n C dX10_make_68 ?_
                refine PW.ild2n C dX10_make_69 ?_
                refine PW.ild3n C dX10_make_70 ?_
                refine PW.ild4 C dX10_make_71 ?_
                refine PW.ild5 C dX10_make_73 ?_
                refine PW.callVV5 C ms_X10_makes ml_X10_466 dX10_make_75 oM_0 ⟨_, _, rfl⟩ (Nat.le_of_ble_eq_true rfl) (by decide) (Nat.le_of_ble_eq_true rfl) (s_X10_makes hw) ?_
                clear hw
                intro h13 hw
                refine PW.ald0n C dX10_make_78 ?_
                refine PW.get0 (v := .ref 34) C cf_10 fl_X10_114 (by decide) oM_0 (fvR (o := 34) rfl) dX10_make_79 ?_
                refine PW.iconst (v := 0) C dX10_make_82 (by decide) ?_
                refine PW.iald C dX10_make_83 aM_34 (vpl (by decide)) ?_
                refine PW.iconst (v := 1) C dX10_make_84 (by decide) ?_
                refine PW.isub C dX10_make_85 ?_
                exact PW.iret C dX10_make_86 ⟨_, rfl, hw⟩
              · rw [if_pos c] at hw
                refine PW.iconst (v := (-1)) C dX10_make_61 (by decide) ?_
                exact PW.iret C dX10_make_62 ⟨_, rfl, hw⟩
def w_X10_stop (x1 : Int32) (h : PH) (Q : Int32 → PH → Prop) : Prop :=
  ∀ h1, h1 = sI h 0 0 0 → w_X10_isNoise x1 h1 (fun z3 h2 => if z3 = 0 then (Q 0 h2) else (if ((((gI h2 40 (iN 0)) : Int32) >>> ((x1 : Int32) &&& 31)) &&& 1) = 1 then (Q 0 h2) else (w_X10_keepNow h2 (fun h4 => ∀ h5, h5 = sI h4 40 (iN 0) ((gI h4 40 (iN 0)) ||| ((1 : Int32) <<< ((x1 : Int32) &&& 31))) → Q 1 h5))))
set_option maxRecDepth 8000 in
theorem s_X10_stop {D : va_G} {ca : Nat → ClassId} {ad : Nat → Nat} {l : Launch} {x1 : Int32} {h : PH} {Q : Int32 → PH → Prop} (hw : w_X10_stop x1 h Q) : Sp (GM D ca ad) (XS (GM D ca ad)) l 3 yX10_stop cX10_stop 2 (some .boolean) [.ref 0, .int x1] h (qI Q) := by
  refine Sp.of (own := RX10) [some (.ref 0), some (.int x1)] (by decide +kernel) rfl rfl (Nat.le_of_ble_eq_true rfl) (fun K hl C => ?_)
  subst hl
  unfold w_X10_stop at hw
  refine PW.ald0n C dX10_stop_0 ?_
  refine PW.iconst (v := 0) C dX10_stop_1 (by decide) ?_
  replace hw := hw _ rfl
  refine PW.put0 C cf_10 fl_X10_235 (by decide) oM_0 rfl rfl rfl (pw_sI oM_0 (by decide) rfl) dX10_stop_2 ?_
  refine PW.ald0n C dX10_stop_5 ?_
  refine PW.ild1n C dX10_stop_6 ?_
  refine PW.callVI1 C ms_X10_isNoise ml_X10_521 dX10_stop_7 oM_0 ⟨_, _, rfl⟩ (Nat.le_of_ble_eq_true rfl) (by decide) (Nat.le_of_ble_eq_true rfl) (s_X10_isNoise hw) ?_
  clear hw
  intro z3 h2 hw
  refine PW.if_eq (tgt := 27) C dX10_stop_10 (by decide) (fun c => ?_) (fun c => ?_)
  · rw [if_pos c] at hw
    refine PW.iconst (v := 0) C dX10_stop_27 (by decide) ?_
    exact PW.zret C dX10_stop_28 (by decide) ⟨_, rfl, hw⟩
  · rw [if_neg c] at hw
    refine PW.ald0n C dX10_stop_13 ?_
    refine PW.get0 (v := .ref 40) C cf_10 fl_X10_132 (by decide) oM_0 (fvR (o := 40) rfl) dX10_stop_14 ?_
    refine PW.iconst (v := 0) C dX10_stop_17 (by decide) ?_
    refine PW.iald C dX10_stop_18 aM_40 (vpl (by decide)) ?_
    refine PW.ild1n C dX10_stop_19 ?_
    refine PW.ishr C dX10_stop_20 ?_
    refine PW.iconst (v := 1) C dX10_stop_21 (by decide) ?_
    refine PW.iand C dX10_stop_22 ?_
    refine PW.iconst (v := 1) C dX10_stop_23 (by decide) ?_
    refine PW.icmp_ne (tgt := 29) C dX10_stop_24 (by decide) (fun c => ?_) (fun c => ?_)
    · rw [if_neg c] at hw
      refine PW.ald0n C dX10_stop_29 ?_
      refine PW.callVV0 C ms_X10_keepNow ml_X10_594 dX10_stop_30 oM_0 ⟨_, _, rfl⟩ (Nat.le_of_ble_eq_true rfl) (by decide) (Nat.le_of_ble_eq_true rfl) (s_X10_keepNow hw) ?_
      clear hw
      intro h4 hw
      refine PW.ald0n C dX10_stop_33 ?_
      refine PW.get0 (v := .ref 40) C cf_10 fl_X10_132 (by decide) oM_0 (fvR (o := 40) rfl) dX10_stop_34 ?_
      refine PW.iconst (v := 0) C dX10_stop_37 (by decide) ?_
      refine PW.dup2 C dX10_stop_38 rfl rfl ?_
      refine PW.iald C dX10_stop_39 aM_40 (vpl (by decide)) ?_
      refine PW.iconst (v := 1) C dX10_stop_40 (by decide) ?_
      refine PW.ild1n C dX10_stop_41 ?_
      refine PW.ishl C dX10_stop_42 ?_
      refine PW.ior C dX10_stop_43 ?_
      replace hw := hw _ rfl
      refine PW.iast C dX10_stop_44 aM_40 (vpl (by decide)) ?_
      refine PW.iconst (v := 1) C dX10_stop_45 (by decide) ?_
      exact PW.zret C dX10_stop_46 (by decide) ⟨_, rfl, hw⟩
    · rw [if_pos c] at hw
      refine PW.iconst (v := 0) C dX10_stop_27 (by decide) ?_
      exact PW.zret C dX10_stop_28 (by decide) ⟨_, rfl, hw⟩
def w_X10_wall_32 (Q : Int32 → PH → Prop) (x1 : Int32) (x2 : Int32) (s0 : Int32) (h : PH) : Prop :=
  if s0 = x2 then (Q 0 h) else (w_X10_keepNow h (fun h4 => ∀ h5, h5 = sI h4 42 (iN 0) ((gI h4 42 (iN 0)) ^^^ ((1 : Int32) <<< ((x1 : Int32) &&& 31))) → Q 1 h5))
set_option maxRecDepth 8000 in
theorem b_X10_wall_32 {D : va_G} {ca : Nat → ClassId} {ad : Nat → Nat} {K : Kt} {Q : Int32 → PH → Prop} {x1 : Int32} {x2 : Int32} {s0 : Int32} {h : PH} (C : CX (GM D ca ad) (XS (GM D ca ad)) cX10_wall RX10 3 (some .boolean) 3 K) (hw : w_X10_wall_32 Q x1 x2 s0 h) : PW (GM D ca ad) K 3 (qI Q) h 32 [some (.ref 0), some (.int x1), some (.int x2)] [.int s0] := by
  unfold w_X10_wall_32 at hw
  refine PW.ild2n C dX10_wall_32 ?_
  refine PW.icmp_ne (tgt := 38) C dX10_wall_33 (by decide) (fun c => ?_) (fun c => ?_)
  · rw [if_neg c] at hw
    refine PW.ald0n C dX10_wall_38 ?_
    refine PW.callVV0 C ms_X10_keepNow ml_X10_594 dX10_wall_39 oM_0 ⟨_, _, rfl⟩ (Nat.le_of_ble_eq_true rfl) (by decide) (Nat.le_of_ble_eq_true rfl) (s_X10_keepNow hw) ?_
    clear hw
    intro h4 hw
    refine PW.ald0n C dX10_wall_42 ?_
    refine PW.get0 (v := .ref 42) C cf_10 fl_X10_138 (by decide) oM_0 (fvR (o := 42) rfl) dX10_wall_43 ?_
    refine PW.iconst (v := 0) C dX10_wall_46 (by decide) ?_
    refine PW.dup2 C dX10_wall_47 rfl rfl ?_
    refine PW.iald C dX10_wall_48 aM_42 (vpl (by decide)) ?_
    refine PW.iconst (v := 1) C dX10_wall_49 (by decide) ?_
    refine PW.ild1n C dX10_wall_50 ?_
    refine PW.ishl C dX10_wall_51 ?_
    refine PW.ixor C dX10_wall_52 ?_
    replace hw := hw _ rfl
    refine PW.iast C dX10_wall_53 aM_42 (vpl (by decide)) ?_
    refine PW.iconst (v := 1) C dX10_wall_54 (by decide) ?_
    exact PW.zret C dX10_wall_55 (by decide) ⟨_, rfl, hw⟩
  · rw [if_pos c] at hw
    refine PW.iconst (v := 0) C dX10_wall_36 (by decide) ?_
    exact PW.zret C dX10_wall_37 (by decide) ⟨_, rfl, hw⟩
def w_X10_wall (x1 : Int32) (x2 : Int32) (h : PH) (Q : Int32 → PH → Prop) : Prop :=
  ∀ h1, h1 = sI h 0 0 0 → w_X10_isLink x1 h1 (fun z3 h2 => if z3 = 0 then (Q 0 h2) else (if ((((gI h2 42 (iN 0)) : Int32) >>> ((x1 : Int32) &&& 31)) &&& 1) = 1 then (w_X10_wall_32 Q x1 x2 1 h2) else (w_X10_wall_32 Q x1 x2 0 h2)))
set_option maxRecDepth 8000 in
theorem s_X10_wall {D : va_G} {ca : Nat → ClassId} {ad : Nat → Nat} {l : Launch} {x1 : Int32} {x2 : Int32} {h : PH} {Q : Int32 → PH → Prop} (hw : w_X10_wall x1 x2 h Q) : Sp (GM D ca ad) (XS (GM D ca ad)) l 3 yX10_wall cX10_wall 3 (some .boolean) [.ref 0, .int x1, .int x2] h (qI Q) := by
  refine Sp.of (own := RX10) [some (.ref 0), some (.int x1), some (.int x2)] (by decide +kernel) rfl rfl (Nat.le_of_ble_eq_true rfl) (fun K hl C => ?_)
  subst hl
  unfold w_X10_wall at hw
  refine PW.ald0n C dX10_wall_0 ?_
  refine PW.iconst (v := 0) C dX10_wall_1 (by decide) ?_
  replace hw := hw _ rfl
  refine PW.put0 C cf_10 fl_X10_235 (by decide) oM_0 rfl rfl rfl (pw_sI oM_0 (by decide) rfl) dX10_wall_2 ?_
  refine PW.ald0n C dX10_wall_5 ?_
  refine PW.ild1n C dX10_wall_6 ?_
  refine PW.callVI1 C ms_X10_isLink ml_X10_524 dX10_wall_7 oM_0 ⟨_, _, rfl⟩ (Nat.le_of_ble_eq_true rfl) (by decide) (Nat.le_of_ble_eq_true rfl) (s_X10_isLink hw) ?_
  clear hw
  intro z3 h2 hw
  refine PW.if_eq (tgt := 36) C dX10_wall_10 (by decide) (fun c => ?_) (fun c => ?_)
  · rw [if_pos c] at hw
    refine PW.iconst (v := 0) C dX10_wall_36 (by decide) ?_
    exact PW.zret C dX10_wall_37 (by decide) ⟨_, rfl, hw⟩
  · rw [if_neg c] at hw
    refine PW.ald0n C dX10_wall_13 ?_
    refine PW.get0 (v := .ref 42) C cf_10 fl_X10_138 (by decide) oM_0 (fvR (o := 42) rfl) dX10_wall_14 ?_
    refine PW.iconst (v := 0) C dX10_wall_17 (by decide) ?_
    refine PW.iald C dX10_wall_18 aM_42 (vpl (by decide)) ?_
    refine PW.ild1n C dX10_wall_19 ?_
    refine PW.ishr C dX10_wall_20 ?_
    refine PW.iconst (v := 1) C dX10_wall_21 (by decide) ?_
    refine PW.iand C dX10_wall_22 ?_
    refine PW.iconst (v := 1) C dX10_wall_23 (by decide) ?_
    refine PW.icmp_ne (tgt := 31) C dX10_wall_24 (by decide) (fun c => ?_) (fun c => ?_)
    · rw [if_neg c] at hw
      refine PW.iconst (v := 0) C dX10_wall_31 (by decide) ?_
      exact PW.wk (wk_s (wk_s (wk_s wk_0))) (b_X10_wall_32 C hw)
    · rw [if_pos c] at hw
      refine PW.iconst (v := 1) C dX10_wall_27 (by decide) ?_
      refine PW.goto (tgt := 32) C dX10_wall_28 (by decide) ?_
      exact PW.wk (wk_s (wk_s (wk_s wk_0))) (b_X10_wall_32 C hw)
def w_X10_sell (x1 : Int32) (x2 : Int32) (x3 : Int32) (h : PH) (Q : Int32 → PH → Prop) : Prop :=
  ∀ h1, h1 = sI h 0 0 0 → if x1 < 0 then (Q 0 h1) else (if (gI h1 2 (iN 4)) ≤ x1 then (Q 0 h1) else (w_X10_isOwner x2 h1 (fun z3 h2 => if z3 = 0 then (Q 0 h2) else (if x3 < 0 then (Q 0 h2) else (if 999 < x3 then (Q 0 h2) else (vp_in x1 176 ∧ if (gI h2 41 (iN x1)) = x2 then (Q 0 h2) else (vp_in x2 88 ∧ if x3 ≤ (gI h2 43 (iN x2)) then (w_X10_keepNow h2 (fun h6 => vp_in x2 88 ∧ vp_in x2 88 ∧ ∀ h9, h9 = sI h6 43 (iN x2) ((gI h6 43 (iN x2)) - x3) → vp_in x1 176 ∧ vp_in (gI h9 41 (iN x1)) 88 ∧ vp_in (gI h9 41 (iN x1)) 88 ∧ ∀ h13, h13 = sI h9 43 (iN (gI h9 41 (iN x1))) ((gI h9 43 (iN (gI h9 41 (iN x1)))) + x3) → vp_in x1 176 ∧ ∀ h15, h15 = sI h13 41 (iN x1) x2 → Q 1 h15)) else (Q 0 h2))))))))
set_option maxRecDepth 8000 in
theorem s_X10_sell {D : va_G} {ca : Nat → ClassId} {ad : Nat → Nat} {l : Launch} {x1 : Int32} {x2 : Int32} {x3 : Int32} {h : PH} {Q : Int32 → PH → Prop} (hw : w_X10_sell x1 x2 x3 h Q) : Sp (GM D ca ad) (XS (GM D ca ad)) l 3 yX10_sell cX10_sell 4 (some .boolean) [.ref 0, .int x1, .int x2, .int x3] h (qI Q) := by
  refine Sp.of (own := RX10) [some (.ref 0), some (.int x1), some (.int x2), some (.int x3)] (by decide +kernel) rfl rfl (Nat.le_of_ble_eq_true rfl) (fun K hl C => ?_)
  subst hl
  unfold w_X10_sell at hw
  refine PW.ald0n C dX10_sell_0 ?_
  refine PW.iconst (v := 0) C dX10_sell_1 (by decide) ?_
  replace hw := hw _ rfl
  refine PW.put0 C cf_10 fl_X10_235 (by decide) oM_0 rfl rfl rfl (pw_sI oM_0 (by decide) rfl) dX10_sell_2 ?_
  refine PW.ild1n C dX10_sell_5 ?_
  refine PW.if_lt (tgt := 58) C dX10_sell_6 (by decide) (fun c => ?_) (fun c => ?_)
  · rw [if_pos c] at hw
    refine PW.iconst (v := 0) C dX10_sell_58 (by decide) ?_
    exact PW.zret C dX10_sell_59 (by decide) ⟨_, rfl, hw⟩
  · rw [if_neg c] at hw
    refine PW.ild1n C dX10_sell_9 ?_
    refine PW.ald0n C dX10_sell_10 ?_
    refine PW.get0 (v := .ref 2) C cf_10 fl_X10_13 (by decide) oM_0 (fvR (o := 2) rfl) dX10_sell_11 ?_
    refine PW.iconst (v := 4) C dX10_sell_14 (by decide) ?_
    refine PW.iald C dX10_sell_15 aM_2 (vpl (by decide)) ?_
    refine PW.icmp_ge (tgt := 58) C dX10_sell_16 (by decide) (fun c => ?_) (fun c => ?_)
    · rw [if_pos c] at hw
      refine PW.iconst (v := 0) C dX10_sell_58 (by decide) ?_
      exact PW.zret C dX10_sell_59 (by decide) ⟨_, rfl, hw⟩
    · rw [if_neg c] at hw
      refine PW.ald0n C dX10_sell_19 ?_
      refine PW.ild2n C dX10_sell_20 ?_
      refine PW.callVI1 C ms_X10_isOwner ml_X10_512 dX10_sell_21 oM_0 ⟨_, _, rfl⟩ (Nat.le_of_ble_eq_true rfl) (by decide) (Nat.le_of_ble_eq_true rfl) (s_X10_isOwner hw) ?_
      clear hw
      intro z3 h2 hw
      refine PW.if_eq (tgt := 58) C dX10_sell_24 (by decide) (fun c => ?_) (fun c => ?_)
      · rw [if_pos c] at hw
        refine PW.iconst (v := 0) C dX10_sell_58 (by decide) ?_
        exact PW.zret C dX10_sell_59 (by decide) ⟨_, rfl, hw⟩
      · rw [if_neg c] at hw
        refine PW.ild3n C dX10_sell_27 ?_
        refine PW.if_lt (tgt := 58) C dX10_sell_28 (by decide) (fun c => ?_) (fun c => ?_)
        · rw [if_pos c] at hw
          refine PW.iconst (v := 0) C dX10_sell_58 (by decide) ?_
          exact PW.zret C dX10_sell_59 (by decide) ⟨_, rfl, hw⟩
        · rw [if_neg c] at hw
          refine PW.ild3n C dX10_sell_31 ?_
          refine PW.sipush (v := 999) C dX10_sell_32 (by decide) ?_
          refine PW.icmp_gt (tgt := 58) C dX10_sell_35 (by decide) (fun c => ?_) (fun c => ?_)
          · rw [if_pos c] at hw
            refine PW.iconst (v := 0) C dX10_sell_58 (by decide) ?_
            exact PW.zret C dX10_sell_59 (by decide) ⟨_, rfl, hw⟩
          · rw [if_neg c] at hw
            refine PW.ald0n C dX10_sell_38 ?_
            refine PW.get0 (v := .ref 41) C cf_10 fl_X10_135 (by decide) oM_0 (fvR (o := 41) rfl) dX10_sell_39 ?_
            refine PW.ild1n C dX10_sell_42 ?_
            obtain ⟨hc4, hw⟩ := hw
            refine PW.iald C dX10_sell_43 aM_41 hc4 ?_
            refine PW.ild2n C dX10_sell_44 ?_
            refine PW.icmp_eq (tgt := 58) C dX10_sell_45 (by decide) (fun c => ?_) (fun c => ?_)
            · rw [if_pos c] at hw
              refine PW.iconst (v := 0) C dX10_sell_58 (by decide) ?_
              exact PW.zret C dX10_sell_59 (by decide) ⟨_, rfl, hw⟩
            · rw [if_neg c] at hw
              refine PW.ald0n C dX10_sell_48 ?_
              refine PW.get0 (v := .ref 43) C cf_10 fl_X10_141 (by decide) oM_0 (fvR (o := 43) rfl) dX10_sell_49 ?_
              refine PW.ild2n C dX10_sell_52 ?_
              obtain ⟨hc5, hw⟩ := hw
              refine PW.iald C dX10_sell_53 aM_43 hc5 ?_
              refine PW.ild3n C dX10_sell_54 ?_
              refine PW.icmp_ge (tgt := 60) C dX10_sell_55 (by decide) (fun c => ?_) (fun c => ?_)
              · rw [if_pos c] at hw
                refine PW.ald0n C dX10_sell_60 ?_
                refine PW.callVV0 C ms_X10_keepNow ml_X10_594 dX10_sell_61 oM_0 ⟨_, _, rfl⟩ (Nat.le_of_ble_eq_true rfl) (by decide) (Nat.le_of_ble_eq_true rfl) (s_X10_keepNow hw) ?_
                clear hw
                intro h6 hw
                refine PW.ald0n C dX10_sell_64 ?_
                refine PW.get0 (v := .ref 43) C cf_10 fl_X10_141 (by decide) oM_0 (fvR (o := 43) rfl) dX10_sell_65 ?_
                refine PW.ild2n C dX10_sell_68 ?_
                refine PW.dup2 C dX10_sell_69 rfl rfl ?_
                obtain ⟨hc7, hw⟩ := hw
                refine PW.iald C dX10_sell_70 aM_43 hc7 ?_
                refine PW.ild3n C dX10_sell_71 ?_
                refine PW.isub C dX10_sell_72 ?_
                obtain ⟨hc8, hw⟩ := hw
                replace hw := hw _ rfl
                refine PW.iast C dX10_sell_73 aM_43 hc8 ?_
                refine PW.ald0n C dX10_sell_74 ?_
                refine PW.get0 (v := .ref 43) C cf_10 fl_X10_141 (by decide) oM_0 (fvR (o := 43) rfl) dX10_sell_75 ?_
                refine PW.ald0n C dX10_sell_78 ?_
                refine PW.get0 (v := .ref 41) C cf_10 fl_X10_135 (by decide) oM_0 (fvR (o := 41) rfl) dX10_sell_79 ?_
                refine PW.ild1n C dX10_sell_82 ?_
                obtain ⟨hc10, hw⟩ := hw
                refine PW.iald C dX10_sell_83 aM_41 hc10 ?_
                refine PW.dup2 C dX10_sell_84 rfl rfl ?_
                obtain ⟨hc11, hw⟩ := hw
                refine PW.iald C dX10_sell_85 aM_43 hc11 ?_
                refine PW.ild3n C dX10_sell_86 ?_
                refine PW.iadd C dX10_sell_87 ?_
                obtain ⟨hc12, hw⟩ := hw
                replace hw := hw _ rfl
                refine PW.iast C dX10_sell_88 aM_43 hc12 ?_
                refine PW.ald0n C dX10_sell_89 ?_
                refine PW.get0 (v := .ref 41) C cf_10 fl_X10_135 (by decide) oM_0 (fvR (o := 41) rfl) dX10_sell_90 ?_
                refine PW.ild1n C dX10_sell_93 ?_
                refine PW.ild2n C dX10_sell_94 ?_
                obtain ⟨hc14, hw⟩ := hw
                replace hw := hw _ rfl
                refine PW.iast C dX10_sell_95 aM_41 hc14 ?_
                refine PW.iconst (v := 1) C dX10_sell_96 (by decide) ?_
                exact PW.zret C dX10_sell_97 (by decide) ⟨_, rfl, hw⟩
              · rw [if_neg c] at hw
                refine PW.iconst (v := 0) C dX10_sell_58 (by decide) ?_
                exact PW.zret C dX10_sell_59 (by decide) ⟨_, rfl, hw⟩
def w_X10_pays_48 (Q : PH → Prop) (kb : Int32 → PH → Prop) (x1 : Int32) (x2 : Int32) (x3 : Int32) (s0 : Int32) (h : PH) : Prop :=
  if s0 = (-1) then (kb (x3 + 1) h) else (vp_in x3 16 ∧ vp_in (gI h 46 (iN x3)) 88 ∧ ∀ (y5 : Int32), y5 = (mnI (gI h 2 (iN 8)) (gI h 43 (iN (gI h 46 (iN x3))))) → vp_in x3 16 ∧ vp_in (gI h 46 (iN x3)) 88 ∧ vp_in (gI h 46 (iN x3)) 88 ∧ ∀ h9, h9 = sI h 43 (iN (gI h 46 (iN x3))) ((gI h 43 (iN (gI h 46 (iN x3)))) - y5) → vp_in s0 88 ∧ vp_in s0 88 ∧ ∀ h12, h12 = sI h9 43 (iN s0) ((gI h9 43 (iN s0)) + y5) → kb (x3 + 1) h12)
set_option maxRecDepth 8000 in
theorem b_X10_pays_48 {D : va_G} {ca : Nat → ClassId} {ad : Nat → Nat} {K : Kt} {kb : Int32 → PH → Prop} {Q : PH → Prop} {x1 : Int32} {x2 : Int32} {x3 : Int32} {s0 : Int32} {h : PH} (C : CX (GM D ca ad) (XS (GM D ca ad)) cX10_pays RX10 6 none 6 K) (hkb : ∀ (x3 : Int32) (h : PH), kb x3 h → PW (GM D ca ad) K 6 (qV Q) h 14 [some (.ref 0), some (.int x1), some (.int x2), some (.int x3), none, none] []) (hw : w_X10_pays_48 Q kb x1 x2 x3 s0 h) : PW (GM D ca ad) K 6 (qV Q) h 48 [some (.ref 0), some (.int x1), some (.int x2), some (.int x3), none, none] [.int s0] := by
  unfold w_X10_pays_48 at hw
  refine PW.ist4 C dX10_pays_48 (by decide) rfl ?_
  refine PW.ild4 C dX10_pays_50 ?_
  refine PW.iconst (v := (-1)) C dX10_pays_52 (by decide) ?_
  refine PW.icmp_ne (tgt := 59) C dX10_pays_53 (by decide) (fun c => ?_) (fun c => ?_)
  · rw [if_neg c] at hw
    refine PW.ald0n C dX10_pays_59 ?_
    refine PW.get0 (v := .ref 2) C cf_10 fl_X10_13 (by decide) oM_0 (fvR (o := 2) rfl) dX10_pays_60 ?_
    refine PW.bipush (v := 8) C dX10_pays_63 (by decide) ?_
    refine PW.iald C dX10_pays_65 aM_2 (vpl (by decide)) ?_
    refine PW.ald0n C dX10_pays_66 ?_
    refine PW.get0 (v := .ref 43) C cf_10 fl_X10_141 (by decide) oM_0 (fvR (o := 43) rfl) dX10_pays_67 ?_
    refine PW.ald0n C dX10_pays_70 ?_
    refine PW.get0 (v := .ref 46) C cf_10 fl_X10_150 (by decide) oM_0 (fvR (o := 46) rfl) dX10_pays_71 ?_
    refine PW.ild3n C dX10_pays_74 ?_
    obtain ⟨hc3, hw⟩ := hw
    refine PW.iald C dX10_pays_75 aM_46 hc3 ?_
    obtain ⟨hc4, hw⟩ := hw
    refine PW.iald C dX10_pays_76 aM_43 hc4 ?_
    refine PW.mnI C ml_X10_474 (Nat.le_of_ble_eq_true rfl) (by decide) dX10_pays_77 ?_
    replace hw := hw _ rfl
    refine PW.ist5 C dX10_pays_80 (by decide) rfl ?_
    refine PW.ald0n C dX10_pays_82 ?_
    refine PW.get0 (v := .ref 43) C cf_10 fl_X10_141 (by decide) oM_0 (fvR (o := 43) rfl) dX10_pays_83 ?_
    refine PW.ald0n C dX10_pays_86 ?_
    refine PW.get0 (v := .ref 46) C cf_10 fl_X10_150 (by decide) oM_0 (fvR (o := 46) rfl) dX10_pays_87 ?_
    refine PW.ild3n C dX10_pays_90 ?_
    obtain ⟨hc6, hw⟩ := hw
    refine PW.iald C dX10_pays_91 aM_46 hc6 ?_
    refine PW.dup2 C dX10_pays_92 rfl rfl ?_
    obtain ⟨hc7, hw⟩ := hw
    refine PW.iald C dX10_pays_93 aM_43 hc7 ?_
    refine PW.ild5 C dX10_pays_94 ?_
    refine PW.isub C dX10_pays_96 ?_
    obtain ⟨hc8, hw⟩ := hw
    replace hw := hw _ rfl
    refine PW.iast C dX10_pays_97 aM_43 hc8 ?_
    refine PW.ald0n C dX10_pays_98 ?_
    refine PW.get0 (v := .ref 43) C cf_10 fl_X10_141 (by decide) oM_0 (fvR (o := 43) rfl) dX10_pays_99 ?_
    refine PW.ild4 C dX10_pays_102 ?_
    refine PW.dup2 C dX10_pays_104 rfl rfl ?_
    obtain ⟨hc10, hw⟩ := hw
    refine PW.iald C dX10_pays_105 aM_43 hc10 ?_
    refine PW.ild5 C dX10_pays_106 ?_
    refine PW.iadd C dX10_pays_108 ?_
    obtain ⟨hc11, hw⟩ := hw
    replace hw := hw _ rfl
    refine PW.iast C dX10_pays_109 aM_43 hc11 ?_
    refine PW.inc3 (v := 1) C dX10_pays_110 (by decide) rfl (by decide) ?_
    refine PW.goto (tgt := 14) C dX10_pays_113 (by decide) ?_
    exact PW.wk (wk_s (wk_s (wk_s (wk_s (wk_n (wk_n wk_0)))))) (hkb _ _ hw)
  · rw [if_pos c] at hw
    refine PW.goto (tgt := 110) C dX10_pays_56 (by decide) ?_
    refine PW.inc3 (v := 1) C dX10_pays_110 (by decide) rfl (by decide) ?_
    refine PW.goto (tgt := 14) C dX10_pays_113 (by decide) ?_
    exact PW.wk (wk_s (wk_s (wk_s (wk_s (wk_n (wk_n wk_0)))))) (hkb _ _ hw)
def w_X10_pays_14 (k116 : PH → Prop) (Q : PH → Prop) (x1 : Int32) (x2 : Int32) (kb : Int32 → PH → Prop) (x3 : Int32) (h : PH) : Prop :=
  if (gI h 0 62) ≤ x3 then (k116 h) else (w_X10_hears x3 x2 x1 h (fun z2 h1 => if z2 = 0 then (w_X10_pays_48 Q kb x1 x2 x3 (-1) h1) else (vp_in x3 16 ∧ w_X10_against (gI h1 46 (iN x3)) x2 x1 h1 (fun z15 h14 => w_X10_pays_48 Q kb x1 x2 x3 z15 h14))))
set_option maxRecDepth 8000 in
theorem b_X10_pays_14 {D : va_G} {ca : Nat → ClassId} {ad : Nat → Nat} {K : Kt} {k116 : PH → Prop} {kb : Int32 → PH → Prop} {Q : PH → Prop} {x1 : Int32} {x2 : Int32} {x3 : Int32} {h : PH} (C : CX (GM D ca ad) (XS (GM D ca ad)) cX10_pays RX10 6 none 6 K) (hk116 : ∀ (h : PH), k116 h → PW (GM D ca ad) K 6 (qV Q) h 116 [some (.ref 0), some (.int x1), some (.int x2), none, none, none] []) (hkb : ∀ (x3 : Int32) (h : PH), kb x3 h → PW (GM D ca ad) K 6 (qV Q) h 14 [some (.ref 0), some (.int x1), some (.int x2), some (.int x3), none, none] []) (hw : w_X10_pays_14 k116 Q x1 x2 kb x3 h) : PW (GM D ca ad) K 6 (qV Q) h 14 [some (.ref 0), some (.int x1), some (.int x2), some (.int x3), none, none] [] := by
  unfold w_X10_pays_14 at hw
  refine PW.ild3n C dX10_pays_14 ?_
  refine PW.ald0n C dX10_pays_15 ?_
  refine PW.get0 C cf_10 fl_X10_470 (by decide) oM_0 (fvI rfl) dX10_pays_16 ?_
  refine PW.icmp_ge (tgt := 116) C dX10_pays_19 (by decide) (fun c => ?_) (fun c => ?_)
  · rw [if_pos c] at hw
    exact PW.wk (wk_s (wk_s (wk_s (wk_n (wk_n (wk_n wk_0)))))) (hk116 _ hw)
  · rw [if_neg c] at hw
    refine PW.ald0n C dX10_pays_22 ?_
    refine PW.ild3n C dX10_pays_23 ?_
    refine PW.ild2n C dX10_pays_24 ?_
    refine PW.ild1n C dX10_pays_25 ?_
    refine PW.callVI3 C ms_X10_hears ml_X10_480 dX10_pays_26 oM_0 ⟨_, _, rfl⟩ (Nat.le_of_ble_eq_true rfl) (by decide) (Nat.le_of_ble_eq_true rfl) (s_X10_hears hw) ?_
    clear hw
    intro z2 h1 hw
    refine PW.if_eq (tgt := 47) C dX10_pays_29 (by decide) (fun c => ?_) (fun c => ?_)
    · rw [if_pos c] at hw
      refine PW.iconst (v := (-1)) C dX10_pays_47 (by decide) ?_
      exact PW.wk (wk_s (wk_s (wk_s (wk_s (wk_n (wk_n wk_0)))))) (b_X10_pays_48 C hkb hw)
    · rw [if_neg c] at hw
      refine PW.ald0n C dX10_pays_32 ?_
      refine PW.ald0n C dX10_pays_33 ?_
      refine PW.get0 (v := .ref 46) C cf_10 fl_X10_150 (by decide) oM_0 (fvR (o := 46) rfl) dX10_pays_34 ?_
      refine PW.ild3n C dX10_pays_37 ?_
      obtain ⟨hc13, hw⟩ := hw
      refine PW.iald C dX10_pays_38 aM_46 hc13 ?_
      refine PW.ild2n C dX10_pays_39 ?_
      refine PW.ild1n C dX10_pays_40 ?_
      refine PW.callVI3 C ms_X10_against ml_X10_508 dX10_pays_41 oM_0 ⟨_, _, rfl⟩ (Nat.le_of_ble_eq_true rfl) (by decide) (Nat.le_of_ble_eq_true rfl) (s_X10_against hw) ?_
      clear hw
      intro z15 h14 hw
      refine PW.goto (tgt := 48) C dX10_pays_44 (by decide) ?_
      exact PW.wk (wk_s (wk_s (wk_s (wk_s (wk_n (wk_n wk_0)))))) (b_X10_pays_48 C hkb hw)
theorem l_X10_pays_14 {D : va_G} {ca : Nat → ClassId} {ad : Nat → Nat} {K : Kt} {k116 : PH → Prop} {Q : PH → Prop} {x1 : Int32} {x2 : Int32} (C : CX (GM D ca ad) (XS (GM D ca ad)) cX10_pays RX10 6 none 6 K) (hk116 : ∀ (h : PH), k116 h → PW (GM D ca ad) K 6 (qV Q) h 116 [some (.ref 0), some (.int x1), some (.int x2), none, none, none] []) : ∀ (n : Nat) (x3 : Int32) (h : PH), Lp1 (w_X10_pays_14 k116 Q x1 x2) n x3 h → PW (GM D ca ad) K 6 (qV Q) h 14 [some (.ref 0), some (.int x1), some (.int x2), some (.int x3), none, none] [] := by
  intro n
  induction n with
  | zero => intro x3 h hw; exact hw.elim
  | succ n ih => intro x3 h hw; exact b_X10_pays_14 C hk116 (fun x3 h hw => ih x3 h hw) hw
def w_X10_pays_2 (k122 : PH → Prop) (Q : PH → Prop) (x1 : Int32) (kb : Int32 → PH → Prop) (x2 : Int32) (h : PH) : Prop :=
  if (gI h 2 (iN 0)) ≤ x2 then (k122 h) else (∃ n, Lp1 (w_X10_pays_14 (fun h16 => kb (x2 + 1) h16) Q x1 x2) n 0 h)
set_option maxRecDepth 8000 in
theorem b_X10_pays_2 {D : va_G} {ca : Nat → ClassId} {ad : Nat → Nat} {K : Kt} {k122 : PH → Prop} {kb : Int32 → PH → Prop} {Q : PH → Prop} {x1 : Int32} {x2 : Int32} {h : PH} (C : CX (GM D ca ad) (XS (GM D ca ad)) cX10_pays RX10 6 none 6 K) (hk122 : ∀ (h : PH), k122 h → PW (GM D ca ad) K 6 (qV Q) h 122 [none, none, none, none, none, none] []) (hkb : ∀ (x2 : Int32) (h : PH), kb x2 h → PW (GM D ca ad) K 6 (qV Q) h 2 [some (.ref 0), some (.int x1), some (.int x2), none, none, none] []) (hw : w_X10_pays_2 k122 Q x1 kb x2 h) : PW (GM D ca ad) K 6 (qV Q) h 2 [some (.ref 0), some (.int x1), some (.int x2), none, none, none] [] := by
  unfold w_X10_pays_2 at hw
  refine PW.ild2n C dX10_pays_2 ?_
  refine PW.ald0n C dX10_pays_3 ?_
  refine PW.get0 (v := .ref 2) C cf_10 fl_X10_13 (by decide) oM_0 (fvR (o := 2) rfl) dX10_pays_4 ?_
  refine PW.iconst (v := 0) C dX10_pays_7 (by decide) ?_
  refine PW.iald C dX10_pays_8 aM_2 (vpl (by decide)) ?_
  refine PW.icmp_ge (tgt := 122) C dX10_pays_9 (by decide) (fun c => ?_) (fun c => ?_)
  · rw [if_pos c] at hw
    exact PW.wk (wk_n (wk_n (wk_n (wk_n (wk_n (wk_n wk_0)))))) (hk122 _ hw)
  · rw [if_neg c] at hw
    refine PW.iconst (v := 0) C dX10_pays_12 (by decide) ?_
    refine PW.ist3n C dX10_pays_13 (by decide) rfl ?_
    obtain ⟨n, hw⟩ := hw
    refine PW.wk (wk_s (wk_s (wk_s (wk_s (wk_n (wk_n wk_0)))))) (l_X10_pays_14 C ?_ n _ _ hw)
    · intro h16 hw
      refine PW.inc2 (v := 1) C dX10_pays_116 (by decide) rfl (by decide) ?_
      refine PW.goto (tgt := 2) C dX10_pays_119 (by decide) ?_
      exact PW.wk (wk_s (wk_s (wk_s (wk_n (wk_n (wk_n wk_0)))))) (hkb _ _ hw)
theorem l_X10_pays_2 {D : va_G} {ca : Nat → ClassId} {ad : Nat → Nat} {K : Kt} {k122 : PH → Prop} {Q : PH → Prop} {x1 : Int32} (C : CX (GM D ca ad) (XS (GM D ca ad)) cX10_pays RX10 6 none 6 K) (hk122 : ∀ (h : PH), k122 h → PW (GM D ca ad) K 6 (qV Q) h 122 [none, none, none, none, none, none] []) : ∀ (n : Nat) (x2 : Int32) (h : PH), Lp1 (w_X10_pays_2 k122 Q x1) n x2 h → PW (GM D ca ad) K 6 (qV Q) h 2 [some (.ref 0), some (.int x1), some (.int x2), none, none, none] [] := by
  intro n
  induction n with
  | zero => intro x2 h hw; exact hw.elim
  | succ n ih => intro x2 h hw; exact b_X10_pays_2 C hk122 (fun x2 h hw => ih x2 h hw) hw
def w_X10_pays (x1 : Int32) (h : PH) (Q : PH → Prop) : Prop :=
  ∃ n, Lp1 (w_X10_pays_2 (fun h17 => Q h17) Q x1) n 0 h
set_option maxRecDepth 8000 in
theorem s_X10_pays {D : va_G} {ca : Nat → ClassId} {ad : Nat → Nat} {l : Launch} {x1 : Int32} {h : PH} {Q : PH → Prop} (hw : w_X10_pays x1 h Q) : Sp (GM D ca ad) (XS (GM D ca ad)) l 6 yX10_pays cX10_pays 6 none [.ref 0, .int x1] h (qV Q) := by
  refine Sp.of (own := RX10) [some (.ref 0), some (.int x1), none, none, none, none] (by decide +kernel) rfl rfl (Nat.le_of_ble_eq_true rfl) (fun K hl C => ?_)
  subst hl
  unfold w_X10_pays at hw
  refine PW.iconst (v := 0) C dX10_pays_0 (by decide) ?_
  refine PW.ist2n C dX10_pays_1 (by decide) rfl ?_
  obtain ⟨n, hw⟩ := hw
  refine PW.wk (wk_s (wk_s (wk_s (wk_n (wk_n (wk_n wk_0)))))) (l_X10_pays_2 C ?_ n _ _ hw)
  · intro h17 hw
    exact PW.vret C dX10_pays_122 ⟨rfl, hw⟩
def w_X10_go_45 (k76 : PH → Prop) (Q : Int32 → PH → Prop) (x1 : Int32) (kb : Int32 → PH → Prop) (x2 : Int32) (h : PH) : Prop :=
  if x1 ≤ x2 then (k76 h) else (w_X10_pays (gI h 44 (iN 0)) h (fun h3 => ∀ h4, h4 = sI h3 44 (iN 0) ((gI h3 44 (iN 0)) + 1) → kb (x2 + 1) h4))
set_option maxRecDepth 8000 in
theorem b_X10_go_45 {D : va_G} {ca : Nat → ClassId} {ad : Nat → Nat} {K : Kt} {k76 : PH → Prop} {kb : Int32 → PH → Prop} {Q : Int32 → PH → Prop} {x1 : Int32} {x2 : Int32} {h : PH} (C : CX (GM D ca ad) (XS (GM D ca ad)) cX10_go RX10 3 (some .int) 8 K) (hk76 : ∀ (h : PH), k76 h → PW (GM D ca ad) K 3 (qI Q) h 76 [some (.ref 0), none, none] []) (hkb : ∀ (x2 : Int32) (h : PH), kb x2 h → PW (GM D ca ad) K 3 (qI Q) h 45 [some (.ref 0), some (.int x1), some (.int x2)] []) (hw : w_X10_go_45 k76 Q x1 kb x2 h) : PW (GM D ca ad) K 3 (qI Q) h 45 [some (.ref 0), some (.int x1), some (.int x2)] [] := by
  unfold w_X10_go_45 at hw
  refine PW.ild2n C dX10_go_45 ?_
  refine PW.ild1n C dX10_go_46 ?_
  refine PW.icmp_ge (tgt := 76) C dX10_go_47 (by decide) (fun c => ?_) (fun c => ?_)
  · rw [if_pos c] at hw
    exact PW.wk (wk_s (wk_n (wk_n wk_0))) (hk76 _ hw)
  · rw [if_neg c] at hw
    refine PW.ald0n C dX10_go_50 ?_
    refine PW.ald0n C dX10_go_51 ?_
    refine PW.get0 (v := .ref 44) C cf_10 fl_X10_144 (by decide) oM_0 (fvR (o := 44) rfl) dX10_go_52 ?_
    refine PW.iconst (v := 0) C dX10_go_55 (by decide) ?_
    refine PW.iald C dX10_go_56 aM_44 (vpl (by decide)) ?_
    refine PW.callVV1 C ms_X10_pays ml_X10_597 dX10_go_57 oM_0 ⟨_, _, rfl⟩ (Nat.le_of_ble_eq_true rfl) (by decide) (Nat.le_of_ble_eq_true rfl) (s_X10_pays hw) ?_
    clear hw
    intro h3 hw
    refine PW.ald0n C dX10_go_60 ?_
    refine PW.get0 (v := .ref 44) C cf_10 fl_X10_144 (by decide) oM_0 (fvR (o := 44) rfl) dX10_go_61 ?_
    refine PW.iconst (v := 0) C dX10_go_64 (by decide) ?_
    refine PW.dup2 C dX10_go_65 rfl rfl ?_
    refine PW.iald C dX10_go_66 aM_44 (vpl (by decide)) ?_
    refine PW.iconst (v := 1) C dX10_go_67 (by decide) ?_
    refine PW.iadd C dX10_go_68 ?_
    replace hw := hw _ rfl
    refine PW.iast C dX10_go_69 aM_44 (vpl (by decide)) ?_
    refine PW.inc2 (v := 1) C dX10_go_70 (by decide) rfl (by decide) ?_
    refine PW.goto (tgt := 45) C dX10_go_73 (by decide) ?_
    exact PW.wk (wk_s (wk_s (wk_s wk_0))) (hkb _ _ hw)
theorem l_X10_go_45 {D : va_G} {ca : Nat → ClassId} {ad : Nat → Nat} {K : Kt} {k76 : PH → Prop} {Q : Int32 → PH → Prop} {x1 : Int32} (C : CX (GM D ca ad) (XS (GM D ca ad)) cX10_go RX10 3 (some .int) 8 K) (hk76 : ∀ (h : PH), k76 h → PW (GM D ca ad) K 3 (qI Q) h 76 [some (.ref 0), none, none] []) : ∀ (n : Nat) (x2 : Int32) (h : PH), Lp1 (w_X10_go_45 k76 Q x1) n x2 h → PW (GM D ca ad) K 3 (qI Q) h 45 [some (.ref 0), some (.int x1), some (.int x2)] [] := by
  intro n
  induction n with
  | zero => intro x2 h hw; exact hw.elim
  | succ n ih => intro x2 h hw; exact b_X10_go_45 C hk76 (fun x2 h hw => ih x2 h hw) hw
def w_X10_go_39 (Q : Int32 → PH → Prop) (x1 : Int32) (h : PH) : Prop :=
  w_X10_layDay h (fun h2 => ∃ n, Lp1 (w_X10_go_45 (fun h5 => Q (gI h5 44 (iN 0)) h5) Q x1) n 0 h2)
set_option maxRecDepth 8000 in
theorem b_X10_go_39 {D : va_G} {ca : Nat → ClassId} {ad : Nat → Nat} {K : Kt} {Q : Int32 → PH → Prop} {x1 : Int32} {h : PH} (C : CX (GM D ca ad) (XS (GM D ca ad)) cX10_go RX10 3 (some .int) 8 K) (hw : w_X10_go_39 Q x1 h) : PW (GM D ca ad) K 3 (qI Q) h 39 [some (.ref 0), some (.int x1), none] [] := by
  unfold w_X10_go_39 at hw
  refine PW.ald0n C dX10_go_39 ?_
  refine PW.callVV0 C ms_X10_layDay ml_X10_515 dX10_go_40 oM_0 ⟨_, _, rfl⟩ (Nat.le_of_ble_eq_true rfl) (by decide) (Nat.le_of_ble_eq_true rfl) (s_X10_layDay hw) ?_
  clear hw
  intro h2 hw
  refine PW.iconst (v := 0) C dX10_go_43 (by decide) ?_
  refine PW.ist2n C dX10_go_44 (by decide) rfl ?_
  obtain ⟨n, hw⟩ := hw
  refine PW.wk (wk_s (wk_s (wk_s wk_0))) (l_X10_go_45 C ?_ n _ _ hw)
  · intro h5 hw
    refine PW.ald0n C dX10_go_76 ?_
    refine PW.get0 (v := .ref 44) C cf_10 fl_X10_144 (by decide) oM_0 (fvR (o := 44) rfl) dX10_go_77 ?_
    refine PW.iconst (v := 0) C dX10_go_80 (by decide) ?_
    refine PW.iald C dX10_go_81 aM_44 (vpl (by decide)) ?_
    exact PW.iret C dX10_go_82 ⟨_, rfl, hw⟩
def w_X10_go (x1 : Int32) (h : PH) (Q : Int32 → PH → Prop) : Prop :=
  ∀ h1, h1 = sI h 0 0 0 → if x1 < 0 then (Q (-1) h1) else (if 48 < x1 then (Q (-1) h1) else (if ((gI h1 44 (iN 0)) + x1) ≤ 48 then (if x1 ≤ 0 then (w_X10_go_39 Q x1 h1) else (∀ h6, h6 = sI h1 0 61 0 → w_X10_go_39 Q x1 h6)) else (Q (-1) h1)))
set_option maxRecDepth 8000 in
theorem s_X10_go {D : va_G} {ca : Nat → ClassId} {ad : Nat → Nat} {l : Launch} {x1 : Int32} {h : PH} {Q : Int32 → PH → Prop} (hw : w_X10_go x1 h Q) : Sp (GM D ca ad) (XS (GM D ca ad)) l 8 yX10_go cX10_go 3 (some .int) [.ref 0, .int x1] h (qI Q) := by
  refine Sp.of (own := RX10) [some (.ref 0), some (.int x1), none] (by decide +kernel) rfl rfl (Nat.le_of_ble_eq_true rfl) (fun K hl C => ?_)
  subst hl
  unfold w_X10_go at hw
  refine PW.ald0n C dX10_go_0 ?_
  refine PW.iconst (v := 0) C dX10_go_1 (by decide) ?_
  replace hw := hw _ rfl
  refine PW.put0 C cf_10 fl_X10_235 (by decide) oM_0 rfl rfl rfl (pw_sI oM_0 (by decide) rfl) dX10_go_2 ?_
  refine PW.ild1n C dX10_go_5 ?_
  refine PW.if_lt (tgt := 28) C dX10_go_6 (by decide) (fun c => ?_) (fun c => ?_)
  · rw [if_pos c] at hw
    refine PW.iconst (v := (-1)) C dX10_go_28 (by decide) ?_
    exact PW.iret C dX10_go_29 ⟨_, rfl, hw⟩
  · rw [if_neg c] at hw
    refine PW.ild1n C dX10_go_9 ?_
    refine PW.bipush (v := 48) C dX10_go_10 (by decide) ?_
    refine PW.icmp_gt (tgt := 28) C dX10_go_12 (by decide) (fun c => ?_) (fun c => ?_)
    · rw [if_pos c] at hw
      refine PW.iconst (v := (-1)) C dX10_go_28 (by decide) ?_
      exact PW.iret C dX10_go_29 ⟨_, rfl, hw⟩
    · rw [if_neg c] at hw
      refine PW.ald0n C dX10_go_15 ?_
      refine PW.get0 (v := .ref 44) C cf_10 fl_X10_144 (by decide) oM_0 (fvR (o := 44) rfl) dX10_go_16 ?_
      refine PW.iconst (v := 0) C dX10_go_19 (by decide) ?_
      refine PW.iald C dX10_go_20 aM_44 (vpl (by decide)) ?_
      refine PW.ild1n C dX10_go_21 ?_
      refine PW.iadd C dX10_go_22 ?_
      refine PW.bipush (v := 48) C dX10_go_23 (by decide) ?_
      refine PW.icmp_le (tgt := 30) C dX10_go_25 (by decide) (fun c => ?_) (fun c => ?_)
      · rw [if_pos c] at hw
        refine PW.ild1n C dX10_go_30 ?_
        refine PW.if_le (tgt := 39) C dX10_go_31 (by decide) (fun c => ?_) (fun c => ?_)
        · rw [if_pos c] at hw
          exact PW.wk (wk_s (wk_s (wk_n wk_0))) (b_X10_go_39 C hw)
        · rw [if_neg c] at hw
          refine PW.ald0n C dX10_go_34 ?_
          refine PW.iconst (v := 0) C dX10_go_35 (by decide) ?_
          replace hw := hw _ rfl
          refine PW.put0 C cf_10 fl_X10_413 (by decide) oM_0 rfl rfl rfl (pw_sI oM_0 (by decide) rfl) dX10_go_36 ?_
          exact PW.wk (wk_s (wk_s (wk_n wk_0))) (b_X10_go_39 C hw)
      · rw [if_neg c] at hw
        refine PW.iconst (v := (-1)) C dX10_go_28 (by decide) ?_
        exact PW.iret C dX10_go_29 ⟨_, rfl, hw⟩
def w_X10_layBad_30 (k88 : Int32 → PH → Prop) (Q : PH → Prop) (x1 : Int32) (x2 : Int32) (kb : Int32 → Int32 → PH → Prop) (x3 : Int32) (x4 : Int32) (h : PH) : Prop :=
  if (gI h 2 (iN 0)) ≤ x4 then (k88 x3 h) else (vp_in x1 8 ∧ vp_in x1 8 ∧ w_X10_carries (gI h 24 (iN x1)) (gI h 26 (iN x1)) x4 x2 h (fun z5 h4 => if z5 = 0 then (kb x3 (x4 + 1) h4) else (vp_in x1 8 ∧ w_X10_against (gI h4 23 (iN x1)) x4 x2 h4 (fun z8 h7 => if z8 = (-1) then (kb x3 (x4 + 1) h7) else (kb 1 (x4 + 1) h7)))))
set_option maxRecDepth 8000 in
theorem b_X10_layBad_30 {D : va_G} {ca : Nat → ClassId} {ad : Nat → Nat} {K : Kt} {k88 : Int32 → PH → Prop} {kb : Int32 → Int32 → PH → Prop} {Q : PH → Prop} {x1 : Int32} {x2 : Int32} {x3 : Int32} {x4 : Int32} {h : PH} (C : CX (GM D ca ad) (XS (GM D ca ad)) cX10_layBad RX10 5 none 8 K) (hk88 : ∀ (x3 : Int32) (h : PH), k88 x3 h → PW (GM D ca ad) K 5 (qV Q) h 88 [some (.ref 0), some (.int x1), some (.int x2), some (.int x3), none] []) (hkb : ∀ (x3 : Int32) (x4 : Int32) (h : PH), kb x3 x4 h → PW (GM D ca ad) K 5 (qV Q) h 30 [some (.ref 0), some (.int x1), some (.int x2), some (.int x3), some (.int x4)] []) (hw : w_X10_layBad_30 k88 Q x1 x2 kb x3 x4 h) : PW (GM D ca ad) K 5 (qV Q) h 30 [some (.ref 0), some (.int x1), some (.int x2), some (.int x3), some (.int x4)] [] := by
  unfold w_X10_layBad_30 at hw
  refine PW.ild4 C dX10_layBad_30 ?_
  refine PW.ald0n C dX10_layBad_32 ?_
  refine PW.get0 (v := .ref 2) C cf_10 fl_X10_13 (by decide) oM_0 (fvR (o := 2) rfl) dX10_layBad_33 ?_
  refine PW.iconst (v := 0) C dX10_layBad_36 (by decide) ?_
  refine PW.iald C dX10_layBad_37 aM_2 (vpl (by decide)) ?_
  refine PW.icmp_ge (tgt := 88) C dX10_layBad_38 (by decide) (fun c => ?_) (fun c => ?_)
  · rw [if_pos c] at hw
    exact PW.wk (wk_s (wk_s (wk_s (wk_s (wk_n wk_0))))) (hk88 _ _ hw)
  · rw [if_neg c] at hw
    refine PW.ald0n C dX10_layBad_41 ?_
    refine PW.ald0n C dX10_layBad_42 ?_
    refine PW.get0 (v := .ref 24) C cf_10 fl_X10_79 (by decide) oM_0 (fvR (o := 24) rfl) dX10_layBad_43 ?_
    refine PW.ild1n C dX10_layBad_46 ?_
    obtain ⟨hc2, hw⟩ := hw
    refine PW.iald C dX10_layBad_47 aM_24 hc2 ?_
    refine PW.ald0n C dX10_layBad_48 ?_
    refine PW.get0 (v := .ref 26) C cf_10 fl_X10_85 (by decide) oM_0 (fvR (o := 26) rfl) dX10_layBad_49 ?_
    refine PW.ild1n C dX10_layBad_52 ?_
    obtain ⟨hc3, hw⟩ := hw
    refine PW.iald C dX10_layBad_53 aM_26 hc3 ?_
    refine PW.ild4 C dX10_layBad_54 ?_
    refine PW.ild2n C dX10_layBad_56 ?_
    refine PW.callVI4 C ms_X10_carries ml_X10_476 dX10_layBad_57 oM_0 ⟨_, _, rfl⟩ (Nat.le_of_ble_eq_true rfl) (by decide) (Nat.le_of_ble_eq_true rfl) (s_X10_carries hw) ?_
    clear hw
    intro z5 h4 hw
    refine PW.if_eq (tgt := 82) C dX10_layBad_60 (by decide) (fun c => ?_) (fun c => ?_)
    · rw [if_pos c] at hw
      refine PW.inc4 (v := 1) C dX10_layBad_82 (by decide) rfl (by decide) ?_
      refine PW.goto (tgt := 30) C dX10_layBad_85 (by decide) ?_
      exact PW.wk (wk_s (wk_s (wk_s (wk_s (wk_s wk_0))))) (hkb _ _ _ hw)
    · rw [if_neg c] at hw
      refine PW.ald0n C dX10_layBad_63 ?_
      refine PW.ald0n C dX10_layBad_64 ?_
      refine PW.get0 (v := .ref 23) C cf_10 fl_X10_76 (by decide) oM_0 (fvR (o := 23) rfl) dX10_layBad_65 ?_
      refine PW.ild1n C dX10_layBad_68 ?_
      obtain ⟨hc6, hw⟩ := hw
      refine PW.iald C dX10_layBad_69 aM_23 hc6 ?_
      refine PW.ild4 C dX10_layBad_70 ?_
      refine PW.ild2n C dX10_layBad_72 ?_
      refine PW.callVI3 C ms_X10_against ml_X10_508 dX10_layBad_73 oM_0 ⟨_, _, rfl⟩ (Nat.le_of_ble_eq_true rfl) (by decide) (Nat.le_of_ble_eq_true rfl) (s_X10_against hw) ?_
      clear hw
      intro z8 h7 hw
      refine PW.iconst (v := (-1)) C dX10_layBad_76 (by decide) ?_
      refine PW.icmp_eq (tgt := 82) C dX10_layBad_77 (by decide) (fun c => ?_) (fun c => ?_)
      · rw [if_pos c] at hw
        refine PW.inc4 (v := 1) C dX10_layBad_82 (by decide) rfl (by decide) ?_
        refine PW.goto (tgt := 30) C dX10_layBad_85 (by decide) ?_
        exact PW.wk (wk_s (wk_s (wk_s (wk_s (wk_s wk_0))))) (hkb _ _ _ hw)
      · rw [if_neg c] at hw
        refine PW.iconst (v := 1) C dX10_layBad_80 (by decide) ?_
        refine PW.ist3n C dX10_layBad_81 (by decide) rfl ?_
        refine PW.inc4 (v := 1) C dX10_layBad_82 (by decide) rfl (by decide) ?_
        refine PW.goto (tgt := 30) C dX10_layBad_85 (by decide) ?_
        exact PW.wk (wk_s (wk_s (wk_s (wk_s (wk_s wk_0))))) (hkb _ _ _ hw)
theorem l_X10_layBad_30 {D : va_G} {ca : Nat → ClassId} {ad : Nat → Nat} {K : Kt} {k88 : Int32 → PH → Prop} {Q : PH → Prop} {x1 : Int32} {x2 : Int32} (C : CX (GM D ca ad) (XS (GM D ca ad)) cX10_layBad RX10 5 none 8 K) (hk88 : ∀ (x3 : Int32) (h : PH), k88 x3 h → PW (GM D ca ad) K 5 (qV Q) h 88 [some (.ref 0), some (.int x1), some (.int x2), some (.int x3), none] []) : ∀ (n : Nat) (x3 : Int32) (x4 : Int32) (h : PH), Lp2 (w_X10_layBad_30 k88 Q x1 x2) n x3 x4 h → PW (GM D ca ad) K 5 (qV Q) h 30 [some (.ref 0), some (.int x1), some (.int x2), some (.int x3), some (.int x4)] [] := by
  intro n
  induction n with
  | zero => intro x3 x4 h hw; exact hw.elim
  | succ n ih => intro x3 x4 h hw; exact b_X10_layBad_30 C hk88 (fun x3 x4 h hw => ih x3 x4 h hw) hw
def w_X10_layBad_19 (k106 : PH → Prop) (Q : PH → Prop) (x1 : Int32) (kb : Int32 → PH → Prop) (x2 : Int32) (h : PH) : Prop :=
  if 48 ≤ x2 then (k106 h) else (∃ n, Lp2 (w_X10_layBad_30 (fun y10 h9 => vp_in ((48 * x1) + x2) 192 ∧ ∀ h12, h12 = sI h9 61 (iN ((48 * x1) + x2)) (vp_nar .boolean y10) → kb (x2 + 1) h12) Q x1 x2) n 0 0 h)
set_option maxRecDepth 8000 in
theorem b_X10_layBad_19 {D : va_G} {ca : Nat → ClassId} {ad : Nat → Nat} {K : Kt} {k106 : PH → Prop} {kb : Int32 → PH → Prop} {Q : PH → Prop} {x1 : Int32} {x2 : Int32} {h : PH} (C : CX (GM D ca ad) (XS (GM D ca ad)) cX10_layBad RX10 5 none 8 K) (hk106 : ∀ (h : PH), k106 h → PW (GM D ca ad) K 5 (qV Q) h 106 [some (.ref 0), some (.int x1), none, none, none] []) (hkb : ∀ (x2 : Int32) (h : PH), kb x2 h → PW (GM D ca ad) K 5 (qV Q) h 19 [some (.ref 0), some (.int x1), some (.int x2), none, none] []) (hw : w_X10_layBad_19 k106 Q x1 kb x2 h) : PW (GM D ca ad) K 5 (qV Q) h 19 [some (.ref 0), some (.int x1), some (.int x2), none, none] [] := by
  unfold w_X10_layBad_19 at hw
  refine PW.ild2n C dX10_layBad_19 ?_
  refine PW.bipush (v := 48) C dX10_layBad_20 (by decide) ?_
  refine PW.icmp_ge (tgt := 106) C dX10_layBad_22 (by decide) (fun c => ?_) (fun c => ?_)
  · rw [if_pos c] at hw
    exact PW.wk (wk_s (wk_s (wk_n (wk_n (wk_n wk_0))))) (hk106 _ hw)
  · rw [if_neg c] at hw
    refine PW.iconst (v := 0) C dX10_layBad_25 (by decide) ?_
    refine PW.ist3n C dX10_layBad_26 (by decide) rfl ?_
    refine PW.iconst (v := 0) C dX10_layBad_27 (by decide) ?_
    refine PW.ist4 C dX10_layBad_28 (by decide) rfl ?_
    obtain ⟨n, hw⟩ := hw
    refine PW.wk (wk_s (wk_s (wk_s (wk_s (wk_s wk_0))))) (l_X10_layBad_30 C ?_ n _ _ _ hw)
    · intro y10 h9 hw
      refine PW.ald0n C dX10_layBad_88 ?_
      refine PW.get0 (v := .ref 61) C cf_10 fl_X10_195 (by decide) oM_0 (fvR (o := 61) rfl) dX10_layBad_89 ?_
      refine PW.bipush (v := 48) C dX10_layBad_92 (by decide) ?_
      refine PW.ild1n C dX10_layBad_94 ?_
      refine PW.imul C dX10_layBad_95 ?_
      refine PW.ild2n C dX10_layBad_96 ?_
      refine PW.iadd C dX10_layBad_97 ?_
      refine PW.ild3n C dX10_layBad_98 ?_
      obtain ⟨hc11, hw⟩ := hw
      replace hw := hw _ rfl
      refine PW.zast C dX10_layBad_99 aM_61 hc11 ?_
      refine PW.inc2 (v := 1) C dX10_layBad_100 (by decide) rfl (by decide) ?_
      refine PW.goto (tgt := 19) C dX10_layBad_103 (by decide) ?_
      exact PW.wk (wk_s (wk_s (wk_s (wk_n (wk_n wk_0))))) (hkb _ _ hw)
theorem l_X10_layBad_19 {D : va_G} {ca : Nat → ClassId} {ad : Nat → Nat} {K : Kt} {k106 : PH → Prop} {Q : PH → Prop} {x1 : Int32} (C : CX (GM D ca ad) (XS (GM D ca ad)) cX10_layBad RX10 5 none 8 K) (hk106 : ∀ (h : PH), k106 h → PW (GM D ca ad) K 5 (qV Q) h 106 [some (.ref 0), some (.int x1), none, none, none] []) : ∀ (n : Nat) (x2 : Int32) (h : PH), Lp1 (w_X10_layBad_19 k106 Q x1) n x2 h → PW (GM D ca ad) K 5 (qV Q) h 19 [some (.ref 0), some (.int x1), some (.int x2), none, none] [] := by
  intro n
  induction n with
  | zero => intro x2 h hw; exact hw.elim
  | succ n ih => intro x2 h hw; exact b_X10_layBad_19 C hk106 (fun x2 h hw => ih x2 h hw) hw
def w_X10_layBad_6 (k112 : PH → Prop) (Q : PH → Prop) (kb : Int32 → PH → Prop) (x1 : Int32) (h : PH) : Prop :=
  if (gI h 2 (iN 6)) ≤ x1 then (k112 h) else (∃ n, Lp1 (w_X10_layBad_19 (fun h13 => kb (x1 + 1) h13) Q x1) n 0 h)
set_option maxRecDepth 8000 in
theorem b_X10_layBad_6 {D : va_G} {ca : Nat → ClassId} {ad : Nat → Nat} {K : Kt} {k112 : PH → Prop} {kb : Int32 → PH → Prop} {Q : PH → Prop} {x1 : Int32} {h : PH} (C : CX (GM D ca ad) (XS (GM D ca ad)) cX10_layBad RX10 5 none 8 K) (hk112 : ∀ (h : PH), k112 h → PW (GM D ca ad) K 5 (qV Q) h 112 [none, none, none, none, none] []) (hkb : ∀ (x1 : Int32) (h : PH), kb x1 h → PW (GM D ca ad) K 5 (qV Q) h 6 [some (.ref 0), some (.int x1), none, none, none] []) (hw : w_X10_layBad_6 k112 Q kb x1 h) : PW (GM D ca ad) K 5 (qV Q) h 6 [some (.ref 0), some (.int x1), none, none, none] [] := by
  unfold w_X10_layBad_6 at hw
  refine PW.ild1n C dX10_layBad_6 ?_
  refine PW.ald0n C dX10_layBad_7 ?_
  refine PW.get0 (v := .ref 2) C cf_10 fl_X10_13 (by decide) oM_0 (fvR (o := 2) rfl) dX10_layBad_8 ?_
  refine PW.bipush (v := 6) C dX10_layBad_11 (by decide) ?_
  refine PW.iald C dX10_layBad_13 aM_2 (vpl (by decide)) ?_
  refine PW.icmp_ge (tgt := 112) C dX10_layBad_14 (by decide) (fun c => ?_) (fun c => ?_)
  · rw [if_pos c] at hw
    exact PW.wk (wk_n (wk_n (wk_n (wk_n (wk_n wk_0))))) (hk112 _ hw)
  · rw [if_neg c] at hw
    refine PW.iconst (v := 0) C dX10_layBad_17 (by decide) ?_
    refine PW.ist2n C dX10_layBad_18 (by decide) rfl ?_
    obtain ⟨n, hw⟩ := hw
    refine PW.wk (wk_s (wk_s (wk_s (wk_n (wk_n wk_0))))) (l_X10_layBad_19 C ?_ n _ _ hw)
    · intro h13 hw
      refine PW.inc1 (v := 1) C dX10_layBad_106 (by decide) rfl (by decide) ?_
      refine PW.goto (tgt := 6) C dX10_layBad_109 (by decide) ?_
      exact PW.wk (wk_s (wk_s (wk_n (wk_n (wk_n wk_0))))) (hkb _ _ hw)
theorem l_X10_layBad_6 {D : va_G} {ca : Nat → ClassId} {ad : Nat → Nat} {K : Kt} {k112 : PH → Prop} {Q : PH → Prop} (C : CX (GM D ca ad) (XS (GM D ca ad)) cX10_layBad RX10 5 none 8 K) (hk112 : ∀ (h : PH), k112 h → PW (GM D ca ad) K 5 (qV Q) h 112 [none, none, none, none, none] []) : ∀ (n : Nat) (x1 : Int32) (h : PH), Lp1 (w_X10_layBad_6 k112 Q) n x1 h → PW (GM D ca ad) K 5 (qV Q) h 6 [some (.ref 0), some (.int x1), none, none, none] [] := by
  intro n
  induction n with
  | zero => intro x1 h hw; exact hw.elim
  | succ n ih => intro x1 h hw; exact b_X10_layBad_6 C hk112 (fun x1 h hw => ih x1 h hw) hw
def w_X10_layBad (h : PH) (Q : PH → Prop) : Prop :=
  w_X10_layDay h (fun h1 => ∃ n, Lp1 (w_X10_layBad_6 (fun h14 => Q h14) Q) n 0 h1)
set_option maxRecDepth 8000 in
theorem s_X10_layBad {D : va_G} {ca : Nat → ClassId} {ad : Nat → Nat} {l : Launch} {h : PH} {Q : PH → Prop} (hw : w_X10_layBad h Q) : Sp (GM D ca ad) (XS (GM D ca ad)) l 8 yX10_layBad cX10_layBad 5 none [.ref 0] h (qV Q) := by
  refine Sp.of (own := RX10) [some (.ref 0), none, none, none, none] (by decide +kernel) rfl rfl (Nat.le_of_ble_eq_true rfl) (fun K hl C => ?_)
  subst hl
  unfold w_X10_layBad at hw
  refine PW.ald0n C dX10_layBad_0 ?_
  refine PW.callVV0 C ms_X10_layDay ml_X10_515 dX10_layBad_1 oM_0 ⟨_, _, rfl⟩ (Nat.le_of_ble_eq_true rfl) (by decide) (Nat.le_of_ble_eq_true rfl) (s_X10_layDay hw) ?_
  clear hw
  intro h1 hw
  refine PW.iconst (v := 0) C dX10_layBad_4 (by decide) ?_
  refine PW.ist1n C dX10_layBad_5 (by decide) rfl ?_
  obtain ⟨n, hw⟩ := hw
  refine PW.wk (wk_s (wk_s (wk_n (wk_n (wk_n wk_0))))) (l_X10_layBad_6 C ?_ n _ _ hw)
  · intro h14 hw
    exact PW.vret C dX10_layBad_112 ⟨rfl, hw⟩
def w_X10_isOpen_15 (k37 : PH → Prop) (k45 : PH → Prop) (Q : Int32 → PH → Prop) (x1 : Int32) (x2 : Int32) (x3 : Int32) (x4 : Int32) (kb : Int32 → PH → Prop) (x5 : Int32) (h : PH) : Prop :=
  if x4 < x5 then (k45 h) else (vp_in ((48 * x2) + x5) 192 ∧ if (gI h 61 (iN ((48 * x2) + x5))) = 0 then (kb (x5 + 1) h) else (k37 h))
set_option maxRecDepth 8000 in
theorem b_X10_isOpen_15 {D : va_G} {ca : Nat → ClassId} {ad : Nat → Nat} {K : Kt} {k37 : PH → Prop} {k45 : PH → Prop} {kb : Int32 → PH → Prop} {Q : Int32 → PH → Prop} {x1 : Int32} {x2 : Int32} {x3 : Int32} {x4 : Int32} {x5 : Int32} {h : PH} (C : CX (GM D ca ad) (XS (GM D ca ad)) cX10_isOpen RX10 7 (some .boolean) 1 K) (hk37 : ∀ (h : PH), k37 h → PW (GM D ca ad) K 7 (qI Q) h 37 [none, none, none, none, none, none, none] []) (hk45 : ∀ (h : PH), k45 h → PW (GM D ca ad) K 7 (qI Q) h 45 [some (.ref 0), some (.int x1), some (.int x2), some (.int x3), some (.int x4), none, none] []) (hkb : ∀ (x5 : Int32) (h : PH), kb x5 h → PW (GM D ca ad) K 7 (qI Q) h 15 [some (.ref 0), some (.int x1), some (.int x2), some (.int x3), some (.int x4), some (.int x5), none] []) (hw : w_X10_isOpen_15 k37 k45 Q x1 x2 x3 x4 kb x5 h) : PW (GM D ca ad) K 7 (qI Q) h 15 [some (.ref 0), some (.int x1), some (.int x2), some (.int x3), some (.int x4), some (.int x5), none] [] := by
  unfold w_X10_isOpen_15 at hw
  refine PW.ild5 C dX10_isOpen_15 ?_
  refine PW.ild4 C dX10_isOpen_17 ?_
  refine PW.icmp_gt (tgt := 45) C dX10_isOpen_19 (by decide) (fun c => ?_) (fun c => ?_)
  · rw [if_pos c] at hw
    exact PW.wk (wk_s (wk_s (wk_s (wk_s (wk_s (wk_n (wk_n wk_0))))))) (hk45 _ hw)
  · rw [if_neg c] at hw
    refine PW.ald0n C dX10_isOpen_22 ?_
    refine PW.get0 (v := .ref 61) C cf_10 fl_X10_195 (by decide) oM_0 (fvR (o := 61) rfl) dX10_isOpen_23 ?_
    refine PW.bipush (v := 48) C dX10_isOpen_26 (by decide) ?_
    refine PW.ild2n C dX10_isOpen_28 ?_
    refine PW.imul C dX10_isOpen_29 ?_
    refine PW.ild5 C dX10_isOpen_30 ?_
    refine PW.iadd C dX10_isOpen_32 ?_
    obtain ⟨hc3, hw⟩ := hw
    refine PW.zald C dX10_isOpen_33 aM_61 hc3 ?_
    refine PW.if_eq (tgt := 39) C dX10_isOpen_34 (by decide) (fun c => ?_) (fun c => ?_)
    · rw [if_pos c] at hw
      refine PW.inc5 (v := 1) C dX10_isOpen_39 (by decide) rfl (by decide) ?_
      refine PW.goto (tgt := 15) C dX10_isOpen_42 (by decide) ?_
      exact PW.wk (wk_s (wk_s (wk_s (wk_s (wk_s (wk_s (wk_n wk_0))))))) (hkb _ _ hw)
    · rw [if_neg c] at hw
      exact PW.wk (wk_n (wk_n (wk_n (wk_n (wk_n (wk_n (wk_n wk_0))))))) (hk37 _ hw)
theorem l_X10_isOpen_15 {D : va_G} {ca : Nat → ClassId} {ad : Nat → Nat} {K : Kt} {k37 : PH → Prop} {k45 : PH → Prop} {Q : Int32 → PH → Prop} {x1 : Int32} {x2 : Int32} {x3 : Int32} {x4 : Int32} (C : CX (GM D ca ad) (XS (GM D ca ad)) cX10_isOpen RX10 7 (some .boolean) 1 K) (hk37 : ∀ (h : PH), k37 h → PW (GM D ca ad) K 7 (qI Q) h 37 [none, none, none, none, none, none, none] []) (hk45 : ∀ (h : PH), k45 h → PW (GM D ca ad) K 7 (qI Q) h 45 [some (.ref 0), some (.int x1), some (.int x2), some (.int x3), some (.int x4), none, none] []) : ∀ (n : Nat) (x5 : Int32) (h : PH), Lp1 (w_X10_isOpen_15 k37 k45 Q x1 x2 x3 x4) n x5 h → PW (GM D ca ad) K 7 (qI Q) h 15 [some (.ref 0), some (.int x1), some (.int x2), some (.int x3), some (.int x4), some (.int x5), none] [] := by
  intro n
  induction n with
  | zero => intro x5 h hw; exact hw.elim
  | succ n ih => intro x5 h hw; exact b_X10_isOpen_15 C hk37 hk45 (fun x5 h hw => ih x5 h hw) hw
def w_X10_isOpen_48 (k112 : PH → Prop) (k120 : PH → Prop) (Q : Int32 → PH → Prop) (x1 : Int32) (x2 : Int32) (x3 : Int32) (x4 : Int32) (kb : Int32 → PH → Prop) (x5 : Int32) (h : PH) : Prop :=
  if x1 ≤ x5 then (k120 h) else (vp_in x5 4 ∧ ∀ (y7 : Int32), y7 = (gI h 62 (iN x5)) → vp_in y7 8 ∧ vp_in x2 8 ∧ if (gI h 23 (iN y7)) = (gI h 23 (iN x2)) then (vp_in x5 4 ∧ if x4 < (gI h 63 (iN x5)) then (kb (x5 + 1) h) else (vp_in x5 4 ∧ vp_in y7 8 ∧ if (((gI h 63 (iN x5)) + (gI h 25 (iN y7))) - 1) < x3 then (kb (x5 + 1) h) else (k112 h))) else (kb (x5 + 1) h))
set_option maxRecDepth 8000 in
theorem b_X10_isOpen_48 {D : va_G} {ca : Nat → ClassId} {ad : Nat → Nat} {K : Kt} {k112 : PH → Prop} {k120 : PH → Prop} {kb : Int32 → PH → Prop} {Q : Int32 → PH → Prop} {x1 : Int32} {x2 : Int32} {x3 : Int32} {x4 : Int32} {x5 : Int32} {h : PH} (C : CX (GM D ca ad) (XS (GM D ca ad)) cX10_isOpen RX10 7 (some .boolean) 1 K) (hk112 : ∀ (h : PH), k112 h → PW (GM D ca ad) K 7 (qI Q) h 112 [none, none, none, none, none, none, none] []) (hk120 : ∀ (h : PH), k120 h → PW (GM D ca ad) K 7 (qI Q) h 120 [none, none, none, none, none, none, none] []) (hkb : ∀ (x5 : Int32) (h : PH), kb x5 h → PW (GM D ca ad) K 7 (qI Q) h 48 [some (.ref 0), some (.int x1), some (.int x2), some (.int x3), some (.int x4), some (.int x5), none] []) (hw : w_X10_isOpen_48 k112 k120 Q x1 x2 x3 x4 kb x5 h) : PW (GM D ca ad) K 7 (qI Q) h 48 [some (.ref 0), some (.int x1), some (.int x2), some (.int x3), some (.int x4), some (.int x5), none] [] := by
  unfold w_X10_isOpen_48 at hw
  refine PW.ild5 C dX10_isOpen_48 ?_
  refine PW.ild1n C dX10_isOpen_50 ?_
  refine PW.icmp_ge (tgt := 120) C dX10_isOpen_51 (by decide) (fun c => ?_) (fun c => ?_)
  · rw [if_pos c] at hw
    exact PW.wk (wk_n (wk_n (wk_n (wk_n (wk_n (wk_n (wk_n wk_0))))))) (hk120 _ hw)
  · rw [if_neg c] at hw
    refine PW.ald0n C dX10_isOpen_54 ?_
    refine PW.get0 (v := .ref 62) C cf_10 fl_X10_199 (by decide) oM_0 (fvR (o := 62) rfl) dX10_isOpen_55 ?_
    refine PW.ild5 C dX10_isOpen_58 ?_
    obtain ⟨hc6, hw⟩ := hw
    refine PW.iald C dX10_isOpen_60 aM_62 hc6 ?_
    replace hw := hw _ rfl
    refine PW.ist6 C dX10_isOpen_61 (by decide) rfl ?_
    refine PW.ald0n C dX10_isOpen_63 ?_
    refine PW.get0 (v := .ref 23) C cf_10 fl_X10_76 (by decide) oM_0 (fvR (o := 23) rfl) dX10_isOpen_64 ?_
    refine PW.ild6 C dX10_isOpen_67 ?_
    obtain ⟨hc8, hw⟩ := hw
    refine PW.iald C dX10_isOpen_69 aM_23 hc8 ?_
    refine PW.ald0n C dX10_isOpen_70 ?_
    refine PW.get0 (v := .ref 23) C cf_10 fl_X10_76 (by decide) oM_0 (fvR (o := 23) rfl) dX10_isOpen_71 ?_
    refine PW.ild2n C dX10_isOpen_74 ?_
    obtain ⟨hc9, hw⟩ := hw
    refine PW.iald C dX10_isOpen_75 aM_23 hc9 ?_
    refine PW.icmp_ne (tgt := 114) C dX10_isOpen_76 (by decide) (fun c => ?_) (fun c => ?_)
    · rw [if_neg c] at hw
      refine PW.inc5 (v := 1) C dX10_isOpen_114 (by decide) rfl (by decide) ?_
      refine PW.goto (tgt := 48) C dX10_isOpen_117 (by decide) ?_
      exact PW.wk (wk_s (wk_s (wk_s (wk_s (wk_s (wk_s (wk_n wk_0))))))) (hkb _ _ hw)
    · rw [if_pos c] at hw
      refine PW.ald0n C dX10_isOpen_79 ?_
      refine PW.get0 (v := .ref 63) C cf_10 fl_X10_202 (by decide) oM_0 (fvR (o := 63) rfl) dX10_isOpen_80 ?_
      refine PW.ild5 C dX10_isOpen_83 ?_
      obtain ⟨hc10, hw⟩ := hw
      refine PW.iald C dX10_isOpen_85 aM_63 hc10 ?_
      refine PW.ild4 C dX10_isOpen_86 ?_
      refine PW.icmp_gt (tgt := 114) C dX10_isOpen_88 (by decide) (fun c => ?_) (fun c => ?_)
      · rw [if_pos c] at hw
        refine PW.inc5 (v := 1) C dX10_isOpen_114 (by decide) rfl (by decide) ?_
        refine PW.goto (tgt := 48) C dX10_isOpen_117 (by decide) ?_
        exact PW.wk (wk_s (wk_s (wk_s (wk_s (wk_s (wk_s (wk_n wk_0))))))) (hkb _ _ hw)
      · rw [if_neg c] at hw
        refine PW.ild3n C dX10_isOpen_91 ?_
        refine PW.ald0n C dX10_isOpen_92 ?_
        refine PW.get0 (v := .ref 63) C cf_10 fl_X10_202 (by decide) oM_0 (fvR (o := 63) rfl) dX10_isOpen_93 ?_
        refine PW.ild5 C dX10_isOpen_96 ?_
        obtain ⟨hc11, hw⟩ := hw
        refine PW.iald C dX10_isOpen_98 aM_63 hc11 ?_
        refine PW.ald0n C dX10_isOpen_99 ?_
        refine PW.get0 (v := .ref 25) C cf_10 fl_X10_82 (by decide) oM_0 (fvR (o := 25) rfl) dX10_isOpen_100 ?_
        refine PW.ild6 C dX10_isOpen_103 ?_
        obtain ⟨hc12, hw⟩ := hw
        refine PW.iald C dX10_isOpen_105 aM_25 hc12 ?_
        refine PW.iadd C dX10_isOpen_106 ?_
        refine PW.iconst (v := 1) C dX10_isOpen_107 (by decide) ?_
        refine PW.isub C dX10_isOpen_108 ?_
        refine PW.icmp_gt (tgt := 114) C dX10_isOpen_109 (by decide) (fun c => ?_) (fun c => ?_)
        · rw [if_pos c] at hw
          refine PW.inc5 (v := 1) C dX10_isOpen_114 (by decide) rfl (by decide) ?_
          refine PW.goto (tgt := 48) C dX10_isOpen_117 (by decide) ?_
          exact PW.wk (wk_s (wk_s (wk_s (wk_s (wk_s (wk_s (wk_n wk_0))))))) (hkb _ _ hw)
        · rw [if_neg c] at hw
          exact PW.wk (wk_n (wk_n (wk_n (wk_n (wk_n (wk_n (wk_n wk_0))))))) (hk112 _ hw)
theorem l_X10_isOpen_48 {D : va_G} {ca : Nat → ClassId} {ad : Nat → Nat} {K : Kt} {k112 : PH → Prop} {k120 : PH → Prop} {Q : Int32 → PH → Prop} {x1 : Int32} {x2 : Int32} {x3 : Int32} {x4 : Int32} (C : CX (GM D ca ad) (XS (GM D ca ad)) cX10_isOpen RX10 7 (some .boolean) 1 K) (hk112 : ∀ (h : PH), k112 h → PW (GM D ca ad) K 7 (qI Q) h 112 [none, none, none, none, none, none, none] []) (hk120 : ∀ (h : PH), k120 h → PW (GM D ca ad) K 7 (qI Q) h 120 [none, none, none, none, none, none, none] []) : ∀ (n : Nat) (x5 : Int32) (h : PH), Lp1 (w_X10_isOpen_48 k112 k120 Q x1 x2 x3 x4) n x5 h → PW (GM D ca ad) K 7 (qI Q) h 48 [some (.ref 0), some (.int x1), some (.int x2), some (.int x3), some (.int x4), some (.int x5), none] [] := by
  intro n
  induction n with
  | zero => intro x5 h hw; exact hw.elim
  | succ n ih => intro x5 h hw; exact b_X10_isOpen_48 C hk112 hk120 (fun x5 h hw => ih x5 h hw) hw
def w_X10_isOpen (x1 : Int32) (x2 : Int32) (x3 : Int32) (h : PH) (Q : Int32 → PH → Prop) : Prop :=
  vp_in x2 8 ∧ ∀ (y2 : Int32), y2 = ((x3 + (gI h 25 (iN x2))) - 1) → ∃ n, Lp1 (w_X10_isOpen_15 (fun h4 => Q 0 h4) (fun h5 => ∃ n, Lp1 (w_X10_isOpen_48 (fun h13 => Q 0 h13) (fun h14 => Q 1 h14) Q x1 x2 x3 y2) n 0 h5) Q x1 x2 x3 y2) n x3 h
set_option maxRecDepth 8000 in
theorem s_X10_isOpen {D : va_G} {ca : Nat → ClassId} {ad : Nat → Nat} {l : Launch} {x1 : Int32} {x2 : Int32} {x3 : Int32} {h : PH} {Q : Int32 → PH → Prop} (hw : w_X10_isOpen x1 x2 x3 h Q) : Sp (GM D ca ad) (XS (GM D ca ad)) l 1 yX10_isOpen cX10_isOpen 7 (some .boolean) [.ref 0, .int x1, .int x2, .int x3] h (qI Q) := by
  refine Sp.of (own := RX10) [some (.ref 0), some (.int x1), some (.int x2), some (.int x3), none, none, none] (by decide +kernel) rfl rfl (Nat.le_of_ble_eq_true rfl) (fun K hl C => ?_)
  subst hl
  unfold w_X10_isOpen at hw
  refine PW.ild3n C dX10_isOpen_0 ?_
  refine PW.ald0n C dX10_isOpen_1 ?_
  refine PW.get0 (v := .ref 25) C cf_10 fl_X10_82 (by decide) oM_0 (fvR (o := 25) rfl) dX10_isOpen_2 ?_
  refine PW.ild2n C dX10_isOpen_5 ?_
  obtain ⟨hc1, hw⟩ := hw
  refine PW.iald C dX10_isOpen_6 aM_25 hc1 ?_
  refine PW.iadd C dX10_isOpen_7 ?_
  refine PW.iconst (v := 1) C dX10_isOpen_8 (by decide) ?_
  refine PW.isub C dX10_isOpen_9 ?_
  replace hw := hw _ rfl
  refine PW.ist4 C dX10_isOpen_10 (by decide) rfl ?_
  refine PW.ild3n C dX10_isOpen_12 ?_
  refine PW.ist5 C dX10_isOpen_13 (by decide) rfl ?_
  obtain ⟨n, hw⟩ := hw
  refine PW.wk (wk_s (wk_s (wk_s (wk_s (wk_s (wk_s (wk_n wk_0))))))) (l_X10_isOpen_15 C ?_ ?_ n _ _ hw)
  · intro h4 hw
    refine PW.iconst (v := 0) C dX10_isOpen_37 (by decide) ?_
    exact PW.zret C dX10_isOpen_38 (by decide) ⟨_, rfl, hw⟩
  · intro h5 hw
    refine PW.iconst (v := 0) C dX10_isOpen_45 (by decide) ?_
    refine PW.ist5 C dX10_isOpen_46 (by decide) rfl ?_
    obtain ⟨n, hw⟩ := hw
    refine PW.wk (wk_s (wk_s (wk_s (wk_s (wk_s (wk_s (wk_n wk_0))))))) (l_X10_isOpen_48 C ?_ ?_ n _ _ hw)
    · intro h13 hw
      refine PW.iconst (v := 0) C dX10_isOpen_112 (by decide) ?_
      exact PW.zret C dX10_isOpen_113 (by decide) ⟨_, rfl, hw⟩
    · intro h14 hw
      refine PW.iconst (v := 1) C dX10_isOpen_120 (by decide) ?_
      exact PW.zret C dX10_isOpen_121 (by decide) ⟨_, rfl, hw⟩
def w_X10_plans_108 (R : Int32 → Int32 → Int32 → PH → (PH → Prop) → Prop) (k141 : Int32 → PH → Prop) (Q : PH → Prop) (x1 : Int32) (x2 : Int32) (x3 : Int32) (x4 : Int32) (kb : Int32 → PH → Prop) (x5 : Int32) (h : PH) : Prop :=
  vp_in x4 8 ∧ if 48 < (x5 + (gI h 25 (iN x4))) then (k141 x5 h) else (w_X10_isOpen x1 x4 x5 h (fun z3 h2 => if z3 = 0 then (kb (x5 + 1) h2) else (k141 x5 h2)))
set_option maxRecDepth 8000 in
theorem b_X10_plans_108 {D : va_G} {ca : Nat → ClassId} {ad : Nat → Nat} {K : Kt} {d d9 : Nat} {R : Int32 → Int32 → Int32 → PH → (PH → Prop) → Prop} {k141 : Int32 → PH → Prop} {kb : Int32 → PH → Prop} {Q : PH → Prop} {x1 : Int32} {x2 : Int32} {x3 : Int32} {x4 : Int32} {x5 : Int32} {h : PH} (C : CX (GM D ca ad) (XS (GM D ca ad)) cX10_plans RX10 6 none d K) (hdd : d9 + 1 ≤ d) (hda : 2 ≤ d) (hR : ∀ (a b c : Int32) (h : PH) (Q : PH → Prop), R a b c h Q → Sp (GM D ca ad) (XS (GM D ca ad)) K.l d9 yX10_plans cX10_plans 6 none [.ref 0, .int a, .int b, .int c] h (qV Q)) (hk141 : ∀ (x5 : Int32) (h : PH), k141 x5 h → PW (GM D ca ad) K 6 (qV Q) h 141 [some (.ref 0), some (.int x1), some (.int x2), some (.int x3), some (.int x4), some (.int x5)] []) (hkb : ∀ (x5 : Int32) (h : PH), kb x5 h → PW (GM D ca ad) K 6 (qV Q) h 108 [some (.ref 0), some (.int x1), some (.int x2), some (.int x3), some (.int x4), some (.int x5)] []) (hw : w_X10_plans_108 R k141 Q x1 x2 x3 x4 kb x5 h) : PW (GM D ca ad) K 6 (qV Q) h 108 [some (.ref 0), some (.int x1), some (.int x2), some (.int x3), some (.int x4), some (.int x5)] [] := by
  unfold w_X10_plans_108 at hw
  refine PW.ild5 C dX10_plans_108 ?_
  refine PW.ald0n C dX10_plans_110 ?_
  refine PW.get0 (v := .ref 25) C cf_10 fl_X10_82 (by decide) oM_0 (fvR (o := 25) rfl) dX10_plans_111 ?_
  refine PW.ild4 C dX10_plans_114 ?_
  obtain ⟨hc1, hw⟩ := hw
  refine PW.iald C dX10_plans_116 aM_25 hc1 ?_
  refine PW.iadd C dX10_plans_117 ?_
  refine PW.bipush (v := 48) C dX10_plans_118 (by decide) ?_
  refine PW.icmp_gt (tgt := 141) C dX10_plans_120 (by decide) (fun c => ?_) (fun c => ?_)
  · rw [if_pos c] at hw
    exact PW.wk (wk_s (wk_s (wk_s (wk_s (wk_s (wk_s wk_0)))))) (hk141 _ _ hw)
  · rw [if_neg c] at hw
    refine PW.ald0n C dX10_plans_123 ?_
    refine PW.ild1n C dX10_plans_124 ?_
    refine PW.ild4 C dX10_plans_125 ?_
    refine PW.ild5 C dX10_plans_127 ?_
    refine PW.callVI3 C ms_X10_isOpen ml_X10_603 dX10_plans_129 oM_0 ⟨_, _, rfl⟩ (by omega) (by decide) (Nat.le_of_ble_eq_true rfl) (s_X10_isOpen hw) ?_
    clear hw
    intro z3 h2 hw
    refine PW.if_ne (tgt := 141) C dX10_plans_132 (by decide) (fun c => ?_) (fun c => ?_)
    · rw [if_neg c] at hw
      exact PW.wk (wk_s (wk_s (wk_s (wk_s (wk_s (wk_s wk_0)))))) (hk141 _ _ hw)
    · rw [if_pos c] at hw
      refine PW.inc5 (v := 1) C dX10_plans_135 (by decide) rfl (by decide) ?_
      refine PW.goto (tgt := 108) C dX10_plans_138 (by decide) ?_
      exact PW.wk (wk_s (wk_s (wk_s (wk_s (wk_s (wk_s wk_0)))))) (hkb _ _ hw)
theorem l_X10_plans_108 {D : va_G} {ca : Nat → ClassId} {ad : Nat → Nat} {K : Kt} {d d9 : Nat} {R : Int32 → Int32 → Int32 → PH → (PH → Prop) → Prop} {k141 : Int32 → PH → Prop} {Q : PH → Prop} {x1 : Int32} {x2 : Int32} {x3 : Int32} {x4 : Int32} (C : CX (GM D ca ad) (XS (GM D ca ad)) cX10_plans RX10 6 none d K) (hdd : d9 + 1 ≤ d) (hda : 2 ≤ d) (hR : ∀ (a b c : Int32) (h : PH) (Q : PH → Prop), R a b c h Q → Sp (GM D ca ad) (XS (GM D ca ad)) K.l d9 yX10_plans cX10_plans 6 none [.ref 0, .int a, .int b, .int c] h (qV Q)) (hk141 : ∀ (x5 : Int32) (h : PH), k141 x5 h → PW (GM D ca ad) K 6 (qV Q) h 141 [some (.ref 0), some (.int x1), some (.int x2), some (.int x3), some (.int x4), some (.int x5)] []) : ∀ (n : Nat) (x5 : Int32) (h : PH), Lp1 (w_X10_plans_108 R k141 Q x1 x2 x3 x4) n x5 h → PW (GM D ca ad) K 6 (qV Q) h 108 [some (.ref 0), some (.int x1), some (.int x2), some (.int x3), some (.int x4), some (.int x5)] [] := by
  intro n
  induction n with
  | zero => intro x5 h hw; exact hw.elim
  | succ n ih => intro x5 h hw; exact b_X10_plans_108 C hdd hda hR hk141 (fun x5 h hw => ih x5 h hw) hw
def w_X10_plans_141 (R : Int32 → Int32 → Int32 → PH → (PH → Prop) → Prop) (Q : PH → Prop) (kb : Int32 → PH → Prop) (x1 : Int32) (x2 : Int32) (x3 : Int32) (x4 : Int32) (x5 : Int32) (h : PH) : Prop :=
  vp_in x4 8 ∧ if (x5 + (gI h 25 (iN x4))) ≤ 48 then (vp_in x1 4 ∧ ∀ h8, h8 = sI h 62 (iN x1) x4 → vp_in x1 4 ∧ ∀ h10, h10 = sI h8 63 (iN x1) x5 → vp_in x4 8 ∧ R (x1 + 1) (x2 ||| ((1 : Int32) <<< ((x4 : Int32) &&& 31))) (mxI x3 ((x5 + (gI h10 25 (iN x4))) - 1)) h10 (fun h12 => kb (x4 + 1) h12)) else (kb (x4 + 1) h)
set_option maxRecDepth 8000 in
theorem b_X10_plans_141 {D : va_G} {ca : Nat → ClassId} {ad : Nat → Nat} {K : Kt} {d d9 : Nat} {R : Int32 → Int32 → Int32 → PH → (PH → Prop) → Prop} {kb : Int32 → PH → Prop} {Q : PH → Prop} {x1 : Int32} {x2 : Int32} {x3 : Int32} {x4 : Int32} {x5 : Int32} {h : PH} (C : CX (GM D ca ad) (XS (GM D ca ad)) cX10_plans RX10 6 none d K) (hdd : d9 + 1 ≤ d) (hda : 2 ≤ d) (hR : ∀ (a b c : Int32) (h : PH) (Q : PH → Prop), R a b c h Q → Sp (GM D ca ad) (XS (GM D ca ad)) K.l d9 yX10_plans cX10_plans 6 none [.ref 0, .int a, .int b, .int c] h (qV Q)) (hkb : ∀ (x4 : Int32) (h : PH), kb x4 h → PW (GM D ca ad) K 6 (qV Q) h 80 [some (.ref 0), some (.int x1), some (.int x2), some (.int x3), some (.int x4), none] []) (hw : w_X10_plans_141 R Q kb x1 x2 x3 x4 x5 h) : PW (GM D ca ad) K 6 (qV Q) h 141 [some (.ref 0), some (.int x1), some (.int x2), some (.int x3), some (.int x4), some (.int x5)] [] := by
  unfold w_X10_plans_141 at hw
  refine PW.ild5 C dX10_plans_141 ?_
  refine PW.ald0n C dX10_plans_143 ?_
  refine PW.get0 (v := .ref 25) C cf_10 fl_X10_82 (by decide) oM_0 (fvR (o := 25) rfl) dX10_plans_144 ?_
  refine PW.ild4 C dX10_plans_147 ?_
  obtain ⟨hc6, hw⟩ := hw
  refine PW.iald C dX10_plans_149 aM_25 hc6 ?_
  refine PW.iadd C dX10_plans_150 ?_
  refine PW.bipush (v := 48) C dX10_plans_151 (by decide) ?_
  refine PW.icmp_le (tgt := 159) C dX10_plans_153 (by decide) (fun c => ?_) (fun c => ?_)
  · rw [if_pos c] at hw
    refine PW.ald0n C dX10_plans_159 ?_
    refine PW.get0 (v := .ref 62) C cf_10 fl_X10_199 (by decide) oM_0 (fvR (o := 62) rfl) dX10_plans_160 ?_
    refine PW.ild1n C dX10_plans_163 ?_
    refine PW.ild4 C dX10_plans_164 ?_
    obtain ⟨hc7, hw⟩ := hw
    replace hw := hw _ rfl
    refine PW.iast C dX10_plans_166 aM_62 hc7 ?_
    refine PW.ald0n C dX10_plans_167 ?_
    refine PW.get0 (v := .ref 63) C cf_10 fl_X10_202 (by decide) oM_0 (fvR (o := 63) rfl) dX10_plans_168 ?_
    refine PW.ild1n C dX10_plans_171 ?_
    refine PW.ild5 C dX10_plans_172 ?_
    obtain ⟨hc9, hw⟩ := hw
    replace hw := hw _ rfl
    refine PW.iast C dX10_plans_174 aM_63 hc9 ?_
    refine PW.ald0n C dX10_plans_175 ?_
    refine PW.ild1n C dX10_plans_176 ?_
    refine PW.iconst (v := 1) C dX10_plans_177 (by decide) ?_
    refine PW.iadd C dX10_plans_178 ?_
    refine PW.ild2n C dX10_plans_179 ?_
    refine PW.iconst (v := 1) C dX10_plans_180 (by decide) ?_
    refine PW.ild4 C dX10_plans_181 ?_
    refine PW.ishl C dX10_plans_183 ?_
    refine PW.ior C dX10_plans_184 ?_
    refine PW.ild3n C dX10_plans_185 ?_
    refine PW.ild5 C dX10_plans_186 ?_
    refine PW.ald0n C dX10_plans_188 ?_
    refine PW.get0 (v := .ref 25) C cf_10 fl_X10_82 (by decide) oM_0 (fvR (o := 25) rfl) dX10_plans_189 ?_
    refine PW.ild4 C dX10_plans_192 ?_
    obtain ⟨hc11, hw⟩ := hw
    refine PW.iald C dX10_plans_194 aM_25 hc11 ?_
    refine PW.iadd C dX10_plans_195 ?_
    refine PW.iconst (v := 1) C dX10_plans_196 (by decide) ?_
    refine PW.isub C dX10_plans_197 ?_
    refine PW.mxI C ml_X10_606 (Nat.le_of_ble_eq_true rfl) (by omega) dX10_plans_198 ?_
    refine PW.callVV3 C ms_X10_plans ml_X10_608 dX10_plans_201 oM_0 ⟨_, _, rfl⟩ (by omega) (by decide) (Nat.le_of_ble_eq_true rfl) (hR _ _ _ _ _ hw) ?_
    clear hw
    intro h12 hw
    refine PW.inc4 (v := 1) C dX10_plans_204 (by decide) rfl (by decide) ?_
    refine PW.goto (tgt := 80) C dX10_plans_207 (by decide) ?_
    exact PW.wk (wk_s (wk_s (wk_s (wk_s (wk_s (wk_n wk_0)))))) (hkb _ _ hw)
  · rw [if_neg c] at hw
    refine PW.goto (tgt := 204) C dX10_plans_156 (by decide) ?_
    refine PW.inc4 (v := 1) C dX10_plans_204 (by decide) rfl (by decide) ?_
    refine PW.goto (tgt := 80) C dX10_plans_207 (by decide) ?_
    exact PW.wk (wk_s (wk_s (wk_s (wk_s (wk_s (wk_n wk_0)))))) (hkb _ _ hw)
def w_X10_plans_80 (R : Int32 → Int32 → Int32 → PH → (PH → Prop) → Prop) (k210 : PH → Prop) (Q : PH → Prop) (x1 : Int32) (x2 : Int32) (x3 : Int32) (kb : Int32 → PH → Prop) (x4 : Int32) (h : PH) : Prop :=
  if (gI h 2 (iN 6)) ≤ x4 then (k210 h) else (if (((x2 : Int32) >>> ((x4 : Int32) &&& 31)) &&& 1) = 1 then (kb (x4 + 1) h) else (∃ n, Lp1 (w_X10_plans_108 R (fun y5 h4 => w_X10_plans_141 R Q kb x1 x2 x3 x4 y5 h4) Q x1 x2 x3 x4) n 0 h))
set_option maxRecDepth 8000 in
theorem b_X10_plans_80 {D : va_G} {ca : Nat → ClassId} {ad : Nat → Nat} {K : Kt} {d d9 : Nat} {R : Int32 → Int32 → Int32 → PH → (PH → Prop) → Prop} {k210 : PH → Prop} {kb : Int32 → PH → Prop} {Q : PH → Prop} {x1 : Int32} {x2 : Int32} {x3 : Int32} {x4 : Int32} {h : PH} (C : CX (GM D ca ad) (XS (GM D ca ad)) cX10_plans RX10 6 none d K) (hdd : d9 + 1 ≤ d) (hda : 2 ≤ d) (hR : ∀ (a b c : Int32) (h : PH) (Q : PH → Prop), R a b c h Q → Sp (GM D ca ad) (XS (GM D ca ad)) K.l d9 yX10_plans cX10_plans 6 none [.ref 0, .int a, .int b, .int c] h (qV Q)) (hk210 : ∀ (h : PH), k210 h → PW (GM D ca ad) K 6 (qV Q) h 210 [none, none, none, none, none, none] []) (hkb : ∀ (x4 : Int32) (h : PH), kb x4 h → PW (GM D ca ad) K 6 (qV Q) h 80 [some (.ref 0), some (.int x1), some (.int x2), some (.int x3), some (.int x4), none] []) (hw : w_X10_plans_80 R k210 Q x1 x2 x3 kb x4 h) : PW (GM D ca ad) K 6 (qV Q) h 80 [some (.ref 0), some (.int x1), some (.int x2), some (.int x3), some (.int x4), none] [] := by
  unfold w_X10_plans_80 at hw
  refine PW.ild4 C dX10_plans_80 ?_
  refine PW.ald0n C dX10_plans_82 ?_
  refine PW.get0 (v := .ref 2) C cf_10 fl_X10_13 (by decide) oM_0 (fvR (o := 2) rfl) dX10_plans_83 ?_
  refine PW.bipush (v := 6) C dX10_plans_86 (by decide) ?_
  refine PW.iald C dX10_plans_88 aM_2 (vpl (by decide)) ?_
  refine PW.icmp_ge (tgt := 210) C dX10_plans_89 (by decide) (fun c => ?_) (fun c => ?_)
  · rw [if_pos c] at hw
    exact PW.wk (wk_n (wk_n (wk_n (wk_n (wk_n (wk_n wk_0)))))) (hk210 _ hw)
  · rw [if_neg c] at hw
    refine PW.ild2n C dX10_plans_92 ?_
    refine PW.ild4 C dX10_plans_93 ?_
    refine PW.ishr C dX10_plans_95 ?_
    refine PW.iconst (v := 1) C dX10_plans_96 (by decide) ?_
    refine PW.iand C dX10_plans_97 ?_
    refine PW.iconst (v := 1) C dX10_plans_98 (by decide) ?_
    refine PW.icmp_ne (tgt := 105) C dX10_plans_99 (by decide) (fun c => ?_) (fun c => ?_)
    · rw [if_neg c] at hw
      refine PW.iconst (v := 0) C dX10_plans_105 (by decide) ?_
      refine PW.ist5 C dX10_plans_106 (by decide) rfl ?_
      obtain ⟨n, hw⟩ := hw
      refine PW.wk (wk_s (wk_s (wk_s (wk_s (wk_s (wk_s wk_0)))))) (l_X10_plans_108 C hdd hda hR ?_ n _ _ hw)
      · intro y5 h4 hw
        exact PW.wk (wk_s (wk_s (wk_s (wk_s (wk_s (wk_s wk_0)))))) (b_X10_plans_141 C hdd hda hR hkb hw)
    · rw [if_pos c] at hw
      refine PW.goto (tgt := 204) C dX10_plans_102 (by decide) ?_
      refine PW.inc4 (v := 1) C dX10_plans_204 (by decide) rfl (by decide) ?_
      refine PW.goto (tgt := 80) C dX10_plans_207 (by decide) ?_
      exact PW.wk (wk_s (wk_s (wk_s (wk_s (wk_s (wk_n wk_0)))))) (hkb _ _ hw)
theorem l_X10_plans_80 {D : va_G} {ca : Nat → ClassId} {ad : Nat → Nat} {K : Kt} {d d9 : Nat} {R : Int32 → Int32 → Int32 → PH → (PH → Prop) → Prop} {k210 : PH → Prop} {Q : PH → Prop} {x1 : Int32} {x2 : Int32} {x3 : Int32} (C : CX (GM D ca ad) (XS (GM D ca ad)) cX10_plans RX10 6 none d K) (hdd : d9 + 1 ≤ d) (hda : 2 ≤ d) (hR : ∀ (a b c : Int32) (h : PH) (Q : PH → Prop), R a b c h Q → Sp (GM D ca ad) (XS (GM D ca ad)) K.l d9 yX10_plans cX10_plans 6 none [.ref 0, .int a, .int b, .int c] h (qV Q)) (hk210 : ∀ (h : PH), k210 h → PW (GM D ca ad) K 6 (qV Q) h 210 [none, none, none, none, none, none] []) : ∀ (n : Nat) (x4 : Int32) (h : PH), Lp1 (w_X10_plans_80 R k210 Q x1 x2 x3) n x4 h → PW (GM D ca ad) K 6 (qV Q) h 80 [some (.ref 0), some (.int x1), some (.int x2), some (.int x3), some (.int x4), none] [] := by
  intro n
  induction n with
  | zero => intro x4 h hw; exact hw.elim
  | succ n ih => intro x4 h hw; exact b_X10_plans_80 C hdd hda hR hk210 (fun x4 h hw => ih x4 h hw) hw
def w_X10_plans_36 (R : Int32 → Int32 → Int32 → PH → (PH → Prop) → Prop) (k76 : PH → Prop) (Q : PH → Prop) (x1 : Int32) (kb : Int32 → PH → Prop) (x4 : Int32) (h : PH) : Prop :=
  if x1 ≤ x4 then (k76 h) else (vp_in x4 4 ∧ vp_in x4 4 ∧ ∀ h17, h17 = sI h 64 (iN x4) (gI h 62 (iN x4)) → vp_in x4 4 ∧ vp_in x4 4 ∧ ∀ h20, h20 = sI h17 65 (iN x4) (gI h17 63 (iN x4)) → kb (x4 + 1) h20)
set_option maxRecDepth 8000 in
theorem b_X10_plans_36 {D : va_G} {ca : Nat → ClassId} {ad : Nat → Nat} {K : Kt} {d d9 : Nat} {R : Int32 → Int32 → Int32 → PH → (PH → Prop) → Prop} {k76 : PH → Prop} {kb : Int32 → PH → Prop} {Q : PH → Prop} {x1 : Int32} {x4 : Int32} {h : PH} (C : CX (GM D ca ad) (XS (GM D ca ad)) cX10_plans RX10 6 none d K) (hdd : d9 + 1 ≤ d) (hda : 2 ≤ d) (hR : ∀ (a b c : Int32) (h : PH) (Q : PH → Prop), R a b c h Q → Sp (GM D ca ad) (XS (GM D ca ad)) K.l d9 yX10_plans cX10_plans 6 none [.ref 0, .int a, .int b, .int c] h (qV Q)) (hk76 : ∀ (h : PH), k76 h → PW (GM D ca ad) K 6 (qV Q) h 76 [none, none, none, none, none, none] []) (hkb : ∀ (x4 : Int32) (h : PH), kb x4 h → PW (GM D ca ad) K 6 (qV Q) h 36 [some (.ref 0), some (.int x1), none, none, some (.int x4), none] []) (hw : w_X10_plans_36 R k76 Q x1 kb x4 h) : PW (GM D ca ad) K 6 (qV Q) h 36 [some (.ref 0), some (.int x1), none, none, some (.int x4), none] [] := by
  unfold w_X10_plans_36 at hw
  refine PW.ild4 C dX10_plans_36 ?_
  refine PW.ild1n C dX10_plans_38 ?_
  refine PW.icmp_ge (tgt := 76) C dX10_plans_39 (by decide) (fun c => ?_) (fun c => ?_)
  · rw [if_pos c] at hw
    exact PW.wk (wk_n (wk_n (wk_n (wk_n (wk_n (wk_n wk_0)))))) (hk76 _ hw)
  · rw [if_neg c] at hw
    refine PW.ald0n C dX10_plans_42 ?_
    refine PW.get0 (v := .ref 64) C cf_10 fl_X10_205 (by decide) oM_0 (fvR (o := 64) rfl) dX10_plans_43 ?_
    refine PW.ild4 C dX10_plans_46 ?_
    refine PW.ald0n C dX10_plans_48 ?_
    refine PW.get0 (v := .ref 62) C cf_10 fl_X10_199 (by decide) oM_0 (fvR (o := 62) rfl) dX10_plans_49 ?_
    refine PW.ild4 C dX10_plans_52 ?_
    obtain ⟨hc15, hw⟩ := hw
    refine PW.iald C dX10_plans_54 aM_62 hc15 ?_
    obtain ⟨hc16, hw⟩ := hw
    replace hw := hw _ rfl
    refine PW.iast C dX10_plans_55 aM_64 hc16 ?_
    refine PW.ald0n C dX10_plans_56 ?_
    refine PW.get0 (v := .ref 65) C cf_10 fl_X10_208 (by decide) oM_0 (fvR (o := 65) rfl) dX10_plans_57 ?_
    refine PW.ild4 C dX10_plans_60 ?_
    refine PW.ald0n C dX10_plans_62 ?_
    refine PW.get0 (v := .ref 63) C cf_10 fl_X10_202 (by decide) oM_0 (fvR (o := 63) rfl) dX10_plans_63 ?_
    refine PW.ild4 C dX10_plans_66 ?_
    obtain ⟨hc18, hw⟩ := hw
    refine PW.iald C dX10_plans_68 aM_63 hc18 ?_
    obtain ⟨hc19, hw⟩ := hw
    replace hw := hw _ rfl
    refine PW.iast C dX10_plans_69 aM_65 hc19 ?_
    refine PW.inc4 (v := 1) C dX10_plans_70 (by decide) rfl (by decide) ?_
    refine PW.goto (tgt := 36) C dX10_plans_73 (by decide) ?_
    exact PW.wk (wk_s (wk_s (wk_n (wk_n (wk_s (wk_n wk_0)))))) (hkb _ _ hw)
theorem l_X10_plans_36 {D : va_G} {ca : Nat → ClassId} {ad : Nat → Nat} {K : Kt} {d d9 : Nat} {R : Int32 → Int32 → Int32 → PH → (PH → Prop) → Prop} {k76 : PH → Prop} {Q : PH → Prop} {x1 : Int32} (C : CX (GM D ca ad) (XS (GM D ca ad)) cX10_plans RX10 6 none d K) (hdd : d9 + 1 ≤ d) (hda : 2 ≤ d) (hR : ∀ (a b c : Int32) (h : PH) (Q : PH → Prop), R a b c h Q → Sp (GM D ca ad) (XS (GM D ca ad)) K.l d9 yX10_plans cX10_plans 6 none [.ref 0, .int a, .int b, .int c] h (qV Q)) (hk76 : ∀ (h : PH), k76 h → PW (GM D ca ad) K 6 (qV Q) h 76 [none, none, none, none, none, none] []) : ∀ (n : Nat) (x4 : Int32) (h : PH), Lp1 (w_X10_plans_36 R k76 Q x1) n x4 h → PW (GM D ca ad) K 6 (qV Q) h 36 [some (.ref 0), some (.int x1), none, none, some (.int x4), none] [] := by
  intro n
  induction n with
  | zero => intro x4 h hw; exact hw.elim
  | succ n ih => intro x4 h hw; exact b_X10_plans_36 C hdd hda hR hk76 (fun x4 h hw => ih x4 h hw) hw
def w_X10_plans_28 (R : Int32 → Int32 → Int32 → PH → (PH → Prop) → Prop) (Q : PH → Prop) (x1 : Int32) (x3 : Int32) (h : PH) : Prop :=
  ∀ h14, h14 = sI h 0 92 x3 → ∃ n, Lp1 (w_X10_plans_36 R (fun h21 => Q h21) Q x1) n 0 h14
set_option maxRecDepth 8000 in
theorem b_X10_plans_28 {D : va_G} {ca : Nat → ClassId} {ad : Nat → Nat} {K : Kt} {d d9 : Nat} {R : Int32 → Int32 → Int32 → PH → (PH → Prop) → Prop} {Q : PH → Prop} {x1 : Int32} {x3 : Int32} {h : PH} (C : CX (GM D ca ad) (XS (GM D ca ad)) cX10_plans RX10 6 none d K) (hdd : d9 + 1 ≤ d) (hda : 2 ≤ d) (hR : ∀ (a b c : Int32) (h : PH) (Q : PH → Prop), R a b c h Q → Sp (GM D ca ad) (XS (GM D ca ad)) K.l d9 yX10_plans cX10_plans 6 none [.ref 0, .int a, .int b, .int c] h (qV Q)) (hw : w_X10_plans_28 R Q x1 x3 h) : PW (GM D ca ad) K 6 (qV Q) h 28 [some (.ref 0), some (.int x1), none, some (.int x3), none, none] [] := by
  unfold w_X10_plans_28 at hw
  refine PW.ald0n C dX10_plans_28 ?_
  refine PW.ild3n C dX10_plans_29 ?_
  replace hw := hw _ rfl
  refine PW.put0 C cf_10 fl_X10_600 (by decide) oM_0 rfl rfl rfl (pw_sI oM_0 (by decide) rfl) dX10_plans_30 ?_
  refine PW.iconst (v := 0) C dX10_plans_33 (by decide) ?_
  refine PW.ist4 C dX10_plans_34 (by decide) rfl ?_
  obtain ⟨n, hw⟩ := hw
  refine PW.wk (wk_s (wk_s (wk_n (wk_n (wk_s (wk_n wk_0)))))) (l_X10_plans_36 C hdd hda hR ?_ n _ _ hw)
  · intro h21 hw
    exact PW.vret C dX10_plans_76 ⟨rfl, hw⟩
def w_X10_plans (R : Int32 → Int32 → Int32 → PH → (PH → Prop) → Prop) (x1 : Int32) (x2 : Int32) (x3 : Int32) (h : PH) (Q : PH → Prop) : Prop :=
  if x1 = (gI h 2 (iN 6)) then (if (gI h 0 92) = (-1) then (w_X10_plans_28 R Q x1 x3 h) else (if x3 < (gI h 0 92) then (w_X10_plans_28 R Q x1 x3 h) else (Q h))) else (∃ n, Lp1 (w_X10_plans_80 R (fun h13 => Q h13) Q x1 x2 x3) n 0 h)
set_option maxRecDepth 8000 in
theorem s_X10_plans {D : va_G} {ca : Nat → ClassId} {ad : Nat → Nat} {l : Launch} {R : Int32 → Int32 → Int32 → PH → (PH → Prop) → Prop} {d d9 : Nat} {x1 : Int32} {x2 : Int32} {x3 : Int32} {h : PH} {Q : PH → Prop} (hdd : d9 + 1 ≤ d) (hda : 2 ≤ d) (hR : ∀ (a b c : Int32) (h : PH) (Q : PH → Prop), R a b c h Q → Sp (GM D ca ad) (XS (GM D ca ad)) l d9 yX10_plans cX10_plans 6 none [.ref 0, .int a, .int b, .int c] h (qV Q)) (hw : w_X10_plans R x1 x2 x3 h Q) : Sp (GM D ca ad) (XS (GM D ca ad)) l d yX10_plans cX10_plans 6 none [.ref 0, .int x1, .int x2, .int x3] h (qV Q) := by
  refine Sp.of (own := RX10) [some (.ref 0), some (.int x1), some (.int x2), some (.int x3), none, none] (by decide +kernel) rfl rfl (Nat.le_of_ble_eq_true rfl) (fun K hl C => ?_)
  subst hl
  unfold w_X10_plans at hw
  refine PW.ild1n C dX10_plans_0 ?_
  refine PW.ald0n C dX10_plans_1 ?_
  refine PW.get0 (v := .ref 2) C cf_10 fl_X10_13 (by decide) oM_0 (fvR (o := 2) rfl) dX10_plans_2 ?_
  refine PW.bipush (v := 6) C dX10_plans_5 (by decide) ?_
  refine PW.iald C dX10_plans_7 aM_2 (vpl (by decide)) ?_
  refine PW.icmp_ne (tgt := 77) C dX10_plans_8 (by decide) (fun c => ?_) (fun c => ?_)
  · rw [if_neg c] at hw
    refine PW.iconst (v := 0) C dX10_plans_77 (by decide) ?_
    refine PW.ist4 C dX10_plans_78 (by decide) rfl ?_
    obtain ⟨n, hw⟩ := hw
    refine PW.wk (wk_s (wk_s (wk_s (wk_s (wk_s (wk_n wk_0)))))) (l_X10_plans_80 C hdd hda hR ?_ n _ _ hw)
    · intro h13 hw
      exact PW.vret C dX10_plans_210 ⟨rfl, hw⟩
  · rw [if_pos c] at hw
    refine PW.ald0n C dX10_plans_11 ?_
    refine PW.get0 C cf_10 fl_X10_600 (by decide) oM_0 (fvI rfl) dX10_plans_12 ?_
    refine PW.iconst (v := (-1)) C dX10_plans_15 (by decide) ?_
    refine PW.icmp_eq (tgt := 28) C dX10_plans_16 (by decide) (fun c => ?_) (fun c => ?_)
    · rw [if_pos c] at hw
      exact PW.wk (wk_s (wk_s (wk_n (wk_s (wk_n (wk_n wk_0)))))) (b_X10_plans_28 C hdd hda hR hw)
    · rw [if_neg c] at hw
      refine PW.ild3n C dX10_plans_19 ?_
      refine PW.ald0n C dX10_plans_20 ?_
      refine PW.get0 C cf_10 fl_X10_600 (by decide) oM_0 (fvI rfl) dX10_plans_21 ?_
      refine PW.icmp_lt (tgt := 28) C dX10_plans_24 (by decide) (fun c => ?_) (fun c => ?_)
      · rw [if_pos c] at hw
        exact PW.wk (wk_s (wk_s (wk_n (wk_s (wk_n (wk_n wk_0)))))) (b_X10_plans_28 C hdd hda hR hw)
      · rw [if_neg c] at hw
        exact PW.vret C dX10_plans_27 ⟨rfl, hw⟩
def RRP : Nat → Int32 → Int32 → Int32 → PH → (PH → Prop) → Prop
  | 0 => fun _ _ _ _ _ => False
  | n + 1 => fun a b c h Q => w_X10_plans (RRP n) a b c h Q
theorem s_RRP {D : va_G} {ca : Nat → ClassId} {ad : Nat → Nat} {l : Launch} : ∀ (n : Nat) (a b c : Int32) (h : PH) (Q : PH → Prop), RRP n a b c h Q → Sp (GM D ca ad) (XS (GM D ca ad)) l (2 + n) yX10_plans cX10_plans 6 none [.ref 0, .int a, .int b, .int c] h (qV Q) := by
  intro n
  induction n with
  | zero => intro a b c h Q hw; exact hw.elim
  | succ n ih => intro a b c h Q hw; exact s_X10_plans (R := RRP n) (d9 := 2 + n) (by omega) (by omega) ih hw
def w_plans (a b c : Int32) (h : PH) (Q : PH → Prop) : Prop := ∃ n, n ≤ 10 ∧ RRP n a b c h Q
theorem s_plans {D : va_G} {ca : Nat → ClassId} {ad : Nat → Nat} {l : Launch} {a b c : Int32} {h : PH} {Q : PH → Prop} (hw : w_plans a b c h Q) : Sp (GM D ca ad) (XS (GM D ca ad)) l 30 yX10_plans cX10_plans 6 none [.ref 0, .int a, .int b, .int c] h (qV Q) := by
  obtain ⟨n, hn, hw⟩ := hw
  exact Sp.mono (by omega) (s_RRP n a b c h Q hw)
def w_X10_layPlan (h : PH) (Q : PH → Prop) : Prop :=
  w_X10_layBad h (fun h1 => ∀ h2, h2 = sI h1 0 92 (-1) → w_plans 0 0 (-1) h2 (fun h3 => Q h3))
set_option maxRecDepth 8000 in
theorem s_X10_layPlan {D : va_G} {ca : Nat → ClassId} {ad : Nat → Nat} {l : Launch} {h : PH} {Q : PH → Prop} (hw : w_X10_layPlan h Q) : Sp (GM D ca ad) (XS (GM D ca ad)) l 31 yX10_layPlan cX10_layPlan 1 none [.ref 0] h (qV Q) := by
  refine Sp.of (own := RX10) [some (.ref 0)] (by decide +kernel) rfl rfl (Nat.le_of_ble_eq_true rfl) (fun K hl C => ?_)
  subst hl
  unfold w_X10_layPlan at hw
  refine PW.ald0n C dX10_layPlan_0 ?_
  refine PW.callVV0 C ms_X10_layBad ml_X10_611 dX10_layPlan_1 oM_0 ⟨_, _, rfl⟩ (Nat.le_of_ble_eq_true rfl) (by decide) (Nat.le_of_ble_eq_true rfl) (s_X10_layBad hw) ?_
  clear hw
  intro h1 hw
  refine PW.ald0n C dX10_layPlan_4 ?_
  refine PW.iconst (v := (-1)) C dX10_layPlan_5 (by decide) ?_
  replace hw := hw _ rfl
  refine PW.put0 C cf_10 fl_X10_600 (by decide) oM_0 rfl rfl rfl (pw_sI oM_0 (by decide) rfl) dX10_layPlan_6 ?_
  refine PW.ald0n C dX10_layPlan_9 ?_
  refine PW.iconst (v := 0) C dX10_layPlan_10 (by decide) ?_
  refine PW.iconst (v := 0) C dX10_layPlan_11 (by decide) ?_
  refine PW.iconst (v := (-1)) C dX10_layPlan_12 (by decide) ?_
  refine PW.callVV3 C ms_X10_plans ml_X10_608 dX10_layPlan_13 oM_0 ⟨_, _, rfl⟩ (Nat.le_of_ble_eq_true rfl) (by decide) (Nat.le_of_ble_eq_true rfl) (s_plans hw) ?_
  clear hw
  intro h3 hw
  exact PW.vret C dX10_layPlan_16 ⟨rfl, hw⟩
def w_X10_plan (h : PH) (Q : Int32 → PH → Prop) : Prop :=
  ∀ h1, h1 = sI h 0 0 0 → if (gI h1 2 (iN 6)) = 0 then (Q (-1) h1) else (w_X10_layPlan h1 (fun h2 => if (gI h2 0 92) = (-1) then (Q (-2) h2) else (Q (gI h2 0 92) h2)))
set_option maxRecDepth 8000 in
theorem s_X10_plan {D : va_G} {ca : Nat → ClassId} {ad : Nat → Nat} {l : Launch} {h : PH} {Q : Int32 → PH → Prop} (hw : w_X10_plan h Q) : Sp (GM D ca ad) (XS (GM D ca ad)) l 32 yX10_plan cX10_plan 1 (some .int) [.ref 0] h (qI Q) := by
  refine Sp.of (own := RX10) [some (.ref 0)] (by decide +kernel) rfl rfl (Nat.le_of_ble_eq_true rfl) (fun K hl C => ?_)
  subst hl
  unfold w_X10_plan at hw
  refine PW.ald0n C dX10_plan_0 ?_
  refine PW.iconst (v := 0) C dX10_plan_1 (by decide) ?_
  replace hw := hw _ rfl
  refine PW.put0 C cf_10 fl_X10_235 (by decide) oM_0 rfl rfl rfl (pw_sI oM_0 (by decide) rfl) dX10_plan_2 ?_
  refine PW.ald0n C dX10_plan_5 ?_
  refine PW.get0 (v := .ref 2) C cf_10 fl_X10_13 (by decide) oM_0 (fvR (o := 2) rfl) dX10_plan_6 ?_
  refine PW.bipush (v := 6) C dX10_plan_9 (by decide) ?_
  refine PW.iald C dX10_plan_11 aM_2 (vpl (by decide)) ?_
  refine PW.if_ne (tgt := 17) C dX10_plan_12 (by decide) (fun c => ?_) (fun c => ?_)
  · rw [if_neg c] at hw
    refine PW.ald0n C dX10_plan_17 ?_
    refine PW.callVV0 C ms_X10_layPlan ml_X10_614 dX10_plan_18 oM_0 ⟨_, _, rfl⟩ (Nat.le_of_ble_eq_true rfl) (by decide) (Nat.le_of_ble_eq_true rfl) (s_X10_layPlan hw) ?_
    clear hw
    intro h2 hw
    refine PW.ald0n C dX10_plan_21 ?_
    refine PW.get0 C cf_10 fl_X10_600 (by decide) oM_0 (fvI rfl) dX10_plan_22 ?_
    refine PW.iconst (v := (-1)) C dX10_plan_25 (by decide) ?_
    refine PW.icmp_ne (tgt := 34) C dX10_plan_26 (by decide) (fun c => ?_) (fun c => ?_)
    · rw [if_neg c] at hw
      refine PW.ald0n C dX10_plan_34 ?_
      refine PW.get0 C cf_10 fl_X10_600 (by decide) oM_0 (fvI rfl) dX10_plan_35 ?_
      exact PW.iret C dX10_plan_38 ⟨_, rfl, hw⟩
    · rw [if_pos c] at hw
      refine PW.bipush (v := (-2)) C dX10_plan_29 (by decide) ?_
      refine PW.goto (tgt := 38) C dX10_plan_31 (by decide) ?_
      exact PW.iret C dX10_plan_38 ⟨_, rfl, hw⟩
  · rw [if_pos c] at hw
    refine PW.iconst (v := (-1)) C dX10_plan_15 (by decide) ?_
    exact PW.iret C dX10_plan_16 ⟨_, rfl, hw⟩
def w_X10_planned (x1 : Int32) (x2 : Int32) (h : PH) (Q : Int32 → PH → Prop) : Prop :=
  ∀ h1, h1 = sI h 0 0 0 → if x1 < 0 then (Q (-1) h1) else (if x2 < 0 then (Q (-1) h1) else (if x2 ≤ 1 then (if x1 < (gI h1 2 (iN 6)) then (w_X10_layPlan h1 (fun h2 => if (gI h2 0 92) = (-1) then (Q (-2) h2) else (if x2 = 0 then (vp_in x1 4 ∧ Q (gI h2 64 (iN x1)) h2) else (vp_in x1 4 ∧ Q (gI h2 65 (iN x1)) h2)))) else (Q (-2) h1)) else (Q (-1) h1)))
set_option maxRecDepth 8000 in
theorem s_X10_planned {D : va_G} {ca : Nat → ClassId} {ad : Nat → Nat} {l : Launch} {x1 : Int32} {x2 : Int32} {h : PH} {Q : Int32 → PH → Prop} (hw : w_X10_planned x1 x2 h Q) : Sp (GM D ca ad) (XS (GM D ca ad)) l 32 yX10_planned cX10_planned 3 (some .int) [.ref 0, .int x1, .int x2] h (qI Q) := by
  refine Sp.of (own := RX10) [some (.ref 0), some (.int x1), some (.int x2)] (by decide +kernel) rfl rfl (Nat.le_of_ble_eq_true rfl) (fun K hl C => ?_)
  subst hl
  unfold w_X10_planned at hw
  refine PW.ald0n C dX10_planned_0 ?_
  refine PW.iconst (v := 0) C dX10_planned_1 (by decide) ?_
  replace hw := hw _ rfl
  refine PW.put0 C cf_10 fl_X10_235 (by decide) oM_0 rfl rfl rfl (pw_sI oM_0 (by decide) rfl) dX10_planned_2 ?_
  refine PW.ild1n C dX10_planned_5 ?_
  refine PW.if_lt (tgt := 18) C dX10_planned_6 (by decide) (fun c => ?_) (fun c => ?_)
  · rw [if_pos c] at hw
    refine PW.iconst (v := (-1)) C dX10_planned_18 (by decide) ?_
    exact PW.iret C dX10_planned_19 ⟨_, rfl, hw⟩
  · rw [if_neg c] at hw
    refine PW.ild2n C dX10_planned_9 ?_
    refine PW.if_lt (tgt := 18) C dX10_planned_10 (by decide) (fun c => ?_) (fun c => ?_)
    · rw [if_pos c] at hw
      refine PW.iconst (v := (-1)) C dX10_planned_18 (by decide) ?_
      exact PW.iret C dX10_planned_19 ⟨_, rfl, hw⟩
    · rw [if_neg c] at hw
      refine PW.ild2n C dX10_planned_13 ?_
      refine PW.iconst (v := 1) C dX10_planned_14 (by decide) ?_
      refine PW.icmp_le (tgt := 20) C dX10_planned_15 (by decide) (fun c => ?_) (fun c => ?_)
      · rw [if_pos c] at hw
        refine PW.ild1n C dX10_planned_20 ?_
        refine PW.ald0n C dX10_planned_21 ?_
        refine PW.get0 (v := .ref 2) C cf_10 fl_X10_13 (by decide) oM_0 (fvR (o := 2) rfl) dX10_planned_22 ?_
        refine PW.bipush (v := 6) C dX10_planned_25 (by decide) ?_
        refine PW.iald C dX10_planned_27 aM_2 (vpl (by decide)) ?_
        refine PW.icmp_lt (tgt := 34) C dX10_planned_28 (by decide) (fun c => ?_) (fun c => ?_)
        · rw [if_pos c] at hw
          refine PW.ald0n C dX10_planned_34 ?_
          refine PW.callVV0 C ms_X10_layPlan ml_X10_614 dX10_planned_35 oM_0 ⟨_, _, rfl⟩ (Nat.le_of_ble_eq_true rfl) (by decide) (Nat.le_of_ble_eq_true rfl) (s_X10_layPlan hw) ?_
          clear hw
          intro h2 hw
          refine PW.ald0n C dX10_planned_38 ?_
          refine PW.get0 C cf_10 fl_X10_600 (by decide) oM_0 (fvI rfl) dX10_planned_39 ?_
          refine PW.iconst (v := (-1)) C dX10_planned_42 (by decide) ?_
          refine PW.icmp_ne (tgt := 51) C dX10_planned_43 (by decide) (fun c => ?_) (fun c => ?_)
          · rw [if_neg c] at hw
            refine PW.ild2n C dX10_planned_51 ?_
            refine PW.if_ne (tgt := 64) C dX10_planned_52 (by decide) (fun c => ?_) (fun c => ?_)
            · rw [if_neg c] at hw
              refine PW.ald0n C dX10_planned_64 ?_
              refine PW.get0 (v := .ref 65) C cf_10 fl_X10_208 (by decide) oM_0 (fvR (o := 65) rfl) dX10_planned_65 ?_
              refine PW.ild1n C dX10_planned_68 ?_
              obtain ⟨hc3, hw⟩ := hw
              refine PW.iald C dX10_planned_69 aM_65 hc3 ?_
              exact PW.iret C dX10_planned_70 ⟨_, rfl, hw⟩
            · rw [if_pos c] at hw
              refine PW.ald0n C dX10_planned_55 ?_
              refine PW.get0 (v := .ref 64) C cf_10 fl_X10_205 (by decide) oM_0 (fvR (o := 64) rfl) dX10_planned_56 ?_
              refine PW.ild1n C dX10_planned_59 ?_
              obtain ⟨hc4, hw⟩ := hw
              refine PW.iald C dX10_planned_60 aM_64 hc4 ?_
              refine PW.goto (tgt := 70) C dX10_planned_61 (by decide) ?_
              exact PW.iret C dX10_planned_70 ⟨_, rfl, hw⟩
          · rw [if_pos c] at hw
            refine PW.bipush (v := (-2)) C dX10_planned_46 (by decide) ?_
            refine PW.goto (tgt := 70) C dX10_planned_48 (by decide) ?_
            exact PW.iret C dX10_planned_70 ⟨_, rfl, hw⟩
        · rw [if_neg c] at hw
          refine PW.bipush (v := (-2)) C dX10_planned_31 (by decide) ?_
          exact PW.iret C dX10_planned_33 ⟨_, rfl, hw⟩
      · rw [if_neg c] at hw
        refine PW.iconst (v := (-1)) C dX10_planned_18 (by decide) ?_
        exact PW.iret C dX10_planned_19 ⟨_, rfl, hw⟩
def w_X10_isHeardBy_14 (k36 : PH → Prop) (k44 : PH → Prop) (Q : Int32 → PH → Prop) (x1 : Int32) (x2 : Int32) (kb : Int32 → PH → Prop) (x4 : Int32) (h : PH) : Prop :=
  vp_in x1 264 ∧ if (gI h 38 (iN x1)) < x4 then (k44 h) else (w_X10_hears x1 x2 x4 h (fun z6 h5 => if z6 = 0 then (kb (x4 + 1) h5) else (k36 h5)))
set_option maxRecDepth 8000 in
theorem b_X10_isHeardBy_14 {D : va_G} {ca : Nat → ClassId} {ad : Nat → Nat} {K : Kt} {k36 : PH → Prop} {k44 : PH → Prop} {kb : Int32 → PH → Prop} {Q : Int32 → PH → Prop} {x1 : Int32} {x2 : Int32} {x4 : Int32} {h : PH} (C : CX (GM D ca ad) (XS (GM D ca ad)) cX10_isHeardBy RX10 5 (some .boolean) 6 K) (hk36 : ∀ (h : PH), k36 h → PW (GM D ca ad) K 5 (qI Q) h 36 [none, none, none, none, none] []) (hk44 : ∀ (h : PH), k44 h → PW (GM D ca ad) K 5 (qI Q) h 44 [none, none, none, none, none] []) (hkb : ∀ (x4 : Int32) (h : PH), kb x4 h → PW (GM D ca ad) K 5 (qI Q) h 14 [some (.ref 0), some (.int x1), some (.int x2), none, some (.int x4)] []) (hw : w_X10_isHeardBy_14 k36 k44 Q x1 x2 kb x4 h) : PW (GM D ca ad) K 5 (qI Q) h 14 [some (.ref 0), some (.int x1), some (.int x2), none, some (.int x4)] [] := by
  unfold w_X10_isHeardBy_14 at hw
  refine PW.ild4 C dX10_isHeardBy_14 ?_
  refine PW.ald0n C dX10_isHeardBy_16 ?_
  refine PW.get0 (v := .ref 38) C cf_10 fl_X10_126 (by decide) oM_0 (fvR (o := 38) rfl) dX10_isHeardBy_17 ?_
  refine PW.ild1n C dX10_isHeardBy_20 ?_
  obtain ⟨hc4, hw⟩ := hw
  refine PW.iald C dX10_isHeardBy_21 aM_38 hc4 ?_
  refine PW.icmp_gt (tgt := 44) C dX10_isHeardBy_22 (by decide) (fun c => ?_) (fun c => ?_)
  · rw [if_pos c] at hw
    exact PW.wk (wk_n (wk_n (wk_n (wk_n (wk_n wk_0))))) (hk44 _ hw)
  · rw [if_neg c] at hw
    refine PW.ald0n C dX10_isHeardBy_25 ?_
    refine PW.ild1n C dX10_isHeardBy_26 ?_
    refine PW.ild2n C dX10_isHeardBy_27 ?_
    refine PW.ild4 C dX10_isHeardBy_28 ?_
    refine PW.callVI3 C ms_X10_hears ml_X10_480 dX10_isHeardBy_30 oM_0 ⟨_, _, rfl⟩ (Nat.le_of_ble_eq_true rfl) (by decide) (Nat.le_of_ble_eq_true rfl) (s_X10_hears hw) ?_
    clear hw
    intro z6 h5 hw
    refine PW.if_eq (tgt := 38) C dX10_isHeardBy_33 (by decide) (fun c => ?_) (fun c => ?_)
    · rw [if_pos c] at hw
      refine PW.inc4 (v := 1) C dX10_isHeardBy_38 (by decide) rfl (by decide) ?_
      refine PW.goto (tgt := 14) C dX10_isHeardBy_41 (by decide) ?_
      exact PW.wk (wk_s (wk_s (wk_s (wk_n (wk_s wk_0))))) (hkb _ _ hw)
    · rw [if_neg c] at hw
      exact PW.wk (wk_n (wk_n (wk_n (wk_n (wk_n wk_0))))) (hk36 _ hw)
theorem l_X10_isHeardBy_14 {D : va_G} {ca : Nat → ClassId} {ad : Nat → Nat} {K : Kt} {k36 : PH → Prop} {k44 : PH → Prop} {Q : Int32 → PH → Prop} {x1 : Int32} {x2 : Int32} (C : CX (GM D ca ad) (XS (GM D ca ad)) cX10_isHeardBy RX10 5 (some .boolean) 6 K) (hk36 : ∀ (h : PH), k36 h → PW (GM D ca ad) K 5 (qI Q) h 36 [none, none, none, none, none] []) (hk44 : ∀ (h : PH), k44 h → PW (GM D ca ad) K 5 (qI Q) h 44 [none, none, none, none, none] []) : ∀ (n : Nat) (x4 : Int32) (h : PH), Lp1 (w_X10_isHeardBy_14 k36 k44 Q x1 x2) n x4 h → PW (GM D ca ad) K 5 (qI Q) h 14 [some (.ref 0), some (.int x1), some (.int x2), none, some (.int x4)] [] := by
  intro n
  induction n with
  | zero => intro x4 h hw; exact hw.elim
  | succ n ih => intro x4 h hw; exact b_X10_isHeardBy_14 C hk36 hk44 (fun x4 h hw => ih x4 h hw) hw
def w_X10_isHeardBy (x1 : Int32) (x2 : Int32) (x3 : Int32) (h : PH) (Q : Int32 → PH → Prop) : Prop :=
  w_X10_layFar x3 (-1) h (fun h1 => vp_in x1 264 ∧ ∀ (y3 : Int32), y3 = (gI h1 37 (iN x1)) → ∃ n, Lp1 (w_X10_isHeardBy_14 (fun h7 => Q 1 h7) (fun h8 => Q 0 h8) Q x1 x2) n y3 h1)
set_option maxRecDepth 8000 in
theorem s_X10_isHeardBy {D : va_G} {ca : Nat → ClassId} {ad : Nat → Nat} {l : Launch} {x1 : Int32} {x2 : Int32} {x3 : Int32} {h : PH} {Q : Int32 → PH → Prop} (hw : w_X10_isHeardBy x1 x2 x3 h Q) : Sp (GM D ca ad) (XS (GM D ca ad)) l 6 yX10_isHeardBy cX10_isHeardBy 5 (some .boolean) [.ref 0, .int x1, .int x2, .int x3] h (qI Q) := by
  refine Sp.of (own := RX10) [some (.ref 0), some (.int x1), some (.int x2), some (.int x3), none] (by decide +kernel) rfl rfl (Nat.le_of_ble_eq_true rfl) (fun K hl C => ?_)
  subst hl
  unfold w_X10_isHeardBy at hw
  refine PW.ald0n C dX10_isHeardBy_0 ?_
  refine PW.ild3n C dX10_isHeardBy_1 ?_
  refine PW.iconst (v := (-1)) C dX10_isHeardBy_2 (by decide) ?_
  refine PW.callVV2 C ms_X10_layFar ml_X10_496 dX10_isHeardBy_3 oM_0 ⟨_, _, rfl⟩ (Nat.le_of_ble_eq_true rfl) (by decide) (Nat.le_of_ble_eq_true rfl) (s_X10_layFar hw) ?_
  clear hw
  intro h1 hw
  refine PW.ald0n C dX10_isHeardBy_6 ?_
  refine PW.get0 (v := .ref 37) C cf_10 fl_X10_123 (by decide) oM_0 (fvR (o := 37) rfl) dX10_isHeardBy_7 ?_
  refine PW.ild1n C dX10_isHeardBy_10 ?_
  obtain ⟨hc2, hw⟩ := hw
  refine PW.iald C dX10_isHeardBy_11 aM_37 hc2 ?_
  replace hw := hw _ rfl
  refine PW.ist4 C dX10_isHeardBy_12 (by decide) rfl ?_
  obtain ⟨n, hw⟩ := hw
  refine PW.wk (wk_s (wk_s (wk_s (wk_n (wk_s wk_0))))) (l_X10_isHeardBy_14 C ?_ ?_ n _ _ hw)
  · intro h7 hw
    refine PW.iconst (v := 1) C dX10_isHeardBy_36 (by decide) ?_
    exact PW.zret C dX10_isHeardBy_37 (by decide) ⟨_, rfl, hw⟩
  · intro h8 hw
    refine PW.iconst (v := 0) C dX10_isHeardBy_44 (by decide) ?_
    exact PW.zret C dX10_isHeardBy_45 (by decide) ⟨_, rfl, hw⟩
def w_X10_walls_77 (Q : Int32 → PH → Prop) (kb : Int32 → Int32 → PH → Prop) (x1 : Int32) (x2 : Int32) (x3 : Int32) (x4 : Int32) (h : PH) : Prop :=
  w_X10_isHeardBy x1 x2 ((gI h 42 (iN 0)) ||| x4) h (fun z8 h7 => if z8 = 0 then (kb x4 (x4 + 1) h7) else (kb x3 (x4 + 1) h7))
set_option maxRecDepth 8000 in
theorem b_X10_walls_77 {D : va_G} {ca : Nat → ClassId} {ad : Nat → Nat} {K : Kt} {kb : Int32 → Int32 → PH → Prop} {Q : Int32 → PH → Prop} {x1 : Int32} {x2 : Int32} {x3 : Int32} {x4 : Int32} {h : PH} (C : CX (GM D ca ad) (XS (GM D ca ad)) cX10_walls RX10 5 (some .int) 7 K) (hkb : ∀ (x3 : Int32) (x4 : Int32) (h : PH), kb x3 x4 h → PW (GM D ca ad) K 5 (qI Q) h 33 [some (.ref 0), some (.int x1), some (.int x2), some (.int x3), some (.int x4)] []) (hw : w_X10_walls_77 Q kb x1 x2 x3 x4 h) : PW (GM D ca ad) K 5 (qI Q) h 77 [some (.ref 0), some (.int x1), some (.int x2), some (.int x3), some (.int x4)] [] := by
  unfold w_X10_walls_77 at hw
  refine PW.ald0n C dX10_walls_77 ?_
  refine PW.ild1n C dX10_walls_78 ?_
  refine PW.ild2n C dX10_walls_79 ?_
  refine PW.ald0n C dX10_walls_80 ?_
  refine PW.get0 (v := .ref 42) C cf_10 fl_X10_138 (by decide) oM_0 (fvR (o := 42) rfl) dX10_walls_81 ?_
  refine PW.iconst (v := 0) C dX10_walls_84 (by decide) ?_
  refine PW.iald C dX10_walls_85 aM_42 (vpl (by decide)) ?_
  refine PW.ild4 C dX10_walls_86 ?_
  refine PW.ior C dX10_walls_88 ?_
  refine PW.callVI3 C ms_X10_isHeardBy ml_X10_617 dX10_walls_89 oM_0 ⟨_, _, rfl⟩ (Nat.le_of_ble_eq_true rfl) (by decide) (Nat.le_of_ble_eq_true rfl) (s_X10_isHeardBy hw) ?_
  clear hw
  intro z8 h7 hw
  refine PW.if_ne (tgt := 98) C dX10_walls_92 (by decide) (fun c => ?_) (fun c => ?_)
  · rw [if_neg c] at hw
    refine PW.inc4 (v := 1) C dX10_walls_98 (by decide) rfl (by decide) ?_
    refine PW.goto (tgt := 33) C dX10_walls_101 (by decide) ?_
    exact PW.wk (wk_s (wk_s (wk_s (wk_s (wk_s wk_0))))) (hkb _ _ _ hw)
  · rw [if_pos c] at hw
    refine PW.ild4 C dX10_walls_95 ?_
    refine PW.ist3n C dX10_walls_97 (by decide) rfl ?_
    refine PW.inc4 (v := 1) C dX10_walls_98 (by decide) rfl (by decide) ?_
    refine PW.goto (tgt := 33) C dX10_walls_101 (by decide) ?_
    exact PW.wk (wk_s (wk_s (wk_s (wk_s (wk_s wk_0))))) (hkb _ _ _ hw)
def w_X10_walls_33 (k104 : Int32 → PH → Prop) (Q : Int32 → PH → Prop) (x1 : Int32) (x2 : Int32) (kb : Int32 → Int32 → PH → Prop) (x3 : Int32) (x4 : Int32) (h : PH) : Prop :=
  if ((1 : Int32) <<< (((gI h 2 (iN 1)) : Int32) &&& 31)) ≤ x4 then (k104 x3 h) else (if (x4 &&& (gI h 42 (iN 0))) = 0 then (if x3 < 0 then (w_X10_walls_77 Q kb x1 x2 x3 x4 h) else (w_X10_bitsOf x4 h (fun z10 h9 => w_X10_bitsOf x3 h9 (fun z12 h11 => if z10 < z12 then (w_X10_walls_77 Q kb x1 x2 x3 x4 h11) else (kb x3 (x4 + 1) h11))))) else (kb x3 (x4 + 1) h))
set_option maxRecDepth 8000 in
theorem b_X10_walls_33 {D : va_G} {ca : Nat → ClassId} {ad : Nat → Nat} {K : Kt} {k104 : Int32 → PH → Prop} {kb : Int32 → Int32 → PH → Prop} {Q : Int32 → PH → Prop} {x1 : Int32} {x2 : Int32} {x3 : Int32} {x4 : Int32} {h : PH} (C : CX (GM D ca ad) (XS (GM D ca ad)) cX10_walls RX10 5 (some .int) 7 K) (hk104 : ∀ (x3 : Int32) (h : PH), k104 x3 h → PW (GM D ca ad) K 5 (qI Q) h 104 [none, none, none, some (.int x3), none] []) (hkb : ∀ (x3 : Int32) (x4 : Int32) (h : PH), kb x3 x4 h → PW (GM D ca ad) K 5 (qI Q) h 33 [some (.ref 0), some (.int x1), some (.int x2), some (.int x3), some (.int x4)] []) (hw : w_X10_walls_33 k104 Q x1 x2 kb x3 x4 h) : PW (GM D ca ad) K 5 (qI Q) h 33 [some (.ref 0), some (.int x1), some (.int x2), some (.int x3), some (.int x4)] [] := by
  unfold w_X10_walls_33 at hw
  refine PW.ild4 C dX10_walls_33 ?_
  refine PW.iconst (v := 1) C dX10_walls_35 (by decide) ?_
  refine PW.ald0n C dX10_walls_36 ?_
  refine PW.get0 (v := .ref 2) C cf_10 fl_X10_13 (by decide) oM_0 (fvR (o := 2) rfl) dX10_walls_37 ?_
  refine PW.iconst (v := 1) C dX10_walls_40 (by decide) ?_
  refine PW.iald C dX10_walls_41 aM_2 (vpl (by decide)) ?_
  refine PW.ishl C dX10_walls_42 ?_
  refine PW.icmp_ge (tgt := 104) C dX10_walls_43 (by decide) (fun c => ?_) (fun c => ?_)
  · rw [if_pos c] at hw
    exact PW.wk (wk_n (wk_n (wk_n (wk_s (wk_n wk_0))))) (hk104 _ _ hw)
  · rw [if_neg c] at hw
    refine PW.ild4 C dX10_walls_46 ?_
    refine PW.ald0n C dX10_walls_48 ?_
    refine PW.get0 (v := .ref 42) C cf_10 fl_X10_138 (by decide) oM_0 (fvR (o := 42) rfl) dX10_walls_49 ?_
    refine PW.iconst (v := 0) C dX10_walls_52 (by decide) ?_
    refine PW.iald C dX10_walls_53 aM_42 (vpl (by decide)) ?_
    refine PW.iand C dX10_walls_54 ?_
    refine PW.if_ne (tgt := 98) C dX10_walls_55 (by decide) (fun c => ?_) (fun c => ?_)
    · rw [if_neg c] at hw
      refine PW.inc4 (v := 1) C dX10_walls_98 (by decide) rfl (by decide) ?_
      refine PW.goto (tgt := 33) C dX10_walls_101 (by decide) ?_
      exact PW.wk (wk_s (wk_s (wk_s (wk_s (wk_s wk_0))))) (hkb _ _ _ hw)
    · rw [if_pos c] at hw
      refine PW.ild3n C dX10_walls_58 ?_
      refine PW.if_lt (tgt := 77) C dX10_walls_59 (by decide) (fun c => ?_) (fun c => ?_)
      · rw [if_pos c] at hw
        exact PW.wk (wk_s (wk_s (wk_s (wk_s (wk_s wk_0))))) (b_X10_walls_77 C hkb hw)
      · rw [if_neg c] at hw
        refine PW.ild4 C dX10_walls_62 ?_
        refine PW.callSI1 C ms_X10_bitsOf ml_X10_566 dX10_walls_64 (Nat.le_of_ble_eq_true rfl) (by decide) (Nat.le_of_ble_eq_true rfl) (s_X10_bitsOf hw) ?_
        clear hw
        intro z10 h9 hw
        refine PW.ild3n C dX10_walls_67 ?_
        refine PW.callSI1 C ms_X10_bitsOf ml_X10_566 dX10_walls_68 (Nat.le_of_ble_eq_true rfl) (by decide) (Nat.le_of_ble_eq_true rfl) (s_X10_bitsOf hw) ?_
        clear hw
        intro z12 h11 hw
        refine PW.icmp_lt (tgt := 77) C dX10_walls_71 (by decide) (fun c => ?_) (fun c => ?_)
        · rw [if_pos c] at hw
          exact PW.wk (wk_s (wk_s (wk_s (wk_s (wk_s wk_0))))) (b_X10_walls_77 C hkb hw)
        · rw [if_neg c] at hw
          refine PW.goto (tgt := 98) C dX10_walls_74 (by decide) ?_
          refine PW.inc4 (v := 1) C dX10_walls_98 (by decide) rfl (by decide) ?_
          refine PW.goto (tgt := 33) C dX10_walls_101 (by decide) ?_
          exact PW.wk (wk_s (wk_s (wk_s (wk_s (wk_s wk_0))))) (hkb _ _ _ hw)
theorem l_X10_walls_33 {D : va_G} {ca : Nat → ClassId} {ad : Nat → Nat} {K : Kt} {k104 : Int32 → PH → Prop} {Q : Int32 → PH → Prop} {x1 : Int32} {x2 : Int32} (C : CX (GM D ca ad) (XS (GM D ca ad)) cX10_walls RX10 5 (some .int) 7 K) (hk104 : ∀ (x3 : Int32) (h : PH), k104 x3 h → PW (GM D ca ad) K 5 (qI Q) h 104 [none, none, none, some (.int x3), none] []) : ∀ (n : Nat) (x3 : Int32) (x4 : Int32) (h : PH), Lp2 (w_X10_walls_33 k104 Q x1 x2) n x3 x4 h → PW (GM D ca ad) K 5 (qI Q) h 33 [some (.ref 0), some (.int x1), some (.int x2), some (.int x3), some (.int x4)] [] := by
  intro n
  induction n with
  | zero => intro x3 x4 h hw; exact hw.elim
  | succ n ih => intro x3 x4 h hw; exact b_X10_walls_33 C hk104 (fun x3 x4 h hw => ih x3 x4 h hw) hw
def w_X10_walls (x1 : Int32) (x2 : Int32) (h : PH) (Q : Int32 → PH → Prop) : Prop :=
  ∀ h1, h1 = sI h 0 0 0 → w_X10_isNoise x1 h1 (fun z3 h2 => if z3 = 0 then (Q (-1) h2) else (w_X10_isPlace x2 h2 (fun z5 h4 => if z5 = 0 then (Q (-1) h4) else (w_X10_layNoises h4 (fun h6 => ∃ n, Lp2 (w_X10_walls_33 (fun y14 h13 => Q y14 h13) Q x1 x2) n (-2) 0 h6)))))
set_option maxRecDepth 8000 in
theorem s_X10_walls {D : va_G} {ca : Nat → ClassId} {ad : Nat → Nat} {l : Launch} {x1 : Int32} {x2 : Int32} {h : PH} {Q : Int32 → PH → Prop} (hw : w_X10_walls x1 x2 h Q) : Sp (GM D ca ad) (XS (GM D ca ad)) l 7 yX10_walls cX10_walls 5 (some .int) [.ref 0, .int x1, .int x2] h (qI Q) := by
  refine Sp.of (own := RX10) [some (.ref 0), some (.int x1), some (.int x2), none, none] (by decide +kernel) rfl rfl (Nat.le_of_ble_eq_true rfl) (fun K hl C => ?_)
  subst hl
  unfold w_X10_walls at hw
  refine PW.ald0n C dX10_walls_0 ?_
  refine PW.iconst (v := 0) C dX10_walls_1 (by decide) ?_
  replace hw := hw _ rfl
  refine PW.put0 C cf_10 fl_X10_235 (by decide) oM_0 rfl rfl rfl (pw_sI oM_0 (by decide) rfl) dX10_walls_2 ?_
  refine PW.ald0n C dX10_walls_5 ?_
  refine PW.ild1n C dX10_walls_6 ?_
  refine PW.callVI1 C ms_X10_isNoise ml_X10_521 dX10_walls_7 oM_0 ⟨_, _, rfl⟩ (Nat.le_of_ble_eq_true rfl) (by decide) (Nat.le_of_ble_eq_true rfl) (s_X10_isNoise hw) ?_
  clear hw
  intro z3 h2 hw
  refine PW.if_eq (tgt := 21) C dX10_walls_10 (by decide) (fun c => ?_) (fun c => ?_)
  · rw [if_pos c] at hw
    refine PW.iconst (v := (-1)) C dX10_walls_21 (by decide) ?_
    exact PW.iret C dX10_walls_22 ⟨_, rfl, hw⟩
  · rw [if_neg c] at hw
    refine PW.ald0n C dX10_walls_13 ?_
    refine PW.ild2n C dX10_walls_14 ?_
    refine PW.callVI1 C ms_X10_isPlace ml_X10_527 dX10_walls_15 oM_0 ⟨_, _, rfl⟩ (Nat.le_of_ble_eq_true rfl) (by decide) (Nat.le_of_ble_eq_true rfl) (s_X10_isPlace hw) ?_
    clear hw
    intro z5 h4 hw
    refine PW.if_ne (tgt := 23) C dX10_walls_18 (by decide) (fun c => ?_) (fun c => ?_)
    · rw [if_neg c] at hw
      refine PW.ald0n C dX10_walls_23 ?_
      refine PW.callVV0 C ms_X10_layNoises ml_X10_493 dX10_walls_24 oM_0 ⟨_, _, rfl⟩ (Nat.le_of_ble_eq_true rfl) (by decide) (Nat.le_of_ble_eq_true rfl) (s_X10_layNoises hw) ?_
      clear hw
      intro h6 hw
      refine PW.bipush (v := (-2)) C dX10_walls_27 (by decide) ?_
      refine PW.ist3n C dX10_walls_29 (by decide) rfl ?_
      refine PW.iconst (v := 0) C dX10_walls_30 (by decide) ?_
      refine PW.ist4 C dX10_walls_31 (by decide) rfl ?_
      obtain ⟨n, hw⟩ := hw
      refine PW.wk (wk_s (wk_s (wk_s (wk_s (wk_s wk_0))))) (l_X10_walls_33 C ?_ n _ _ _ hw)
      · intro y14 h13 hw
        refine PW.ild3n C dX10_walls_104 ?_
        exact PW.iret C dX10_walls_105 ⟨_, rfl, hw⟩
    · rw [if_pos c] at hw
      refine PW.iconst (v := (-1)) C dX10_walls_21 (by decide) ?_
      exact PW.iret C dX10_walls_22 ⟨_, rfl, hw⟩
def w_X10_barksNext_38 (k92 : Int32 → PH → Prop) (Q : Int32 → PH → Prop) (x1 : Int32) (x3 : Int32) (kb : Int32 → Int32 → PH → Prop) (x2 : Int32) (x4 : Int32) (h : PH) : Prop :=
  if (gI h 2 (iN 0)) ≤ x4 then (k92 x2 h) else (if (((x1 : Int32) >>> ((x4 : Int32) &&& 31)) &&& 1) = 1 then (vp_in ((6 * x3) + x4) 36 ∧ vp_in x3 12 ∧ if (gI h 27 (iN x3)) < (gI h 50 (iN ((6 * x3) + x4))) then (kb x2 (x4 + 1) h) else (∀ (y4 : Int32), y4 = (x2 ||| ((1 : Int32) <<< ((x3 : Int32) &&& 31))) → kb y4 (x4 + 1) h)) else (kb x2 (x4 + 1) h))
set_option maxRecDepth 8000 in
theorem b_X10_barksNext_38 {D : va_G} {ca : Nat → ClassId} {ad : Nat → Nat} {K : Kt} {k92 : Int32 → PH → Prop} {kb : Int32 → Int32 → PH → Prop} {Q : Int32 → PH → Prop} {x1 : Int32} {x3 : Int32} {x2 : Int32} {x4 : Int32} {h : PH} (C : CX (GM D ca ad) (XS (GM D ca ad)) cX10_barksNext RX10 5 (some .int) 1 K) (hk92 : ∀ (x2 : Int32) (h : PH), k92 x2 h → PW (GM D ca ad) K 5 (qI Q) h 92 [some (.ref 0), some (.int x1), some (.int x2), some (.int x3), none] []) (hkb : ∀ (x2 : Int32) (x4 : Int32) (h : PH), kb x2 x4 h → PW (GM D ca ad) K 5 (qI Q) h 38 [some (.ref 0), some (.int x1), some (.int x2), some (.int x3), some (.int x4)] []) (hw : w_X10_barksNext_38 k92 Q x1 x3 kb x2 x4 h) : PW (GM D ca ad) K 5 (qI Q) h 38 [some (.ref 0), some (.int x1), some (.int x2), some (.int x3), some (.int x4)] [] := by
  unfold w_X10_barksNext_38 at hw
  refine PW.ild4 C dX10_barksNext_38 ?_
  refine PW.ald0n C dX10_barksNext_40 ?_
  refine PW.get0 (v := .ref 2) C cf_10 fl_X10_13 (by decide) oM_0 (fvR (o := 2) rfl) dX10_barksNext_41 ?_
  refine PW.iconst (v := 0) C dX10_barksNext_44 (by decide) ?_
  refine PW.iald C dX10_barksNext_45 aM_2 (vpl (by decide)) ?_
  refine PW.icmp_ge (tgt := 92) C dX10_barksNext_46 (by decide) (fun c => ?_) (fun c => ?_)
  · rw [if_pos c] at hw
    exact PW.wk (wk_s (wk_s (wk_s (wk_s (wk_n wk_0))))) (hk92 _ _ hw)
  · rw [if_neg c] at hw
    refine PW.ild1n C dX10_barksNext_49 ?_
    refine PW.ild4 C dX10_barksNext_50 ?_
    refine PW.ishr C dX10_barksNext_52 ?_
    refine PW.iconst (v := 1) C dX10_barksNext_53 (by decide) ?_
    refine PW.iand C dX10_barksNext_54 ?_
    refine PW.iconst (v := 1) C dX10_barksNext_55 (by decide) ?_
    refine PW.icmp_ne (tgt := 86) C dX10_barksNext_56 (by decide) (fun c => ?_) (fun c => ?_)
    · rw [if_neg c] at hw
      refine PW.inc4 (v := 1) C dX10_barksNext_86 (by decide) rfl (by decide) ?_
      refine PW.goto (tgt := 38) C dX10_barksNext_89 (by decide) ?_
      exact PW.wk (wk_s (wk_s (wk_s (wk_s (wk_s wk_0))))) (hkb _ _ _ hw)
    · rw [if_pos c] at hw
      refine PW.ald0n C dX10_barksNext_59 ?_
      refine PW.get0 (v := .ref 50) C cf_10 fl_X10_162 (by decide) oM_0 (fvR (o := 50) rfl) dX10_barksNext_60 ?_
      refine PW.bipush (v := 6) C dX10_barksNext_63 (by decide) ?_
      refine PW.ild3n C dX10_barksNext_65 ?_
      refine PW.imul C dX10_barksNext_66 ?_
      refine PW.ild4 C dX10_barksNext_67 ?_
      refine PW.iadd C dX10_barksNext_69 ?_
      obtain ⟨hc2, hw⟩ := hw
      refine PW.iald C dX10_barksNext_70 aM_50 hc2 ?_
      refine PW.ald0n C dX10_barksNext_71 ?_
      refine PW.get0 (v := .ref 27) C cf_10 fl_X10_88 (by decide) oM_0 (fvR (o := 27) rfl) dX10_barksNext_72 ?_
      refine PW.ild3n C dX10_barksNext_75 ?_
      obtain ⟨hc3, hw⟩ := hw
      refine PW.iald C dX10_barksNext_76 aM_27 hc3 ?_
      refine PW.icmp_gt (tgt := 86) C dX10_barksNext_77 (by decide) (fun c => ?_) (fun c => ?_)
      · rw [if_pos c] at hw
        refine PW.inc4 (v := 1) C dX10_barksNext_86 (by decide) rfl (by decide) ?_
        refine PW.goto (tgt := 38) C dX10_barksNext_89 (by decide) ?_
        exact PW.wk (wk_s (wk_s (wk_s (wk_s (wk_s wk_0))))) (hkb _ _ _ hw)
      · rw [if_neg c] at hw
        refine PW.ild2n C dX10_barksNext_80 ?_
        refine PW.iconst (v := 1) C dX10_barksNext_81 (by decide) ?_
        refine PW.ild3n C dX10_barksNext_82 ?_
        refine PW.ishl C dX10_barksNext_83 ?_
        refine PW.ior C dX10_barksNext_84 ?_
        replace hw := hw _ rfl
        refine PW.ist2n C dX10_barksNext_85 (by decide) rfl ?_
        refine PW.inc4 (v := 1) C dX10_barksNext_86 (by decide) rfl (by decide) ?_
        refine PW.goto (tgt := 38) C dX10_barksNext_89 (by decide) ?_
        exact PW.wk (wk_s (wk_s (wk_s (wk_s (wk_s wk_0))))) (hkb _ _ _ hw)
theorem l_X10_barksNext_38 {D : va_G} {ca : Nat → ClassId} {ad : Nat → Nat} {K : Kt} {k92 : Int32 → PH → Prop} {Q : Int32 → PH → Prop} {x1 : Int32} {x3 : Int32} (C : CX (GM D ca ad) (XS (GM D ca ad)) cX10_barksNext RX10 5 (some .int) 1 K) (hk92 : ∀ (x2 : Int32) (h : PH), k92 x2 h → PW (GM D ca ad) K 5 (qI Q) h 92 [some (.ref 0), some (.int x1), some (.int x2), some (.int x3), none] []) : ∀ (n : Nat) (x2 : Int32) (x4 : Int32) (h : PH), Lp2 (w_X10_barksNext_38 k92 Q x1 x3) n x2 x4 h → PW (GM D ca ad) K 5 (qI Q) h 38 [some (.ref 0), some (.int x1), some (.int x2), some (.int x3), some (.int x4)] [] := by
  intro n
  induction n with
  | zero => intro x2 x4 h hw; exact hw.elim
  | succ n ih => intro x2 x4 h hw; exact b_X10_barksNext_38 C hk92 (fun x2 x4 h hw => ih x2 x4 h hw) hw
def w_X10_barksNext_4 (k98 : Int32 → PH → Prop) (Q : Int32 → PH → Prop) (x1 : Int32) (kb : Int32 → Int32 → PH → Prop) (x2 : Int32) (x3 : Int32) (h : PH) : Prop :=
  if (gI h 2 (iN 0)) ≤ x3 then (k98 x2 h) else (vp_in x3 12 ∧ if (gI h 27 (iN x3)) = 0 then (kb x2 (x3 + 1) h) else (if (((x1 : Int32) >>> ((x3 : Int32) &&& 31)) &&& 1) = 1 then (kb x2 (x3 + 1) h) else (∃ n, Lp2 (w_X10_barksNext_38 (fun y6 h5 => kb y6 (x3 + 1) h5) Q x1 x3) n x2 0 h)))
set_option maxRecDepth 8000 in
theorem b_X10_barksNext_4 {D : va_G} {ca : Nat → ClassId} {ad : Nat → Nat} {K : Kt} {k98 : Int32 → PH → Prop} {kb : Int32 → Int32 → PH → Prop} {Q : Int32 → PH → Prop} {x1 : Int32} {x2 : Int32} {x3 : Int32} {h : PH} (C : CX (GM D ca ad) (XS (GM D ca ad)) cX10_barksNext RX10 5 (some .int) 1 K) (hk98 : ∀ (x2 : Int32) (h : PH), k98 x2 h → PW (GM D ca ad) K 5 (qI Q) h 98 [none, none, some (.int x2), none, none] []) (hkb : ∀ (x2 : Int32) (x3 : Int32) (h : PH), kb x2 x3 h → PW (GM D ca ad) K 5 (qI Q) h 4 [some (.ref 0), some (.int x1), some (.int x2), some (.int x3), none] []) (hw : w_X10_barksNext_4 k98 Q x1 kb x2 x3 h) : PW (GM D ca ad) K 5 (qI Q) h 4 [some (.ref 0), some (.int x1), some (.int x2), some (.int x3), none] [] := by
  unfold w_X10_barksNext_4 at hw
  refine PW.ild3n C dX10_barksNext_4 ?_
  refine PW.ald0n C dX10_barksNext_5 ?_
  refine PW.get0 (v := .ref 2) C cf_10 fl_X10_13 (by decide) oM_0 (fvR (o := 2) rfl) dX10_barksNext_6 ?_
  refine PW.iconst (v := 0) C dX10_barksNext_9 (by decide) ?_
  refine PW.iald C dX10_barksNext_10 aM_2 (vpl (by decide)) ?_
  refine PW.icmp_ge (tgt := 98) C dX10_barksNext_11 (by decide) (fun c => ?_) (fun c => ?_)
  · rw [if_pos c] at hw
    exact PW.wk (wk_n (wk_n (wk_s (wk_n (wk_n wk_0))))) (hk98 _ _ hw)
  · rw [if_neg c] at hw
    refine PW.ald0n C dX10_barksNext_14 ?_
    refine PW.get0 (v := .ref 27) C cf_10 fl_X10_88 (by decide) oM_0 (fvR (o := 27) rfl) dX10_barksNext_15 ?_
    refine PW.ild3n C dX10_barksNext_18 ?_
    obtain ⟨hc1, hw⟩ := hw
    refine PW.iald C dX10_barksNext_19 aM_27 hc1 ?_
    refine PW.if_eq (tgt := 92) C dX10_barksNext_20 (by decide) (fun c => ?_) (fun c => ?_)
    · rw [if_pos c] at hw
      refine PW.inc3 (v := 1) C dX10_barksNext_92 (by decide) rfl (by decide) ?_
      refine PW.goto (tgt := 4) C dX10_barksNext_95 (by decide) ?_
      exact PW.wk (wk_s (wk_s (wk_s (wk_s (wk_n wk_0))))) (hkb _ _ _ hw)
    · rw [if_neg c] at hw
      refine PW.ild1n C dX10_barksNext_23 ?_
      refine PW.ild3n C dX10_barksNext_24 ?_
      refine PW.ishr C dX10_barksNext_25 ?_
      refine PW.iconst (v := 1) C dX10_barksNext_26 (by decide) ?_
      refine PW.iand C dX10_barksNext_27 ?_
      refine PW.iconst (v := 1) C dX10_barksNext_28 (by decide) ?_
      refine PW.icmp_ne (tgt := 35) C dX10_barksNext_29 (by decide) (fun c => ?_) (fun c => ?_)
      · rw [if_neg c] at hw
        refine PW.iconst (v := 0) C dX10_barksNext_35 (by decide) ?_
        refine PW.ist4 C dX10_barksNext_36 (by decide) rfl ?_
        obtain ⟨n, hw⟩ := hw
        refine PW.wk (wk_s (wk_s (wk_s (wk_s (wk_s wk_0))))) (l_X10_barksNext_38 C ?_ n _ _ _ hw)
        · intro y6 h5 hw
          refine PW.inc3 (v := 1) C dX10_barksNext_92 (by decide) rfl (by decide) ?_
          refine PW.goto (tgt := 4) C dX10_barksNext_95 (by decide) ?_
          exact PW.wk (wk_s (wk_s (wk_s (wk_s (wk_n wk_0))))) (hkb _ _ _ hw)
      · rw [if_pos c] at hw
        refine PW.goto (tgt := 92) C dX10_barksNext_32 (by decide) ?_
        refine PW.inc3 (v := 1) C dX10_barksNext_92 (by decide) rfl (by decide) ?_
        refine PW.goto (tgt := 4) C dX10_barksNext_95 (by decide) ?_
        exact PW.wk (wk_s (wk_s (wk_s (wk_s (wk_n wk_0))))) (hkb _ _ _ hw)
theorem l_X10_barksNext_4 {D : va_G} {ca : Nat → ClassId} {ad : Nat → Nat} {K : Kt} {k98 : Int32 → PH → Prop} {Q : Int32 → PH → Prop} {x1 : Int32} (C : CX (GM D ca ad) (XS (GM D ca ad)) cX10_barksNext RX10 5 (some .int) 1 K) (hk98 : ∀ (x2 : Int32) (h : PH), k98 x2 h → PW (GM D ca ad) K 5 (qI Q) h 98 [none, none, some (.int x2), none, none] []) : ∀ (n : Nat) (x2 : Int32) (x3 : Int32) (h : PH), Lp2 (w_X10_barksNext_4 k98 Q x1) n x2 x3 h → PW (GM D ca ad) K 5 (qI Q) h 4 [some (.ref 0), some (.int x1), some (.int x2), some (.int x3), none] [] := by
  intro n
  induction n with
  | zero => intro x2 x3 h hw; exact hw.elim
  | succ n ih => intro x2 x3 h hw; exact b_X10_barksNext_4 C hk98 (fun x2 x3 h hw => ih x2 x3 h hw) hw
def w_X10_barksNext (x1 : Int32) (h : PH) (Q : Int32 → PH → Prop) : Prop :=
  ∃ n, Lp2 (w_X10_barksNext_4 (fun y8 h7 => Q y8 h7) Q x1) n 0 0 h
set_option maxRecDepth 8000 in
theorem s_X10_barksNext {D : va_G} {ca : Nat → ClassId} {ad : Nat → Nat} {l : Launch} {x1 : Int32} {h : PH} {Q : Int32 → PH → Prop} (hw : w_X10_barksNext x1 h Q) : Sp (GM D ca ad) (XS (GM D ca ad)) l 1 yX10_barksNext cX10_barksNext 5 (some .int) [.ref 0, .int x1] h (qI Q) := by
  refine Sp.of (own := RX10) [some (.ref 0), some (.int x1), none, none, none] (by decide +kernel) rfl rfl (Nat.le_of_ble_eq_true rfl) (fun K hl C => ?_)
  subst hl
  unfold w_X10_barksNext at hw
  refine PW.iconst (v := 0) C dX10_barksNext_0 (by decide) ?_
  refine PW.ist2n C dX10_barksNext_1 (by decide) rfl ?_
  refine PW.iconst (v := 0) C dX10_barksNext_2 (by decide) ?_
  refine PW.ist3n C dX10_barksNext_3 (by decide) rfl ?_
  obtain ⟨n, hw⟩ := hw
  refine PW.wk (wk_s (wk_s (wk_s (wk_s (wk_n wk_0))))) (l_X10_barksNext_4 C ?_ n _ _ _ hw)
  · intro y8 h7 hw
    refine PW.ild2n C dX10_barksNext_98 ?_
    exact PW.iret C dX10_barksNext_99 ⟨_, rfl, hw⟩
def w_X10_bark_28 (k60 : PH → Prop) (k68 : PH → Prop) (Q : Int32 → PH → Prop) (x1 : Int32) (x2 : Int32) (kb : Int32 → PH → Prop) (x3 : Int32) (h : PH) : Prop :=
  if 6 ≤ x3 then (k68 h) else (if (((x1 : Int32) >>> ((x3 : Int32) &&& 31)) &&& 1) = 1 then (w_X10_isPlace x3 h (fun z3 h2 => if z3 = 0 then (k60 h2) else (vp_in x3 12 ∧ if (gI h2 27 (iN x3)) = 0 then (k60 h2) else (kb (x3 + 1) h2)))) else (kb (x3 + 1) h))
set_option maxRecDepth 8000 in
theorem b_X10_bark_28 {D : va_G} {ca : Nat → ClassId} {ad : Nat → Nat} {K : Kt} {k60 : PH → Prop} {k68 : PH → Prop} {kb : Int32 → PH → Prop} {Q : Int32 → PH → Prop} {x1 : Int32} {x2 : Int32} {x3 : Int32} {h : PH} (C : CX (GM D ca ad) (XS (GM D ca ad)) cX10_bark RX10 6 (some .int) 2 K) (hk60 : ∀ (h : PH), k60 h → PW (GM D ca ad) K 6 (qI Q) h 60 [none, none, none, none, none, none] []) (hk68 : ∀ (h : PH), k68 h → PW (GM D ca ad) K 6 (qI Q) h 68 [some (.ref 0), some (.int x1), some (.int x2), none, none, none] []) (hkb : ∀ (x3 : Int32) (h : PH), kb x3 h → PW (GM D ca ad) K 6 (qI Q) h 28 [some (.ref 0), some (.int x1), some (.int x2), some (.int x3), none, none] []) (hw : w_X10_bark_28 k60 k68 Q x1 x2 kb x3 h) : PW (GM D ca ad) K 6 (qI Q) h 28 [some (.ref 0), some (.int x1), some (.int x2), some (.int x3), none, none] [] := by
  unfold w_X10_bark_28 at hw
  refine PW.ild3n C dX10_bark_28 ?_
  refine PW.bipush (v := 6) C dX10_bark_29 (by decide) ?_
  refine PW.icmp_ge (tgt := 68) C dX10_bark_31 (by decide) (fun c => ?_) (fun c => ?_)
  · rw [if_pos c] at hw
    exact PW.wk (wk_s (wk_s (wk_s (wk_n (wk_n (wk_n wk_0)))))) (hk68 _ hw)
  · rw [if_neg c] at hw
    refine PW.ild1n C dX10_bark_34 ?_
    refine PW.ild3n C dX10_bark_35 ?_
    refine PW.ishr C dX10_bark_36 ?_
    refine PW.iconst (v := 1) C dX10_bark_37 (by decide) ?_
    refine PW.iand C dX10_bark_38 ?_
    refine PW.iconst (v := 1) C dX10_bark_39 (by decide) ?_
    refine PW.icmp_ne (tgt := 62) C dX10_bark_40 (by decide) (fun c => ?_) (fun c => ?_)
    · rw [if_neg c] at hw
      refine PW.inc3 (v := 1) C dX10_bark_62 (by decide) rfl (by decide) ?_
      refine PW.goto (tgt := 28) C dX10_bark_65 (by decide) ?_
      exact PW.wk (wk_s (wk_s (wk_s (wk_s (wk_n (wk_n wk_0)))))) (hkb _ _ hw)
    · rw [if_pos c] at hw
      refine PW.ald0n C dX10_bark_43 ?_
      refine PW.ild3n C dX10_bark_44 ?_
      refine PW.callVI1 C ms_X10_isPlace ml_X10_527 dX10_bark_45 oM_0 ⟨_, _, rfl⟩ (Nat.le_of_ble_eq_true rfl) (by decide) (Nat.le_of_ble_eq_true rfl) (s_X10_isPlace hw) ?_
      clear hw
      intro z3 h2 hw
      refine PW.if_eq (tgt := 60) C dX10_bark_48 (by decide) (fun c => ?_) (fun c => ?_)
      · rw [if_pos c] at hw
        exact PW.wk (wk_n (wk_n (wk_n (wk_n (wk_n (wk_n wk_0)))))) (hk60 _ hw)
      · rw [if_neg c] at hw
        refine PW.ald0n C dX10_bark_51 ?_
        refine PW.get0 (v := .ref 27) C cf_10 fl_X10_88 (by decide) oM_0 (fvR (o := 27) rfl) dX10_bark_52 ?_
        refine PW.ild3n C dX10_bark_55 ?_
        obtain ⟨hc4, hw⟩ := hw
        refine PW.iald C dX10_bark_56 aM_27 hc4 ?_
        refine PW.if_ne (tgt := 62) C dX10_bark_57 (by decide) (fun c => ?_) (fun c => ?_)
        · rw [if_neg c] at hw
          refine PW.inc3 (v := 1) C dX10_bark_62 (by decide) rfl (by decide) ?_
          refine PW.goto (tgt := 28) C dX10_bark_65 (by decide) ?_
          exact PW.wk (wk_s (wk_s (wk_s (wk_s (wk_n (wk_n wk_0)))))) (hkb _ _ hw)
        · rw [if_pos c] at hw
          exact PW.wk (wk_n (wk_n (wk_n (wk_n (wk_n (wk_n wk_0)))))) (hk60 _ hw)
theorem l_X10_bark_28 {D : va_G} {ca : Nat → ClassId} {ad : Nat → Nat} {K : Kt} {k60 : PH → Prop} {k68 : PH → Prop} {Q : Int32 → PH → Prop} {x1 : Int32} {x2 : Int32} (C : CX (GM D ca ad) (XS (GM D ca ad)) cX10_bark RX10 6 (some .int) 2 K) (hk60 : ∀ (h : PH), k60 h → PW (GM D ca ad) K 6 (qI Q) h 60 [none, none, none, none, none, none] []) (hk68 : ∀ (h : PH), k68 h → PW (GM D ca ad) K 6 (qI Q) h 68 [some (.ref 0), some (.int x1), some (.int x2), none, none, none] []) : ∀ (n : Nat) (x3 : Int32) (h : PH), Lp1 (w_X10_bark_28 k60 k68 Q x1 x2) n x3 h → PW (GM D ca ad) K 6 (qI Q) h 28 [some (.ref 0), some (.int x1), some (.int x2), some (.int x3), none, none] [] := by
  intro n
  induction n with
  | zero => intro x3 h hw; exact hw.elim
  | succ n ih => intro x3 h hw; exact b_X10_bark_28 C hk60 hk68 (fun x3 h hw => ih x3 h hw) hw
def w_X10_bark_81 (k100 : PH → Prop) (Q : Int32 → PH → Prop) (x1 : Int32) (x2 : Int32) (kb : Int32 → PH → Prop) (x3 : Int32) (h : PH) : Prop :=
  if 64 ≤ x3 then (k100 h) else (vp_in x3 64 ∧ ∀ h9, h9 = sI h 66 (iN x3) (-1) → kb (x3 + 1) h9)
set_option maxRecDepth 8000 in
theorem b_X10_bark_81 {D : va_G} {ca : Nat → ClassId} {ad : Nat → Nat} {K : Kt} {k100 : PH → Prop} {kb : Int32 → PH → Prop} {Q : Int32 → PH → Prop} {x1 : Int32} {x2 : Int32} {x3 : Int32} {h : PH} (C : CX (GM D ca ad) (XS (GM D ca ad)) cX10_bark RX10 6 (some .int) 2 K) (hk100 : ∀ (h : PH), k100 h → PW (GM D ca ad) K 6 (qI Q) h 100 [some (.ref 0), some (.int x1), some (.int x2), none, none, none] []) (hkb : ∀ (x3 : Int32) (h : PH), kb x3 h → PW (GM D ca ad) K 6 (qI Q) h 81 [some (.ref 0), some (.int x1), some (.int x2), some (.int x3), none, none] []) (hw : w_X10_bark_81 k100 Q x1 x2 kb x3 h) : PW (GM D ca ad) K 6 (qI Q) h 81 [some (.ref 0), some (.int x1), some (.int x2), some (.int x3), none, none] [] := by
  unfold w_X10_bark_81 at hw
  refine PW.ild3n C dX10_bark_81 ?_
  refine PW.bipush (v := 64) C dX10_bark_82 (by decide) ?_
  refine PW.icmp_ge (tgt := 100) C dX10_bark_84 (by decide) (fun c => ?_) (fun c => ?_)
  · rw [if_pos c] at hw
    exact PW.wk (wk_s (wk_s (wk_s (wk_n (wk_n (wk_n wk_0)))))) (hk100 _ hw)
  · rw [if_neg c] at hw
    refine PW.ald0n C dX10_bark_87 ?_
    refine PW.get0 (v := .ref 66) C cf_10 fl_X10_211 (by decide) oM_0 (fvR (o := 66) rfl) dX10_bark_88 ?_
    refine PW.ild3n C dX10_bark_91 ?_
    refine PW.iconst (v := (-1)) C dX10_bark_92 (by decide) ?_
    obtain ⟨hc8, hw⟩ := hw
    replace hw := hw _ rfl
    refine PW.iast C dX10_bark_93 aM_66 hc8 ?_
    refine PW.inc3 (v := 1) C dX10_bark_94 (by decide) rfl (by decide) ?_
    refine PW.goto (tgt := 81) C dX10_bark_97 (by decide) ?_
    exact PW.wk (wk_s (wk_s (wk_s (wk_s (wk_n (wk_n wk_0)))))) (hkb _ _ hw)
theorem l_X10_bark_81 {D : va_G} {ca : Nat → ClassId} {ad : Nat → Nat} {K : Kt} {k100 : PH → Prop} {Q : Int32 → PH → Prop} {x1 : Int32} {x2 : Int32} (C : CX (GM D ca ad) (XS (GM D ca ad)) cX10_bark RX10 6 (some .int) 2 K) (hk100 : ∀ (h : PH), k100 h → PW (GM D ca ad) K 6 (qI Q) h 100 [some (.ref 0), some (.int x1), some (.int x2), none, none, none] []) : ∀ (n : Nat) (x3 : Int32) (h : PH), Lp1 (w_X10_bark_81 k100 Q x1 x2) n x3 h → PW (GM D ca ad) K 6 (qI Q) h 81 [some (.ref 0), some (.int x1), some (.int x2), some (.int x3), none, none] [] := by
  intro n
  induction n with
  | zero => intro x3 h hw; exact hw.elim
  | succ n ih => intro x3 h hw; exact b_X10_bark_81 C hk100 (fun x3 h hw => ih x3 h hw) hw
def w_X10_bark_108 (k153 : Int32 → Int32 → Int32 → PH → Prop) (Q : Int32 → PH → Prop) (x2 : Int32) (kb : Int32 → Int32 → Int32 → PH → Prop) (x3 : Int32) (x4 : Int32) (x5 : Int32) (h : PH) : Prop :=
  if x3 = 0 then (k153 x3 x4 x5 h) else (vp_in x3 64 ∧ if (gI h 66 (iN x3)) = (-1) then (vp_in x3 64 ∧ ∀ h13, h13 = sI h 66 (iN x3) x4 → w_X10_bitsOf x3 h13 (fun z15 h14 => ∀ (y16 : Int32), y16 = (mxI x5 z15) → w_X10_barksNext x3 h14 (fun z18 h17 => kb z18 (x4 + 1) y16 h17))) else (k153 x3 x4 x5 h))
set_option maxRecDepth 8000 in
theorem b_X10_bark_108 {D : va_G} {ca : Nat → ClassId} {ad : Nat → Nat} {K : Kt} {k153 : Int32 → Int32 → Int32 → PH → Prop} {kb : Int32 → Int32 → Int32 → PH → Prop} {Q : Int32 → PH → Prop} {x2 : Int32} {x3 : Int32} {x4 : Int32} {x5 : Int32} {h : PH} (C : CX (GM D ca ad) (XS (GM D ca ad)) cX10_bark RX10 6 (some .int) 2 K) (hk153 : ∀ (x3 : Int32) (x4 : Int32) (x5 : Int32) (h : PH), k153 x3 x4 x5 h → PW (GM D ca ad) K 6 (qI Q) h 153 [some (.ref 0), none, some (.int x2), some (.int x3), some (.int x4), some (.int x5)] []) (hkb : ∀ (x3 : Int32) (x4 : Int32) (x5 : Int32) (h : PH), kb x3 x4 x5 h → PW (GM D ca ad) K 6 (qI Q) h 108 [some (.ref 0), none, some (.int x2), some (.int x3), some (.int x4), some (.int x5)] []) (hw : w_X10_bark_108 k153 Q x2 kb x3 x4 x5 h) : PW (GM D ca ad) K 6 (qI Q) h 108 [some (.ref 0), none, some (.int x2), some (.int x3), some (.int x4), some (.int x5)] [] := by
  unfold w_X10_bark_108 at hw
  refine PW.ild3n C dX10_bark_108 ?_
  refine PW.if_eq (tgt := 153) C dX10_bark_109 (by decide) (fun c => ?_) (fun c => ?_)
  · rw [if_pos c] at hw
    exact PW.wk (wk_s (wk_n (wk_s (wk_s (wk_s (wk_s wk_0)))))) (hk153 _ _ _ _ hw)
  · rw [if_neg c] at hw
    refine PW.ald0n C dX10_bark_112 ?_
    refine PW.get0 (v := .ref 66) C cf_10 fl_X10_211 (by decide) oM_0 (fvR (o := 66) rfl) dX10_bark_113 ?_
    refine PW.ild3n C dX10_bark_116 ?_
    obtain ⟨hc11, hw⟩ := hw
    refine PW.iald C dX10_bark_117 aM_66 hc11 ?_
    refine PW.iconst (v := (-1)) C dX10_bark_118 (by decide) ?_
    refine PW.icmp_ne (tgt := 153) C dX10_bark_119 (by decide) (fun c => ?_) (fun c => ?_)
    · rw [if_neg c] at hw
      exact PW.wk (wk_s (wk_n (wk_s (wk_s (wk_s (wk_s wk_0)))))) (hk153 _ _ _ _ hw)
    · rw [if_pos c] at hw
      refine PW.ald0n C dX10_bark_122 ?_
      refine PW.get0 (v := .ref 66) C cf_10 fl_X10_211 (by decide) oM_0 (fvR (o := 66) rfl) dX10_bark_123 ?_
      refine PW.ild3n C dX10_bark_126 ?_
      refine PW.ild4 C dX10_bark_127 ?_
      obtain ⟨hc12, hw⟩ := hw
      replace hw := hw _ rfl
      refine PW.iast C dX10_bark_129 aM_66 hc12 ?_
      refine PW.ild5 C dX10_bark_130 ?_
      refine PW.ild3n C dX10_bark_132 ?_
      refine PW.callSI1 C ms_X10_bitsOf ml_X10_566 dX10_bark_133 (Nat.le_of_ble_eq_true rfl) (by decide) (Nat.le_of_ble_eq_true rfl) (s_X10_bitsOf hw) ?_
      clear hw
      intro z15 h14 hw
      refine PW.mxI C ml_X10_606 (Nat.le_of_ble_eq_true rfl) (by decide) dX10_bark_136 ?_
      replace hw := hw _ rfl
      refine PW.ist5 C dX10_bark_139 (by decide) rfl ?_
      refine PW.ald0n C dX10_bark_141 ?_
      refine PW.ild3n C dX10_bark_142 ?_
      refine PW.callVI1 C ms_X10_barksNext ml_X10_620 dX10_bark_143 oM_0 ⟨_, _, rfl⟩ (Nat.le_of_ble_eq_true rfl) (by decide) (Nat.le_of_ble_eq_true rfl) (s_X10_barksNext hw) ?_
      clear hw
      intro z18 h17 hw
      refine PW.ist3n C dX10_bark_146 (by decide) rfl ?_
      refine PW.inc4 (v := 1) C dX10_bark_147 (by decide) rfl (by decide) ?_
      refine PW.goto (tgt := 108) C dX10_bark_150 (by decide) ?_
      exact PW.wk (wk_s (wk_n (wk_s (wk_s (wk_s (wk_s wk_0)))))) (hkb _ _ _ _ hw)
theorem l_X10_bark_108 {D : va_G} {ca : Nat → ClassId} {ad : Nat → Nat} {K : Kt} {k153 : Int32 → Int32 → Int32 → PH → Prop} {Q : Int32 → PH → Prop} {x2 : Int32} (C : CX (GM D ca ad) (XS (GM D ca ad)) cX10_bark RX10 6 (some .int) 2 K) (hk153 : ∀ (x3 : Int32) (x4 : Int32) (x5 : Int32) (h : PH), k153 x3 x4 x5 h → PW (GM D ca ad) K 6 (qI Q) h 153 [some (.ref 0), none, some (.int x2), some (.int x3), some (.int x4), some (.int x5)] []) : ∀ (n : Nat) (x3 : Int32) (x4 : Int32) (x5 : Int32) (h : PH), Lp3 (w_X10_bark_108 k153 Q x2) n x3 x4 x5 h → PW (GM D ca ad) K 6 (qI Q) h 108 [some (.ref 0), none, some (.int x2), some (.int x3), some (.int x4), some (.int x5)] [] := by
  intro n
  induction n with
  | zero => intro x3 x4 x5 h hw; exact hw.elim
  | succ n ih => intro x3 x4 x5 h hw; exact b_X10_bark_108 C hk153 (fun x3 x4 x5 h hw => ih x3 x4 x5 h hw) hw
def w_X10_bark_153 (Q : Int32 → PH → Prop) (x2 : Int32) (x3 : Int32) (x4 : Int32) (x5 : Int32) (h : PH) : Prop :=
  if x2 = 2 then (Q x5 h) else (if x3 = 0 then (if x2 = 0 then (Q x4 h) else (Q 0 h)) else (if x2 = 0 then (Q (-2) h) else (vp_in x3 64 ∧ Q (x4 - (gI h 66 (iN x3))) h)))
set_option maxRecDepth 8000 in
theorem b_X10_bark_153 {D : va_G} {ca : Nat → ClassId} {ad : Nat → Nat} {K : Kt} {Q : Int32 → PH → Prop} {x2 : Int32} {x3 : Int32} {x4 : Int32} {x5 : Int32} {h : PH} (C : CX (GM D ca ad) (XS (GM D ca ad)) cX10_bark RX10 6 (some .int) 2 K) (hw : w_X10_bark_153 Q x2 x3 x4 x5 h) : PW (GM D ca ad) K 6 (qI Q) h 153 [some (.ref 0), none, some (.int x2), some (.int x3), some (.int x4), some (.int x5)] [] := by
  unfold w_X10_bark_153 at hw
  refine PW.ild2n C dX10_bark_153 ?_
  refine PW.iconst (v := 2) C dX10_bark_154 (by decide) ?_
  refine PW.icmp_ne (tgt := 161) C dX10_bark_155 (by decide) (fun c => ?_) (fun c => ?_)
  · rw [if_neg c] at hw
    refine PW.ild3n C dX10_bark_161 ?_
    refine PW.if_ne (tgt := 176) C dX10_bark_162 (by decide) (fun c => ?_) (fun c => ?_)
    · rw [if_neg c] at hw
      refine PW.ild2n C dX10_bark_176 ?_
      refine PW.if_ne (tgt := 185) C dX10_bark_177 (by decide) (fun c => ?_) (fun c => ?_)
      · rw [if_neg c] at hw
        refine PW.ild4 C dX10_bark_185 ?_
        refine PW.ald0n C dX10_bark_187 ?_
        refine PW.get0 (v := .ref 66) C cf_10 fl_X10_211 (by decide) oM_0 (fvR (o := 66) rfl) dX10_bark_188 ?_
        refine PW.ild3n C dX10_bark_191 ?_
        obtain ⟨hc23, hw⟩ := hw
        refine PW.iald C dX10_bark_192 aM_66 hc23 ?_
        refine PW.isub C dX10_bark_193 ?_
        exact PW.iret C dX10_bark_194 ⟨_, rfl, hw⟩
      · rw [if_pos c] at hw
        refine PW.bipush (v := (-2)) C dX10_bark_180 (by decide) ?_
        refine PW.goto (tgt := 194) C dX10_bark_182 (by decide) ?_
        exact PW.iret C dX10_bark_194 ⟨_, rfl, hw⟩
    · rw [if_pos c] at hw
      refine PW.ild2n C dX10_bark_165 ?_
      refine PW.if_ne (tgt := 174) C dX10_bark_166 (by decide) (fun c => ?_) (fun c => ?_)
      · rw [if_neg c] at hw
        refine PW.iconst (v := 0) C dX10_bark_174 (by decide) ?_
        exact PW.iret C dX10_bark_175 ⟨_, rfl, hw⟩
      · rw [if_pos c] at hw
        refine PW.ild4 C dX10_bark_169 ?_
        refine PW.goto (tgt := 175) C dX10_bark_171 (by decide) ?_
        exact PW.iret C dX10_bark_175 ⟨_, rfl, hw⟩
  · rw [if_pos c] at hw
    refine PW.ild5 C dX10_bark_158 ?_
    exact PW.iret C dX10_bark_160 ⟨_, rfl, hw⟩
def w_X10_bark (x1 : Int32) (x2 : Int32) (h : PH) (Q : Int32 → PH → Prop) : Prop :=
  ∀ h1, h1 = sI h 0 0 0 → if x1 < 0 then (Q (-1) h1) else (if 64 ≤ x1 then (Q (-1) h1) else (if x2 < 0 then (Q (-1) h1) else (if x2 ≤ 2 then (∃ n, Lp1 (w_X10_bark_28 (fun h5 => Q (-1) h5) (fun h6 => w_X10_layFar (gI h6 42 (iN 0)) (-1) h6 (fun h7 => ∃ n, Lp1 (w_X10_bark_81 (fun h10 => ∃ n, Lp3 (w_X10_bark_108 (fun y20 y21 y22 h19 => w_X10_bark_153 Q x2 y20 y21 y22 h19) Q x2) n x1 0 0 h10) Q x1 x2) n 0 h7)) Q x1 x2) n 0 h1) else (Q (-1) h1))))
set_option maxRecDepth 8000 in
theorem s_X10_bark {D : va_G} {ca : Nat → ClassId} {ad : Nat → Nat} {l : Launch} {x1 : Int32} {x2 : Int32} {h : PH} {Q : Int32 → PH → Prop} (hw : w_X10_bark x1 x2 h Q) : Sp (GM D ca ad) (XS (GM D ca ad)) l 2 yX10_bark cX10_bark 6 (some .int) [.ref 0, .int x1, .int x2] h (qI Q) := by
  refine Sp.of (own := RX10) [some (.ref 0), some (.int x1), some (.int x2), none, none, none] (by decide +kernel) rfl rfl (Nat.le_of_ble_eq_true rfl) (fun K hl C => ?_)
  subst hl
  unfold w_X10_bark at hw
  refine PW.ald0n C dX10_bark_0 ?_
  refine PW.iconst (v := 0) C dX10_bark_1 (by decide) ?_
  replace hw := hw _ rfl
  refine PW.put0 C cf_10 fl_X10_235 (by decide) oM_0 rfl rfl rfl (pw_sI oM_0 (by decide) rfl) dX10_bark_2 ?_
  refine PW.ild1n C dX10_bark_5 ?_
  refine PW.if_lt (tgt := 24) C dX10_bark_6 (by decide) (fun c => ?_) (fun c => ?_)
  · rw [if_pos c] at hw
    refine PW.iconst (v := (-1)) C dX10_bark_24 (by decide) ?_
    exact PW.iret C dX10_bark_25 ⟨_, rfl, hw⟩
  · rw [if_neg c] at hw
    refine PW.ild1n C dX10_bark_9 ?_
    refine PW.bipush (v := 64) C dX10_bark_10 (by decide) ?_
    refine PW.icmp_ge (tgt := 24) C dX10_bark_12 (by decide) (fun c => ?_) (fun c => ?_)
    · rw [if_pos c] at hw
      refine PW.iconst (v := (-1)) C dX10_bark_24 (by decide) ?_
      exact PW.iret C dX10_bark_25 ⟨_, rfl, hw⟩
    · rw [if_neg c] at hw
      refine PW.ild2n C dX10_bark_15 ?_
      refine PW.if_lt (tgt := 24) C dX10_bark_16 (by decide) (fun c => ?_) (fun c => ?_)
      · rw [if_pos c] at hw
        refine PW.iconst (v := (-1)) C dX10_bark_24 (by decide) ?_
        exact PW.iret C dX10_bark_25 ⟨_, rfl, hw⟩
      · rw [if_neg c] at hw
        refine PW.ild2n C dX10_bark_19 ?_
        refine PW.iconst (v := 2) C dX10_bark_20 (by decide) ?_
        refine PW.icmp_le (tgt := 26) C dX10_bark_21 (by decide) (fun c => ?_) (fun c => ?_)
        · rw [if_pos c] at hw
          refine PW.iconst (v := 0) C dX10_bark_26 (by decide) ?_
          refine PW.ist3n C dX10_bark_27 (by decide) rfl ?_
          obtain ⟨n, hw⟩ := hw
          refine PW.wk (wk_s (wk_s (wk_s (wk_s (wk_n (wk_n wk_0)))))) (l_X10_bark_28 C ?_ ?_ n _ _ hw)
          · intro h5 hw
            refine PW.iconst (v := (-1)) C dX10_bark_60 (by decide) ?_
            exact PW.iret C dX10_bark_61 ⟨_, rfl, hw⟩
          · intro h6 hw
            refine PW.ald0n C dX10_bark_68 ?_
            refine PW.ald0n C dX10_bark_69 ?_
            refine PW.get0 (v := .ref 42) C cf_10 fl_X10_138 (by decide) oM_0 (fvR (o := 42) rfl) dX10_bark_70 ?_
            refine PW.iconst (v := 0) C dX10_bark_73 (by decide) ?_
            refine PW.iald C dX10_bark_74 aM_42 (vpl (by decide)) ?_
            refine PW.iconst (v := (-1)) C dX10_bark_75 (by decide) ?_
            refine PW.callVV2 C ms_X10_layFar ml_X10_496 dX10_bark_76 oM_0 ⟨_, _, rfl⟩ (Nat.le_of_ble_eq_true rfl) (by decide) (Nat.le_of_ble_eq_true rfl) (s_X10_layFar hw) ?_
            clear hw
            intro h7 hw
            refine PW.iconst (v := 0) C dX10_bark_79 (by decide) ?_
            refine PW.ist3n C dX10_bark_80 (by decide) rfl ?_
            obtain ⟨n, hw⟩ := hw
            refine PW.wk (wk_s (wk_s (wk_s (wk_s (wk_n (wk_n wk_0)))))) (l_X10_bark_81 C ?_ n _ _ hw)
            · intro h10 hw
              refine PW.ild1n C dX10_bark_100 ?_
              refine PW.ist3n C dX10_bark_101 (by decide) rfl ?_
              refine PW.iconst (v := 0) C dX10_bark_102 (by decide) ?_
              refine PW.ist4 C dX10_bark_103 (by decide) rfl ?_
              refine PW.iconst (v := 0) C dX10_bark_105 (by decide) ?_
              refine PW.ist5 C dX10_bark_106 (by decide) rfl ?_
              obtain ⟨n, hw⟩ := hw
              refine PW.wk (wk_s (wk_n (wk_s (wk_s (wk_s (wk_s wk_0)))))) (l_X10_bark_108 C ?_ n _ _ _ _ hw)
              · intro y20 y21 y22 h19 hw
                exact PW.wk (wk_s (wk_n (wk_s (wk_s (wk_s (wk_s wk_0)))))) (b_X10_bark_153 C hw)
        · rw [if_neg c] at hw
          refine PW.iconst (v := (-1)) C dX10_bark_24 (by decide) ?_
          exact PW.iret C dX10_bark_25 ⟨_, rfl, hw⟩
def w_X10_note (x1 : Int32) (x2 : Int32) (x3 : Int32) (h : PH) (Q : Int32 → PH → Prop) : Prop :=
  ∀ h1, h1 = sI h 0 0 0 → w_X10_isPlace x1 h1 (fun z3 h2 => if z3 = 0 then (Q (-1) h2) else (w_X10_isMinute x2 h2 (fun z5 h4 => if z5 = 0 then (Q (-1) h4) else (if (gI h4 0 94) = 24 then (Q (-1) h4) else (vp_in (gI h4 0 94) 24 ∧ ∀ h7, h7 = sI h4 67 (iN (gI h4 0 94)) x1 → vp_in (gI h7 0 94) 24 ∧ ∀ h9, h9 = sI h7 68 (iN (gI h7 0 94)) x2 → vp_in (gI h9 0 94) 24 ∧ ∀ h11, h11 = sI h9 69 (iN (gI h9 0 94)) (vp_nar .boolean x3) → vp_in (gI h11 0 94) 24 ∧ ∀ h13, h13 = sI h11 70 (iN (gI h11 0 94)) (-1) → ∀ h14, h14 = sI h13 0 94 ((gI h13 0 94) + 1) → Q ((gI h14 0 94) - 1) h14)))))
set_option maxRecDepth 8000 in
theorem s_X10_note {D : va_G} {ca : Nat → ClassId} {ad : Nat → Nat} {l : Launch} {x1 : Int32} {x2 : Int32} {x3 : Int32} {h : PH} {Q : Int32 → PH → Prop} (hw : w_X10_note x1 x2 x3 h Q) : Sp (GM D ca ad) (XS (GM D ca ad)) l 2 yX10_note cX10_note 4 (some .int) [.ref 0, .int x1, .int x2, .int x3] h (qI Q) := by
  refine Sp.of (own := RX10) [some (.ref 0), some (.int x1), some (.int x2), some (.int x3)] (by decide +kernel) rfl rfl (Nat.le_of_ble_eq_true rfl) (fun K hl C => ?_)
  subst hl
  unfold w_X10_note at hw
  refine PW.ald0n C dX10_note_0 ?_
  refine PW.iconst (v := 0) C dX10_note_1 (by decide) ?_
  replace hw := hw _ rfl
  refine PW.put0 C cf_10 fl_X10_235 (by decide) oM_0 rfl rfl rfl (pw_sI oM_0 (by decide) rfl) dX10_note_2 ?_
  refine PW.ald0n C dX10_note_5 ?_
  refine PW.ild1n C dX10_note_6 ?_
  refine PW.callVI1 C ms_X10_isPlace ml_X10_527 dX10_note_7 oM_0 ⟨_, _, rfl⟩ (Nat.le_of_ble_eq_true rfl) (by decide) (Nat.le_of_ble_eq_true rfl) (s_X10_isPlace hw) ?_
  clear hw
  intro z3 h2 hw
  refine PW.if_eq (tgt := 29) C dX10_note_10 (by decide) (fun c => ?_) (fun c => ?_)
  · rw [if_pos c] at hw
    refine PW.iconst (v := (-1)) C dX10_note_29 (by decide) ?_
    exact PW.iret C dX10_note_30 ⟨_, rfl, hw⟩
  · rw [if_neg c] at hw
    refine PW.ild2n C dX10_note_13 ?_
    refine PW.callSI1 C ms_X10_isMinute ml_X10_530 dX10_note_14 (Nat.le_of_ble_eq_true rfl) (by decide) (Nat.le_of_ble_eq_true rfl) (s_X10_isMinute hw) ?_
    clear hw
    intro z5 h4 hw
    refine PW.if_eq (tgt := 29) C dX10_note_17 (by decide) (fun c => ?_) (fun c => ?_)
    · rw [if_pos c] at hw
      refine PW.iconst (v := (-1)) C dX10_note_29 (by decide) ?_
      exact PW.iret C dX10_note_30 ⟨_, rfl, hw⟩
    · rw [if_neg c] at hw
      refine PW.ald0n C dX10_note_20 ?_
      refine PW.get0 C cf_10 fl_X10_406 (by decide) oM_0 (fvI rfl) dX10_note_21 ?_
      refine PW.bipush (v := 24) C dX10_note_24 (by decide) ?_
      refine PW.icmp_ne (tgt := 31) C dX10_note_26 (by decide) (fun c => ?_) (fun c => ?_)
      · rw [if_neg c] at hw
        refine PW.ald0n C dX10_note_31 ?_
        refine PW.get0 (v := .ref 67) C cf_10 fl_X10_217 (by decide) oM_0 (fvR (o := 67) rfl) dX10_note_32 ?_
        refine PW.ald0n C dX10_note_35 ?_
        refine PW.get0 C cf_10 fl_X10_406 (by decide) oM_0 (fvI rfl) dX10_note_36 ?_
        refine PW.ild1n C dX10_note_39 ?_
        obtain ⟨hc6, hw⟩ := hw
        replace hw := hw _ rfl
        refine PW.iast C dX10_note_40 aM_67 hc6 ?_
        refine PW.ald0n C dX10_note_41 ?_
        refine PW.get0 (v := .ref 68) C cf_10 fl_X10_220 (by decide) oM_0 (fvR (o := 68) rfl) dX10_note_42 ?_
        refine PW.ald0n C dX10_note_45 ?_
        refine PW.get0 C cf_10 fl_X10_406 (by decide) oM_0 (fvI rfl) dX10_note_46 ?_
        refine PW.ild2n C dX10_note_49 ?_
        obtain ⟨hc8, hw⟩ := hw
        replace hw := hw _ rfl
        refine PW.iast C dX10_note_50 aM_68 hc8 ?_
        refine PW.ald0n C dX10_note_51 ?_
        refine PW.get0 (v := .ref 69) C cf_10 fl_X10_223 (by decide) oM_0 (fvR (o := 69) rfl) dX10_note_52 ?_
        refine PW.ald0n C dX10_note_55 ?_
        refine PW.get0 C cf_10 fl_X10_406 (by decide) oM_0 (fvI rfl) dX10_note_56 ?_
        refine PW.ild3n C dX10_note_59 ?_
        obtain ⟨hc10, hw⟩ := hw
        replace hw := hw _ rfl
        refine PW.zast C dX10_note_60 aM_69 hc10 ?_
        refine PW.ald0n C dX10_note_61 ?_
        refine PW.get0 (v := .ref 70) C cf_10 fl_X10_226 (by decide) oM_0 (fvR (o := 70) rfl) dX10_note_62 ?_
        refine PW.ald0n C dX10_note_65 ?_
        refine PW.get0 C cf_10 fl_X10_406 (by decide) oM_0 (fvI rfl) dX10_note_66 ?_
        refine PW.iconst (v := (-1)) C dX10_note_69 (by decide) ?_
        obtain ⟨hc12, hw⟩ := hw
        replace hw := hw _ rfl
        refine PW.iast C dX10_note_70 aM_70 hc12 ?_
        refine PW.ald0n C dX10_note_71 ?_
        refine PW.dup C dX10_note_72 rfl ?_
        refine PW.get0 C cf_10 fl_X10_406 (by decide) oM_0 (fvI rfl) dX10_note_73 ?_
        refine PW.iconst (v := 1) C dX10_note_76 (by decide) ?_
        refine PW.iadd C dX10_note_77 ?_
        replace hw := hw _ rfl
        refine PW.put0 C cf_10 fl_X10_406 (by decide) oM_0 rfl rfl rfl (pw_sI oM_0 (by decide) rfl) dX10_note_78 ?_
        refine PW.ald0n C dX10_note_81 ?_
        refine PW.get0 C cf_10 fl_X10_406 (by decide) oM_0 (fvI rfl) dX10_note_82 ?_
        refine PW.iconst (v := 1) C dX10_note_85 (by decide) ?_
        refine PW.isub C dX10_note_86 ?_
        exact PW.iret C dX10_note_87 ⟨_, rfl, hw⟩
      · rw [if_pos c] at hw
        refine PW.iconst (v := (-1)) C dX10_note_29 (by decide) ?_
        exact PW.iret C dX10_note_30 ⟨_, rfl, hw⟩
def w_X10_strike (x1 : Int32) (h : PH) (Q : Int32 → PH → Prop) : Prop :=
  ∀ h1, h1 = sI h 0 0 0 → if x1 < 0 then (Q (-1) h1) else (if (gI h1 0 94) ≤ x1 then (Q (-1) h1) else (if (gI h1 0 94) = 24 then (Q (-1) h1) else (vp_in (gI h1 0 94) 24 ∧ ∀ h3, h3 = sI h1 70 (iN (gI h1 0 94)) x1 → ∀ h4, h4 = sI h3 0 94 ((gI h3 0 94) + 1) → Q ((gI h4 0 94) - 1) h4)))
set_option maxRecDepth 8000 in
theorem s_X10_strike {D : va_G} {ca : Nat → ClassId} {ad : Nat → Nat} {l : Launch} {x1 : Int32} {h : PH} {Q : Int32 → PH → Prop} (hw : w_X10_strike x1 h Q) : Sp (GM D ca ad) (XS (GM D ca ad)) l 1 yX10_strike cX10_strike 2 (some .int) [.ref 0, .int x1] h (qI Q) := by
  refine Sp.of (own := RX10) [some (.ref 0), some (.int x1)] (by decide +kernel) rfl rfl (Nat.le_of_ble_eq_true rfl) (fun K hl C => ?_)
  subst hl
  unfold w_X10_strike at hw
  refine PW.ald0n C dX10_strike_0 ?_
  refine PW.iconst (v := 0) C dX10_strike_1 (by decide) ?_
  replace hw := hw _ rfl
  refine PW.put0 C cf_10 fl_X10_235 (by decide) oM_0 rfl rfl rfl (pw_sI oM_0 (by decide) rfl) dX10_strike_2 ?_
  refine PW.ild1n C dX10_strike_5 ?_
  refine PW.if_lt (tgt := 26) C dX10_strike_6 (by decide) (fun c => ?_) (fun c => ?_)
  · rw [if_pos c] at hw
    refine PW.iconst (v := (-1)) C dX10_strike_26 (by decide) ?_
    exact PW.iret C dX10_strike_27 ⟨_, rfl, hw⟩
  · rw [if_neg c] at hw
    refine PW.ild1n C dX10_strike_9 ?_
    refine PW.ald0n C dX10_strike_10 ?_
    refine PW.get0 C cf_10 fl_X10_406 (by decide) oM_0 (fvI rfl) dX10_strike_11 ?_
    refine PW.icmp_ge (tgt := 26) C dX10_strike_14 (by decide) (fun c => ?_) (fun c => ?_)
    · rw [if_pos c] at hw
      refine PW.iconst (v := (-1)) C dX10_strike_26 (by decide) ?_
      exact PW.iret C dX10_strike_27 ⟨_, rfl, hw⟩
    · rw [if_neg c] at hw
      refine PW.ald0n C dX10_strike_17 ?_
      refine PW.get0 C cf_10 fl_X10_406 (by decide) oM_0 (fvI rfl) dX10_strike_18 ?_
      refine PW.bipush (v := 24) C dX10_strike_21 (by decide) ?_
      refine PW.icmp_ne (tgt := 28) C dX10_strike_23 (by decide) (fun c => ?_) (fun c => ?_)
      · rw [if_neg c] at hw
        refine PW.ald0n C dX10_strike_28 ?_
        refine PW.get0 (v := .ref 70) C cf_10 fl_X10_226 (by decide) oM_0 (fvR (o := 70) rfl) dX10_strike_29 ?_
        refine PW.ald0n C dX10_strike_32 ?_
        refine PW.get0 C cf_10 fl_X10_406 (by decide) oM_0 (fvI rfl) dX10_strike_33 ?_
        refine PW.ild1n C dX10_strike_36 ?_
        obtain ⟨hc2, hw⟩ := hw
        replace hw := hw _ rfl
        refine PW.iast C dX10_strike_37 aM_70 hc2 ?_
        refine PW.ald0n C dX10_strike_38 ?_
        refine PW.dup C dX10_strike_39 rfl ?_
        refine PW.get0 C cf_10 fl_X10_406 (by decide) oM_0 (fvI rfl) dX10_strike_40 ?_
        refine PW.iconst (v := 1) C dX10_strike_43 (by decide) ?_
        refine PW.iadd C dX10_strike_44 ?_
        replace hw := hw _ rfl
        refine PW.put0 C cf_10 fl_X10_406 (by decide) oM_0 rfl rfl rfl (pw_sI oM_0 (by decide) rfl) dX10_strike_45 ?_
        refine PW.ald0n C dX10_strike_48 ?_
        refine PW.get0 C cf_10 fl_X10_406 (by decide) oM_0 (fvI rfl) dX10_strike_49 ?_
        refine PW.iconst (v := 1) C dX10_strike_52 (by decide) ?_
        refine PW.isub C dX10_strike_53 ?_
        exact PW.iret C dX10_strike_54 ⟨_, rfl, hw⟩
      · rw [if_pos c] at hw
        refine PW.iconst (v := (-1)) C dX10_strike_26 (by decide) ?_
        exact PW.iret C dX10_strike_27 ⟨_, rfl, hw⟩
def w_X10_known (x1 : Int32) (h : PH) (Q : Int32 → PH → Prop) : Prop :=
  ∀ h1, h1 = sI h 0 0 0 → if x1 < (-1) then (Q 0 h1) else (if x1 ≤ (gI h1 0 94) then (∀ h2, h2 = sI h1 0 95 x1 → Q 1 h2) else (Q 0 h1))
set_option maxRecDepth 8000 in
theorem s_X10_known {D : va_G} {ca : Nat → ClassId} {ad : Nat → Nat} {l : Launch} {x1 : Int32} {h : PH} {Q : Int32 → PH → Prop} (hw : w_X10_known x1 h Q) : Sp (GM D ca ad) (XS (GM D ca ad)) l 1 yX10_known cX10_known 2 (some .boolean) [.ref 0, .int x1] h (qI Q) := by
  refine Sp.of (own := RX10) [some (.ref 0), some (.int x1)] (by decide +kernel) rfl rfl (Nat.le_of_ble_eq_true rfl) (fun K hl C => ?_)
  subst hl
  unfold w_X10_known at hw
  refine PW.ald0n C dX10_known_0 ?_
  refine PW.iconst (v := 0) C dX10_known_1 (by decide) ?_
  replace hw := hw _ rfl
  refine PW.put0 C cf_10 fl_X10_235 (by decide) oM_0 rfl rfl rfl (pw_sI oM_0 (by decide) rfl) dX10_known_2 ?_
  refine PW.ild1n C dX10_known_5 ?_
  refine PW.iconst (v := (-1)) C dX10_known_6 (by decide) ?_
  refine PW.icmp_lt (tgt := 18) C dX10_known_7 (by decide) (fun c => ?_) (fun c => ?_)
  · rw [if_pos c] at hw
    refine PW.iconst (v := 0) C dX10_known_18 (by decide) ?_
    exact PW.zret C dX10_known_19 (by decide) ⟨_, rfl, hw⟩
  · rw [if_neg c] at hw
    refine PW.ild1n C dX10_known_10 ?_
    refine PW.ald0n C dX10_known_11 ?_
    refine PW.get0 C cf_10 fl_X10_406 (by decide) oM_0 (fvI rfl) dX10_known_12 ?_
    refine PW.icmp_le (tgt := 20) C dX10_known_15 (by decide) (fun c => ?_) (fun c => ?_)
    · rw [if_pos c] at hw
      refine PW.ald0n C dX10_known_20 ?_
      refine PW.ild1n C dX10_known_21 ?_
      replace hw := hw _ rfl
      refine PW.put0 C cf_10 fl_X10_214 (by decide) oM_0 rfl rfl rfl (pw_sI oM_0 (by decide) rfl) dX10_known_22 ?_
      refine PW.iconst (v := 1) C dX10_known_25 (by decide) ?_
      exact PW.zret C dX10_known_26 (by decide) ⟨_, rfl, hw⟩
    · rw [if_neg c] at hw
      refine PW.iconst (v := 0) C dX10_known_18 (by decide) ?_
      exact PW.zret C dX10_known_19 (by decide) ⟨_, rfl, hw⟩
def w_X10_knownMany (h : PH) (Q : Int32 → PH → Prop) : Prop :=
  if (gI h 0 95) = (-1) then (Q (gI h 0 94) h) else (Q (gI h 0 95) h)
set_option maxRecDepth 8000 in
theorem s_X10_knownMany {D : va_G} {ca : Nat → ClassId} {ad : Nat → Nat} {l : Launch} {h : PH} {Q : Int32 → PH → Prop} (hw : w_X10_knownMany h Q) : Sp (GM D ca ad) (XS (GM D ca ad)) l 1 yX10_knownMany cX10_knownMany 1 (some .int) [.ref 0] h (qI Q) := by
  refine Sp.of (own := RX10) [some (.ref 0)] (by decide +kernel) rfl rfl (Nat.le_of_ble_eq_true rfl) (fun K hl C => ?_)
  subst hl
  unfold w_X10_knownMany at hw
  refine PW.ald0n C dX10_knownMany_0 ?_
  refine PW.get0 C cf_10 fl_X10_214 (by decide) oM_0 (fvI rfl) dX10_knownMany_1 ?_
  refine PW.iconst (v := (-1)) C dX10_knownMany_4 (by decide) ?_
  refine PW.icmp_ne (tgt := 15) C dX10_knownMany_5 (by decide) (fun c => ?_) (fun c => ?_)
  · rw [if_neg c] at hw
    refine PW.ald0n C dX10_knownMany_15 ?_
    refine PW.get0 C cf_10 fl_X10_214 (by decide) oM_0 (fvI rfl) dX10_knownMany_16 ?_
    exact PW.iret C dX10_knownMany_19 ⟨_, rfl, hw⟩
  · rw [if_pos c] at hw
    refine PW.ald0n C dX10_knownMany_8 ?_
    refine PW.get0 C cf_10 fl_X10_406 (by decide) oM_0 (fvI rfl) dX10_knownMany_9 ?_
    refine PW.goto (tgt := 19) C dX10_knownMany_12 (by decide) ?_
    exact PW.iret C dX10_knownMany_19 ⟨_, rfl, hw⟩
def w_X10_areSo_96 (k110 : PH → Prop) (Q : Int32 → PH → Prop) (kb : Int32 → PH → Prop) (x1 : Int32) (x2 : Int32) (x3 : Int32) (x4 : Int32) (s0 : Int32) (h : PH) : Prop :=
  vp_in x4 24 ∧ if s0 = (gI h 69 (iN x4)) then (kb (x4 + 1) h) else (k110 h)
set_option maxRecDepth 8000 in
theorem b_X10_areSo_96 {D : va_G} {ca : Nat → ClassId} {ad : Nat → Nat} {K : Kt} {k110 : PH → Prop} {kb : Int32 → PH → Prop} {Q : Int32 → PH → Prop} {x1 : Int32} {x2 : Int32} {x3 : Int32} {x4 : Int32} {s0 : Int32} {h : PH} (C : CX (GM D ca ad) (XS (GM D ca ad)) cX10_areSo RX10 6 (some .boolean) 5 K) (hk110 : ∀ (h : PH), k110 h → PW (GM D ca ad) K 6 (qI Q) h 110 [none, none, none, none, none, none] []) (hkb : ∀ (x4 : Int32) (h : PH), kb x4 h → PW (GM D ca ad) K 6 (qI Q) h 3 [some (.ref 0), some (.int x1), some (.int x2), some (.int x3), some (.int x4), none] []) (hw : w_X10_areSo_96 k110 Q kb x1 x2 x3 x4 s0 h) : PW (GM D ca ad) K 6 (qI Q) h 96 [some (.ref 0), some (.int x1), some (.int x2), some (.int x3), some (.int x4), none] [.int s0] := by
  unfold w_X10_areSo_96 at hw
  refine PW.ist5 C dX10_areSo_96 (by decide) rfl ?_
  refine PW.ild5 C dX10_areSo_98 ?_
  refine PW.ald0n C dX10_areSo_100 ?_
  refine PW.get0 (v := .ref 69) C cf_10 fl_X10_223 (by decide) oM_0 (fvR (o := 69) rfl) dX10_areSo_101 ?_
  refine PW.ild4 C dX10_areSo_104 ?_
  obtain ⟨hc8, hw⟩ := hw
  refine PW.zald C dX10_areSo_106 aM_69 hc8 ?_
  refine PW.icmp_eq (tgt := 112) C dX10_areSo_107 (by decide) (fun c => ?_) (fun c => ?_)
  · rw [if_pos c] at hw
    refine PW.inc4 (v := 1) C dX10_areSo_112 (by decide) rfl (by decide) ?_
    refine PW.goto (tgt := 3) C dX10_areSo_115 (by decide) ?_
    exact PW.wk (wk_s (wk_s (wk_s (wk_s (wk_s (wk_n wk_0)))))) (hkb _ _ hw)
  · rw [if_neg c] at hw
    exact PW.wk (wk_n (wk_n (wk_n (wk_n (wk_n (wk_n wk_0)))))) (hk110 _ hw)
def w_X10_areSo_91 (k110 : PH → Prop) (Q : Int32 → PH → Prop) (kb : Int32 → PH → Prop) (x1 : Int32) (x2 : Int32) (x3 : Int32) (x4 : Int32) (h : PH) : Prop :=
  w_X10_areSo_96 k110 Q kb x1 x2 x3 x4 1 h
set_option maxRecDepth 8000 in
theorem b_X10_areSo_91 {D : va_G} {ca : Nat → ClassId} {ad : Nat → Nat} {K : Kt} {k110 : PH → Prop} {kb : Int32 → PH → Prop} {Q : Int32 → PH → Prop} {x1 : Int32} {x2 : Int32} {x3 : Int32} {x4 : Int32} {h : PH} (C : CX (GM D ca ad) (XS (GM D ca ad)) cX10_areSo RX10 6 (some .boolean) 5 K) (hk110 : ∀ (h : PH), k110 h → PW (GM D ca ad) K 6 (qI Q) h 110 [none, none, none, none, none, none] []) (hkb : ∀ (x4 : Int32) (h : PH), kb x4 h → PW (GM D ca ad) K 6 (qI Q) h 3 [some (.ref 0), some (.int x1), some (.int x2), some (.int x3), some (.int x4), none] []) (hw : w_X10_areSo_91 k110 Q kb x1 x2 x3 x4 h) : PW (GM D ca ad) K 6 (qI Q) h 91 [some (.ref 0), some (.int x1), some (.int x2), some (.int x3), some (.int x4), none] [] := by
  unfold w_X10_areSo_91 at hw
  refine PW.iconst (v := 1) C dX10_areSo_91 (by decide) ?_
  refine PW.goto (tgt := 96) C dX10_areSo_92 (by decide) ?_
  exact PW.wk (wk_s (wk_s (wk_s (wk_s (wk_s (wk_n wk_0)))))) (b_X10_areSo_96 C hk110 hkb hw)
def w_X10_areSo_95 (k110 : PH → Prop) (Q : Int32 → PH → Prop) (kb : Int32 → PH → Prop) (x1 : Int32) (x2 : Int32) (x3 : Int32) (x4 : Int32) (h : PH) : Prop :=
  w_X10_areSo_96 k110 Q kb x1 x2 x3 x4 0 h
set_option maxRecDepth 8000 in
theorem b_X10_areSo_95 {D : va_G} {ca : Nat → ClassId} {ad : Nat → Nat} {K : Kt} {k110 : PH → Prop} {kb : Int32 → PH → Prop} {Q : Int32 → PH → Prop} {x1 : Int32} {x2 : Int32} {x3 : Int32} {x4 : Int32} {h : PH} (C : CX (GM D ca ad) (XS (GM D ca ad)) cX10_areSo RX10 6 (some .boolean) 5 K) (hk110 : ∀ (h : PH), k110 h → PW (GM D ca ad) K 6 (qI Q) h 110 [none, none, none, none, none, none] []) (hkb : ∀ (x4 : Int32) (h : PH), kb x4 h → PW (GM D ca ad) K 6 (qI Q) h 3 [some (.ref 0), some (.int x1), some (.int x2), some (.int x3), some (.int x4), none] []) (hw : w_X10_areSo_95 k110 Q kb x1 x2 x3 x4 h) : PW (GM D ca ad) K 6 (qI Q) h 95 [some (.ref 0), some (.int x1), some (.int x2), some (.int x3), some (.int x4), none] [] := by
  unfold w_X10_areSo_95 at hw
  refine PW.iconst (v := 0) C dX10_areSo_95 (by decide) ?_
  exact PW.wk (wk_s (wk_s (wk_s (wk_s (wk_s (wk_n wk_0)))))) (b_X10_areSo_96 C hk110 hkb hw)
def w_X10_areSo_3 (k110 : PH → Prop) (k118 : PH → Prop) (Q : Int32 → PH → Prop) (x1 : Int32) (x2 : Int32) (x3 : Int32) (kb : Int32 → PH → Prop) (x4 : Int32) (h : PH) : Prop :=
  w_X10_knownMany h (fun z2 h1 => if z2 ≤ x4 then (k118 h1) else (vp_in x4 24 ∧ if (gI h1 71 (iN x4)) = 0 then (vp_in x4 24 ∧ if (gI h1 70 (iN x4)) = (-1) then (vp_in x4 24 ∧ vp_in x4 24 ∧ vp_in ((48 * (gI h1 67 (iN x4))) + (gI h1 68 (iN x4))) 288 ∧ if (gI h1 51 (iN ((48 * (gI h1 67 (iN x4))) + (gI h1 68 (iN x4))))) = (-1) then (vp_in x4 24 ∧ if (gI h1 68 (iN x4)) = x2 then (vp_in x4 24 ∧ w_X10_carries x1 x3 (gI h1 67 (iN x4)) x2 h1 (fun z12 h11 => if z12 = 0 then (w_X10_areSo_95 k110 Q kb x1 x2 x3 x4 h11) else (w_X10_areSo_91 k110 Q kb x1 x2 x3 x4 h11))) else (w_X10_areSo_95 k110 Q kb x1 x2 x3 x4 h1)) else (w_X10_areSo_91 k110 Q kb x1 x2 x3 x4 h1)) else (kb (x4 + 1) h1)) else (kb (x4 + 1) h1)))
set_option maxRecDepth 8000 in
theorem b_X10_areSo_3 {D : va_G} {ca : Nat → ClassId} {ad : Nat → Nat} {K : Kt} {k110 : PH → Prop} {k118 : PH → Prop} {kb : Int32 → PH → Prop} {Q : Int32 → PH → Prop} {x1 : Int32} {x2 : Int32} {x3 : Int32} {x4 : Int32} {h : PH} (C : CX (GM D ca ad) (XS (GM D ca ad)) cX10_areSo RX10 6 (some .boolean) 5 K) (hk110 : ∀ (h : PH), k110 h → PW (GM D ca ad) K 6 (qI Q) h 110 [none, none, none, none, none, none] []) (hk118 : ∀ (h : PH), k118 h → PW (GM D ca ad) K 6 (qI Q) h 118 [none, none, none, none, none, none] []) (hkb : ∀ (x4 : Int32) (h : PH), kb x4 h → PW (GM D ca ad) K 6 (qI Q) h 3 [some (.ref 0), some (.int x1), some (.int x2), some (.int x3), some (.int x4), none] []) (hw : w_X10_areSo_3 k110 k118 Q x1 x2 x3 kb x4 h) : PW (GM D ca ad) K 6 (qI Q) h 3 [some (.ref 0), some (.int x1), some (.int x2), some (.int x3), some (.int x4), none] [] := by
  unfold w_X10_areSo_3 at hw
  refine PW.ild4 C dX10_areSo_3 ?_
  refine PW.ald0n C dX10_areSo_5 ?_
  refine PW.callVI0 C ms_X10_knownMany ml_X10_623 dX10_areSo_6 oM_0 ⟨_, _, rfl⟩ (Nat.le_of_ble_eq_true rfl) (by decide) (Nat.le_of_ble_eq_true rfl) (s_X10_knownMany hw) ?_
  clear hw
  intro z2 h1 hw
  refine PW.icmp_ge (tgt := 118) C dX10_areSo_9 (by decide) (fun c => ?_) (fun c => ?_)
  · rw [if_pos c] at hw
    exact PW.wk (wk_n (wk_n (wk_n (wk_n (wk_n (wk_n wk_0)))))) (hk118 _ hw)
  · rw [if_neg c] at hw
    refine PW.ald0n C dX10_areSo_12 ?_
    refine PW.get0 (v := .ref 71) C cf_10 fl_X10_229 (by decide) oM_0 (fvR (o := 71) rfl) dX10_areSo_13 ?_
    refine PW.ild4 C dX10_areSo_16 ?_
    obtain ⟨hc3, hw⟩ := hw
    refine PW.zald C dX10_areSo_18 aM_71 hc3 ?_
    refine PW.if_ne (tgt := 112) C dX10_areSo_19 (by decide) (fun c => ?_) (fun c => ?_)
    · rw [if_neg c] at hw
      refine PW.inc4 (v := 1) C dX10_areSo_112 (by decide) rfl (by decide) ?_
      refine PW.goto (tgt := 3) C dX10_areSo_115 (by decide) ?_
      exact PW.wk (wk_s (wk_s (wk_s (wk_s (wk_s (wk_n wk_0)))))) (hkb _ _ hw)
    · rw [if_pos c] at hw
      refine PW.ald0n C dX10_areSo_22 ?_
      refine PW.get0 (v := .ref 70) C cf_10 fl_X10_226 (by decide) oM_0 (fvR (o := 70) rfl) dX10_areSo_23 ?_
      refine PW.ild4 C dX10_areSo_26 ?_
      obtain ⟨hc4, hw⟩ := hw
      refine PW.iald C dX10_areSo_28 aM_70 hc4 ?_
      refine PW.iconst (v := (-1)) C dX10_areSo_29 (by decide) ?_
      refine PW.icmp_eq (tgt := 36) C dX10_areSo_30 (by decide) (fun c => ?_) (fun c => ?_)
      · rw [if_pos c] at hw
        refine PW.ald0n C dX10_areSo_36 ?_
        refine PW.get0 (v := .ref 51) C cf_10 fl_X10_165 (by decide) oM_0 (fvR (o := 51) rfl) dX10_areSo_37 ?_
        refine PW.bipush (v := 48) C dX10_areSo_40 (by decide) ?_
        refine PW.ald0n C dX10_areSo_42 ?_
        refine PW.get0 (v := .ref 67) C cf_10 fl_X10_217 (by decide) oM_0 (fvR (o := 67) rfl) dX10_areSo_43 ?_
        refine PW.ild4 C dX10_areSo_46 ?_
        obtain ⟨hc5, hw⟩ := hw
        refine PW.iald C dX10_areSo_48 aM_67 hc5 ?_
        refine PW.imul C dX10_areSo_49 ?_
        refine PW.ald0n C dX10_areSo_50 ?_
        refine PW.get0 (v := .ref 68) C cf_10 fl_X10_220 (by decide) oM_0 (fvR (o := 68) rfl) dX10_areSo_51 ?_
        refine PW.ild4 C dX10_areSo_54 ?_
        obtain ⟨hc6, hw⟩ := hw
        refine PW.iald C dX10_areSo_56 aM_68 hc6 ?_
        refine PW.iadd C dX10_areSo_57 ?_
        obtain ⟨hc7, hw⟩ := hw
        refine PW.iald C dX10_areSo_58 aM_51 hc7 ?_
        refine PW.iconst (v := (-1)) C dX10_areSo_59 (by decide) ?_
        refine PW.icmp_ne (tgt := 91) C dX10_areSo_60 (by decide) (fun c => ?_) (fun c => ?_)
        · rw [if_neg c] at hw
          exact PW.wk (wk_s (wk_s (wk_s (wk_s (wk_s (wk_n wk_0)))))) (b_X10_areSo_91 C hk110 hkb hw)
        · rw [if_pos c] at hw
          refine PW.ald0n C dX10_areSo_63 ?_
          refine PW.get0 (v := .ref 68) C cf_10 fl_X10_220 (by decide) oM_0 (fvR (o := 68) rfl) dX10_areSo_64 ?_
          refine PW.ild4 C dX10_areSo_67 ?_
          obtain ⟨hc9, hw⟩ := hw
          refine PW.iald C dX10_areSo_69 aM_68 hc9 ?_
          refine PW.ild2n C dX10_areSo_70 ?_
          refine PW.icmp_ne (tgt := 95) C dX10_areSo_71 (by decide) (fun c => ?_) (fun c => ?_)
          · rw [if_neg c] at hw
            exact PW.wk (wk_s (wk_s (wk_s (wk_s (wk_s (wk_n wk_0)))))) (b_X10_areSo_95 C hk110 hkb hw)
          · rw [if_pos c] at hw
            refine PW.ald0n C dX10_areSo_74 ?_
            refine PW.ild1n C dX10_areSo_75 ?_
            refine PW.ild3n C dX10_areSo_76 ?_
            refine PW.ald0n C dX10_areSo_77 ?_
            refine PW.get0 (v := .ref 67) C cf_10 fl_X10_217 (by decide) oM_0 (fvR (o := 67) rfl) dX10_areSo_78 ?_
            refine PW.ild4 C dX10_areSo_81 ?_
            obtain ⟨hc10, hw⟩ := hw
            refine PW.iald C dX10_areSo_83 aM_67 hc10 ?_
            refine PW.ild2n C dX10_areSo_84 ?_
            refine PW.callVI4 C ms_X10_carries ml_X10_476 dX10_areSo_85 oM_0 ⟨_, _, rfl⟩ (Nat.le_of_ble_eq_true rfl) (by decide) (Nat.le_of_ble_eq_true rfl) (s_X10_carries hw) ?_
            clear hw
            intro z12 h11 hw
            refine PW.if_eq (tgt := 95) C dX10_areSo_88 (by decide) (fun c => ?_) (fun c => ?_)
            · rw [if_pos c] at hw
              exact PW.wk (wk_s (wk_s (wk_s (wk_s (wk_s (wk_n wk_0)))))) (b_X10_areSo_95 C hk110 hkb hw)
            · rw [if_neg c] at hw
              exact PW.wk (wk_s (wk_s (wk_s (wk_s (wk_s (wk_n wk_0)))))) (b_X10_areSo_91 C hk110 hkb hw)
      · rw [if_neg c] at hw
        refine PW.goto (tgt := 112) C dX10_areSo_33 (by decide) ?_
        refine PW.inc4 (v := 1) C dX10_areSo_112 (by decide) rfl (by decide) ?_
        refine PW.goto (tgt := 3) C dX10_areSo_115 (by decide) ?_
        exact PW.wk (wk_s (wk_s (wk_s (wk_s (wk_s (wk_n wk_0)))))) (hkb _ _ hw)
theorem l_X10_areSo_3 {D : va_G} {ca : Nat → ClassId} {ad : Nat → Nat} {K : Kt} {k110 : PH → Prop} {k118 : PH → Prop} {Q : Int32 → PH → Prop} {x1 : Int32} {x2 : Int32} {x3 : Int32} (C : CX (GM D ca ad) (XS (GM D ca ad)) cX10_areSo RX10 6 (some .boolean) 5 K) (hk110 : ∀ (h : PH), k110 h → PW (GM D ca ad) K 6 (qI Q) h 110 [none, none, none, none, none, none] []) (hk118 : ∀ (h : PH), k118 h → PW (GM D ca ad) K 6 (qI Q) h 118 [none, none, none, none, none, none] []) : ∀ (n : Nat) (x4 : Int32) (h : PH), Lp1 (w_X10_areSo_3 k110 k118 Q x1 x2 x3) n x4 h → PW (GM D ca ad) K 6 (qI Q) h 3 [some (.ref 0), some (.int x1), some (.int x2), some (.int x3), some (.int x4), none] [] := by
  intro n
  induction n with
  | zero => intro x4 h hw; exact hw.elim
  | succ n ih => intro x4 h hw; exact b_X10_areSo_3 C hk110 hk118 (fun x4 h hw => ih x4 h hw) hw
def w_X10_areSo (x1 : Int32) (x2 : Int32) (x3 : Int32) (h : PH) (Q : Int32 → PH → Prop) : Prop :=
  ∃ n, Lp1 (w_X10_areSo_3 (fun h13 => Q 0 h13) (fun h14 => Q 1 h14) Q x1 x2 x3) n 0 h
set_option maxRecDepth 8000 in
theorem s_X10_areSo {D : va_G} {ca : Nat → ClassId} {ad : Nat → Nat} {l : Launch} {x1 : Int32} {x2 : Int32} {x3 : Int32} {h : PH} {Q : Int32 → PH → Prop} (hw : w_X10_areSo x1 x2 x3 h Q) : Sp (GM D ca ad) (XS (GM D ca ad)) l 5 yX10_areSo cX10_areSo 6 (some .boolean) [.ref 0, .int x1, .int x2, .int x3] h (qI Q) := by
  refine Sp.of (own := RX10) [some (.ref 0), some (.int x1), some (.int x2), some (.int x3), none, none] (by decide +kernel) rfl rfl (Nat.le_of_ble_eq_true rfl) (fun K hl C => ?_)
  subst hl
  unfold w_X10_areSo at hw
  refine PW.iconst (v := 0) C dX10_areSo_0 (by decide) ?_
  refine PW.ist4 C dX10_areSo_1 (by decide) rfl ?_
  obtain ⟨n, hw⟩ := hw
  refine PW.wk (wk_s (wk_s (wk_s (wk_s (wk_s (wk_n wk_0)))))) (l_X10_areSo_3 C ?_ ?_ n _ _ hw)
  · intro h13 hw
    refine PW.iconst (v := 0) C dX10_areSo_110 (by decide) ?_
    exact PW.zret C dX10_areSo_111 (by decide) ⟨_, rfl, hw⟩
  · intro h14 hw
    refine PW.iconst (v := 1) C dX10_areSo_118 (by decide) ?_
    exact PW.zret C dX10_areSo_119 (by decide) ⟨_, rfl, hw⟩
def w_X10_layThieves_2 (k23 : PH → Prop) (Q : Int32 → PH → Prop) (x1 : Int32) (kb : Int32 → PH → Prop) (x2 : Int32) (h : PH) : Prop :=
  w_X10_knownMany h (fun z2 h1 => if z2 ≤ x2 then (k23 h1) else (vp_in x2 24 ∧ ∀ h4, h4 = sI h1 71 (iN x2) (vp_nar .boolean 0) → kb (x2 + 1) h4))
set_option maxRecDepth 8000 in
theorem b_X10_layThieves_2 {D : va_G} {ca : Nat → ClassId} {ad : Nat → Nat} {K : Kt} {k23 : PH → Prop} {kb : Int32 → PH → Prop} {Q : Int32 → PH → Prop} {x1 : Int32} {x2 : Int32} {h : PH} (C : CX (GM D ca ad) (XS (GM D ca ad)) cX10_layThieves RX10 6 (some .int) 8 K) (hk23 : ∀ (h : PH), k23 h → PW (GM D ca ad) K 6 (qI Q) h 23 [some (.ref 0), some (.int x1), none, none, none, none] []) (hkb : ∀ (x2 : Int32) (h : PH), kb x2 h → PW (GM D ca ad) K 6 (qI Q) h 2 [some (.ref 0), some (.int x1), some (.int x2), none, none, none] []) (hw : w_X10_layThieves_2 k23 Q x1 kb x2 h) : PW (GM D ca ad) K 6 (qI Q) h 2 [some (.ref 0), some (.int x1), some (.int x2), none, none, none] [] := by
  unfold w_X10_layThieves_2 at hw
  refine PW.ild2n C dX10_layThieves_2 ?_
  refine PW.ald0n C dX10_layThieves_3 ?_
  refine PW.callVI0 C ms_X10_knownMany ml_X10_623 dX10_layThieves_4 oM_0 ⟨_, _, rfl⟩ (Nat.le_of_ble_eq_true rfl) (by decide) (Nat.le_of_ble_eq_true rfl) (s_X10_knownMany hw) ?_
  clear hw
  intro z2 h1 hw
  refine PW.icmp_ge (tgt := 23) C dX10_layThieves_7 (by decide) (fun c => ?_) (fun c => ?_)
  · rw [if_pos c] at hw
    exact PW.wk (wk_s (wk_s (wk_n (wk_n (wk_n (wk_n wk_0)))))) (hk23 _ hw)
  · rw [if_neg c] at hw
    refine PW.ald0n C dX10_layThieves_10 ?_
    refine PW.get0 (v := .ref 71) C cf_10 fl_X10_229 (by decide) oM_0 (fvR (o := 71) rfl) dX10_layThieves_11 ?_
    refine PW.ild2n C dX10_layThieves_14 ?_
    refine PW.iconst (v := 0) C dX10_layThieves_15 (by decide) ?_
    obtain ⟨hc3, hw⟩ := hw
    replace hw := hw _ rfl
    refine PW.zast C dX10_layThieves_16 aM_71 hc3 ?_
    refine PW.inc2 (v := 1) C dX10_layThieves_17 (by decide) rfl (by decide) ?_
    refine PW.goto (tgt := 2) C dX10_layThieves_20 (by decide) ?_
    exact PW.wk (wk_s (wk_s (wk_s (wk_n (wk_n (wk_n wk_0)))))) (hkb _ _ hw)
theorem l_X10_layThieves_2 {D : va_G} {ca : Nat → ClassId} {ad : Nat → Nat} {K : Kt} {k23 : PH → Prop} {Q : Int32 → PH → Prop} {x1 : Int32} (C : CX (GM D ca ad) (XS (GM D ca ad)) cX10_layThieves RX10 6 (some .int) 8 K) (hk23 : ∀ (h : PH), k23 h → PW (GM D ca ad) K 6 (qI Q) h 23 [some (.ref 0), some (.int x1), none, none, none, none] []) : ∀ (n : Nat) (x2 : Int32) (h : PH), Lp1 (w_X10_layThieves_2 k23 Q x1) n x2 h → PW (GM D ca ad) K 6 (qI Q) h 2 [some (.ref 0), some (.int x1), some (.int x2), none, none, none] [] := by
  intro n
  induction n with
  | zero => intro x2 h hw; exact hw.elim
  | succ n ih => intro x2 h hw; exact b_X10_layThieves_2 C hk23 (fun x2 h hw => ih x2 h hw) hw
def w_X10_layThieves_30 (k71 : PH → Prop) (Q : Int32 → PH → Prop) (x1 : Int32) (kb : Int32 → PH → Prop) (x2 : Int32) (h : PH) : Prop :=
  if x2 < 0 then (k71 h) else (vp_in x2 24 ∧ if (gI h 71 (iN x2)) = 0 then (vp_in x2 24 ∧ if (gI h 70 (iN x2)) = (-1) then (kb (x2 + (-1)) h) else (vp_in x2 24 ∧ vp_in (gI h 70 (iN x2)) 24 ∧ ∀ h13, h13 = sI h 71 (iN (gI h 70 (iN x2))) (vp_nar .boolean 1) → kb (x2 + (-1)) h13)) else (kb (x2 + (-1)) h))
set_option maxRecDepth 8000 in
theorem b_X10_layThieves_30 {D : va_G} {ca : Nat → ClassId} {ad : Nat → Nat} {K : Kt} {k71 : PH → Prop} {kb : Int32 → PH → Prop} {Q : Int32 → PH → Prop} {x1 : Int32} {x2 : Int32} {h : PH} (C : CX (GM D ca ad) (XS (GM D ca ad)) cX10_layThieves RX10 6 (some .int) 8 K) (hk71 : ∀ (h : PH), k71 h → PW (GM D ca ad) K 6 (qI Q) h 71 [some (.ref 0), some (.int x1), none, none, none, none] []) (hkb : ∀ (x2 : Int32) (h : PH), kb x2 h → PW (GM D ca ad) K 6 (qI Q) h 30 [some (.ref 0), some (.int x1), some (.int x2), none, none, none] []) (hw : w_X10_layThieves_30 k71 Q x1 kb x2 h) : PW (GM D ca ad) K 6 (qI Q) h 30 [some (.ref 0), some (.int x1), some (.int x2), none, none, none] [] := by
  unfold w_X10_layThieves_30 at hw
  refine PW.ild2n C dX10_layThieves_30 ?_
  refine PW.if_lt (tgt := 71) C dX10_layThieves_31 (by decide) (fun c => ?_) (fun c => ?_)
  · rw [if_pos c] at hw
    exact PW.wk (wk_s (wk_s (wk_n (wk_n (wk_n (wk_n wk_0)))))) (hk71 _ hw)
  · rw [if_neg c] at hw
    refine PW.ald0n C dX10_layThieves_34 ?_
    refine PW.get0 (v := .ref 71) C cf_10 fl_X10_229 (by decide) oM_0 (fvR (o := 71) rfl) dX10_layThieves_35 ?_
    refine PW.ild2n C dX10_layThieves_38 ?_
    obtain ⟨hc9, hw⟩ := hw
    refine PW.zald C dX10_layThieves_39 aM_71 hc9 ?_
    refine PW.if_ne (tgt := 65) C dX10_layThieves_40 (by decide) (fun c => ?_) (fun c => ?_)
    · rw [if_neg c] at hw
      refine PW.inc2 (v := (-1)) C dX10_layThieves_65 (by decide) rfl (by decide) ?_
      refine PW.goto (tgt := 30) C dX10_layThieves_68 (by decide) ?_
      exact PW.wk (wk_s (wk_s (wk_s (wk_n (wk_n (wk_n wk_0)))))) (hkb _ _ hw)
    · rw [if_pos c] at hw
      refine PW.ald0n C dX10_layThieves_43 ?_
      refine PW.get0 (v := .ref 70) C cf_10 fl_X10_226 (by decide) oM_0 (fvR (o := 70) rfl) dX10_layThieves_44 ?_
      refine PW.ild2n C dX10_layThieves_47 ?_
      obtain ⟨hc10, hw⟩ := hw
      refine PW.iald C dX10_layThieves_48 aM_70 hc10 ?_
      refine PW.iconst (v := (-1)) C dX10_layThieves_49 (by decide) ?_
      refine PW.icmp_eq (tgt := 65) C dX10_layThieves_50 (by decide) (fun c => ?_) (fun c => ?_)
      · rw [if_pos c] at hw
        refine PW.inc2 (v := (-1)) C dX10_layThieves_65 (by decide) rfl (by decide) ?_
        refine PW.goto (tgt := 30) C dX10_layThieves_68 (by decide) ?_
        exact PW.wk (wk_s (wk_s (wk_s (wk_n (wk_n (wk_n wk_0)))))) (hkb _ _ hw)
      · rw [if_neg c] at hw
        refine PW.ald0n C dX10_layThieves_53 ?_
        refine PW.get0 (v := .ref 71) C cf_10 fl_X10_229 (by decide) oM_0 (fvR (o := 71) rfl) dX10_layThieves_54 ?_
        refine PW.ald0n C dX10_layThieves_57 ?_
        refine PW.get0 (v := .ref 70) C cf_10 fl_X10_226 (by decide) oM_0 (fvR (o := 70) rfl) dX10_layThieves_58 ?_
        refine PW.ild2n C dX10_layThieves_61 ?_
        obtain ⟨hc11, hw⟩ := hw
        refine PW.iald C dX10_layThieves_62 aM_70 hc11 ?_
        refine PW.iconst (v := 1) C dX10_layThieves_63 (by decide) ?_
        obtain ⟨hc12, hw⟩ := hw
        replace hw := hw _ rfl
        refine PW.zast C dX10_layThieves_64 aM_71 hc12 ?_
        refine PW.inc2 (v := (-1)) C dX10_layThieves_65 (by decide) rfl (by decide) ?_
        refine PW.goto (tgt := 30) C dX10_layThieves_68 (by decide) ?_
        exact PW.wk (wk_s (wk_s (wk_s (wk_n (wk_n (wk_n wk_0)))))) (hkb _ _ hw)
theorem l_X10_layThieves_30 {D : va_G} {ca : Nat → ClassId} {ad : Nat → Nat} {K : Kt} {k71 : PH → Prop} {Q : Int32 → PH → Prop} {x1 : Int32} (C : CX (GM D ca ad) (XS (GM D ca ad)) cX10_layThieves RX10 6 (some .int) 8 K) (hk71 : ∀ (h : PH), k71 h → PW (GM D ca ad) K 6 (qI Q) h 71 [some (.ref 0), some (.int x1), none, none, none, none] []) : ∀ (n : Nat) (x2 : Int32) (h : PH), Lp1 (w_X10_layThieves_30 k71 Q x1) n x2 h → PW (GM D ca ad) K 6 (qI Q) h 30 [some (.ref 0), some (.int x1), some (.int x2), none, none, none] [] := by
  intro n
  induction n with
  | zero => intro x2 h hw; exact hw.elim
  | succ n ih => intro x2 h hw; exact b_X10_layThieves_30 C hk71 (fun x2 h hw => ih x2 h hw) hw
def w_X10_layThieves_102 (k155 : Int32 → PH → Prop) (Q : Int32 → PH → Prop) (x1 : Int32) (x3 : Int32) (x4 : Int32) (kb : Int32 → Int32 → PH → Prop) (x2 : Int32) (x5 : Int32) (h : PH) : Prop :=
  if 20 < x5 then (k155 x2 h) else (w_X10_areSo x3 x4 x5 h (fun z17 h16 => if z17 = 0 then (kb x2 (x5 + 1) h16) else (if x2 = x1 then (∀ h18, h18 = sI h16 0 101 x3 → ∀ h19, h19 = sI h18 0 102 x4 → ∀ h20, h20 = sI h19 0 103 x5 → kb (x2 + 1) (x5 + 1) h20) else (kb (x2 + 1) (x5 + 1) h16))))
set_option maxRecDepth 8000 in
theorem b_X10_layThieves_102 {D : va_G} {ca : Nat → ClassId} {ad : Nat → Nat} {K : Kt} {k155 : Int32 → PH → Prop} {kb : Int32 → Int32 → PH → Prop} {Q : Int32 → PH → Prop} {x1 : Int32} {x3 : Int32} {x4 : Int32} {x2 : Int32} {x5 : Int32} {h : PH} (C : CX (GM D ca ad) (XS (GM D ca ad)) cX10_layThieves RX10 6 (some .int) 8 K) (hk155 : ∀ (x2 : Int32) (h : PH), k155 x2 h → PW (GM D ca ad) K 6 (qI Q) h 155 [some (.ref 0), some (.int x1), some (.int x2), some (.int x3), some (.int x4), none] []) (hkb : ∀ (x2 : Int32) (x5 : Int32) (h : PH), kb x2 x5 h → PW (GM D ca ad) K 6 (qI Q) h 102 [some (.ref 0), some (.int x1), some (.int x2), some (.int x3), some (.int x4), some (.int x5)] []) (hw : w_X10_layThieves_102 k155 Q x1 x3 x4 kb x2 x5 h) : PW (GM D ca ad) K 6 (qI Q) h 102 [some (.ref 0), some (.int x1), some (.int x2), some (.int x3), some (.int x4), some (.int x5)] [] := by
  unfold w_X10_layThieves_102 at hw
  refine PW.ild5 C dX10_layThieves_102 ?_
  refine PW.bipush (v := 20) C dX10_layThieves_104 (by decide) ?_
  refine PW.icmp_gt (tgt := 155) C dX10_layThieves_106 (by decide) (fun c => ?_) (fun c => ?_)
  · rw [if_pos c] at hw
    exact PW.wk (wk_s (wk_s (wk_s (wk_s (wk_s (wk_n wk_0)))))) (hk155 _ _ hw)
  · rw [if_neg c] at hw
    refine PW.ald0n C dX10_layThieves_109 ?_
    refine PW.ild3n C dX10_layThieves_110 ?_
    refine PW.ild4 C dX10_layThieves_111 ?_
    refine PW.ild5 C dX10_layThieves_113 ?_
    refine PW.callVI3 C ms_X10_areSo ml_X10_626 dX10_layThieves_115 oM_0 ⟨_, _, rfl⟩ (Nat.le_of_ble_eq_true rfl) (by decide) (Nat.le_of_ble_eq_true rfl) (s_X10_areSo hw) ?_
    clear hw
    intro z17 h16 hw
    refine PW.if_ne (tgt := 124) C dX10_layThieves_118 (by decide) (fun c => ?_) (fun c => ?_)
    · rw [if_neg c] at hw
      refine PW.ild2n C dX10_layThieves_124 ?_
      refine PW.ild1n C dX10_layThieves_125 ?_
      refine PW.icmp_ne (tgt := 146) C dX10_layThieves_126 (by decide) (fun c => ?_) (fun c => ?_)
      · rw [if_neg c] at hw
        refine PW.inc2 (v := 1) C dX10_layThieves_146 (by decide) rfl (by decide) ?_
        refine PW.inc5 (v := 1) C dX10_layThieves_149 (by decide) rfl (by decide) ?_
        refine PW.goto (tgt := 102) C dX10_layThieves_152 (by decide) ?_
        exact PW.wk (wk_s (wk_s (wk_s (wk_s (wk_s (wk_s wk_0)))))) (hkb _ _ _ hw)
      · rw [if_pos c] at hw
        refine PW.ald0n C dX10_layThieves_129 ?_
        refine PW.ild3n C dX10_layThieves_130 ?_
        replace hw := hw _ rfl
        refine PW.put0 C cf_10 fl_X10_629 (by decide) oM_0 rfl rfl rfl (pw_sI oM_0 (by decide) rfl) dX10_layThieves_131 ?_
        refine PW.ald0n C dX10_layThieves_134 ?_
        refine PW.ild4 C dX10_layThieves_135 ?_
        replace hw := hw _ rfl
        refine PW.put0 C cf_10 fl_X10_632 (by decide) oM_0 rfl rfl rfl (pw_sI oM_0 (by decide) rfl) dX10_layThieves_137 ?_
        refine PW.ald0n C dX10_layThieves_140 ?_
        refine PW.ild5 C dX10_layThieves_141 ?_
        replace hw := hw _ rfl
        refine PW.put0 C cf_10 fl_X10_635 (by decide) oM_0 rfl rfl rfl (pw_sI oM_0 (by decide) rfl) dX10_layThieves_143 ?_
        refine PW.inc2 (v := 1) C dX10_layThieves_146 (by decide) rfl (by decide) ?_
        refine PW.inc5 (v := 1) C dX10_layThieves_149 (by decide) rfl (by decide) ?_
        refine PW.goto (tgt := 102) C dX10_layThieves_152 (by decide) ?_
        exact PW.wk (wk_s (wk_s (wk_s (wk_s (wk_s (wk_s wk_0)))))) (hkb _ _ _ hw)
    · rw [if_pos c] at hw
      refine PW.goto (tgt := 149) C dX10_layThieves_121 (by decide) ?_
      refine PW.inc5 (v := 1) C dX10_layThieves_149 (by decide) rfl (by decide) ?_
      refine PW.goto (tgt := 102) C dX10_layThieves_152 (by decide) ?_
      exact PW.wk (wk_s (wk_s (wk_s (wk_s (wk_s (wk_s wk_0)))))) (hkb _ _ _ hw)
theorem l_X10_layThieves_102 {D : va_G} {ca : Nat → ClassId} {ad : Nat → Nat} {K : Kt} {k155 : Int32 → PH → Prop} {Q : Int32 → PH → Prop} {x1 : Int32} {x3 : Int32} {x4 : Int32} (C : CX (GM D ca ad) (XS (GM D ca ad)) cX10_layThieves RX10 6 (some .int) 8 K) (hk155 : ∀ (x2 : Int32) (h : PH), k155 x2 h → PW (GM D ca ad) K 6 (qI Q) h 155 [some (.ref 0), some (.int x1), some (.int x2), some (.int x3), some (.int x4), none] []) : ∀ (n : Nat) (x2 : Int32) (x5 : Int32) (h : PH), Lp2 (w_X10_layThieves_102 k155 Q x1 x3 x4) n x2 x5 h → PW (GM D ca ad) K 6 (qI Q) h 102 [some (.ref 0), some (.int x1), some (.int x2), some (.int x3), some (.int x4), some (.int x5)] [] := by
  intro n
  induction n with
  | zero => intro x2 x5 h hw; exact hw.elim
  | succ n ih => intro x2 x5 h hw; exact b_X10_layThieves_102 C hk155 (fun x2 x5 h hw => ih x2 x5 h hw) hw
def w_X10_layThieves_92 (k161 : Int32 → PH → Prop) (Q : Int32 → PH → Prop) (x1 : Int32) (x3 : Int32) (kb : Int32 → Int32 → PH → Prop) (x2 : Int32) (x4 : Int32) (h : PH) : Prop :=
  if 48 ≤ x4 then (k161 x2 h) else (∃ n, Lp2 (w_X10_layThieves_102 (fun y22 h21 => kb y22 (x4 + 1) h21) Q x1 x3 x4) n x2 1 h)
set_option maxRecDepth 8000 in
theorem b_X10_layThieves_92 {D : va_G} {ca : Nat → ClassId} {ad : Nat → Nat} {K : Kt} {k161 : Int32 → PH → Prop} {kb : Int32 → Int32 → PH → Prop} {Q : Int32 → PH → Prop} {x1 : Int32} {x3 : Int32} {x2 : Int32} {x4 : Int32} {h : PH} (C : CX (GM D ca ad) (XS (GM D ca ad)) cX10_layThieves RX10 6 (some .int) 8 K) (hk161 : ∀ (x2 : Int32) (h : PH), k161 x2 h → PW (GM D ca ad) K 6 (qI Q) h 161 [some (.ref 0), some (.int x1), some (.int x2), some (.int x3), none, none] []) (hkb : ∀ (x2 : Int32) (x4 : Int32) (h : PH), kb x2 x4 h → PW (GM D ca ad) K 6 (qI Q) h 92 [some (.ref 0), some (.int x1), some (.int x2), some (.int x3), some (.int x4), none] []) (hw : w_X10_layThieves_92 k161 Q x1 x3 kb x2 x4 h) : PW (GM D ca ad) K 6 (qI Q) h 92 [some (.ref 0), some (.int x1), some (.int x2), some (.int x3), some (.int x4), none] [] := by
  unfold w_X10_layThieves_92 at hw
  refine PW.ild4 C dX10_layThieves_92 ?_
  refine PW.bipush (v := 48) C dX10_layThieves_94 (by decide) ?_
  refine PW.icmp_ge (tgt := 161) C dX10_layThieves_96 (by decide) (fun c => ?_) (fun c => ?_)
  · rw [if_pos c] at hw
    exact PW.wk (wk_s (wk_s (wk_s (wk_s (wk_n (wk_n wk_0)))))) (hk161 _ _ hw)
  · rw [if_neg c] at hw
    refine PW.iconst (v := 1) C dX10_layThieves_99 (by decide) ?_
    refine PW.ist5 C dX10_layThieves_100 (by decide) rfl ?_
    obtain ⟨n, hw⟩ := hw
    refine PW.wk (wk_s (wk_s (wk_s (wk_s (wk_s (wk_s wk_0)))))) (l_X10_layThieves_102 C ?_ n _ _ _ hw)
    · intro y22 h21 hw
      refine PW.inc4 (v := 1) C dX10_layThieves_155 (by decide) rfl (by decide) ?_
      refine PW.goto (tgt := 92) C dX10_layThieves_158 (by decide) ?_
      exact PW.wk (wk_s (wk_s (wk_s (wk_s (wk_s (wk_n wk_0)))))) (hkb _ _ _ hw)
theorem l_X10_layThieves_92 {D : va_G} {ca : Nat → ClassId} {ad : Nat → Nat} {K : Kt} {k161 : Int32 → PH → Prop} {Q : Int32 → PH → Prop} {x1 : Int32} {x3 : Int32} (C : CX (GM D ca ad) (XS (GM D ca ad)) cX10_layThieves RX10 6 (some .int) 8 K) (hk161 : ∀ (x2 : Int32) (h : PH), k161 x2 h → PW (GM D ca ad) K 6 (qI Q) h 161 [some (.ref 0), some (.int x1), some (.int x2), some (.int x3), none, none] []) : ∀ (n : Nat) (x2 : Int32) (x4 : Int32) (h : PH), Lp2 (w_X10_layThieves_92 k161 Q x1 x3) n x2 x4 h → PW (GM D ca ad) K 6 (qI Q) h 92 [some (.ref 0), some (.int x1), some (.int x2), some (.int x3), some (.int x4), none] [] := by
  intro n
  induction n with
  | zero => intro x2 x4 h hw; exact hw.elim
  | succ n ih => intro x2 x4 h hw; exact b_X10_layThieves_92 C hk161 (fun x2 x4 h hw => ih x2 x4 h hw) hw
def w_X10_layThieves_79 (k167 : Int32 → PH → Prop) (Q : Int32 → PH → Prop) (x1 : Int32) (kb : Int32 → Int32 → PH → Prop) (x2 : Int32) (x3 : Int32) (h : PH) : Prop :=
  if (gI h 2 (iN 0)) ≤ x3 then (k167 x2 h) else (∃ n, Lp2 (w_X10_layThieves_92 (fun y24 h23 => kb y24 (x3 + 1) h23) Q x1 x3) n x2 0 h)
set_option maxRecDepth 8000 in
theorem b_X10_layThieves_79 {D : va_G} {ca : Nat → ClassId} {ad : Nat → Nat} {K : Kt} {k167 : Int32 → PH → Prop} {kb : Int32 → Int32 → PH → Prop} {Q : Int32 → PH → Prop} {x1 : Int32} {x2 : Int32} {x3 : Int32} {h : PH} (C : CX (GM D ca ad) (XS (GM D ca ad)) cX10_layThieves RX10 6 (some .int) 8 K) (hk167 : ∀ (x2 : Int32) (h : PH), k167 x2 h → PW (GM D ca ad) K 6 (qI Q) h 167 [none, none, some (.int x2), none, none, none] []) (hkb : ∀ (x2 : Int32) (x3 : Int32) (h : PH), kb x2 x3 h → PW (GM D ca ad) K 6 (qI Q) h 79 [some (.ref 0), some (.int x1), some (.int x2), some (.int x3), none, none] []) (hw : w_X10_layThieves_79 k167 Q x1 kb x2 x3 h) : PW (GM D ca ad) K 6 (qI Q) h 79 [some (.ref 0), some (.int x1), some (.int x2), some (.int x3), none, none] [] := by
  unfold w_X10_layThieves_79 at hw
  refine PW.ild3n C dX10_layThieves_79 ?_
  refine PW.ald0n C dX10_layThieves_80 ?_
  refine PW.get0 (v := .ref 2) C cf_10 fl_X10_13 (by decide) oM_0 (fvR (o := 2) rfl) dX10_layThieves_81 ?_
  refine PW.iconst (v := 0) C dX10_layThieves_84 (by decide) ?_
  refine PW.iald C dX10_layThieves_85 aM_2 (vpl (by decide)) ?_
  refine PW.icmp_ge (tgt := 167) C dX10_layThieves_86 (by decide) (fun c => ?_) (fun c => ?_)
  · rw [if_pos c] at hw
    exact PW.wk (wk_n (wk_n (wk_s (wk_n (wk_n (wk_n wk_0)))))) (hk167 _ _ hw)
  · rw [if_neg c] at hw
    refine PW.iconst (v := 0) C dX10_layThieves_89 (by decide) ?_
    refine PW.ist4 C dX10_layThieves_90 (by decide) rfl ?_
    obtain ⟨n, hw⟩ := hw
    refine PW.wk (wk_s (wk_s (wk_s (wk_s (wk_s (wk_n wk_0)))))) (l_X10_layThieves_92 C ?_ n _ _ _ hw)
    · intro y24 h23 hw
      refine PW.inc3 (v := 1) C dX10_layThieves_161 (by decide) rfl (by decide) ?_
      refine PW.goto (tgt := 79) C dX10_layThieves_164 (by decide) ?_
      exact PW.wk (wk_s (wk_s (wk_s (wk_s (wk_n (wk_n wk_0)))))) (hkb _ _ _ hw)
theorem l_X10_layThieves_79 {D : va_G} {ca : Nat → ClassId} {ad : Nat → Nat} {K : Kt} {k167 : Int32 → PH → Prop} {Q : Int32 → PH → Prop} {x1 : Int32} (C : CX (GM D ca ad) (XS (GM D ca ad)) cX10_layThieves RX10 6 (some .int) 8 K) (hk167 : ∀ (x2 : Int32) (h : PH), k167 x2 h → PW (GM D ca ad) K 6 (qI Q) h 167 [none, none, some (.int x2), none, none, none] []) : ∀ (n : Nat) (x2 : Int32) (x3 : Int32) (h : PH), Lp2 (w_X10_layThieves_79 k167 Q x1) n x2 x3 h → PW (GM D ca ad) K 6 (qI Q) h 79 [some (.ref 0), some (.int x1), some (.int x2), some (.int x3), none, none] [] := by
  intro n
  induction n with
  | zero => intro x2 x3 h hw; exact hw.elim
  | succ n ih => intro x2 x3 h hw; exact b_X10_layThieves_79 C hk167 (fun x2 x3 h hw => ih x2 x3 h hw) hw
def w_X10_layThieves (x1 : Int32) (h : PH) (Q : Int32 → PH → Prop) : Prop :=
  ∃ n, Lp1 (w_X10_layThieves_2 (fun h5 => w_X10_knownMany h5 (fun z7 h6 => ∀ (y8 : Int32), y8 = (z7 - 1) → ∃ n, Lp1 (w_X10_layThieves_30 (fun h14 => w_X10_layDay h14 (fun h15 => ∃ n, Lp2 (w_X10_layThieves_79 (fun y26 h25 => Q y26 h25) Q x1) n 0 0 h15)) Q x1) n y8 h6)) Q x1) n 0 h
set_option maxRecDepth 8000 in
theorem s_X10_layThieves {D : va_G} {ca : Nat → ClassId} {ad : Nat → Nat} {l : Launch} {x1 : Int32} {h : PH} {Q : Int32 → PH → Prop} (hw : w_X10_layThieves x1 h Q) : Sp (GM D ca ad) (XS (GM D ca ad)) l 8 yX10_layThieves cX10_layThieves 6 (some .int) [.ref 0, .int x1] h (qI Q) := by
  refine Sp.of (own := RX10) [some (.ref 0), some (.int x1), none, none, none, none] (by decide +kernel) rfl rfl (Nat.le_of_ble_eq_true rfl) (fun K hl C => ?_)
  subst hl
  unfold w_X10_layThieves at hw
  refine PW.iconst (v := 0) C dX10_layThieves_0 (by decide) ?_
  refine PW.ist2n C dX10_layThieves_1 (by decide) rfl ?_
  obtain ⟨n, hw⟩ := hw
  refine PW.wk (wk_s (wk_s (wk_s (wk_n (wk_n (wk_n wk_0)))))) (l_X10_layThieves_2 C ?_ n _ _ hw)
  · intro h5 hw
    refine PW.ald0n C dX10_layThieves_23 ?_
    refine PW.callVI0 C ms_X10_knownMany ml_X10_623 dX10_layThieves_24 oM_0 ⟨_, _, rfl⟩ (Nat.le_of_ble_eq_true rfl) (by decide) (Nat.le_of_ble_eq_true rfl) (s_X10_knownMany hw) ?_
    clear hw
    intro z7 h6 hw
    refine PW.iconst (v := 1) C dX10_layThieves_27 (by decide) ?_
    refine PW.isub C dX10_layThieves_28 ?_
    replace hw := hw _ rfl
    refine PW.ist2n C dX10_layThieves_29 (by decide) rfl ?_
    obtain ⟨n, hw⟩ := hw
    refine PW.wk (wk_s (wk_s (wk_s (wk_n (wk_n (wk_n wk_0)))))) (l_X10_layThieves_30 C ?_ n _ _ hw)
    · intro h14 hw
      refine PW.ald0n C dX10_layThieves_71 ?_
      refine PW.callVV0 C ms_X10_layDay ml_X10_515 dX10_layThieves_72 oM_0 ⟨_, _, rfl⟩ (Nat.le_of_ble_eq_true rfl) (by decide) (Nat.le_of_ble_eq_true rfl) (s_X10_layDay hw) ?_
      clear hw
      intro h15 hw
      refine PW.iconst (v := 0) C dX10_layThieves_75 (by decide) ?_
      refine PW.ist2n C dX10_layThieves_76 (by decide) rfl ?_
      refine PW.iconst (v := 0) C dX10_layThieves_77 (by decide) ?_
      refine PW.ist3n C dX10_layThieves_78 (by decide) rfl ?_
      obtain ⟨n, hw⟩ := hw
      refine PW.wk (wk_s (wk_s (wk_s (wk_s (wk_n (wk_n wk_0)))))) (l_X10_layThieves_79 C ?_ n _ _ _ hw)
      · intro y26 h25 hw
        refine PW.ild2n C dX10_layThieves_167 ?_
        exact PW.iret C dX10_layThieves_168 ⟨_, rfl, hw⟩
def w_X10_thieves (h : PH) (Q : Int32 → PH → Prop) : Prop :=
  ∀ h1, h1 = sI h 0 0 0 → w_X10_layThieves (-1) h1 (fun z3 h2 => Q z3 h2)
set_option maxRecDepth 8000 in
theorem s_X10_thieves {D : va_G} {ca : Nat → ClassId} {ad : Nat → Nat} {l : Launch} {h : PH} {Q : Int32 → PH → Prop} (hw : w_X10_thieves h Q) : Sp (GM D ca ad) (XS (GM D ca ad)) l 9 yX10_thieves cX10_thieves 1 (some .int) [.ref 0] h (qI Q) := by
  refine Sp.of (own := RX10) [some (.ref 0)] (by decide +kernel) rfl rfl (Nat.le_of_ble_eq_true rfl) (fun K hl C => ?_)
  subst hl
  unfold w_X10_thieves at hw
  refine PW.ald0n C dX10_thieves_0 ?_
  refine PW.iconst (v := 0) C dX10_thieves_1 (by decide) ?_
  replace hw := hw _ rfl
  refine PW.put0 C cf_10 fl_X10_235 (by decide) oM_0 rfl rfl rfl (pw_sI oM_0 (by decide) rfl) dX10_thieves_2 ?_
  refine PW.ald0n C dX10_thieves_5 ?_
  refine PW.iconst (v := (-1)) C dX10_thieves_6 (by decide) ?_
  refine PW.callVI1 C ms_X10_layThieves ml_X10_638 dX10_thieves_7 oM_0 ⟨_, _, rfl⟩ (Nat.le_of_ble_eq_true rfl) (by decide) (Nat.le_of_ble_eq_true rfl) (s_X10_layThieves hw) ?_
  clear hw
  intro z3 h2 hw
  exact PW.iret C dX10_thieves_10 ⟨_, rfl, hw⟩
def w_X10_thief (x1 : Int32) (x2 : Int32) (h : PH) (Q : Int32 → PH → Prop) : Prop :=
  ∀ h1, h1 = sI h 0 0 0 → if x1 < 0 then (Q (-1) h1) else (if x2 < 0 then (Q (-1) h1) else (if x2 ≤ 2 then (w_X10_layThieves x1 h1 (fun z3 h2 => if x1 < z3 then (if x2 = 0 then (Q (gI h2 0 101) h2) else (if x2 = 1 then (Q (gI h2 0 102) h2) else (Q (gI h2 0 103) h2))) else (Q (-2) h2))) else (Q (-1) h1)))
set_option maxRecDepth 8000 in
theorem s_X10_thief {D : va_G} {ca : Nat → ClassId} {ad : Nat → Nat} {l : Launch} {x1 : Int32} {x2 : Int32} {h : PH} {Q : Int32 → PH → Prop} (hw : w_X10_thief x1 x2 h Q) : Sp (GM D ca ad) (XS (GM D ca ad)) l 9 yX10_thief cX10_thief 3 (some .int) [.ref 0, .int x1, .int x2] h (qI Q) := by
  refine Sp.of (own := RX10) [some (.ref 0), some (.int x1), some (.int x2)] (by decide +kernel) rfl rfl (Nat.le_of_ble_eq_true rfl) (fun K hl C => ?_)
  subst hl
  unfold w_X10_thief at hw
  refine PW.ald0n C dX10_thief_0 ?_
  refine PW.iconst (v := 0) C dX10_thief_1 (by decide) ?_
  replace hw := hw _ rfl
  refine PW.put0 C cf_10 fl_X10_235 (by decide) oM_0 rfl rfl rfl (pw_sI oM_0 (by decide) rfl) dX10_thief_2 ?_
  refine PW.ild1n C dX10_thief_5 ?_
  refine PW.if_lt (tgt := 18) C dX10_thief_6 (by decide) (fun c => ?_) (fun c => ?_)
  · rw [if_pos c] at hw
    refine PW.iconst (v := (-1)) C dX10_thief_18 (by decide) ?_
    exact PW.iret C dX10_thief_19 ⟨_, rfl, hw⟩
  · rw [if_neg c] at hw
    refine PW.ild2n C dX10_thief_9 ?_
    refine PW.if_lt (tgt := 18) C dX10_thief_10 (by decide) (fun c => ?_) (fun c => ?_)
    · rw [if_pos c] at hw
      refine PW.iconst (v := (-1)) C dX10_thief_18 (by decide) ?_
      exact PW.iret C dX10_thief_19 ⟨_, rfl, hw⟩
    · rw [if_neg c] at hw
      refine PW.ild2n C dX10_thief_13 ?_
      refine PW.iconst (v := 2) C dX10_thief_14 (by decide) ?_
      refine PW.icmp_le (tgt := 20) C dX10_thief_15 (by decide) (fun c => ?_) (fun c => ?_)
      · rw [if_pos c] at hw
        refine PW.ild1n C dX10_thief_20 ?_
        refine PW.ald0n C dX10_thief_21 ?_
        refine PW.ild1n C dX10_thief_22 ?_
        refine PW.callVI1 C ms_X10_layThieves ml_X10_638 dX10_thief_23 oM_0 ⟨_, _, rfl⟩ (Nat.le_of_ble_eq_true rfl) (by decide) (Nat.le_of_ble_eq_true rfl) (s_X10_layThieves hw) ?_
        clear hw
        intro z3 h2 hw
        refine PW.icmp_lt (tgt := 32) C dX10_thief_26 (by decide) (fun c => ?_) (fun c => ?_)
        · rw [if_pos c] at hw
          refine PW.ild2n C dX10_thief_32 ?_
          refine PW.if_ne (tgt := 43) C dX10_thief_33 (by decide) (fun c => ?_) (fun c => ?_)
          · rw [if_neg c] at hw
            refine PW.ild2n C dX10_thief_43 ?_
            refine PW.iconst (v := 1) C dX10_thief_44 (by decide) ?_
            refine PW.icmp_ne (tgt := 55) C dX10_thief_45 (by decide) (fun c => ?_) (fun c => ?_)
            · rw [if_neg c] at hw
              refine PW.ald0n C dX10_thief_55 ?_
              refine PW.get0 C cf_10 fl_X10_635 (by decide) oM_0 (fvI rfl) dX10_thief_56 ?_
              exact PW.iret C dX10_thief_59 ⟨_, rfl, hw⟩
            · rw [if_pos c] at hw
              refine PW.ald0n C dX10_thief_48 ?_
              refine PW.get0 C cf_10 fl_X10_632 (by decide) oM_0 (fvI rfl) dX10_thief_49 ?_
              refine PW.goto (tgt := 59) C dX10_thief_52 (by decide) ?_
              exact PW.iret C dX10_thief_59 ⟨_, rfl, hw⟩
          · rw [if_pos c] at hw
            refine PW.ald0n C dX10_thief_36 ?_
            refine PW.get0 C cf_10 fl_X10_629 (by decide) oM_0 (fvI rfl) dX10_thief_37 ?_
            refine PW.goto (tgt := 59) C dX10_thief_40 (by decide) ?_
            exact PW.iret C dX10_thief_59 ⟨_, rfl, hw⟩
        · rw [if_neg c] at hw
          refine PW.bipush (v := (-2)) C dX10_thief_29 (by decide) ?_
          exact PW.iret C dX10_thief_31 ⟨_, rfl, hw⟩
      · rw [if_neg c] at hw
        refine PW.iconst (v := (-1)) C dX10_thief_18 (by decide) ?_
        exact PW.iret C dX10_thief_19 ⟨_, rfl, hw⟩
def w_X10_holds (x1 : Int32) (x2 : Int32) (x3 : Int32) (x4 : Int32) (h : PH) (Q : PH → Prop) : Prop :=
  if x3 ≤ x4 then (vp_in (gI h 0 70) 16 ∧ ∀ h2, h2 = sI h 52 (iN (gI h 0 70)) x1 → vp_in (gI h2 0 70) 16 ∧ ∀ h4, h4 = sI h2 53 (iN (gI h2 0 70)) x2 → vp_in (gI h4 0 70) 16 ∧ ∀ h6, h6 = sI h4 54 (iN (gI h4 0 70)) x3 → vp_in (gI h6 0 70) 16 ∧ ∀ h8, h8 = sI h6 55 (iN (gI h6 0 70)) x4 → ∀ h9, h9 = sI h8 0 70 ((gI h8 0 70) + 1) → Q h9) else (Q h)
set_option maxRecDepth 8000 in
theorem s_X10_holds {D : va_G} {ca : Nat → ClassId} {ad : Nat → Nat} {l : Launch} {x1 : Int32} {x2 : Int32} {x3 : Int32} {x4 : Int32} {h : PH} {Q : PH → Prop} (hw : w_X10_holds x1 x2 x3 x4 h Q) : Sp (GM D ca ad) (XS (GM D ca ad)) l 1 yX10_holds cX10_holds 5 none [.ref 0, .int x1, .int x2, .int x3, .int x4] h (qV Q) := by
  refine Sp.of (own := RX10) [some (.ref 0), some (.int x1), some (.int x2), some (.int x3), some (.int x4)] (by decide +kernel) rfl rfl (Nat.le_of_ble_eq_true rfl) (fun K hl C => ?_)
  subst hl
  unfold w_X10_holds at hw
  refine PW.ild3n C dX10_holds_0 ?_
  refine PW.ild4 C dX10_holds_1 ?_
  refine PW.icmp_le (tgt := 7) C dX10_holds_3 (by decide) (fun c => ?_) (fun c => ?_)
  · rw [if_pos c] at hw
    refine PW.ald0n C dX10_holds_7 ?_
    refine PW.get0 (v := .ref 52) C cf_10 fl_X10_168 (by decide) oM_0 (fvR (o := 52) rfl) dX10_holds_8 ?_
    refine PW.ald0n C dX10_holds_11 ?_
    refine PW.get0 C cf_10 fl_X10_487 (by decide) oM_0 (fvI rfl) dX10_holds_12 ?_
    refine PW.ild1n C dX10_holds_15 ?_
    obtain ⟨hc1, hw⟩ := hw
    replace hw := hw _ rfl
    refine PW.iast C dX10_holds_16 aM_52 hc1 ?_
    refine PW.ald0n C dX10_holds_17 ?_
    refine PW.get0 (v := .ref 53) C cf_10 fl_X10_171 (by decide) oM_0 (fvR (o := 53) rfl) dX10_holds_18 ?_
    refine PW.ald0n C dX10_holds_21 ?_
    refine PW.get0 C cf_10 fl_X10_487 (by decide) oM_0 (fvI rfl) dX10_holds_22 ?_
    refine PW.ild2n C dX10_holds_25 ?_
    obtain ⟨hc3, hw⟩ := hw
    replace hw := hw _ rfl
    refine PW.iast C dX10_holds_26 aM_53 hc3 ?_
    refine PW.ald0n C dX10_holds_27 ?_
    refine PW.get0 (v := .ref 54) C cf_10 fl_X10_174 (by decide) oM_0 (fvR (o := 54) rfl) dX10_holds_28 ?_
    refine PW.ald0n C dX10_holds_31 ?_
    refine PW.get0 C cf_10 fl_X10_487 (by decide) oM_0 (fvI rfl) dX10_holds_32 ?_
    refine PW.ild3n C dX10_holds_35 ?_
    obtain ⟨hc5, hw⟩ := hw
    replace hw := hw _ rfl
    refine PW.iast C dX10_holds_36 aM_54 hc5 ?_
    refine PW.ald0n C dX10_holds_37 ?_
    refine PW.get0 (v := .ref 55) C cf_10 fl_X10_177 (by decide) oM_0 (fvR (o := 55) rfl) dX10_holds_38 ?_
    refine PW.ald0n C dX10_holds_41 ?_
    refine PW.get0 C cf_10 fl_X10_487 (by decide) oM_0 (fvI rfl) dX10_holds_42 ?_
    refine PW.ild4 C dX10_holds_45 ?_
    obtain ⟨hc7, hw⟩ := hw
    replace hw := hw _ rfl
    refine PW.iast C dX10_holds_47 aM_55 hc7 ?_
    refine PW.ald0n C dX10_holds_48 ?_
    refine PW.dup C dX10_holds_49 rfl ?_
    refine PW.get0 C cf_10 fl_X10_487 (by decide) oM_0 (fvI rfl) dX10_holds_50 ?_
    refine PW.iconst (v := 1) C dX10_holds_53 (by decide) ?_
    refine PW.iadd C dX10_holds_54 ?_
    replace hw := hw _ rfl
    refine PW.put0 C cf_10 fl_X10_487 (by decide) oM_0 rfl rfl rfl (pw_sI oM_0 (by decide) rfl) dX10_holds_55 ?_
    exact PW.vret C dX10_holds_58 ⟨rfl, hw⟩
  · rw [if_neg c] at hw
    exact PW.vret C dX10_holds_6 ⟨rfl, hw⟩
def w_X10_layHeirs_151 (Q : PH → Prop) (kb : Int32 → PH → Prop) (x1 : Int32) (x2 : Int32) (x3 : Int32) (x5 : Int32) (x6 : Int32) (h : PH) : Prop :=
  if x2 = 1 then (if x3 = (-1) then (kb (x6 + 1) h) else (vp_in x6 16 ∧ vp_in x6 16 ∧ ∀ (y8 : Int32), y8 = ((((gI h 18 (iN x6)) - (gI h 17 (iN x6))) + 1) / 2) → vp_in x6 16 ∧ vp_in x6 16 ∧ vp_in x6 16 ∧ w_X10_holds x3 (gI h 16 (iN x6)) (gI h 17 (iN x6)) (((gI h 17 (iN x6)) + y8) - 1) h (fun h12 => vp_in x6 16 ∧ vp_in x6 16 ∧ vp_in x6 16 ∧ w_X10_holds x5 (gI h12 16 (iN x6)) ((gI h12 17 (iN x6)) + y8) (gI h12 18 (iN x6)) h12 (fun h16 => kb (x6 + 1) h16)))) else (kb (x6 + 1) h)
set_option maxRecDepth 8000 in
theorem b_X10_layHeirs_151 {D : va_G} {ca : Nat → ClassId} {ad : Nat → Nat} {K : Kt} {kb : Int32 → PH → Prop} {Q : PH → Prop} {x1 : Int32} {x2 : Int32} {x3 : Int32} {x5 : Int32} {x6 : Int32} {h : PH} (C : CX (GM D ca ad) (XS (GM D ca ad)) cX10_layHeirs RX10 8 none 2 K) (hkb : ∀ (x6 : Int32) (h : PH), kb x6 h → PW (GM D ca ad) K 8 (qV Q) h 56 [some (.ref 0), some (.int x1), some (.int x2), some (.int x3), none, some (.int x5), some (.int x6), none] []) (hw : w_X10_layHeirs_151 Q kb x1 x2 x3 x5 x6 h) : PW (GM D ca ad) K 8 (qV Q) h 151 [some (.ref 0), some (.int x1), some (.int x2), some (.int x3), none, some (.int x5), some (.int x6), none] [] := by
  unfold w_X10_layHeirs_151 at hw
  refine PW.ild2n C dX10_layHeirs_151 ?_
  refine PW.iconst (v := 1) C dX10_layHeirs_152 (by decide) ?_
  refine PW.icmp_ne (tgt := 243) C dX10_layHeirs_153 (by decide) (fun c => ?_) (fun c => ?_)
  · rw [if_neg c] at hw
    refine PW.inc6 (v := 1) C dX10_layHeirs_243 (by decide) rfl (by decide) ?_
    refine PW.goto (tgt := 56) C dX10_layHeirs_246 (by decide) ?_
    exact PW.wk (wk_s (wk_s (wk_s (wk_s (wk_n (wk_s (wk_s (wk_n wk_0)))))))) (hkb _ _ hw)
  · rw [if_pos c] at hw
    refine PW.ild3n C dX10_layHeirs_156 ?_
    refine PW.iconst (v := (-1)) C dX10_layHeirs_157 (by decide) ?_
    refine PW.icmp_eq (tgt := 243) C dX10_layHeirs_158 (by decide) (fun c => ?_) (fun c => ?_)
    · rw [if_pos c] at hw
      refine PW.inc6 (v := 1) C dX10_layHeirs_243 (by decide) rfl (by decide) ?_
      refine PW.goto (tgt := 56) C dX10_layHeirs_246 (by decide) ?_
      exact PW.wk (wk_s (wk_s (wk_s (wk_s (wk_n (wk_s (wk_s (wk_n wk_0)))))))) (hkb _ _ hw)
    · rw [if_neg c] at hw
      refine PW.ald0n C dX10_layHeirs_161 ?_
      refine PW.get0 (v := .ref 18) C cf_10 fl_X10_61 (by decide) oM_0 (fvR (o := 18) rfl) dX10_layHeirs_162 ?_
      refine PW.ild6 C dX10_layHeirs_165 ?_
      obtain ⟨hc6, hw⟩ := hw
      refine PW.iald C dX10_layHeirs_167 aM_18 hc6 ?_
      refine PW.ald0n C dX10_layHeirs_168 ?_
      refine PW.get0 (v := .ref 17) C cf_10 fl_X10_58 (by decide) oM_0 (fvR (o := 17) rfl) dX10_layHeirs_169 ?_
      refine PW.ild6 C dX10_layHeirs_172 ?_
      obtain ⟨hc7, hw⟩ := hw
      refine PW.iald C dX10_layHeirs_174 aM_17 hc7 ?_
      refine PW.isub C dX10_layHeirs_175 ?_
      refine PW.iconst (v := 1) C dX10_layHeirs_176 (by decide) ?_
      refine PW.iadd C dX10_layHeirs_177 ?_
      refine PW.iconst (v := 2) C dX10_layHeirs_178 (by decide) ?_
      refine PW.idiv C dX10_layHeirs_179 (by decide) ?_
      replace hw := hw _ rfl
      refine PW.ist7 C dX10_layHeirs_180 (by decide) rfl ?_
      refine PW.ald0n C dX10_layHeirs_182 ?_
      refine PW.ild3n C dX10_layHeirs_183 ?_
      refine PW.ald0n C dX10_layHeirs_184 ?_
      refine PW.get0 (v := .ref 16) C cf_10 fl_X10_55 (by decide) oM_0 (fvR (o := 16) rfl) dX10_layHeirs_185 ?_
      refine PW.ild6 C dX10_layHeirs_188 ?_
      obtain ⟨hc9, hw⟩ := hw
      refine PW.iald C dX10_layHeirs_190 aM_16 hc9 ?_
      refine PW.ald0n C dX10_layHeirs_191 ?_
      refine PW.get0 (v := .ref 17) C cf_10 fl_X10_58 (by decide) oM_0 (fvR (o := 17) rfl) dX10_layHeirs_192 ?_
      refine PW.ild6 C dX10_layHeirs_195 ?_
      obtain ⟨hc10, hw⟩ := hw
      refine PW.iald C dX10_layHeirs_197 aM_17 hc10 ?_
      refine PW.ald0n C dX10_layHeirs_198 ?_
      refine PW.get0 (v := .ref 17) C cf_10 fl_X10_58 (by decide) oM_0 (fvR (o := 17) rfl) dX10_layHeirs_199 ?_
      refine PW.ild6 C dX10_layHeirs_202 ?_
      obtain ⟨hc11, hw⟩ := hw
      refine PW.iald C dX10_layHeirs_204 aM_17 hc11 ?_
      refine PW.ild7 C dX10_layHeirs_205 ?_
      refine PW.iadd C dX10_layHeirs_207 ?_
      refine PW.iconst (v := 1) C dX10_layHeirs_208 (by decide) ?_
      refine PW.isub C dX10_layHeirs_209 ?_
      refine PW.callVV4 C ms_X10_holds ml_X10_641 dX10_layHeirs_210 oM_0 ⟨_, _, rfl⟩ (Nat.le_of_ble_eq_true rfl) (by decide) (Nat.le_of_ble_eq_true rfl) (s_X10_holds hw) ?_
      clear hw
      intro h12 hw
      refine PW.ald0n C dX10_layHeirs_213 ?_
      refine PW.ild5 C dX10_layHeirs_214 ?_
      refine PW.ald0n C dX10_layHeirs_216 ?_
      refine PW.get0 (v := .ref 16) C cf_10 fl_X10_55 (by decide) oM_0 (fvR (o := 16) rfl) dX10_layHeirs_217 ?_
      refine PW.ild6 C dX10_layHeirs_220 ?_
      obtain ⟨hc13, hw⟩ := hw
      refine PW.iald C dX10_layHeirs_222 aM_16 hc13 ?_
      refine PW.ald0n C dX10_layHeirs_223 ?_
      refine PW.get0 (v := .ref 17) C cf_10 fl_X10_58 (by decide) oM_0 (fvR (o := 17) rfl) dX10_layHeirs_224 ?_
      refine PW.ild6 C dX10_layHeirs_227 ?_
      obtain ⟨hc14, hw⟩ := hw
      refine PW.iald C dX10_layHeirs_229 aM_17 hc14 ?_
      refine PW.ild7 C dX10_layHeirs_230 ?_
      refine PW.iadd C dX10_layHeirs_232 ?_
      refine PW.ald0n C dX10_layHeirs_233 ?_
      refine PW.get0 (v := .ref 18) C cf_10 fl_X10_61 (by decide) oM_0 (fvR (o := 18) rfl) dX10_layHeirs_234 ?_
      refine PW.ild6 C dX10_layHeirs_237 ?_
      obtain ⟨hc15, hw⟩ := hw
      refine PW.iald C dX10_layHeirs_239 aM_18 hc15 ?_
      refine PW.callVV4 C ms_X10_holds ml_X10_641 dX10_layHeirs_240 oM_0 ⟨_, _, rfl⟩ (Nat.le_of_ble_eq_true rfl) (by decide) (Nat.le_of_ble_eq_true rfl) (s_X10_holds hw) ?_
      clear hw
      intro h16 hw
      refine PW.inc6 (v := 1) C dX10_layHeirs_243 (by decide) rfl (by decide) ?_
      refine PW.goto (tgt := 56) C dX10_layHeirs_246 (by decide) ?_
      exact PW.wk (wk_s (wk_s (wk_s (wk_s (wk_n (wk_s (wk_s (wk_n wk_0)))))))) (hkb _ _ hw)
def w_X10_layHeirs_56 (k249 : PH → Prop) (Q : PH → Prop) (x1 : Int32) (x2 : Int32) (x3 : Int32) (x5 : Int32) (kb : Int32 → PH → Prop) (x6 : Int32) (h : PH) : Prop :=
  if (gI h 2 (iN 4)) ≤ x6 then (k249 h) else (vp_in x6 176 ∧ if (gI h 41 (iN x6)) = x1 then (if x2 = 0 then (if x3 = (-1) then (w_X10_layHeirs_151 Q kb x1 x2 x3 x5 x6 h) else (vp_in x6 16 ∧ vp_in x6 16 ∧ vp_in x6 16 ∧ w_X10_holds x3 (gI h 16 (iN x6)) (gI h 17 (iN x6)) (gI h 18 (iN x6)) h (fun h20 => kb (x6 + 1) h20))) else (w_X10_layHeirs_151 Q kb x1 x2 x3 x5 x6 h)) else (vp_in x6 176 ∧ vp_in x6 16 ∧ vp_in x6 16 ∧ vp_in x6 16 ∧ w_X10_holds (gI h 41 (iN x6)) (gI h 16 (iN x6)) (gI h 17 (iN x6)) (gI h 18 (iN x6)) h (fun h25 => kb (x6 + 1) h25)))
set_option maxRecDepth 8000 in
theorem b_X10_layHeirs_56 {D : va_G} {ca : Nat → ClassId} {ad : Nat → Nat} {K : Kt} {k249 : PH → Prop} {kb : Int32 → PH → Prop} {Q : PH → Prop} {x1 : Int32} {x2 : Int32} {x3 : Int32} {x5 : Int32} {x6 : Int32} {h : PH} (C : CX (GM D ca ad) (XS (GM D ca ad)) cX10_layHeirs RX10 8 none 2 K) (hk249 : ∀ (h : PH), k249 h → PW (GM D ca ad) K 8 (qV Q) h 249 [none, none, none, none, none, none, none, none] []) (hkb : ∀ (x6 : Int32) (h : PH), kb x6 h → PW (GM D ca ad) K 8 (qV Q) h 56 [some (.ref 0), some (.int x1), some (.int x2), some (.int x3), none, some (.int x5), some (.int x6), none] []) (hw : w_X10_layHeirs_56 k249 Q x1 x2 x3 x5 kb x6 h) : PW (GM D ca ad) K 8 (qV Q) h 56 [some (.ref 0), some (.int x1), some (.int x2), some (.int x3), none, some (.int x5), some (.int x6), none] [] := by
  unfold w_X10_layHeirs_56 at hw
  refine PW.ild6 C dX10_layHeirs_56 ?_
  refine PW.ald0n C dX10_layHeirs_58 ?_
  refine PW.get0 (v := .ref 2) C cf_10 fl_X10_13 (by decide) oM_0 (fvR (o := 2) rfl) dX10_layHeirs_59 ?_
  refine PW.iconst (v := 4) C dX10_layHeirs_62 (by decide) ?_
  refine PW.iald C dX10_layHeirs_63 aM_2 (vpl (by decide)) ?_
  refine PW.icmp_ge (tgt := 249) C dX10_layHeirs_64 (by decide) (fun c => ?_) (fun c => ?_)
  · rw [if_pos c] at hw
    exact PW.wk (wk_n (wk_n (wk_n (wk_n (wk_n (wk_n (wk_n (wk_n wk_0)))))))) (hk249 _ hw)
  · rw [if_neg c] at hw
    refine PW.ald0n C dX10_layHeirs_67 ?_
    refine PW.get0 (v := .ref 41) C cf_10 fl_X10_135 (by decide) oM_0 (fvR (o := 41) rfl) dX10_layHeirs_68 ?_
    refine PW.ild6 C dX10_layHeirs_71 ?_
    obtain ⟨hc5, hw⟩ := hw
    refine PW.iald C dX10_layHeirs_73 aM_41 hc5 ?_
    refine PW.ild1n C dX10_layHeirs_74 ?_
    refine PW.icmp_eq (tgt := 113) C dX10_layHeirs_75 (by decide) (fun c => ?_) (fun c => ?_)
    · rw [if_pos c] at hw
      refine PW.ild2n C dX10_layHeirs_113 ?_
      refine PW.if_ne (tgt := 151) C dX10_layHeirs_114 (by decide) (fun c => ?_) (fun c => ?_)
      · rw [if_neg c] at hw
        exact PW.wk (wk_s (wk_s (wk_s (wk_s (wk_n (wk_s (wk_s (wk_n wk_0)))))))) (b_X10_layHeirs_151 C hkb hw)
      · rw [if_pos c] at hw
        refine PW.ild3n C dX10_layHeirs_117 ?_
        refine PW.iconst (v := (-1)) C dX10_layHeirs_118 (by decide) ?_
        refine PW.icmp_eq (tgt := 151) C dX10_layHeirs_119 (by decide) (fun c => ?_) (fun c => ?_)
        · rw [if_pos c] at hw
          exact PW.wk (wk_s (wk_s (wk_s (wk_s (wk_n (wk_s (wk_s (wk_n wk_0)))))))) (b_X10_layHeirs_151 C hkb hw)
        · rw [if_neg c] at hw
          refine PW.ald0n C dX10_layHeirs_122 ?_
          refine PW.ild3n C dX10_layHeirs_123 ?_
          refine PW.ald0n C dX10_layHeirs_124 ?_
          refine PW.get0 (v := .ref 16) C cf_10 fl_X10_55 (by decide) oM_0 (fvR (o := 16) rfl) dX10_layHeirs_125 ?_
          refine PW.ild6 C dX10_layHeirs_128 ?_
          obtain ⟨hc17, hw⟩ := hw
          refine PW.iald C dX10_layHeirs_130 aM_16 hc17 ?_
          refine PW.ald0n C dX10_layHeirs_131 ?_
          refine PW.get0 (v := .ref 17) C cf_10 fl_X10_58 (by decide) oM_0 (fvR (o := 17) rfl) dX10_layHeirs_132 ?_
          refine PW.ild6 C dX10_layHeirs_135 ?_
          obtain ⟨hc18, hw⟩ := hw
          refine PW.iald C dX10_layHeirs_137 aM_17 hc18 ?_
          refine PW.ald0n C dX10_layHeirs_138 ?_
          refine PW.get0 (v := .ref 18) C cf_10 fl_X10_61 (by decide) oM_0 (fvR (o := 18) rfl) dX10_layHeirs_139 ?_
          refine PW.ild6 C dX10_layHeirs_142 ?_
          obtain ⟨hc19, hw⟩ := hw
          refine PW.iald C dX10_layHeirs_144 aM_18 hc19 ?_
          refine PW.callVV4 C ms_X10_holds ml_X10_641 dX10_layHeirs_145 oM_0 ⟨_, _, rfl⟩ (Nat.le_of_ble_eq_true rfl) (by decide) (Nat.le_of_ble_eq_true rfl) (s_X10_holds hw) ?_
          clear hw
          intro h20 hw
          refine PW.goto (tgt := 243) C dX10_layHeirs_148 (by decide) ?_
          refine PW.inc6 (v := 1) C dX10_layHeirs_243 (by decide) rfl (by decide) ?_
          refine PW.goto (tgt := 56) C dX10_layHeirs_246 (by decide) ?_
          exact PW.wk (wk_s (wk_s (wk_s (wk_s (wk_n (wk_s (wk_s (wk_n wk_0)))))))) (hkb _ _ hw)
    · rw [if_neg c] at hw
      refine PW.ald0n C dX10_layHeirs_78 ?_
      refine PW.ald0n C dX10_layHeirs_79 ?_
      refine PW.get0 (v := .ref 41) C cf_10 fl_X10_135 (by decide) oM_0 (fvR (o := 41) rfl) dX10_layHeirs_80 ?_
      refine PW.ild6 C dX10_layHeirs_83 ?_
      obtain ⟨hc21, hw⟩ := hw
      refine PW.iald C dX10_layHeirs_85 aM_41 hc21 ?_
      refine PW.ald0n C dX10_layHeirs_86 ?_
      refine PW.get0 (v := .ref 16) C cf_10 fl_X10_55 (by decide) oM_0 (fvR (o := 16) rfl) dX10_layHeirs_87 ?_
      refine PW.ild6 C dX10_layHeirs_90 ?_
      obtain ⟨hc22, hw⟩ := hw
      refine PW.iald C dX10_layHeirs_92 aM_16 hc22 ?_
      refine PW.ald0n C dX10_layHeirs_93 ?_
      refine PW.get0 (v := .ref 17) C cf_10 fl_X10_58 (by decide) oM_0 (fvR (o := 17) rfl) dX10_layHeirs_94 ?_
      refine PW.ild6 C dX10_layHeirs_97 ?_
      obtain ⟨hc23, hw⟩ := hw
      refine PW.iald C dX10_layHeirs_99 aM_17 hc23 ?_
      refine PW.ald0n C dX10_layHeirs_100 ?_
      refine PW.get0 (v := .ref 18) C cf_10 fl_X10_61 (by decide) oM_0 (fvR (o := 18) rfl) dX10_layHeirs_101 ?_
      refine PW.ild6 C dX10_layHeirs_104 ?_
      obtain ⟨hc24, hw⟩ := hw
      refine PW.iald C dX10_layHeirs_106 aM_18 hc24 ?_
      refine PW.callVV4 C ms_X10_holds ml_X10_641 dX10_layHeirs_107 oM_0 ⟨_, _, rfl⟩ (Nat.le_of_ble_eq_true rfl) (by decide) (Nat.le_of_ble_eq_true rfl) (s_X10_holds hw) ?_
      clear hw
      intro h25 hw
      refine PW.goto (tgt := 243) C dX10_layHeirs_110 (by decide) ?_
      refine PW.inc6 (v := 1) C dX10_layHeirs_243 (by decide) rfl (by decide) ?_
      refine PW.goto (tgt := 56) C dX10_layHeirs_246 (by decide) ?_
      exact PW.wk (wk_s (wk_s (wk_s (wk_s (wk_n (wk_s (wk_s (wk_n wk_0)))))))) (hkb _ _ hw)
theorem l_X10_layHeirs_56 {D : va_G} {ca : Nat → ClassId} {ad : Nat → Nat} {K : Kt} {k249 : PH → Prop} {Q : PH → Prop} {x1 : Int32} {x2 : Int32} {x3 : Int32} {x5 : Int32} (C : CX (GM D ca ad) (XS (GM D ca ad)) cX10_layHeirs RX10 8 none 2 K) (hk249 : ∀ (h : PH), k249 h → PW (GM D ca ad) K 8 (qV Q) h 249 [none, none, none, none, none, none, none, none] []) : ∀ (n : Nat) (x6 : Int32) (h : PH), Lp1 (w_X10_layHeirs_56 k249 Q x1 x2 x3 x5) n x6 h → PW (GM D ca ad) K 8 (qV Q) h 56 [some (.ref 0), some (.int x1), some (.int x2), some (.int x3), none, some (.int x5), some (.int x6), none] [] := by
  intro n
  induction n with
  | zero => intro x6 h hw; exact hw.elim
  | succ n ih => intro x6 h hw; exact b_X10_layHeirs_56 C hk249 (fun x6 h hw => ih x6 h hw) hw
def w_X10_layHeirs_46 (Q : PH → Prop) (x1 : Int32) (x2 : Int32) (x3 : Int32) (s0 : Int32) (h : PH) : Prop :=
  ∀ h4, h4 = sI h 0 70 0 → ∃ n, Lp1 (w_X10_layHeirs_56 (fun h26 => Q h26) Q x1 x2 x3 s0) n 0 h4
set_option maxRecDepth 8000 in
theorem b_X10_layHeirs_46 {D : va_G} {ca : Nat → ClassId} {ad : Nat → Nat} {K : Kt} {Q : PH → Prop} {x1 : Int32} {x2 : Int32} {x3 : Int32} {s0 : Int32} {h : PH} (C : CX (GM D ca ad) (XS (GM D ca ad)) cX10_layHeirs RX10 8 none 2 K) (hw : w_X10_layHeirs_46 Q x1 x2 x3 s0 h) : PW (GM D ca ad) K 8 (qV Q) h 46 [some (.ref 0), some (.int x1), some (.int x2), some (.int x3), none, none, none, none] [.int s0] := by
  unfold w_X10_layHeirs_46 at hw
  refine PW.ist5 C dX10_layHeirs_46 (by decide) rfl ?_
  refine PW.ald0n C dX10_layHeirs_48 ?_
  refine PW.iconst (v := 0) C dX10_layHeirs_49 (by decide) ?_
  replace hw := hw _ rfl
  refine PW.put0 C cf_10 fl_X10_487 (by decide) oM_0 rfl rfl rfl (pw_sI oM_0 (by decide) rfl) dX10_layHeirs_50 ?_
  refine PW.iconst (v := 0) C dX10_layHeirs_53 (by decide) ?_
  refine PW.ist6 C dX10_layHeirs_54 (by decide) rfl ?_
  obtain ⟨n, hw⟩ := hw
  refine PW.wk (wk_s (wk_s (wk_s (wk_s (wk_n (wk_s (wk_s (wk_n wk_0)))))))) (l_X10_layHeirs_56 C ?_ n _ _ hw)
  · intro h26 hw
    exact PW.vret C dX10_layHeirs_249 ⟨rfl, hw⟩
def w_X10_layHeirs_40 (Q : PH → Prop) (x1 : Int32) (x2 : Int32) (x3 : Int32) (h : PH) : Prop :=
  w_X10_layHeirs_46 Q x1 x2 x3 x3 h
set_option maxRecDepth 8000 in
theorem b_X10_layHeirs_40 {D : va_G} {ca : Nat → ClassId} {ad : Nat → Nat} {K : Kt} {Q : PH → Prop} {x1 : Int32} {x2 : Int32} {x3 : Int32} {h : PH} (C : CX (GM D ca ad) (XS (GM D ca ad)) cX10_layHeirs RX10 8 none 2 K) (hw : w_X10_layHeirs_40 Q x1 x2 x3 h) : PW (GM D ca ad) K 8 (qV Q) h 40 [some (.ref 0), some (.int x1), some (.int x2), some (.int x3), none, none, none, none] [] := by
  unfold w_X10_layHeirs_40 at hw
  refine PW.ild3n C dX10_layHeirs_40 ?_
  refine PW.goto (tgt := 46) C dX10_layHeirs_41 (by decide) ?_
  exact PW.wk (wk_s (wk_s (wk_s (wk_s (wk_n (wk_n (wk_n (wk_n wk_0)))))))) (b_X10_layHeirs_46 C hw)
def w_X10_layHeirs_26 (Q : PH → Prop) (x1 : Int32) (x2 : Int32) (x3 : Int32) (s0 : Int32) (h : PH) : Prop :=
  if s0 = (-1) then (w_X10_layHeirs_40 Q x1 x2 x3 h) else (if s0 = x1 then (w_X10_layHeirs_40 Q x1 x2 x3 h) else (w_X10_layHeirs_46 Q x1 x2 x3 s0 h))
set_option maxRecDepth 8000 in
theorem b_X10_layHeirs_26 {D : va_G} {ca : Nat → ClassId} {ad : Nat → Nat} {K : Kt} {Q : PH → Prop} {x1 : Int32} {x2 : Int32} {x3 : Int32} {s0 : Int32} {h : PH} (C : CX (GM D ca ad) (XS (GM D ca ad)) cX10_layHeirs RX10 8 none 2 K) (hw : w_X10_layHeirs_26 Q x1 x2 x3 s0 h) : PW (GM D ca ad) K 8 (qV Q) h 26 [some (.ref 0), some (.int x1), some (.int x2), some (.int x3), none, none, none, none] [.int s0] := by
  unfold w_X10_layHeirs_26 at hw
  refine PW.ist4 C dX10_layHeirs_26 (by decide) rfl ?_
  refine PW.ild4 C dX10_layHeirs_28 ?_
  refine PW.iconst (v := (-1)) C dX10_layHeirs_30 (by decide) ?_
  refine PW.icmp_eq (tgt := 40) C dX10_layHeirs_31 (by decide) (fun c => ?_) (fun c => ?_)
  · rw [if_pos c] at hw
    exact PW.wk (wk_s (wk_s (wk_s (wk_s (wk_n (wk_n (wk_n (wk_n wk_0)))))))) (b_X10_layHeirs_40 C hw)
  · rw [if_neg c] at hw
    refine PW.ild4 C dX10_layHeirs_34 ?_
    refine PW.ild1n C dX10_layHeirs_36 ?_
    refine PW.icmp_ne (tgt := 44) C dX10_layHeirs_37 (by decide) (fun c => ?_) (fun c => ?_)
    · rw [if_neg c] at hw
      refine PW.ild4 C dX10_layHeirs_44 ?_
      exact PW.wk (wk_s (wk_s (wk_s (wk_s (wk_n (wk_n (wk_n (wk_n wk_0)))))))) (b_X10_layHeirs_46 C hw)
    · rw [if_pos c] at hw
      exact PW.wk (wk_s (wk_s (wk_s (wk_s (wk_n (wk_n (wk_n (wk_n wk_0)))))))) (b_X10_layHeirs_40 C hw)
def w_X10_layHeirs (x1 : Int32) (x2 : Int32) (h : PH) (Q : PH → Prop) : Prop :=
  vp_in x1 8 ∧ ∀ (y2 : Int32), y2 = ((gI h 9 (iN x1)) - 1) → if y2 = (-1) then (w_X10_layHeirs_26 Q x1 x2 y2 (-1) h) else (vp_in y2 8 ∧ w_X10_layHeirs_26 Q x1 x2 y2 ((gI h 9 (iN y2)) - 1) h)
set_option maxRecDepth 8000 in
theorem s_X10_layHeirs {D : va_G} {ca : Nat → ClassId} {ad : Nat → Nat} {l : Launch} {x1 : Int32} {x2 : Int32} {h : PH} {Q : PH → Prop} (hw : w_X10_layHeirs x1 x2 h Q) : Sp (GM D ca ad) (XS (GM D ca ad)) l 2 yX10_layHeirs cX10_layHeirs 8 none [.ref 0, .int x1, .int x2] h (qV Q) := by
  refine Sp.of (own := RX10) [some (.ref 0), some (.int x1), some (.int x2), none, none, none, none, none] (by decide +kernel) rfl rfl (Nat.le_of_ble_eq_true rfl) (fun K hl C => ?_)
  subst hl
  unfold w_X10_layHeirs at hw
  refine PW.ald0n C dX10_layHeirs_0 ?_
  refine PW.get0 (v := .ref 9) C cf_10 fl_X10_34 (by decide) oM_0 (fvR (o := 9) rfl) dX10_layHeirs_1 ?_
  refine PW.ild1n C dX10_layHeirs_4 ?_
  obtain ⟨hc1, hw⟩ := hw
  refine PW.iald C dX10_layHeirs_5 aM_9 hc1 ?_
  refine PW.iconst (v := 1) C dX10_layHeirs_6 (by decide) ?_
  refine PW.isub C dX10_layHeirs_7 ?_
  replace hw := hw _ rfl
  refine PW.ist3n C dX10_layHeirs_8 (by decide) rfl ?_
  refine PW.ild3n C dX10_layHeirs_9 ?_
  refine PW.iconst (v := (-1)) C dX10_layHeirs_10 (by decide) ?_
  refine PW.icmp_ne (tgt := 18) C dX10_layHeirs_11 (by decide) (fun c => ?_) (fun c => ?_)
  · rw [if_neg c] at hw
    refine PW.ald0n C dX10_layHeirs_18 ?_
    refine PW.get0 (v := .ref 9) C cf_10 fl_X10_34 (by decide) oM_0 (fvR (o := 9) rfl) dX10_layHeirs_19 ?_
    refine PW.ild3n C dX10_layHeirs_22 ?_
    obtain ⟨hc3, hw⟩ := hw
    refine PW.iald C dX10_layHeirs_23 aM_9 hc3 ?_
    refine PW.iconst (v := 1) C dX10_layHeirs_24 (by decide) ?_
    refine PW.isub C dX10_layHeirs_25 ?_
    exact PW.wk (wk_s (wk_s (wk_s (wk_s (wk_n (wk_n (wk_n (wk_n wk_0)))))))) (b_X10_layHeirs_26 C hw)
  · rw [if_pos c] at hw
    refine PW.iconst (v := (-1)) C dX10_layHeirs_14 (by decide) ?_
    refine PW.goto (tgt := 26) C dX10_layHeirs_15 (by decide) ?_
    exact PW.wk (wk_s (wk_s (wk_s (wk_s (wk_n (wk_n (wk_n (wk_n wk_0)))))))) (b_X10_layHeirs_26 C hw)
def w_X10_left_124 (Q : Int32 → PH → Prop) (kb : Int32 → Int32 → Int32 → PH → Prop) (x3 : Int32) (x4 : Int32) (x6 : Int32) (s0 : Int32) (h : PH) : Prop :=
  ∀ (y9 : Int32), y9 = (mxI x3 s0) → kb y9 s0 (x6 + 1) h
set_option maxRecDepth 8000 in
theorem b_X10_left_124 {D : va_G} {ca : Nat → ClassId} {ad : Nat → Nat} {K : Kt} {kb : Int32 → Int32 → Int32 → PH → Prop} {Q : Int32 → PH → Prop} {x3 : Int32} {x4 : Int32} {x6 : Int32} {s0 : Int32} {h : PH} (C : CX (GM D ca ad) (XS (GM D ca ad)) cX10_left RX10 8 (some .int) 8 K) (hkb : ∀ (x3 : Int32) (x5 : Int32) (x6 : Int32) (h : PH), kb x3 x5 x6 h → PW (GM D ca ad) K 8 (qI Q) h 60 [some (.ref 0), none, none, some (.int x3), some (.int x4), some (.int x5), some (.int x6), none] []) (hw : w_X10_left_124 Q kb x3 x4 x6 s0 h) : PW (GM D ca ad) K 8 (qI Q) h 124 [some (.ref 0), none, none, some (.int x3), some (.int x4), none, some (.int x6), none] [.int s0] := by
  unfold w_X10_left_124 at hw
  refine PW.ist5 C dX10_left_124 (by decide) rfl ?_
  refine PW.ild3n C dX10_left_126 ?_
  refine PW.ild5 C dX10_left_127 ?_
  refine PW.mxI C ml_X10_606 (Nat.le_of_ble_eq_true rfl) (by decide) dX10_left_129 ?_
  replace hw := hw _ rfl
  refine PW.ist3n C dX10_left_132 (by decide) rfl ?_
  refine PW.inc6 (v := 1) C dX10_left_133 (by decide) rfl (by decide) ?_
  refine PW.goto (tgt := 60) C dX10_left_136 (by decide) ?_
  exact PW.wk (wk_s (wk_n (wk_n (wk_s (wk_s (wk_s (wk_s (wk_n wk_0)))))))) (hkb _ _ _ _ hw)
def w_X10_left_123 (Q : Int32 → PH → Prop) (kb : Int32 → Int32 → Int32 → PH → Prop) (x3 : Int32) (x4 : Int32) (x6 : Int32) (h : PH) : Prop :=
  w_X10_left_124 Q kb x3 x4 x6 1 h
set_option maxRecDepth 8000 in
theorem b_X10_left_123 {D : va_G} {ca : Nat → ClassId} {ad : Nat → Nat} {K : Kt} {kb : Int32 → Int32 → Int32 → PH → Prop} {Q : Int32 → PH → Prop} {x3 : Int32} {x4 : Int32} {x6 : Int32} {h : PH} (C : CX (GM D ca ad) (XS (GM D ca ad)) cX10_left RX10 8 (some .int) 8 K) (hkb : ∀ (x3 : Int32) (x5 : Int32) (x6 : Int32) (h : PH), kb x3 x5 x6 h → PW (GM D ca ad) K 8 (qI Q) h 60 [some (.ref 0), none, none, some (.int x3), some (.int x4), some (.int x5), some (.int x6), none] []) (hw : w_X10_left_123 Q kb x3 x4 x6 h) : PW (GM D ca ad) K 8 (qI Q) h 123 [some (.ref 0), none, none, some (.int x3), some (.int x4), none, some (.int x6), none] [] := by
  unfold w_X10_left_123 at hw
  refine PW.iconst (v := 1) C dX10_left_123 (by decide) ?_
  exact PW.wk (wk_s (wk_n (wk_n (wk_s (wk_s (wk_n (wk_s (wk_n wk_0)))))))) (b_X10_left_124 C hkb hw)
def w_X10_left_60 (k139 : Int32 → PH → Prop) (Q : Int32 → PH → Prop) (x4 : Int32) (kb : Int32 → Int32 → Int32 → PH → Prop) (x3 : Int32) (x5 : Int32) (x6 : Int32) (h : PH) : Prop :=
  if 48 ≤ x6 then (k139 x3 h) else (vp_in ((48 * x4) + x6) 288 ∧ ∀ (y8 : Int32), y8 = (gI h 56 (iN ((48 * x4) + x6))) → if 0 ≤ y8 then (if x6 ≤ 0 then (w_X10_left_123 Q kb x3 x4 x6 h) else (vp_in (((48 * x4) + x6) - 1) 288 ∧ if (gI h 56 (iN (((48 * x4) + x6) - 1))) = y8 then (w_X10_left_124 Q kb x3 x4 x6 (x5 + 1) h) else (w_X10_left_123 Q kb x3 x4 x6 h))) else (w_X10_left_124 Q kb x3 x4 x6 0 h))
set_option maxRecDepth 8000 in
theorem b_X10_left_60 {D : va_G} {ca : Nat → ClassId} {ad : Nat → Nat} {K : Kt} {k139 : Int32 → PH → Prop} {kb : Int32 → Int32 → Int32 → PH → Prop} {Q : Int32 → PH → Prop} {x4 : Int32} {x3 : Int32} {x5 : Int32} {x6 : Int32} {h : PH} (C : CX (GM D ca ad) (XS (GM D ca ad)) cX10_left RX10 8 (some .int) 8 K) (hk139 : ∀ (x3 : Int32) (h : PH), k139 x3 h → PW (GM D ca ad) K 8 (qI Q) h 139 [some (.ref 0), none, none, some (.int x3), some (.int x4), none, none, none] []) (hkb : ∀ (x3 : Int32) (x5 : Int32) (x6 : Int32) (h : PH), kb x3 x5 x6 h → PW (GM D ca ad) K 8 (qI Q) h 60 [some (.ref 0), none, none, some (.int x3), some (.int x4), some (.int x5), some (.int x6), none] []) (hw : w_X10_left_60 k139 Q x4 kb x3 x5 x6 h) : PW (GM D ca ad) K 8 (qI Q) h 60 [some (.ref 0), none, none, some (.int x3), some (.int x4), some (.int x5), some (.int x6), none] [] := by
  unfold w_X10_left_60 at hw
  refine PW.ild6 C dX10_left_60 ?_
  refine PW.bipush (v := 48) C dX10_left_62 (by decide) ?_
  refine PW.icmp_ge (tgt := 139) C dX10_left_64 (by decide) (fun c => ?_) (fun c => ?_)
  · rw [if_pos c] at hw
    exact PW.wk (wk_s (wk_n (wk_n (wk_s (wk_s (wk_n (wk_n (wk_n wk_0)))))))) (hk139 _ _ hw)
  · rw [if_neg c] at hw
    refine PW.ald0n C dX10_left_67 ?_
    refine PW.get0 (v := .ref 56) C cf_10 fl_X10_180 (by decide) oM_0 (fvR (o := 56) rfl) dX10_left_68 ?_
    refine PW.bipush (v := 48) C dX10_left_71 (by decide) ?_
    refine PW.ild4 C dX10_left_73 ?_
    refine PW.imul C dX10_left_75 ?_
    refine PW.ild6 C dX10_left_76 ?_
    refine PW.iadd C dX10_left_78 ?_
    obtain ⟨hc7, hw⟩ := hw
    refine PW.iald C dX10_left_79 aM_56 hc7 ?_
    replace hw := hw _ rfl
    refine PW.ist7 C dX10_left_80 (by decide) rfl ?_
    refine PW.ild7 C dX10_left_82 ?_
    refine PW.if_ge (tgt := 91) C dX10_left_84 (by decide) (fun c => ?_) (fun c => ?_)
    · rw [if_pos c] at hw
      refine PW.ild6 C dX10_left_91 ?_
      refine PW.if_le (tgt := 123) C dX10_left_93 (by decide) (fun c => ?_) (fun c => ?_)
      · rw [if_pos c] at hw
        exact PW.wk (wk_s (wk_n (wk_n (wk_s (wk_s (wk_n (wk_s (wk_n wk_0)))))))) (b_X10_left_123 C hkb hw)
      · rw [if_neg c] at hw
        refine PW.ald0n C dX10_left_96 ?_
        refine PW.get0 (v := .ref 56) C cf_10 fl_X10_180 (by decide) oM_0 (fvR (o := 56) rfl) dX10_left_97 ?_
        refine PW.bipush (v := 48) C dX10_left_100 (by decide) ?_
        refine PW.ild4 C dX10_left_102 ?_
        refine PW.imul C dX10_left_104 ?_
        refine PW.ild6 C dX10_left_105 ?_
        refine PW.iadd C dX10_left_107 ?_
        refine PW.iconst (v := 1) C dX10_left_108 (by decide) ?_
        refine PW.isub C dX10_left_109 ?_
        obtain ⟨hc10, hw⟩ := hw
        refine PW.iald C dX10_left_110 aM_56 hc10 ?_
        refine PW.ild7 C dX10_left_111 ?_
        refine PW.icmp_ne (tgt := 123) C dX10_left_113 (by decide) (fun c => ?_) (fun c => ?_)
        · rw [if_neg c] at hw
          exact PW.wk (wk_s (wk_n (wk_n (wk_s (wk_s (wk_n (wk_s (wk_n wk_0)))))))) (b_X10_left_123 C hkb hw)
        · rw [if_pos c] at hw
          refine PW.ild5 C dX10_left_116 ?_
          refine PW.iconst (v := 1) C dX10_left_118 (by decide) ?_
          refine PW.iadd C dX10_left_119 ?_
          refine PW.goto (tgt := 124) C dX10_left_120 (by decide) ?_
          exact PW.wk (wk_s (wk_n (wk_n (wk_s (wk_s (wk_n (wk_s (wk_n wk_0)))))))) (b_X10_left_124 C hkb hw)
    · rw [if_neg c] at hw
      refine PW.iconst (v := 0) C dX10_left_87 (by decide) ?_
      refine PW.goto (tgt := 124) C dX10_left_88 (by decide) ?_
      exact PW.wk (wk_s (wk_n (wk_n (wk_s (wk_s (wk_n (wk_s (wk_n wk_0)))))))) (b_X10_left_124 C hkb hw)
theorem l_X10_left_60 {D : va_G} {ca : Nat → ClassId} {ad : Nat → Nat} {K : Kt} {k139 : Int32 → PH → Prop} {Q : Int32 → PH → Prop} {x4 : Int32} (C : CX (GM D ca ad) (XS (GM D ca ad)) cX10_left RX10 8 (some .int) 8 K) (hk139 : ∀ (x3 : Int32) (h : PH), k139 x3 h → PW (GM D ca ad) K 8 (qI Q) h 139 [some (.ref 0), none, none, some (.int x3), some (.int x4), none, none, none] []) : ∀ (n : Nat) (x3 : Int32) (x5 : Int32) (x6 : Int32) (h : PH), Lp3 (w_X10_left_60 k139 Q x4) n x3 x5 x6 h → PW (GM D ca ad) K 8 (qI Q) h 60 [some (.ref 0), none, none, some (.int x3), some (.int x4), some (.int x5), some (.int x6), none] [] := by
  intro n
  induction n with
  | zero => intro x3 x5 x6 h hw; exact hw.elim
  | succ n ih => intro x3 x5 x6 h hw; exact b_X10_left_60 C hk139 (fun x3 x5 x6 h hw => ih x3 x5 x6 h hw) hw
def w_X10_left_43 (k145 : Int32 → PH → Prop) (Q : Int32 → PH → Prop) (kb : Int32 → Int32 → PH → Prop) (x3 : Int32) (x4 : Int32) (h : PH) : Prop :=
  if (gI h 2 (iN 0)) ≤ x4 then (k145 x3 h) else (∃ n, Lp3 (w_X10_left_60 (fun y12 h11 => kb y12 (x4 + 1) h11) Q x4) n x3 0 0 h)
set_option maxRecDepth 8000 in
theorem b_X10_left_43 {D : va_G} {ca : Nat → ClassId} {ad : Nat → Nat} {K : Kt} {k145 : Int32 → PH → Prop} {kb : Int32 → Int32 → PH → Prop} {Q : Int32 → PH → Prop} {x3 : Int32} {x4 : Int32} {h : PH} (C : CX (GM D ca ad) (XS (GM D ca ad)) cX10_left RX10 8 (some .int) 8 K) (hk145 : ∀ (x3 : Int32) (h : PH), k145 x3 h → PW (GM D ca ad) K 8 (qI Q) h 145 [none, none, none, some (.int x3), none, none, none, none] []) (hkb : ∀ (x3 : Int32) (x4 : Int32) (h : PH), kb x3 x4 h → PW (GM D ca ad) K 8 (qI Q) h 43 [some (.ref 0), none, none, some (.int x3), some (.int x4), none, none, none] []) (hw : w_X10_left_43 k145 Q kb x3 x4 h) : PW (GM D ca ad) K 8 (qI Q) h 43 [some (.ref 0), none, none, some (.int x3), some (.int x4), none, none, none] [] := by
  unfold w_X10_left_43 at hw
  refine PW.ild4 C dX10_left_43 ?_
  refine PW.ald0n C dX10_left_45 ?_
  refine PW.get0 (v := .ref 2) C cf_10 fl_X10_13 (by decide) oM_0 (fvR (o := 2) rfl) dX10_left_46 ?_
  refine PW.iconst (v := 0) C dX10_left_49 (by decide) ?_
  refine PW.iald C dX10_left_50 aM_2 (vpl (by decide)) ?_
  refine PW.icmp_ge (tgt := 145) C dX10_left_51 (by decide) (fun c => ?_) (fun c => ?_)
  · rw [if_pos c] at hw
    exact PW.wk (wk_n (wk_n (wk_n (wk_s (wk_n (wk_n (wk_n (wk_n wk_0)))))))) (hk145 _ _ hw)
  · rw [if_neg c] at hw
    refine PW.iconst (v := 0) C dX10_left_54 (by decide) ?_
    refine PW.ist5 C dX10_left_55 (by decide) rfl ?_
    refine PW.iconst (v := 0) C dX10_left_57 (by decide) ?_
    refine PW.ist6 C dX10_left_58 (by decide) rfl ?_
    obtain ⟨n, hw⟩ := hw
    refine PW.wk (wk_s (wk_n (wk_n (wk_s (wk_s (wk_s (wk_s (wk_n wk_0)))))))) (l_X10_left_60 C ?_ n _ _ _ _ hw)
    · intro y12 h11 hw
      refine PW.inc4 (v := 1) C dX10_left_139 (by decide) rfl (by decide) ?_
      refine PW.goto (tgt := 43) C dX10_left_142 (by decide) ?_
      exact PW.wk (wk_s (wk_n (wk_n (wk_s (wk_s (wk_n (wk_n (wk_n wk_0)))))))) (hkb _ _ _ hw)
theorem l_X10_left_43 {D : va_G} {ca : Nat → ClassId} {ad : Nat → Nat} {K : Kt} {k145 : Int32 → PH → Prop} {Q : Int32 → PH → Prop} (C : CX (GM D ca ad) (XS (GM D ca ad)) cX10_left RX10 8 (some .int) 8 K) (hk145 : ∀ (x3 : Int32) (h : PH), k145 x3 h → PW (GM D ca ad) K 8 (qI Q) h 145 [none, none, none, some (.int x3), none, none, none, none] []) : ∀ (n : Nat) (x3 : Int32) (x4 : Int32) (h : PH), Lp2 (w_X10_left_43 k145 Q) n x3 x4 h → PW (GM D ca ad) K 8 (qI Q) h 43 [some (.ref 0), none, none, some (.int x3), some (.int x4), none, none, none] [] := by
  intro n
  induction n with
  | zero => intro x3 x4 h hw; exact hw.elim
  | succ n ih => intro x3 x4 h hw; exact b_X10_left_43 C hk145 (fun x3 x4 h hw => ih x3 x4 h hw) hw
def w_X10_left (x1 : Int32) (x2 : Int32) (h : PH) (Q : Int32 → PH → Prop) : Prop :=
  ∀ h1, h1 = sI h 0 0 0 → w_X10_isOwner x1 h1 (fun z3 h2 => if z3 = 0 then (Q (-1) h2) else (if x2 < 0 then (Q (-1) h2) else (if x2 ≤ 2 then (w_X10_layDay h2 (fun h4 => w_X10_layHeirs x1 x2 h4 (fun h5 => w_X10_layWhose h5 (fun h6 => ∃ n, Lp2 (w_X10_left_43 (fun y14 h13 => Q y14 h13) Q) n 0 0 h6)))) else (Q (-1) h2))))
set_option maxRecDepth 8000 in
theorem s_X10_left {D : va_G} {ca : Nat → ClassId} {ad : Nat → Nat} {l : Launch} {x1 : Int32} {x2 : Int32} {h : PH} {Q : Int32 → PH → Prop} (hw : w_X10_left x1 x2 h Q) : Sp (GM D ca ad) (XS (GM D ca ad)) l 8 yX10_left cX10_left 8 (some .int) [.ref 0, .int x1, .int x2] h (qI Q) := by
  refine Sp.of (own := RX10) [some (.ref 0), some (.int x1), some (.int x2), none, none, none, none, none] (by decide +kernel) rfl rfl (Nat.le_of_ble_eq_true rfl) (fun K hl C => ?_)
  subst hl
  unfold w_X10_left at hw
  refine PW.ald0n C dX10_left_0 ?_
  refine PW.iconst (v := 0) C dX10_left_1 (by decide) ?_
  replace hw := hw _ rfl
  refine PW.put0 C cf_10 fl_X10_235 (by decide) oM_0 rfl rfl rfl (pw_sI oM_0 (by decide) rfl) dX10_left_2 ?_
  refine PW.ald0n C dX10_left_5 ?_
  refine PW.ild1n C dX10_left_6 ?_
  refine PW.callVI1 C ms_X10_isOwner ml_X10_512 dX10_left_7 oM_0 ⟨_, _, rfl⟩ (Nat.le_of_ble_eq_true rfl) (by decide) (Nat.le_of_ble_eq_true rfl) (s_X10_isOwner hw) ?_
  clear hw
  intro z3 h2 hw
  refine PW.if_eq (tgt := 22) C dX10_left_10 (by decide) (fun c => ?_) (fun c => ?_)
  · rw [if_pos c] at hw
    refine PW.iconst (v := (-1)) C dX10_left_22 (by decide) ?_
    exact PW.iret C dX10_left_23 ⟨_, rfl, hw⟩
  · rw [if_neg c] at hw
    refine PW.ild2n C dX10_left_13 ?_
    refine PW.if_lt (tgt := 22) C dX10_left_14 (by decide) (fun c => ?_) (fun c => ?_)
    · rw [if_pos c] at hw
      refine PW.iconst (v := (-1)) C dX10_left_22 (by decide) ?_
      exact PW.iret C dX10_left_23 ⟨_, rfl, hw⟩
    · rw [if_neg c] at hw
      refine PW.ild2n C dX10_left_17 ?_
      refine PW.iconst (v := 2) C dX10_left_18 (by decide) ?_
      refine PW.icmp_le (tgt := 24) C dX10_left_19 (by decide) (fun c => ?_) (fun c => ?_)
      · rw [if_pos c] at hw
        refine PW.ald0n C dX10_left_24 ?_
        refine PW.callVV0 C ms_X10_layDay ml_X10_515 dX10_left_25 oM_0 ⟨_, _, rfl⟩ (Nat.le_of_ble_eq_true rfl) (by decide) (Nat.le_of_ble_eq_true rfl) (s_X10_layDay hw) ?_
        clear hw
        intro h4 hw
        refine PW.ald0n C dX10_left_28 ?_
        refine PW.ild1n C dX10_left_29 ?_
        refine PW.ild2n C dX10_left_30 ?_
        refine PW.callVV2 C ms_X10_layHeirs ml_X10_644 dX10_left_31 oM_0 ⟨_, _, rfl⟩ (Nat.le_of_ble_eq_true rfl) (by decide) (Nat.le_of_ble_eq_true rfl) (s_X10_layHeirs hw) ?_
        clear hw
        intro h5 hw
        refine PW.ald0n C dX10_left_34 ?_
        refine PW.callVV0 C ms_X10_layWhose ml_X10_502 dX10_left_35 oM_0 ⟨_, _, rfl⟩ (Nat.le_of_ble_eq_true rfl) (by decide) (Nat.le_of_ble_eq_true rfl) (s_X10_layWhose hw) ?_
        clear hw
        intro h6 hw
        refine PW.iconst (v := 0) C dX10_left_38 (by decide) ?_
        refine PW.ist3n C dX10_left_39 (by decide) rfl ?_
        refine PW.iconst (v := 0) C dX10_left_40 (by decide) ?_
        refine PW.ist4 C dX10_left_41 (by decide) rfl ?_
        obtain ⟨n, hw⟩ := hw
        refine PW.wk (wk_s (wk_n (wk_n (wk_s (wk_s (wk_n (wk_n (wk_n wk_0)))))))) (l_X10_left_43 C ?_ n _ _ _ hw)
        · intro y14 h13 hw
          refine PW.ild3n C dX10_left_145 ?_
          exact PW.iret C dX10_left_146 ⟨_, rfl, hw⟩
      · rw [if_neg c] at hw
        refine PW.iconst (v := (-1)) C dX10_left_22 (by decide) ?_
        exact PW.iret C dX10_left_23 ⟨_, rfl, hw⟩
def w_X10_has_21 (Q : Int32 → PH → Prop) (x1 : Int32) (x2 : Int32) (x3 : Int32) (s0 : Int32) (h : PH) : Prop :=
  Q (s0 - (x1 * (mnI x2 x3))) h
set_option maxRecDepth 8000 in
theorem b_X10_has_21 {D : va_G} {ca : Nat → ClassId} {ad : Nat → Nat} {K : Kt} {Q : Int32 → PH → Prop} {x1 : Int32} {x2 : Int32} {x3 : Int32} {s0 : Int32} {h : PH} (C : CX (GM D ca ad) (XS (GM D ca ad)) cX10_has RX10 4 (some .int) 1 K) (hw : w_X10_has_21 Q x1 x2 x3 s0 h) : PW (GM D ca ad) K 4 (qI Q) h 21 [none, some (.int x1), some (.int x2), some (.int x3)] [.int s0] := by
  unfold w_X10_has_21 at hw
  refine PW.ild1n C dX10_has_21 ?_
  refine PW.ild2n C dX10_has_22 ?_
  refine PW.ild3n C dX10_has_23 ?_
  refine PW.mnI C ml_X10_474 (Nat.le_of_ble_eq_true rfl) (by decide) dX10_has_24 ?_
  refine PW.imul C dX10_has_27 ?_
  refine PW.isub C dX10_has_28 ?_
  exact PW.iret C dX10_has_29 ⟨_, rfl, hw⟩
def w_X10_has (x0 : Int32) (x1 : Int32) (x2 : Int32) (x3 : Int32) (h : PH) (Q : Int32 → PH → Prop) : Prop :=
  if x2 ≤ x3 then (if x2 = x3 then (w_X10_has_21 Q x1 x2 x3 (x0 / 2) h) else (w_X10_has_21 Q x1 x2 x3 0 h)) else (w_X10_has_21 Q x1 x2 x3 x0 h)
set_option maxRecDepth 8000 in
theorem s_X10_has {D : va_G} {ca : Nat → ClassId} {ad : Nat → Nat} {l : Launch} {x0 : Int32} {x1 : Int32} {x2 : Int32} {x3 : Int32} {h : PH} {Q : Int32 → PH → Prop} (hw : w_X10_has x0 x1 x2 x3 h Q) : Sp (GM D ca ad) (XS (GM D ca ad)) l 1 yX10_has cX10_has 4 (some .int) [.int x0, .int x1, .int x2, .int x3] h (qI Q) := by
  refine Sp.of (own := RX10) [some (.int x0), some (.int x1), some (.int x2), some (.int x3)] (by decide +kernel) rfl rfl (Nat.le_of_ble_eq_true rfl) (fun K hl C => ?_)
  subst hl
  unfold w_X10_has at hw
  refine PW.ild2n C dX10_has_0 ?_
  refine PW.ild3n C dX10_has_1 ?_
  refine PW.icmp_le (tgt := 9) C dX10_has_2 (by decide) (fun c => ?_) (fun c => ?_)
  · rw [if_pos c] at hw
    refine PW.ild2n C dX10_has_9 ?_
    refine PW.ild3n C dX10_has_10 ?_
    refine PW.icmp_ne (tgt := 20) C dX10_has_11 (by decide) (fun c => ?_) (fun c => ?_)
    · rw [if_neg c] at hw
      refine PW.iconst (v := 0) C dX10_has_20 (by decide) ?_
      exact PW.wk (wk_n (wk_s (wk_s (wk_s wk_0)))) (b_X10_has_21 C hw)
    · rw [if_pos c] at hw
      refine PW.ild0n C dX10_has_14 ?_
      refine PW.iconst (v := 2) C dX10_has_15 (by decide) ?_
      refine PW.idiv C dX10_has_16 (by decide) ?_
      refine PW.goto (tgt := 21) C dX10_has_17 (by decide) ?_
      exact PW.wk (wk_n (wk_s (wk_s (wk_s wk_0)))) (b_X10_has_21 C hw)
  · rw [if_neg c] at hw
    refine PW.ild0n C dX10_has_5 ?_
    refine PW.goto (tgt := 21) C dX10_has_6 (by decide) ?_
    exact PW.wk (wk_n (wk_s (wk_s (wk_s wk_0)))) (b_X10_has_21 C hw)
def w_X10_isRest_3 (k49 : PH → Prop) (k57 : PH → Prop) (Q : Int32 → PH → Prop) (x0 : Int32) (x1 : Int32) (x2 : Int32) (x3 : Int32) (x4 : Int32) (kb : Int32 → PH → Prop) (x5 : Int32) (h : PH) : Prop :=
  if 10 ≤ x5 then (k57 h) else (w_X10_has x0 x1 x5 x4 h (fun z2 h1 => w_X10_has x0 x1 x3 x4 h1 (fun z4 h3 => if z4 < z2 then (k49 h3) else (w_X10_has x0 x2 x5 x3 h3 (fun z6 h5 => w_X10_has x0 x2 x4 x3 h5 (fun z8 h7 => if z6 ≤ z8 then (kb (x5 + 1) h7) else (k49 h7)))))))
set_option maxRecDepth 8000 in
theorem b_X10_isRest_3 {D : va_G} {ca : Nat → ClassId} {ad : Nat → Nat} {K : Kt} {k49 : PH → Prop} {k57 : PH → Prop} {kb : Int32 → PH → Prop} {Q : Int32 → PH → Prop} {x0 : Int32} {x1 : Int32} {x2 : Int32} {x3 : Int32} {x4 : Int32} {x5 : Int32} {h : PH} (C : CX (GM D ca ad) (XS (GM D ca ad)) cX10_isRest RX10 6 (some .boolean) 2 K) (hk49 : ∀ (h : PH), k49 h → PW (GM D ca ad) K 6 (qI Q) h 49 [none, none, none, none, none, none] []) (hk57 : ∀ (h : PH), k57 h → PW (GM D ca ad) K 6 (qI Q) h 57 [none, none, none, none, none, none] []) (hkb : ∀ (x5 : Int32) (h : PH), kb x5 h → PW (GM D ca ad) K 6 (qI Q) h 3 [some (.int x0), some (.int x1), some (.int x2), some (.int x3), some (.int x4), some (.int x5)] []) (hw : w_X10_isRest_3 k49 k57 Q x0 x1 x2 x3 x4 kb x5 h) : PW (GM D ca ad) K 6 (qI Q) h 3 [some (.int x0), some (.int x1), some (.int x2), some (.int x3), some (.int x4), some (.int x5)] [] := by
  unfold w_X10_isRest_3 at hw
  refine PW.ild5 C dX10_isRest_3 ?_
  refine PW.bipush (v := 10) C dX10_isRest_5 (by decide) ?_
  refine PW.icmp_ge (tgt := 57) C dX10_isRest_7 (by decide) (fun c => ?_) (fun c => ?_)
  · rw [if_pos c] at hw
    exact PW.wk (wk_n (wk_n (wk_n (wk_n (wk_n (wk_n wk_0)))))) (hk57 _ hw)
  · rw [if_neg c] at hw
    refine PW.ild0n C dX10_isRest_10 ?_
    refine PW.ild1n C dX10_isRest_11 ?_
    refine PW.ild5 C dX10_isRest_12 ?_
    refine PW.ild4 C dX10_isRest_14 ?_
    refine PW.callSI4 C ms_X10_has ml_X10_647 dX10_isRest_16 (Nat.le_of_ble_eq_true rfl) (by decide) (Nat.le_of_ble_eq_true rfl) (s_X10_has hw) ?_
    clear hw
    intro z2 h1 hw
    refine PW.ild0n C dX10_isRest_19 ?_
    refine PW.ild1n C dX10_isRest_20 ?_
    refine PW.ild3n C dX10_isRest_21 ?_
    refine PW.ild4 C dX10_isRest_22 ?_
    refine PW.callSI4 C ms_X10_has ml_X10_647 dX10_isRest_24 (Nat.le_of_ble_eq_true rfl) (by decide) (Nat.le_of_ble_eq_true rfl) (s_X10_has hw) ?_
    clear hw
    intro z4 h3 hw
    refine PW.icmp_gt (tgt := 49) C dX10_isRest_27 (by decide) (fun c => ?_) (fun c => ?_)
    · rw [if_pos c] at hw
      exact PW.wk (wk_n (wk_n (wk_n (wk_n (wk_n (wk_n wk_0)))))) (hk49 _ hw)
    · rw [if_neg c] at hw
      refine PW.ild0n C dX10_isRest_30 ?_
      refine PW.ild2n C dX10_isRest_31 ?_
      refine PW.ild5 C dX10_isRest_32 ?_
      refine PW.ild3n C dX10_isRest_34 ?_
      refine PW.callSI4 C ms_X10_has ml_X10_647 dX10_isRest_35 (Nat.le_of_ble_eq_true rfl) (by decide) (Nat.le_of_ble_eq_true rfl) (s_X10_has hw) ?_
      clear hw
      intro z6 h5 hw
      refine PW.ild0n C dX10_isRest_38 ?_
      refine PW.ild2n C dX10_isRest_39 ?_
      refine PW.ild4 C dX10_isRest_40 ?_
      refine PW.ild3n C dX10_isRest_42 ?_
      refine PW.callSI4 C ms_X10_has ml_X10_647 dX10_isRest_43 (Nat.le_of_ble_eq_true rfl) (by decide) (Nat.le_of_ble_eq_true rfl) (s_X10_has hw) ?_
      clear hw
      intro z8 h7 hw
      refine PW.icmp_le (tgt := 51) C dX10_isRest_46 (by decide) (fun c => ?_) (fun c => ?_)
      · rw [if_pos c] at hw
        refine PW.inc5 (v := 1) C dX10_isRest_51 (by decide) rfl (by decide) ?_
        refine PW.goto (tgt := 3) C dX10_isRest_54 (by decide) ?_
        exact PW.wk (wk_s (wk_s (wk_s (wk_s (wk_s (wk_s wk_0)))))) (hkb _ _ hw)
      · rw [if_neg c] at hw
        exact PW.wk (wk_n (wk_n (wk_n (wk_n (wk_n (wk_n wk_0)))))) (hk49 _ hw)
theorem l_X10_isRest_3 {D : va_G} {ca : Nat → ClassId} {ad : Nat → Nat} {K : Kt} {k49 : PH → Prop} {k57 : PH → Prop} {Q : Int32 → PH → Prop} {x0 : Int32} {x1 : Int32} {x2 : Int32} {x3 : Int32} {x4 : Int32} (C : CX (GM D ca ad) (XS (GM D ca ad)) cX10_isRest RX10 6 (some .boolean) 2 K) (hk49 : ∀ (h : PH), k49 h → PW (GM D ca ad) K 6 (qI Q) h 49 [none, none, none, none, none, none] []) (hk57 : ∀ (h : PH), k57 h → PW (GM D ca ad) K 6 (qI Q) h 57 [none, none, none, none, none, none] []) : ∀ (n : Nat) (x5 : Int32) (h : PH), Lp1 (w_X10_isRest_3 k49 k57 Q x0 x1 x2 x3 x4) n x5 h → PW (GM D ca ad) K 6 (qI Q) h 3 [some (.int x0), some (.int x1), some (.int x2), some (.int x3), some (.int x4), some (.int x5)] [] := by
  intro n
  induction n with
  | zero => intro x5 h hw; exact hw.elim
  | succ n ih => intro x5 h hw; exact b_X10_isRest_3 C hk49 hk57 (fun x5 h hw => ih x5 h hw) hw
def w_X10_isRest (x0 : Int32) (x1 : Int32) (x2 : Int32) (x3 : Int32) (x4 : Int32) (h : PH) (Q : Int32 → PH → Prop) : Prop :=
  ∃ n, Lp1 (w_X10_isRest_3 (fun h9 => Q 0 h9) (fun h10 => Q 1 h10) Q x0 x1 x2 x3 x4) n 0 h
set_option maxRecDepth 8000 in
theorem s_X10_isRest {D : va_G} {ca : Nat → ClassId} {ad : Nat → Nat} {l : Launch} {x0 : Int32} {x1 : Int32} {x2 : Int32} {x3 : Int32} {x4 : Int32} {h : PH} {Q : Int32 → PH → Prop} (hw : w_X10_isRest x0 x1 x2 x3 x4 h Q) : Sp (GM D ca ad) (XS (GM D ca ad)) l 2 yX10_isRest cX10_isRest 6 (some .boolean) [.int x0, .int x1, .int x2, .int x3, .int x4] h (qI Q) := by
  refine Sp.of (own := RX10) [some (.int x0), some (.int x1), some (.int x2), some (.int x3), some (.int x4), none] (by decide +kernel) rfl rfl (Nat.le_of_ble_eq_true rfl) (fun K hl C => ?_)
  subst hl
  unfold w_X10_isRest at hw
  refine PW.iconst (v := 0) C dX10_isRest_0 (by decide) ?_
  refine PW.ist5 C dX10_isRest_1 (by decide) rfl ?_
  obtain ⟨n, hw⟩ := hw
  refine PW.wk (wk_s (wk_s (wk_s (wk_s (wk_s (wk_s wk_0)))))) (l_X10_isRest_3 C ?_ ?_ n _ _ hw)
  · intro h9 hw
    refine PW.iconst (v := 0) C dX10_isRest_49 (by decide) ?_
    exact PW.zret C dX10_isRest_50 (by decide) ⟨_, rfl, hw⟩
  · intro h10 hw
    refine PW.iconst (v := 1) C dX10_isRest_57 (by decide) ?_
    exact PW.zret C dX10_isRest_58 (by decide) ⟨_, rfl, hw⟩
def w_X10_restOf_16 (k45 : Int32 → PH → Prop) (k63 : Int32 → PH → Prop) (Q : Int32 → PH → Prop) (x0 : Int32) (x1 : Int32) (x2 : Int32) (x3 : Int32) (x5 : Int32) (kb : Int32 → Int32 → PH → Prop) (x4 : Int32) (x6 : Int32) (h : PH) : Prop :=
  if 10 ≤ x6 then (k63 x4 h) else (w_X10_isRest x0 x1 x2 x5 x6 h (fun z2 h1 => if z2 = 0 then (kb x4 (x6 + 1) h1) else (if x4 = x3 then (k45 x6 h1) else (kb (x4 + 1) (x6 + 1) h1))))
set_option maxRecDepth 8000 in
theorem b_X10_restOf_16 {D : va_G} {ca : Nat → ClassId} {ad : Nat → Nat} {K : Kt} {k45 : Int32 → PH → Prop} {k63 : Int32 → PH → Prop} {kb : Int32 → Int32 → PH → Prop} {Q : Int32 → PH → Prop} {x0 : Int32} {x1 : Int32} {x2 : Int32} {x3 : Int32} {x5 : Int32} {x4 : Int32} {x6 : Int32} {h : PH} (C : CX (GM D ca ad) (XS (GM D ca ad)) cX10_restOf RX10 7 (some .int) 3 K) (hk45 : ∀ (x6 : Int32) (h : PH), k45 x6 h → PW (GM D ca ad) K 7 (qI Q) h 45 [none, none, none, none, none, some (.int x5), some (.int x6)] []) (hk63 : ∀ (x4 : Int32) (h : PH), k63 x4 h → PW (GM D ca ad) K 7 (qI Q) h 63 [some (.int x0), some (.int x1), some (.int x2), some (.int x3), some (.int x4), some (.int x5), none] []) (hkb : ∀ (x4 : Int32) (x6 : Int32) (h : PH), kb x4 x6 h → PW (GM D ca ad) K 7 (qI Q) h 16 [some (.int x0), some (.int x1), some (.int x2), some (.int x3), some (.int x4), some (.int x5), some (.int x6)] []) (hw : w_X10_restOf_16 k45 k63 Q x0 x1 x2 x3 x5 kb x4 x6 h) : PW (GM D ca ad) K 7 (qI Q) h 16 [some (.int x0), some (.int x1), some (.int x2), some (.int x3), some (.int x4), some (.int x5), some (.int x6)] [] := by
  unfold w_X10_restOf_16 at hw
  refine PW.ild6 C dX10_restOf_16 ?_
  refine PW.bipush (v := 10) C dX10_restOf_18 (by decide) ?_
  refine PW.icmp_ge (tgt := 63) C dX10_restOf_20 (by decide) (fun c => ?_) (fun c => ?_)
  · rw [if_pos c] at hw
    exact PW.wk (wk_s (wk_s (wk_s (wk_s (wk_s (wk_s (wk_n wk_0))))))) (hk63 _ _ hw)
  · rw [if_neg c] at hw
    refine PW.ild0n C dX10_restOf_23 ?_
    refine PW.ild1n C dX10_restOf_24 ?_
    refine PW.ild2n C dX10_restOf_25 ?_
    refine PW.ild5 C dX10_restOf_26 ?_
    refine PW.ild6 C dX10_restOf_28 ?_
    refine PW.callSI5 C ms_X10_isRest ml_X10_650 dX10_restOf_30 (Nat.le_of_ble_eq_true rfl) (by decide) (Nat.le_of_ble_eq_true rfl) (s_X10_isRest hw) ?_
    clear hw
    intro z2 h1 hw
    refine PW.if_ne (tgt := 39) C dX10_restOf_33 (by decide) (fun c => ?_) (fun c => ?_)
    · rw [if_neg c] at hw
      refine PW.ild4 C dX10_restOf_39 ?_
      refine PW.ild3n C dX10_restOf_41 ?_
      refine PW.icmp_ne (tgt := 54) C dX10_restOf_42 (by decide) (fun c => ?_) (fun c => ?_)
      · rw [if_neg c] at hw
        refine PW.inc4 (v := 1) C dX10_restOf_54 (by decide) rfl (by decide) ?_
        refine PW.inc6 (v := 1) C dX10_restOf_57 (by decide) rfl (by decide) ?_
        refine PW.goto (tgt := 16) C dX10_restOf_60 (by decide) ?_
        exact PW.wk (wk_s (wk_s (wk_s (wk_s (wk_s (wk_s (wk_s wk_0))))))) (hkb _ _ _ hw)
      · rw [if_pos c] at hw
        exact PW.wk (wk_n (wk_n (wk_n (wk_n (wk_n (wk_s (wk_s wk_0))))))) (hk45 _ _ hw)
    · rw [if_pos c] at hw
      refine PW.goto (tgt := 57) C dX10_restOf_36 (by decide) ?_
      refine PW.inc6 (v := 1) C dX10_restOf_57 (by decide) rfl (by decide) ?_
      refine PW.goto (tgt := 16) C dX10_restOf_60 (by decide) ?_
      exact PW.wk (wk_s (wk_s (wk_s (wk_s (wk_s (wk_s (wk_s wk_0))))))) (hkb _ _ _ hw)
theorem l_X10_restOf_16 {D : va_G} {ca : Nat → ClassId} {ad : Nat → Nat} {K : Kt} {k45 : Int32 → PH → Prop} {k63 : Int32 → PH → Prop} {Q : Int32 → PH → Prop} {x0 : Int32} {x1 : Int32} {x2 : Int32} {x3 : Int32} {x5 : Int32} (C : CX (GM D ca ad) (XS (GM D ca ad)) cX10_restOf RX10 7 (some .int) 3 K) (hk45 : ∀ (x6 : Int32) (h : PH), k45 x6 h → PW (GM D ca ad) K 7 (qI Q) h 45 [none, none, none, none, none, some (.int x5), some (.int x6)] []) (hk63 : ∀ (x4 : Int32) (h : PH), k63 x4 h → PW (GM D ca ad) K 7 (qI Q) h 63 [some (.int x0), some (.int x1), some (.int x2), some (.int x3), some (.int x4), some (.int x5), none] []) : ∀ (n : Nat) (x4 : Int32) (x6 : Int32) (h : PH), Lp2 (w_X10_restOf_16 k45 k63 Q x0 x1 x2 x3 x5) n x4 x6 h → PW (GM D ca ad) K 7 (qI Q) h 16 [some (.int x0), some (.int x1), some (.int x2), some (.int x3), some (.int x4), some (.int x5), some (.int x6)] [] := by
  intro n
  induction n with
  | zero => intro x4 x6 h hw; exact hw.elim
  | succ n ih => intro x4 x6 h hw; exact b_X10_restOf_16 C hk45 hk63 (fun x4 x6 h hw => ih x4 x6 h hw) hw
def w_X10_restOf_6 (k45 : Int32 → Int32 → PH → Prop) (k69 : Int32 → PH → Prop) (Q : Int32 → PH → Prop) (x0 : Int32) (x1 : Int32) (x2 : Int32) (x3 : Int32) (kb : Int32 → Int32 → PH → Prop) (x4 : Int32) (x5 : Int32) (h : PH) : Prop :=
  if 10 ≤ x5 then (k69 x4 h) else (∃ n, Lp2 (w_X10_restOf_16 (fun y4 h3 => k45 x5 y4 h3) (fun y6 h5 => kb y6 (x5 + 1) h5) Q x0 x1 x2 x3 x5) n x4 0 h)
set_option maxRecDepth 8000 in
theorem b_X10_restOf_6 {D : va_G} {ca : Nat → ClassId} {ad : Nat → Nat} {K : Kt} {k45 : Int32 → Int32 → PH → Prop} {k69 : Int32 → PH → Prop} {kb : Int32 → Int32 → PH → Prop} {Q : Int32 → PH → Prop} {x0 : Int32} {x1 : Int32} {x2 : Int32} {x3 : Int32} {x4 : Int32} {x5 : Int32} {h : PH} (C : CX (GM D ca ad) (XS (GM D ca ad)) cX10_restOf RX10 7 (some .int) 3 K) (hk45 : ∀ (x5 : Int32) (x6 : Int32) (h : PH), k45 x5 x6 h → PW (GM D ca ad) K 7 (qI Q) h 45 [none, none, none, none, none, some (.int x5), some (.int x6)] []) (hk69 : ∀ (x4 : Int32) (h : PH), k69 x4 h → PW (GM D ca ad) K 7 (qI Q) h 69 [none, none, none, some (.int x3), some (.int x4), none, none] []) (hkb : ∀ (x4 : Int32) (x5 : Int32) (h : PH), kb x4 x5 h → PW (GM D ca ad) K 7 (qI Q) h 6 [some (.int x0), some (.int x1), some (.int x2), some (.int x3), some (.int x4), some (.int x5), none] []) (hw : w_X10_restOf_6 k45 k69 Q x0 x1 x2 x3 kb x4 x5 h) : PW (GM D ca ad) K 7 (qI Q) h 6 [some (.int x0), some (.int x1), some (.int x2), some (.int x3), some (.int x4), some (.int x5), none] [] := by
  unfold w_X10_restOf_6 at hw
  refine PW.ild5 C dX10_restOf_6 ?_
  refine PW.bipush (v := 10) C dX10_restOf_8 (by decide) ?_
  refine PW.icmp_ge (tgt := 69) C dX10_restOf_10 (by decide) (fun c => ?_) (fun c => ?_)
  · rw [if_pos c] at hw
    exact PW.wk (wk_n (wk_n (wk_n (wk_s (wk_s (wk_n (wk_n wk_0))))))) (hk69 _ _ hw)
  · rw [if_neg c] at hw
    refine PW.iconst (v := 0) C dX10_restOf_13 (by decide) ?_
    refine PW.ist6 C dX10_restOf_14 (by decide) rfl ?_
    obtain ⟨n, hw⟩ := hw
    refine PW.wk (wk_s (wk_s (wk_s (wk_s (wk_s (wk_s (wk_s wk_0))))))) (l_X10_restOf_16 C ?_ ?_ n _ _ _ hw)
    · intro y4 h3 hw
      exact PW.wk (wk_n (wk_n (wk_n (wk_n (wk_n (wk_s (wk_s wk_0))))))) (hk45 _ _ _ hw)
    · intro y6 h5 hw
      refine PW.inc5 (v := 1) C dX10_restOf_63 (by decide) rfl (by decide) ?_
      refine PW.goto (tgt := 6) C dX10_restOf_66 (by decide) ?_
      exact PW.wk (wk_s (wk_s (wk_s (wk_s (wk_s (wk_s (wk_n wk_0))))))) (hkb _ _ _ hw)
theorem l_X10_restOf_6 {D : va_G} {ca : Nat → ClassId} {ad : Nat → Nat} {K : Kt} {k45 : Int32 → Int32 → PH → Prop} {k69 : Int32 → PH → Prop} {Q : Int32 → PH → Prop} {x0 : Int32} {x1 : Int32} {x2 : Int32} {x3 : Int32} (C : CX (GM D ca ad) (XS (GM D ca ad)) cX10_restOf RX10 7 (some .int) 3 K) (hk45 : ∀ (x5 : Int32) (x6 : Int32) (h : PH), k45 x5 x6 h → PW (GM D ca ad) K 7 (qI Q) h 45 [none, none, none, none, none, some (.int x5), some (.int x6)] []) (hk69 : ∀ (x4 : Int32) (h : PH), k69 x4 h → PW (GM D ca ad) K 7 (qI Q) h 69 [none, none, none, some (.int x3), some (.int x4), none, none] []) : ∀ (n : Nat) (x4 : Int32) (x5 : Int32) (h : PH), Lp2 (w_X10_restOf_6 k45 k69 Q x0 x1 x2 x3) n x4 x5 h → PW (GM D ca ad) K 7 (qI Q) h 6 [some (.int x0), some (.int x1), some (.int x2), some (.int x3), some (.int x4), some (.int x5), none] [] := by
  intro n
  induction n with
  | zero => intro x4 x5 h hw; exact hw.elim
  | succ n ih => intro x4 x5 h hw; exact b_X10_restOf_6 C hk45 hk69 (fun x4 x5 h hw => ih x4 x5 h hw) hw
def w_X10_restOf (x0 : Int32) (x1 : Int32) (x2 : Int32) (x3 : Int32) (h : PH) (Q : Int32 → PH → Prop) : Prop :=
  ∃ n, Lp2 (w_X10_restOf_6 (fun y8 y9 h7 => Q ((10 * y8) + y9) h7) (fun y11 h10 => if x3 = (-1) then (Q y11 h10) else (Q (-2) h10)) Q x0 x1 x2 x3) n 0 0 h
set_option maxRecDepth 8000 in
theorem s_X10_restOf {D : va_G} {ca : Nat → ClassId} {ad : Nat → Nat} {l : Launch} {x0 : Int32} {x1 : Int32} {x2 : Int32} {x3 : Int32} {h : PH} {Q : Int32 → PH → Prop} (hw : w_X10_restOf x0 x1 x2 x3 h Q) : Sp (GM D ca ad) (XS (GM D ca ad)) l 3 yX10_restOf cX10_restOf 7 (some .int) [.int x0, .int x1, .int x2, .int x3] h (qI Q) := by
  refine Sp.of (own := RX10) [some (.int x0), some (.int x1), some (.int x2), some (.int x3), none, none, none] (by decide +kernel) rfl rfl (Nat.le_of_ble_eq_true rfl) (fun K hl C => ?_)
  subst hl
  unfold w_X10_restOf at hw
  refine PW.iconst (v := 0) C dX10_restOf_0 (by decide) ?_
  refine PW.ist4 C dX10_restOf_1 (by decide) rfl ?_
  refine PW.iconst (v := 0) C dX10_restOf_3 (by decide) ?_
  refine PW.ist5 C dX10_restOf_4 (by decide) rfl ?_
  obtain ⟨n, hw⟩ := hw
  refine PW.wk (wk_s (wk_s (wk_s (wk_s (wk_s (wk_s (wk_n wk_0))))))) (l_X10_restOf_6 C ?_ ?_ n _ _ _ hw)
  · intro y8 y9 h7 hw
    refine PW.bipush (v := 10) C dX10_restOf_45 (by decide) ?_
    refine PW.ild5 C dX10_restOf_47 ?_
    refine PW.imul C dX10_restOf_49 ?_
    refine PW.ild6 C dX10_restOf_50 ?_
    refine PW.iadd C dX10_restOf_52 ?_
    exact PW.iret C dX10_restOf_53 ⟨_, rfl, hw⟩
  · intro y11 h10 hw
    refine PW.ild3n C dX10_restOf_69 ?_
    refine PW.iconst (v := (-1)) C dX10_restOf_70 (by decide) ?_
    refine PW.icmp_ne (tgt := 79) C dX10_restOf_71 (by decide) (fun c => ?_) (fun c => ?_)
    · rw [if_neg c] at hw
      refine PW.bipush (v := (-2)) C dX10_restOf_79 (by decide) ?_
      exact PW.iret C dX10_restOf_81 ⟨_, rfl, hw⟩
    · rw [if_pos c] at hw
      refine PW.ild4 C dX10_restOf_74 ?_
      refine PW.goto (tgt := 81) C dX10_restOf_76 (by decide) ?_
      exact PW.iret C dX10_restOf_81 ⟨_, rfl, hw⟩
def w_X10_isWait (x0 : Int32) (x1 : Int32) (x2 : Int32) (h : PH) (Q : Int32 → PH → Prop) : Prop :=
  if x0 < 0 then (Q 0 h) else (if 99 < x0 then (Q 0 h) else (if x1 < 0 then (Q 0 h) else (if 99 < x1 then (Q 0 h) else (if x2 < 0 then (Q 0 h) else (if 99 < x2 then (Q 0 h) else (Q 1 h))))))
set_option maxRecDepth 8000 in
theorem s_X10_isWait {D : va_G} {ca : Nat → ClassId} {ad : Nat → Nat} {l : Launch} {x0 : Int32} {x1 : Int32} {x2 : Int32} {h : PH} {Q : Int32 → PH → Prop} (hw : w_X10_isWait x0 x1 x2 h Q) : Sp (GM D ca ad) (XS (GM D ca ad)) l 1 yX10_isWait cX10_isWait 3 (some .boolean) [.int x0, .int x1, .int x2] h (qI Q) := by
  refine Sp.of (own := RX10) [some (.int x0), some (.int x1), some (.int x2)] (by decide +kernel) rfl rfl (Nat.le_of_ble_eq_true rfl) (fun K hl C => ?_)
  subst hl
  unfold w_X10_isWait at hw
  refine PW.ild0n C dX10_isWait_0 ?_
  refine PW.if_lt (tgt := 34) C dX10_isWait_1 (by decide) (fun c => ?_) (fun c => ?_)
  · rw [if_pos c] at hw
    refine PW.iconst (v := 0) C dX10_isWait_34 (by decide) ?_
    exact PW.zret C dX10_isWait_35 (by decide) ⟨_, rfl, hw⟩
  · rw [if_neg c] at hw
    refine PW.ild0n C dX10_isWait_4 ?_
    refine PW.bipush (v := 99) C dX10_isWait_5 (by decide) ?_
    refine PW.icmp_gt (tgt := 34) C dX10_isWait_7 (by decide) (fun c => ?_) (fun c => ?_)
    · rw [if_pos c] at hw
      refine PW.iconst (v := 0) C dX10_isWait_34 (by decide) ?_
      exact PW.zret C dX10_isWait_35 (by decide) ⟨_, rfl, hw⟩
    · rw [if_neg c] at hw
      refine PW.ild1n C dX10_isWait_10 ?_
      refine PW.if_lt (tgt := 34) C dX10_isWait_11 (by decide) (fun c => ?_) (fun c => ?_)
      · rw [if_pos c] at hw
        refine PW.iconst (v := 0) C dX10_isWait_34 (by decide) ?_
        exact PW.zret C dX10_isWait_35 (by decide) ⟨_, rfl, hw⟩
      · rw [if_neg c] at hw
        refine PW.ild1n C dX10_isWait_14 ?_
        refine PW.bipush (v := 99) C dX10_isWait_15 (by decide) ?_
        refine PW.icmp_gt (tgt := 34) C dX10_isWait_17 (by decide) (fun c => ?_) (fun c => ?_)
        · rw [if_pos c] at hw
          refine PW.iconst (v := 0) C dX10_isWait_34 (by decide) ?_
          exact PW.zret C dX10_isWait_35 (by decide) ⟨_, rfl, hw⟩
        · rw [if_neg c] at hw
          refine PW.ild2n C dX10_isWait_20 ?_
          refine PW.if_lt (tgt := 34) C dX10_isWait_21 (by decide) (fun c => ?_) (fun c => ?_)
          · rw [if_pos c] at hw
            refine PW.iconst (v := 0) C dX10_isWait_34 (by decide) ?_
            exact PW.zret C dX10_isWait_35 (by decide) ⟨_, rfl, hw⟩
          · rw [if_neg c] at hw
            refine PW.ild2n C dX10_isWait_24 ?_
            refine PW.bipush (v := 99) C dX10_isWait_25 (by decide) ?_
            refine PW.icmp_gt (tgt := 34) C dX10_isWait_27 (by decide) (fun c => ?_) (fun c => ?_)
            · rw [if_pos c] at hw
              refine PW.iconst (v := 0) C dX10_isWait_34 (by decide) ?_
              exact PW.zret C dX10_isWait_35 (by decide) ⟨_, rfl, hw⟩
            · rw [if_neg c] at hw
              refine PW.iconst (v := 1) C dX10_isWait_30 (by decide) ?_
              refine PW.goto (tgt := 35) C dX10_isWait_31 (by decide) ?_
              exact PW.zret C dX10_isWait_35 (by decide) ⟨_, rfl, hw⟩
def w_X10_rests (x1 : Int32) (x2 : Int32) (x3 : Int32) (h : PH) (Q : Int32 → PH → Prop) : Prop :=
  ∀ h1, h1 = sI h 0 0 0 → w_X10_isWait x1 x2 x3 h1 (fun z3 h2 => if z3 = 0 then (Q (-1) h2) else (w_X10_restOf x1 x2 x3 (-1) h2 (fun z5 h4 => Q z5 h4)))
set_option maxRecDepth 8000 in
theorem s_X10_rests {D : va_G} {ca : Nat → ClassId} {ad : Nat → Nat} {l : Launch} {x1 : Int32} {x2 : Int32} {x3 : Int32} {h : PH} {Q : Int32 → PH → Prop} (hw : w_X10_rests x1 x2 x3 h Q) : Sp (GM D ca ad) (XS (GM D ca ad)) l 4 yX10_rests cX10_rests 4 (some .int) [.ref 0, .int x1, .int x2, .int x3] h (qI Q) := by
  refine Sp.of (own := RX10) [some (.ref 0), some (.int x1), some (.int x2), some (.int x3)] (by decide +kernel) rfl rfl (Nat.le_of_ble_eq_true rfl) (fun K hl C => ?_)
  subst hl
  unfold w_X10_rests at hw
  refine PW.ald0n C dX10_rests_0 ?_
  refine PW.iconst (v := 0) C dX10_rests_1 (by decide) ?_
  replace hw := hw _ rfl
  refine PW.put0 C cf_10 fl_X10_235 (by decide) oM_0 rfl rfl rfl (pw_sI oM_0 (by decide) rfl) dX10_rests_2 ?_
  refine PW.ild1n C dX10_rests_5 ?_
  refine PW.ild2n C dX10_rests_6 ?_
  refine PW.ild3n C dX10_rests_7 ?_
  refine PW.callSI3 C ms_X10_isWait ml_X10_654 dX10_rests_8 (Nat.le_of_ble_eq_true rfl) (by decide) (Nat.le_of_ble_eq_true rfl) (s_X10_isWait hw) ?_
  clear hw
  intro z3 h2 hw
  refine PW.if_eq (tgt := 24) C dX10_rests_11 (by decide) (fun c => ?_) (fun c => ?_)
  · rw [if_pos c] at hw
    refine PW.iconst (v := (-1)) C dX10_rests_24 (by decide) ?_
    exact PW.iret C dX10_rests_25 ⟨_, rfl, hw⟩
  · rw [if_neg c] at hw
    refine PW.ild1n C dX10_rests_14 ?_
    refine PW.ild2n C dX10_rests_15 ?_
    refine PW.ild3n C dX10_rests_16 ?_
    refine PW.iconst (v := (-1)) C dX10_rests_17 (by decide) ?_
    refine PW.callSI4 C ms_X10_restOf ml_X10_657 dX10_rests_18 (Nat.le_of_ble_eq_true rfl) (by decide) (Nat.le_of_ble_eq_true rfl) (s_X10_restOf hw) ?_
    clear hw
    intro z5 h4 hw
    refine PW.goto (tgt := 25) C dX10_rests_21 (by decide) ?_
    exact PW.iret C dX10_rests_25 ⟨_, rfl, hw⟩
def w_X10_rest (x1 : Int32) (x2 : Int32) (x3 : Int32) (x4 : Int32) (h : PH) (Q : Int32 → PH → Prop) : Prop :=
  ∀ h1, h1 = sI h 0 0 0 → w_X10_isWait x1 x2 x3 h1 (fun z3 h2 => if z3 = 0 then (Q (-1) h2) else (if x4 < 0 then (Q (-1) h2) else (w_X10_restOf x1 x2 x3 x4 h2 (fun z5 h4 => Q z5 h4))))
set_option maxRecDepth 8000 in
theorem s_X10_rest {D : va_G} {ca : Nat → ClassId} {ad : Nat → Nat} {l : Launch} {x1 : Int32} {x2 : Int32} {x3 : Int32} {x4 : Int32} {h : PH} {Q : Int32 → PH → Prop} (hw : w_X10_rest x1 x2 x3 x4 h Q) : Sp (GM D ca ad) (XS (GM D ca ad)) l 4 yX10_rest cX10_rest 5 (some .int) [.ref 0, .int x1, .int x2, .int x3, .int x4] h (qI Q) := by
  refine Sp.of (own := RX10) [some (.ref 0), some (.int x1), some (.int x2), some (.int x3), some (.int x4)] (by decide +kernel) rfl rfl (Nat.le_of_ble_eq_true rfl) (fun K hl C => ?_)
  subst hl
  unfold w_X10_rest at hw
  refine PW.ald0n C dX10_rest_0 ?_
  refine PW.iconst (v := 0) C dX10_rest_1 (by decide) ?_
  replace hw := hw _ rfl
  refine PW.put0 C cf_10 fl_X10_235 (by decide) oM_0 rfl rfl rfl (pw_sI oM_0 (by decide) rfl) dX10_rest_2 ?_
  refine PW.ild1n C dX10_rest_5 ?_
  refine PW.ild2n C dX10_rest_6 ?_
  refine PW.ild3n C dX10_rest_7 ?_
  refine PW.callSI3 C ms_X10_isWait ml_X10_654 dX10_rest_8 (Nat.le_of_ble_eq_true rfl) (by decide) (Nat.le_of_ble_eq_true rfl) (s_X10_isWait hw) ?_
  clear hw
  intro z3 h2 hw
  refine PW.if_eq (tgt := 30) C dX10_rest_11 (by decide) (fun c => ?_) (fun c => ?_)
  · rw [if_pos c] at hw
    refine PW.iconst (v := (-1)) C dX10_rest_30 (by decide) ?_
    exact PW.iret C dX10_rest_31 ⟨_, rfl, hw⟩
  · rw [if_neg c] at hw
    refine PW.ild4 C dX10_rest_14 ?_
    refine PW.if_lt (tgt := 30) C dX10_rest_16 (by decide) (fun c => ?_) (fun c => ?_)
    · rw [if_pos c] at hw
      refine PW.iconst (v := (-1)) C dX10_rest_30 (by decide) ?_
      exact PW.iret C dX10_rest_31 ⟨_, rfl, hw⟩
    · rw [if_neg c] at hw
      refine PW.ild1n C dX10_rest_19 ?_
      refine PW.ild2n C dX10_rest_20 ?_
      refine PW.ild3n C dX10_rest_21 ?_
      refine PW.ild4 C dX10_rest_22 ?_
      refine PW.callSI4 C ms_X10_restOf ml_X10_657 dX10_rest_24 (Nat.le_of_ble_eq_true rfl) (by decide) (Nat.le_of_ble_eq_true rfl) (s_X10_restOf hw) ?_
      clear hw
      intro z5 h4 hw
      refine PW.goto (tgt := 31) C dX10_rest_27 (by decide) ?_
      exact PW.iret C dX10_rest_31 ⟨_, rfl, hw⟩
def w_X10_draw (x1 : Int32) (h : PH) (Q : Int32 → PH → Prop) : Prop :=
  ∀ h1, h1 = sI h 0 104 ((((gI h 0 104) * 1103515245) + 12345) &&& 2147483647) → ¬ x1 = 0 ∧ Q ((((gI h1 0 104) : Int32) >>> ((16 : Int32) &&& 31)) - (((gI h1 0 104) : Int32) >>> ((16 : Int32) &&& 31)) / x1 * x1) h1
set_option maxRecDepth 8000 in
theorem s_X10_draw {D : va_G} {ca : Nat → ClassId} {ad : Nat → Nat} {l : Launch} {x1 : Int32} {h : PH} {Q : Int32 → PH → Prop} (hw : w_X10_draw x1 h Q) : Sp (GM D ca ad) (XS (GM D ca ad)) l 1 yX10_draw cX10_draw 2 (some .int) [.ref 0, .int x1] h (qI Q) := by
  refine Sp.of (own := RX10) [some (.ref 0), some (.int x1)] (by decide +kernel) rfl rfl (Nat.le_of_ble_eq_true rfl) (fun K hl C => ?_)
  subst hl
  unfold w_X10_draw at hw
  refine PW.ald0n C dX10_draw_0 ?_
  refine PW.ald0n C dX10_draw_1 ?_
  refine PW.get0 C cf_10 fl_X10_660 (by decide) oM_0 (fvI rfl) dX10_draw_2 ?_
  refine PW.ldcw (v := 1103515245) C cs_X10_663 dX10_draw_5 ?_
  refine PW.imul C dX10_draw_8 ?_
  refine PW.sipush (v := 12345) C dX10_draw_9 (by decide) ?_
  refine PW.iadd C dX10_draw_12 ?_
  refine PW.ldcw (v := 2147483647) C cs_X10_666 dX10_draw_13 ?_
  refine PW.iand C dX10_draw_16 ?_
  replace hw := hw _ rfl
  refine PW.put0 C cf_10 fl_X10_660 (by decide) oM_0 rfl rfl rfl (pw_sI oM_0 (by decide) rfl) dX10_draw_17 ?_
  refine PW.ald0n C dX10_draw_20 ?_
  refine PW.get0 C cf_10 fl_X10_660 (by decide) oM_0 (fvI rfl) dX10_draw_21 ?_
  refine PW.bipush (v := 16) C dX10_draw_24 (by decide) ?_
  refine PW.ishr C dX10_draw_26 ?_
  refine PW.ild1n C dX10_draw_27 ?_
  obtain ⟨hc2, hw⟩ := hw
  refine PW.irem C dX10_draw_28 hc2 ?_
  exact PW.iret C dX10_draw_29 ⟨_, rfl, hw⟩
def w_X10_softens_2 (k26 : PH → Prop) (Q : PH → Prop) (kb : Int32 → PH → Prop) (x1 : Int32) (h : PH) : Prop :=
  if (gI h 0 62) ≤ x1 then (k26 h) else (vp_in x1 16 ∧ vp_in x1 16 ∧ ∀ h3, h3 = sI h 49 (iN x1) ((gI h 49 (iN x1)) - 5) → kb (x1 + 1) h3)
set_option maxRecDepth 8000 in
theorem b_X10_softens_2 {D : va_G} {ca : Nat → ClassId} {ad : Nat → Nat} {K : Kt} {k26 : PH → Prop} {kb : Int32 → PH → Prop} {Q : PH → Prop} {x1 : Int32} {h : PH} (C : CX (GM D ca ad) (XS (GM D ca ad)) cX10_softens RX10 2 none 1 K) (hk26 : ∀ (h : PH), k26 h → PW (GM D ca ad) K 2 (qV Q) h 26 [none, none] []) (hkb : ∀ (x1 : Int32) (h : PH), kb x1 h → PW (GM D ca ad) K 2 (qV Q) h 2 [some (.ref 0), some (.int x1)] []) (hw : w_X10_softens_2 k26 Q kb x1 h) : PW (GM D ca ad) K 2 (qV Q) h 2 [some (.ref 0), some (.int x1)] [] := by
  unfold w_X10_softens_2 at hw
  refine PW.ild1n C dX10_softens_2 ?_
  refine PW.ald0n C dX10_softens_3 ?_
  refine PW.get0 C cf_10 fl_X10_470 (by decide) oM_0 (fvI rfl) dX10_softens_4 ?_
  refine PW.icmp_ge (tgt := 26) C dX10_softens_7 (by decide) (fun c => ?_) (fun c => ?_)
  · rw [if_pos c] at hw
    exact PW.wk (wk_n (wk_n wk_0)) (hk26 _ hw)
  · rw [if_neg c] at hw
    refine PW.ald0n C dX10_softens_10 ?_
    refine PW.get0 (v := .ref 49) C cf_10 fl_X10_159 (by decide) oM_0 (fvR (o := 49) rfl) dX10_softens_11 ?_
    refine PW.ild1n C dX10_softens_14 ?_
    refine PW.dup2 C dX10_softens_15 rfl rfl ?_
    obtain ⟨hc1, hw⟩ := hw
    refine PW.iald C dX10_softens_16 aM_49 hc1 ?_
    refine PW.iconst (v := 5) C dX10_softens_17 (by decide) ?_
    refine PW.isub C dX10_softens_18 ?_
    obtain ⟨hc2, hw⟩ := hw
    replace hw := hw _ rfl
    refine PW.iast C dX10_softens_19 aM_49 hc2 ?_
    refine PW.inc1 (v := 1) C dX10_softens_20 (by decide) rfl (by decide) ?_
    refine PW.goto (tgt := 2) C dX10_softens_23 (by decide) ?_
    exact PW.wk (wk_s (wk_s wk_0)) (hkb _ _ hw)
theorem l_X10_softens_2 {D : va_G} {ca : Nat → ClassId} {ad : Nat → Nat} {K : Kt} {k26 : PH → Prop} {Q : PH → Prop} (C : CX (GM D ca ad) (XS (GM D ca ad)) cX10_softens RX10 2 none 1 K) (hk26 : ∀ (h : PH), k26 h → PW (GM D ca ad) K 2 (qV Q) h 26 [none, none] []) : ∀ (n : Nat) (x1 : Int32) (h : PH), Lp1 (w_X10_softens_2 k26 Q) n x1 h → PW (GM D ca ad) K 2 (qV Q) h 2 [some (.ref 0), some (.int x1)] [] := by
  intro n
  induction n with
  | zero => intro x1 h hw; exact hw.elim
  | succ n ih => intro x1 h hw; exact b_X10_softens_2 C hk26 (fun x1 h hw => ih x1 h hw) hw
def w_X10_softens (h : PH) (Q : PH → Prop) : Prop :=
  ∃ n, Lp1 (w_X10_softens_2 (fun h4 => Q h4) Q) n 0 h
set_option maxRecDepth 8000 in
theorem s_X10_softens {D : va_G} {ca : Nat → ClassId} {ad : Nat → Nat} {l : Launch} {h : PH} {Q : PH → Prop} (hw : w_X10_softens h Q) : Sp (GM D ca ad) (XS (GM D ca ad)) l 1 yX10_softens cX10_softens 2 none [.ref 0] h (qV Q) := by
  refine Sp.of (own := RX10) [some (.ref 0), none] (by decide +kernel) rfl rfl (Nat.le_of_ble_eq_true rfl) (fun K hl C => ?_)
  subst hl
  unfold w_X10_softens at hw
  refine PW.iconst (v := 0) C dX10_softens_0 (by decide) ?_
  refine PW.ist1n C dX10_softens_1 (by decide) rfl ?_
  obtain ⟨n, hw⟩ := hw
  refine PW.wk (wk_s (wk_s wk_0)) (l_X10_softens_2 C ?_ n _ _ hw)
  · intro h4 hw
    exact PW.vret C dX10_softens_26 ⟨rfl, hw⟩
def w_X10_year_140 (Q : Int32 → PH → Prop) (kb : Int32 → Int32 → PH → Prop) (x2 : Int32) (x3 : Int32) (x4 : Int32) (h : PH) : Prop :=
  w_X10_silentAll h (fun z8 h7 => ∀ (y9 : Int32), y9 = (x3 + z8) → kb y9 (x4 + 1) h7)
set_option maxRecDepth 8000 in
theorem b_X10_year_140 {D : va_G} {ca : Nat → ClassId} {ad : Nat → Nat} {K : Kt} {kb : Int32 → Int32 → PH → Prop} {Q : Int32 → PH → Prop} {x2 : Int32} {x3 : Int32} {x4 : Int32} {h : PH} (C : CX (GM D ca ad) (XS (GM D ca ad)) cX10_year RX10 9 (some .int) 8 K) (hkb : ∀ (x3 : Int32) (x4 : Int32) (h : PH), kb x3 x4 h → PW (GM D ca ad) K 9 (qI Q) h 42 [some (.ref 0), none, some (.int x2), some (.int x3), some (.int x4), none, none, none, none] []) (hw : w_X10_year_140 Q kb x2 x3 x4 h) : PW (GM D ca ad) K 9 (qI Q) h 140 [some (.ref 0), none, some (.int x2), some (.int x3), some (.int x4), none, none, none, none] [] := by
  unfold w_X10_year_140 at hw
  refine PW.ild3n C dX10_year_140 ?_
  refine PW.ald0n C dX10_year_141 ?_
  refine PW.callVI0 C ms_X10_silentAll ml_X10_676 dX10_year_142 oM_0 ⟨_, _, rfl⟩ (Nat.le_of_ble_eq_true rfl) (by decide) (Nat.le_of_ble_eq_true rfl) (s_X10_silentAll hw) ?_
  clear hw
  intro z8 h7 hw
  refine PW.iadd C dX10_year_145 ?_
  replace hw := hw _ rfl
  refine PW.ist3n C dX10_year_146 (by decide) rfl ?_
  refine PW.inc4 (v := 1) C dX10_year_147 (by decide) rfl (by decide) ?_
  refine PW.goto (tgt := 42) C dX10_year_150 (by decide) ?_
  exact PW.wk (wk_s (wk_n (wk_s (wk_s (wk_s (wk_n (wk_n (wk_n (wk_n wk_0))))))))) (hkb _ _ _ hw)
def w_X10_year_68 (Q : Int32 → PH → Prop) (kb : Int32 → Int32 → PH → Prop) (x2 : Int32) (x3 : Int32) (x4 : Int32) (x5 : Int32) (h : PH) : Prop :=
  if x5 = 1 then (if (gI h 2 (iN 0)) ≤ 0 then (w_X10_year_140 Q kb x2 x3 x4 h) else (if (gI h 2 (iN 2)) ≤ 0 then (w_X10_year_140 Q kb x2 x3 x4 h) else (w_X10_draw (gI h 2 (iN 0)) h (fun z11 h10 => w_X10_draw (gI h10 2 (iN 2)) h10 (fun z13 h12 => w_X10_draw 44 h12 (fun z15 h14 => w_X10_adds z11 z13 z15 (z15 + 3) 10 h14 (fun h16 => w_X10_year_140 Q kb x2 x3 x4 h16))))))) else (w_X10_year_140 Q kb x2 x3 x4 h)
set_option maxRecDepth 8000 in
theorem b_X10_year_68 {D : va_G} {ca : Nat → ClassId} {ad : Nat → Nat} {K : Kt} {kb : Int32 → Int32 → PH → Prop} {Q : Int32 → PH → Prop} {x2 : Int32} {x3 : Int32} {x4 : Int32} {x5 : Int32} {h : PH} (C : CX (GM D ca ad) (XS (GM D ca ad)) cX10_year RX10 9 (some .int) 8 K) (hkb : ∀ (x3 : Int32) (x4 : Int32) (h : PH), kb x3 x4 h → PW (GM D ca ad) K 9 (qI Q) h 42 [some (.ref 0), none, some (.int x2), some (.int x3), some (.int x4), none, none, none, none] []) (hw : w_X10_year_68 Q kb x2 x3 x4 x5 h) : PW (GM D ca ad) K 9 (qI Q) h 68 [some (.ref 0), none, some (.int x2), some (.int x3), some (.int x4), some (.int x5), none, none, none] [] := by
  unfold w_X10_year_68 at hw
  refine PW.ild5 C dX10_year_68 ?_
  refine PW.iconst (v := 1) C dX10_year_70 (by decide) ?_
  refine PW.icmp_ne (tgt := 140) C dX10_year_71 (by decide) (fun c => ?_) (fun c => ?_)
  · rw [if_neg c] at hw
    exact PW.wk (wk_s (wk_n (wk_s (wk_s (wk_s (wk_n (wk_n (wk_n (wk_n wk_0))))))))) (b_X10_year_140 C hkb hw)
  · rw [if_pos c] at hw
    refine PW.ald0n C dX10_year_74 ?_
    refine PW.get0 (v := .ref 2) C cf_10 fl_X10_13 (by decide) oM_0 (fvR (o := 2) rfl) dX10_year_75 ?_
    refine PW.iconst (v := 0) C dX10_year_78 (by decide) ?_
    refine PW.iald C dX10_year_79 aM_2 (vpl (by decide)) ?_
    refine PW.if_le (tgt := 140) C dX10_year_80 (by decide) (fun c => ?_) (fun c => ?_)
    · rw [if_pos c] at hw
      exact PW.wk (wk_s (wk_n (wk_s (wk_s (wk_s (wk_n (wk_n (wk_n (wk_n wk_0))))))))) (b_X10_year_140 C hkb hw)
    · rw [if_neg c] at hw
      refine PW.ald0n C dX10_year_83 ?_
      refine PW.get0 (v := .ref 2) C cf_10 fl_X10_13 (by decide) oM_0 (fvR (o := 2) rfl) dX10_year_84 ?_
      refine PW.iconst (v := 2) C dX10_year_87 (by decide) ?_
      refine PW.iald C dX10_year_88 aM_2 (vpl (by decide)) ?_
      refine PW.if_le (tgt := 140) C dX10_year_89 (by decide) (fun c => ?_) (fun c => ?_)
      · rw [if_pos c] at hw
        exact PW.wk (wk_s (wk_n (wk_s (wk_s (wk_s (wk_n (wk_n (wk_n (wk_n wk_0))))))))) (b_X10_year_140 C hkb hw)
      · rw [if_neg c] at hw
        refine PW.ald0n C dX10_year_92 ?_
        refine PW.ald0n C dX10_year_93 ?_
        refine PW.get0 (v := .ref 2) C cf_10 fl_X10_13 (by decide) oM_0 (fvR (o := 2) rfl) dX10_year_94 ?_
        refine PW.iconst (v := 0) C dX10_year_97 (by decide) ?_
        refine PW.iald C dX10_year_98 aM_2 (vpl (by decide)) ?_
        refine PW.callVI1 C ms_X10_draw ml_X10_667 dX10_year_99 oM_0 ⟨_, _, rfl⟩ (Nat.le_of_ble_eq_true rfl) (by decide) (Nat.le_of_ble_eq_true rfl) (s_X10_draw hw) ?_
        clear hw
        intro z11 h10 hw
        refine PW.ist6 C dX10_year_102 (by decide) rfl ?_
        refine PW.ald0n C dX10_year_104 ?_
        refine PW.ald0n C dX10_year_105 ?_
        refine PW.get0 (v := .ref 2) C cf_10 fl_X10_13 (by decide) oM_0 (fvR (o := 2) rfl) dX10_year_106 ?_
        refine PW.iconst (v := 2) C dX10_year_109 (by decide) ?_
        refine PW.iald C dX10_year_110 aM_2 (vpl (by decide)) ?_
        refine PW.callVI1 C ms_X10_draw ml_X10_667 dX10_year_111 oM_0 ⟨_, _, rfl⟩ (Nat.le_of_ble_eq_true rfl) (by decide) (Nat.le_of_ble_eq_true rfl) (s_X10_draw hw) ?_
        clear hw
        intro z13 h12 hw
        refine PW.ist7 C dX10_year_114 (by decide) rfl ?_
        refine PW.ald0n C dX10_year_116 ?_
        refine PW.bipush (v := 44) C dX10_year_117 (by decide) ?_
        refine PW.callVI1 C ms_X10_draw ml_X10_667 dX10_year_119 oM_0 ⟨_, _, rfl⟩ (Nat.le_of_ble_eq_true rfl) (by decide) (Nat.le_of_ble_eq_true rfl) (s_X10_draw hw) ?_
        clear hw
        intro z15 h14 hw
        refine PW.ist8 C dX10_year_122 (by decide) rfl ?_
        refine PW.ald0n C dX10_year_124 ?_
        refine PW.ild6 C dX10_year_125 ?_
        refine PW.ild7 C dX10_year_127 ?_
        refine PW.ild8 C dX10_year_129 ?_
        refine PW.ild8 C dX10_year_131 ?_
        refine PW.iconst (v := 3) C dX10_year_133 (by decide) ?_
        refine PW.iadd C dX10_year_134 ?_
        refine PW.bipush (v := 10) C dX10_year_135 (by decide) ?_
        refine PW.callVV5 C ms_X10_adds ml_X10_673 dX10_year_137 oM_0 ⟨_, _, rfl⟩ (Nat.le_of_ble_eq_true rfl) (by decide) (Nat.le_of_ble_eq_true rfl) (s_X10_adds hw) ?_
        clear hw
        intro h16 hw
        exact PW.wk (wk_s (wk_n (wk_s (wk_s (wk_s (wk_n (wk_n (wk_n (wk_n wk_0))))))))) (b_X10_year_140 C hkb hw)
def w_X10_year_42 (k153 : Int32 → PH → Prop) (Q : Int32 → PH → Prop) (x2 : Int32) (kb : Int32 → Int32 → PH → Prop) (x3 : Int32) (x4 : Int32) (h : PH) : Prop :=
  if x2 ≤ x4 then (k153 x3 h) else (w_X10_layNoises h (fun h4 => w_X10_draw 3 h4 (fun z6 h5 => if z6 = 0 then (w_X10_softens h5 (fun h17 => w_X10_year_68 Q kb x2 x3 x4 z6 h17)) else (w_X10_year_68 Q kb x2 x3 x4 z6 h5))))
set_option maxRecDepth 8000 in
theorem b_X10_year_42 {D : va_G} {ca : Nat → ClassId} {ad : Nat → Nat} {K : Kt} {k153 : Int32 → PH → Prop} {kb : Int32 → Int32 → PH → Prop} {Q : Int32 → PH → Prop} {x2 : Int32} {x3 : Int32} {x4 : Int32} {h : PH} (C : CX (GM D ca ad) (XS (GM D ca ad)) cX10_year RX10 9 (some .int) 8 K) (hk153 : ∀ (x3 : Int32) (h : PH), k153 x3 h → PW (GM D ca ad) K 9 (qI Q) h 153 [none, none, none, some (.int x3), none, none, none, none, none] []) (hkb : ∀ (x3 : Int32) (x4 : Int32) (h : PH), kb x3 x4 h → PW (GM D ca ad) K 9 (qI Q) h 42 [some (.ref 0), none, some (.int x2), some (.int x3), some (.int x4), none, none, none, none] []) (hw : w_X10_year_42 k153 Q x2 kb x3 x4 h) : PW (GM D ca ad) K 9 (qI Q) h 42 [some (.ref 0), none, some (.int x2), some (.int x3), some (.int x4), none, none, none, none] [] := by
  unfold w_X10_year_42 at hw
  refine PW.ild4 C dX10_year_42 ?_
  refine PW.ild2n C dX10_year_44 ?_
  refine PW.icmp_ge (tgt := 153) C dX10_year_45 (by decide) (fun c => ?_) (fun c => ?_)
  · rw [if_pos c] at hw
    exact PW.wk (wk_n (wk_n (wk_n (wk_s (wk_n (wk_n (wk_n (wk_n (wk_n wk_0))))))))) (hk153 _ _ hw)
  · rw [if_neg c] at hw
    refine PW.ald0n C dX10_year_48 ?_
    refine PW.callVV0 C ms_X10_layNoises ml_X10_493 dX10_year_49 oM_0 ⟨_, _, rfl⟩ (Nat.le_of_ble_eq_true rfl) (by decide) (Nat.le_of_ble_eq_true rfl) (s_X10_layNoises hw) ?_
    clear hw
    intro h4 hw
    refine PW.ald0n C dX10_year_52 ?_
    refine PW.iconst (v := 3) C dX10_year_53 (by decide) ?_
    refine PW.callVI1 C ms_X10_draw ml_X10_667 dX10_year_54 oM_0 ⟨_, _, rfl⟩ (Nat.le_of_ble_eq_true rfl) (by decide) (Nat.le_of_ble_eq_true rfl) (s_X10_draw hw) ?_
    clear hw
    intro z6 h5 hw
    refine PW.ist5 C dX10_year_57 (by decide) rfl ?_
    refine PW.ild5 C dX10_year_59 ?_
    refine PW.if_ne (tgt := 68) C dX10_year_61 (by decide) (fun c => ?_) (fun c => ?_)
    · rw [if_neg c] at hw
      exact PW.wk (wk_s (wk_n (wk_s (wk_s (wk_s (wk_s (wk_n (wk_n (wk_n wk_0))))))))) (b_X10_year_68 C hkb hw)
    · rw [if_pos c] at hw
      refine PW.ald0n C dX10_year_64 ?_
      refine PW.callVV0 C ms_X10_softens ml_X10_670 dX10_year_65 oM_0 ⟨_, _, rfl⟩ (Nat.le_of_ble_eq_true rfl) (by decide) (Nat.le_of_ble_eq_true rfl) (s_X10_softens hw) ?_
      clear hw
      intro h17 hw
      exact PW.wk (wk_s (wk_n (wk_s (wk_s (wk_s (wk_s (wk_n (wk_n (wk_n wk_0))))))))) (b_X10_year_68 C hkb hw)
theorem l_X10_year_42 {D : va_G} {ca : Nat → ClassId} {ad : Nat → Nat} {K : Kt} {k153 : Int32 → PH → Prop} {Q : Int32 → PH → Prop} {x2 : Int32} (C : CX (GM D ca ad) (XS (GM D ca ad)) cX10_year RX10 9 (some .int) 8 K) (hk153 : ∀ (x3 : Int32) (h : PH), k153 x3 h → PW (GM D ca ad) K 9 (qI Q) h 153 [none, none, none, some (.int x3), none, none, none, none, none] []) : ∀ (n : Nat) (x3 : Int32) (x4 : Int32) (h : PH), Lp2 (w_X10_year_42 k153 Q x2) n x3 x4 h → PW (GM D ca ad) K 9 (qI Q) h 42 [some (.ref 0), none, some (.int x2), some (.int x3), some (.int x4), none, none, none, none] [] := by
  intro n
  induction n with
  | zero => intro x3 x4 h hw; exact hw.elim
  | succ n ih => intro x3 x4 h hw; exact b_X10_year_42 C hk153 (fun x3 x4 h hw => ih x3 x4 h hw) hw
def w_X10_year (x1 : Int32) (x2 : Int32) (h : PH) (Q : Int32 → PH → Prop) : Prop :=
  ∀ h1, h1 = sI h 0 0 0 → if x1 < 0 then (Q (-1) h1) else (if x2 < 0 then (Q (-1) h1) else (if x2 ≤ 20 then (∀ h2, h2 = sI h1 0 104 x1 → w_X10_layFar (gI h2 42 (iN 0)) (-1) h2 (fun h3 => ∃ n, Lp2 (w_X10_year_42 (fun y19 h18 => Q y19 h18) Q x2) n 0 0 h3)) else (Q (-1) h1)))
set_option maxRecDepth 8000 in
theorem s_X10_year {D : va_G} {ca : Nat → ClassId} {ad : Nat → Nat} {l : Launch} {x1 : Int32} {x2 : Int32} {h : PH} {Q : Int32 → PH → Prop} (hw : w_X10_year x1 x2 h Q) : Sp (GM D ca ad) (XS (GM D ca ad)) l 8 yX10_year cX10_year 9 (some .int) [.ref 0, .int x1, .int x2] h (qI Q) := by
  refine Sp.of (own := RX10) [some (.ref 0), some (.int x1), some (.int x2), none, none, none, none, none, none] (by decide +kernel) rfl rfl (Nat.le_of_ble_eq_true rfl) (fun K hl C => ?_)
  subst hl
  unfold w_X10_year at hw
  refine PW.ald0n C dX10_year_0 ?_
  refine PW.iconst (v := 0) C dX10_year_1 (by decide) ?_
  replace hw := hw _ rfl
  refine PW.put0 C cf_10 fl_X10_235 (by decide) oM_0 rfl rfl rfl (pw_sI oM_0 (by decide) rfl) dX10_year_2 ?_
  refine PW.ild1n C dX10_year_5 ?_
  refine PW.if_lt (tgt := 19) C dX10_year_6 (by decide) (fun c => ?_) (fun c => ?_)
  · rw [if_pos c] at hw
    refine PW.iconst (v := (-1)) C dX10_year_19 (by decide) ?_
    exact PW.iret C dX10_year_20 ⟨_, rfl, hw⟩
  · rw [if_neg c] at hw
    refine PW.ild2n C dX10_year_9 ?_
    refine PW.if_lt (tgt := 19) C dX10_year_10 (by decide) (fun c => ?_) (fun c => ?_)
    · rw [if_pos c] at hw
      refine PW.iconst (v := (-1)) C dX10_year_19 (by decide) ?_
      exact PW.iret C dX10_year_20 ⟨_, rfl, hw⟩
    · rw [if_neg c] at hw
      refine PW.ild2n C dX10_year_13 ?_
      refine PW.bipush (v := 20) C dX10_year_14 (by decide) ?_
      refine PW.icmp_le (tgt := 21) C dX10_year_16 (by decide) (fun c => ?_) (fun c => ?_)
      · rw [if_pos c] at hw
        refine PW.ald0n C dX10_year_21 ?_
        refine PW.ild1n C dX10_year_22 ?_
        replace hw := hw _ rfl
        refine PW.put0 C cf_10 fl_X10_660 (by decide) oM_0 rfl rfl rfl (pw_sI oM_0 (by decide) rfl) dX10_year_23 ?_
        refine PW.ald0n C dX10_year_26 ?_
        refine PW.ald0n C dX10_year_27 ?_
        refine PW.get0 (v := .ref 42) C cf_10 fl_X10_138 (by decide) oM_0 (fvR (o := 42) rfl) dX10_year_28 ?_
        refine PW.iconst (v := 0) C dX10_year_31 (by decide) ?_
        refine PW.iald C dX10_year_32 aM_42 (vpl (by decide)) ?_
        refine PW.iconst (v := (-1)) C dX10_year_33 (by decide) ?_
        refine PW.callVV2 C ms_X10_layFar ml_X10_496 dX10_year_34 oM_0 ⟨_, _, rfl⟩ (Nat.le_of_ble_eq_true rfl) (by decide) (Nat.le_of_ble_eq_true rfl) (s_X10_layFar hw) ?_
        clear hw
        intro h3 hw
        refine PW.iconst (v := 0) C dX10_year_37 (by decide) ?_
        refine PW.ist3n C dX10_year_38 (by decide) rfl ?_
        refine PW.iconst (v := 0) C dX10_year_39 (by decide) ?_
        refine PW.ist4 C dX10_year_40 (by decide) rfl ?_
        obtain ⟨n, hw⟩ := hw
        refine PW.wk (wk_s (wk_n (wk_s (wk_s (wk_s (wk_n (wk_n (wk_n (wk_n wk_0))))))))) (l_X10_year_42 C ?_ n _ _ _ hw)
        · intro y19 h18 hw
          refine PW.ild3n C dX10_year_153 ?_
          exact PW.iret C dX10_year_154 ⟨_, rfl, hw⟩
      · rw [if_neg c] at hw
        refine PW.iconst (v := (-1)) C dX10_year_19 (by decide) ?_
        exact PW.iret C dX10_year_20 ⟨_, rfl, hw⟩
def w_X10_tried_178 (Q : Int32 → PH → Prop) (kb : Int32 → PH → Prop) (x1 : Int32) (x2 : Int32) (x4 : Int32) (h : PH) : Prop :=
  vp_in x4 16 ∧ ∀ h6, h6 = sI h 49 (iN x4) 0 → kb (x4 + 1) h6
set_option maxRecDepth 8000 in
theorem b_X10_tried_178 {D : va_G} {ca : Nat → ClassId} {ad : Nat → Nat} {K : Kt} {kb : Int32 → PH → Prop} {Q : Int32 → PH → Prop} {x1 : Int32} {x2 : Int32} {x4 : Int32} {h : PH} (C : CX (GM D ca ad) (XS (GM D ca ad)) cX10_tried RX10 5 (some .int) 8 K) (hkb : ∀ (x4 : Int32) (h : PH), kb x4 h → PW (GM D ca ad) K 5 (qI Q) h 142 [some (.ref 0), some (.int x1), some (.int x2), none, some (.int x4)] []) (hw : w_X10_tried_178 Q kb x1 x2 x4 h) : PW (GM D ca ad) K 5 (qI Q) h 178 [some (.ref 0), some (.int x1), some (.int x2), none, some (.int x4)] [] := by
  unfold w_X10_tried_178 at hw
  refine PW.ald0n C dX10_tried_178 ?_
  refine PW.get0 (v := .ref 49) C cf_10 fl_X10_159 (by decide) oM_0 (fvR (o := 49) rfl) dX10_tried_179 ?_
  refine PW.ild4 C dX10_tried_182 ?_
  refine PW.iconst (v := 0) C dX10_tried_184 (by decide) ?_
  obtain ⟨hc5, hw⟩ := hw
  replace hw := hw _ rfl
  refine PW.iast C dX10_tried_185 aM_49 hc5 ?_
  refine PW.inc4 (v := 1) C dX10_tried_186 (by decide) rfl (by decide) ?_
  refine PW.goto (tgt := 142) C dX10_tried_189 (by decide) ?_
  exact PW.wk (wk_s (wk_s (wk_s (wk_n (wk_s wk_0))))) (hkb _ _ hw)
def w_X10_tried_162 (Q : Int32 → PH → Prop) (kb : Int32 → PH → Prop) (x1 : Int32) (x2 : Int32) (x4 : Int32) (h : PH) : Prop :=
  if x1 = 2 then (vp_in x4 16 ∧ if (gI h 46 (iN x4)) = x2 then (w_X10_tried_178 Q kb x1 x2 x4 h) else (kb (x4 + 1) h)) else (kb (x4 + 1) h)
set_option maxRecDepth 8000 in
theorem b_X10_tried_162 {D : va_G} {ca : Nat → ClassId} {ad : Nat → Nat} {K : Kt} {kb : Int32 → PH → Prop} {Q : Int32 → PH → Prop} {x1 : Int32} {x2 : Int32} {x4 : Int32} {h : PH} (C : CX (GM D ca ad) (XS (GM D ca ad)) cX10_tried RX10 5 (some .int) 8 K) (hkb : ∀ (x4 : Int32) (h : PH), kb x4 h → PW (GM D ca ad) K 5 (qI Q) h 142 [some (.ref 0), some (.int x1), some (.int x2), none, some (.int x4)] []) (hw : w_X10_tried_162 Q kb x1 x2 x4 h) : PW (GM D ca ad) K 5 (qI Q) h 162 [some (.ref 0), some (.int x1), some (.int x2), none, some (.int x4)] [] := by
  unfold w_X10_tried_162 at hw
  refine PW.ild1n C dX10_tried_162 ?_
  refine PW.iconst (v := 2) C dX10_tried_163 (by decide) ?_
  refine PW.icmp_ne (tgt := 186) C dX10_tried_164 (by decide) (fun c => ?_) (fun c => ?_)
  · rw [if_neg c] at hw
    refine PW.inc4 (v := 1) C dX10_tried_186 (by decide) rfl (by decide) ?_
    refine PW.goto (tgt := 142) C dX10_tried_189 (by decide) ?_
    exact PW.wk (wk_s (wk_s (wk_s (wk_n (wk_s wk_0))))) (hkb _ _ hw)
  · rw [if_pos c] at hw
    refine PW.ald0n C dX10_tried_167 ?_
    refine PW.get0 (v := .ref 46) C cf_10 fl_X10_150 (by decide) oM_0 (fvR (o := 46) rfl) dX10_tried_168 ?_
    refine PW.ild4 C dX10_tried_171 ?_
    obtain ⟨hc4, hw⟩ := hw
    refine PW.iald C dX10_tried_173 aM_46 hc4 ?_
    refine PW.ild2n C dX10_tried_174 ?_
    refine PW.icmp_ne (tgt := 186) C dX10_tried_175 (by decide) (fun c => ?_) (fun c => ?_)
    · rw [if_neg c] at hw
      refine PW.inc4 (v := 1) C dX10_tried_186 (by decide) rfl (by decide) ?_
      refine PW.goto (tgt := 142) C dX10_tried_189 (by decide) ?_
      exact PW.wk (wk_s (wk_s (wk_s (wk_n (wk_s wk_0))))) (hkb _ _ hw)
    · rw [if_pos c] at hw
      exact PW.wk (wk_s (wk_s (wk_s (wk_n (wk_s wk_0))))) (b_X10_tried_178 C hkb hw)
def w_X10_tried_142 (k192 : PH → Prop) (Q : Int32 → PH → Prop) (x1 : Int32) (x2 : Int32) (kb : Int32 → PH → Prop) (x4 : Int32) (h : PH) : Prop :=
  if (gI h 0 62) ≤ x4 then (k192 h) else (if x1 = 1 then (if x4 = x2 then (w_X10_tried_178 Q kb x1 x2 x4 h) else (w_X10_tried_162 Q kb x1 x2 x4 h)) else (w_X10_tried_162 Q kb x1 x2 x4 h))
set_option maxRecDepth 8000 in
theorem b_X10_tried_142 {D : va_G} {ca : Nat → ClassId} {ad : Nat → Nat} {K : Kt} {k192 : PH → Prop} {kb : Int32 → PH → Prop} {Q : Int32 → PH → Prop} {x1 : Int32} {x2 : Int32} {x4 : Int32} {h : PH} (C : CX (GM D ca ad) (XS (GM D ca ad)) cX10_tried RX10 5 (some .int) 8 K) (hk192 : ∀ (h : PH), k192 h → PW (GM D ca ad) K 5 (qI Q) h 192 [some (.ref 0), none, none, none, none] []) (hkb : ∀ (x4 : Int32) (h : PH), kb x4 h → PW (GM D ca ad) K 5 (qI Q) h 142 [some (.ref 0), some (.int x1), some (.int x2), none, some (.int x4)] []) (hw : w_X10_tried_142 k192 Q x1 x2 kb x4 h) : PW (GM D ca ad) K 5 (qI Q) h 142 [some (.ref 0), some (.int x1), some (.int x2), none, some (.int x4)] [] := by
  unfold w_X10_tried_142 at hw
  refine PW.ild4 C dX10_tried_142 ?_
  refine PW.ald0n C dX10_tried_144 ?_
  refine PW.get0 C cf_10 fl_X10_470 (by decide) oM_0 (fvI rfl) dX10_tried_145 ?_
  refine PW.icmp_ge (tgt := 192) C dX10_tried_148 (by decide) (fun c => ?_) (fun c => ?_)
  · rw [if_pos c] at hw
    exact PW.wk (wk_s (wk_n (wk_n (wk_n (wk_n wk_0))))) (hk192 _ hw)
  · rw [if_neg c] at hw
    refine PW.ild1n C dX10_tried_151 ?_
    refine PW.iconst (v := 1) C dX10_tried_152 (by decide) ?_
    refine PW.icmp_ne (tgt := 162) C dX10_tried_153 (by decide) (fun c => ?_) (fun c => ?_)
    · rw [if_neg c] at hw
      exact PW.wk (wk_s (wk_s (wk_s (wk_n (wk_s wk_0))))) (b_X10_tried_162 C hkb hw)
    · rw [if_pos c] at hw
      refine PW.ild4 C dX10_tried_156 ?_
      refine PW.ild2n C dX10_tried_158 ?_
      refine PW.icmp_eq (tgt := 178) C dX10_tried_159 (by decide) (fun c => ?_) (fun c => ?_)
      · rw [if_pos c] at hw
        exact PW.wk (wk_s (wk_s (wk_s (wk_n (wk_s wk_0))))) (b_X10_tried_178 C hkb hw)
      · rw [if_neg c] at hw
        exact PW.wk (wk_s (wk_s (wk_s (wk_n (wk_s wk_0))))) (b_X10_tried_162 C hkb hw)
theorem l_X10_tried_142 {D : va_G} {ca : Nat → ClassId} {ad : Nat → Nat} {K : Kt} {k192 : PH → Prop} {Q : Int32 → PH → Prop} {x1 : Int32} {x2 : Int32} (C : CX (GM D ca ad) (XS (GM D ca ad)) cX10_tried RX10 5 (some .int) 8 K) (hk192 : ∀ (h : PH), k192 h → PW (GM D ca ad) K 5 (qI Q) h 192 [some (.ref 0), none, none, none, none] []) : ∀ (n : Nat) (x4 : Int32) (h : PH), Lp1 (w_X10_tried_142 k192 Q x1 x2) n x4 h → PW (GM D ca ad) K 5 (qI Q) h 142 [some (.ref 0), some (.int x1), some (.int x2), none, some (.int x4)] [] := by
  intro n
  induction n with
  | zero => intro x4 h hw; exact hw.elim
  | succ n ih => intro x4 h hw; exact b_X10_tried_142 C hk192 (fun x4 h hw => ih x4 h hw) hw
def w_X10_tried_123 (Q : Int32 → PH → Prop) (x1 : Int32) (x2 : Int32) (h : PH) : Prop :=
  if x1 = 5 then (w_X10_adds x2 0 0 47 8 h (fun h10 => ∃ n, Lp1 (w_X10_tried_142 (fun h11 => w_X10_silentAll h11 (fun z13 h12 => Q z13 h12)) Q x1 x2) n 0 h10)) else (∃ n, Lp1 (w_X10_tried_142 (fun h7 => w_X10_silentAll h7 (fun z9 h8 => Q z9 h8)) Q x1 x2) n 0 h)
set_option maxRecDepth 8000 in
theorem b_X10_tried_123 {D : va_G} {ca : Nat → ClassId} {ad : Nat → Nat} {K : Kt} {Q : Int32 → PH → Prop} {x1 : Int32} {x2 : Int32} {h : PH} (C : CX (GM D ca ad) (XS (GM D ca ad)) cX10_tried RX10 5 (some .int) 8 K) (hw : w_X10_tried_123 Q x1 x2 h) : PW (GM D ca ad) K 5 (qI Q) h 123 [some (.ref 0), some (.int x1), some (.int x2), none, none] [] := by
  unfold w_X10_tried_123 at hw
  refine PW.ild1n C dX10_tried_123 ?_
  refine PW.iconst (v := 5) C dX10_tried_124 (by decide) ?_
  refine PW.icmp_ne (tgt := 139) C dX10_tried_125 (by decide) (fun c => ?_) (fun c => ?_)
  · rw [if_neg c] at hw
    refine PW.iconst (v := 0) C dX10_tried_139 (by decide) ?_
    refine PW.ist4 C dX10_tried_140 (by decide) rfl ?_
    obtain ⟨n, hw⟩ := hw
    refine PW.wk (wk_s (wk_s (wk_s (wk_n (wk_s wk_0))))) (l_X10_tried_142 C ?_ n _ _ hw)
    · intro h7 hw
      refine PW.ald0n C dX10_tried_192 ?_
      refine PW.callVI0 C ms_X10_silentAll ml_X10_676 dX10_tried_193 oM_0 ⟨_, _, rfl⟩ (Nat.le_of_ble_eq_true rfl) (by decide) (Nat.le_of_ble_eq_true rfl) (s_X10_silentAll hw) ?_
      clear hw
      intro z9 h8 hw
      exact PW.iret C dX10_tried_196 ⟨_, rfl, hw⟩
  · rw [if_pos c] at hw
    refine PW.ald0n C dX10_tried_128 ?_
    refine PW.ild2n C dX10_tried_129 ?_
    refine PW.iconst (v := 0) C dX10_tried_130 (by decide) ?_
    refine PW.iconst (v := 0) C dX10_tried_131 (by decide) ?_
    refine PW.bipush (v := 47) C dX10_tried_132 (by decide) ?_
    refine PW.bipush (v := 8) C dX10_tried_134 (by decide) ?_
    refine PW.callVV5 C ms_X10_adds ml_X10_673 dX10_tried_136 oM_0 ⟨_, _, rfl⟩ (Nat.le_of_ble_eq_true rfl) (by decide) (Nat.le_of_ble_eq_true rfl) (s_X10_adds hw) ?_
    clear hw
    intro h10 hw
    refine PW.iconst (v := 0) C dX10_tried_139 (by decide) ?_
    refine PW.ist4 C dX10_tried_140 (by decide) rfl ?_
    obtain ⟨n, hw⟩ := hw
    refine PW.wk (wk_s (wk_s (wk_s (wk_n (wk_s wk_0))))) (l_X10_tried_142 C ?_ n _ _ hw)
    · intro h11 hw
      refine PW.ald0n C dX10_tried_192 ?_
      refine PW.callVI0 C ms_X10_silentAll ml_X10_676 dX10_tried_193 oM_0 ⟨_, _, rfl⟩ (Nat.le_of_ble_eq_true rfl) (by decide) (Nat.le_of_ble_eq_true rfl) (s_X10_silentAll hw) ?_
      clear hw
      intro z13 h12 hw
      exact PW.iret C dX10_tried_196 ⟨_, rfl, hw⟩
def w_X10_tried_111 (Q : Int32 → PH → Prop) (x1 : Int32) (x2 : Int32) (s1 : Int32) (s2 : Int32) (h : PH) : Prop :=
  w_X10_layFar s1 s2 h (fun h3 => if x1 = 3 then (w_X10_softens h3 (fun h14 => w_X10_tried_123 Q x1 x2 h14)) else (w_X10_tried_123 Q x1 x2 h3))
set_option maxRecDepth 8000 in
theorem b_X10_tried_111 {D : va_G} {ca : Nat → ClassId} {ad : Nat → Nat} {K : Kt} {Q : Int32 → PH → Prop} {x1 : Int32} {x2 : Int32} {s1 : Int32} {s2 : Int32} {h : PH} (C : CX (GM D ca ad) (XS (GM D ca ad)) cX10_tried RX10 5 (some .int) 8 K) (hw : w_X10_tried_111 Q x1 x2 s1 s2 h) : PW (GM D ca ad) K 5 (qI Q) h 111 [some (.ref 0), some (.int x1), some (.int x2), none, none] [.int s2, .int s1, .ref 0] := by
  unfold w_X10_tried_111 at hw
  refine PW.callVV2 C ms_X10_layFar ml_X10_496 dX10_tried_111 oM_0 ⟨_, _, rfl⟩ (Nat.le_of_ble_eq_true rfl) (by decide) (Nat.le_of_ble_eq_true rfl) (s_X10_layFar hw) ?_
  clear hw
  intro h3 hw
  refine PW.ild1n C dX10_tried_114 ?_
  refine PW.iconst (v := 3) C dX10_tried_115 (by decide) ?_
  refine PW.icmp_ne (tgt := 123) C dX10_tried_116 (by decide) (fun c => ?_) (fun c => ?_)
  · rw [if_neg c] at hw
    exact PW.wk (wk_s (wk_s (wk_s (wk_n (wk_n wk_0))))) (b_X10_tried_123 C hw)
  · rw [if_pos c] at hw
    refine PW.ald0n C dX10_tried_119 ?_
    refine PW.callVV0 C ms_X10_softens ml_X10_670 dX10_tried_120 oM_0 ⟨_, _, rfl⟩ (Nat.le_of_ble_eq_true rfl) (by decide) (Nat.le_of_ble_eq_true rfl) (s_X10_softens hw) ?_
    clear hw
    intro h14 hw
    exact PW.wk (wk_s (wk_s (wk_s (wk_n (wk_n wk_0))))) (b_X10_tried_123 C hw)
def w_X10_tried_101 (Q : Int32 → PH → Prop) (x1 : Int32) (x2 : Int32) (s1 : Int32) (h : PH) : Prop :=
  if x1 = 4 then (w_X10_tried_111 Q x1 x2 s1 x2 h) else (w_X10_tried_111 Q x1 x2 s1 (-1) h)
set_option maxRecDepth 8000 in
theorem b_X10_tried_101 {D : va_G} {ca : Nat → ClassId} {ad : Nat → Nat} {K : Kt} {Q : Int32 → PH → Prop} {x1 : Int32} {x2 : Int32} {s1 : Int32} {h : PH} (C : CX (GM D ca ad) (XS (GM D ca ad)) cX10_tried RX10 5 (some .int) 8 K) (hw : w_X10_tried_101 Q x1 x2 s1 h) : PW (GM D ca ad) K 5 (qI Q) h 101 [some (.ref 0), some (.int x1), some (.int x2), none, none] [.int s1, .ref 0] := by
  unfold w_X10_tried_101 at hw
  refine PW.ild1n C dX10_tried_101 ?_
  refine PW.iconst (v := 4) C dX10_tried_102 (by decide) ?_
  refine PW.icmp_ne (tgt := 110) C dX10_tried_103 (by decide) (fun c => ?_) (fun c => ?_)
  · rw [if_neg c] at hw
    refine PW.iconst (v := (-1)) C dX10_tried_110 (by decide) ?_
    exact PW.wk (wk_s (wk_s (wk_s (wk_n (wk_n wk_0))))) (b_X10_tried_111 C hw)
  · rw [if_pos c] at hw
    refine PW.ild2n C dX10_tried_106 ?_
    refine PW.goto (tgt := 111) C dX10_tried_107 (by decide) ?_
    exact PW.wk (wk_s (wk_s (wk_s (wk_n (wk_n wk_0))))) (b_X10_tried_111 C hw)
def w_X10_tried_75 (Q : Int32 → PH → Prop) (x1 : Int32) (x2 : Int32) (s0 : Int32) (h : PH) : Prop :=
  if s0 = 0 then (Q (-1) h) else (w_X10_layNoises h (fun h2 => if x1 = 0 then (w_X10_tried_101 Q x1 x2 0 h2) else (w_X10_tried_101 Q x1 x2 (gI h2 42 (iN 0)) h2)))
set_option maxRecDepth 8000 in
theorem b_X10_tried_75 {D : va_G} {ca : Nat → ClassId} {ad : Nat → Nat} {K : Kt} {Q : Int32 → PH → Prop} {x1 : Int32} {x2 : Int32} {s0 : Int32} {h : PH} (C : CX (GM D ca ad) (XS (GM D ca ad)) cX10_tried RX10 5 (some .int) 8 K) (hw : w_X10_tried_75 Q x1 x2 s0 h) : PW (GM D ca ad) K 5 (qI Q) h 75 [some (.ref 0), some (.int x1), some (.int x2), none, none] [.int s0] := by
  unfold w_X10_tried_75 at hw
  refine PW.ist3n C dX10_tried_75 (by decide) rfl ?_
  refine PW.ild3n C dX10_tried_76 ?_
  refine PW.if_ne (tgt := 82) C dX10_tried_77 (by decide) (fun c => ?_) (fun c => ?_)
  · rw [if_neg c] at hw
    refine PW.ald0n C dX10_tried_82 ?_
    refine PW.callVV0 C ms_X10_layNoises ml_X10_493 dX10_tried_83 oM_0 ⟨_, _, rfl⟩ (Nat.le_of_ble_eq_true rfl) (by decide) (Nat.le_of_ble_eq_true rfl) (s_X10_layNoises hw) ?_
    clear hw
    intro h2 hw
    refine PW.ald0n C dX10_tried_86 ?_
    refine PW.ild1n C dX10_tried_87 ?_
    refine PW.if_ne (tgt := 95) C dX10_tried_88 (by decide) (fun c => ?_) (fun c => ?_)
    · rw [if_neg c] at hw
      refine PW.ald0n C dX10_tried_95 ?_
      refine PW.get0 (v := .ref 42) C cf_10 fl_X10_138 (by decide) oM_0 (fvR (o := 42) rfl) dX10_tried_96 ?_
      refine PW.iconst (v := 0) C dX10_tried_99 (by decide) ?_
      refine PW.iald C dX10_tried_100 aM_42 (vpl (by decide)) ?_
      exact PW.wk (wk_s (wk_s (wk_s (wk_n (wk_n wk_0))))) (b_X10_tried_101 C hw)
    · rw [if_pos c] at hw
      refine PW.iconst (v := 0) C dX10_tried_91 (by decide) ?_
      refine PW.goto (tgt := 101) C dX10_tried_92 (by decide) ?_
      exact PW.wk (wk_s (wk_s (wk_s (wk_n (wk_n wk_0))))) (b_X10_tried_101 C hw)
  · rw [if_pos c] at hw
    refine PW.iconst (v := (-1)) C dX10_tried_80 (by decide) ?_
    exact PW.iret C dX10_tried_81 ⟨_, rfl, hw⟩
def w_X10_tried_74 (Q : Int32 → PH → Prop) (x1 : Int32) (x2 : Int32) (h : PH) : Prop :=
  w_X10_tried_75 Q x1 x2 0 h
set_option maxRecDepth 8000 in
theorem b_X10_tried_74 {D : va_G} {ca : Nat → ClassId} {ad : Nat → Nat} {K : Kt} {Q : Int32 → PH → Prop} {x1 : Int32} {x2 : Int32} {h : PH} (C : CX (GM D ca ad) (XS (GM D ca ad)) cX10_tried RX10 5 (some .int) 8 K) (hw : w_X10_tried_74 Q x1 x2 h) : PW (GM D ca ad) K 5 (qI Q) h 74 [some (.ref 0), some (.int x1), some (.int x2), none, none] [] := by
  unfold w_X10_tried_74 at hw
  refine PW.iconst (v := 0) C dX10_tried_74 (by decide) ?_
  exact PW.wk (wk_s (wk_s (wk_s (wk_n (wk_n wk_0))))) (b_X10_tried_75 C hw)
def w_X10_tried_66 (Q : Int32 → PH → Prop) (x1 : Int32) (x2 : Int32) (h : PH) : Prop :=
  if x2 = 0 then (w_X10_tried_75 Q x1 x2 1 h) else (w_X10_tried_74 Q x1 x2 h)
set_option maxRecDepth 8000 in
theorem b_X10_tried_66 {D : va_G} {ca : Nat → ClassId} {ad : Nat → Nat} {K : Kt} {Q : Int32 → PH → Prop} {x1 : Int32} {x2 : Int32} {h : PH} (C : CX (GM D ca ad) (XS (GM D ca ad)) cX10_tried RX10 5 (some .int) 8 K) (hw : w_X10_tried_66 Q x1 x2 h) : PW (GM D ca ad) K 5 (qI Q) h 66 [some (.ref 0), some (.int x1), some (.int x2), none, none] [] := by
  unfold w_X10_tried_66 at hw
  refine PW.ild2n C dX10_tried_66 ?_
  refine PW.if_ne (tgt := 74) C dX10_tried_67 (by decide) (fun c => ?_) (fun c => ?_)
  · rw [if_neg c] at hw
    exact PW.wk (wk_s (wk_s (wk_s (wk_n (wk_n wk_0))))) (b_X10_tried_74 C hw)
  · rw [if_pos c] at hw
    refine PW.iconst (v := 1) C dX10_tried_70 (by decide) ?_
    refine PW.goto (tgt := 75) C dX10_tried_71 (by decide) ?_
    exact PW.wk (wk_s (wk_s (wk_s (wk_n (wk_n wk_0))))) (b_X10_tried_75 C hw)
def w_X10_tried (x1 : Int32) (x2 : Int32) (h : PH) (Q : Int32 → PH → Prop) : Prop :=
  ∀ h1, h1 = sI h 0 0 0 → if x1 = 1 then (w_X10_isNoise x2 h1 (fun z22 h21 => w_X10_tried_75 Q x1 x2 z22 h21)) else (if x1 = 2 then (w_X10_isOwner x2 h1 (fun z20 h19 => w_X10_tried_75 Q x1 x2 z20 h19)) else (if x1 = 4 then (w_X10_isLink x2 h1 (fun z18 h17 => w_X10_tried_75 Q x1 x2 z18 h17)) else (if x1 = 5 then (w_X10_isPlace x2 h1 (fun z16 h15 => w_X10_tried_75 Q x1 x2 z16 h15)) else (if x1 = 0 then (w_X10_tried_66 Q x1 x2 h1) else (if x1 = 3 then (w_X10_tried_66 Q x1 x2 h1) else (w_X10_tried_74 Q x1 x2 h1))))))
set_option maxRecDepth 8000 in
theorem s_X10_tried {D : va_G} {ca : Nat → ClassId} {ad : Nat → Nat} {l : Launch} {x1 : Int32} {x2 : Int32} {h : PH} {Q : Int32 → PH → Prop} (hw : w_X10_tried x1 x2 h Q) : Sp (GM D ca ad) (XS (GM D ca ad)) l 8 yX10_tried cX10_tried 5 (some .int) [.ref 0, .int x1, .int x2] h (qI Q) := by
  refine Sp.of (own := RX10) [some (.ref 0), some (.int x1), some (.int x2), none, none] (by decide +kernel) rfl rfl (Nat.le_of_ble_eq_true rfl) (fun K hl C => ?_)
  subst hl
  unfold w_X10_tried at hw
  refine PW.ald0n C dX10_tried_0 ?_
  refine PW.iconst (v := 0) C dX10_tried_1 (by decide) ?_
  replace hw := hw _ rfl
  refine PW.put0 C cf_10 fl_X10_235 (by decide) oM_0 rfl rfl rfl (pw_sI oM_0 (by decide) rfl) dX10_tried_2 ?_
  refine PW.ild1n C dX10_tried_5 ?_
  refine PW.iconst (v := 1) C dX10_tried_6 (by decide) ?_
  refine PW.icmp_ne (tgt := 18) C dX10_tried_7 (by decide) (fun c => ?_) (fun c => ?_)
  · rw [if_neg c] at hw
    refine PW.ild1n C dX10_tried_18 ?_
    refine PW.iconst (v := 2) C dX10_tried_19 (by decide) ?_
    refine PW.icmp_ne (tgt := 31) C dX10_tried_20 (by decide) (fun c => ?_) (fun c => ?_)
    · rw [if_neg c] at hw
      refine PW.ild1n C dX10_tried_31 ?_
      refine PW.iconst (v := 4) C dX10_tried_32 (by decide) ?_
      refine PW.icmp_ne (tgt := 44) C dX10_tried_33 (by decide) (fun c => ?_) (fun c => ?_)
      · rw [if_neg c] at hw
        refine PW.ild1n C dX10_tried_44 ?_
        refine PW.iconst (v := 5) C dX10_tried_45 (by decide) ?_
        refine PW.icmp_ne (tgt := 57) C dX10_tried_46 (by decide) (fun c => ?_) (fun c => ?_)
        · rw [if_neg c] at hw
          refine PW.ild1n C dX10_tried_57 ?_
          refine PW.if_eq (tgt := 66) C dX10_tried_58 (by decide) (fun c => ?_) (fun c => ?_)
          · rw [if_pos c] at hw
            exact PW.wk (wk_s (wk_s (wk_s (wk_n (wk_n wk_0))))) (b_X10_tried_66 C hw)
          · rw [if_neg c] at hw
            refine PW.ild1n C dX10_tried_61 ?_
            refine PW.iconst (v := 3) C dX10_tried_62 (by decide) ?_
            refine PW.icmp_ne (tgt := 74) C dX10_tried_63 (by decide) (fun c => ?_) (fun c => ?_)
            · rw [if_neg c] at hw
              exact PW.wk (wk_s (wk_s (wk_s (wk_n (wk_n wk_0))))) (b_X10_tried_74 C hw)
            · rw [if_pos c] at hw
              exact PW.wk (wk_s (wk_s (wk_s (wk_n (wk_n wk_0))))) (b_X10_tried_66 C hw)
        · rw [if_pos c] at hw
          refine PW.ald0n C dX10_tried_49 ?_
          refine PW.ild2n C dX10_tried_50 ?_
          refine PW.callVI1 C ms_X10_isPlace ml_X10_527 dX10_tried_51 oM_0 ⟨_, _, rfl⟩ (Nat.le_of_ble_eq_true rfl) (by decide) (Nat.le_of_ble_eq_true rfl) (s_X10_isPlace hw) ?_
          clear hw
          intro z16 h15 hw
          refine PW.goto (tgt := 75) C dX10_tried_54 (by decide) ?_
          exact PW.wk (wk_s (wk_s (wk_s (wk_n (wk_n wk_0))))) (b_X10_tried_75 C hw)
      · rw [if_pos c] at hw
        refine PW.ald0n C dX10_tried_36 ?_
        refine PW.ild2n C dX10_tried_37 ?_
        refine PW.callVI1 C ms_X10_isLink ml_X10_524 dX10_tried_38 oM_0 ⟨_, _, rfl⟩ (Nat.le_of_ble_eq_true rfl) (by decide) (Nat.le_of_ble_eq_true rfl) (s_X10_isLink hw) ?_
        clear hw
        intro z18 h17 hw
        refine PW.goto (tgt := 75) C dX10_tried_41 (by decide) ?_
        exact PW.wk (wk_s (wk_s (wk_s (wk_n (wk_n wk_0))))) (b_X10_tried_75 C hw)
    · rw [if_pos c] at hw
      refine PW.ald0n C dX10_tried_23 ?_
      refine PW.ild2n C dX10_tried_24 ?_
      refine PW.callVI1 C ms_X10_isOwner ml_X10_512 dX10_tried_25 oM_0 ⟨_, _, rfl⟩ (Nat.le_of_ble_eq_true rfl) (by decide) (Nat.le_of_ble_eq_true rfl) (s_X10_isOwner hw) ?_
      clear hw
      intro z20 h19 hw
      refine PW.goto (tgt := 75) C dX10_tried_28 (by decide) ?_
      exact PW.wk (wk_s (wk_s (wk_s (wk_n (wk_n wk_0))))) (b_X10_tried_75 C hw)
  · rw [if_pos c] at hw
    refine PW.ald0n C dX10_tried_10 ?_
    refine PW.ild2n C dX10_tried_11 ?_
    refine PW.callVI1 C ms_X10_isNoise ml_X10_521 dX10_tried_12 oM_0 ⟨_, _, rfl⟩ (Nat.le_of_ble_eq_true rfl) (by decide) (Nat.le_of_ble_eq_true rfl) (s_X10_isNoise hw) ?_
    clear hw
    intro z22 h21 hw
    refine PW.goto (tgt := 75) C dX10_tried_15 (by decide) ?_
    exact PW.wk (wk_s (wk_s (wk_s (wk_n (wk_n wk_0))))) (b_X10_tried_75 C hw)
def w_X10_undo (h : PH) (Q : Int32 → PH → Prop) : Prop :=
  ∀ h1, h1 = sI h 0 0 0 → if (gI h1 0 61) = 0 then (Q (-1) h1) else (∀ h2, h2 = sI h1 0 61 ((gI h1 0 61) - 1) → w_X10_copies 0 (2 + (gI h2 0 61)) h2 (fun h3 => Q (gI h3 0 61) h3))
set_option maxRecDepth 8000 in
theorem s_X10_undo {D : va_G} {ca : Nat → ClassId} {ad : Nat → Nat} {l : Launch} {h : PH} {Q : Int32 → PH → Prop} (hw : w_X10_undo h Q) : Sp (GM D ca ad) (XS (GM D ca ad)) l 2 yX10_undo cX10_undo 1 (some .int) [.ref 0] h (qI Q) := by
  refine Sp.of (own := RX10) [some (.ref 0)] (by decide +kernel) rfl rfl (Nat.le_of_ble_eq_true rfl) (fun K hl C => ?_)
  subst hl
  unfold w_X10_undo at hw
  refine PW.ald0n C dX10_undo_0 ?_
  refine PW.iconst (v := 0) C dX10_undo_1 (by decide) ?_
  replace hw := hw _ rfl
  refine PW.put0 C cf_10 fl_X10_235 (by decide) oM_0 rfl rfl rfl (pw_sI oM_0 (by decide) rfl) dX10_undo_2 ?_
  refine PW.ald0n C dX10_undo_5 ?_
  refine PW.get0 C cf_10 fl_X10_413 (by decide) oM_0 (fvI rfl) dX10_undo_6 ?_
  refine PW.if_ne (tgt := 14) C dX10_undo_9 (by decide) (fun c => ?_) (fun c => ?_)
  · rw [if_neg c] at hw
    refine PW.ald0n C dX10_undo_14 ?_
    refine PW.dup C dX10_undo_15 rfl ?_
    refine PW.get0 C cf_10 fl_X10_413 (by decide) oM_0 (fvI rfl) dX10_undo_16 ?_
    refine PW.iconst (v := 1) C dX10_undo_19 (by decide) ?_
    refine PW.isub C dX10_undo_20 ?_
    replace hw := hw _ rfl
    refine PW.put0 C cf_10 fl_X10_413 (by decide) oM_0 rfl rfl rfl (pw_sI oM_0 (by decide) rfl) dX10_undo_21 ?_
    refine PW.ald0n C dX10_undo_24 ?_
    refine PW.iconst (v := 0) C dX10_undo_25 (by decide) ?_
    refine PW.iconst (v := 2) C dX10_undo_26 (by decide) ?_
    refine PW.ald0n C dX10_undo_27 ?_
    refine PW.get0 C cf_10 fl_X10_413 (by decide) oM_0 (fvI rfl) dX10_undo_28 ?_
    refine PW.iadd C dX10_undo_31 ?_
    refine PW.callVV2 C ms_X10_copies ml_X10_588 dX10_undo_32 oM_0 ⟨_, _, rfl⟩ (Nat.le_of_ble_eq_true rfl) (by decide) (Nat.le_of_ble_eq_true rfl) (s_X10_copies hw) ?_
    clear hw
    intro h3 hw
    refine PW.ald0n C dX10_undo_35 ?_
    refine PW.get0 C cf_10 fl_X10_413 (by decide) oM_0 (fvI rfl) dX10_undo_36 ?_
    exact PW.iret C dX10_undo_39 ⟨_, rfl, hw⟩
  · rw [if_pos c] at hw
    refine PW.iconst (v := (-1)) C dX10_undo_12 (by decide) ?_
    exact PW.iret C dX10_undo_13 ⟨_, rfl, hw⟩
def w_X10_keep (h : PH) (Q : Int32 → PH → Prop) : Prop :=
  ∀ h1, h1 = sI h 0 0 0 → w_X10_copies 1 0 h1 (fun h2 => ∀ h3, h3 = sI h2 0 60 1 → Q (gI h3 44 (iN 0)) h3)
set_option maxRecDepth 8000 in
theorem s_X10_keep {D : va_G} {ca : Nat → ClassId} {ad : Nat → Nat} {l : Launch} {h : PH} {Q : Int32 → PH → Prop} (hw : w_X10_keep h Q) : Sp (GM D ca ad) (XS (GM D ca ad)) l 2 yX10_keep cX10_keep 1 (some .int) [.ref 0] h (qI Q) := by
  refine Sp.of (own := RX10) [some (.ref 0)] (by decide +kernel) rfl rfl (Nat.le_of_ble_eq_true rfl) (fun K hl C => ?_)
  subst hl
  unfold w_X10_keep at hw
  refine PW.ald0n C dX10_keep_0 ?_
  refine PW.iconst (v := 0) C dX10_keep_1 (by decide) ?_
  replace hw := hw _ rfl
  refine PW.put0 C cf_10 fl_X10_235 (by decide) oM_0 rfl rfl rfl (pw_sI oM_0 (by decide) rfl) dX10_keep_2 ?_
  refine PW.ald0n C dX10_keep_5 ?_
  refine PW.iconst (v := 1) C dX10_keep_6 (by decide) ?_
  refine PW.iconst (v := 0) C dX10_keep_7 (by decide) ?_
  refine PW.callVV2 C ms_X10_copies ml_X10_588 dX10_keep_8 oM_0 ⟨_, _, rfl⟩ (Nat.le_of_ble_eq_true rfl) (by decide) (Nat.le_of_ble_eq_true rfl) (s_X10_copies hw) ?_
  clear hw
  intro h2 hw
  refine PW.ald0n C dX10_keep_11 ?_
  refine PW.iconst (v := 1) C dX10_keep_12 (by decide) ?_
  replace hw := hw _ rfl
  refine PW.put0 C cf_10 fl_X10_409 (by decide) oM_0 rfl (z_nar (by decide)).1 (z_nar (by decide)).2 (pw_sI oM_0 (by decide) rfl) dX10_keep_13 ?_
  refine PW.ald0n C dX10_keep_16 ?_
  refine PW.get0 (v := .ref 44) C cf_10 fl_X10_144 (by decide) oM_0 (fvR (o := 44) rfl) dX10_keep_17 ?_
  refine PW.iconst (v := 0) C dX10_keep_20 (by decide) ?_
  refine PW.iald C dX10_keep_21 aM_44 (vpl (by decide)) ?_
  exact PW.iret C dX10_keep_22 ⟨_, rfl, hw⟩
def w_X10_back (h : PH) (Q : Int32 → PH → Prop) : Prop :=
  ∀ h1, h1 = sI h 0 0 0 → if (gI h1 0 60) = 0 then (Q (-1) h1) else (w_X10_copies 0 1 h1 (fun h2 => ∀ h3, h3 = sI h2 0 61 0 → Q (gI h3 44 (iN 0)) h3))
set_option maxRecDepth 8000 in
theorem s_X10_back {D : va_G} {ca : Nat → ClassId} {ad : Nat → Nat} {l : Launch} {h : PH} {Q : Int32 → PH → Prop} (hw : w_X10_back h Q) : Sp (GM D ca ad) (XS (GM D ca ad)) l 2 yX10_back cX10_back 1 (some .int) [.ref 0] h (qI Q) := by
  refine Sp.of (own := RX10) [some (.ref 0)] (by decide +kernel) rfl rfl (Nat.le_of_ble_eq_true rfl) (fun K hl C => ?_)
  subst hl
  unfold w_X10_back at hw
  refine PW.ald0n C dX10_back_0 ?_
  refine PW.iconst (v := 0) C dX10_back_1 (by decide) ?_
  replace hw := hw _ rfl
  refine PW.put0 C cf_10 fl_X10_235 (by decide) oM_0 rfl rfl rfl (pw_sI oM_0 (by decide) rfl) dX10_back_2 ?_
  refine PW.ald0n C dX10_back_5 ?_
  refine PW.get0 C cf_10 fl_X10_409 (by decide) oM_0 (fvI rfl) dX10_back_6 ?_
  refine PW.if_ne (tgt := 14) C dX10_back_9 (by decide) (fun c => ?_) (fun c => ?_)
  · rw [if_neg c] at hw
    refine PW.ald0n C dX10_back_14 ?_
    refine PW.iconst (v := 0) C dX10_back_15 (by decide) ?_
    refine PW.iconst (v := 1) C dX10_back_16 (by decide) ?_
    refine PW.callVV2 C ms_X10_copies ml_X10_588 dX10_back_17 oM_0 ⟨_, _, rfl⟩ (Nat.le_of_ble_eq_true rfl) (by decide) (Nat.le_of_ble_eq_true rfl) (s_X10_copies hw) ?_
    clear hw
    intro h2 hw
    refine PW.ald0n C dX10_back_20 ?_
    refine PW.iconst (v := 0) C dX10_back_21 (by decide) ?_
    replace hw := hw _ rfl
    refine PW.put0 C cf_10 fl_X10_413 (by decide) oM_0 rfl rfl rfl (pw_sI oM_0 (by decide) rfl) dX10_back_22 ?_
    refine PW.ald0n C dX10_back_25 ?_
    refine PW.get0 (v := .ref 44) C cf_10 fl_X10_144 (by decide) oM_0 (fvR (o := 44) rfl) dX10_back_26 ?_
    refine PW.iconst (v := 0) C dX10_back_29 (by decide) ?_
    refine PW.iald C dX10_back_30 aM_44 (vpl (by decide)) ?_
    exact PW.iret C dX10_back_31 ⟨_, rfl, hw⟩
  · rw [if_pos c] at hw
    refine PW.iconst (v := (-1)) C dX10_back_12 (by decide) ?_
    exact PW.iret C dX10_back_13 ⟨_, rfl, hw⟩
def w_X10_count_133 (k166 : Int32 → PH → Prop) (Q : Int32 → PH → Prop) (kb : Int32 → Int32 → PH → Prop) (x2 : Int32) (x3 : Int32) (h : PH) : Prop :=
  if (gI h 2 (iN 0)) ≤ x3 then (k166 x2 h) else (vp_in x3 12 ∧ if (gI h 27 (iN x3)) ≤ 0 then (∀ (y9 : Int32), y9 = (x2 + 0) → kb y9 (x3 + 1) h) else (∀ (y10 : Int32), y10 = (x2 + 1) → kb y10 (x3 + 1) h))
set_option maxRecDepth 8000 in
theorem b_X10_count_133 {D : va_G} {ca : Nat → ClassId} {ad : Nat → Nat} {K : Kt} {k166 : Int32 → PH → Prop} {kb : Int32 → Int32 → PH → Prop} {Q : Int32 → PH → Prop} {x2 : Int32} {x3 : Int32} {h : PH} (C : CX (GM D ca ad) (XS (GM D ca ad)) cX10_count RX10 4 (some .int) 8 K) (hk166 : ∀ (x2 : Int32) (h : PH), k166 x2 h → PW (GM D ca ad) K 4 (qI Q) h 166 [none, none, some (.int x2), none] []) (hkb : ∀ (x2 : Int32) (x3 : Int32) (h : PH), kb x2 x3 h → PW (GM D ca ad) K 4 (qI Q) h 133 [some (.ref 0), none, some (.int x2), some (.int x3)] []) (hw : w_X10_count_133 k166 Q kb x2 x3 h) : PW (GM D ca ad) K 4 (qI Q) h 133 [some (.ref 0), none, some (.int x2), some (.int x3)] [] := by
  unfold w_X10_count_133 at hw
  refine PW.ild3n C dX10_count_133 ?_
  refine PW.ald0n C dX10_count_134 ?_
  refine PW.get0 (v := .ref 2) C cf_10 fl_X10_13 (by decide) oM_0 (fvR (o := 2) rfl) dX10_count_135 ?_
  refine PW.iconst (v := 0) C dX10_count_138 (by decide) ?_
  refine PW.iald C dX10_count_139 aM_2 (vpl (by decide)) ?_
  refine PW.icmp_ge (tgt := 166) C dX10_count_140 (by decide) (fun c => ?_) (fun c => ?_)
  · rw [if_pos c] at hw
    exact PW.wk (wk_n (wk_n (wk_s (wk_n wk_0)))) (hk166 _ _ hw)
  · rw [if_neg c] at hw
    refine PW.ild2n C dX10_count_143 ?_
    refine PW.ald0n C dX10_count_144 ?_
    refine PW.get0 (v := .ref 27) C cf_10 fl_X10_88 (by decide) oM_0 (fvR (o := 27) rfl) dX10_count_145 ?_
    refine PW.ild3n C dX10_count_148 ?_
    obtain ⟨hc8, hw⟩ := hw
    refine PW.iald C dX10_count_149 aM_27 hc8 ?_
    refine PW.if_le (tgt := 157) C dX10_count_150 (by decide) (fun c => ?_) (fun c => ?_)
    · rw [if_pos c] at hw
      refine PW.iconst (v := 0) C dX10_count_157 (by decide) ?_
      refine PW.iadd C dX10_count_158 ?_
      replace hw := hw _ rfl
      refine PW.ist2n C dX10_count_159 (by decide) rfl ?_
      refine PW.inc3 (v := 1) C dX10_count_160 (by decide) rfl (by decide) ?_
      refine PW.goto (tgt := 133) C dX10_count_163 (by decide) ?_
      exact PW.wk (wk_s (wk_n (wk_s (wk_s wk_0)))) (hkb _ _ _ hw)
    · rw [if_neg c] at hw
      refine PW.iconst (v := 1) C dX10_count_153 (by decide) ?_
      refine PW.goto (tgt := 158) C dX10_count_154 (by decide) ?_
      refine PW.iadd C dX10_count_158 ?_
      replace hw := hw _ rfl
      refine PW.ist2n C dX10_count_159 (by decide) rfl ?_
      refine PW.inc3 (v := 1) C dX10_count_160 (by decide) rfl (by decide) ?_
      refine PW.goto (tgt := 133) C dX10_count_163 (by decide) ?_
      exact PW.wk (wk_s (wk_n (wk_s (wk_s wk_0)))) (hkb _ _ _ hw)
theorem l_X10_count_133 {D : va_G} {ca : Nat → ClassId} {ad : Nat → Nat} {K : Kt} {k166 : Int32 → PH → Prop} {Q : Int32 → PH → Prop} (C : CX (GM D ca ad) (XS (GM D ca ad)) cX10_count RX10 4 (some .int) 8 K) (hk166 : ∀ (x2 : Int32) (h : PH), k166 x2 h → PW (GM D ca ad) K 4 (qI Q) h 166 [none, none, some (.int x2), none] []) : ∀ (n : Nat) (x2 : Int32) (x3 : Int32) (h : PH), Lp2 (w_X10_count_133 k166 Q) n x2 x3 h → PW (GM D ca ad) K 4 (qI Q) h 133 [some (.ref 0), none, some (.int x2), some (.int x3)] [] := by
  intro n
  induction n with
  | zero => intro x2 x3 h hw; exact hw.elim
  | succ n ih => intro x2 x3 h hw; exact b_X10_count_133 C hk166 (fun x2 x3 h hw => ih x2 x3 h hw) hw
def w_X10_count_221 (k246 : Int32 → PH → Prop) (Q : Int32 → PH → Prop) (kb : Int32 → Int32 → PH → Prop) (x2 : Int32) (x3 : Int32) (h : PH) : Prop :=
  if (gI h 2 (iN 2)) ≤ x3 then (k246 x2 h) else (vp_in x3 88 ∧ ∀ (y29 : Int32), y29 = (x2 + (gI h 43 (iN x3))) → kb y29 (x3 + 1) h)
set_option maxRecDepth 8000 in
theorem b_X10_count_221 {D : va_G} {ca : Nat → ClassId} {ad : Nat → Nat} {K : Kt} {k246 : Int32 → PH → Prop} {kb : Int32 → Int32 → PH → Prop} {Q : Int32 → PH → Prop} {x2 : Int32} {x3 : Int32} {h : PH} (C : CX (GM D ca ad) (XS (GM D ca ad)) cX10_count RX10 4 (some .int) 8 K) (hk246 : ∀ (x2 : Int32) (h : PH), k246 x2 h → PW (GM D ca ad) K 4 (qI Q) h 246 [none, none, some (.int x2), none] []) (hkb : ∀ (x2 : Int32) (x3 : Int32) (h : PH), kb x2 x3 h → PW (GM D ca ad) K 4 (qI Q) h 221 [some (.ref 0), none, some (.int x2), some (.int x3)] []) (hw : w_X10_count_221 k246 Q kb x2 x3 h) : PW (GM D ca ad) K 4 (qI Q) h 221 [some (.ref 0), none, some (.int x2), some (.int x3)] [] := by
  unfold w_X10_count_221 at hw
  refine PW.ild3n C dX10_count_221 ?_
  refine PW.ald0n C dX10_count_222 ?_
  refine PW.get0 (v := .ref 2) C cf_10 fl_X10_13 (by decide) oM_0 (fvR (o := 2) rfl) dX10_count_223 ?_
  refine PW.iconst (v := 2) C dX10_count_226 (by decide) ?_
  refine PW.iald C dX10_count_227 aM_2 (vpl (by decide)) ?_
  refine PW.icmp_ge (tgt := 246) C dX10_count_228 (by decide) (fun c => ?_) (fun c => ?_)
  · rw [if_pos c] at hw
    exact PW.wk (wk_n (wk_n (wk_s (wk_n wk_0)))) (hk246 _ _ hw)
  · rw [if_neg c] at hw
    refine PW.ild2n C dX10_count_231 ?_
    refine PW.ald0n C dX10_count_232 ?_
    refine PW.get0 (v := .ref 43) C cf_10 fl_X10_141 (by decide) oM_0 (fvR (o := 43) rfl) dX10_count_233 ?_
    refine PW.ild3n C dX10_count_236 ?_
    obtain ⟨hc28, hw⟩ := hw
    refine PW.iald C dX10_count_237 aM_43 hc28 ?_
    refine PW.iadd C dX10_count_238 ?_
    replace hw := hw _ rfl
    refine PW.ist2n C dX10_count_239 (by decide) rfl ?_
    refine PW.inc3 (v := 1) C dX10_count_240 (by decide) rfl (by decide) ?_
    refine PW.goto (tgt := 221) C dX10_count_243 (by decide) ?_
    exact PW.wk (wk_s (wk_n (wk_s (wk_s wk_0)))) (hkb _ _ _ hw)
theorem l_X10_count_221 {D : va_G} {ca : Nat → ClassId} {ad : Nat → Nat} {K : Kt} {k246 : Int32 → PH → Prop} {Q : Int32 → PH → Prop} (C : CX (GM D ca ad) (XS (GM D ca ad)) cX10_count RX10 4 (some .int) 8 K) (hk246 : ∀ (x2 : Int32) (h : PH), k246 x2 h → PW (GM D ca ad) K 4 (qI Q) h 246 [none, none, some (.int x2), none] []) : ∀ (n : Nat) (x2 : Int32) (x3 : Int32) (h : PH), Lp2 (w_X10_count_221 k246 Q) n x2 x3 h → PW (GM D ca ad) K 4 (qI Q) h 221 [some (.ref 0), none, some (.int x2), some (.int x3)] [] := by
  intro n
  induction n with
  | zero => intro x2 x3 h hw; exact hw.elim
  | succ n ih => intro x2 x3 h hw; exact b_X10_count_221 C hk246 (fun x2 x3 h hw => ih x2 x3 h hw) hw
def w_X10_count_254 (k291 : Int32 → PH → Prop) (Q : Int32 → PH → Prop) (kb : Int32 → Int32 → PH → Prop) (x2 : Int32) (x3 : Int32) (h : PH) : Prop :=
  if (48 * (gI h 2 (iN 0))) ≤ x3 then (k291 x2 h) else (vp_in x3 288 ∧ if (gI h 51 (iN x3)) = (-1) then (∀ (y36 : Int32), y36 = (x2 + 1) → kb y36 (x3 + 1) h) else (∀ (y35 : Int32), y35 = (x2 + 0) → kb y35 (x3 + 1) h))
set_option maxRecDepth 8000 in
theorem b_X10_count_254 {D : va_G} {ca : Nat → ClassId} {ad : Nat → Nat} {K : Kt} {k291 : Int32 → PH → Prop} {kb : Int32 → Int32 → PH → Prop} {Q : Int32 → PH → Prop} {x2 : Int32} {x3 : Int32} {h : PH} (C : CX (GM D ca ad) (XS (GM D ca ad)) cX10_count RX10 4 (some .int) 8 K) (hk291 : ∀ (x2 : Int32) (h : PH), k291 x2 h → PW (GM D ca ad) K 4 (qI Q) h 291 [none, none, some (.int x2), none] []) (hkb : ∀ (x2 : Int32) (x3 : Int32) (h : PH), kb x2 x3 h → PW (GM D ca ad) K 4 (qI Q) h 254 [some (.ref 0), none, some (.int x2), some (.int x3)] []) (hw : w_X10_count_254 k291 Q kb x2 x3 h) : PW (GM D ca ad) K 4 (qI Q) h 254 [some (.ref 0), none, some (.int x2), some (.int x3)] [] := by
  unfold w_X10_count_254 at hw
  refine PW.ild3n C dX10_count_254 ?_
  refine PW.bipush (v := 48) C dX10_count_255 (by decide) ?_
  refine PW.ald0n C dX10_count_257 ?_
  refine PW.get0 (v := .ref 2) C cf_10 fl_X10_13 (by decide) oM_0 (fvR (o := 2) rfl) dX10_count_258 ?_
  refine PW.iconst (v := 0) C dX10_count_261 (by decide) ?_
  refine PW.iald C dX10_count_262 aM_2 (vpl (by decide)) ?_
  refine PW.imul C dX10_count_263 ?_
  refine PW.icmp_ge (tgt := 291) C dX10_count_264 (by decide) (fun c => ?_) (fun c => ?_)
  · rw [if_pos c] at hw
    exact PW.wk (wk_n (wk_n (wk_s (wk_n wk_0)))) (hk291 _ _ hw)
  · rw [if_neg c] at hw
    refine PW.ild2n C dX10_count_267 ?_
    refine PW.ald0n C dX10_count_268 ?_
    refine PW.get0 (v := .ref 51) C cf_10 fl_X10_165 (by decide) oM_0 (fvR (o := 51) rfl) dX10_count_269 ?_
    refine PW.ild3n C dX10_count_272 ?_
    obtain ⟨hc34, hw⟩ := hw
    refine PW.iald C dX10_count_273 aM_51 hc34 ?_
    refine PW.iconst (v := (-1)) C dX10_count_274 (by decide) ?_
    refine PW.icmp_ne (tgt := 282) C dX10_count_275 (by decide) (fun c => ?_) (fun c => ?_)
    · rw [if_neg c] at hw
      refine PW.iconst (v := 0) C dX10_count_282 (by decide) ?_
      refine PW.iadd C dX10_count_283 ?_
      replace hw := hw _ rfl
      refine PW.ist2n C dX10_count_284 (by decide) rfl ?_
      refine PW.inc3 (v := 1) C dX10_count_285 (by decide) rfl (by decide) ?_
      refine PW.goto (tgt := 254) C dX10_count_288 (by decide) ?_
      exact PW.wk (wk_s (wk_n (wk_s (wk_s wk_0)))) (hkb _ _ _ hw)
    · rw [if_pos c] at hw
      refine PW.iconst (v := 1) C dX10_count_278 (by decide) ?_
      refine PW.goto (tgt := 283) C dX10_count_279 (by decide) ?_
      refine PW.iadd C dX10_count_283 ?_
      replace hw := hw _ rfl
      refine PW.ist2n C dX10_count_284 (by decide) rfl ?_
      refine PW.inc3 (v := 1) C dX10_count_285 (by decide) rfl (by decide) ?_
      refine PW.goto (tgt := 254) C dX10_count_288 (by decide) ?_
      exact PW.wk (wk_s (wk_n (wk_s (wk_s wk_0)))) (hkb _ _ _ hw)
theorem l_X10_count_254 {D : va_G} {ca : Nat → ClassId} {ad : Nat → Nat} {K : Kt} {k291 : Int32 → PH → Prop} {Q : Int32 → PH → Prop} (C : CX (GM D ca ad) (XS (GM D ca ad)) cX10_count RX10 4 (some .int) 8 K) (hk291 : ∀ (x2 : Int32) (h : PH), k291 x2 h → PW (GM D ca ad) K 4 (qI Q) h 291 [none, none, some (.int x2), none] []) : ∀ (n : Nat) (x2 : Int32) (x3 : Int32) (h : PH), Lp2 (w_X10_count_254 k291 Q) n x2 x3 h → PW (GM D ca ad) K 4 (qI Q) h 254 [some (.ref 0), none, some (.int x2), some (.int x3)] [] := by
  intro n
  induction n with
  | zero => intro x2 x3 h hw; exact hw.elim
  | succ n ih => intro x2 x3 h hw; exact b_X10_count_254 C hk291 (fun x2 x3 h hw => ih x2 x3 h hw) hw
def w_X10_count (x1 : Int32) (h : PH) (Q : Int32 → PH → Prop) : Prop :=
  ∀ h1, h1 = sI h 0 0 0 → if x1 = 0 then (Q (gI h1 2 (iN 0)) h1) else (if x1 = 1 then (Q (gI h1 2 (iN 1)) h1) else (if x1 = 2 then (Q (gI h1 2 (iN 2)) h1) else (if x1 = 3 then (Q (gI h1 34 (iN 0)) h1) else (if x1 = 4 then (Q (gI h1 2 (iN 4)) h1) else (if x1 = 5 then (Q (gI h1 2 (iN 6)) h1) else (if x1 = 6 then (∃ n, Lp2 (w_X10_count_133 (fun y12 h11 => Q y12 h11) Q) n 0 0 h1) else (if x1 = 7 then (Q (gI h1 2 (iN 10)) h1) else (if x1 = 8 then (Q (gI h1 44 (iN 0)) h1) else (if x1 = 9 then (Q (gI h1 0 94) h1) else (if x1 = 10 then (w_X10_knownMany h1 (fun z18 h17 => Q z18 h17)) else (if x1 = 11 then (Q (gI h1 0 61) h1) else (if x1 = 12 then (w_X10_bitsOf (gI h1 42 (iN 0)) h1 (fun z22 h21 => Q z22 h21)) else (if x1 = 13 then (w_X10_layDay h1 (fun h24 => w_X10_trespasses (-1) (-1) h24 (fun z26 h25 => Q z26 h25))) else (if x1 = 14 then (∃ n, Lp2 (w_X10_count_221 (fun y31 h30 => Q y31 h30) Q) n 0 0 h1) else (if x1 = 15 then (w_X10_layDay h1 (fun h33 => ∃ n, Lp2 (w_X10_count_254 (fun y38 h37 => Q y38 h37) Q) n 0 0 h33)) else (Q (-1) h1))))))))))))))))
set_option maxRecDepth 8000 in
theorem s_X10_count {D : va_G} {ca : Nat → ClassId} {ad : Nat → Nat} {l : Launch} {x1 : Int32} {h : PH} {Q : Int32 → PH → Prop} (hw : w_X10_count x1 h Q) : Sp (GM D ca ad) (XS (GM D ca ad)) l 8 yX10_count cX10_count 4 (some .int) [.ref 0, .int x1] h (qI Q) := by
  refine Sp.of (own := RX10) [some (.ref 0), some (.int x1), none, none] (by decide +kernel) rfl rfl (Nat.le_of_ble_eq_true rfl) (fun K hl C => ?_)
  subst hl
  unfold w_X10_count at hw
  refine PW.ald0n C dX10_count_0 ?_
  refine PW.iconst (v := 0) C dX10_count_1 (by decide) ?_
  replace hw := hw _ rfl
  refine PW.put0 C cf_10 fl_X10_235 (by decide) oM_0 rfl rfl rfl (pw_sI oM_0 (by decide) rfl) dX10_count_2 ?_
  refine PW.iconst (v := 0) C dX10_count_5 (by decide) ?_
  refine PW.ist2n C dX10_count_6 (by decide) rfl ?_
  refine PW.ild1n C dX10_count_7 ?_
  refine PW.byc 0 (fun c => ?_) (fun c => ?_)
  · rw [if_pos c] at hw
    subst c
    refine PW.tin (tgt := 88) C dX10_count_8 (by decide) (by decide) rfl (by decide) ?_
    refine PW.ald0n C dX10_count_88 ?_
    refine PW.get0 (v := .ref 2) C cf_10 fl_X10_13 (by decide) oM_0 (fvR (o := 2) rfl) dX10_count_89 ?_
    refine PW.iconst (v := 0) C dX10_count_92 (by decide) ?_
    refine PW.iald C dX10_count_93 aM_2 (vpl (by decide)) ?_
    exact PW.iret C dX10_count_94 ⟨_, rfl, hw⟩
  have n2 := c
  rw [if_neg c] at hw
  refine PW.byc 1 (fun c => ?_) (fun c => ?_)
  · rw [if_pos c] at hw
    subst c
    refine PW.tin (tgt := 95) C dX10_count_8 (by decide) (by decide) rfl (by decide) ?_
    refine PW.ald0n C dX10_count_95 ?_
    refine PW.get0 (v := .ref 2) C cf_10 fl_X10_13 (by decide) oM_0 (fvR (o := 2) rfl) dX10_count_96 ?_
    refine PW.iconst (v := 1) C dX10_count_99 (by decide) ?_
    refine PW.iald C dX10_count_100 aM_2 (vpl (by decide)) ?_
    exact PW.iret C dX10_count_101 ⟨_, rfl, hw⟩
  have n3 := c
  rw [if_neg c] at hw
  refine PW.byc 2 (fun c => ?_) (fun c => ?_)
  · rw [if_pos c] at hw
    subst c
    refine PW.tin (tgt := 102) C dX10_count_8 (by decide) (by decide) rfl (by decide) ?_
    refine PW.ald0n C dX10_count_102 ?_
    refine PW.get0 (v := .ref 2) C cf_10 fl_X10_13 (by decide) oM_0 (fvR (o := 2) rfl) dX10_count_103 ?_
    refine PW.iconst (v := 2) C dX10_count_106 (by decide) ?_
    refine PW.iald C dX10_count_107 aM_2 (vpl (by decide)) ?_
    exact PW.iret C dX10_count_108 ⟨_, rfl, hw⟩
  have n4 := c
  rw [if_neg c] at hw
  refine PW.byc 3 (fun c => ?_) (fun c => ?_)
  · rw [if_pos c] at hw
    subst c
    refine PW.tin (tgt := 109) C dX10_count_8 (by decide) (by decide) rfl (by decide) ?_
    refine PW.ald0n C dX10_count_109 ?_
    refine PW.get0 (v := .ref 34) C cf_10 fl_X10_114 (by decide) oM_0 (fvR (o := 34) rfl) dX10_count_110 ?_
    refine PW.iconst (v := 0) C dX10_count_113 (by decide) ?_
    refine PW.iald C dX10_count_114 aM_34 (vpl (by decide)) ?_
    exact PW.iret C dX10_count_115 ⟨_, rfl, hw⟩
  have n5 := c
  rw [if_neg c] at hw
  refine PW.byc 4 (fun c => ?_) (fun c => ?_)
  · rw [if_pos c] at hw
    subst c
    refine PW.tin (tgt := 116) C dX10_count_8 (by decide) (by decide) rfl (by decide) ?_
    refine PW.ald0n C dX10_count_116 ?_
    refine PW.get0 (v := .ref 2) C cf_10 fl_X10_13 (by decide) oM_0 (fvR (o := 2) rfl) dX10_count_117 ?_
    refine PW.iconst (v := 4) C dX10_count_120 (by decide) ?_
    refine PW.iald C dX10_count_121 aM_2 (vpl (by decide)) ?_
    exact PW.iret C dX10_count_122 ⟨_, rfl, hw⟩
  have n6 := c
  rw [if_neg c] at hw
  refine PW.byc 5 (fun c => ?_) (fun c => ?_)
  · rw [if_pos c] at hw
    subst c
    refine PW.tin (tgt := 123) C dX10_count_8 (by decide) (by decide) rfl (by decide) ?_
    refine PW.ald0n C dX10_count_123 ?_
    refine PW.get0 (v := .ref 2) C cf_10 fl_X10_13 (by decide) oM_0 (fvR (o := 2) rfl) dX10_count_124 ?_
    refine PW.bipush (v := 6) C dX10_count_127 (by decide) ?_
    refine PW.iald C dX10_count_129 aM_2 (vpl (by decide)) ?_
    exact PW.iret C dX10_count_130 ⟨_, rfl, hw⟩
  have n7 := c
  rw [if_neg c] at hw
  refine PW.byc 6 (fun c => ?_) (fun c => ?_)
  · rw [if_pos c] at hw
    subst c
    refine PW.tin (tgt := 131) C dX10_count_8 (by decide) (by decide) rfl (by decide) ?_
    refine PW.iconst (v := 0) C dX10_count_131 (by decide) ?_
    refine PW.ist3n C dX10_count_132 (by decide) rfl ?_
    obtain ⟨n, hw⟩ := hw
    refine PW.wk (wk_s (wk_n (wk_s (wk_s wk_0)))) (l_X10_count_133 C ?_ n _ _ _ hw)
    · intro y12 h11 hw
      refine PW.ild2n C dX10_count_166 ?_
      exact PW.iret C dX10_count_167 ⟨_, rfl, hw⟩
  have n13 := c
  rw [if_neg c] at hw
  refine PW.byc 7 (fun c => ?_) (fun c => ?_)
  · rw [if_pos c] at hw
    subst c
    refine PW.tin (tgt := 168) C dX10_count_8 (by decide) (by decide) rfl (by decide) ?_
    refine PW.ald0n C dX10_count_168 ?_
    refine PW.get0 (v := .ref 2) C cf_10 fl_X10_13 (by decide) oM_0 (fvR (o := 2) rfl) dX10_count_169 ?_
    refine PW.bipush (v := 10) C dX10_count_172 (by decide) ?_
    refine PW.iald C dX10_count_174 aM_2 (vpl (by decide)) ?_
    exact PW.iret C dX10_count_175 ⟨_, rfl, hw⟩
  have n14 := c
  rw [if_neg c] at hw
  refine PW.byc 8 (fun c => ?_) (fun c => ?_)
  · rw [if_pos c] at hw
    subst c
    refine PW.tin (tgt := 176) C dX10_count_8 (by decide) (by decide) rfl (by decide) ?_
    refine PW.ald0n C dX10_count_176 ?_
    refine PW.get0 (v := .ref 44) C cf_10 fl_X10_144 (by decide) oM_0 (fvR (o := 44) rfl) dX10_count_177 ?_
    refine PW.iconst (v := 0) C dX10_count_180 (by decide) ?_
    refine PW.iald C dX10_count_181 aM_44 (vpl (by decide)) ?_
    exact PW.iret C dX10_count_182 ⟨_, rfl, hw⟩
  have n15 := c
  rw [if_neg c] at hw
  refine PW.byc 9 (fun c => ?_) (fun c => ?_)
  · rw [if_pos c] at hw
    subst c
    refine PW.tin (tgt := 183) C dX10_count_8 (by decide) (by decide) rfl (by decide) ?_
    refine PW.ald0n C dX10_count_183 ?_
    refine PW.get0 C cf_10 fl_X10_406 (by decide) oM_0 (fvI rfl) dX10_count_184 ?_
    exact PW.iret C dX10_count_187 ⟨_, rfl, hw⟩
  have n16 := c
  rw [if_neg c] at hw
  refine PW.byc 10 (fun c => ?_) (fun c => ?_)
  · rw [if_pos c] at hw
    subst c
    refine PW.tin (tgt := 188) C dX10_count_8 (by decide) (by decide) rfl (by decide) ?_
    refine PW.ald0n C dX10_count_188 ?_
    refine PW.callVI0 C ms_X10_knownMany ml_X10_623 dX10_count_189 oM_0 ⟨_, _, rfl⟩ (Nat.le_of_ble_eq_true rfl) (by decide) (Nat.le_of_ble_eq_true rfl) (s_X10_knownMany hw) ?_
    clear hw
    intro z18 h17 hw
    exact PW.iret C dX10_count_192 ⟨_, rfl, hw⟩
  have n19 := c
  rw [if_neg c] at hw
  refine PW.byc 11 (fun c => ?_) (fun c => ?_)
  · rw [if_pos c] at hw
    subst c
    refine PW.tin (tgt := 193) C dX10_count_8 (by decide) (by decide) rfl (by decide) ?_
    refine PW.ald0n C dX10_count_193 ?_
    refine PW.get0 C cf_10 fl_X10_413 (by decide) oM_0 (fvI rfl) dX10_count_194 ?_
    exact PW.iret C dX10_count_197 ⟨_, rfl, hw⟩
  have n20 := c
  rw [if_neg c] at hw
  refine PW.byc 12 (fun c => ?_) (fun c => ?_)
  · rw [if_pos c] at hw
    subst c
    refine PW.tin (tgt := 198) C dX10_count_8 (by decide) (by decide) rfl (by decide) ?_
    refine PW.ald0n C dX10_count_198 ?_
    refine PW.get0 (v := .ref 42) C cf_10 fl_X10_138 (by decide) oM_0 (fvR (o := 42) rfl) dX10_count_199 ?_
    refine PW.iconst (v := 0) C dX10_count_202 (by decide) ?_
    refine PW.iald C dX10_count_203 aM_42 (vpl (by decide)) ?_
    refine PW.callSI1 C ms_X10_bitsOf ml_X10_566 dX10_count_204 (Nat.le_of_ble_eq_true rfl) (by decide) (Nat.le_of_ble_eq_true rfl) (s_X10_bitsOf hw) ?_
    clear hw
    intro z22 h21 hw
    exact PW.iret C dX10_count_207 ⟨_, rfl, hw⟩
  have n23 := c
  rw [if_neg c] at hw
  refine PW.byc 13 (fun c => ?_) (fun c => ?_)
  · rw [if_pos c] at hw
    subst c
    refine PW.tin (tgt := 208) C dX10_count_8 (by decide) (by decide) rfl (by decide) ?_
    refine PW.ald0n C dX10_count_208 ?_
    refine PW.callVV0 C ms_X10_layDay ml_X10_515 dX10_count_209 oM_0 ⟨_, _, rfl⟩ (Nat.le_of_ble_eq_true rfl) (by decide) (Nat.le_of_ble_eq_true rfl) (s_X10_layDay hw) ?_
    clear hw
    intro h24 hw
    refine PW.ald0n C dX10_count_212 ?_
    refine PW.iconst (v := (-1)) C dX10_count_213 (by decide) ?_
    refine PW.iconst (v := (-1)) C dX10_count_214 (by decide) ?_
    refine PW.callVI2 C ms_X10_trespasses ml_X10_518 dX10_count_215 oM_0 ⟨_, _, rfl⟩ (Nat.le_of_ble_eq_true rfl) (by decide) (Nat.le_of_ble_eq_true rfl) (s_X10_trespasses hw) ?_
    clear hw
    intro z26 h25 hw
    exact PW.iret C dX10_count_218 ⟨_, rfl, hw⟩
  have n27 := c
  rw [if_neg c] at hw
  refine PW.byc 14 (fun c => ?_) (fun c => ?_)
  · rw [if_pos c] at hw
    subst c
    refine PW.tin (tgt := 219) C dX10_count_8 (by decide) (by decide) rfl (by decide) ?_
    refine PW.iconst (v := 0) C dX10_count_219 (by decide) ?_
    refine PW.ist3n C dX10_count_220 (by decide) rfl ?_
    obtain ⟨n, hw⟩ := hw
    refine PW.wk (wk_s (wk_n (wk_s (wk_s wk_0)))) (l_X10_count_221 C ?_ n _ _ _ hw)
    · intro y31 h30 hw
      refine PW.ild2n C dX10_count_246 ?_
      exact PW.iret C dX10_count_247 ⟨_, rfl, hw⟩
  have n32 := c
  rw [if_neg c] at hw
  refine PW.byc 15 (fun c => ?_) (fun c => ?_)
  · rw [if_pos c] at hw
    subst c
    refine PW.tin (tgt := 248) C dX10_count_8 (by decide) (by decide) rfl (by decide) ?_
    refine PW.ald0n C dX10_count_248 ?_
    refine PW.callVV0 C ms_X10_layDay ml_X10_515 dX10_count_249 oM_0 ⟨_, _, rfl⟩ (Nat.le_of_ble_eq_true rfl) (by decide) (Nat.le_of_ble_eq_true rfl) (s_X10_layDay hw) ?_
    clear hw
    intro h33 hw
    refine PW.iconst (v := 0) C dX10_count_252 (by decide) ?_
    refine PW.ist3n C dX10_count_253 (by decide) rfl ?_
    obtain ⟨n, hw⟩ := hw
    refine PW.wk (wk_s (wk_n (wk_s (wk_s wk_0)))) (l_X10_count_254 C ?_ n _ _ _ hw)
    · intro y38 h37 hw
      refine PW.ild2n C dX10_count_291 ?_
      exact PW.iret C dX10_count_292 ⟨_, rfl, hw⟩
  have n39 := c
  rw [if_neg c] at hw
  refine PW.tout (tgt := 293) C dX10_count_8 (by have e0 := ne_ti (z := 0) (by decide) n2; have e1 := ne_ti (z := 1) (by decide) n3; have e2 := ne_ti (z := 2) (by decide) n4; have e3 := ne_ti (z := 3) (by decide) n5; have e4 := ne_ti (z := 4) (by decide) n6; have e5 := ne_ti (z := 5) (by decide) n7; have e6 := ne_ti (z := 6) (by decide) n13; have e7 := ne_ti (z := 7) (by decide) n14; have e8 := ne_ti (z := 8) (by decide) n15; have e9 := ne_ti (z := 9) (by decide) n16; have e10 := ne_ti (z := 10) (by decide) n19; have e11 := ne_ti (z := 11) (by decide) n20; have e12 := ne_ti (z := 12) (by decide) n23; have e13 := ne_ti (z := 13) (by decide) n27; have e14 := ne_ti (z := 14) (by decide) n32; have e15 := ne_ti (z := 15) (by decide) n39; omega) (by decide) ?_
  refine PW.iconst (v := (-1)) C dX10_count_293 (by decide) ?_
  exact PW.iret C dX10_count_294 ⟨_, rfl, hw⟩
