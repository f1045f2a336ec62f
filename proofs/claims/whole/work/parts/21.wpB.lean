def w_X7_begin (r1 : Nat) (x2 : Int32) (h : PH) (Q : PH → Prop) : Prop :=
  ∀ h1, h1 = sP h 3 1 (r1 + 1) → ∀ h2, h2 = sI h1 3 2 x2 → ∀ h3, h3 = sI h2 3 3 0 → Q h3
set_option maxRecDepth 8000 in
theorem s_X7_begin {D : va_G} {ca : Nat → ClassId} {ad : Nat → Nat} {l : Launch} {r1 : Nat} {x2 : Int32} {h : PH} {Q : PH → Prop} (hr1 : aX r1 2 (alX r1)) (hw : w_X7_begin r1 x2 h Q) : Sp (GX D ca ad) (XS (GX D ca ad)) l 1 yX7_begin cX7_begin 3 none [.ref 3, .ref r1, .int x2] h (qV Q) := by
  refine Sp.of (own := RX7) [some (.ref 3), some (.ref r1), some (.int x2)] (by decide +kernel) rfl rfl (Nat.le_of_ble_eq_true rfl) (fun K hl C => ?_)
  subst hl
  unfold w_X7_begin at hw
  refine PW.ald0n C dX7_begin_0 ?_
  refine PW.ald1n C dX7_begin_1 ?_
  replace hw := hw _ rfl
  refine PW.put0 C cf_7 fl_X7_27 (by decide) oX_3 rfl rfl rfl (pw_sP oX_3 (by decide) rfl) dX7_begin_2 ?_
  refine PW.ald0n C dX7_begin_5 ?_
  refine PW.ild2n C dX7_begin_6 ?_
  replace hw := hw _ rfl
  refine PW.put0 C cf_7 fl_X7_31 (by decide) oX_3 rfl rfl rfl (pw_sI oX_3 (by decide) rfl) dX7_begin_7 ?_
  refine PW.ald0n C dX7_begin_10 ?_
  refine PW.iconst (v := 0) C dX7_begin_11 (by decide) ?_
  replace hw := hw _ rfl
  refine PW.put0 C cf_7 fl_X7_34 (by decide) oX_3 rfl rfl rfl (pw_sI oX_3 (by decide) rfl) dX7_begin_12 ?_
  exact PW.vret C dX7_begin_15 ⟨rfl, hw⟩
def w_X7_signAt (x1 : Int32) (h : PH) (Q : Int32 → PH → Prop) : Prop :=
  gP h 3 1 ≠ 0 ∧ aX (gP h 3 1 - 1) 2 700 ∧ if x1 < 0 then (Q (-1) h) else (if (gI h 3 2) ≤ x1 then (Q (-1) h) else (gP h 3 1 ≠ 0 ∧ aX (gP h 3 1 - 1) 2 700 ∧ if 700 ≤ x1 then (Q (-1) h) else (gP h 3 1 ≠ 0 ∧ aX (gP h 3 1 - 1) 2 700 ∧ vp_in x1 700 ∧ Q ((gI h (gP h 3 1 - 1) (iN x1)) &&& 255) h)))
set_option maxRecDepth 8000 in
theorem s_X7_signAt {D : va_G} {ca : Nat → ClassId} {ad : Nat → Nat} {l : Launch} {x1 : Int32} {h : PH} {Q : Int32 → PH → Prop} (hw : w_X7_signAt x1 h Q) : Sp (GX D ca ad) (XS (GX D ca ad)) l 1 yX7_signAt cX7_signAt 2 (some .int) [.ref 3, .int x1] h (qI Q) := by
  refine Sp.of (own := RX7) [some (.ref 3), some (.int x1)] (by decide +kernel) rfl rfl (Nat.le_of_ble_eq_true rfl) (fun K hl C => ?_)
  subst hl
  unfold w_X7_signAt at hw
  refine PW.ald0n C dX7_signAt_0 ?_
  obtain ⟨hz2, hq1, hw⟩ := hw
  refine PW.get0 C cf_7 fl_X7_27 (by decide) oX_3 (fvP rfl hz2) dX7_signAt_1 ?_
  refine PW.ifnull C dX7_signAt_4 ?_
  refine PW.ild1n C dX7_signAt_7 ?_
  refine PW.if_lt (tgt := 41) C dX7_signAt_8 (by decide) (fun c => ?_) (fun c => ?_)
  · rw [if_pos c] at hw
    refine PW.iconst (v := (-1)) C dX7_signAt_41 (by decide) ?_
    exact PW.iret C dX7_signAt_42 ⟨_, rfl, hw⟩
  · rw [if_neg c] at hw
    refine PW.ild1n C dX7_signAt_11 ?_
    refine PW.ald0n C dX7_signAt_12 ?_
    refine PW.get0 C cf_7 fl_X7_31 (by decide) oX_3 (fvI rfl) dX7_signAt_13 ?_
    refine PW.icmp_ge (tgt := 41) C dX7_signAt_16 (by decide) (fun c => ?_) (fun c => ?_)
    · rw [if_pos c] at hw
      refine PW.iconst (v := (-1)) C dX7_signAt_41 (by decide) ?_
      exact PW.iret C dX7_signAt_42 ⟨_, rfl, hw⟩
    · rw [if_neg c] at hw
      refine PW.ild1n C dX7_signAt_19 ?_
      refine PW.ald0n C dX7_signAt_20 ?_
      obtain ⟨hz4, hq3, hw⟩ := hw
      refine PW.get0 C cf_7 fl_X7_27 (by decide) oX_3 (fvP rfl hz4) dX7_signAt_21 ?_
      refine PW.alen (v := 700) C dX7_signAt_24 hq3 (by decide) (by decide) ?_
      refine PW.icmp_ge (tgt := 41) C dX7_signAt_25 (by decide) (fun c => ?_) (fun c => ?_)
      · rw [if_pos c] at hw
        refine PW.iconst (v := (-1)) C dX7_signAt_41 (by decide) ?_
        exact PW.iret C dX7_signAt_42 ⟨_, rfl, hw⟩
      · rw [if_neg c] at hw
        refine PW.ald0n C dX7_signAt_28 ?_
        obtain ⟨hz6, hq5, hw⟩ := hw
        refine PW.get0 C cf_7 fl_X7_27 (by decide) oX_3 (fvP rfl hz6) dX7_signAt_29 ?_
        refine PW.ild1n C dX7_signAt_32 ?_
        obtain ⟨hc7, hw⟩ := hw
        refine PW.bald C dX7_signAt_33 hq5 hc7 ?_
        refine PW.sipush (v := 255) C dX7_signAt_34 (by decide) ?_
        refine PW.iand C dX7_signAt_37 ?_
        refine PW.goto (tgt := 42) C dX7_signAt_38 (by decide) ?_
        exact PW.iret C dX7_signAt_42 ⟨_, rfl, hw⟩
def w_X7_isLetter (x0 : Int32) (h : PH) (Q : Int32 → PH → Prop) : Prop :=
  if x0 < 97 then (Q 0 h) else (if 122 < x0 then (Q 0 h) else (Q 1 h))
set_option maxRecDepth 8000 in
theorem s_X7_isLetter {D : va_G} {ca : Nat → ClassId} {ad : Nat → Nat} {l : Launch} {x0 : Int32} {h : PH} {Q : Int32 → PH → Prop} (hw : w_X7_isLetter x0 h Q) : Sp (GX D ca ad) (XS (GX D ca ad)) l 1 yX7_isLetter cX7_isLetter 1 (some .boolean) [.int x0] h (qI Q) := by
  refine Sp.of (own := RX7) [some (.int x0)] (by decide +kernel) rfl rfl (Nat.le_of_ble_eq_true rfl) (fun K hl C => ?_)
  subst hl
  unfold w_X7_isLetter at hw
  refine PW.ild0n C dX7_isLetter_0 ?_
  refine PW.bipush (v := 97) C dX7_isLetter_1 (by decide) ?_
  refine PW.icmp_lt (tgt := 16) C dX7_isLetter_3 (by decide) (fun c => ?_) (fun c => ?_)
  · rw [if_pos c] at hw
    refine PW.iconst (v := 0) C dX7_isLetter_16 (by decide) ?_
    exact PW.zret C dX7_isLetter_17 (by decide) ⟨_, rfl, hw⟩
  · rw [if_neg c] at hw
    refine PW.ild0n C dX7_isLetter_6 ?_
    refine PW.bipush (v := 122) C dX7_isLetter_7 (by decide) ?_
    refine PW.icmp_gt (tgt := 16) C dX7_isLetter_9 (by decide) (fun c => ?_) (fun c => ?_)
    · rw [if_pos c] at hw
      refine PW.iconst (v := 0) C dX7_isLetter_16 (by decide) ?_
      exact PW.zret C dX7_isLetter_17 (by decide) ⟨_, rfl, hw⟩
    · rw [if_neg c] at hw
      refine PW.iconst (v := 1) C dX7_isLetter_12 (by decide) ?_
      refine PW.goto (tgt := 17) C dX7_isLetter_13 (by decide) ?_
      exact PW.zret C dX7_isLetter_17 (by decide) ⟨_, rfl, hw⟩
def w_X7_isDigit (x0 : Int32) (h : PH) (Q : Int32 → PH → Prop) : Prop :=
  if x0 < 48 then (Q 0 h) else (if 57 < x0 then (Q 0 h) else (Q 1 h))
set_option maxRecDepth 8000 in
theorem s_X7_isDigit {D : va_G} {ca : Nat → ClassId} {ad : Nat → Nat} {l : Launch} {x0 : Int32} {h : PH} {Q : Int32 → PH → Prop} (hw : w_X7_isDigit x0 h Q) : Sp (GX D ca ad) (XS (GX D ca ad)) l 1 yX7_isDigit cX7_isDigit 1 (some .boolean) [.int x0] h (qI Q) := by
  refine Sp.of (own := RX7) [some (.int x0)] (by decide +kernel) rfl rfl (Nat.le_of_ble_eq_true rfl) (fun K hl C => ?_)
  subst hl
  unfold w_X7_isDigit at hw
  refine PW.ild0n C dX7_isDigit_0 ?_
  refine PW.bipush (v := 48) C dX7_isDigit_1 (by decide) ?_
  refine PW.icmp_lt (tgt := 16) C dX7_isDigit_3 (by decide) (fun c => ?_) (fun c => ?_)
  · rw [if_pos c] at hw
    refine PW.iconst (v := 0) C dX7_isDigit_16 (by decide) ?_
    exact PW.zret C dX7_isDigit_17 (by decide) ⟨_, rfl, hw⟩
  · rw [if_neg c] at hw
    refine PW.ild0n C dX7_isDigit_6 ?_
    refine PW.bipush (v := 57) C dX7_isDigit_7 (by decide) ?_
    refine PW.icmp_gt (tgt := 16) C dX7_isDigit_9 (by decide) (fun c => ?_) (fun c => ?_)
    · rw [if_pos c] at hw
      refine PW.iconst (v := 0) C dX7_isDigit_16 (by decide) ?_
      exact PW.zret C dX7_isDigit_17 (by decide) ⟨_, rfl, hw⟩
    · rw [if_neg c] at hw
      refine PW.iconst (v := 1) C dX7_isDigit_12 (by decide) ?_
      refine PW.goto (tgt := 17) C dX7_isDigit_13 (by decide) ?_
      exact PW.zret C dX7_isDigit_17 (by decide) ⟨_, rfl, hw⟩
def w_X7_takeSign_125 (Q : PH → Prop) (x1 : Int32) (h : PH) : Prop :=
  w_J0_indexOf_0f7a4 1 (((x1 : Int32).toUInt32 % 65536).toInt32) h (fun z7 h6 => if 0 ≤ z7 then (Q h6) else (∀ h8, h8 = sI h6 3 4 1 → Q h8))
set_option maxRecDepth 8000 in
theorem b_X7_takeSign_125 {D : va_G} {ca : Nat → ClassId} {ad : Nat → Nat} {K : Kt} {Q : PH → Prop} {x1 : Int32} {h : PH} (C : CX (GX D ca ad) (XS (GX D ca ad)) cX7_takeSign RX7 3 none 5 K) (hw : w_X7_takeSign_125 Q x1 h) : PW (GX D ca ad) K 3 (qV Q) h 125 [some (.ref 3), some (.int x1), none] [] := by
  unfold w_X7_takeSign_125 at hw
  refine PW.ldcS1 C dX7_takeSign_125 ?_
  refine PW.ild1n C dX7_takeSign_127 ?_
  refine PW.i2c C dX7_takeSign_128 ?_
  refine PW.callTI1 (b := 1) C ms_J0_indexOf_0f7a4 ml_X7_76 dX7_takeSign_129 (by decide) rfl (Nat.le_of_ble_eq_true rfl) (by decide) (Nat.le_of_ble_eq_true rfl) (s_J0_indexOf_0f7a4 (by decide) hw) ?_
  clear hw
  intro z7 h6 hw
  refine PW.if_ge (tgt := 140) C dX7_takeSign_132 (by decide) (fun c => ?_) (fun c => ?_)
  · rw [if_pos c] at hw
    exact PW.vret C dX7_takeSign_140 ⟨rfl, hw⟩
  · rw [if_neg c] at hw
    refine PW.ald0n C dX7_takeSign_135 ?_
    refine PW.iconst (v := 1) C dX7_takeSign_136 (by decide) ?_
    replace hw := hw _ rfl
    refine PW.put0 C cf_7 fl_X7_44 (by decide) oX_3 rfl rfl rfl (pw_sI oX_3 (by decide) rfl) dX7_takeSign_137 ?_
    exact PW.vret C dX7_takeSign_140 ⟨rfl, hw⟩
def w_X7_takeSign_93 (Q : PH → Prop) (x1 : Int32) (x2 : Int32) (h : PH) : Prop :=
  if x1 = 62 then (if x2 = 61 then (∀ h9, h9 = sI h 3 6 258 → ∀ h10, h10 = sI h9 3 3 ((gI h9 3 3) + 1) → Q h10) else (w_X7_takeSign_125 Q x1 h)) else (w_X7_takeSign_125 Q x1 h)
set_option maxRecDepth 8000 in
theorem b_X7_takeSign_93 {D : va_G} {ca : Nat → ClassId} {ad : Nat → Nat} {K : Kt} {Q : PH → Prop} {x1 : Int32} {x2 : Int32} {h : PH} (C : CX (GX D ca ad) (XS (GX D ca ad)) cX7_takeSign RX7 3 none 5 K) (hw : w_X7_takeSign_93 Q x1 x2 h) : PW (GX D ca ad) K 3 (qV Q) h 93 [some (.ref 3), some (.int x1), some (.int x2)] [] := by
  unfold w_X7_takeSign_93 at hw
  refine PW.ild1n C dX7_takeSign_93 ?_
  refine PW.bipush (v := 62) C dX7_takeSign_94 (by decide) ?_
  refine PW.icmp_ne (tgt := 125) C dX7_takeSign_96 (by decide) (fun c => ?_) (fun c => ?_)
  · rw [if_neg c] at hw
    exact PW.wk (wk_s (wk_s (wk_n wk_0))) (b_X7_takeSign_125 C hw)
  · rw [if_pos c] at hw
    refine PW.ild2n C dX7_takeSign_99 ?_
    refine PW.bipush (v := 61) C dX7_takeSign_100 (by decide) ?_
    refine PW.icmp_ne (tgt := 125) C dX7_takeSign_102 (by decide) (fun c => ?_) (fun c => ?_)
    · rw [if_neg c] at hw
      exact PW.wk (wk_s (wk_s (wk_n wk_0))) (b_X7_takeSign_125 C hw)
    · rw [if_pos c] at hw
      refine PW.ald0n C dX7_takeSign_105 ?_
      refine PW.sipush (v := 258) C dX7_takeSign_106 (by decide) ?_
      replace hw := hw _ rfl
      refine PW.put0 C cf_7 fl_X7_64 (by decide) oX_3 rfl rfl rfl (pw_sI oX_3 (by decide) rfl) dX7_takeSign_109 ?_
      refine PW.ald0n C dX7_takeSign_112 ?_
      refine PW.dup C dX7_takeSign_113 rfl ?_
      refine PW.get0 C cf_7 fl_X7_34 (by decide) oX_3 (fvI rfl) dX7_takeSign_114 ?_
      refine PW.iconst (v := 1) C dX7_takeSign_117 (by decide) ?_
      refine PW.iadd C dX7_takeSign_118 ?_
      replace hw := hw _ rfl
      refine PW.put0 C cf_7 fl_X7_34 (by decide) oX_3 rfl rfl rfl (pw_sI oX_3 (by decide) rfl) dX7_takeSign_119 ?_
      refine PW.goto (tgt := 140) C dX7_takeSign_122 (by decide) ?_
      exact PW.vret C dX7_takeSign_140 ⟨rfl, hw⟩
def w_X7_takeSign_61 (Q : PH → Prop) (x1 : Int32) (x2 : Int32) (h : PH) : Prop :=
  if x1 = 60 then (if x2 = 62 then (∀ h11, h11 = sI h 3 6 257 → ∀ h12, h12 = sI h11 3 3 ((gI h11 3 3) + 1) → Q h12) else (w_X7_takeSign_93 Q x1 x2 h)) else (w_X7_takeSign_93 Q x1 x2 h)
set_option maxRecDepth 8000 in
theorem b_X7_takeSign_61 {D : va_G} {ca : Nat → ClassId} {ad : Nat → Nat} {K : Kt} {Q : PH → Prop} {x1 : Int32} {x2 : Int32} {h : PH} (C : CX (GX D ca ad) (XS (GX D ca ad)) cX7_takeSign RX7 3 none 5 K) (hw : w_X7_takeSign_61 Q x1 x2 h) : PW (GX D ca ad) K 3 (qV Q) h 61 [some (.ref 3), some (.int x1), some (.int x2)] [] := by
  unfold w_X7_takeSign_61 at hw
  refine PW.ild1n C dX7_takeSign_61 ?_
  refine PW.bipush (v := 60) C dX7_takeSign_62 (by decide) ?_
  refine PW.icmp_ne (tgt := 93) C dX7_takeSign_64 (by decide) (fun c => ?_) (fun c => ?_)
  · rw [if_neg c] at hw
    exact PW.wk (wk_s (wk_s (wk_s wk_0))) (b_X7_takeSign_93 C hw)
  · rw [if_pos c] at hw
    refine PW.ild2n C dX7_takeSign_67 ?_
    refine PW.bipush (v := 62) C dX7_takeSign_68 (by decide) ?_
    refine PW.icmp_ne (tgt := 93) C dX7_takeSign_70 (by decide) (fun c => ?_) (fun c => ?_)
    · rw [if_neg c] at hw
      exact PW.wk (wk_s (wk_s (wk_s wk_0))) (b_X7_takeSign_93 C hw)
    · rw [if_pos c] at hw
      refine PW.ald0n C dX7_takeSign_73 ?_
      refine PW.sipush (v := 257) C dX7_takeSign_74 (by decide) ?_
      replace hw := hw _ rfl
      refine PW.put0 C cf_7 fl_X7_64 (by decide) oX_3 rfl rfl rfl (pw_sI oX_3 (by decide) rfl) dX7_takeSign_77 ?_
      refine PW.ald0n C dX7_takeSign_80 ?_
      refine PW.dup C dX7_takeSign_81 rfl ?_
      refine PW.get0 C cf_7 fl_X7_34 (by decide) oX_3 (fvI rfl) dX7_takeSign_82 ?_
      refine PW.iconst (v := 1) C dX7_takeSign_85 (by decide) ?_
      refine PW.iadd C dX7_takeSign_86 ?_
      replace hw := hw _ rfl
      refine PW.put0 C cf_7 fl_X7_34 (by decide) oX_3 rfl rfl rfl (pw_sI oX_3 (by decide) rfl) dX7_takeSign_87 ?_
      refine PW.goto (tgt := 140) C dX7_takeSign_90 (by decide) ?_
      exact PW.vret C dX7_takeSign_140 ⟨rfl, hw⟩
def w_X7_takeSign (x1 : Int32) (h : PH) (Q : PH → Prop) : Prop :=
  ∀ h1, h1 = sI h 3 4 5 → ∀ h2, h2 = sI h1 3 6 x1 → ∀ h3, h3 = sI h2 3 3 ((gI h2 3 3) + 1) → w_X7_signAt (gI h3 3 3) h3 (fun z5 h4 => if x1 = 60 then (if z5 = 61 then (∀ h13, h13 = sI h4 3 6 256 → ∀ h14, h14 = sI h13 3 3 ((gI h13 3 3) + 1) → Q h14) else (w_X7_takeSign_61 Q x1 z5 h4)) else (w_X7_takeSign_61 Q x1 z5 h4))
set_option maxRecDepth 8000 in
theorem s_X7_takeSign {D : va_G} {ca : Nat → ClassId} {ad : Nat → Nat} {l : Launch} {x1 : Int32} {h : PH} {Q : PH → Prop} (hw : w_X7_takeSign x1 h Q) : Sp (GX D ca ad) (XS (GX D ca ad)) l 5 yX7_takeSign cX7_takeSign 3 none [.ref 3, .int x1] h (qV Q) := by
  refine Sp.of (own := RX7) [some (.ref 3), some (.int x1), none] (by decide +kernel) rfl rfl (Nat.le_of_ble_eq_true rfl) (fun K hl C => ?_)
  subst hl
  unfold w_X7_takeSign at hw
  refine PW.ald0n C dX7_takeSign_0 ?_
  refine PW.iconst (v := 5) C dX7_takeSign_1 (by decide) ?_
  replace hw := hw _ rfl
  refine PW.put0 C cf_7 fl_X7_44 (by decide) oX_3 rfl rfl rfl (pw_sI oX_3 (by decide) rfl) dX7_takeSign_2 ?_
  refine PW.ald0n C dX7_takeSign_5 ?_
  refine PW.ild1n C dX7_takeSign_6 ?_
  replace hw := hw _ rfl
  refine PW.put0 C cf_7 fl_X7_64 (by decide) oX_3 rfl rfl rfl (pw_sI oX_3 (by decide) rfl) dX7_takeSign_7 ?_
  refine PW.ald0n C dX7_takeSign_10 ?_
  refine PW.dup C dX7_takeSign_11 rfl ?_
  refine PW.get0 C cf_7 fl_X7_34 (by decide) oX_3 (fvI rfl) dX7_takeSign_12 ?_
  refine PW.iconst (v := 1) C dX7_takeSign_15 (by decide) ?_
  refine PW.iadd C dX7_takeSign_16 ?_
  replace hw := hw _ rfl
  refine PW.put0 C cf_7 fl_X7_34 (by decide) oX_3 rfl rfl rfl (pw_sI oX_3 (by decide) rfl) dX7_takeSign_17 ?_
  refine PW.ald0n C dX7_takeSign_20 ?_
  refine PW.ald0n C dX7_takeSign_21 ?_
  refine PW.get0 C cf_7 fl_X7_34 (by decide) oX_3 (fvI rfl) dX7_takeSign_22 ?_
  refine PW.callVI1 C ms_X7_signAt ml_X7_37 dX7_takeSign_25 oX_3 ⟨_, _, rfl⟩ (Nat.le_of_ble_eq_true rfl) (by decide) (Nat.le_of_ble_eq_true rfl) (s_X7_signAt hw) ?_
  clear hw
  intro z5 h4 hw
  refine PW.ist2n C dX7_takeSign_28 (by decide) rfl ?_
  refine PW.ild1n C dX7_takeSign_29 ?_
  refine PW.bipush (v := 60) C dX7_takeSign_30 (by decide) ?_
  refine PW.icmp_ne (tgt := 61) C dX7_takeSign_32 (by decide) (fun c => ?_) (fun c => ?_)
  · rw [if_neg c] at hw
    exact PW.wk (wk_s (wk_s (wk_s wk_0))) (b_X7_takeSign_61 C hw)
  · rw [if_pos c] at hw
    refine PW.ild2n C dX7_takeSign_35 ?_
    refine PW.bipush (v := 61) C dX7_takeSign_36 (by decide) ?_
    refine PW.icmp_ne (tgt := 61) C dX7_takeSign_38 (by decide) (fun c => ?_) (fun c => ?_)
    · rw [if_neg c] at hw
      exact PW.wk (wk_s (wk_s (wk_s wk_0))) (b_X7_takeSign_61 C hw)
    · rw [if_pos c] at hw
      refine PW.ald0n C dX7_takeSign_41 ?_
      refine PW.sipush (v := 256) C dX7_takeSign_42 (by decide) ?_
      replace hw := hw _ rfl
      refine PW.put0 C cf_7 fl_X7_64 (by decide) oX_3 rfl rfl rfl (pw_sI oX_3 (by decide) rfl) dX7_takeSign_45 ?_
      refine PW.ald0n C dX7_takeSign_48 ?_
      refine PW.dup C dX7_takeSign_49 rfl ?_
      refine PW.get0 C cf_7 fl_X7_34 (by decide) oX_3 (fvI rfl) dX7_takeSign_50 ?_
      refine PW.iconst (v := 1) C dX7_takeSign_53 (by decide) ?_
      refine PW.iadd C dX7_takeSign_54 ?_
      replace hw := hw _ rfl
      refine PW.put0 C cf_7 fl_X7_34 (by decide) oX_3 rfl rfl rfl (pw_sI oX_3 (by decide) rfl) dX7_takeSign_55 ?_
      refine PW.goto (tgt := 140) C dX7_takeSign_58 (by decide) ?_
      exact PW.vret C dX7_takeSign_140 ⟨rfl, hw⟩
def w_X7_takeNumber_10 (k76 : PH → Prop) (Q : PH → Prop) (kb : PH → Prop) (h : PH) : Prop :=
  if (gI h 3 2) ≤ (gI h 3 3) then (k76 h) else (w_X7_signAt (gI h 3 3) h (fun z4 h3 => w_X7_isDigit z4 h3 (fun z6 h5 => if z6 = 0 then (k76 h5) else (w_X7_signAt (gI h5 3 3) h5 (fun z8 h7 => ∀ h9, h9 = sI h7 3 6 (mnI ((((gI h5 3 6) * 10) + z8) - 48) 1000000) → ∀ h10, h10 = sI h9 3 3 ((gI h9 3 3) + 1) → kb h10)))))
set_option maxRecDepth 8000 in
theorem b_X7_takeNumber_10 {D : va_G} {ca : Nat → ClassId} {ad : Nat → Nat} {K : Kt} {k76 : PH → Prop} {kb : PH → Prop} {Q : PH → Prop} {h : PH} (C : CX (GX D ca ad) (XS (GX D ca ad)) cX7_takeNumber RX7 1 none 2 K) (hk76 : ∀ (h : PH), k76 h → PW (GX D ca ad) K 1 (qV Q) h 76 [none] []) (hkb : ∀ (h : PH), kb h → PW (GX D ca ad) K 1 (qV Q) h 10 [some (.ref 3)] []) (hw : w_X7_takeNumber_10 k76 Q kb h) : PW (GX D ca ad) K 1 (qV Q) h 10 [some (.ref 3)] [] := by
  unfold w_X7_takeNumber_10 at hw
  refine PW.ald0n C dX7_takeNumber_10 ?_
  refine PW.get0 C cf_7 fl_X7_34 (by decide) oX_3 (fvI rfl) dX7_takeNumber_11 ?_
  refine PW.ald0n C dX7_takeNumber_14 ?_
  refine PW.get0 C cf_7 fl_X7_31 (by decide) oX_3 (fvI rfl) dX7_takeNumber_15 ?_
  refine PW.icmp_ge (tgt := 76) C dX7_takeNumber_18 (by decide) (fun c => ?_) (fun c => ?_)
  · rw [if_pos c] at hw
    exact PW.wk (wk_n wk_0) (hk76 _ hw)
  · rw [if_neg c] at hw
    refine PW.ald0n C dX7_takeNumber_21 ?_
    refine PW.ald0n C dX7_takeNumber_22 ?_
    refine PW.get0 C cf_7 fl_X7_34 (by decide) oX_3 (fvI rfl) dX7_takeNumber_23 ?_
    refine PW.callVI1 C ms_X7_signAt ml_X7_37 dX7_takeNumber_26 oX_3 ⟨_, _, rfl⟩ (Nat.le_of_ble_eq_true rfl) (by decide) (Nat.le_of_ble_eq_true rfl) (s_X7_signAt hw) ?_
    clear hw
    intro z4 h3 hw
    refine PW.callSI1 C ms_X7_isDigit ml_X7_54 dX7_takeNumber_29 (Nat.le_of_ble_eq_true rfl) (by decide) (Nat.le_of_ble_eq_true rfl) (s_X7_isDigit hw) ?_
    clear hw
    intro z6 h5 hw
    refine PW.if_eq (tgt := 76) C dX7_takeNumber_32 (by decide) (fun c => ?_) (fun c => ?_)
    · rw [if_pos c] at hw
      exact PW.wk (wk_n wk_0) (hk76 _ hw)
    · rw [if_neg c] at hw
      refine PW.ald0n C dX7_takeNumber_35 ?_
      refine PW.ald0n C dX7_takeNumber_36 ?_
      refine PW.get0 C cf_7 fl_X7_64 (by decide) oX_3 (fvI rfl) dX7_takeNumber_37 ?_
      refine PW.bipush (v := 10) C dX7_takeNumber_40 (by decide) ?_
      refine PW.imul C dX7_takeNumber_42 ?_
      refine PW.ald0n C dX7_takeNumber_43 ?_
      refine PW.ald0n C dX7_takeNumber_44 ?_
      refine PW.get0 C cf_7 fl_X7_34 (by decide) oX_3 (fvI rfl) dX7_takeNumber_45 ?_
      refine PW.callVI1 C ms_X7_signAt ml_X7_37 dX7_takeNumber_48 oX_3 ⟨_, _, rfl⟩ (Nat.le_of_ble_eq_true rfl) (by decide) (Nat.le_of_ble_eq_true rfl) (s_X7_signAt hw) ?_
      clear hw
      intro z8 h7 hw
      refine PW.iadd C dX7_takeNumber_51 ?_
      refine PW.bipush (v := 48) C dX7_takeNumber_52 (by decide) ?_
      refine PW.isub C dX7_takeNumber_54 ?_
      refine PW.ldc (v := 1000000) C cs_X7_67 dX7_takeNumber_55 ?_
      refine PW.mnI C ml_X7_68 (Nat.le_of_ble_eq_true rfl) (by decide) dX7_takeNumber_57 ?_
      replace hw := hw _ rfl
      refine PW.put0 C cf_7 fl_X7_64 (by decide) oX_3 rfl rfl rfl (pw_sI oX_3 (by decide) rfl) dX7_takeNumber_60 ?_
      refine PW.ald0n C dX7_takeNumber_63 ?_
      refine PW.dup C dX7_takeNumber_64 rfl ?_
      refine PW.get0 C cf_7 fl_X7_34 (by decide) oX_3 (fvI rfl) dX7_takeNumber_65 ?_
      refine PW.iconst (v := 1) C dX7_takeNumber_68 (by decide) ?_
      refine PW.iadd C dX7_takeNumber_69 ?_
      replace hw := hw _ rfl
      refine PW.put0 C cf_7 fl_X7_34 (by decide) oX_3 rfl rfl rfl (pw_sI oX_3 (by decide) rfl) dX7_takeNumber_70 ?_
      refine PW.goto (tgt := 10) C dX7_takeNumber_73 (by decide) ?_
      exact PW.wk (wk_s wk_0) (hkb _ hw)
theorem l_X7_takeNumber_10 {D : va_G} {ca : Nat → ClassId} {ad : Nat → Nat} {K : Kt} {k76 : PH → Prop} {Q : PH → Prop} (C : CX (GX D ca ad) (XS (GX D ca ad)) cX7_takeNumber RX7 1 none 2 K) (hk76 : ∀ (h : PH), k76 h → PW (GX D ca ad) K 1 (qV Q) h 76 [none] []) : ∀ (n : Nat) (h : PH), Lp0 (w_X7_takeNumber_10 k76 Q) n h → PW (GX D ca ad) K 1 (qV Q) h 10 [some (.ref 3)] [] := by
  intro n
  induction n with
  | zero => intro h hw; exact hw.elim
  | succ n ih => intro h hw; exact b_X7_takeNumber_10 C hk76 (fun h hw => ih h hw) hw
def w_X7_takeNumber (h : PH) (Q : PH → Prop) : Prop :=
  ∀ h1, h1 = sI h 3 4 2 → ∀ h2, h2 = sI h1 3 6 0 → ∃ n, Lp0 (w_X7_takeNumber_10 (fun h11 => Q h11) Q) n h2
set_option maxRecDepth 8000 in
theorem s_X7_takeNumber {D : va_G} {ca : Nat → ClassId} {ad : Nat → Nat} {l : Launch} {h : PH} {Q : PH → Prop} (hw : w_X7_takeNumber h Q) : Sp (GX D ca ad) (XS (GX D ca ad)) l 2 yX7_takeNumber cX7_takeNumber 1 none [.ref 3] h (qV Q) := by
  refine Sp.of (own := RX7) [some (.ref 3)] (by decide +kernel) rfl rfl (Nat.le_of_ble_eq_true rfl) (fun K hl C => ?_)
  subst hl
  unfold w_X7_takeNumber at hw
  refine PW.ald0n C dX7_takeNumber_0 ?_
  refine PW.iconst (v := 2) C dX7_takeNumber_1 (by decide) ?_
  replace hw := hw _ rfl
  refine PW.put0 C cf_7 fl_X7_44 (by decide) oX_3 rfl rfl rfl (pw_sI oX_3 (by decide) rfl) dX7_takeNumber_2 ?_
  refine PW.ald0n C dX7_takeNumber_5 ?_
  refine PW.iconst (v := 0) C dX7_takeNumber_6 (by decide) ?_
  replace hw := hw _ rfl
  refine PW.put0 C cf_7 fl_X7_64 (by decide) oX_3 rfl rfl rfl (pw_sI oX_3 (by decide) rfl) dX7_takeNumber_7 ?_
  obtain ⟨n, hw⟩ := hw
  refine PW.wk (wk_s wk_0) (l_X7_takeNumber_10 C ?_ n _ hw)
  · intro h11 hw
    exact PW.vret C dX7_takeNumber_76 ⟨rfl, hw⟩
def w_X7_takeWord_68 (Q : PH → Prop) (kb : PH → Prop) (h : PH) : Prop :=
  ∀ h6, h6 = sI h 3 3 ((gI h 3 3) + 1) → kb h6
set_option maxRecDepth 8000 in
theorem b_X7_takeWord_68 {D : va_G} {ca : Nat → ClassId} {ad : Nat → Nat} {K : Kt} {kb : PH → Prop} {Q : PH → Prop} {h : PH} (C : CX (GX D ca ad) (XS (GX D ca ad)) cX7_takeWord RX7 2 none 2 K) (hkb : ∀ (h : PH), kb h → PW (GX D ca ad) K 2 (qV Q) h 5 [some (.ref 3), none] []) (hw : w_X7_takeWord_68 Q kb h) : PW (GX D ca ad) K 2 (qV Q) h 68 [some (.ref 3), none] [] := by
  unfold w_X7_takeWord_68 at hw
  refine PW.ald0n C dX7_takeWord_68 ?_
  refine PW.dup C dX7_takeWord_69 rfl ?_
  refine PW.get0 C cf_7 fl_X7_34 (by decide) oX_3 (fvI rfl) dX7_takeWord_70 ?_
  refine PW.iconst (v := 1) C dX7_takeWord_73 (by decide) ?_
  refine PW.iadd C dX7_takeWord_74 ?_
  replace hw := hw _ rfl
  refine PW.put0 C cf_7 fl_X7_34 (by decide) oX_3 rfl rfl rfl (pw_sI oX_3 (by decide) rfl) dX7_takeWord_75 ?_
  refine PW.goto (tgt := 5) C dX7_takeWord_78 (by decide) ?_
  exact PW.wk (wk_s (wk_n wk_0)) (hkb _ hw)
def w_X7_takeWord_5 (k81 : PH → Prop) (Q : PH → Prop) (kb : PH → Prop) (h : PH) : Prop :=
  if (gI h 3 2) ≤ (gI h 3 3) then (k81 h) else (w_X7_signAt (gI h 3 3) h (fun z3 h2 => w_X7_isLetter z3 h2 (fun z5 h4 => if z5 = 0 then (k81 h4) else (if 6 ≤ ((gI h4 3 3) - (gI h4 3 5)) then (w_X7_takeWord_68 Q kb h4) else (w_X7_signAt (gI h4 3 3) h4 (fun z8 h7 => ∀ h9, h9 = sI h7 3 6 ((((gI h4 3 6) : Int32) <<< ((5 : Int32) &&& 31)) ||| ((z8 - 97) + 1)) → w_X7_takeWord_68 Q kb h9))))))
set_option maxRecDepth 8000 in
theorem b_X7_takeWord_5 {D : va_G} {ca : Nat → ClassId} {ad : Nat → Nat} {K : Kt} {k81 : PH → Prop} {kb : PH → Prop} {Q : PH → Prop} {h : PH} (C : CX (GX D ca ad) (XS (GX D ca ad)) cX7_takeWord RX7 2 none 2 K) (hk81 : ∀ (h : PH), k81 h → PW (GX D ca ad) K 2 (qV Q) h 81 [some (.ref 3), none] []) (hkb : ∀ (h : PH), kb h → PW (GX D ca ad) K 2 (qV Q) h 5 [some (.ref 3), none] []) (hw : w_X7_takeWord_5 k81 Q kb h) : PW (GX D ca ad) K 2 (qV Q) h 5 [some (.ref 3), none] [] := by
  unfold w_X7_takeWord_5 at hw
  refine PW.ald0n C dX7_takeWord_5 ?_
  refine PW.get0 C cf_7 fl_X7_34 (by decide) oX_3 (fvI rfl) dX7_takeWord_6 ?_
  refine PW.ald0n C dX7_takeWord_9 ?_
  refine PW.get0 C cf_7 fl_X7_31 (by decide) oX_3 (fvI rfl) dX7_takeWord_10 ?_
  refine PW.icmp_ge (tgt := 81) C dX7_takeWord_13 (by decide) (fun c => ?_) (fun c => ?_)
  · rw [if_pos c] at hw
    exact PW.wk (wk_s (wk_n wk_0)) (hk81 _ hw)
  · rw [if_neg c] at hw
    refine PW.ald0n C dX7_takeWord_16 ?_
    refine PW.ald0n C dX7_takeWord_17 ?_
    refine PW.get0 C cf_7 fl_X7_34 (by decide) oX_3 (fvI rfl) dX7_takeWord_18 ?_
    refine PW.callVI1 C ms_X7_signAt ml_X7_37 dX7_takeWord_21 oX_3 ⟨_, _, rfl⟩ (Nat.le_of_ble_eq_true rfl) (by decide) (Nat.le_of_ble_eq_true rfl) (s_X7_signAt hw) ?_
    clear hw
    intro z3 h2 hw
    refine PW.callSI1 C ms_X7_isLetter ml_X7_47 dX7_takeWord_24 (Nat.le_of_ble_eq_true rfl) (by decide) (Nat.le_of_ble_eq_true rfl) (s_X7_isLetter hw) ?_
    clear hw
    intro z5 h4 hw
    refine PW.if_eq (tgt := 81) C dX7_takeWord_27 (by decide) (fun c => ?_) (fun c => ?_)
    · rw [if_pos c] at hw
      exact PW.wk (wk_s (wk_n wk_0)) (hk81 _ hw)
    · rw [if_neg c] at hw
      refine PW.ald0n C dX7_takeWord_30 ?_
      refine PW.get0 C cf_7 fl_X7_34 (by decide) oX_3 (fvI rfl) dX7_takeWord_31 ?_
      refine PW.ald0n C dX7_takeWord_34 ?_
      refine PW.get0 C cf_7 fl_X7_41 (by decide) oX_3 (fvI rfl) dX7_takeWord_35 ?_
      refine PW.isub C dX7_takeWord_38 ?_
      refine PW.bipush (v := 6) C dX7_takeWord_39 (by decide) ?_
      refine PW.icmp_ge (tgt := 68) C dX7_takeWord_41 (by decide) (fun c => ?_) (fun c => ?_)
      · rw [if_pos c] at hw
        exact PW.wk (wk_s (wk_n wk_0)) (b_X7_takeWord_68 C hkb hw)
      · rw [if_neg c] at hw
        refine PW.ald0n C dX7_takeWord_44 ?_
        refine PW.ald0n C dX7_takeWord_45 ?_
        refine PW.get0 C cf_7 fl_X7_64 (by decide) oX_3 (fvI rfl) dX7_takeWord_46 ?_
        refine PW.iconst (v := 5) C dX7_takeWord_49 (by decide) ?_
        refine PW.ishl C dX7_takeWord_50 ?_
        refine PW.ald0n C dX7_takeWord_51 ?_
        refine PW.ald0n C dX7_takeWord_52 ?_
        refine PW.get0 C cf_7 fl_X7_34 (by decide) oX_3 (fvI rfl) dX7_takeWord_53 ?_
        refine PW.callVI1 C ms_X7_signAt ml_X7_37 dX7_takeWord_56 oX_3 ⟨_, _, rfl⟩ (Nat.le_of_ble_eq_true rfl) (by decide) (Nat.le_of_ble_eq_true rfl) (s_X7_signAt hw) ?_
        clear hw
        intro z8 h7 hw
        refine PW.bipush (v := 97) C dX7_takeWord_59 (by decide) ?_
        refine PW.isub C dX7_takeWord_61 ?_
        refine PW.iconst (v := 1) C dX7_takeWord_62 (by decide) ?_
        refine PW.iadd C dX7_takeWord_63 ?_
        refine PW.ior C dX7_takeWord_64 ?_
        replace hw := hw _ rfl
        refine PW.put0 C cf_7 fl_X7_64 (by decide) oX_3 rfl rfl rfl (pw_sI oX_3 (by decide) rfl) dX7_takeWord_65 ?_
        exact PW.wk (wk_s (wk_n wk_0)) (b_X7_takeWord_68 C hkb hw)
theorem l_X7_takeWord_5 {D : va_G} {ca : Nat → ClassId} {ad : Nat → Nat} {K : Kt} {k81 : PH → Prop} {Q : PH → Prop} (C : CX (GX D ca ad) (XS (GX D ca ad)) cX7_takeWord RX7 2 none 2 K) (hk81 : ∀ (h : PH), k81 h → PW (GX D ca ad) K 2 (qV Q) h 81 [some (.ref 3), none] []) : ∀ (n : Nat) (h : PH), Lp0 (w_X7_takeWord_5 k81 Q) n h → PW (GX D ca ad) K 2 (qV Q) h 5 [some (.ref 3), none] [] := by
  intro n
  induction n with
  | zero => intro h hw; exact hw.elim
  | succ n ih => intro h hw; exact b_X7_takeWord_5 C hk81 (fun h hw => ih h hw) hw
def w_X7_takeWord_131 (k174 : PH → Prop) (Q : PH → Prop) (kb : Int32 → PH → Prop) (x1 : Int32) (h : PH) : Prop :=
  if 24 ≤ x1 then (k174 h) else (if (gI h 3 4) = 3 then (vp_in x1 24 ∧ if (gI h 4 (iN x1)) = (gI h 3 6) then (∀ h14, h14 = sI h 3 4 4 → ∀ h15, h15 = sI h14 3 6 x1 → kb (x1 + 1) h15) else (kb (x1 + 1) h)) else (kb (x1 + 1) h))
set_option maxRecDepth 8000 in
theorem b_X7_takeWord_131 {D : va_G} {ca : Nat → ClassId} {ad : Nat → Nat} {K : Kt} {k174 : PH → Prop} {kb : Int32 → PH → Prop} {Q : PH → Prop} {x1 : Int32} {h : PH} (C : CX (GX D ca ad) (XS (GX D ca ad)) cX7_takeWord RX7 2 none 2 K) (hk174 : ∀ (h : PH), k174 h → PW (GX D ca ad) K 2 (qV Q) h 174 [none, none] []) (hkb : ∀ (x1 : Int32) (h : PH), kb x1 h → PW (GX D ca ad) K 2 (qV Q) h 131 [some (.ref 3), some (.int x1)] []) (hw : w_X7_takeWord_131 k174 Q kb x1 h) : PW (GX D ca ad) K 2 (qV Q) h 131 [some (.ref 3), some (.int x1)] [] := by
  unfold w_X7_takeWord_131 at hw
  refine PW.ild1n C dX7_takeWord_131 ?_
  refine PW.bipush (v := 24) C dX7_takeWord_132 (by decide) ?_
  refine PW.icmp_ge (tgt := 174) C dX7_takeWord_134 (by decide) (fun c => ?_) (fun c => ?_)
  · rw [if_pos c] at hw
    exact PW.wk (wk_n (wk_n wk_0)) (hk174 _ hw)
  · rw [if_neg c] at hw
    refine PW.ald0n C dX7_takeWord_137 ?_
    refine PW.get0 C cf_7 fl_X7_44 (by decide) oX_3 (fvI rfl) dX7_takeWord_138 ?_
    refine PW.iconst (v := 3) C dX7_takeWord_141 (by decide) ?_
    refine PW.icmp_ne (tgt := 168) C dX7_takeWord_142 (by decide) (fun c => ?_) (fun c => ?_)
    · rw [if_neg c] at hw
      refine PW.inc1 (v := 1) C dX7_takeWord_168 (by decide) rfl (by decide) ?_
      refine PW.goto (tgt := 131) C dX7_takeWord_171 (by decide) ?_
      exact PW.wk (wk_s (wk_s wk_0)) (hkb _ _ hw)
    · rw [if_pos c] at hw
      refine PW.ald0n C dX7_takeWord_145 ?_
      refine PW.get0 (v := .ref 4) C cf_7 fl_X7_11 (by decide) oX_3 (fvR (o := 1) rfl) dX7_takeWord_146 ?_
      refine PW.ild1n C dX7_takeWord_149 ?_
      obtain ⟨hc13, hw⟩ := hw
      refine PW.iald C dX7_takeWord_150 aX_4 hc13 ?_
      refine PW.ald0n C dX7_takeWord_151 ?_
      refine PW.get0 C cf_7 fl_X7_64 (by decide) oX_3 (fvI rfl) dX7_takeWord_152 ?_
      refine PW.icmp_ne (tgt := 168) C dX7_takeWord_155 (by decide) (fun c => ?_) (fun c => ?_)
      · rw [if_neg c] at hw
        refine PW.inc1 (v := 1) C dX7_takeWord_168 (by decide) rfl (by decide) ?_
        refine PW.goto (tgt := 131) C dX7_takeWord_171 (by decide) ?_
        exact PW.wk (wk_s (wk_s wk_0)) (hkb _ _ hw)
      · rw [if_pos c] at hw
        refine PW.ald0n C dX7_takeWord_158 ?_
        refine PW.iconst (v := 4) C dX7_takeWord_159 (by decide) ?_
        replace hw := hw _ rfl
        refine PW.put0 C cf_7 fl_X7_44 (by decide) oX_3 rfl rfl rfl (pw_sI oX_3 (by decide) rfl) dX7_takeWord_160 ?_
        refine PW.ald0n C dX7_takeWord_163 ?_
        refine PW.ild1n C dX7_takeWord_164 ?_
        replace hw := hw _ rfl
        refine PW.put0 C cf_7 fl_X7_64 (by decide) oX_3 rfl rfl rfl (pw_sI oX_3 (by decide) rfl) dX7_takeWord_165 ?_
        refine PW.inc1 (v := 1) C dX7_takeWord_168 (by decide) rfl (by decide) ?_
        refine PW.goto (tgt := 131) C dX7_takeWord_171 (by decide) ?_
        exact PW.wk (wk_s (wk_s wk_0)) (hkb _ _ hw)
theorem l_X7_takeWord_131 {D : va_G} {ca : Nat → ClassId} {ad : Nat → Nat} {K : Kt} {k174 : PH → Prop} {Q : PH → Prop} (C : CX (GX D ca ad) (XS (GX D ca ad)) cX7_takeWord RX7 2 none 2 K) (hk174 : ∀ (h : PH), k174 h → PW (GX D ca ad) K 2 (qV Q) h 174 [none, none] []) : ∀ (n : Nat) (x1 : Int32) (h : PH), Lp1 (w_X7_takeWord_131 k174 Q) n x1 h → PW (GX D ca ad) K 2 (qV Q) h 131 [some (.ref 3), some (.int x1)] [] := by
  intro n
  induction n with
  | zero => intro x1 h hw; exact hw.elim
  | succ n ih => intro x1 h hw; exact b_X7_takeWord_131 C hk174 (fun x1 h hw => ih x1 h hw) hw
def w_X7_takeWord_81 (Q : PH → Prop) (h : PH) : Prop :=
  if ((gI h 3 3) - (gI h 3 5)) ≤ 6 then (∀ h11, h11 = sI h 3 6 (((gI h 3 6) : Int32) <<< (((5 * (6 - ((gI h 3 3) - (gI h 3 5)))) : Int32) &&& 31)) → ∀ h12, h12 = sI h11 3 4 3 → ∃ n, Lp1 (w_X7_takeWord_131 (fun h16 => Q h16) Q) n 0 h12) else (∀ h17, h17 = sI h 3 4 1 → Q h17)
set_option maxRecDepth 8000 in
theorem b_X7_takeWord_81 {D : va_G} {ca : Nat → ClassId} {ad : Nat → Nat} {K : Kt} {Q : PH → Prop} {h : PH} (C : CX (GX D ca ad) (XS (GX D ca ad)) cX7_takeWord RX7 2 none 2 K) (hw : w_X7_takeWord_81 Q h) : PW (GX D ca ad) K 2 (qV Q) h 81 [some (.ref 3), none] [] := by
  unfold w_X7_takeWord_81 at hw
  refine PW.ald0n C dX7_takeWord_81 ?_
  refine PW.get0 C cf_7 fl_X7_34 (by decide) oX_3 (fvI rfl) dX7_takeWord_82 ?_
  refine PW.ald0n C dX7_takeWord_85 ?_
  refine PW.get0 C cf_7 fl_X7_41 (by decide) oX_3 (fvI rfl) dX7_takeWord_86 ?_
  refine PW.isub C dX7_takeWord_89 ?_
  refine PW.bipush (v := 6) C dX7_takeWord_90 (by decide) ?_
  refine PW.icmp_le (tgt := 101) C dX7_takeWord_92 (by decide) (fun c => ?_) (fun c => ?_)
  · rw [if_pos c] at hw
    refine PW.ald0n C dX7_takeWord_101 ?_
    refine PW.dup C dX7_takeWord_102 rfl ?_
    refine PW.get0 C cf_7 fl_X7_64 (by decide) oX_3 (fvI rfl) dX7_takeWord_103 ?_
    refine PW.iconst (v := 5) C dX7_takeWord_106 (by decide) ?_
    refine PW.bipush (v := 6) C dX7_takeWord_107 (by decide) ?_
    refine PW.ald0n C dX7_takeWord_109 ?_
    refine PW.get0 C cf_7 fl_X7_34 (by decide) oX_3 (fvI rfl) dX7_takeWord_110 ?_
    refine PW.ald0n C dX7_takeWord_113 ?_
    refine PW.get0 C cf_7 fl_X7_41 (by decide) oX_3 (fvI rfl) dX7_takeWord_114 ?_
    refine PW.isub C dX7_takeWord_117 ?_
    refine PW.isub C dX7_takeWord_118 ?_
    refine PW.imul C dX7_takeWord_119 ?_
    refine PW.ishl C dX7_takeWord_120 ?_
    replace hw := hw _ rfl
    refine PW.put0 C cf_7 fl_X7_64 (by decide) oX_3 rfl rfl rfl (pw_sI oX_3 (by decide) rfl) dX7_takeWord_121 ?_
    refine PW.ald0n C dX7_takeWord_124 ?_
    refine PW.iconst (v := 3) C dX7_takeWord_125 (by decide) ?_
    replace hw := hw _ rfl
    refine PW.put0 C cf_7 fl_X7_44 (by decide) oX_3 rfl rfl rfl (pw_sI oX_3 (by decide) rfl) dX7_takeWord_126 ?_
    refine PW.iconst (v := 0) C dX7_takeWord_129 (by decide) ?_
    refine PW.ist1n C dX7_takeWord_130 (by decide) rfl ?_
    obtain ⟨n, hw⟩ := hw
    refine PW.wk (wk_s (wk_s wk_0)) (l_X7_takeWord_131 C ?_ n _ _ hw)
    · intro h16 hw
      exact PW.vret C dX7_takeWord_174 ⟨rfl, hw⟩
  · rw [if_neg c] at hw
    refine PW.ald0n C dX7_takeWord_95 ?_
    refine PW.iconst (v := 1) C dX7_takeWord_96 (by decide) ?_
    replace hw := hw _ rfl
    refine PW.put0 C cf_7 fl_X7_44 (by decide) oX_3 rfl rfl rfl (pw_sI oX_3 (by decide) rfl) dX7_takeWord_97 ?_
    exact PW.vret C dX7_takeWord_100 ⟨rfl, hw⟩
def w_X7_takeWord (h : PH) (Q : PH → Prop) : Prop :=
  ∀ h1, h1 = sI h 3 6 0 → ∃ n, Lp0 (w_X7_takeWord_5 (fun h10 => w_X7_takeWord_81 Q h10) Q) n h1
set_option maxRecDepth 8000 in
theorem s_X7_takeWord {D : va_G} {ca : Nat → ClassId} {ad : Nat → Nat} {l : Launch} {h : PH} {Q : PH → Prop} (hw : w_X7_takeWord h Q) : Sp (GX D ca ad) (XS (GX D ca ad)) l 2 yX7_takeWord cX7_takeWord 2 none [.ref 3] h (qV Q) := by
  refine Sp.of (own := RX7) [some (.ref 3), none] (by decide +kernel) rfl rfl (Nat.le_of_ble_eq_true rfl) (fun K hl C => ?_)
  subst hl
  unfold w_X7_takeWord at hw
  refine PW.ald0n C dX7_takeWord_0 ?_
  refine PW.iconst (v := 0) C dX7_takeWord_1 (by decide) ?_
  replace hw := hw _ rfl
  refine PW.put0 C cf_7 fl_X7_64 (by decide) oX_3 rfl rfl rfl (pw_sI oX_3 (by decide) rfl) dX7_takeWord_2 ?_
  obtain ⟨n, hw⟩ := hw
  refine PW.wk (wk_s (wk_n wk_0)) (l_X7_takeWord_5 C ?_ n _ hw)
  · intro h10 hw
    exact PW.wk (wk_s (wk_n wk_0)) (b_X7_takeWord_81 C hw)
def w_X7_advance_37 (Q : PH → Prop) (kb : PH → Prop) (h : PH) : Prop :=
  ∀ h3, h3 = sI h 3 3 ((gI h 3 3) + 1) → kb h3
set_option maxRecDepth 8000 in
theorem b_X7_advance_37 {D : va_G} {ca : Nat → ClassId} {ad : Nat → Nat} {K : Kt} {kb : PH → Prop} {Q : PH → Prop} {h : PH} (C : CX (GX D ca ad) (XS (GX D ca ad)) cX7_advance RX7 2 none 6 K) (hkb : ∀ (h : PH), kb h → PW (GX D ca ad) K 2 (qV Q) h 0 [some (.ref 3), none] []) (hw : w_X7_advance_37 Q kb h) : PW (GX D ca ad) K 2 (qV Q) h 37 [some (.ref 3), none] [] := by
  unfold w_X7_advance_37 at hw
  refine PW.ald0n C dX7_advance_37 ?_
  refine PW.dup C dX7_advance_38 rfl ?_
  refine PW.get0 C cf_7 fl_X7_34 (by decide) oX_3 (fvI rfl) dX7_advance_39 ?_
  refine PW.iconst (v := 1) C dX7_advance_42 (by decide) ?_
  refine PW.iadd C dX7_advance_43 ?_
  replace hw := hw _ rfl
  refine PW.put0 C cf_7 fl_X7_34 (by decide) oX_3 rfl rfl rfl (pw_sI oX_3 (by decide) rfl) dX7_advance_44 ?_
  refine PW.goto (tgt := 0) C dX7_advance_47 (by decide) ?_
  exact PW.wk (wk_s (wk_n wk_0)) (hkb _ hw)
def w_X7_advance_0 (k50 : PH → Prop) (Q : PH → Prop) (kb : PH → Prop) (h : PH) : Prop :=
  if (gI h 3 2) ≤ (gI h 3 3) then (k50 h) else (w_X7_signAt (gI h 3 3) h (fun z2 h1 => if z2 = 10 then (w_X7_advance_37 Q kb h1) else (w_X7_signAt (gI h1 3 3) h1 (fun z5 h4 => if z5 = 32 then (w_X7_advance_37 Q kb h4) else (k50 h4)))))
set_option maxRecDepth 8000 in
theorem b_X7_advance_0 {D : va_G} {ca : Nat → ClassId} {ad : Nat → Nat} {K : Kt} {k50 : PH → Prop} {kb : PH → Prop} {Q : PH → Prop} {h : PH} (C : CX (GX D ca ad) (XS (GX D ca ad)) cX7_advance RX7 2 none 6 K) (hk50 : ∀ (h : PH), k50 h → PW (GX D ca ad) K 2 (qV Q) h 50 [some (.ref 3), none] []) (hkb : ∀ (h : PH), kb h → PW (GX D ca ad) K 2 (qV Q) h 0 [some (.ref 3), none] []) (hw : w_X7_advance_0 k50 Q kb h) : PW (GX D ca ad) K 2 (qV Q) h 0 [some (.ref 3), none] [] := by
  unfold w_X7_advance_0 at hw
  refine PW.ald0n C dX7_advance_0 ?_
  refine PW.get0 C cf_7 fl_X7_34 (by decide) oX_3 (fvI rfl) dX7_advance_1 ?_
  refine PW.ald0n C dX7_advance_4 ?_
  refine PW.get0 C cf_7 fl_X7_31 (by decide) oX_3 (fvI rfl) dX7_advance_5 ?_
  refine PW.icmp_ge (tgt := 50) C dX7_advance_8 (by decide) (fun c => ?_) (fun c => ?_)
  · rw [if_pos c] at hw
    exact PW.wk (wk_s (wk_n wk_0)) (hk50 _ hw)
  · rw [if_neg c] at hw
    refine PW.ald0n C dX7_advance_11 ?_
    refine PW.ald0n C dX7_advance_12 ?_
    refine PW.get0 C cf_7 fl_X7_34 (by decide) oX_3 (fvI rfl) dX7_advance_13 ?_
    refine PW.callVI1 C ms_X7_signAt ml_X7_37 dX7_advance_16 oX_3 ⟨_, _, rfl⟩ (Nat.le_of_ble_eq_true rfl) (by decide) (Nat.le_of_ble_eq_true rfl) (s_X7_signAt hw) ?_
    clear hw
    intro z2 h1 hw
    refine PW.bipush (v := 10) C dX7_advance_19 (by decide) ?_
    refine PW.icmp_eq (tgt := 37) C dX7_advance_21 (by decide) (fun c => ?_) (fun c => ?_)
    · rw [if_pos c] at hw
      exact PW.wk (wk_s (wk_n wk_0)) (b_X7_advance_37 C hkb hw)
    · rw [if_neg c] at hw
      refine PW.ald0n C dX7_advance_24 ?_
      refine PW.ald0n C dX7_advance_25 ?_
      refine PW.get0 C cf_7 fl_X7_34 (by decide) oX_3 (fvI rfl) dX7_advance_26 ?_
      refine PW.callVI1 C ms_X7_signAt ml_X7_37 dX7_advance_29 oX_3 ⟨_, _, rfl⟩ (Nat.le_of_ble_eq_true rfl) (by decide) (Nat.le_of_ble_eq_true rfl) (s_X7_signAt hw) ?_
      clear hw
      intro z5 h4 hw
      refine PW.bipush (v := 32) C dX7_advance_32 (by decide) ?_
      refine PW.icmp_ne (tgt := 50) C dX7_advance_34 (by decide) (fun c => ?_) (fun c => ?_)
      · rw [if_neg c] at hw
        exact PW.wk (wk_s (wk_n wk_0)) (hk50 _ hw)
      · rw [if_pos c] at hw
        exact PW.wk (wk_s (wk_n wk_0)) (b_X7_advance_37 C hkb hw)
theorem l_X7_advance_0 {D : va_G} {ca : Nat → ClassId} {ad : Nat → Nat} {K : Kt} {k50 : PH → Prop} {Q : PH → Prop} (C : CX (GX D ca ad) (XS (GX D ca ad)) cX7_advance RX7 2 none 6 K) (hk50 : ∀ (h : PH), k50 h → PW (GX D ca ad) K 2 (qV Q) h 50 [some (.ref 3), none] []) : ∀ (n : Nat) (h : PH), Lp0 (w_X7_advance_0 k50 Q) n h → PW (GX D ca ad) K 2 (qV Q) h 0 [some (.ref 3), none] [] := by
  intro n
  induction n with
  | zero => intro h hw; exact hw.elim
  | succ n ih => intro h hw; exact b_X7_advance_0 C hk50 (fun h hw => ih h hw) hw
def w_X7_advance_50 (Q : PH → Prop) (h : PH) : Prop :=
  ∀ h7, h7 = sI h 3 5 (gI h 3 3) → w_X7_signAt (gI h7 3 3) h7 (fun z9 h8 => if (gI h8 3 3) < (gI h8 3 2) then (w_X7_isLetter z9 h8 (fun z11 h10 => if z11 = 0 then (w_X7_isDigit z9 h10 (fun z13 h12 => if z13 = 0 then (w_X7_takeSign z9 h12 (fun h14 => Q h14)) else (w_X7_takeNumber h12 (fun h15 => Q h15)))) else (w_X7_takeWord h10 (fun h16 => Q h16)))) else (∀ h17, h17 = sI h8 3 4 0 → Q h17))
set_option maxRecDepth 8000 in
theorem b_X7_advance_50 {D : va_G} {ca : Nat → ClassId} {ad : Nat → Nat} {K : Kt} {Q : PH → Prop} {h : PH} (C : CX (GX D ca ad) (XS (GX D ca ad)) cX7_advance RX7 2 none 6 K) (hw : w_X7_advance_50 Q h) : PW (GX D ca ad) K 2 (qV Q) h 50 [some (.ref 3), none] [] := by
  unfold w_X7_advance_50 at hw
  refine PW.ald0n C dX7_advance_50 ?_
  refine PW.ald0n C dX7_advance_51 ?_
  refine PW.get0 C cf_7 fl_X7_34 (by decide) oX_3 (fvI rfl) dX7_advance_52 ?_
  replace hw := hw _ rfl
  refine PW.put0 C cf_7 fl_X7_41 (by decide) oX_3 rfl rfl rfl (pw_sI oX_3 (by decide) rfl) dX7_advance_55 ?_
  refine PW.ald0n C dX7_advance_58 ?_
  refine PW.ald0n C dX7_advance_59 ?_
  refine PW.get0 C cf_7 fl_X7_34 (by decide) oX_3 (fvI rfl) dX7_advance_60 ?_
  refine PW.callVI1 C ms_X7_signAt ml_X7_37 dX7_advance_63 oX_3 ⟨_, _, rfl⟩ (Nat.le_of_ble_eq_true rfl) (by decide) (Nat.le_of_ble_eq_true rfl) (s_X7_signAt hw) ?_
  clear hw
  intro z9 h8 hw
  refine PW.ist1n C dX7_advance_66 (by decide) rfl ?_
  refine PW.ald0n C dX7_advance_67 ?_
  refine PW.get0 C cf_7 fl_X7_34 (by decide) oX_3 (fvI rfl) dX7_advance_68 ?_
  refine PW.ald0n C dX7_advance_71 ?_
  refine PW.get0 C cf_7 fl_X7_31 (by decide) oX_3 (fvI rfl) dX7_advance_72 ?_
  refine PW.icmp_lt (tgt := 86) C dX7_advance_75 (by decide) (fun c => ?_) (fun c => ?_)
  · rw [if_pos c] at hw
    refine PW.ild1n C dX7_advance_86 ?_
    refine PW.callSI1 C ms_X7_isLetter ml_X7_47 dX7_advance_87 (Nat.le_of_ble_eq_true rfl) (by decide) (Nat.le_of_ble_eq_true rfl) (s_X7_isLetter hw) ?_
    clear hw
    intro z11 h10 hw
    refine PW.if_eq (tgt := 100) C dX7_advance_90 (by decide) (fun c => ?_) (fun c => ?_)
    · rw [if_pos c] at hw
      refine PW.ild1n C dX7_advance_100 ?_
      refine PW.callSI1 C ms_X7_isDigit ml_X7_54 dX7_advance_101 (Nat.le_of_ble_eq_true rfl) (by decide) (Nat.le_of_ble_eq_true rfl) (s_X7_isDigit hw) ?_
      clear hw
      intro z13 h12 hw
      refine PW.if_eq (tgt := 114) C dX7_advance_104 (by decide) (fun c => ?_) (fun c => ?_)
      · rw [if_pos c] at hw
        refine PW.ald0n C dX7_advance_114 ?_
        refine PW.ild1n C dX7_advance_115 ?_
        refine PW.callVV1 C ms_X7_takeSign ml_X7_60 dX7_advance_116 oX_3 ⟨_, _, rfl⟩ (Nat.le_of_ble_eq_true rfl) (by decide) (Nat.le_of_ble_eq_true rfl) (s_X7_takeSign hw) ?_
        clear hw
        intro h14 hw
        exact PW.vret C dX7_advance_119 ⟨rfl, hw⟩
      · rw [if_neg c] at hw
        refine PW.ald0n C dX7_advance_107 ?_
        refine PW.callVV0 C ms_X7_takeNumber ml_X7_57 dX7_advance_108 oX_3 ⟨_, _, rfl⟩ (Nat.le_of_ble_eq_true rfl) (by decide) (Nat.le_of_ble_eq_true rfl) (s_X7_takeNumber hw) ?_
        clear hw
        intro h15 hw
        refine PW.goto (tgt := 119) C dX7_advance_111 (by decide) ?_
        exact PW.vret C dX7_advance_119 ⟨rfl, hw⟩
    · rw [if_neg c] at hw
      refine PW.ald0n C dX7_advance_93 ?_
      refine PW.callVV0 C ms_X7_takeWord ml_X7_51 dX7_advance_94 oX_3 ⟨_, _, rfl⟩ (Nat.le_of_ble_eq_true rfl) (by decide) (Nat.le_of_ble_eq_true rfl) (s_X7_takeWord hw) ?_
      clear hw
      intro h16 hw
      refine PW.goto (tgt := 119) C dX7_advance_97 (by decide) ?_
      exact PW.vret C dX7_advance_119 ⟨rfl, hw⟩
  · rw [if_neg c] at hw
    refine PW.ald0n C dX7_advance_78 ?_
    refine PW.iconst (v := 0) C dX7_advance_79 (by decide) ?_
    replace hw := hw _ rfl
    refine PW.put0 C cf_7 fl_X7_44 (by decide) oX_3 rfl rfl rfl (pw_sI oX_3 (by decide) rfl) dX7_advance_80 ?_
    refine PW.goto (tgt := 119) C dX7_advance_83 (by decide) ?_
    exact PW.vret C dX7_advance_119 ⟨rfl, hw⟩
def w_X7_advance (h : PH) (Q : PH → Prop) : Prop :=
  ∃ n, Lp0 (w_X7_advance_0 (fun h6 => w_X7_advance_50 Q h6) Q) n h
set_option maxRecDepth 8000 in
theorem s_X7_advance {D : va_G} {ca : Nat → ClassId} {ad : Nat → Nat} {l : Launch} {h : PH} {Q : PH → Prop} (hw : w_X7_advance h Q) : Sp (GX D ca ad) (XS (GX D ca ad)) l 6 yX7_advance cX7_advance 2 none [.ref 3] h (qV Q) := by
  refine Sp.of (own := RX7) [some (.ref 3), none] (by decide +kernel) rfl rfl (Nat.le_of_ble_eq_true rfl) (fun K hl C => ?_)
  subst hl
  unfold w_X7_advance at hw
  obtain ⟨n, hw⟩ := hw
  refine PW.wk (wk_s (wk_n wk_0)) (l_X7_advance_0 C ?_ n _ hw)
  · intro h6 hw
    exact PW.wk (wk_s (wk_n wk_0)) (b_X7_advance_50 C hw)
def w_X7_isWord (x1 : Int32) (h : PH) (Q : Int32 → PH → Prop) : Prop :=
  if (gI h 3 4) = 4 then (if (gI h 3 6) = x1 then (Q 1 h) else (Q 0 h)) else (Q 0 h)
set_option maxRecDepth 8000 in
theorem s_X7_isWord {D : va_G} {ca : Nat → ClassId} {ad : Nat → Nat} {l : Launch} {x1 : Int32} {h : PH} {Q : Int32 → PH → Prop} (hw : w_X7_isWord x1 h Q) : Sp (GX D ca ad) (XS (GX D ca ad)) l 1 yX7_isWord cX7_isWord 2 (some .boolean) [.ref 3, .int x1] h (qI Q) := by
  refine Sp.of (own := RX7) [some (.ref 3), some (.int x1)] (by decide +kernel) rfl rfl (Nat.le_of_ble_eq_true rfl) (fun K hl C => ?_)
  subst hl
  unfold w_X7_isWord at hw
  refine PW.ald0n C dX7_isWord_0 ?_
  refine PW.get0 C cf_7 fl_X7_44 (by decide) oX_3 (fvI rfl) dX7_isWord_1 ?_
  refine PW.iconst (v := 4) C dX7_isWord_4 (by decide) ?_
  refine PW.icmp_ne (tgt := 20) C dX7_isWord_5 (by decide) (fun c => ?_) (fun c => ?_)
  · rw [if_neg c] at hw
    refine PW.iconst (v := 0) C dX7_isWord_20 (by decide) ?_
    exact PW.zret C dX7_isWord_21 (by decide) ⟨_, rfl, hw⟩
  · rw [if_pos c] at hw
    refine PW.ald0n C dX7_isWord_8 ?_
    refine PW.get0 C cf_7 fl_X7_64 (by decide) oX_3 (fvI rfl) dX7_isWord_9 ?_
    refine PW.ild1n C dX7_isWord_12 ?_
    refine PW.icmp_ne (tgt := 20) C dX7_isWord_13 (by decide) (fun c => ?_) (fun c => ?_)
    · rw [if_neg c] at hw
      refine PW.iconst (v := 0) C dX7_isWord_20 (by decide) ?_
      exact PW.zret C dX7_isWord_21 (by decide) ⟨_, rfl, hw⟩
    · rw [if_pos c] at hw
      refine PW.iconst (v := 1) C dX7_isWord_16 (by decide) ?_
      refine PW.goto (tgt := 21) C dX7_isWord_17 (by decide) ?_
      exact PW.zret C dX7_isWord_21 (by decide) ⟨_, rfl, hw⟩
def w_X7_isSign (x1 : Int32) (h : PH) (Q : Int32 → PH → Prop) : Prop :=
  if (gI h 3 4) = 5 then (if (gI h 3 6) = x1 then (Q 1 h) else (Q 0 h)) else (Q 0 h)
set_option maxRecDepth 8000 in
theorem s_X7_isSign {D : va_G} {ca : Nat → ClassId} {ad : Nat → Nat} {l : Launch} {x1 : Int32} {h : PH} {Q : Int32 → PH → Prop} (hw : w_X7_isSign x1 h Q) : Sp (GX D ca ad) (XS (GX D ca ad)) l 1 yX7_isSign cX7_isSign 2 (some .boolean) [.ref 3, .int x1] h (qI Q) := by
  refine Sp.of (own := RX7) [some (.ref 3), some (.int x1)] (by decide +kernel) rfl rfl (Nat.le_of_ble_eq_true rfl) (fun K hl C => ?_)
  subst hl
  unfold w_X7_isSign at hw
  refine PW.ald0n C dX7_isSign_0 ?_
  refine PW.get0 C cf_7 fl_X7_44 (by decide) oX_3 (fvI rfl) dX7_isSign_1 ?_
  refine PW.iconst (v := 5) C dX7_isSign_4 (by decide) ?_
  refine PW.icmp_ne (tgt := 20) C dX7_isSign_5 (by decide) (fun c => ?_) (fun c => ?_)
  · rw [if_neg c] at hw
    refine PW.iconst (v := 0) C dX7_isSign_20 (by decide) ?_
    exact PW.zret C dX7_isSign_21 (by decide) ⟨_, rfl, hw⟩
  · rw [if_pos c] at hw
    refine PW.ald0n C dX7_isSign_8 ?_
    refine PW.get0 C cf_7 fl_X7_64 (by decide) oX_3 (fvI rfl) dX7_isSign_9 ?_
    refine PW.ild1n C dX7_isSign_12 ?_
    refine PW.icmp_ne (tgt := 20) C dX7_isSign_13 (by decide) (fun c => ?_) (fun c => ?_)
    · rw [if_neg c] at hw
      refine PW.iconst (v := 0) C dX7_isSign_20 (by decide) ?_
      exact PW.zret C dX7_isSign_21 (by decide) ⟨_, rfl, hw⟩
    · rw [if_pos c] at hw
      refine PW.iconst (v := 1) C dX7_isSign_16 (by decide) ?_
      refine PW.goto (tgt := 21) C dX7_isSign_17 (by decide) ?_
      exact PW.zret C dX7_isSign_21 (by decide) ⟨_, rfl, hw⟩
def w_X5_refuse (x1 : Int32) (h : PH) (Q : Int32 → PH → Prop) : Prop :=
  ∀ h1, h1 = sI h 2 8 x1 → ∀ h2, h2 = sI h1 2 9 (gI h1 3 5) → Q 0 h2
set_option maxRecDepth 8000 in
theorem s_X5_refuse {D : va_G} {ca : Nat → ClassId} {ad : Nat → Nat} {l : Launch} {x1 : Int32} {h : PH} {Q : Int32 → PH → Prop} (hw : w_X5_refuse x1 h Q) : Sp (GX D ca ad) (XS (GX D ca ad)) l 1 yX5_refuse cX5_refuse 2 (some .boolean) [.ref 2, .int x1] h (qI Q) := by
  refine Sp.of (own := RX5) [some (.ref 2), some (.int x1)] (by decide +kernel) rfl rfl (Nat.le_of_ble_eq_true rfl) (fun K hl C => ?_)
  subst hl
  unfold w_X5_refuse at hw
  refine PW.ald0n C dX5_refuse_0 ?_
  refine PW.ild1n C dX5_refuse_1 ?_
  replace hw := hw _ rfl
  refine PW.put0 C cf_5 fl_X5_48 (by decide) oX_2 rfl rfl rfl (pw_sI oX_2 (by decide) rfl) dX5_refuse_2 ?_
  refine PW.ald0n C dX5_refuse_5 ?_
  refine PW.ald0n C dX5_refuse_6 ?_
  refine PW.get0 (v := .ref 3) C cf_5 fl_X5_12 (by decide) oX_2 (fvR (o := 1) rfl) dX5_refuse_7 ?_
  refine PW.getN0 C cf_7 fl_X5_74 (by decide) oX_3 (fvI rfl) dX5_refuse_10 ?_
  replace hw := hw _ rfl
  refine PW.put0 C cf_5 fl_X5_28 (by decide) oX_2 rfl rfl rfl (pw_sI oX_2 (by decide) rfl) dX5_refuse_13 ?_
  refine PW.iconst (v := 0) C dX5_refuse_16 (by decide) ?_
  exact PW.zret C dX5_refuse_17 (by decide) ⟨_, rfl, hw⟩
def w_X5_hasRoom (r1 : Nat) (x2 : Int32) (h : PH) (Q : Int32 → PH → Prop) : Prop :=
  if (gI h r1 3) < x2 then (Q 1 h) else (w_X5_refuse 2 h (fun z2 h1 => if z2 = 0 then (Q 0 h1) else (Q 1 h1)))
set_option maxRecDepth 8000 in
theorem s_X5_hasRoom {D : va_G} {ca : Nat → ClassId} {ad : Nat → Nat} {l : Launch} {r1 : Nat} {x2 : Int32} {h : PH} {Q : Int32 → PH → Prop} (hr1 : oX r1 6) (hw : w_X5_hasRoom r1 x2 h Q) : Sp (GX D ca ad) (XS (GX D ca ad)) l 2 yX5_hasRoom cX5_hasRoom 3 (some .boolean) [.ref 2, .ref r1, .int x2] h (qI Q) := by
  refine Sp.of (own := RX5) [some (.ref 2), some (.ref r1), some (.int x2)] (by decide +kernel) rfl rfl (Nat.le_of_ble_eq_true rfl) (fun K hl C => ?_)
  subst hl
  unfold w_X5_hasRoom at hw
  refine PW.ald1n C dX5_hasRoom_0 ?_
  refine PW.getN0 C cf_6 fl_X5_129 (by decide) hr1 (fvI rfl) dX5_hasRoom_1 ?_
  refine PW.ild2n C dX5_hasRoom_4 ?_
  refine PW.icmp_lt (tgt := 16) C dX5_hasRoom_5 (by decide) (fun c => ?_) (fun c => ?_)
  · rw [if_pos c] at hw
    refine PW.iconst (v := 1) C dX5_hasRoom_16 (by decide) ?_
    refine PW.goto (tgt := 21) C dX5_hasRoom_17 (by decide) ?_
    exact PW.zret C dX5_hasRoom_21 (by decide) ⟨_, rfl, hw⟩
  · rw [if_neg c] at hw
    refine PW.ald0n C dX5_hasRoom_8 ?_
    refine PW.iconst (v := 2) C dX5_hasRoom_9 (by decide) ?_
    refine PW.callVI1 C ms_X5_refuse ml_X5_70 dX5_hasRoom_10 oX_2 ⟨_, _, rfl⟩ (Nat.le_of_ble_eq_true rfl) (by decide) (Nat.le_of_ble_eq_true rfl) (s_X5_refuse hw) ?_
    clear hw
    intro z2 h1 hw
    refine PW.if_eq (tgt := 20) C dX5_hasRoom_13 (by decide) (fun c => ?_) (fun c => ?_)
    · rw [if_pos c] at hw
      refine PW.iconst (v := 0) C dX5_hasRoom_20 (by decide) ?_
      exact PW.zret C dX5_hasRoom_21 (by decide) ⟨_, rfl, hw⟩
    · rw [if_neg c] at hw
      refine PW.iconst (v := 1) C dX5_hasRoom_16 (by decide) ?_
      refine PW.goto (tgt := 21) C dX5_hasRoom_17 (by decide) ?_
      exact PW.zret C dX5_hasRoom_21 (by decide) ⟨_, rfl, hw⟩
def w_X5_takeNewName (r1 : Nat) (h : PH) (Q : Int32 → PH → Prop) : Prop :=
  w_X7_advance h (fun h1 => if (gI h1 3 4) = 3 then (∀ h2, h2 = sI h1 5 (iN 0) (gI h1 3 6) → w_X6_find r1 0 (gI h2 3 6) h2 (fun z4 h3 => if z4 = (-1) then (Q 1 h3) else (w_X5_refuse 3 h3 (fun z6 h5 => if z6 = 0 then (Q 0 h5) else (Q 1 h5))))) else (w_X5_refuse 1 h1 (fun z8 h7 => (z8 = 0 ∨ z8 = 1) ∧ Q z8 h7)))
set_option maxRecDepth 8000 in
theorem s_X5_takeNewName {D : va_G} {ca : Nat → ClassId} {ad : Nat → Nat} {l : Launch} {r1 : Nat} {h : PH} {Q : Int32 → PH → Prop} (hr1 : oX r1 6) (hw : w_X5_takeNewName r1 h Q) : Sp (GX D ca ad) (XS (GX D ca ad)) l 7 yX5_takeNewName cX5_takeNewName 2 (some .boolean) [.ref 2, .ref r1] h (qI Q) := by
  refine Sp.of (own := RX5) [some (.ref 2), some (.ref r1)] (by decide +kernel) rfl rfl (Nat.le_of_ble_eq_true rfl) (fun K hl C => ?_)
  subst hl
  unfold w_X5_takeNewName at hw
  refine PW.ald0n C dX5_takeNewName_0 ?_
  refine PW.get0 (v := .ref 3) C cf_5 fl_X5_12 (by decide) oX_2 (fvR (o := 1) rfl) dX5_takeNewName_1 ?_
  refine PW.callVV0 C ms_X7_advance ml_X5_51 dX5_takeNewName_4 oX_3 ⟨_, _, rfl⟩ (Nat.le_of_ble_eq_true rfl) (by decide) (Nat.le_of_ble_eq_true rfl) (s_X7_advance hw) ?_
  clear hw
  intro h1 hw
  refine PW.ald0n C dX5_takeNewName_7 ?_
  refine PW.get0 (v := .ref 3) C cf_5 fl_X5_12 (by decide) oX_2 (fvR (o := 1) rfl) dX5_takeNewName_8 ?_
  refine PW.getN0 C cf_7 fl_X5_54 (by decide) oX_3 (fvI rfl) dX5_takeNewName_11 ?_
  refine PW.iconst (v := 3) C dX5_takeNewName_14 (by decide) ?_
  refine PW.icmp_eq (tgt := 24) C dX5_takeNewName_15 (by decide) (fun c => ?_) (fun c => ?_)
  · rw [if_pos c] at hw
    refine PW.ald0n C dX5_takeNewName_24 ?_
    refine PW.get0 (v := .ref 5) C cf_5 fl_X5_18 (by decide) oX_2 (fvR (o := 3) rfl) dX5_takeNewName_25 ?_
    refine PW.iconst (v := 0) C dX5_takeNewName_28 (by decide) ?_
    refine PW.ald0n C dX5_takeNewName_29 ?_
    refine PW.get0 (v := .ref 3) C cf_5 fl_X5_12 (by decide) oX_2 (fvR (o := 1) rfl) dX5_takeNewName_30 ?_
    refine PW.getN0 C cf_7 fl_X5_77 (by decide) oX_3 (fvI rfl) dX5_takeNewName_33 ?_
    replace hw := hw _ rfl
    refine PW.iast C dX5_takeNewName_36 aX_5 (vpl (by decide)) ?_
    refine PW.ald1n C dX5_takeNewName_37 ?_
    refine PW.iconst (v := 0) C dX5_takeNewName_38 (by decide) ?_
    refine PW.ald0n C dX5_takeNewName_39 ?_
    refine PW.get0 (v := .ref 3) C cf_5 fl_X5_12 (by decide) oX_2 (fvR (o := 1) rfl) dX5_takeNewName_40 ?_
    refine PW.getN0 C cf_7 fl_X5_77 (by decide) oX_3 (fvI rfl) dX5_takeNewName_43 ?_
    refine PW.callVI2 C ms_X6_find ml_X5_120 dX5_takeNewName_46 hr1 ⟨_, _, rfl⟩ (Nat.le_of_ble_eq_true rfl) (by decide) (Nat.le_of_ble_eq_true rfl) (s_X6_find hr1 hw) ?_
    clear hw
    intro z4 h3 hw
    refine PW.iconst (v := (-1)) C dX5_takeNewName_49 (by decide) ?_
    refine PW.icmp_eq (tgt := 61) C dX5_takeNewName_50 (by decide) (fun c => ?_) (fun c => ?_)
    · rw [if_pos c] at hw
      refine PW.iconst (v := 1) C dX5_takeNewName_61 (by decide) ?_
      refine PW.goto (tgt := 66) C dX5_takeNewName_62 (by decide) ?_
      exact PW.zret C dX5_takeNewName_66 (by decide) ⟨_, rfl, hw⟩
    · rw [if_neg c] at hw
      refine PW.ald0n C dX5_takeNewName_53 ?_
      refine PW.iconst (v := 3) C dX5_takeNewName_54 (by decide) ?_
      refine PW.callVI1 C ms_X5_refuse ml_X5_70 dX5_takeNewName_55 oX_2 ⟨_, _, rfl⟩ (Nat.le_of_ble_eq_true rfl) (by decide) (Nat.le_of_ble_eq_true rfl) (s_X5_refuse hw) ?_
      clear hw
      intro z6 h5 hw
      refine PW.if_eq (tgt := 65) C dX5_takeNewName_58 (by decide) (fun c => ?_) (fun c => ?_)
      · rw [if_pos c] at hw
        refine PW.iconst (v := 0) C dX5_takeNewName_65 (by decide) ?_
        exact PW.zret C dX5_takeNewName_66 (by decide) ⟨_, rfl, hw⟩
      · rw [if_neg c] at hw
        refine PW.iconst (v := 1) C dX5_takeNewName_61 (by decide) ?_
        refine PW.goto (tgt := 66) C dX5_takeNewName_62 (by decide) ?_
        exact PW.zret C dX5_takeNewName_66 (by decide) ⟨_, rfl, hw⟩
  · rw [if_neg c] at hw
    refine PW.ald0n C dX5_takeNewName_18 ?_
    refine PW.iconst (v := 1) C dX5_takeNewName_19 (by decide) ?_
    refine PW.callVI1 C ms_X5_refuse ml_X5_70 dX5_takeNewName_20 oX_2 ⟨_, _, rfl⟩ (Nat.le_of_ble_eq_true rfl) (by decide) (Nat.le_of_ble_eq_true rfl) (s_X5_refuse hw) ?_
    clear hw
    intro z8 h7 hw
    obtain ⟨hz, hw⟩ := hw
    exact PW.zret C dX5_takeNewName_23 hz ⟨_, rfl, hw⟩
def w_X5_takeEnd (h : PH) (Q : Int32 → PH → Prop) : Prop :=
  w_X7_advance h (fun h1 => w_X7_isSign 59 h1 (fun z3 h2 => if z3 = 0 then (w_X5_refuse 1 h2 (fun z5 h4 => if z5 = 0 then (Q 0 h4) else (Q 1 h4))) else (Q 1 h2)))
set_option maxRecDepth 8000 in
theorem s_X5_takeEnd {D : va_G} {ca : Nat → ClassId} {ad : Nat → Nat} {l : Launch} {h : PH} {Q : Int32 → PH → Prop} (hw : w_X5_takeEnd h Q) : Sp (GX D ca ad) (XS (GX D ca ad)) l 7 yX5_takeEnd cX5_takeEnd 1 (some .boolean) [.ref 2] h (qI Q) := by
  refine Sp.of (own := RX5) [some (.ref 2)] (by decide +kernel) rfl rfl (Nat.le_of_ble_eq_true rfl) (fun K hl C => ?_)
  subst hl
  unfold w_X5_takeEnd at hw
  refine PW.ald0n C dX5_takeEnd_0 ?_
  refine PW.get0 (v := .ref 3) C cf_5 fl_X5_12 (by decide) oX_2 (fvR (o := 1) rfl) dX5_takeEnd_1 ?_
  refine PW.callVV0 C ms_X7_advance ml_X5_51 dX5_takeEnd_4 oX_3 ⟨_, _, rfl⟩ (Nat.le_of_ble_eq_true rfl) (by decide) (Nat.le_of_ble_eq_true rfl) (s_X7_advance hw) ?_
  clear hw
  intro h1 hw
  refine PW.ald0n C dX5_takeEnd_7 ?_
  refine PW.get0 (v := .ref 3) C cf_5 fl_X5_12 (by decide) oX_2 (fvR (o := 1) rfl) dX5_takeEnd_8 ?_
  refine PW.bipush (v := 59) C dX5_takeEnd_11 (by decide) ?_
  refine PW.callVI1 C ms_X7_isSign ml_X5_126 dX5_takeEnd_13 oX_3 ⟨_, _, rfl⟩ (Nat.le_of_ble_eq_true rfl) (by decide) (Nat.le_of_ble_eq_true rfl) (s_X7_isSign hw) ?_
  clear hw
  intro z3 h2 hw
  refine PW.if_ne (tgt := 27) C dX5_takeEnd_16 (by decide) (fun c => ?_) (fun c => ?_)
  · rw [if_neg c] at hw
    refine PW.iconst (v := 1) C dX5_takeEnd_27 (by decide) ?_
    refine PW.goto (tgt := 32) C dX5_takeEnd_28 (by decide) ?_
    exact PW.zret C dX5_takeEnd_32 (by decide) ⟨_, rfl, hw⟩
  · rw [if_pos c] at hw
    refine PW.ald0n C dX5_takeEnd_19 ?_
    refine PW.iconst (v := 1) C dX5_takeEnd_20 (by decide) ?_
    refine PW.callVI1 C ms_X5_refuse ml_X5_70 dX5_takeEnd_21 oX_2 ⟨_, _, rfl⟩ (Nat.le_of_ble_eq_true rfl) (by decide) (Nat.le_of_ble_eq_true rfl) (s_X5_refuse hw) ?_
    clear hw
    intro z5 h4 hw
    refine PW.if_eq (tgt := 31) C dX5_takeEnd_24 (by decide) (fun c => ?_) (fun c => ?_)
    · rw [if_pos c] at hw
      refine PW.iconst (v := 0) C dX5_takeEnd_31 (by decide) ?_
      exact PW.zret C dX5_takeEnd_32 (by decide) ⟨_, rfl, hw⟩
    · rw [if_neg c] at hw
      refine PW.iconst (v := 1) C dX5_takeEnd_27 (by decide) ?_
      refine PW.goto (tgt := 32) C dX5_takeEnd_28 (by decide) ?_
      exact PW.zret C dX5_takeEnd_32 (by decide) ⟨_, rfl, hw⟩
def w_X5_addRow (r1 : Nat) (h : PH) (Q : Int32 → PH → Prop) : Prop :=
  w_X6_add r1 (gI h 5 (iN 0)) (gI h 5 (iN 1)) (gI h 5 (iN 2)) (gI h 5 (iN 3)) (gI h 5 (iN 4)) h (fun z2 h1 => Q 1 h1)
set_option maxRecDepth 8000 in
theorem s_X5_addRow {D : va_G} {ca : Nat → ClassId} {ad : Nat → Nat} {l : Launch} {r1 : Nat} {h : PH} {Q : Int32 → PH → Prop} (hr1 : oX r1 6) (hw : w_X5_addRow r1 h Q) : Sp (GX D ca ad) (XS (GX D ca ad)) l 4 yX5_addRow cX5_addRow 2 (some .boolean) [.ref 2, .ref r1] h (qI Q) := by
  refine Sp.of (own := RX5) [some (.ref 2), some (.ref r1)] (by decide +kernel) rfl rfl (Nat.le_of_ble_eq_true rfl) (fun K hl C => ?_)
  subst hl
  unfold w_X5_addRow at hw
  refine PW.ald1n C dX5_addRow_0 ?_
  refine PW.ald0n C dX5_addRow_1 ?_
  refine PW.get0 (v := .ref 5) C cf_5 fl_X5_18 (by decide) oX_2 (fvR (o := 3) rfl) dX5_addRow_2 ?_
  refine PW.iconst (v := 0) C dX5_addRow_5 (by decide) ?_
  refine PW.iald C dX5_addRow_6 aX_5 (vpl (by decide)) ?_
  refine PW.ald0n C dX5_addRow_7 ?_
  refine PW.get0 (v := .ref 5) C cf_5 fl_X5_18 (by decide) oX_2 (fvR (o := 3) rfl) dX5_addRow_8 ?_
  refine PW.iconst (v := 1) C dX5_addRow_11 (by decide) ?_
  refine PW.iald C dX5_addRow_12 aX_5 (vpl (by decide)) ?_
  refine PW.ald0n C dX5_addRow_13 ?_
  refine PW.get0 (v := .ref 5) C cf_5 fl_X5_18 (by decide) oX_2 (fvR (o := 3) rfl) dX5_addRow_14 ?_
  refine PW.iconst (v := 2) C dX5_addRow_17 (by decide) ?_
  refine PW.iald C dX5_addRow_18 aX_5 (vpl (by decide)) ?_
  refine PW.ald0n C dX5_addRow_19 ?_
  refine PW.get0 (v := .ref 5) C cf_5 fl_X5_18 (by decide) oX_2 (fvR (o := 3) rfl) dX5_addRow_20 ?_
  refine PW.iconst (v := 3) C dX5_addRow_23 (by decide) ?_
  refine PW.iald C dX5_addRow_24 aX_5 (vpl (by decide)) ?_
  refine PW.ald0n C dX5_addRow_25 ?_
  refine PW.get0 (v := .ref 5) C cf_5 fl_X5_18 (by decide) oX_2 (fvR (o := 3) rfl) dX5_addRow_26 ?_
  refine PW.iconst (v := 4) C dX5_addRow_29 (by decide) ?_
  refine PW.iald C dX5_addRow_30 aX_5 (vpl (by decide)) ?_
  refine PW.callVI5 C ms_X6_add ml_X5_132 dX5_addRow_31 hr1 ⟨_, _, rfl⟩ (Nat.le_of_ble_eq_true rfl) (by decide) (Nat.le_of_ble_eq_true rfl) (s_X6_add hr1 hw) ?_
  clear hw
  intro z2 h1 hw
  refine PW.pop C dX5_addRow_34 rfl ?_
  refine PW.iconst (v := 1) C dX5_addRow_35 (by decide) ?_
  exact PW.zret C dX5_addRow_36 (by decide) ⟨_, rfl, hw⟩
def w_X5_readPlace (h : PH) (Q : Int32 → PH → Prop) : Prop :=
  ∀ h1, h1 = sI h 5 (iN 1) 0 → gP h1 2 7 ≠ 0 ∧ oX (gP h1 2 7 - 1) 8 ∧ w_X5_hasRoom ((gP h1 2 7 - 1) + 1) 6 h1 (fun z5 h4 => if z5 = 0 then (Q 0 h4) else (gP h4 2 7 ≠ 0 ∧ oX (gP h4 2 7 - 1) 8 ∧ w_X5_takeNewName ((gP h4 2 7 - 1) + 1) h4 (fun z9 h8 => if z9 = 0 then (Q 0 h8) else (w_X5_takeEnd h8 (fun z11 h10 => if z11 = 0 then (Q 0 h10) else (gP h10 2 7 ≠ 0 ∧ oX (gP h10 2 7 - 1) 8 ∧ w_X5_addRow ((gP h10 2 7 - 1) + 1) h10 (fun z15 h14 => if z15 = 0 then (Q 0 h14) else (Q 1 h14))))))))
set_option maxRecDepth 8000 in
theorem s_X5_readPlace {D : va_G} {ca : Nat → ClassId} {ad : Nat → Nat} {l : Launch} {h : PH} {Q : Int32 → PH → Prop} (hw : w_X5_readPlace h Q) : Sp (GX D ca ad) (XS (GX D ca ad)) l 8 yX5_readPlace cX5_readPlace 1 (some .boolean) [.ref 2] h (qI Q) := by
  refine Sp.of (own := RX5) [some (.ref 2)] (by decide +kernel) rfl rfl (Nat.le_of_ble_eq_true rfl) (fun K hl C => ?_)
  subst hl
  unfold w_X5_readPlace at hw
  refine PW.ald0n C dX5_readPlace_0 ?_
  refine PW.get0 (v := .ref 5) C cf_5 fl_X5_18 (by decide) oX_2 (fvR (o := 3) rfl) dX5_readPlace_1 ?_
  refine PW.iconst (v := 1) C dX5_readPlace_4 (by decide) ?_
  refine PW.iconst (v := 0) C dX5_readPlace_5 (by decide) ?_
  replace hw := hw _ rfl
  refine PW.iast C dX5_readPlace_6 aX_5 (vpl (by decide)) ?_
  refine PW.ald0n C dX5_readPlace_7 ?_
  refine PW.ald0n C dX5_readPlace_8 ?_
  obtain ⟨hz3, hq2, hw⟩ := hw
  refine PW.get0 C cf_5 fl_X5_36 (by decide) oX_2 (fvP rfl hz3) dX5_readPlace_9 ?_
  refine PW.getN0 C cf_8 fl_X5_136 (by decide) hq2 (fvR (o := 1) rfl) dX5_readPlace_12 ?_
  refine PW.bipush (v := 6) C dX5_readPlace_15 (by decide) ?_
  refine PW.callVI2 C ms_X5_hasRoom ml_X5_139 dX5_readPlace_17 oX_2 ⟨_, _, rfl⟩ (Nat.le_of_ble_eq_true rfl) (by decide) (Nat.le_of_ble_eq_true rfl) (s_X5_hasRoom (sf_8_0 hq2) hw) ?_
  clear hw
  intro z5 h4 hw
  refine PW.if_eq (tgt := 62) C dX5_readPlace_20 (by decide) (fun c => ?_) (fun c => ?_)
  · rw [if_pos c] at hw
    refine PW.iconst (v := 0) C dX5_readPlace_62 (by decide) ?_
    exact PW.zret C dX5_readPlace_63 (by decide) ⟨_, rfl, hw⟩
  · rw [if_neg c] at hw
    refine PW.ald0n C dX5_readPlace_23 ?_
    refine PW.ald0n C dX5_readPlace_24 ?_
    obtain ⟨hz7, hq6, hw⟩ := hw
    refine PW.get0 C cf_5 fl_X5_36 (by decide) oX_2 (fvP rfl hz7) dX5_readPlace_25 ?_
    refine PW.getN0 C cf_8 fl_X5_136 (by decide) hq6 (fvR (o := 1) rfl) dX5_readPlace_28 ?_
    refine PW.callVI1 C ms_X5_takeNewName ml_X5_142 dX5_readPlace_31 oX_2 ⟨_, _, rfl⟩ (Nat.le_of_ble_eq_true rfl) (by decide) (Nat.le_of_ble_eq_true rfl) (s_X5_takeNewName (sf_8_0 hq6) hw) ?_
    clear hw
    intro z9 h8 hw
    refine PW.if_eq (tgt := 62) C dX5_readPlace_34 (by decide) (fun c => ?_) (fun c => ?_)
    · rw [if_pos c] at hw
      refine PW.iconst (v := 0) C dX5_readPlace_62 (by decide) ?_
      exact PW.zret C dX5_readPlace_63 (by decide) ⟨_, rfl, hw⟩
    · rw [if_neg c] at hw
      refine PW.ald0n C dX5_readPlace_37 ?_
      refine PW.callVI0 C ms_X5_takeEnd ml_X5_146 dX5_readPlace_38 oX_2 ⟨_, _, rfl⟩ (Nat.le_of_ble_eq_true rfl) (by decide) (Nat.le_of_ble_eq_true rfl) (s_X5_takeEnd hw) ?_
      clear hw
      intro z11 h10 hw
      refine PW.if_eq (tgt := 62) C dX5_readPlace_41 (by decide) (fun c => ?_) (fun c => ?_)
      · rw [if_pos c] at hw
        refine PW.iconst (v := 0) C dX5_readPlace_62 (by decide) ?_
        exact PW.zret C dX5_readPlace_63 (by decide) ⟨_, rfl, hw⟩
      · rw [if_neg c] at hw
        refine PW.ald0n C dX5_readPlace_44 ?_
        refine PW.ald0n C dX5_readPlace_45 ?_
        obtain ⟨hz13, hq12, hw⟩ := hw
        refine PW.get0 C cf_5 fl_X5_36 (by decide) oX_2 (fvP rfl hz13) dX5_readPlace_46 ?_
        refine PW.getN0 C cf_8 fl_X5_136 (by decide) hq12 (fvR (o := 1) rfl) dX5_readPlace_49 ?_
        refine PW.callVI1 C ms_X5_addRow ml_X5_149 dX5_readPlace_52 oX_2 ⟨_, _, rfl⟩ (Nat.le_of_ble_eq_true rfl) (by decide) (Nat.le_of_ble_eq_true rfl) (s_X5_addRow (sf_8_0 hq12) hw) ?_
        clear hw
        intro z15 h14 hw
        refine PW.if_eq (tgt := 62) C dX5_readPlace_55 (by decide) (fun c => ?_) (fun c => ?_)
        · rw [if_pos c] at hw
          refine PW.iconst (v := 0) C dX5_readPlace_62 (by decide) ?_
          exact PW.zret C dX5_readPlace_63 (by decide) ⟨_, rfl, hw⟩
        · rw [if_neg c] at hw
          refine PW.iconst (v := 1) C dX5_readPlace_58 (by decide) ?_
          refine PW.goto (tgt := 63) C dX5_readPlace_59 (by decide) ?_
          exact PW.zret C dX5_readPlace_63 (by decide) ⟨_, rfl, hw⟩
def w_X5_takeTold (r1 : Nat) (x2 : Int32) (h : PH) (Q : Int32 → PH → Prop) : Prop :=
  w_X7_advance h (fun h1 => if (gI h1 3 4) = 3 then (w_X6_find r1 0 (gI h1 3 6) h1 (fun z3 h2 => vp_in x2 5 ∧ ∀ h5, h5 = sI h2 5 (iN x2) z3 → vp_in x2 5 ∧ if (gI h5 5 (iN x2)) = (-1) then (w_X5_refuse 4 h5 (fun z8 h7 => if z8 = 0 then (Q 0 h7) else (Q 1 h7))) else (Q 1 h5))) else (w_X5_refuse 1 h1 (fun z10 h9 => (z10 = 0 ∨ z10 = 1) ∧ Q z10 h9)))
set_option maxRecDepth 8000 in
theorem s_X5_takeTold {D : va_G} {ca : Nat → ClassId} {ad : Nat → Nat} {l : Launch} {r1 : Nat} {x2 : Int32} {h : PH} {Q : Int32 → PH → Prop} (hr1 : oX r1 6) (hw : w_X5_takeTold r1 x2 h Q) : Sp (GX D ca ad) (XS (GX D ca ad)) l 7 yX5_takeTold cX5_takeTold 3 (some .boolean) [.ref 2, .ref r1, .int x2] h (qI Q) := by
  refine Sp.of (own := RX5) [some (.ref 2), some (.ref r1), some (.int x2)] (by decide +kernel) rfl rfl (Nat.le_of_ble_eq_true rfl) (fun K hl C => ?_)
  subst hl
  unfold w_X5_takeTold at hw
  refine PW.ald0n C dX5_takeTold_0 ?_
  refine PW.get0 (v := .ref 3) C cf_5 fl_X5_12 (by decide) oX_2 (fvR (o := 1) rfl) dX5_takeTold_1 ?_
  refine PW.callVV0 C ms_X7_advance ml_X5_51 dX5_takeTold_4 oX_3 ⟨_, _, rfl⟩ (Nat.le_of_ble_eq_true rfl) (by decide) (Nat.le_of_ble_eq_true rfl) (s_X7_advance hw) ?_
  clear hw
  intro h1 hw
  refine PW.ald0n C dX5_takeTold_7 ?_
  refine PW.get0 (v := .ref 3) C cf_5 fl_X5_12 (by decide) oX_2 (fvR (o := 1) rfl) dX5_takeTold_8 ?_
  refine PW.getN0 C cf_7 fl_X5_54 (by decide) oX_3 (fvI rfl) dX5_takeTold_11 ?_
  refine PW.iconst (v := 3) C dX5_takeTold_14 (by decide) ?_
  refine PW.icmp_eq (tgt := 24) C dX5_takeTold_15 (by decide) (fun c => ?_) (fun c => ?_)
  · rw [if_pos c] at hw
    refine PW.ald0n C dX5_takeTold_24 ?_
    refine PW.get0 (v := .ref 5) C cf_5 fl_X5_18 (by decide) oX_2 (fvR (o := 3) rfl) dX5_takeTold_25 ?_
    refine PW.ild2n C dX5_takeTold_28 ?_
    refine PW.ald1n C dX5_takeTold_29 ?_
    refine PW.iconst (v := 0) C dX5_takeTold_30 (by decide) ?_
    refine PW.ald0n C dX5_takeTold_31 ?_
    refine PW.get0 (v := .ref 3) C cf_5 fl_X5_12 (by decide) oX_2 (fvR (o := 1) rfl) dX5_takeTold_32 ?_
    refine PW.getN0 C cf_7 fl_X5_77 (by decide) oX_3 (fvI rfl) dX5_takeTold_35 ?_
    refine PW.callVI2 C ms_X6_find ml_X5_120 dX5_takeTold_38 hr1 ⟨_, _, rfl⟩ (Nat.le_of_ble_eq_true rfl) (by decide) (Nat.le_of_ble_eq_true rfl) (s_X6_find hr1 hw) ?_
    clear hw
    intro z3 h2 hw
    obtain ⟨hc4, hw⟩ := hw
    replace hw := hw _ rfl
    refine PW.iast C dX5_takeTold_41 aX_5 hc4 ?_
    refine PW.ald0n C dX5_takeTold_42 ?_
    refine PW.get0 (v := .ref 5) C cf_5 fl_X5_18 (by decide) oX_2 (fvR (o := 3) rfl) dX5_takeTold_43 ?_
    refine PW.ild2n C dX5_takeTold_46 ?_
    obtain ⟨hc6, hw⟩ := hw
    refine PW.iald C dX5_takeTold_47 aX_5 hc6 ?_
    refine PW.iconst (v := (-1)) C dX5_takeTold_48 (by decide) ?_
    refine PW.icmp_ne (tgt := 60) C dX5_takeTold_49 (by decide) (fun c => ?_) (fun c => ?_)
    · rw [if_neg c] at hw
      refine PW.iconst (v := 1) C dX5_takeTold_60 (by decide) ?_
      refine PW.goto (tgt := 65) C dX5_takeTold_61 (by decide) ?_
      exact PW.zret C dX5_takeTold_65 (by decide) ⟨_, rfl, hw⟩
    · rw [if_pos c] at hw
      refine PW.ald0n C dX5_takeTold_52 ?_
      refine PW.iconst (v := 4) C dX5_takeTold_53 (by decide) ?_
      refine PW.callVI1 C ms_X5_refuse ml_X5_70 dX5_takeTold_54 oX_2 ⟨_, _, rfl⟩ (Nat.le_of_ble_eq_true rfl) (by decide) (Nat.le_of_ble_eq_true rfl) (s_X5_refuse hw) ?_
      clear hw
      intro z8 h7 hw
      refine PW.if_eq (tgt := 64) C dX5_takeTold_57 (by decide) (fun c => ?_) (fun c => ?_)
      · rw [if_pos c] at hw
        refine PW.iconst (v := 0) C dX5_takeTold_64 (by decide) ?_
        exact PW.zret C dX5_takeTold_65 (by decide) ⟨_, rfl, hw⟩
      · rw [if_neg c] at hw
        refine PW.iconst (v := 1) C dX5_takeTold_60 (by decide) ?_
        refine PW.goto (tgt := 65) C dX5_takeTold_61 (by decide) ?_
        exact PW.zret C dX5_takeTold_65 (by decide) ⟨_, rfl, hw⟩
  · rw [if_neg c] at hw
    refine PW.ald0n C dX5_takeTold_18 ?_
    refine PW.iconst (v := 1) C dX5_takeTold_19 (by decide) ?_
    refine PW.callVI1 C ms_X5_refuse ml_X5_70 dX5_takeTold_20 oX_2 ⟨_, _, rfl⟩ (Nat.le_of_ble_eq_true rfl) (by decide) (Nat.le_of_ble_eq_true rfl) (s_X5_refuse hw) ?_
    clear hw
    intro z10 h9 hw
    obtain ⟨hz, hw⟩ := hw
    exact PW.zret C dX5_takeTold_23 hz ⟨_, rfl, hw⟩
def w_X5_isLinked_2 (k48 : PH → Prop) (k56 : PH → Prop) (Q : Int32 → PH → Prop) (x1 : Int32) (x2 : Int32) (kb : Int32 → PH → Prop) (x3 : Int32) (h : PH) : Prop :=
  gP h 2 7 ≠ 0 ∧ oX (gP h 2 7 - 1) 8 ∧ if (gI h ((gP h 2 7 - 1) + 3) 3) ≤ x3 then (k56 h) else (gP h 2 7 ≠ 0 ∧ oX (gP h 2 7 - 1) 8 ∧ w_X6_at ((gP h 2 7 - 1) + 3) x3 0 h (fun z6 h5 => if z6 = x1 then (gP h5 2 7 ≠ 0 ∧ oX (gP h5 2 7 - 1) 8 ∧ w_X6_at ((gP h5 2 7 - 1) + 3) x3 1 h5 (fun z10 h9 => if z10 = x2 then (k48 h9) else (kb (x3 + 1) h9))) else (kb (x3 + 1) h5)))
set_option maxRecDepth 8000 in
theorem b_X5_isLinked_2 {D : va_G} {ca : Nat → ClassId} {ad : Nat → Nat} {K : Kt} {k48 : PH → Prop} {k56 : PH → Prop} {kb : Int32 → PH → Prop} {Q : Int32 → PH → Prop} {x1 : Int32} {x2 : Int32} {x3 : Int32} {h : PH} (C : CX (GX D ca ad) (XS (GX D ca ad)) cX5_isLinked RX5 4 (some .boolean) 3 K) (hk48 : ∀ (h : PH), k48 h → PW (GX D ca ad) K 4 (qI Q) h 48 [none, none, none, none] []) (hk56 : ∀ (h : PH), k56 h → PW (GX D ca ad) K 4 (qI Q) h 56 [none, none, none, none] []) (hkb : ∀ (x3 : Int32) (h : PH), kb x3 h → PW (GX D ca ad) K 4 (qI Q) h 2 [some (.ref 2), some (.int x1), some (.int x2), some (.int x3)] []) (hw : w_X5_isLinked_2 k48 k56 Q x1 x2 kb x3 h) : PW (GX D ca ad) K 4 (qI Q) h 2 [some (.ref 2), some (.int x1), some (.int x2), some (.int x3)] [] := by
  unfold w_X5_isLinked_2 at hw
  refine PW.ild3n C dX5_isLinked_2 ?_
  refine PW.ald0n C dX5_isLinked_3 ?_
  obtain ⟨hz2, hq1, hw⟩ := hw
  refine PW.get0 C cf_5 fl_X5_36 (by decide) oX_2 (fvP rfl hz2) dX5_isLinked_4 ?_
  refine PW.getN0 C cf_8 fl_X5_158 (by decide) hq1 (fvR (o := 3) rfl) dX5_isLinked_7 ?_
  refine PW.getN0 C cf_6 fl_X5_129 (by decide) (sf_8_1 hq1) (fvI rfl) dX5_isLinked_10 ?_
  refine PW.icmp_ge (tgt := 56) C dX5_isLinked_13 (by decide) (fun c => ?_) (fun c => ?_)
  · rw [if_pos c] at hw
    exact PW.wk (wk_n (wk_n (wk_n (wk_n wk_0)))) (hk56 _ hw)
  · rw [if_neg c] at hw
    refine PW.ald0n C dX5_isLinked_16 ?_
    obtain ⟨hz4, hq3, hw⟩ := hw
    refine PW.get0 C cf_5 fl_X5_36 (by decide) oX_2 (fvP rfl hz4) dX5_isLinked_17 ?_
    refine PW.getN0 C cf_8 fl_X5_158 (by decide) hq3 (fvR (o := 3) rfl) dX5_isLinked_20 ?_
    refine PW.ild3n C dX5_isLinked_23 ?_
    refine PW.iconst (v := 0) C dX5_isLinked_24 (by decide) ?_
    refine PW.callVI2 C ms_X6_at ml_X5_168 dX5_isLinked_25 (sf_8_1 hq3) ⟨_, _, rfl⟩ (Nat.le_of_ble_eq_true rfl) (by decide) (Nat.le_of_ble_eq_true rfl) (s_X6_at (sf_8_1 hq3) hw) ?_
    clear hw
    intro z6 h5 hw
    refine PW.ild1n C dX5_isLinked_28 ?_
    refine PW.icmp_ne (tgt := 50) C dX5_isLinked_29 (by decide) (fun c => ?_) (fun c => ?_)
    · rw [if_neg c] at hw
      refine PW.inc3 (v := 1) C dX5_isLinked_50 (by decide) rfl (by decide) ?_
      refine PW.goto (tgt := 2) C dX5_isLinked_53 (by decide) ?_
      exact PW.wk (wk_s (wk_s (wk_s (wk_s wk_0)))) (hkb _ _ hw)
    · rw [if_pos c] at hw
      refine PW.ald0n C dX5_isLinked_32 ?_
      obtain ⟨hz8, hq7, hw⟩ := hw
      refine PW.get0 C cf_5 fl_X5_36 (by decide) oX_2 (fvP rfl hz8) dX5_isLinked_33 ?_
      refine PW.getN0 C cf_8 fl_X5_158 (by decide) hq7 (fvR (o := 3) rfl) dX5_isLinked_36 ?_
      refine PW.ild3n C dX5_isLinked_39 ?_
      refine PW.iconst (v := 1) C dX5_isLinked_40 (by decide) ?_
      refine PW.callVI2 C ms_X6_at ml_X5_168 dX5_isLinked_41 (sf_8_1 hq7) ⟨_, _, rfl⟩ (Nat.le_of_ble_eq_true rfl) (by decide) (Nat.le_of_ble_eq_true rfl) (s_X6_at (sf_8_1 hq7) hw) ?_
      clear hw
      intro z10 h9 hw
      refine PW.ild2n C dX5_isLinked_44 ?_
      refine PW.icmp_ne (tgt := 50) C dX5_isLinked_45 (by decide) (fun c => ?_) (fun c => ?_)
      · rw [if_neg c] at hw
        refine PW.inc3 (v := 1) C dX5_isLinked_50 (by decide) rfl (by decide) ?_
        refine PW.goto (tgt := 2) C dX5_isLinked_53 (by decide) ?_
        exact PW.wk (wk_s (wk_s (wk_s (wk_s wk_0)))) (hkb _ _ hw)
      · rw [if_pos c] at hw
        exact PW.wk (wk_n (wk_n (wk_n (wk_n wk_0)))) (hk48 _ hw)
theorem l_X5_isLinked_2 {D : va_G} {ca : Nat → ClassId} {ad : Nat → Nat} {K : Kt} {k48 : PH → Prop} {k56 : PH → Prop} {Q : Int32 → PH → Prop} {x1 : Int32} {x2 : Int32} (C : CX (GX D ca ad) (XS (GX D ca ad)) cX5_isLinked RX5 4 (some .boolean) 3 K) (hk48 : ∀ (h : PH), k48 h → PW (GX D ca ad) K 4 (qI Q) h 48 [none, none, none, none] []) (hk56 : ∀ (h : PH), k56 h → PW (GX D ca ad) K 4 (qI Q) h 56 [none, none, none, none] []) : ∀ (n : Nat) (x3 : Int32) (h : PH), Lp1 (w_X5_isLinked_2 k48 k56 Q x1 x2) n x3 h → PW (GX D ca ad) K 4 (qI Q) h 2 [some (.ref 2), some (.int x1), some (.int x2), some (.int x3)] [] := by
  intro n
  induction n with
  | zero => intro x3 h hw; exact hw.elim
  | succ n ih => intro x3 h hw; exact b_X5_isLinked_2 C hk48 hk56 (fun x3 h hw => ih x3 h hw) hw
def w_X5_isLinked (x1 : Int32) (x2 : Int32) (h : PH) (Q : Int32 → PH → Prop) : Prop :=
  ∃ n, Lp1 (w_X5_isLinked_2 (fun h11 => Q 1 h11) (fun h12 => Q 0 h12) Q x1 x2) n 0 h
set_option maxRecDepth 8000 in
theorem s_X5_isLinked {D : va_G} {ca : Nat → ClassId} {ad : Nat → Nat} {l : Launch} {x1 : Int32} {x2 : Int32} {h : PH} {Q : Int32 → PH → Prop} (hw : w_X5_isLinked x1 x2 h Q) : Sp (GX D ca ad) (XS (GX D ca ad)) l 3 yX5_isLinked cX5_isLinked 4 (some .boolean) [.ref 2, .int x1, .int x2] h (qI Q) := by
  refine Sp.of (own := RX5) [some (.ref 2), some (.int x1), some (.int x2), none] (by decide +kernel) rfl rfl (Nat.le_of_ble_eq_true rfl) (fun K hl C => ?_)
  subst hl
  unfold w_X5_isLinked at hw
  refine PW.iconst (v := 0) C dX5_isLinked_0 (by decide) ?_
  refine PW.ist3n C dX5_isLinked_1 (by decide) rfl ?_
  obtain ⟨n, hw⟩ := hw
  refine PW.wk (wk_s (wk_s (wk_s (wk_s wk_0)))) (l_X5_isLinked_2 C ?_ ?_ n _ _ hw)
  · intro h11 hw
    refine PW.iconst (v := 1) C dX5_isLinked_48 (by decide) ?_
    exact PW.zret C dX5_isLinked_49 (by decide) ⟨_, rfl, hw⟩
  · intro h12 hw
    refine PW.iconst (v := 0) C dX5_isLinked_56 (by decide) ?_
    exact PW.zret C dX5_isLinked_57 (by decide) ⟨_, rfl, hw⟩
def w_X5_takeNumber_59 (Q : Int32 → PH → Prop) (h : PH) : Prop :=
  w_X5_refuse 2 h (fun z5 h4 => if z5 = 0 then (Q 0 h4) else (Q 1 h4))
set_option maxRecDepth 8000 in
theorem b_X5_takeNumber_59 {D : va_G} {ca : Nat → ClassId} {ad : Nat → Nat} {K : Kt} {Q : Int32 → PH → Prop} {h : PH} (C : CX (GX D ca ad) (XS (GX D ca ad)) cX5_takeNumber RX5 4 (some .boolean) 7 K) (hw : w_X5_takeNumber_59 Q h) : PW (GX D ca ad) K 4 (qI Q) h 59 [some (.ref 2), none, none, none] [] := by
  unfold w_X5_takeNumber_59 at hw
  refine PW.ald0n C dX5_takeNumber_59 ?_
  refine PW.iconst (v := 2) C dX5_takeNumber_60 (by decide) ?_
  refine PW.callVI1 C ms_X5_refuse ml_X5_70 dX5_takeNumber_61 oX_2 ⟨_, _, rfl⟩ (Nat.le_of_ble_eq_true rfl) (by decide) (Nat.le_of_ble_eq_true rfl) (s_X5_refuse hw) ?_
  clear hw
  intro z5 h4 hw
  refine PW.if_eq (tgt := 71) C dX5_takeNumber_64 (by decide) (fun c => ?_) (fun c => ?_)
  · rw [if_pos c] at hw
    refine PW.iconst (v := 0) C dX5_takeNumber_71 (by decide) ?_
    exact PW.zret C dX5_takeNumber_72 (by decide) ⟨_, rfl, hw⟩
  · rw [if_neg c] at hw
    refine PW.iconst (v := 1) C dX5_takeNumber_67 (by decide) ?_
    refine PW.goto (tgt := 72) C dX5_takeNumber_68 (by decide) ?_
    exact PW.zret C dX5_takeNumber_72 (by decide) ⟨_, rfl, hw⟩
def w_X5_takeNumber (x1 : Int32) (x2 : Int32) (x3 : Int32) (h : PH) (Q : Int32 → PH → Prop) : Prop :=
  w_X7_advance h (fun h1 => if (gI h1 3 4) = 2 then (vp_in x1 5 ∧ ∀ h3, h3 = sI h1 5 (iN x1) (gI h1 3 6) → if (gI h3 3 6) < x2 then (w_X5_takeNumber_59 Q h3) else (if (gI h3 3 6) ≤ x3 then (Q 1 h3) else (w_X5_takeNumber_59 Q h3))) else (w_X5_refuse 1 h1 (fun z7 h6 => (z7 = 0 ∨ z7 = 1) ∧ Q z7 h6)))
set_option maxRecDepth 8000 in
theorem s_X5_takeNumber {D : va_G} {ca : Nat → ClassId} {ad : Nat → Nat} {l : Launch} {x1 : Int32} {x2 : Int32} {x3 : Int32} {h : PH} {Q : Int32 → PH → Prop} (hw : w_X5_takeNumber x1 x2 x3 h Q) : Sp (GX D ca ad) (XS (GX D ca ad)) l 7 yX5_takeNumber cX5_takeNumber 4 (some .boolean) [.ref 2, .int x1, .int x2, .int x3] h (qI Q) := by
  refine Sp.of (own := RX5) [some (.ref 2), some (.int x1), some (.int x2), some (.int x3)] (by decide +kernel) rfl rfl (Nat.le_of_ble_eq_true rfl) (fun K hl C => ?_)
  subst hl
  unfold w_X5_takeNumber at hw
  refine PW.ald0n C dX5_takeNumber_0 ?_
  refine PW.get0 (v := .ref 3) C cf_5 fl_X5_12 (by decide) oX_2 (fvR (o := 1) rfl) dX5_takeNumber_1 ?_
  refine PW.callVV0 C ms_X7_advance ml_X5_51 dX5_takeNumber_4 oX_3 ⟨_, _, rfl⟩ (Nat.le_of_ble_eq_true rfl) (by decide) (Nat.le_of_ble_eq_true rfl) (s_X7_advance hw) ?_
  clear hw
  intro h1 hw
  refine PW.ald0n C dX5_takeNumber_7 ?_
  refine PW.get0 (v := .ref 3) C cf_5 fl_X5_12 (by decide) oX_2 (fvR (o := 1) rfl) dX5_takeNumber_8 ?_
  refine PW.getN0 C cf_7 fl_X5_54 (by decide) oX_3 (fvI rfl) dX5_takeNumber_11 ?_
  refine PW.iconst (v := 2) C dX5_takeNumber_14 (by decide) ?_
  refine PW.icmp_eq (tgt := 24) C dX5_takeNumber_15 (by decide) (fun c => ?_) (fun c => ?_)
  · rw [if_pos c] at hw
    refine PW.ald0n C dX5_takeNumber_24 ?_
    refine PW.get0 (v := .ref 5) C cf_5 fl_X5_18 (by decide) oX_2 (fvR (o := 3) rfl) dX5_takeNumber_25 ?_
    refine PW.ild1n C dX5_takeNumber_28 ?_
    refine PW.ald0n C dX5_takeNumber_29 ?_
    refine PW.get0 (v := .ref 3) C cf_5 fl_X5_12 (by decide) oX_2 (fvR (o := 1) rfl) dX5_takeNumber_30 ?_
    refine PW.getN0 C cf_7 fl_X5_77 (by decide) oX_3 (fvI rfl) dX5_takeNumber_33 ?_
    obtain ⟨hc2, hw⟩ := hw
    replace hw := hw _ rfl
    refine PW.iast C dX5_takeNumber_36 aX_5 hc2 ?_
    refine PW.ald0n C dX5_takeNumber_37 ?_
    refine PW.get0 (v := .ref 3) C cf_5 fl_X5_12 (by decide) oX_2 (fvR (o := 1) rfl) dX5_takeNumber_38 ?_
    refine PW.getN0 C cf_7 fl_X5_77 (by decide) oX_3 (fvI rfl) dX5_takeNumber_41 ?_
    refine PW.ild2n C dX5_takeNumber_44 ?_
    refine PW.icmp_lt (tgt := 59) C dX5_takeNumber_45 (by decide) (fun c => ?_) (fun c => ?_)
    · rw [if_pos c] at hw
      exact PW.wk (wk_s (wk_n (wk_n (wk_n wk_0)))) (b_X5_takeNumber_59 C hw)
    · rw [if_neg c] at hw
      refine PW.ald0n C dX5_takeNumber_48 ?_
      refine PW.get0 (v := .ref 3) C cf_5 fl_X5_12 (by decide) oX_2 (fvR (o := 1) rfl) dX5_takeNumber_49 ?_
      refine PW.getN0 C cf_7 fl_X5_77 (by decide) oX_3 (fvI rfl) dX5_takeNumber_52 ?_
      refine PW.ild3n C dX5_takeNumber_55 ?_
      refine PW.icmp_le (tgt := 67) C dX5_takeNumber_56 (by decide) (fun c => ?_) (fun c => ?_)
      · rw [if_pos c] at hw
        refine PW.iconst (v := 1) C dX5_takeNumber_67 (by decide) ?_
        refine PW.goto (tgt := 72) C dX5_takeNumber_68 (by decide) ?_
        exact PW.zret C dX5_takeNumber_72 (by decide) ⟨_, rfl, hw⟩
      · rw [if_neg c] at hw
        exact PW.wk (wk_s (wk_n (wk_n (wk_n wk_0)))) (b_X5_takeNumber_59 C hw)
  · rw [if_neg c] at hw
    refine PW.ald0n C dX5_takeNumber_18 ?_
    refine PW.iconst (v := 1) C dX5_takeNumber_19 (by decide) ?_
    refine PW.callVI1 C ms_X5_refuse ml_X5_70 dX5_takeNumber_20 oX_2 ⟨_, _, rfl⟩ (Nat.le_of_ble_eq_true rfl) (by decide) (Nat.le_of_ble_eq_true rfl) (s_X5_refuse hw) ?_
    clear hw
    intro z7 h6 hw
    obtain ⟨hz, hw⟩ := hw
    exact PW.zret C dX5_takeNumber_23 hz ⟨_, rfl, hw⟩
def w_X5_readLink_107 (Q : Int32 → PH → Prop) (h : PH) : Prop :=
  w_X5_refuse 3 h (fun z16 h15 => (z16 = 0 ∨ z16 = 1) ∧ Q z16 h15)
set_option maxRecDepth 8000 in
theorem b_X5_readLink_107 {D : va_G} {ca : Nat → ClassId} {ad : Nat → Nat} {K : Kt} {Q : Int32 → PH → Prop} {h : PH} (C : CX (GX D ca ad) (XS (GX D ca ad)) cX5_readLink RX5 1 (some .boolean) 8 K) (hw : w_X5_readLink_107 Q h) : PW (GX D ca ad) K 1 (qI Q) h 107 [some (.ref 2)] [] := by
  unfold w_X5_readLink_107 at hw
  refine PW.ald0n C dX5_readLink_107 ?_
  refine PW.iconst (v := 3) C dX5_readLink_108 (by decide) ?_
  refine PW.callVI1 C ms_X5_refuse ml_X5_70 dX5_readLink_109 oX_2 ⟨_, _, rfl⟩ (Nat.le_of_ble_eq_true rfl) (by decide) (Nat.le_of_ble_eq_true rfl) (s_X5_refuse hw) ?_
  clear hw
  intro z16 h15 hw
  obtain ⟨hz, hw⟩ := hw
  exact PW.zret C dX5_readLink_112 hz ⟨_, rfl, hw⟩
def w_X5_readLink (h : PH) (Q : Int32 → PH → Prop) : Prop :=
  gP h 2 7 ≠ 0 ∧ oX (gP h 2 7 - 1) 8 ∧ w_X5_hasRoom ((gP h 2 7 - 1) + 3) 9 h (fun z4 h3 => if z4 = 0 then (Q 0 h3) else (gP h3 2 7 ≠ 0 ∧ oX (gP h3 2 7 - 1) 8 ∧ w_X5_takeTold ((gP h3 2 7 - 1) + 1) 0 h3 (fun z8 h7 => if z8 = 0 then (Q 0 h7) else (gP h7 2 7 ≠ 0 ∧ oX (gP h7 2 7 - 1) 8 ∧ w_X5_takeTold ((gP h7 2 7 - 1) + 1) 1 h7 (fun z12 h11 => if z12 = 0 then (Q 0 h11) else (if (gI h11 5 (iN 0)) = (gI h11 5 (iN 1)) then (w_X5_refuse 5 h11 (fun z29 h28 => (z29 = 0 ∨ z29 = 1) ∧ Q z29 h28)) else (w_X5_isLinked (gI h11 5 (iN 0)) (gI h11 5 (iN 1)) h11 (fun z14 h13 => if z14 = 0 then (w_X5_isLinked (gI h13 5 (iN 1)) (gI h13 5 (iN 0)) h13 (fun z18 h17 => if z18 = 0 then (∀ h19, h19 = sI h17 5 (iN 3) 0 → w_X5_takeNumber 2 1 9 h19 (fun z21 h20 => if z21 = 0 then (Q 0 h20) else (w_X5_takeEnd h20 (fun z23 h22 => if z23 = 0 then (Q 0 h22) else (gP h22 2 7 ≠ 0 ∧ oX (gP h22 2 7 - 1) 8 ∧ w_X5_addRow ((gP h22 2 7 - 1) + 3) h22 (fun z27 h26 => if z27 = 0 then (Q 0 h26) else (Q 1 h26))))))) else (w_X5_readLink_107 Q h17))) else (w_X5_readLink_107 Q h13)))))))))
set_option maxRecDepth 8000 in
theorem s_X5_readLink {D : va_G} {ca : Nat → ClassId} {ad : Nat → Nat} {l : Launch} {h : PH} {Q : Int32 → PH → Prop} (hw : w_X5_readLink h Q) : Sp (GX D ca ad) (XS (GX D ca ad)) l 8 yX5_readLink cX5_readLink 1 (some .boolean) [.ref 2] h (qI Q) := by
  refine Sp.of (own := RX5) [some (.ref 2)] (by decide +kernel) rfl rfl (Nat.le_of_ble_eq_true rfl) (fun K hl C => ?_)
  subst hl
  unfold w_X5_readLink at hw
  refine PW.ald0n C dX5_readLink_0 ?_
  refine PW.ald0n C dX5_readLink_1 ?_
  obtain ⟨hz2, hq1, hw⟩ := hw
  refine PW.get0 C cf_5 fl_X5_36 (by decide) oX_2 (fvP rfl hz2) dX5_readLink_2 ?_
  refine PW.getN0 C cf_8 fl_X5_158 (by decide) hq1 (fvR (o := 3) rfl) dX5_readLink_5 ?_
  refine PW.bipush (v := 9) C dX5_readLink_8 (by decide) ?_
  refine PW.callVI2 C ms_X5_hasRoom ml_X5_139 dX5_readLink_10 oX_2 ⟨_, _, rfl⟩ (Nat.le_of_ble_eq_true rfl) (by decide) (Nat.le_of_ble_eq_true rfl) (s_X5_hasRoom (sf_8_1 hq1) hw) ?_
  clear hw
  intro z4 h3 hw
  refine PW.if_eq (tgt := 46) C dX5_readLink_13 (by decide) (fun c => ?_) (fun c => ?_)
  · rw [if_pos c] at hw
    refine PW.iconst (v := 0) C dX5_readLink_46 (by decide) ?_
    exact PW.zret C dX5_readLink_47 (by decide) ⟨_, rfl, hw⟩
  · rw [if_neg c] at hw
    refine PW.ald0n C dX5_readLink_16 ?_
    refine PW.ald0n C dX5_readLink_17 ?_
    obtain ⟨hz6, hq5, hw⟩ := hw
    refine PW.get0 C cf_5 fl_X5_36 (by decide) oX_2 (fvP rfl hz6) dX5_readLink_18 ?_
    refine PW.getN0 C cf_8 fl_X5_136 (by decide) hq5 (fvR (o := 1) rfl) dX5_readLink_21 ?_
    refine PW.iconst (v := 0) C dX5_readLink_24 (by decide) ?_
    refine PW.callVI2 C ms_X5_takeTold ml_X5_161 dX5_readLink_25 oX_2 ⟨_, _, rfl⟩ (Nat.le_of_ble_eq_true rfl) (by decide) (Nat.le_of_ble_eq_true rfl) (s_X5_takeTold (sf_8_0 hq5) hw) ?_
    clear hw
    intro z8 h7 hw
    refine PW.if_eq (tgt := 46) C dX5_readLink_28 (by decide) (fun c => ?_) (fun c => ?_)
    · rw [if_pos c] at hw
      refine PW.iconst (v := 0) C dX5_readLink_46 (by decide) ?_
      exact PW.zret C dX5_readLink_47 (by decide) ⟨_, rfl, hw⟩
    · rw [if_neg c] at hw
      refine PW.ald0n C dX5_readLink_31 ?_
      refine PW.ald0n C dX5_readLink_32 ?_
      obtain ⟨hz10, hq9, hw⟩ := hw
      refine PW.get0 C cf_5 fl_X5_36 (by decide) oX_2 (fvP rfl hz10) dX5_readLink_33 ?_
      refine PW.getN0 C cf_8 fl_X5_136 (by decide) hq9 (fvR (o := 1) rfl) dX5_readLink_36 ?_
      refine PW.iconst (v := 1) C dX5_readLink_39 (by decide) ?_
      refine PW.callVI2 C ms_X5_takeTold ml_X5_161 dX5_readLink_40 oX_2 ⟨_, _, rfl⟩ (Nat.le_of_ble_eq_true rfl) (by decide) (Nat.le_of_ble_eq_true rfl) (s_X5_takeTold (sf_8_0 hq9) hw) ?_
      clear hw
      intro z12 h11 hw
      refine PW.if_ne (tgt := 48) C dX5_readLink_43 (by decide) (fun c => ?_) (fun c => ?_)
      · rw [if_neg c] at hw
        refine PW.ald0n C dX5_readLink_48 ?_
        refine PW.get0 (v := .ref 5) C cf_5 fl_X5_18 (by decide) oX_2 (fvR (o := 3) rfl) dX5_readLink_49 ?_
        refine PW.iconst (v := 0) C dX5_readLink_52 (by decide) ?_
        refine PW.iald C dX5_readLink_53 aX_5 (vpl (by decide)) ?_
        refine PW.ald0n C dX5_readLink_54 ?_
        refine PW.get0 (v := .ref 5) C cf_5 fl_X5_18 (by decide) oX_2 (fvR (o := 3) rfl) dX5_readLink_55 ?_
        refine PW.iconst (v := 1) C dX5_readLink_58 (by decide) ?_
        refine PW.iald C dX5_readLink_59 aX_5 (vpl (by decide)) ?_
        refine PW.icmp_ne (tgt := 69) C dX5_readLink_60 (by decide) (fun c => ?_) (fun c => ?_)
        · rw [if_neg c] at hw
          refine PW.ald0n C dX5_readLink_69 ?_
          refine PW.ald0n C dX5_readLink_70 ?_
          refine PW.get0 (v := .ref 5) C cf_5 fl_X5_18 (by decide) oX_2 (fvR (o := 3) rfl) dX5_readLink_71 ?_
          refine PW.iconst (v := 0) C dX5_readLink_74 (by decide) ?_
          refine PW.iald C dX5_readLink_75 aX_5 (vpl (by decide)) ?_
          refine PW.ald0n C dX5_readLink_76 ?_
          refine PW.get0 (v := .ref 5) C cf_5 fl_X5_18 (by decide) oX_2 (fvR (o := 3) rfl) dX5_readLink_77 ?_
          refine PW.iconst (v := 1) C dX5_readLink_80 (by decide) ?_
          refine PW.iald C dX5_readLink_81 aX_5 (vpl (by decide)) ?_
          refine PW.callVI2 C ms_X5_isLinked ml_X5_164 dX5_readLink_82 oX_2 ⟨_, _, rfl⟩ (Nat.le_of_ble_eq_true rfl) (by decide) (Nat.le_of_ble_eq_true rfl) (s_X5_isLinked hw) ?_
          clear hw
          intro z14 h13 hw
          refine PW.if_ne (tgt := 107) C dX5_readLink_85 (by decide) (fun c => ?_) (fun c => ?_)
          · rw [if_neg c] at hw
            exact PW.wk (wk_s wk_0) (b_X5_readLink_107 C hw)
          · rw [if_pos c] at hw
            refine PW.ald0n C dX5_readLink_88 ?_
            refine PW.ald0n C dX5_readLink_89 ?_
            refine PW.get0 (v := .ref 5) C cf_5 fl_X5_18 (by decide) oX_2 (fvR (o := 3) rfl) dX5_readLink_90 ?_
            refine PW.iconst (v := 1) C dX5_readLink_93 (by decide) ?_
            refine PW.iald C dX5_readLink_94 aX_5 (vpl (by decide)) ?_
            refine PW.ald0n C dX5_readLink_95 ?_
            refine PW.get0 (v := .ref 5) C cf_5 fl_X5_18 (by decide) oX_2 (fvR (o := 3) rfl) dX5_readLink_96 ?_
            refine PW.iconst (v := 0) C dX5_readLink_99 (by decide) ?_
            refine PW.iald C dX5_readLink_100 aX_5 (vpl (by decide)) ?_
            refine PW.callVI2 C ms_X5_isLinked ml_X5_164 dX5_readLink_101 oX_2 ⟨_, _, rfl⟩ (Nat.le_of_ble_eq_true rfl) (by decide) (Nat.le_of_ble_eq_true rfl) (s_X5_isLinked hw) ?_
            clear hw
            intro z18 h17 hw
            refine PW.if_eq (tgt := 113) C dX5_readLink_104 (by decide) (fun c => ?_) (fun c => ?_)
            · rw [if_pos c] at hw
              refine PW.ald0n C dX5_readLink_113 ?_
              refine PW.get0 (v := .ref 5) C cf_5 fl_X5_18 (by decide) oX_2 (fvR (o := 3) rfl) dX5_readLink_114 ?_
              refine PW.iconst (v := 3) C dX5_readLink_117 (by decide) ?_
              refine PW.iconst (v := 0) C dX5_readLink_118 (by decide) ?_
              replace hw := hw _ rfl
              refine PW.iast C dX5_readLink_119 aX_5 (vpl (by decide)) ?_
              refine PW.ald0n C dX5_readLink_120 ?_
              refine PW.iconst (v := 2) C dX5_readLink_121 (by decide) ?_
              refine PW.iconst (v := 1) C dX5_readLink_122 (by decide) ?_
              refine PW.bipush (v := 9) C dX5_readLink_123 (by decide) ?_
              refine PW.callVI3 C ms_X5_takeNumber ml_X5_155 dX5_readLink_125 oX_2 ⟨_, _, rfl⟩ (Nat.le_of_ble_eq_true rfl) (by decide) (Nat.le_of_ble_eq_true rfl) (s_X5_takeNumber hw) ?_
              clear hw
              intro z21 h20 hw
              refine PW.if_eq (tgt := 156) C dX5_readLink_128 (by decide) (fun c => ?_) (fun c => ?_)
              · rw [if_pos c] at hw
                refine PW.iconst (v := 0) C dX5_readLink_156 (by decide) ?_
                exact PW.zret C dX5_readLink_157 (by decide) ⟨_, rfl, hw⟩
              · rw [if_neg c] at hw
                refine PW.ald0n C dX5_readLink_131 ?_
                refine PW.callVI0 C ms_X5_takeEnd ml_X5_146 dX5_readLink_132 oX_2 ⟨_, _, rfl⟩ (Nat.le_of_ble_eq_true rfl) (by decide) (Nat.le_of_ble_eq_true rfl) (s_X5_takeEnd hw) ?_
                clear hw
                intro z23 h22 hw
                refine PW.if_eq (tgt := 156) C dX5_readLink_135 (by decide) (fun c => ?_) (fun c => ?_)
                · rw [if_pos c] at hw
                  refine PW.iconst (v := 0) C dX5_readLink_156 (by decide) ?_
                  exact PW.zret C dX5_readLink_157 (by decide) ⟨_, rfl, hw⟩
                · rw [if_neg c] at hw
                  refine PW.ald0n C dX5_readLink_138 ?_
                  refine PW.ald0n C dX5_readLink_139 ?_
                  obtain ⟨hz25, hq24, hw⟩ := hw
                  refine PW.get0 C cf_5 fl_X5_36 (by decide) oX_2 (fvP rfl hz25) dX5_readLink_140 ?_
                  refine PW.getN0 C cf_8 fl_X5_158 (by decide) hq24 (fvR (o := 3) rfl) dX5_readLink_143 ?_
                  refine PW.callVI1 C ms_X5_addRow ml_X5_149 dX5_readLink_146 oX_2 ⟨_, _, rfl⟩ (Nat.le_of_ble_eq_true rfl) (by decide) (Nat.le_of_ble_eq_true rfl) (s_X5_addRow (sf_8_1 hq24) hw) ?_
                  clear hw
                  intro z27 h26 hw
                  refine PW.if_eq (tgt := 156) C dX5_readLink_149 (by decide) (fun c => ?_) (fun c => ?_)
                  · rw [if_pos c] at hw
                    refine PW.iconst (v := 0) C dX5_readLink_156 (by decide) ?_
                    exact PW.zret C dX5_readLink_157 (by decide) ⟨_, rfl, hw⟩
                  · rw [if_neg c] at hw
                    refine PW.iconst (v := 1) C dX5_readLink_152 (by decide) ?_
                    refine PW.goto (tgt := 157) C dX5_readLink_153 (by decide) ?_
                    exact PW.zret C dX5_readLink_157 (by decide) ⟨_, rfl, hw⟩
            · rw [if_neg c] at hw
              exact PW.wk (wk_s wk_0) (b_X5_readLink_107 C hw)
        · rw [if_pos c] at hw
          refine PW.ald0n C dX5_readLink_63 ?_
          refine PW.iconst (v := 5) C dX5_readLink_64 (by decide) ?_
          refine PW.callVI1 C ms_X5_refuse ml_X5_70 dX5_readLink_65 oX_2 ⟨_, _, rfl⟩ (Nat.le_of_ble_eq_true rfl) (by decide) (Nat.le_of_ble_eq_true rfl) (s_X5_refuse hw) ?_
          clear hw
          intro z29 h28 hw
          obtain ⟨hz, hw⟩ := hw
          exact PW.zret C dX5_readLink_68 hz ⟨_, rfl, hw⟩
      · rw [if_pos c] at hw
        refine PW.iconst (v := 0) C dX5_readLink_46 (by decide) ?_
        exact PW.zret C dX5_readLink_47 (by decide) ⟨_, rfl, hw⟩
def w_X5_readOwner (h : PH) (Q : Int32 → PH → Prop) : Prop :=
  ∀ h1, h1 = sI h 5 (iN 2) (-1) → gP h1 2 7 ≠ 0 ∧ oX (gP h1 2 7 - 1) 8 ∧ w_X5_hasRoom ((gP h1 2 7 - 1) + 5) 4 h1 (fun z5 h4 => if z5 = 0 then (Q 0 h4) else (gP h4 2 7 ≠ 0 ∧ oX (gP h4 2 7 - 1) 8 ∧ w_X5_takeNewName ((gP h4 2 7 - 1) + 5) h4 (fun z9 h8 => if z9 = 0 then (Q 0 h8) else (w_X5_takeNumber 1 0 999 h8 (fun z11 h10 => if z11 = 0 then (Q 0 h10) else (w_X5_takeEnd h10 (fun z13 h12 => if z13 = 0 then (Q 0 h12) else (gP h12 2 7 ≠ 0 ∧ oX (gP h12 2 7 - 1) 8 ∧ w_X5_addRow ((gP h12 2 7 - 1) + 5) h12 (fun z17 h16 => if z17 = 0 then (Q 0 h16) else (Q 1 h16))))))))))
set_option maxRecDepth 8000 in
theorem s_X5_readOwner {D : va_G} {ca : Nat → ClassId} {ad : Nat → Nat} {l : Launch} {h : PH} {Q : Int32 → PH → Prop} (hw : w_X5_readOwner h Q) : Sp (GX D ca ad) (XS (GX D ca ad)) l 8 yX5_readOwner cX5_readOwner 1 (some .boolean) [.ref 2] h (qI Q) := by
  refine Sp.of (own := RX5) [some (.ref 2)] (by decide +kernel) rfl rfl (Nat.le_of_ble_eq_true rfl) (fun K hl C => ?_)
  subst hl
  unfold w_X5_readOwner at hw
  refine PW.ald0n C dX5_readOwner_0 ?_
  refine PW.get0 (v := .ref 5) C cf_5 fl_X5_18 (by decide) oX_2 (fvR (o := 3) rfl) dX5_readOwner_1 ?_
  refine PW.iconst (v := 2) C dX5_readOwner_4 (by decide) ?_
  refine PW.iconst (v := (-1)) C dX5_readOwner_5 (by decide) ?_
  replace hw := hw _ rfl
  refine PW.iast C dX5_readOwner_6 aX_5 (vpl (by decide)) ?_
  refine PW.ald0n C dX5_readOwner_7 ?_
  refine PW.ald0n C dX5_readOwner_8 ?_
  obtain ⟨hz3, hq2, hw⟩ := hw
  refine PW.get0 C cf_5 fl_X5_36 (by decide) oX_2 (fvP rfl hz3) dX5_readOwner_9 ?_
  refine PW.getN0 C cf_8 fl_X5_152 (by decide) hq2 (fvR (o := 5) rfl) dX5_readOwner_12 ?_
  refine PW.iconst (v := 4) C dX5_readOwner_15 (by decide) ?_
  refine PW.callVI2 C ms_X5_hasRoom ml_X5_139 dX5_readOwner_16 oX_2 ⟨_, _, rfl⟩ (Nat.le_of_ble_eq_true rfl) (by decide) (Nat.le_of_ble_eq_true rfl) (s_X5_hasRoom (sf_8_2 hq2) hw) ?_
  clear hw
  intro z5 h4 hw
  refine PW.if_eq (tgt := 73) C dX5_readOwner_19 (by decide) (fun c => ?_) (fun c => ?_)
  · rw [if_pos c] at hw
    refine PW.iconst (v := 0) C dX5_readOwner_73 (by decide) ?_
    exact PW.zret C dX5_readOwner_74 (by decide) ⟨_, rfl, hw⟩
  · rw [if_neg c] at hw
    refine PW.ald0n C dX5_readOwner_22 ?_
    refine PW.ald0n C dX5_readOwner_23 ?_
    obtain ⟨hz7, hq6, hw⟩ := hw
    refine PW.get0 C cf_5 fl_X5_36 (by decide) oX_2 (fvP rfl hz7) dX5_readOwner_24 ?_
    refine PW.getN0 C cf_8 fl_X5_152 (by decide) hq6 (fvR (o := 5) rfl) dX5_readOwner_27 ?_
    refine PW.callVI1 C ms_X5_takeNewName ml_X5_142 dX5_readOwner_30 oX_2 ⟨_, _, rfl⟩ (Nat.le_of_ble_eq_true rfl) (by decide) (Nat.le_of_ble_eq_true rfl) (s_X5_takeNewName (sf_8_2 hq6) hw) ?_
    clear hw
    intro z9 h8 hw
    refine PW.if_eq (tgt := 73) C dX5_readOwner_33 (by decide) (fun c => ?_) (fun c => ?_)
    · rw [if_pos c] at hw
      refine PW.iconst (v := 0) C dX5_readOwner_73 (by decide) ?_
      exact PW.zret C dX5_readOwner_74 (by decide) ⟨_, rfl, hw⟩
    · rw [if_neg c] at hw
      refine PW.ald0n C dX5_readOwner_36 ?_
      refine PW.iconst (v := 1) C dX5_readOwner_37 (by decide) ?_
      refine PW.iconst (v := 0) C dX5_readOwner_38 (by decide) ?_
      refine PW.sipush (v := 999) C dX5_readOwner_39 (by decide) ?_
      refine PW.callVI3 C ms_X5_takeNumber ml_X5_155 dX5_readOwner_42 oX_2 ⟨_, _, rfl⟩ (Nat.le_of_ble_eq_true rfl) (by decide) (Nat.le_of_ble_eq_true rfl) (s_X5_takeNumber hw) ?_
      clear hw
      intro z11 h10 hw
      refine PW.if_eq (tgt := 73) C dX5_readOwner_45 (by decide) (fun c => ?_) (fun c => ?_)
      · rw [if_pos c] at hw
        refine PW.iconst (v := 0) C dX5_readOwner_73 (by decide) ?_
        exact PW.zret C dX5_readOwner_74 (by decide) ⟨_, rfl, hw⟩
      · rw [if_neg c] at hw
        refine PW.ald0n C dX5_readOwner_48 ?_
        refine PW.callVI0 C ms_X5_takeEnd ml_X5_146 dX5_readOwner_49 oX_2 ⟨_, _, rfl⟩ (Nat.le_of_ble_eq_true rfl) (by decide) (Nat.le_of_ble_eq_true rfl) (s_X5_takeEnd hw) ?_
        clear hw
        intro z13 h12 hw
        refine PW.if_eq (tgt := 73) C dX5_readOwner_52 (by decide) (fun c => ?_) (fun c => ?_)
        · rw [if_pos c] at hw
          refine PW.iconst (v := 0) C dX5_readOwner_73 (by decide) ?_
          exact PW.zret C dX5_readOwner_74 (by decide) ⟨_, rfl, hw⟩
        · rw [if_neg c] at hw
          refine PW.ald0n C dX5_readOwner_55 ?_
          refine PW.ald0n C dX5_readOwner_56 ?_
          obtain ⟨hz15, hq14, hw⟩ := hw
          refine PW.get0 C cf_5 fl_X5_36 (by decide) oX_2 (fvP rfl hz15) dX5_readOwner_57 ?_
          refine PW.getN0 C cf_8 fl_X5_152 (by decide) hq14 (fvR (o := 5) rfl) dX5_readOwner_60 ?_
          refine PW.callVI1 C ms_X5_addRow ml_X5_149 dX5_readOwner_63 oX_2 ⟨_, _, rfl⟩ (Nat.le_of_ble_eq_true rfl) (by decide) (Nat.le_of_ble_eq_true rfl) (s_X5_addRow (sf_8_2 hq14) hw) ?_
          clear hw
          intro z17 h16 hw
          refine PW.if_eq (tgt := 73) C dX5_readOwner_66 (by decide) (fun c => ?_) (fun c => ?_)
          · rw [if_pos c] at hw
            refine PW.iconst (v := 0) C dX5_readOwner_73 (by decide) ?_
            exact PW.zret C dX5_readOwner_74 (by decide) ⟨_, rfl, hw⟩
          · rw [if_neg c] at hw
            refine PW.iconst (v := 1) C dX5_readOwner_69 (by decide) ?_
            refine PW.goto (tgt := 74) C dX5_readOwner_70 (by decide) ?_
            exact PW.zret C dX5_readOwner_74 (by decide) ⟨_, rfl, hw⟩
def w_X5_readHeir (h : PH) (Q : Int32 → PH → Prop) : Prop :=
  gP h 2 7 ≠ 0 ∧ oX (gP h 2 7 - 1) 8 ∧ w_X5_takeTold ((gP h 2 7 - 1) + 5) 0 h (fun z4 h3 => if z4 = 0 then (Q 0 h3) else (gP h3 2 7 ≠ 0 ∧ oX (gP h3 2 7 - 1) 8 ∧ w_X6_at ((gP h3 2 7 - 1) + 5) (gI h3 5 (iN 0)) 2 h3 (fun z8 h7 => if z8 = (-1) then (gP h7 2 7 ≠ 0 ∧ oX (gP h7 2 7 - 1) 8 ∧ w_X5_takeTold ((gP h7 2 7 - 1) + 5) 1 h7 (fun z12 h11 => if z12 = 0 then (Q 0 h11) else (if (gI h11 5 (iN 0)) = (gI h11 5 (iN 1)) then (w_X5_refuse 5 h11 (fun z19 h18 => (z19 = 0 ∨ z19 = 1) ∧ Q z19 h18)) else (gP h11 2 7 ≠ 0 ∧ oX (gP h11 2 7 - 1) 8 ∧ w_X6_put ((gP h11 2 7 - 1) + 5) (gI h11 5 (iN 0)) 2 (gI h11 5 (iN 1)) h11 (fun h15 => w_X5_takeEnd h15 (fun z17 h16 => (z17 = 0 ∨ z17 = 1) ∧ Q z17 h16)))))) else (w_X5_refuse 3 h7 (fun z21 h20 => (z21 = 0 ∨ z21 = 1) ∧ Q z21 h20)))))
set_option maxRecDepth 8000 in
theorem s_X5_readHeir {D : va_G} {ca : Nat → ClassId} {ad : Nat → Nat} {l : Launch} {h : PH} {Q : Int32 → PH → Prop} (hw : w_X5_readHeir h Q) : Sp (GX D ca ad) (XS (GX D ca ad)) l 8 yX5_readHeir cX5_readHeir 1 (some .boolean) [.ref 2] h (qI Q) := by
  refine Sp.of (own := RX5) [some (.ref 2)] (by decide +kernel) rfl rfl (Nat.le_of_ble_eq_true rfl) (fun K hl C => ?_)
  subst hl
  unfold w_X5_readHeir at hw
  refine PW.ald0n C dX5_readHeir_0 ?_
  refine PW.ald0n C dX5_readHeir_1 ?_
  obtain ⟨hz2, hq1, hw⟩ := hw
  refine PW.get0 C cf_5 fl_X5_36 (by decide) oX_2 (fvP rfl hz2) dX5_readHeir_2 ?_
  refine PW.getN0 C cf_8 fl_X5_152 (by decide) hq1 (fvR (o := 5) rfl) dX5_readHeir_5 ?_
  refine PW.iconst (v := 0) C dX5_readHeir_8 (by decide) ?_
  refine PW.callVI2 C ms_X5_takeTold ml_X5_161 dX5_readHeir_9 oX_2 ⟨_, _, rfl⟩ (Nat.le_of_ble_eq_true rfl) (by decide) (Nat.le_of_ble_eq_true rfl) (s_X5_takeTold (sf_8_2 hq1) hw) ?_
  clear hw
  intro z4 h3 hw
  refine PW.if_ne (tgt := 17) C dX5_readHeir_12 (by decide) (fun c => ?_) (fun c => ?_)
  · rw [if_neg c] at hw
    refine PW.ald0n C dX5_readHeir_17 ?_
    obtain ⟨hz6, hq5, hw⟩ := hw
    refine PW.get0 C cf_5 fl_X5_36 (by decide) oX_2 (fvP rfl hz6) dX5_readHeir_18 ?_
    refine PW.getN0 C cf_8 fl_X5_152 (by decide) hq5 (fvR (o := 5) rfl) dX5_readHeir_21 ?_
    refine PW.ald0n C dX5_readHeir_24 ?_
    refine PW.get0 (v := .ref 5) C cf_5 fl_X5_18 (by decide) oX_2 (fvR (o := 3) rfl) dX5_readHeir_25 ?_
    refine PW.iconst (v := 0) C dX5_readHeir_28 (by decide) ?_
    refine PW.iald C dX5_readHeir_29 aX_5 (vpl (by decide)) ?_
    refine PW.iconst (v := 2) C dX5_readHeir_30 (by decide) ?_
    refine PW.callVI2 C ms_X6_at ml_X5_168 dX5_readHeir_31 (sf_8_2 hq5) ⟨_, _, rfl⟩ (Nat.le_of_ble_eq_true rfl) (by decide) (Nat.le_of_ble_eq_true rfl) (s_X6_at (sf_8_2 hq5) hw) ?_
    clear hw
    intro z8 h7 hw
    refine PW.iconst (v := (-1)) C dX5_readHeir_34 (by decide) ?_
    refine PW.icmp_eq (tgt := 44) C dX5_readHeir_35 (by decide) (fun c => ?_) (fun c => ?_)
    · rw [if_pos c] at hw
      refine PW.ald0n C dX5_readHeir_44 ?_
      refine PW.ald0n C dX5_readHeir_45 ?_
      obtain ⟨hz10, hq9, hw⟩ := hw
      refine PW.get0 C cf_5 fl_X5_36 (by decide) oX_2 (fvP rfl hz10) dX5_readHeir_46 ?_
      refine PW.getN0 C cf_8 fl_X5_152 (by decide) hq9 (fvR (o := 5) rfl) dX5_readHeir_49 ?_
      refine PW.iconst (v := 1) C dX5_readHeir_52 (by decide) ?_
      refine PW.callVI2 C ms_X5_takeTold ml_X5_161 dX5_readHeir_53 oX_2 ⟨_, _, rfl⟩ (Nat.le_of_ble_eq_true rfl) (by decide) (Nat.le_of_ble_eq_true rfl) (s_X5_takeTold (sf_8_2 hq9) hw) ?_
      clear hw
      intro z12 h11 hw
      refine PW.if_ne (tgt := 61) C dX5_readHeir_56 (by decide) (fun c => ?_) (fun c => ?_)
      · rw [if_neg c] at hw
        refine PW.ald0n C dX5_readHeir_61 ?_
        refine PW.get0 (v := .ref 5) C cf_5 fl_X5_18 (by decide) oX_2 (fvR (o := 3) rfl) dX5_readHeir_62 ?_
        refine PW.iconst (v := 0) C dX5_readHeir_65 (by decide) ?_
        refine PW.iald C dX5_readHeir_66 aX_5 (vpl (by decide)) ?_
        refine PW.ald0n C dX5_readHeir_67 ?_
        refine PW.get0 (v := .ref 5) C cf_5 fl_X5_18 (by decide) oX_2 (fvR (o := 3) rfl) dX5_readHeir_68 ?_
        refine PW.iconst (v := 1) C dX5_readHeir_71 (by decide) ?_
        refine PW.iald C dX5_readHeir_72 aX_5 (vpl (by decide)) ?_
        refine PW.icmp_ne (tgt := 82) C dX5_readHeir_73 (by decide) (fun c => ?_) (fun c => ?_)
        · rw [if_neg c] at hw
          refine PW.ald0n C dX5_readHeir_82 ?_
          obtain ⟨hz14, hq13, hw⟩ := hw
          refine PW.get0 C cf_5 fl_X5_36 (by decide) oX_2 (fvP rfl hz14) dX5_readHeir_83 ?_
          refine PW.getN0 C cf_8 fl_X5_152 (by decide) hq13 (fvR (o := 5) rfl) dX5_readHeir_86 ?_
          refine PW.ald0n C dX5_readHeir_89 ?_
          refine PW.get0 (v := .ref 5) C cf_5 fl_X5_18 (by decide) oX_2 (fvR (o := 3) rfl) dX5_readHeir_90 ?_
          refine PW.iconst (v := 0) C dX5_readHeir_93 (by decide) ?_
          refine PW.iald C dX5_readHeir_94 aX_5 (vpl (by decide)) ?_
          refine PW.iconst (v := 2) C dX5_readHeir_95 (by decide) ?_
          refine PW.ald0n C dX5_readHeir_96 ?_
          refine PW.get0 (v := .ref 5) C cf_5 fl_X5_18 (by decide) oX_2 (fvR (o := 3) rfl) dX5_readHeir_97 ?_
          refine PW.iconst (v := 1) C dX5_readHeir_100 (by decide) ?_
          refine PW.iald C dX5_readHeir_101 aX_5 (vpl (by decide)) ?_
          refine PW.callVV3 C ms_X6_put ml_X5_170 dX5_readHeir_102 (sf_8_2 hq13) ⟨_, _, rfl⟩ (Nat.le_of_ble_eq_true rfl) (by decide) (Nat.le_of_ble_eq_true rfl) (s_X6_put (sf_8_2 hq13) hw) ?_
          clear hw
          intro h15 hw
          refine PW.ald0n C dX5_readHeir_105 ?_
          refine PW.callVI0 C ms_X5_takeEnd ml_X5_146 dX5_readHeir_106 oX_2 ⟨_, _, rfl⟩ (Nat.le_of_ble_eq_true rfl) (by decide) (Nat.le_of_ble_eq_true rfl) (s_X5_takeEnd hw) ?_
          clear hw
          intro z17 h16 hw
          obtain ⟨hz, hw⟩ := hw
          exact PW.zret C dX5_readHeir_109 hz ⟨_, rfl, hw⟩
        · rw [if_pos c] at hw
          refine PW.ald0n C dX5_readHeir_76 ?_
          refine PW.iconst (v := 5) C dX5_readHeir_77 (by decide) ?_
          refine PW.callVI1 C ms_X5_refuse ml_X5_70 dX5_readHeir_78 oX_2 ⟨_, _, rfl⟩ (Nat.le_of_ble_eq_true rfl) (by decide) (Nat.le_of_ble_eq_true rfl) (s_X5_refuse hw) ?_
          clear hw
          intro z19 h18 hw
          obtain ⟨hz, hw⟩ := hw
          exact PW.zret C dX5_readHeir_81 hz ⟨_, rfl, hw⟩
      · rw [if_pos c] at hw
        refine PW.iconst (v := 0) C dX5_readHeir_59 (by decide) ?_
        exact PW.zret C dX5_readHeir_60 (by decide) ⟨_, rfl, hw⟩
    · rw [if_neg c] at hw
      refine PW.ald0n C dX5_readHeir_38 ?_
      refine PW.iconst (v := 3) C dX5_readHeir_39 (by decide) ?_
      refine PW.callVI1 C ms_X5_refuse ml_X5_70 dX5_readHeir_40 oX_2 ⟨_, _, rfl⟩ (Nat.le_of_ble_eq_true rfl) (by decide) (Nat.le_of_ble_eq_true rfl) (s_X5_refuse hw) ?_
      clear hw
      intro z21 h20 hw
      obtain ⟨hz, hw⟩ := hw
      exact PW.zret C dX5_readHeir_43 hz ⟨_, rfl, hw⟩
  · rw [if_pos c] at hw
    refine PW.iconst (v := 0) C dX5_readHeir_15 (by decide) ?_
    exact PW.zret C dX5_readHeir_16 (by decide) ⟨_, rfl, hw⟩
def w_X5_readNoise (h : PH) (Q : Int32 → PH → Prop) : Prop :=
  gP h 2 7 ≠ 0 ∧ oX (gP h 2 7 - 1) 8 ∧ w_X5_hasRoom ((gP h 2 7 - 1) + 7) 8 h (fun z4 h3 => if z4 = 0 then (Q 0 h3) else (gP h3 2 7 ≠ 0 ∧ oX (gP h3 2 7 - 1) 8 ∧ w_X5_takeTold ((gP h3 2 7 - 1) + 1) 0 h3 (fun z8 h7 => if z8 = 0 then (Q 0 h7) else (gP h7 2 7 ≠ 0 ∧ oX (gP h7 2 7 - 1) 8 ∧ w_X5_takeTold ((gP h7 2 7 - 1) + 5) 1 h7 (fun z12 h11 => if z12 = 0 then (Q 0 h11) else (w_X5_takeNumber 2 0 47 h11 (fun z14 h13 => if z14 = 0 then (Q 0 h13) else (w_X5_takeNumber 3 (gI h13 5 (iN 2)) 47 h13 (fun z16 h15 => if z16 = 0 then (Q 0 h15) else (w_X5_takeNumber 4 1 20 h15 (fun z18 h17 => if z18 = 0 then (Q 0 h17) else (w_X5_takeEnd h17 (fun z20 h19 => if z20 = 0 then (Q 0 h19) else (gP h19 2 7 ≠ 0 ∧ oX (gP h19 2 7 - 1) 8 ∧ w_X5_addRow ((gP h19 2 7 - 1) + 7) h19 (fun z24 h23 => if z24 = 0 then (Q 0 h23) else (Q 1 h23))))))))))))))))
set_option maxRecDepth 8000 in
theorem s_X5_readNoise {D : va_G} {ca : Nat → ClassId} {ad : Nat → Nat} {l : Launch} {h : PH} {Q : Int32 → PH → Prop} (hw : w_X5_readNoise h Q) : Sp (GX D ca ad) (XS (GX D ca ad)) l 8 yX5_readNoise cX5_readNoise 1 (some .boolean) [.ref 2] h (qI Q) := by
  refine Sp.of (own := RX5) [some (.ref 2)] (by decide +kernel) rfl rfl (Nat.le_of_ble_eq_true rfl) (fun K hl C => ?_)
  subst hl
  unfold w_X5_readNoise at hw
  refine PW.ald0n C dX5_readNoise_0 ?_
  refine PW.ald0n C dX5_readNoise_1 ?_
  obtain ⟨hz2, hq1, hw⟩ := hw
  refine PW.get0 C cf_5 fl_X5_36 (by decide) oX_2 (fvP rfl hz2) dX5_readNoise_2 ?_
  refine PW.getN0 C cf_8 fl_X5_174 (by decide) hq1 (fvR (o := 7) rfl) dX5_readNoise_5 ?_
  refine PW.bipush (v := 8) C dX5_readNoise_8 (by decide) ?_
  refine PW.callVI2 C ms_X5_hasRoom ml_X5_139 dX5_readNoise_10 oX_2 ⟨_, _, rfl⟩ (Nat.le_of_ble_eq_true rfl) (by decide) (Nat.le_of_ble_eq_true rfl) (s_X5_hasRoom (sf_8_3 hq1) hw) ?_
  clear hw
  intro z4 h3 hw
  refine PW.if_eq (tgt := 109) C dX5_readNoise_13 (by decide) (fun c => ?_) (fun c => ?_)
  · rw [if_pos c] at hw
    refine PW.iconst (v := 0) C dX5_readNoise_109 (by decide) ?_
    exact PW.zret C dX5_readNoise_110 (by decide) ⟨_, rfl, hw⟩
  · rw [if_neg c] at hw
    refine PW.ald0n C dX5_readNoise_16 ?_
    refine PW.ald0n C dX5_readNoise_17 ?_
    obtain ⟨hz6, hq5, hw⟩ := hw
    refine PW.get0 C cf_5 fl_X5_36 (by decide) oX_2 (fvP rfl hz6) dX5_readNoise_18 ?_
    refine PW.getN0 C cf_8 fl_X5_136 (by decide) hq5 (fvR (o := 1) rfl) dX5_readNoise_21 ?_
    refine PW.iconst (v := 0) C dX5_readNoise_24 (by decide) ?_
    refine PW.callVI2 C ms_X5_takeTold ml_X5_161 dX5_readNoise_25 oX_2 ⟨_, _, rfl⟩ (Nat.le_of_ble_eq_true rfl) (by decide) (Nat.le_of_ble_eq_true rfl) (s_X5_takeTold (sf_8_0 hq5) hw) ?_
    clear hw
    intro z8 h7 hw
    refine PW.if_eq (tgt := 109) C dX5_readNoise_28 (by decide) (fun c => ?_) (fun c => ?_)
    · rw [if_pos c] at hw
      refine PW.iconst (v := 0) C dX5_readNoise_109 (by decide) ?_
      exact PW.zret C dX5_readNoise_110 (by decide) ⟨_, rfl, hw⟩
    · rw [if_neg c] at hw
      refine PW.ald0n C dX5_readNoise_31 ?_
      refine PW.ald0n C dX5_readNoise_32 ?_
      obtain ⟨hz10, hq9, hw⟩ := hw
      refine PW.get0 C cf_5 fl_X5_36 (by decide) oX_2 (fvP rfl hz10) dX5_readNoise_33 ?_
      refine PW.getN0 C cf_8 fl_X5_152 (by decide) hq9 (fvR (o := 5) rfl) dX5_readNoise_36 ?_
      refine PW.iconst (v := 1) C dX5_readNoise_39 (by decide) ?_
      refine PW.callVI2 C ms_X5_takeTold ml_X5_161 dX5_readNoise_40 oX_2 ⟨_, _, rfl⟩ (Nat.le_of_ble_eq_true rfl) (by decide) (Nat.le_of_ble_eq_true rfl) (s_X5_takeTold (sf_8_2 hq9) hw) ?_
      clear hw
      intro z12 h11 hw
      refine PW.if_eq (tgt := 109) C dX5_readNoise_43 (by decide) (fun c => ?_) (fun c => ?_)
      · rw [if_pos c] at hw
        refine PW.iconst (v := 0) C dX5_readNoise_109 (by decide) ?_
        exact PW.zret C dX5_readNoise_110 (by decide) ⟨_, rfl, hw⟩
      · rw [if_neg c] at hw
        refine PW.ald0n C dX5_readNoise_46 ?_
        refine PW.iconst (v := 2) C dX5_readNoise_47 (by decide) ?_
        refine PW.iconst (v := 0) C dX5_readNoise_48 (by decide) ?_
        refine PW.bipush (v := 47) C dX5_readNoise_49 (by decide) ?_
        refine PW.callVI3 C ms_X5_takeNumber ml_X5_155 dX5_readNoise_51 oX_2 ⟨_, _, rfl⟩ (Nat.le_of_ble_eq_true rfl) (by decide) (Nat.le_of_ble_eq_true rfl) (s_X5_takeNumber hw) ?_
        clear hw
        intro z14 h13 hw
        refine PW.if_eq (tgt := 109) C dX5_readNoise_54 (by decide) (fun c => ?_) (fun c => ?_)
        · rw [if_pos c] at hw
          refine PW.iconst (v := 0) C dX5_readNoise_109 (by decide) ?_
          exact PW.zret C dX5_readNoise_110 (by decide) ⟨_, rfl, hw⟩
        · rw [if_neg c] at hw
          refine PW.ald0n C dX5_readNoise_57 ?_
          refine PW.iconst (v := 3) C dX5_readNoise_58 (by decide) ?_
          refine PW.ald0n C dX5_readNoise_59 ?_
          refine PW.get0 (v := .ref 5) C cf_5 fl_X5_18 (by decide) oX_2 (fvR (o := 3) rfl) dX5_readNoise_60 ?_
          refine PW.iconst (v := 2) C dX5_readNoise_63 (by decide) ?_
          refine PW.iald C dX5_readNoise_64 aX_5 (vpl (by decide)) ?_
          refine PW.bipush (v := 47) C dX5_readNoise_65 (by decide) ?_
          refine PW.callVI3 C ms_X5_takeNumber ml_X5_155 dX5_readNoise_67 oX_2 ⟨_, _, rfl⟩ (Nat.le_of_ble_eq_true rfl) (by decide) (Nat.le_of_ble_eq_true rfl) (s_X5_takeNumber hw) ?_
          clear hw
          intro z16 h15 hw
          refine PW.if_eq (tgt := 109) C dX5_readNoise_70 (by decide) (fun c => ?_) (fun c => ?_)
          · rw [if_pos c] at hw
            refine PW.iconst (v := 0) C dX5_readNoise_109 (by decide) ?_
            exact PW.zret C dX5_readNoise_110 (by decide) ⟨_, rfl, hw⟩
          · rw [if_neg c] at hw
            refine PW.ald0n C dX5_readNoise_73 ?_
            refine PW.iconst (v := 4) C dX5_readNoise_74 (by decide) ?_
            refine PW.iconst (v := 1) C dX5_readNoise_75 (by decide) ?_
            refine PW.bipush (v := 20) C dX5_readNoise_76 (by decide) ?_
            refine PW.callVI3 C ms_X5_takeNumber ml_X5_155 dX5_readNoise_78 oX_2 ⟨_, _, rfl⟩ (Nat.le_of_ble_eq_true rfl) (by decide) (Nat.le_of_ble_eq_true rfl) (s_X5_takeNumber hw) ?_
            clear hw
            intro z18 h17 hw
            refine PW.if_eq (tgt := 109) C dX5_readNoise_81 (by decide) (fun c => ?_) (fun c => ?_)
            · rw [if_pos c] at hw
              refine PW.iconst (v := 0) C dX5_readNoise_109 (by decide) ?_
              exact PW.zret C dX5_readNoise_110 (by decide) ⟨_, rfl, hw⟩
            · rw [if_neg c] at hw
              refine PW.ald0n C dX5_readNoise_84 ?_
              refine PW.callVI0 C ms_X5_takeEnd ml_X5_146 dX5_readNoise_85 oX_2 ⟨_, _, rfl⟩ (Nat.le_of_ble_eq_true rfl) (by decide) (Nat.le_of_ble_eq_true rfl) (s_X5_takeEnd hw) ?_
              clear hw
              intro z20 h19 hw
              refine PW.if_eq (tgt := 109) C dX5_readNoise_88 (by decide) (fun c => ?_) (fun c => ?_)
              · rw [if_pos c] at hw
                refine PW.iconst (v := 0) C dX5_readNoise_109 (by decide) ?_
                exact PW.zret C dX5_readNoise_110 (by decide) ⟨_, rfl, hw⟩
              · rw [if_neg c] at hw
                refine PW.ald0n C dX5_readNoise_91 ?_
                refine PW.ald0n C dX5_readNoise_92 ?_
                obtain ⟨hz22, hq21, hw⟩ := hw
                refine PW.get0 C cf_5 fl_X5_36 (by decide) oX_2 (fvP rfl hz22) dX5_readNoise_93 ?_
                refine PW.getN0 C cf_8 fl_X5_174 (by decide) hq21 (fvR (o := 7) rfl) dX5_readNoise_96 ?_
                refine PW.callVI1 C ms_X5_addRow ml_X5_149 dX5_readNoise_99 oX_2 ⟨_, _, rfl⟩ (Nat.le_of_ble_eq_true rfl) (by decide) (Nat.le_of_ble_eq_true rfl) (s_X5_addRow (sf_8_3 hq21) hw) ?_
                clear hw
                intro z24 h23 hw
                refine PW.if_eq (tgt := 109) C dX5_readNoise_102 (by decide) (fun c => ?_) (fun c => ?_)
                · rw [if_pos c] at hw
                  refine PW.iconst (v := 0) C dX5_readNoise_109 (by decide) ?_
                  exact PW.zret C dX5_readNoise_110 (by decide) ⟨_, rfl, hw⟩
                · rw [if_neg c] at hw
                  refine PW.iconst (v := 1) C dX5_readNoise_105 (by decide) ?_
                  refine PW.goto (tgt := 110) C dX5_readNoise_106 (by decide) ?_
                  exact PW.zret C dX5_readNoise_110 (by decide) ⟨_, rfl, hw⟩
def w_X5_readHolding (r1 : Nat) (x2 : Int32) (h : PH) (Q : Int32 → PH → Prop) : Prop :=
  w_X5_hasRoom r1 x2 h (fun z2 h1 => if z2 = 0 then (Q 0 h1) else (gP h1 2 7 ≠ 0 ∧ oX (gP h1 2 7 - 1) 8 ∧ w_X5_takeTold ((gP h1 2 7 - 1) + 5) 0 h1 (fun z6 h5 => if z6 = 0 then (Q 0 h5) else (gP h5 2 7 ≠ 0 ∧ oX (gP h5 2 7 - 1) 8 ∧ w_X5_takeTold ((gP h5 2 7 - 1) + 1) 1 h5 (fun z10 h9 => if z10 = 0 then (Q 0 h9) else (w_X5_takeNumber 2 0 47 h9 (fun z12 h11 => if z12 = 0 then (Q 0 h11) else (w_X5_takeNumber 3 (gI h11 5 (iN 2)) 47 h11 (fun z14 h13 => if z14 = 0 then (Q 0 h13) else (w_X5_takeEnd h13 (fun z16 h15 => if z16 = 0 then (Q 0 h15) else (w_X5_addRow r1 h15 (fun z18 h17 => if z18 = 0 then (Q 0 h17) else (Q 1 h17))))))))))))))
set_option maxRecDepth 8000 in
theorem s_X5_readHolding {D : va_G} {ca : Nat → ClassId} {ad : Nat → Nat} {l : Launch} {r1 : Nat} {x2 : Int32} {h : PH} {Q : Int32 → PH → Prop} (hr1 : oX r1 6) (hw : w_X5_readHolding r1 x2 h Q) : Sp (GX D ca ad) (XS (GX D ca ad)) l 8 yX5_readHolding cX5_readHolding 3 (some .boolean) [.ref 2, .ref r1, .int x2] h (qI Q) := by
  refine Sp.of (own := RX5) [some (.ref 2), some (.ref r1), some (.int x2)] (by decide +kernel) rfl rfl (Nat.le_of_ble_eq_true rfl) (fun K hl C => ?_)
  subst hl
  unfold w_X5_readHolding at hw
  refine PW.ald0n C dX5_readHolding_0 ?_
  refine PW.ald1n C dX5_readHolding_1 ?_
  refine PW.ild2n C dX5_readHolding_2 ?_
  refine PW.callVI2 C ms_X5_hasRoom ml_X5_139 dX5_readHolding_3 oX_2 ⟨_, _, rfl⟩ (Nat.le_of_ble_eq_true rfl) (by decide) (Nat.le_of_ble_eq_true rfl) (s_X5_hasRoom hr1 hw) ?_
  clear hw
  intro z2 h1 hw
  refine PW.if_eq (tgt := 85) C dX5_readHolding_6 (by decide) (fun c => ?_) (fun c => ?_)
  · rw [if_pos c] at hw
    refine PW.iconst (v := 0) C dX5_readHolding_85 (by decide) ?_
    exact PW.zret C dX5_readHolding_86 (by decide) ⟨_, rfl, hw⟩
  · rw [if_neg c] at hw
    refine PW.ald0n C dX5_readHolding_9 ?_
    refine PW.ald0n C dX5_readHolding_10 ?_
    obtain ⟨hz4, hq3, hw⟩ := hw
    refine PW.get0 C cf_5 fl_X5_36 (by decide) oX_2 (fvP rfl hz4) dX5_readHolding_11 ?_
    refine PW.getN0 C cf_8 fl_X5_152 (by decide) hq3 (fvR (o := 5) rfl) dX5_readHolding_14 ?_
    refine PW.iconst (v := 0) C dX5_readHolding_17 (by decide) ?_
    refine PW.callVI2 C ms_X5_takeTold ml_X5_161 dX5_readHolding_18 oX_2 ⟨_, _, rfl⟩ (Nat.le_of_ble_eq_true rfl) (by decide) (Nat.le_of_ble_eq_true rfl) (s_X5_takeTold (sf_8_2 hq3) hw) ?_
    clear hw
    intro z6 h5 hw
    refine PW.if_eq (tgt := 85) C dX5_readHolding_21 (by decide) (fun c => ?_) (fun c => ?_)
    · rw [if_pos c] at hw
      refine PW.iconst (v := 0) C dX5_readHolding_85 (by decide) ?_
      exact PW.zret C dX5_readHolding_86 (by decide) ⟨_, rfl, hw⟩
    · rw [if_neg c] at hw
      refine PW.ald0n C dX5_readHolding_24 ?_
      refine PW.ald0n C dX5_readHolding_25 ?_
      obtain ⟨hz8, hq7, hw⟩ := hw
      refine PW.get0 C cf_5 fl_X5_36 (by decide) oX_2 (fvP rfl hz8) dX5_readHolding_26 ?_
      refine PW.getN0 C cf_8 fl_X5_136 (by decide) hq7 (fvR (o := 1) rfl) dX5_readHolding_29 ?_
      refine PW.iconst (v := 1) C dX5_readHolding_32 (by decide) ?_
      refine PW.callVI2 C ms_X5_takeTold ml_X5_161 dX5_readHolding_33 oX_2 ⟨_, _, rfl⟩ (Nat.le_of_ble_eq_true rfl) (by decide) (Nat.le_of_ble_eq_true rfl) (s_X5_takeTold (sf_8_0 hq7) hw) ?_
      clear hw
      intro z10 h9 hw
      refine PW.if_eq (tgt := 85) C dX5_readHolding_36 (by decide) (fun c => ?_) (fun c => ?_)
      · rw [if_pos c] at hw
        refine PW.iconst (v := 0) C dX5_readHolding_85 (by decide) ?_
        exact PW.zret C dX5_readHolding_86 (by decide) ⟨_, rfl, hw⟩
      · rw [if_neg c] at hw
        refine PW.ald0n C dX5_readHolding_39 ?_
        refine PW.iconst (v := 2) C dX5_readHolding_40 (by decide) ?_
        refine PW.iconst (v := 0) C dX5_readHolding_41 (by decide) ?_
        refine PW.bipush (v := 47) C dX5_readHolding_42 (by decide) ?_
        refine PW.callVI3 C ms_X5_takeNumber ml_X5_155 dX5_readHolding_44 oX_2 ⟨_, _, rfl⟩ (Nat.le_of_ble_eq_true rfl) (by decide) (Nat.le_of_ble_eq_true rfl) (s_X5_takeNumber hw) ?_
        clear hw
        intro z12 h11 hw
        refine PW.if_eq (tgt := 85) C dX5_readHolding_47 (by decide) (fun c => ?_) (fun c => ?_)
        · rw [if_pos c] at hw
          refine PW.iconst (v := 0) C dX5_readHolding_85 (by decide) ?_
          exact PW.zret C dX5_readHolding_86 (by decide) ⟨_, rfl, hw⟩
        · rw [if_neg c] at hw
          refine PW.ald0n C dX5_readHolding_50 ?_
          refine PW.iconst (v := 3) C dX5_readHolding_51 (by decide) ?_
          refine PW.ald0n C dX5_readHolding_52 ?_
          refine PW.get0 (v := .ref 5) C cf_5 fl_X5_18 (by decide) oX_2 (fvR (o := 3) rfl) dX5_readHolding_53 ?_
          refine PW.iconst (v := 2) C dX5_readHolding_56 (by decide) ?_
          refine PW.iald C dX5_readHolding_57 aX_5 (vpl (by decide)) ?_
          refine PW.bipush (v := 47) C dX5_readHolding_58 (by decide) ?_
          refine PW.callVI3 C ms_X5_takeNumber ml_X5_155 dX5_readHolding_60 oX_2 ⟨_, _, rfl⟩ (Nat.le_of_ble_eq_true rfl) (by decide) (Nat.le_of_ble_eq_true rfl) (s_X5_takeNumber hw) ?_
          clear hw
          intro z14 h13 hw
          refine PW.if_eq (tgt := 85) C dX5_readHolding_63 (by decide) (fun c => ?_) (fun c => ?_)
          · rw [if_pos c] at hw
            refine PW.iconst (v := 0) C dX5_readHolding_85 (by decide) ?_
            exact PW.zret C dX5_readHolding_86 (by decide) ⟨_, rfl, hw⟩
          · rw [if_neg c] at hw
            refine PW.ald0n C dX5_readHolding_66 ?_
            refine PW.callVI0 C ms_X5_takeEnd ml_X5_146 dX5_readHolding_67 oX_2 ⟨_, _, rfl⟩ (Nat.le_of_ble_eq_true rfl) (by decide) (Nat.le_of_ble_eq_true rfl) (s_X5_takeEnd hw) ?_
            clear hw
            intro z16 h15 hw
            refine PW.if_eq (tgt := 85) C dX5_readHolding_70 (by decide) (fun c => ?_) (fun c => ?_)
            · rw [if_pos c] at hw
              refine PW.iconst (v := 0) C dX5_readHolding_85 (by decide) ?_
              exact PW.zret C dX5_readHolding_86 (by decide) ⟨_, rfl, hw⟩
            · rw [if_neg c] at hw
              refine PW.ald0n C dX5_readHolding_73 ?_
              refine PW.ald1n C dX5_readHolding_74 ?_
              refine PW.callVI1 C ms_X5_addRow ml_X5_149 dX5_readHolding_75 oX_2 ⟨_, _, rfl⟩ (Nat.le_of_ble_eq_true rfl) (by decide) (Nat.le_of_ble_eq_true rfl) (s_X5_addRow hr1 hw) ?_
              clear hw
              intro z18 h17 hw
              refine PW.if_eq (tgt := 85) C dX5_readHolding_78 (by decide) (fun c => ?_) (fun c => ?_)
              · rw [if_pos c] at hw
                refine PW.iconst (v := 0) C dX5_readHolding_85 (by decide) ?_
                exact PW.zret C dX5_readHolding_86 (by decide) ⟨_, rfl, hw⟩
              · rw [if_neg c] at hw
                refine PW.iconst (v := 1) C dX5_readHolding_81 (by decide) ?_
                refine PW.goto (tgt := 86) C dX5_readHolding_82 (by decide) ?_
                exact PW.zret C dX5_readHolding_86 (by decide) ⟨_, rfl, hw⟩
def w_X5_readTask (h : PH) (Q : Int32 → PH → Prop) : Prop :=
  gP h 2 7 ≠ 0 ∧ oX (gP h 2 7 - 1) 8 ∧ w_X5_hasRoom ((gP h 2 7 - 1) + 13) 4 h (fun z4 h3 => if z4 = 0 then (Q 0 h3) else (gP h3 2 7 ≠ 0 ∧ oX (gP h3 2 7 - 1) 8 ∧ w_X5_takeTold ((gP h3 2 7 - 1) + 5) 0 h3 (fun z8 h7 => if z8 = 0 then (Q 0 h7) else (gP h7 2 7 ≠ 0 ∧ oX (gP h7 2 7 - 1) 8 ∧ w_X5_takeTold ((gP h7 2 7 - 1) + 1) 1 h7 (fun z12 h11 => if z12 = 0 then (Q 0 h11) else (w_X5_takeNumber 2 1 12 h11 (fun z14 h13 => if z14 = 0 then (Q 0 h13) else (w_X5_takeNumber 3 1 20 h13 (fun z16 h15 => if z16 = 0 then (Q 0 h15) else (w_X5_takeEnd h15 (fun z18 h17 => if z18 = 0 then (Q 0 h17) else (gP h17 2 7 ≠ 0 ∧ oX (gP h17 2 7 - 1) 8 ∧ w_X5_addRow ((gP h17 2 7 - 1) + 13) h17 (fun z22 h21 => if z22 = 0 then (Q 0 h21) else (Q 1 h21))))))))))))))
set_option maxRecDepth 8000 in
theorem s_X5_readTask {D : va_G} {ca : Nat → ClassId} {ad : Nat → Nat} {l : Launch} {h : PH} {Q : Int32 → PH → Prop} (hw : w_X5_readTask h Q) : Sp (GX D ca ad) (XS (GX D ca ad)) l 8 yX5_readTask cX5_readTask 1 (some .boolean) [.ref 2] h (qI Q) := by
  refine Sp.of (own := RX5) [some (.ref 2)] (by decide +kernel) rfl rfl (Nat.le_of_ble_eq_true rfl) (fun K hl C => ?_)
  subst hl
  unfold w_X5_readTask at hw
  refine PW.ald0n C dX5_readTask_0 ?_
  refine PW.ald0n C dX5_readTask_1 ?_
  obtain ⟨hz2, hq1, hw⟩ := hw
  refine PW.get0 C cf_5 fl_X5_36 (by decide) oX_2 (fvP rfl hz2) dX5_readTask_2 ?_
  refine PW.getN0 C cf_8 fl_X5_177 (by decide) hq1 (fvR (o := 13) rfl) dX5_readTask_5 ?_
  refine PW.iconst (v := 4) C dX5_readTask_8 (by decide) ?_
  refine PW.callVI2 C ms_X5_hasRoom ml_X5_139 dX5_readTask_9 oX_2 ⟨_, _, rfl⟩ (Nat.le_of_ble_eq_true rfl) (by decide) (Nat.le_of_ble_eq_true rfl) (s_X5_hasRoom (sf_8_6 hq1) hw) ?_
  clear hw
  intro z4 h3 hw
  refine PW.if_eq (tgt := 92) C dX5_readTask_12 (by decide) (fun c => ?_) (fun c => ?_)
  · rw [if_pos c] at hw
    refine PW.iconst (v := 0) C dX5_readTask_92 (by decide) ?_
    exact PW.zret C dX5_readTask_93 (by decide) ⟨_, rfl, hw⟩
  · rw [if_neg c] at hw
    refine PW.ald0n C dX5_readTask_15 ?_
    refine PW.ald0n C dX5_readTask_16 ?_
    obtain ⟨hz6, hq5, hw⟩ := hw
    refine PW.get0 C cf_5 fl_X5_36 (by decide) oX_2 (fvP rfl hz6) dX5_readTask_17 ?_
    refine PW.getN0 C cf_8 fl_X5_152 (by decide) hq5 (fvR (o := 5) rfl) dX5_readTask_20 ?_
    refine PW.iconst (v := 0) C dX5_readTask_23 (by decide) ?_
    refine PW.callVI2 C ms_X5_takeTold ml_X5_161 dX5_readTask_24 oX_2 ⟨_, _, rfl⟩ (Nat.le_of_ble_eq_true rfl) (by decide) (Nat.le_of_ble_eq_true rfl) (s_X5_takeTold (sf_8_2 hq5) hw) ?_
    clear hw
    intro z8 h7 hw
    refine PW.if_eq (tgt := 92) C dX5_readTask_27 (by decide) (fun c => ?_) (fun c => ?_)
    · rw [if_pos c] at hw
      refine PW.iconst (v := 0) C dX5_readTask_92 (by decide) ?_
      exact PW.zret C dX5_readTask_93 (by decide) ⟨_, rfl, hw⟩
    · rw [if_neg c] at hw
      refine PW.ald0n C dX5_readTask_30 ?_
      refine PW.ald0n C dX5_readTask_31 ?_
      obtain ⟨hz10, hq9, hw⟩ := hw
      refine PW.get0 C cf_5 fl_X5_36 (by decide) oX_2 (fvP rfl hz10) dX5_readTask_32 ?_
      refine PW.getN0 C cf_8 fl_X5_136 (by decide) hq9 (fvR (o := 1) rfl) dX5_readTask_35 ?_
      refine PW.iconst (v := 1) C dX5_readTask_38 (by decide) ?_
      refine PW.callVI2 C ms_X5_takeTold ml_X5_161 dX5_readTask_39 oX_2 ⟨_, _, rfl⟩ (Nat.le_of_ble_eq_true rfl) (by decide) (Nat.le_of_ble_eq_true rfl) (s_X5_takeTold (sf_8_0 hq9) hw) ?_
      clear hw
      intro z12 h11 hw
      refine PW.if_eq (tgt := 92) C dX5_readTask_42 (by decide) (fun c => ?_) (fun c => ?_)
      · rw [if_pos c] at hw
        refine PW.iconst (v := 0) C dX5_readTask_92 (by decide) ?_
        exact PW.zret C dX5_readTask_93 (by decide) ⟨_, rfl, hw⟩
      · rw [if_neg c] at hw
        refine PW.ald0n C dX5_readTask_45 ?_
        refine PW.iconst (v := 2) C dX5_readTask_46 (by decide) ?_
        refine PW.iconst (v := 1) C dX5_readTask_47 (by decide) ?_
        refine PW.bipush (v := 12) C dX5_readTask_48 (by decide) ?_
        refine PW.callVI3 C ms_X5_takeNumber ml_X5_155 dX5_readTask_50 oX_2 ⟨_, _, rfl⟩ (Nat.le_of_ble_eq_true rfl) (by decide) (Nat.le_of_ble_eq_true rfl) (s_X5_takeNumber hw) ?_
        clear hw
        intro z14 h13 hw
        refine PW.if_eq (tgt := 92) C dX5_readTask_53 (by decide) (fun c => ?_) (fun c => ?_)
        · rw [if_pos c] at hw
          refine PW.iconst (v := 0) C dX5_readTask_92 (by decide) ?_
          exact PW.zret C dX5_readTask_93 (by decide) ⟨_, rfl, hw⟩
        · rw [if_neg c] at hw
          refine PW.ald0n C dX5_readTask_56 ?_
          refine PW.iconst (v := 3) C dX5_readTask_57 (by decide) ?_
          refine PW.iconst (v := 1) C dX5_readTask_58 (by decide) ?_
          refine PW.bipush (v := 20) C dX5_readTask_59 (by decide) ?_
          refine PW.callVI3 C ms_X5_takeNumber ml_X5_155 dX5_readTask_61 oX_2 ⟨_, _, rfl⟩ (Nat.le_of_ble_eq_true rfl) (by decide) (Nat.le_of_ble_eq_true rfl) (s_X5_takeNumber hw) ?_
          clear hw
          intro z16 h15 hw
          refine PW.if_eq (tgt := 92) C dX5_readTask_64 (by decide) (fun c => ?_) (fun c => ?_)
          · rw [if_pos c] at hw
            refine PW.iconst (v := 0) C dX5_readTask_92 (by decide) ?_
            exact PW.zret C dX5_readTask_93 (by decide) ⟨_, rfl, hw⟩
          · rw [if_neg c] at hw
            refine PW.ald0n C dX5_readTask_67 ?_
            refine PW.callVI0 C ms_X5_takeEnd ml_X5_146 dX5_readTask_68 oX_2 ⟨_, _, rfl⟩ (Nat.le_of_ble_eq_true rfl) (by decide) (Nat.le_of_ble_eq_true rfl) (s_X5_takeEnd hw) ?_
            clear hw
            intro z18 h17 hw
            refine PW.if_eq (tgt := 92) C dX5_readTask_71 (by decide) (fun c => ?_) (fun c => ?_)
            · rw [if_pos c] at hw
              refine PW.iconst (v := 0) C dX5_readTask_92 (by decide) ?_
              exact PW.zret C dX5_readTask_93 (by decide) ⟨_, rfl, hw⟩
            · rw [if_neg c] at hw
              refine PW.ald0n C dX5_readTask_74 ?_
              refine PW.ald0n C dX5_readTask_75 ?_
              obtain ⟨hz20, hq19, hw⟩ := hw
              refine PW.get0 C cf_5 fl_X5_36 (by decide) oX_2 (fvP rfl hz20) dX5_readTask_76 ?_
              refine PW.getN0 C cf_8 fl_X5_177 (by decide) hq19 (fvR (o := 13) rfl) dX5_readTask_79 ?_
              refine PW.callVI1 C ms_X5_addRow ml_X5_149 dX5_readTask_82 oX_2 ⟨_, _, rfl⟩ (Nat.le_of_ble_eq_true rfl) (by decide) (Nat.le_of_ble_eq_true rfl) (s_X5_addRow (sf_8_6 hq19) hw) ?_
              clear hw
              intro z22 h21 hw
              refine PW.if_eq (tgt := 92) C dX5_readTask_85 (by decide) (fun c => ?_) (fun c => ?_)
              · rw [if_pos c] at hw
                refine PW.iconst (v := 0) C dX5_readTask_92 (by decide) ?_
                exact PW.zret C dX5_readTask_93 (by decide) ⟨_, rfl, hw⟩
              · rw [if_neg c] at hw
                refine PW.iconst (v := 1) C dX5_readTask_88 (by decide) ?_
                refine PW.goto (tgt := 93) C dX5_readTask_89 (by decide) ?_
                exact PW.zret C dX5_readTask_93 (by decide) ⟨_, rfl, hw⟩
def w_X5_readDog (h : PH) (Q : Int32 → PH → Prop) : Prop :=
  gP h 2 7 ≠ 0 ∧ oX (gP h 2 7 - 1) 8 ∧ w_X5_takeTold ((gP h 2 7 - 1) + 1) 0 h (fun z4 h3 => if z4 = 0 then (Q 0 h3) else (gP h3 2 7 ≠ 0 ∧ oX (gP h3 2 7 - 1) 8 ∧ w_X6_at ((gP h3 2 7 - 1) + 1) (gI h3 5 (iN 0)) 1 h3 (fun z8 h7 => if z8 ≤ 0 then (w_X5_takeNumber 1 1 20 h7 (fun z10 h9 => if z10 = 0 then (Q 0 h9) else (gP h9 2 7 ≠ 0 ∧ oX (gP h9 2 7 - 1) 8 ∧ w_X6_put ((gP h9 2 7 - 1) + 1) (gI h9 5 (iN 0)) 1 (gI h9 5 (iN 1)) h9 (fun h13 => w_X5_takeEnd h13 (fun z15 h14 => (z15 = 0 ∨ z15 = 1) ∧ Q z15 h14))))) else (w_X5_refuse 3 h7 (fun z17 h16 => (z17 = 0 ∨ z17 = 1) ∧ Q z17 h16)))))
set_option maxRecDepth 8000 in
theorem s_X5_readDog {D : va_G} {ca : Nat → ClassId} {ad : Nat → Nat} {l : Launch} {h : PH} {Q : Int32 → PH → Prop} (hw : w_X5_readDog h Q) : Sp (GX D ca ad) (XS (GX D ca ad)) l 8 yX5_readDog cX5_readDog 1 (some .boolean) [.ref 2] h (qI Q) := by
  refine Sp.of (own := RX5) [some (.ref 2)] (by decide +kernel) rfl rfl (Nat.le_of_ble_eq_true rfl) (fun K hl C => ?_)
  subst hl
  unfold w_X5_readDog at hw
  refine PW.ald0n C dX5_readDog_0 ?_
  refine PW.ald0n C dX5_readDog_1 ?_
  obtain ⟨hz2, hq1, hw⟩ := hw
  refine PW.get0 C cf_5 fl_X5_36 (by decide) oX_2 (fvP rfl hz2) dX5_readDog_2 ?_
  refine PW.getN0 C cf_8 fl_X5_136 (by decide) hq1 (fvR (o := 1) rfl) dX5_readDog_5 ?_
  refine PW.iconst (v := 0) C dX5_readDog_8 (by decide) ?_
  refine PW.callVI2 C ms_X5_takeTold ml_X5_161 dX5_readDog_9 oX_2 ⟨_, _, rfl⟩ (Nat.le_of_ble_eq_true rfl) (by decide) (Nat.le_of_ble_eq_true rfl) (s_X5_takeTold (sf_8_0 hq1) hw) ?_
  clear hw
  intro z4 h3 hw
  refine PW.if_ne (tgt := 17) C dX5_readDog_12 (by decide) (fun c => ?_) (fun c => ?_)
  · rw [if_neg c] at hw
    refine PW.ald0n C dX5_readDog_17 ?_
    obtain ⟨hz6, hq5, hw⟩ := hw
    refine PW.get0 C cf_5 fl_X5_36 (by decide) oX_2 (fvP rfl hz6) dX5_readDog_18 ?_
    refine PW.getN0 C cf_8 fl_X5_136 (by decide) hq5 (fvR (o := 1) rfl) dX5_readDog_21 ?_
    refine PW.ald0n C dX5_readDog_24 ?_
    refine PW.get0 (v := .ref 5) C cf_5 fl_X5_18 (by decide) oX_2 (fvR (o := 3) rfl) dX5_readDog_25 ?_
    refine PW.iconst (v := 0) C dX5_readDog_28 (by decide) ?_
    refine PW.iald C dX5_readDog_29 aX_5 (vpl (by decide)) ?_
    refine PW.iconst (v := 1) C dX5_readDog_30 (by decide) ?_
    refine PW.callVI2 C ms_X6_at ml_X5_168 dX5_readDog_31 (sf_8_0 hq5) ⟨_, _, rfl⟩ (Nat.le_of_ble_eq_true rfl) (by decide) (Nat.le_of_ble_eq_true rfl) (s_X6_at (sf_8_0 hq5) hw) ?_
    clear hw
    intro z8 h7 hw
    refine PW.if_le (tgt := 43) C dX5_readDog_34 (by decide) (fun c => ?_) (fun c => ?_)
    · rw [if_pos c] at hw
      refine PW.ald0n C dX5_readDog_43 ?_
      refine PW.iconst (v := 1) C dX5_readDog_44 (by decide) ?_
      refine PW.iconst (v := 1) C dX5_readDog_45 (by decide) ?_
      refine PW.bipush (v := 20) C dX5_readDog_46 (by decide) ?_
      refine PW.callVI3 C ms_X5_takeNumber ml_X5_155 dX5_readDog_48 oX_2 ⟨_, _, rfl⟩ (Nat.le_of_ble_eq_true rfl) (by decide) (Nat.le_of_ble_eq_true rfl) (s_X5_takeNumber hw) ?_
      clear hw
      intro z10 h9 hw
      refine PW.if_ne (tgt := 56) C dX5_readDog_51 (by decide) (fun c => ?_) (fun c => ?_)
      · rw [if_neg c] at hw
        refine PW.ald0n C dX5_readDog_56 ?_
        obtain ⟨hz12, hq11, hw⟩ := hw
        refine PW.get0 C cf_5 fl_X5_36 (by decide) oX_2 (fvP rfl hz12) dX5_readDog_57 ?_
        refine PW.getN0 C cf_8 fl_X5_136 (by decide) hq11 (fvR (o := 1) rfl) dX5_readDog_60 ?_
        refine PW.ald0n C dX5_readDog_63 ?_
        refine PW.get0 (v := .ref 5) C cf_5 fl_X5_18 (by decide) oX_2 (fvR (o := 3) rfl) dX5_readDog_64 ?_
        refine PW.iconst (v := 0) C dX5_readDog_67 (by decide) ?_
        refine PW.iald C dX5_readDog_68 aX_5 (vpl (by decide)) ?_
        refine PW.iconst (v := 1) C dX5_readDog_69 (by decide) ?_
        refine PW.ald0n C dX5_readDog_70 ?_
        refine PW.get0 (v := .ref 5) C cf_5 fl_X5_18 (by decide) oX_2 (fvR (o := 3) rfl) dX5_readDog_71 ?_
        refine PW.iconst (v := 1) C dX5_readDog_74 (by decide) ?_
        refine PW.iald C dX5_readDog_75 aX_5 (vpl (by decide)) ?_
        refine PW.callVV3 C ms_X6_put ml_X5_170 dX5_readDog_76 (sf_8_0 hq11) ⟨_, _, rfl⟩ (Nat.le_of_ble_eq_true rfl) (by decide) (Nat.le_of_ble_eq_true rfl) (s_X6_put (sf_8_0 hq11) hw) ?_
        clear hw
        intro h13 hw
        refine PW.ald0n C dX5_readDog_79 ?_
        refine PW.callVI0 C ms_X5_takeEnd ml_X5_146 dX5_readDog_80 oX_2 ⟨_, _, rfl⟩ (Nat.le_of_ble_eq_true rfl) (by decide) (Nat.le_of_ble_eq_true rfl) (s_X5_takeEnd hw) ?_
        clear hw
        intro z15 h14 hw
        obtain ⟨hz, hw⟩ := hw
        exact PW.zret C dX5_readDog_83 hz ⟨_, rfl, hw⟩
      · rw [if_pos c] at hw
        refine PW.iconst (v := 0) C dX5_readDog_54 (by decide) ?_
        exact PW.zret C dX5_readDog_55 (by decide) ⟨_, rfl, hw⟩
    · rw [if_neg c] at hw
      refine PW.ald0n C dX5_readDog_37 ?_
      refine PW.iconst (v := 3) C dX5_readDog_38 (by decide) ?_
      refine PW.callVI1 C ms_X5_refuse ml_X5_70 dX5_readDog_39 oX_2 ⟨_, _, rfl⟩ (Nat.le_of_ble_eq_true rfl) (by decide) (Nat.le_of_ble_eq_true rfl) (s_X5_refuse hw) ?_
      clear hw
      intro z17 h16 hw
      obtain ⟨hz, hw⟩ := hw
      exact PW.zret C dX5_readDog_42 hz ⟨_, rfl, hw⟩
  · rw [if_pos c] at hw
    refine PW.iconst (v := 0) C dX5_readDog_15 (by decide) ?_
    exact PW.zret C dX5_readDog_16 (by decide) ⟨_, rfl, hw⟩
def w_X5_readOnce (x1 : Int32) (x2 : Int32) (x3 : Int32) (h : PH) (Q : Int32 → PH → Prop) : Prop :=
  vp_in x1 3 ∧ if (gI h 6 (iN x1)) = (-1) then (w_X5_takeNumber 0 x2 x3 h (fun z3 h2 => if z3 = 0 then (Q 0 h2) else (vp_in x1 3 ∧ ∀ h5, h5 = sI h2 6 (iN x1) (gI h2 5 (iN 0)) → w_X5_takeEnd h5 (fun z7 h6 => (z7 = 0 ∨ z7 = 1) ∧ Q z7 h6)))) else (w_X5_refuse 3 h (fun z9 h8 => (z9 = 0 ∨ z9 = 1) ∧ Q z9 h8))
set_option maxRecDepth 8000 in
theorem s_X5_readOnce {D : va_G} {ca : Nat → ClassId} {ad : Nat → Nat} {l : Launch} {x1 : Int32} {x2 : Int32} {x3 : Int32} {h : PH} {Q : Int32 → PH → Prop} (hw : w_X5_readOnce x1 x2 x3 h Q) : Sp (GX D ca ad) (XS (GX D ca ad)) l 8 yX5_readOnce cX5_readOnce 4 (some .boolean) [.ref 2, .int x1, .int x2, .int x3] h (qI Q) := by
  refine Sp.of (own := RX5) [some (.ref 2), some (.int x1), some (.int x2), some (.int x3)] (by decide +kernel) rfl rfl (Nat.le_of_ble_eq_true rfl) (fun K hl C => ?_)
  subst hl
  unfold w_X5_readOnce at hw
  refine PW.ald0n C dX5_readOnce_0 ?_
  refine PW.get0 (v := .ref 6) C cf_5 fl_X5_22 (by decide) oX_2 (fvR (o := 4) rfl) dX5_readOnce_1 ?_
  refine PW.ild1n C dX5_readOnce_4 ?_
  obtain ⟨hc1, hw⟩ := hw
  refine PW.iald C dX5_readOnce_5 aX_6 hc1 ?_
  refine PW.iconst (v := (-1)) C dX5_readOnce_6 (by decide) ?_
  refine PW.icmp_eq (tgt := 16) C dX5_readOnce_7 (by decide) (fun c => ?_) (fun c => ?_)
  · rw [if_pos c] at hw
    refine PW.ald0n C dX5_readOnce_16 ?_
    refine PW.iconst (v := 0) C dX5_readOnce_17 (by decide) ?_
    refine PW.ild2n C dX5_readOnce_18 ?_
    refine PW.ild3n C dX5_readOnce_19 ?_
    refine PW.callVI3 C ms_X5_takeNumber ml_X5_155 dX5_readOnce_20 oX_2 ⟨_, _, rfl⟩ (Nat.le_of_ble_eq_true rfl) (by decide) (Nat.le_of_ble_eq_true rfl) (s_X5_takeNumber hw) ?_
    clear hw
    intro z3 h2 hw
    refine PW.if_ne (tgt := 28) C dX5_readOnce_23 (by decide) (fun c => ?_) (fun c => ?_)
    · rw [if_neg c] at hw
      refine PW.ald0n C dX5_readOnce_28 ?_
      refine PW.get0 (v := .ref 6) C cf_5 fl_X5_22 (by decide) oX_2 (fvR (o := 4) rfl) dX5_readOnce_29 ?_
      refine PW.ild1n C dX5_readOnce_32 ?_
      refine PW.ald0n C dX5_readOnce_33 ?_
      refine PW.get0 (v := .ref 5) C cf_5 fl_X5_18 (by decide) oX_2 (fvR (o := 3) rfl) dX5_readOnce_34 ?_
      refine PW.iconst (v := 0) C dX5_readOnce_37 (by decide) ?_
      refine PW.iald C dX5_readOnce_38 aX_5 (vpl (by decide)) ?_
      obtain ⟨hc4, hw⟩ := hw
      replace hw := hw _ rfl
      refine PW.iast C dX5_readOnce_39 aX_6 hc4 ?_
      refine PW.ald0n C dX5_readOnce_40 ?_
      refine PW.callVI0 C ms_X5_takeEnd ml_X5_146 dX5_readOnce_41 oX_2 ⟨_, _, rfl⟩ (Nat.le_of_ble_eq_true rfl) (by decide) (Nat.le_of_ble_eq_true rfl) (s_X5_takeEnd hw) ?_
      clear hw
      intro z7 h6 hw
      obtain ⟨hz, hw⟩ := hw
      exact PW.zret C dX5_readOnce_44 hz ⟨_, rfl, hw⟩
    · rw [if_pos c] at hw
      refine PW.iconst (v := 0) C dX5_readOnce_26 (by decide) ?_
      exact PW.zret C dX5_readOnce_27 (by decide) ⟨_, rfl, hw⟩
  · rw [if_neg c] at hw
    refine PW.ald0n C dX5_readOnce_10 ?_
    refine PW.iconst (v := 3) C dX5_readOnce_11 (by decide) ?_
    refine PW.callVI1 C ms_X5_refuse ml_X5_70 dX5_readOnce_12 oX_2 ⟨_, _, rfl⟩ (Nat.le_of_ble_eq_true rfl) (by decide) (Nat.le_of_ble_eq_true rfl) (s_X5_refuse hw) ?_
    clear hw
    intro z9 h8 hw
    obtain ⟨hz, hw⟩ := hw
    exact PW.zret C dX5_readOnce_15 hz ⟨_, rfl, hw⟩
def w_X5_joinSign_50 (Q : Int32 → PH → Prop) (s0 : Int32) (h : PH) : Prop :=
  if s0 = 42 then (Q 11 h) else (if s0 = 43 then (Q 9 h) else (if s0 = 45 then (Q 10 h) else (if s0 = 47 then (Q 12 h) else (if s0 = 60 then (Q 3 h) else (if s0 = 61 then (Q 5 h) else (if s0 = 62 then (Q 8 h) else (if s0 = 256 then (Q 4 h) else (if s0 = 257 then (Q 6 h) else (if s0 = 258 then (Q 7 h) else (Q (-1) h))))))))))
set_option maxRecDepth 8000 in
theorem b_X5_joinSign_50 {D : va_G} {ca : Nat → ClassId} {ad : Nat → Nat} {K : Kt} {Q : Int32 → PH → Prop} {s0 : Int32} {h : PH} (C : CX (GX D ca ad) (XS (GX D ca ad)) cX5_joinSign RX5 1 (some .int) 2 K) (hw : w_X5_joinSign_50 Q s0 h) : PW (GX D ca ad) K 1 (qI Q) h 50 [none] [.int s0] := by
  unfold w_X5_joinSign_50 at hw
  refine PW.byc 42 (fun c => ?_) (fun c => ?_)
  · rw [if_pos c] at hw
    subst c
    refine PW.look (tgt := 161) C dX5_joinSign_50 (by decide) rfl (by decide) ?_
    refine PW.bipush (v := 11) C dX5_joinSign_161 (by decide) ?_
    exact PW.iret C dX5_joinSign_163 ⟨_, rfl, hw⟩
  have n5 := c
  rw [if_neg c] at hw
  refine PW.byc 43 (fun c => ?_) (fun c => ?_)
  · rw [if_pos c] at hw
    subst c
    refine PW.look (tgt := 155) C dX5_joinSign_50 (by decide) rfl (by decide) ?_
    refine PW.bipush (v := 9) C dX5_joinSign_155 (by decide) ?_
    exact PW.iret C dX5_joinSign_157 ⟨_, rfl, hw⟩
  have n6 := c
  rw [if_neg c] at hw
  refine PW.byc 45 (fun c => ?_) (fun c => ?_)
  · rw [if_pos c] at hw
    subst c
    refine PW.look (tgt := 158) C dX5_joinSign_50 (by decide) rfl (by decide) ?_
    refine PW.bipush (v := 10) C dX5_joinSign_158 (by decide) ?_
    exact PW.iret C dX5_joinSign_160 ⟨_, rfl, hw⟩
  have n7 := c
  rw [if_neg c] at hw
  refine PW.byc 47 (fun c => ?_) (fun c => ?_)
  · rw [if_pos c] at hw
    subst c
    refine PW.look (tgt := 164) C dX5_joinSign_50 (by decide) rfl (by decide) ?_
    refine PW.bipush (v := 12) C dX5_joinSign_164 (by decide) ?_
    exact PW.iret C dX5_joinSign_166 ⟨_, rfl, hw⟩
  have n8 := c
  rw [if_neg c] at hw
  refine PW.byc 60 (fun c => ?_) (fun c => ?_)
  · rw [if_pos c] at hw
    subst c
    refine PW.look (tgt := 140) C dX5_joinSign_50 (by decide) rfl (by decide) ?_
    refine PW.iconst (v := 3) C dX5_joinSign_140 (by decide) ?_
    exact PW.iret C dX5_joinSign_141 ⟨_, rfl, hw⟩
  have n9 := c
  rw [if_neg c] at hw
  refine PW.byc 61 (fun c => ?_) (fun c => ?_)
  · rw [if_pos c] at hw
    subst c
    refine PW.look (tgt := 144) C dX5_joinSign_50 (by decide) rfl (by decide) ?_
    refine PW.iconst (v := 5) C dX5_joinSign_144 (by decide) ?_
    exact PW.iret C dX5_joinSign_145 ⟨_, rfl, hw⟩
  have n10 := c
  rw [if_neg c] at hw
  refine PW.byc 62 (fun c => ?_) (fun c => ?_)
  · rw [if_pos c] at hw
    subst c
    refine PW.look (tgt := 152) C dX5_joinSign_50 (by decide) rfl (by decide) ?_
    refine PW.bipush (v := 8) C dX5_joinSign_152 (by decide) ?_
    exact PW.iret C dX5_joinSign_154 ⟨_, rfl, hw⟩
  have n11 := c
  rw [if_neg c] at hw
  refine PW.byc 256 (fun c => ?_) (fun c => ?_)
  · rw [if_pos c] at hw
    subst c
    refine PW.look (tgt := 142) C dX5_joinSign_50 (by decide) rfl (by decide) ?_
    refine PW.iconst (v := 4) C dX5_joinSign_142 (by decide) ?_
    exact PW.iret C dX5_joinSign_143 ⟨_, rfl, hw⟩
  have n12 := c
  rw [if_neg c] at hw
  refine PW.byc 257 (fun c => ?_) (fun c => ?_)
  · rw [if_pos c] at hw
    subst c
    refine PW.look (tgt := 146) C dX5_joinSign_50 (by decide) rfl (by decide) ?_
    refine PW.bipush (v := 6) C dX5_joinSign_146 (by decide) ?_
    exact PW.iret C dX5_joinSign_148 ⟨_, rfl, hw⟩
  have n13 := c
  rw [if_neg c] at hw
  refine PW.byc 258 (fun c => ?_) (fun c => ?_)
  · rw [if_pos c] at hw
    subst c
    refine PW.look (tgt := 149) C dX5_joinSign_50 (by decide) rfl (by decide) ?_
    refine PW.bipush (v := 7) C dX5_joinSign_149 (by decide) ?_
    exact PW.iret C dX5_joinSign_151 ⟨_, rfl, hw⟩
  have n14 := c
  rw [if_neg c] at hw
  refine PW.look (off := 117) (tgt := 167) C dX5_joinSign_50 (by decide) (by have e0 := ne_ti (z := 42) (by decide) n5; have e1 := ne_ti (z := 43) (by decide) n6; have e2 := ne_ti (z := 45) (by decide) n7; have e3 := ne_ti (z := 47) (by decide) n8; have e4 := ne_ti (z := 60) (by decide) n9; have e5 := ne_ti (z := 61) (by decide) n10; have e6 := ne_ti (z := 62) (by decide) n11; have e7 := ne_ti (z := 256) (by decide) n12; have e8 := ne_ti (z := 257) (by decide) n13; have e9 := ne_ti (z := 258) (by decide) n14; simp [Op.lookupswitch.offset, Ne.symm e0, e0, Ne.symm e1, e1, Ne.symm e2, e2, Ne.symm e3, e3, Ne.symm e4, e4, Ne.symm e5, e5, Ne.symm e6, e6, Ne.symm e7, e7, Ne.symm e8, e8, Ne.symm e9, e9]) (by decide) ?_
  refine PW.iconst (v := (-1)) C dX5_joinSign_167 (by decide) ?_
  exact PW.iret C dX5_joinSign_168 ⟨_, rfl, hw⟩
def w_X5_joinSign (h : PH) (Q : Int32 → PH → Prop) : Prop :=
  w_X7_isWord 15 h (fun z2 h1 => if z2 = 0 then (w_X7_isWord 16 h1 (fun z4 h3 => if z4 = 0 then (if (gI h3 3 4) = 5 then (w_X5_joinSign_50 Q (gI h3 3 6) h3) else (w_X5_joinSign_50 Q (-1) h3)) else (Q 1 h3))) else (Q 0 h1))
set_option maxRecDepth 8000 in
theorem s_X5_joinSign {D : va_G} {ca : Nat → ClassId} {ad : Nat → Nat} {l : Launch} {h : PH} {Q : Int32 → PH → Prop} (hw : w_X5_joinSign h Q) : Sp (GX D ca ad) (XS (GX D ca ad)) l 2 yX5_joinSign cX5_joinSign 1 (some .int) [.ref 2] h (qI Q) := by
  refine Sp.of (own := RX5) [some (.ref 2)] (by decide +kernel) rfl rfl (Nat.le_of_ble_eq_true rfl) (fun K hl C => ?_)
  subst hl
  unfold w_X5_joinSign at hw
  refine PW.ald0n C dX5_joinSign_0 ?_
  refine PW.get0 (v := .ref 3) C cf_5 fl_X5_12 (by decide) oX_2 (fvR (o := 1) rfl) dX5_joinSign_1 ?_
  refine PW.bipush (v := 15) C dX5_joinSign_4 (by decide) ?_
  refine PW.callVI1 C ms_X7_isWord ml_X5_180 dX5_joinSign_6 oX_3 ⟨_, _, rfl⟩ (Nat.le_of_ble_eq_true rfl) (by decide) (Nat.le_of_ble_eq_true rfl) (s_X7_isWord hw) ?_
  clear hw
  intro z2 h1 hw
  refine PW.if_eq (tgt := 14) C dX5_joinSign_9 (by decide) (fun c => ?_) (fun c => ?_)
  · rw [if_pos c] at hw
    refine PW.ald0n C dX5_joinSign_14 ?_
    refine PW.get0 (v := .ref 3) C cf_5 fl_X5_12 (by decide) oX_2 (fvR (o := 1) rfl) dX5_joinSign_15 ?_
    refine PW.bipush (v := 16) C dX5_joinSign_18 (by decide) ?_
    refine PW.callVI1 C ms_X7_isWord ml_X5_180 dX5_joinSign_20 oX_3 ⟨_, _, rfl⟩ (Nat.le_of_ble_eq_true rfl) (by decide) (Nat.le_of_ble_eq_true rfl) (s_X7_isWord hw) ?_
    clear hw
    intro z4 h3 hw
    refine PW.if_eq (tgt := 28) C dX5_joinSign_23 (by decide) (fun c => ?_) (fun c => ?_)
    · rw [if_pos c] at hw
      refine PW.ald0n C dX5_joinSign_28 ?_
      refine PW.get0 (v := .ref 3) C cf_5 fl_X5_12 (by decide) oX_2 (fvR (o := 1) rfl) dX5_joinSign_29 ?_
      refine PW.getN0 C cf_7 fl_X5_54 (by decide) oX_3 (fvI rfl) dX5_joinSign_32 ?_
      refine PW.iconst (v := 5) C dX5_joinSign_35 (by decide) ?_
      refine PW.icmp_ne (tgt := 49) C dX5_joinSign_36 (by decide) (fun c => ?_) (fun c => ?_)
      · rw [if_neg c] at hw
        refine PW.iconst (v := (-1)) C dX5_joinSign_49 (by decide) ?_
        exact PW.wk (wk_n wk_0) (b_X5_joinSign_50 C hw)
      · rw [if_pos c] at hw
        refine PW.ald0n C dX5_joinSign_39 ?_
        refine PW.get0 (v := .ref 3) C cf_5 fl_X5_12 (by decide) oX_2 (fvR (o := 1) rfl) dX5_joinSign_40 ?_
        refine PW.getN0 C cf_7 fl_X5_77 (by decide) oX_3 (fvI rfl) dX5_joinSign_43 ?_
        refine PW.goto (tgt := 50) C dX5_joinSign_46 (by decide) ?_
        exact PW.wk (wk_n wk_0) (b_X5_joinSign_50 C hw)
    · rw [if_neg c] at hw
      refine PW.iconst (v := 1) C dX5_joinSign_26 (by decide) ?_
      exact PW.iret C dX5_joinSign_27 ⟨_, rfl, hw⟩
  · rw [if_neg c] at hw
    refine PW.iconst (v := 0) C dX5_joinSign_12 (by decide) ?_
    exact PW.iret C dX5_joinSign_13 ⟨_, rfl, hw⟩
def w_X5_lastRank (h : PH) (Q : Int32 → PH → Prop) : Prop :=
  if (gI h 2 4) ≤ 0 then (Q 0 h) else (if 72 < (gI h 2 4) then (Q 0 h) else (vp_in ((gI h 2 4) - 1) 72 ∧ vp_in (gI h 7 (iN ((gI h 2 4) - 1))) 14 ∧ Q (sRANKS (iN (gI h 7 (iN ((gI h 2 4) - 1))))) h))
set_option maxRecDepth 8000 in
theorem s_X5_lastRank {D : va_G} {ca : Nat → ClassId} {ad : Nat → Nat} {l : Launch} {h : PH} {Q : Int32 → PH → Prop} (hw : w_X5_lastRank h Q) : Sp (GX D ca ad) (XS (GX D ca ad)) l 1 yX5_lastRank cX5_lastRank 1 (some .int) [.ref 2] h (qI Q) := by
  refine Sp.of (own := RX5) [some (.ref 2)] (by decide +kernel) rfl rfl (Nat.le_of_ble_eq_true rfl) (fun K hl C => ?_)
  subst hl
  unfold w_X5_lastRank at hw
  refine PW.ald0n C dX5_lastRank_0 ?_
  refine PW.get0 C cf_5 fl_X5_193 (by decide) oX_2 (fvI rfl) dX5_lastRank_1 ?_
  refine PW.if_le (tgt := 37) C dX5_lastRank_4 (by decide) (fun c => ?_) (fun c => ?_)
  · rw [if_pos c] at hw
    refine PW.iconst (v := 0) C dX5_lastRank_37 (by decide) ?_
    exact PW.iret C dX5_lastRank_38 ⟨_, rfl, hw⟩
  · rw [if_neg c] at hw
    refine PW.ald0n C dX5_lastRank_7 ?_
    refine PW.get0 C cf_5 fl_X5_193 (by decide) oX_2 (fvI rfl) dX5_lastRank_8 ?_
    refine PW.ald0n C dX5_lastRank_11 ?_
    refine PW.get0 (v := .ref 7) C cf_5 fl_X5_25 (by decide) oX_2 (fvR (o := 5) rfl) dX5_lastRank_12 ?_
    refine PW.alen (v := 72) C dX5_lastRank_15 aX_7 (by decide) (by decide) ?_
    refine PW.icmp_gt (tgt := 37) C dX5_lastRank_16 (by decide) (fun c => ?_) (fun c => ?_)
    · rw [if_pos c] at hw
      refine PW.iconst (v := 0) C dX5_lastRank_37 (by decide) ?_
      exact PW.iret C dX5_lastRank_38 ⟨_, rfl, hw⟩
    · rw [if_neg c] at hw
      refine PW.getRANKS C dX5_lastRank_19 ?_
      refine PW.ald0n C dX5_lastRank_22 ?_
      refine PW.get0 (v := .ref 7) C cf_5 fl_X5_25 (by decide) oX_2 (fvR (o := 5) rfl) dX5_lastRank_23 ?_
      refine PW.ald0n C dX5_lastRank_26 ?_
      refine PW.get0 C cf_5 fl_X5_193 (by decide) oX_2 (fvI rfl) dX5_lastRank_27 ?_
      refine PW.iconst (v := 1) C dX5_lastRank_30 (by decide) ?_
      refine PW.isub C dX5_lastRank_31 ?_
      obtain ⟨hc1, hw⟩ := hw
      refine PW.iald C dX5_lastRank_32 aX_7 hc1 ?_
      obtain ⟨hc2, hw⟩ := hw
      refine PW.stRANKS C dX5_lastRank_33 hc2 ?_
      refine PW.goto (tgt := 38) C dX5_lastRank_34 (by decide) ?_
      exact PW.iret C dX5_lastRank_38 ⟨_, rfl, hw⟩
def w_X5_release_0 (r1 : Nat) (k44 : PH → Prop) (Q : PH → Prop) (x2 : Int32) (kb : PH → Prop) (h : PH) : Prop :=
  if (gI h 2 4) ≤ 0 then (k44 h) else (w_X5_lastRank h (fun z2 h1 => if z2 < x2 then (k44 h1) else (∀ h3, h3 = sI h1 2 4 ((gI h1 2 4) - 1) → vp_in (gI h3 2 4) 72 ∧ w_X1_add r1 ((-10) - (gI h3 7 (iN (gI h3 2 4)))) h3 (fun h5 => kb h5))))
set_option maxRecDepth 8000 in
theorem b_X5_release_0 {D : va_G} {ca : Nat → ClassId} {ad : Nat → Nat} {K : Kt} {r1 : Nat} {k44 : PH → Prop} {kb : PH → Prop} {Q : PH → Prop} {x2 : Int32} {h : PH} (C : CX (GX D ca ad) (XS (GX D ca ad)) cX5_release RX5 3 none 2 K) (hr1 : oX r1 1) (hk44 : ∀ (h : PH), k44 h → PW (GX D ca ad) K 3 (qV Q) h 44 [none, none, none] []) (hkb : ∀ (h : PH), kb h → PW (GX D ca ad) K 3 (qV Q) h 0 [some (.ref 2), some (.ref r1), some (.int x2)] []) (hw : w_X5_release_0 r1 k44 Q x2 kb h) : PW (GX D ca ad) K 3 (qV Q) h 0 [some (.ref 2), some (.ref r1), some (.int x2)] [] := by
  unfold w_X5_release_0 at hw
  refine PW.ald0n C dX5_release_0 ?_
  refine PW.get0 C cf_5 fl_X5_193 (by decide) oX_2 (fvI rfl) dX5_release_1 ?_
  refine PW.if_le (tgt := 44) C dX5_release_4 (by decide) (fun c => ?_) (fun c => ?_)
  · rw [if_pos c] at hw
    exact PW.wk (wk_n (wk_n (wk_n wk_0))) (hk44 _ hw)
  · rw [if_neg c] at hw
    refine PW.ald0n C dX5_release_7 ?_
    refine PW.callVI0 C ms_X5_lastRank ml_X5_223 dX5_release_8 oX_2 ⟨_, _, rfl⟩ (Nat.le_of_ble_eq_true rfl) (by decide) (Nat.le_of_ble_eq_true rfl) (s_X5_lastRank hw) ?_
    clear hw
    intro z2 h1 hw
    refine PW.ild2n C dX5_release_11 ?_
    refine PW.icmp_lt (tgt := 44) C dX5_release_12 (by decide) (fun c => ?_) (fun c => ?_)
    · rw [if_pos c] at hw
      exact PW.wk (wk_n (wk_n (wk_n wk_0))) (hk44 _ hw)
    · rw [if_neg c] at hw
      refine PW.ald0n C dX5_release_15 ?_
      refine PW.dup C dX5_release_16 rfl ?_
      refine PW.get0 C cf_5 fl_X5_193 (by decide) oX_2 (fvI rfl) dX5_release_17 ?_
      refine PW.iconst (v := 1) C dX5_release_20 (by decide) ?_
      refine PW.isub C dX5_release_21 ?_
      replace hw := hw _ rfl
      refine PW.put0 C cf_5 fl_X5_193 (by decide) oX_2 rfl rfl rfl (pw_sI oX_2 (by decide) rfl) dX5_release_22 ?_
      refine PW.ald1n C dX5_release_25 ?_
      refine PW.bipush (v := (-10)) C dX5_release_26 (by decide) ?_
      refine PW.ald0n C dX5_release_28 ?_
      refine PW.get0 (v := .ref 7) C cf_5 fl_X5_25 (by decide) oX_2 (fvR (o := 5) rfl) dX5_release_29 ?_
      refine PW.ald0n C dX5_release_32 ?_
      refine PW.get0 C cf_5 fl_X5_193 (by decide) oX_2 (fvI rfl) dX5_release_33 ?_
      obtain ⟨hc4, hw⟩ := hw
      refine PW.iald C dX5_release_36 aX_7 hc4 ?_
      refine PW.isub C dX5_release_37 ?_
      refine PW.callVV1 C ms_X1_add ml_X5_220 dX5_release_38 hr1 ⟨_, _, rfl⟩ (Nat.le_of_ble_eq_true rfl) (by decide) (Nat.le_of_ble_eq_true rfl) (s_X1_add hr1 hw) ?_
      clear hw
      intro h5 hw
      refine PW.goto (tgt := 0) C dX5_release_41 (by decide) ?_
      exact PW.wk (wk_s (wk_s (wk_s wk_0))) (hkb _ hw)
theorem l_X5_release_0 {D : va_G} {ca : Nat → ClassId} {ad : Nat → Nat} {K : Kt} {r1 : Nat} {k44 : PH → Prop} {Q : PH → Prop} {x2 : Int32} (C : CX (GX D ca ad) (XS (GX D ca ad)) cX5_release RX5 3 none 2 K) (hr1 : oX r1 1) (hk44 : ∀ (h : PH), k44 h → PW (GX D ca ad) K 3 (qV Q) h 44 [none, none, none] []) : ∀ (n : Nat) (h : PH), Lp0 (w_X5_release_0 r1 k44 Q x2) n h → PW (GX D ca ad) K 3 (qV Q) h 0 [some (.ref 2), some (.ref r1), some (.int x2)] [] := by
  intro n
  induction n with
  | zero => intro h hw; exact hw.elim
  | succ n ih => intro h hw; exact b_X5_release_0 C hr1 hk44 (fun h hw => ih h hw) hw
def w_X5_release (r1 : Nat) (x2 : Int32) (h : PH) (Q : PH → Prop) : Prop :=
  ∃ n, Lp0 (w_X5_release_0 r1 (fun h6 => Q h6) Q x2) n h
set_option maxRecDepth 8000 in
theorem s_X5_release {D : va_G} {ca : Nat → ClassId} {ad : Nat → Nat} {l : Launch} {r1 : Nat} {x2 : Int32} {h : PH} {Q : PH → Prop} (hr1 : oX r1 1) (hw : w_X5_release r1 x2 h Q) : Sp (GX D ca ad) (XS (GX D ca ad)) l 2 yX5_release cX5_release 3 none [.ref 2, .ref r1, .int x2] h (qV Q) := by
  refine Sp.of (own := RX5) [some (.ref 2), some (.ref r1), some (.int x2)] (by decide +kernel) rfl rfl (Nat.le_of_ble_eq_true rfl) (fun K hl C => ?_)
  subst hl
  unfold w_X5_release at hw
  obtain ⟨n, hw⟩ := hw
  refine PW.wk (wk_s (wk_s (wk_s wk_0))) (l_X5_release_0 C hr1 ?_ n _ hw)
  · intro h6 hw
    exact PW.vret C dX5_release_44 ⟨rfl, hw⟩
def w_X5_hold (x1 : Int32) (h : PH) (Q : Int32 → PH → Prop) : Prop :=
  if 72 ≤ (gI h 2 4) then (Q 1 h) else (vp_in (gI h 2 4) 72 ∧ ∀ h2, h2 = sI h 7 (iN (gI h 2 4)) x1 → ∀ h3, h3 = sI h2 2 4 ((gI h2 2 4) + 1) → Q 1 h3)
set_option maxRecDepth 8000 in
theorem s_X5_hold {D : va_G} {ca : Nat → ClassId} {ad : Nat → Nat} {l : Launch} {x1 : Int32} {h : PH} {Q : Int32 → PH → Prop} (hw : w_X5_hold x1 h Q) : Sp (GX D ca ad) (XS (GX D ca ad)) l 1 yX5_hold cX5_hold 2 (some .int) [.ref 2, .int x1] h (qI Q) := by
  refine Sp.of (own := RX5) [some (.ref 2), some (.int x1)] (by decide +kernel) rfl rfl (Nat.le_of_ble_eq_true rfl) (fun K hl C => ?_)
  subst hl
  unfold w_X5_hold at hw
  refine PW.ald0n C dX5_hold_0 ?_
  refine PW.get0 C cf_5 fl_X5_193 (by decide) oX_2 (fvI rfl) dX5_hold_1 ?_
  refine PW.ald0n C dX5_hold_4 ?_
  refine PW.get0 (v := .ref 7) C cf_5 fl_X5_25 (by decide) oX_2 (fvR (o := 5) rfl) dX5_hold_5 ?_
  refine PW.alen (v := 72) C dX5_hold_8 aX_7 (by decide) (by decide) ?_
  refine PW.icmp_ge (tgt := 32) C dX5_hold_9 (by decide) (fun c => ?_) (fun c => ?_)
  · rw [if_pos c] at hw
    refine PW.iconst (v := 1) C dX5_hold_32 (by decide) ?_
    exact PW.iret C dX5_hold_33 ⟨_, rfl, hw⟩
  · rw [if_neg c] at hw
    refine PW.ald0n C dX5_hold_12 ?_
    refine PW.get0 (v := .ref 7) C cf_5 fl_X5_25 (by decide) oX_2 (fvR (o := 5) rfl) dX5_hold_13 ?_
    refine PW.ald0n C dX5_hold_16 ?_
    refine PW.get0 C cf_5 fl_X5_193 (by decide) oX_2 (fvI rfl) dX5_hold_17 ?_
    refine PW.ild1n C dX5_hold_20 ?_
    obtain ⟨hc1, hw⟩ := hw
    replace hw := hw _ rfl
    refine PW.iast C dX5_hold_21 aX_7 hc1 ?_
    refine PW.ald0n C dX5_hold_22 ?_
    refine PW.dup C dX5_hold_23 rfl ?_
    refine PW.get0 C cf_5 fl_X5_193 (by decide) oX_2 (fvI rfl) dX5_hold_24 ?_
    refine PW.iconst (v := 1) C dX5_hold_27 (by decide) ?_
    refine PW.iadd C dX5_hold_28 ?_
    replace hw := hw _ rfl
    refine PW.put0 C cf_5 fl_X5_193 (by decide) oX_2 rfl rfl rfl (pw_sI oX_2 (by decide) rfl) dX5_hold_29 ?_
    refine PW.iconst (v := 1) C dX5_hold_32 (by decide) ?_
    exact PW.iret C dX5_hold_33 ⟨_, rfl, hw⟩
def w_X5_faulty (x1 : Int32) (h : PH) (Q : Int32 → PH → Prop) : Prop :=
  w_X5_refuse x1 h (fun z2 h1 => Q 0 h1)
set_option maxRecDepth 8000 in
theorem s_X5_faulty {D : va_G} {ca : Nat → ClassId} {ad : Nat → Nat} {l : Launch} {x1 : Int32} {h : PH} {Q : Int32 → PH → Prop} (hw : w_X5_faulty x1 h Q) : Sp (GX D ca ad) (XS (GX D ca ad)) l 2 yX5_faulty cX5_faulty 2 (some .int) [.ref 2, .int x1] h (qI Q) := by
  refine Sp.of (own := RX5) [some (.ref 2), some (.int x1)] (by decide +kernel) rfl rfl (Nat.le_of_ble_eq_true rfl) (fun K hl C => ?_)
  subst hl
  unfold w_X5_faulty at hw
  refine PW.ald0n C dX5_faulty_0 ?_
  refine PW.ild1n C dX5_faulty_1 ?_
  refine PW.callVI1 C ms_X5_refuse ml_X5_70 dX5_faulty_2 oX_2 ⟨_, _, rfl⟩ (Nat.le_of_ble_eq_true rfl) (by decide) (Nat.le_of_ble_eq_true rfl) (s_X5_refuse hw) ?_
  clear hw
  intro z2 h1 hw
  refine PW.pop C dX5_faulty_5 rfl ?_
  refine PW.iconst (v := 0) C dX5_faulty_6 (by decide) ?_
  exact PW.iret C dX5_faulty_7 ⟨_, rfl, hw⟩
def w_X5_readJoin_105 (r1 : Nat) (Q : Int32 → PH → Prop) (x2 : Int32) (h : PH) : Prop :=
  if (gI h 2 6) < 64 then (∀ h8, h8 = sI h 2 6 ((gI h 2 6) + 1) → w_X5_hold x2 h8 (fun z10 h9 => Q z10 h9)) else (w_X5_faulty 2 h (fun z12 h11 => Q z12 h11))
set_option maxRecDepth 8000 in
theorem b_X5_readJoin_105 {D : va_G} {ca : Nat → ClassId} {ad : Nat → Nat} {K : Kt} {r1 : Nat} {Q : Int32 → PH → Prop} {x2 : Int32} {h : PH} (C : CX (GX D ca ad) (XS (GX D ca ad)) cX5_readJoin RX5 4 (some .int) 3 K) (hr1 : oX r1 1) (hw : w_X5_readJoin_105 r1 Q x2 h) : PW (GX D ca ad) K 4 (qI Q) h 105 [some (.ref 2), none, some (.int x2), none] [] := by
  unfold w_X5_readJoin_105 at hw
  refine PW.ald0n C dX5_readJoin_105 ?_
  refine PW.get0 C cf_5 fl_X5_45 (by decide) oX_2 (fvI rfl) dX5_readJoin_106 ?_
  refine PW.bipush (v := 64) C dX5_readJoin_109 (by decide) ?_
  refine PW.icmp_lt (tgt := 120) C dX5_readJoin_111 (by decide) (fun c => ?_) (fun c => ?_)
  · rw [if_pos c] at hw
    refine PW.ald0n C dX5_readJoin_120 ?_
    refine PW.dup C dX5_readJoin_121 rfl ?_
    refine PW.get0 C cf_5 fl_X5_45 (by decide) oX_2 (fvI rfl) dX5_readJoin_122 ?_
    refine PW.iconst (v := 1) C dX5_readJoin_125 (by decide) ?_
    refine PW.iadd C dX5_readJoin_126 ?_
    replace hw := hw _ rfl
    refine PW.put0 C cf_5 fl_X5_45 (by decide) oX_2 rfl rfl rfl (pw_sI oX_2 (by decide) rfl) dX5_readJoin_127 ?_
    refine PW.ald0n C dX5_readJoin_130 ?_
    refine PW.ild2n C dX5_readJoin_131 ?_
    refine PW.callVI1 C ms_X5_hold ml_X5_214 dX5_readJoin_132 oX_2 ⟨_, _, rfl⟩ (Nat.le_of_ble_eq_true rfl) (by decide) (Nat.le_of_ble_eq_true rfl) (s_X5_hold hw) ?_
    clear hw
    intro z10 h9 hw
    exact PW.iret C dX5_readJoin_135 ⟨_, rfl, hw⟩
  · rw [if_neg c] at hw
    refine PW.ald0n C dX5_readJoin_114 ?_
    refine PW.iconst (v := 2) C dX5_readJoin_115 (by decide) ?_
    refine PW.callVI1 C ms_X5_faulty ml_X5_210 dX5_readJoin_116 oX_2 ⟨_, _, rfl⟩ (Nat.le_of_ble_eq_true rfl) (by decide) (Nat.le_of_ble_eq_true rfl) (s_X5_faulty hw) ?_
    clear hw
    intro z12 h11 hw
    exact PW.iret C dX5_readJoin_119 ⟨_, rfl, hw⟩
def w_X5_readJoin_83 (r1 : Nat) (Q : Int32 → PH → Prop) (x2 : Int32) (x3 : Int32) (s2 : Int32) (h : PH) : Prop :=
  w_X5_release r1 s2 h (fun h7 => if x3 = 4 then (w_X5_lastRank h7 (fun z14 h13 => if z14 = 4 then (w_X5_faulty 1 h13 (fun z16 h15 => Q z16 h15)) else (w_X5_readJoin_105 r1 Q x2 h13))) else (w_X5_readJoin_105 r1 Q x2 h7))
set_option maxRecDepth 8000 in
theorem b_X5_readJoin_83 {D : va_G} {ca : Nat → ClassId} {ad : Nat → Nat} {K : Kt} {r1 : Nat} {Q : Int32 → PH → Prop} {x2 : Int32} {x3 : Int32} {s2 : Int32} {h : PH} (C : CX (GX D ca ad) (XS (GX D ca ad)) cX5_readJoin RX5 4 (some .int) 3 K) (hr1 : oX r1 1) (hw : w_X5_readJoin_83 r1 Q x2 x3 s2 h) : PW (GX D ca ad) K 4 (qI Q) h 83 [some (.ref 2), none, some (.int x2), some (.int x3)] [.int s2, .ref r1, .ref 2] := by
  unfold w_X5_readJoin_83 at hw
  refine PW.callVV2 C ms_X5_release ml_X5_199 dX5_readJoin_83 oX_2 ⟨_, _, rfl⟩ (Nat.le_of_ble_eq_true rfl) (by decide) (Nat.le_of_ble_eq_true rfl) (s_X5_release hr1 hw) ?_
  clear hw
  intro h7 hw
  refine PW.ild3n C dX5_readJoin_86 ?_
  refine PW.iconst (v := 4) C dX5_readJoin_87 (by decide) ?_
  refine PW.icmp_ne (tgt := 105) C dX5_readJoin_88 (by decide) (fun c => ?_) (fun c => ?_)
  · rw [if_neg c] at hw
    exact PW.wk (wk_s (wk_n (wk_s (wk_n wk_0)))) (b_X5_readJoin_105 C hr1 hw)
  · rw [if_pos c] at hw
    refine PW.ald0n C dX5_readJoin_91 ?_
    refine PW.callVI0 C ms_X5_lastRank ml_X5_223 dX5_readJoin_92 oX_2 ⟨_, _, rfl⟩ (Nat.le_of_ble_eq_true rfl) (by decide) (Nat.le_of_ble_eq_true rfl) (s_X5_lastRank hw) ?_
    clear hw
    intro z14 h13 hw
    refine PW.iconst (v := 4) C dX5_readJoin_95 (by decide) ?_
    refine PW.icmp_ne (tgt := 105) C dX5_readJoin_96 (by decide) (fun c => ?_) (fun c => ?_)
    · rw [if_neg c] at hw
      exact PW.wk (wk_s (wk_n (wk_s (wk_n wk_0)))) (b_X5_readJoin_105 C hr1 hw)
    · rw [if_pos c] at hw
      refine PW.ald0n C dX5_readJoin_99 ?_
      refine PW.iconst (v := 1) C dX5_readJoin_100 (by decide) ?_
      refine PW.callVI1 C ms_X5_faulty ml_X5_210 dX5_readJoin_101 oX_2 ⟨_, _, rfl⟩ (Nat.le_of_ble_eq_true rfl) (by decide) (Nat.le_of_ble_eq_true rfl) (s_X5_faulty hw) ?_
      clear hw
      intro z16 h15 hw
      exact PW.iret C dX5_readJoin_104 ⟨_, rfl, hw⟩
def w_X5_readJoin_47 (r1 : Nat) (Q : Int32 → PH → Prop) (h : PH) : Prop :=
  w_X5_joinSign h (fun z4 h3 => if z4 = (-1) then (w_X5_faulty 1 h3 (fun z18 h17 => Q z18 h17)) else (vp_in z4 14 ∧ ∀ (y6 : Int32), y6 = (sRANKS (iN z4)) → if y6 = 4 then (w_X5_readJoin_83 r1 Q z4 y6 (y6 + 1) h3) else (w_X5_readJoin_83 r1 Q z4 y6 y6 h3)))
set_option maxRecDepth 8000 in
theorem b_X5_readJoin_47 {D : va_G} {ca : Nat → ClassId} {ad : Nat → Nat} {K : Kt} {r1 : Nat} {Q : Int32 → PH → Prop} {h : PH} (C : CX (GX D ca ad) (XS (GX D ca ad)) cX5_readJoin RX5 4 (some .int) 3 K) (hr1 : oX r1 1) (hw : w_X5_readJoin_47 r1 Q h) : PW (GX D ca ad) K 4 (qI Q) h 47 [some (.ref 2), some (.ref r1), none, none] [] := by
  unfold w_X5_readJoin_47 at hw
  refine PW.ald0n C dX5_readJoin_47 ?_
  refine PW.callVI0 C ms_X5_joinSign ml_X5_230 dX5_readJoin_48 oX_2 ⟨_, _, rfl⟩ (Nat.le_of_ble_eq_true rfl) (by decide) (Nat.le_of_ble_eq_true rfl) (s_X5_joinSign hw) ?_
  clear hw
  intro z4 h3 hw
  refine PW.ist2n C dX5_readJoin_51 (by decide) rfl ?_
  refine PW.ild2n C dX5_readJoin_52 ?_
  refine PW.iconst (v := (-1)) C dX5_readJoin_53 (by decide) ?_
  refine PW.icmp_ne (tgt := 63) C dX5_readJoin_54 (by decide) (fun c => ?_) (fun c => ?_)
  · rw [if_neg c] at hw
    refine PW.getRANKS C dX5_readJoin_63 ?_
    refine PW.ild2n C dX5_readJoin_66 ?_
    obtain ⟨hc5, hw⟩ := hw
    refine PW.stRANKS C dX5_readJoin_67 hc5 ?_
    replace hw := hw _ rfl
    refine PW.ist3n C dX5_readJoin_68 (by decide) rfl ?_
    refine PW.ald0n C dX5_readJoin_69 ?_
    refine PW.ald1n C dX5_readJoin_70 ?_
    refine PW.ild3n C dX5_readJoin_71 ?_
    refine PW.iconst (v := 4) C dX5_readJoin_72 (by decide) ?_
    refine PW.icmp_ne (tgt := 82) C dX5_readJoin_73 (by decide) (fun c => ?_) (fun c => ?_)
    · rw [if_neg c] at hw
      refine PW.ild3n C dX5_readJoin_82 ?_
      exact PW.wk (wk_s (wk_n (wk_s (wk_s wk_0)))) (b_X5_readJoin_83 C hr1 hw)
    · rw [if_pos c] at hw
      refine PW.ild3n C dX5_readJoin_76 ?_
      refine PW.iconst (v := 1) C dX5_readJoin_77 (by decide) ?_
      refine PW.iadd C dX5_readJoin_78 ?_
      refine PW.goto (tgt := 83) C dX5_readJoin_79 (by decide) ?_
      exact PW.wk (wk_s (wk_n (wk_s (wk_s wk_0)))) (b_X5_readJoin_83 C hr1 hw)
  · rw [if_pos c] at hw
    refine PW.ald0n C dX5_readJoin_57 ?_
    refine PW.iconst (v := 1) C dX5_readJoin_58 (by decide) ?_
    refine PW.callVI1 C ms_X5_faulty ml_X5_210 dX5_readJoin_59 oX_2 ⟨_, _, rfl⟩ (Nat.le_of_ble_eq_true rfl) (by decide) (Nat.le_of_ble_eq_true rfl) (s_X5_faulty hw) ?_
    clear hw
    intro z18 h17 hw
    exact PW.iret C dX5_readJoin_62 ⟨_, rfl, hw⟩
def w_X5_readJoin (r1 : Nat) (h : PH) (Q : Int32 → PH → Prop) : Prop :=
  w_X7_isSign 41 h (fun z2 h1 => if z2 = 0 then (w_X5_readJoin_47 r1 Q h1) else (if (gI h1 2 5) ≤ 0 then (w_X5_readJoin_47 r1 Q h1) else (w_X5_release r1 1 h1 (fun h19 => ∀ h20, h20 = sI h19 2 4 ((gI h19 2 4) - 1) → ∀ h21, h21 = sI h20 2 5 ((gI h20 2 5) - 1) → Q 2 h21))))
set_option maxRecDepth 8000 in
theorem s_X5_readJoin {D : va_G} {ca : Nat → ClassId} {ad : Nat → Nat} {l : Launch} {r1 : Nat} {h : PH} {Q : Int32 → PH → Prop} (hr1 : oX r1 1) (hw : w_X5_readJoin r1 h Q) : Sp (GX D ca ad) (XS (GX D ca ad)) l 3 yX5_readJoin cX5_readJoin 4 (some .int) [.ref 2, .ref r1] h (qI Q) := by
  refine Sp.of (own := RX5) [some (.ref 2), some (.ref r1), none, none] (by decide +kernel) rfl rfl (Nat.le_of_ble_eq_true rfl) (fun K hl C => ?_)
  subst hl
  unfold w_X5_readJoin at hw
  refine PW.ald0n C dX5_readJoin_0 ?_
  refine PW.get0 (v := .ref 3) C cf_5 fl_X5_12 (by decide) oX_2 (fvR (o := 1) rfl) dX5_readJoin_1 ?_
  refine PW.bipush (v := 41) C dX5_readJoin_4 (by decide) ?_
  refine PW.callVI1 C ms_X7_isSign ml_X5_126 dX5_readJoin_6 oX_3 ⟨_, _, rfl⟩ (Nat.le_of_ble_eq_true rfl) (by decide) (Nat.le_of_ble_eq_true rfl) (s_X7_isSign hw) ?_
  clear hw
  intro z2 h1 hw
  refine PW.if_eq (tgt := 47) C dX5_readJoin_9 (by decide) (fun c => ?_) (fun c => ?_)
  · rw [if_pos c] at hw
    exact PW.wk (wk_s (wk_s (wk_n (wk_n wk_0)))) (b_X5_readJoin_47 C hr1 hw)
  · rw [if_neg c] at hw
    refine PW.ald0n C dX5_readJoin_12 ?_
    refine PW.get0 C cf_5 fl_X5_196 (by decide) oX_2 (fvI rfl) dX5_readJoin_13 ?_
    refine PW.if_le (tgt := 47) C dX5_readJoin_16 (by decide) (fun c => ?_) (fun c => ?_)
    · rw [if_pos c] at hw
      exact PW.wk (wk_s (wk_s (wk_n (wk_n wk_0)))) (b_X5_readJoin_47 C hr1 hw)
    · rw [if_neg c] at hw
      refine PW.ald0n C dX5_readJoin_19 ?_
      refine PW.ald1n C dX5_readJoin_20 ?_
      refine PW.iconst (v := 1) C dX5_readJoin_21 (by decide) ?_
      refine PW.callVV2 C ms_X5_release ml_X5_199 dX5_readJoin_22 oX_2 ⟨_, _, rfl⟩ (Nat.le_of_ble_eq_true rfl) (by decide) (Nat.le_of_ble_eq_true rfl) (s_X5_release hr1 hw) ?_
      clear hw
      intro h19 hw
      refine PW.ald0n C dX5_readJoin_25 ?_
      refine PW.dup C dX5_readJoin_26 rfl ?_
      refine PW.get0 C cf_5 fl_X5_193 (by decide) oX_2 (fvI rfl) dX5_readJoin_27 ?_
      refine PW.iconst (v := 1) C dX5_readJoin_30 (by decide) ?_
      refine PW.isub C dX5_readJoin_31 ?_
      replace hw := hw _ rfl
      refine PW.put0 C cf_5 fl_X5_193 (by decide) oX_2 rfl rfl rfl (pw_sI oX_2 (by decide) rfl) dX5_readJoin_32 ?_
      refine PW.ald0n C dX5_readJoin_35 ?_
      refine PW.dup C dX5_readJoin_36 rfl ?_
      refine PW.get0 C cf_5 fl_X5_196 (by decide) oX_2 (fvI rfl) dX5_readJoin_37 ?_
      refine PW.iconst (v := 1) C dX5_readJoin_40 (by decide) ?_
      refine PW.isub C dX5_readJoin_41 ?_
      replace hw := hw _ rfl
      refine PW.put0 C cf_5 fl_X5_196 (by decide) oX_2 rfl rfl rfl (pw_sI oX_2 (by decide) rfl) dX5_readJoin_42 ?_
      refine PW.iconst (v := 2) C dX5_readJoin_45 (by decide) ?_
      exact PW.iret C dX5_readJoin_46 ⟨_, rfl, hw⟩
def w_X5_notMayStand (h : PH) (Q : Int32 → PH → Prop) : Prop :=
  w_X5_lastRank h (fun z2 h1 => vp_in 2 14 ∧ if (sRANKS (iN 2)) < z2 then (Q 0 h1) else (Q 1 h1))
set_option maxRecDepth 8000 in
theorem s_X5_notMayStand {D : va_G} {ca : Nat → ClassId} {ad : Nat → Nat} {l : Launch} {h : PH} {Q : Int32 → PH → Prop} (hw : w_X5_notMayStand h Q) : Sp (GX D ca ad) (XS (GX D ca ad)) l 2 yX5_notMayStand cX5_notMayStand 1 (some .boolean) [.ref 2] h (qI Q) := by
  refine Sp.of (own := RX5) [some (.ref 2)] (by decide +kernel) rfl rfl (Nat.le_of_ble_eq_true rfl) (fun K hl C => ?_)
  subst hl
  unfold w_X5_notMayStand at hw
  refine PW.ald0n C dX5_notMayStand_0 ?_
  refine PW.callVI0 C ms_X5_lastRank ml_X5_223 dX5_notMayStand_1 oX_2 ⟨_, _, rfl⟩ (Nat.le_of_ble_eq_true rfl) (by decide) (Nat.le_of_ble_eq_true rfl) (s_X5_lastRank hw) ?_
  clear hw
  intro z2 h1 hw
  refine PW.getRANKS C dX5_notMayStand_4 ?_
  refine PW.iconst (v := 2) C dX5_notMayStand_7 (by decide) ?_
  obtain ⟨hc3, hw⟩ := hw
  refine PW.stRANKS C dX5_notMayStand_8 hc3 ?_
  refine PW.icmp_gt (tgt := 16) C dX5_notMayStand_9 (by decide) (fun c => ?_) (fun c => ?_)
  · rw [if_pos c] at hw
    refine PW.iconst (v := 0) C dX5_notMayStand_16 (by decide) ?_
    exact PW.zret C dX5_notMayStand_17 (by decide) ⟨_, rfl, hw⟩
  · rw [if_neg c] at hw
    refine PW.iconst (v := 1) C dX5_notMayStand_12 (by decide) ?_
    refine PW.goto (tgt := 17) C dX5_notMayStand_13 (by decide) ?_
    exact PW.zret C dX5_notMayStand_17 (by decide) ⟨_, rfl, hw⟩
def w_X5_readOperand_153 (r1 : Nat) (Q : Int32 → PH → Prop) (h : PH) : Prop :=
  w_X5_faulty 2 h (fun z6 h5 => Q z6 h5)
set_option maxRecDepth 8000 in
theorem b_X5_readOperand_153 {D : va_G} {ca : Nat → ClassId} {ad : Nat → Nat} {K : Kt} {r1 : Nat} {Q : Int32 → PH → Prop} {h : PH} (C : CX (GX D ca ad) (XS (GX D ca ad)) cX5_readOperand RX5 4 (some .int) 3 K) (hr1 : oX r1 1) (hw : w_X5_readOperand_153 r1 Q h) : PW (GX D ca ad) K 4 (qI Q) h 153 [some (.ref 2), none, none, none] [] := by
  unfold w_X5_readOperand_153 at hw
  refine PW.ald0n C dX5_readOperand_153 ?_
  refine PW.iconst (v := 2) C dX5_readOperand_154 (by decide) ?_
  refine PW.callVI1 C ms_X5_faulty ml_X5_210 dX5_readOperand_155 oX_2 ⟨_, _, rfl⟩ (Nat.le_of_ble_eq_true rfl) (by decide) (Nat.le_of_ble_eq_true rfl) (s_X5_faulty hw) ?_
  clear hw
  intro z6 h5 hw
  exact PW.iret C dX5_readOperand_158 ⟨_, rfl, hw⟩
def w_X5_readOperand_159 (r1 : Nat) (Q : Int32 → PH → Prop) (x2 : Int32) (x3 : Int32) (h : PH) : Prop :=
  ∀ h7, h7 = sI h 2 6 ((gI h 2 6) + 1) → if x2 = 0 then (if x3 = 0 then (w_X1_add r1 (gI h7 3 6) h7 (fun h8 => Q 2 h8)) else (w_X1_add r1 ((-1) - ((gI h7 3 6) - 18)) h7 (fun h9 => Q 2 h9))) else (w_X5_hold 2 h7 (fun z11 h10 => Q z11 h10))
set_option maxRecDepth 8000 in
theorem b_X5_readOperand_159 {D : va_G} {ca : Nat → ClassId} {ad : Nat → Nat} {K : Kt} {r1 : Nat} {Q : Int32 → PH → Prop} {x2 : Int32} {x3 : Int32} {h : PH} (C : CX (GX D ca ad) (XS (GX D ca ad)) cX5_readOperand RX5 4 (some .int) 3 K) (hr1 : oX r1 1) (hw : w_X5_readOperand_159 r1 Q x2 x3 h) : PW (GX D ca ad) K 4 (qI Q) h 159 [some (.ref 2), some (.ref r1), some (.int x2), some (.int x3)] [] := by
  unfold w_X5_readOperand_159 at hw
  refine PW.ald0n C dX5_readOperand_159 ?_
  refine PW.dup C dX5_readOperand_160 rfl ?_
  refine PW.get0 C cf_5 fl_X5_45 (by decide) oX_2 (fvI rfl) dX5_readOperand_161 ?_
  refine PW.iconst (v := 1) C dX5_readOperand_164 (by decide) ?_
  refine PW.iadd C dX5_readOperand_165 ?_
  replace hw := hw _ rfl
  refine PW.put0 C cf_5 fl_X5_45 (by decide) oX_2 rfl rfl rfl (pw_sI oX_2 (by decide) rfl) dX5_readOperand_166 ?_
  refine PW.ild2n C dX5_readOperand_169 ?_
  refine PW.if_eq (tgt := 179) C dX5_readOperand_170 (by decide) (fun c => ?_) (fun c => ?_)
  · rw [if_pos c] at hw
    refine PW.ild3n C dX5_readOperand_179 ?_
    refine PW.if_eq (tgt := 202) C dX5_readOperand_180 (by decide) (fun c => ?_) (fun c => ?_)
    · rw [if_pos c] at hw
      refine PW.ald1n C dX5_readOperand_202 ?_
      refine PW.ald0n C dX5_readOperand_203 ?_
      refine PW.get0 (v := .ref 3) C cf_5 fl_X5_12 (by decide) oX_2 (fvR (o := 1) rfl) dX5_readOperand_204 ?_
      refine PW.getN0 C cf_7 fl_X5_77 (by decide) oX_3 (fvI rfl) dX5_readOperand_207 ?_
      refine PW.callVV1 C ms_X1_add ml_X5_220 dX5_readOperand_210 hr1 ⟨_, _, rfl⟩ (Nat.le_of_ble_eq_true rfl) (by decide) (Nat.le_of_ble_eq_true rfl) (s_X1_add hr1 hw) ?_
      clear hw
      intro h8 hw
      refine PW.iconst (v := 2) C dX5_readOperand_213 (by decide) ?_
      exact PW.iret C dX5_readOperand_214 ⟨_, rfl, hw⟩
    · rw [if_neg c] at hw
      refine PW.ald1n C dX5_readOperand_183 ?_
      refine PW.iconst (v := (-1)) C dX5_readOperand_184 (by decide) ?_
      refine PW.ald0n C dX5_readOperand_185 ?_
      refine PW.get0 (v := .ref 3) C cf_5 fl_X5_12 (by decide) oX_2 (fvR (o := 1) rfl) dX5_readOperand_186 ?_
      refine PW.getN0 C cf_7 fl_X5_77 (by decide) oX_3 (fvI rfl) dX5_readOperand_189 ?_
      refine PW.bipush (v := 18) C dX5_readOperand_192 (by decide) ?_
      refine PW.isub C dX5_readOperand_194 ?_
      refine PW.isub C dX5_readOperand_195 ?_
      refine PW.callVV1 C ms_X1_add ml_X5_220 dX5_readOperand_196 hr1 ⟨_, _, rfl⟩ (Nat.le_of_ble_eq_true rfl) (by decide) (Nat.le_of_ble_eq_true rfl) (s_X1_add hr1 hw) ?_
      clear hw
      intro h9 hw
      refine PW.goto (tgt := 213) C dX5_readOperand_199 (by decide) ?_
      refine PW.iconst (v := 2) C dX5_readOperand_213 (by decide) ?_
      exact PW.iret C dX5_readOperand_214 ⟨_, rfl, hw⟩
  · rw [if_neg c] at hw
    refine PW.ald0n C dX5_readOperand_173 ?_
    refine PW.iconst (v := 2) C dX5_readOperand_174 (by decide) ?_
    refine PW.callVI1 C ms_X5_hold ml_X5_214 dX5_readOperand_175 oX_2 ⟨_, _, rfl⟩ (Nat.le_of_ble_eq_true rfl) (by decide) (Nat.le_of_ble_eq_true rfl) (s_X5_hold hw) ?_
    clear hw
    intro z11 h10 hw
    exact PW.iret C dX5_readOperand_178 ⟨_, rfl, hw⟩
def w_X5_readOperand_123 (r1 : Nat) (Q : Int32 → PH → Prop) (x2 : Int32) (x3 : Int32) (h : PH) : Prop :=
  if 64 ≤ (gI h 2 6) then (w_X5_readOperand_153 r1 Q h) else (if x2 = 0 then (if x3 = 0 then (if (gI h 3 6) ≤ 9999 then (w_X5_readOperand_159 r1 Q x2 x3 h) else (w_X5_readOperand_153 r1 Q h)) else (w_X5_readOperand_159 r1 Q x2 x3 h)) else (w_X5_readOperand_159 r1 Q x2 x3 h))
set_option maxRecDepth 8000 in
theorem b_X5_readOperand_123 {D : va_G} {ca : Nat → ClassId} {ad : Nat → Nat} {K : Kt} {r1 : Nat} {Q : Int32 → PH → Prop} {x2 : Int32} {x3 : Int32} {h : PH} (C : CX (GX D ca ad) (XS (GX D ca ad)) cX5_readOperand RX5 4 (some .int) 3 K) (hr1 : oX r1 1) (hw : w_X5_readOperand_123 r1 Q x2 x3 h) : PW (GX D ca ad) K 4 (qI Q) h 123 [some (.ref 2), some (.ref r1), some (.int x2), some (.int x3)] [] := by
  unfold w_X5_readOperand_123 at hw
  refine PW.ald0n C dX5_readOperand_123 ?_
  refine PW.get0 C cf_5 fl_X5_45 (by decide) oX_2 (fvI rfl) dX5_readOperand_124 ?_
  refine PW.bipush (v := 64) C dX5_readOperand_127 (by decide) ?_
  refine PW.icmp_ge (tgt := 153) C dX5_readOperand_129 (by decide) (fun c => ?_) (fun c => ?_)
  · rw [if_pos c] at hw
    exact PW.wk (wk_s (wk_n (wk_n (wk_n wk_0)))) (b_X5_readOperand_153 C hr1 hw)
  · rw [if_neg c] at hw
    refine PW.ild2n C dX5_readOperand_132 ?_
    refine PW.if_ne (tgt := 159) C dX5_readOperand_133 (by decide) (fun c => ?_) (fun c => ?_)
    · rw [if_neg c] at hw
      exact PW.wk (wk_s (wk_s (wk_s (wk_s wk_0)))) (b_X5_readOperand_159 C hr1 hw)
    · rw [if_pos c] at hw
      refine PW.ild3n C dX5_readOperand_136 ?_
      refine PW.if_ne (tgt := 159) C dX5_readOperand_137 (by decide) (fun c => ?_) (fun c => ?_)
      · rw [if_neg c] at hw
        exact PW.wk (wk_s (wk_s (wk_s (wk_s wk_0)))) (b_X5_readOperand_159 C hr1 hw)
      · rw [if_pos c] at hw
        refine PW.ald0n C dX5_readOperand_140 ?_
        refine PW.get0 (v := .ref 3) C cf_5 fl_X5_12 (by decide) oX_2 (fvR (o := 1) rfl) dX5_readOperand_141 ?_
        refine PW.getN0 C cf_7 fl_X5_77 (by decide) oX_3 (fvI rfl) dX5_readOperand_144 ?_
        refine PW.sipush (v := 9999) C dX5_readOperand_147 (by decide) ?_
        refine PW.icmp_le (tgt := 159) C dX5_readOperand_150 (by decide) (fun c => ?_) (fun c => ?_)
        · rw [if_pos c] at hw
          exact PW.wk (wk_s (wk_s (wk_s (wk_s wk_0)))) (b_X5_readOperand_159 C hr1 hw)
        · rw [if_neg c] at hw
          exact PW.wk (wk_s (wk_n (wk_n (wk_n wk_0)))) (b_X5_readOperand_153 C hr1 hw)
def w_X5_readOperand_97 (r1 : Nat) (Q : Int32 → PH → Prop) (x2 : Int32) (s0 : Int32) (h : PH) : Prop :=
  if x2 = 0 then (if s0 = 0 then (if (gI h 3 4) = 2 then (w_X5_readOperand_123 r1 Q x2 s0 h) else (w_X5_faulty 1 h (fun z13 h12 => Q z13 h12))) else (w_X5_readOperand_123 r1 Q x2 s0 h)) else (w_X5_readOperand_123 r1 Q x2 s0 h)
set_option maxRecDepth 8000 in
theorem b_X5_readOperand_97 {D : va_G} {ca : Nat → ClassId} {ad : Nat → Nat} {K : Kt} {r1 : Nat} {Q : Int32 → PH → Prop} {x2 : Int32} {s0 : Int32} {h : PH} (C : CX (GX D ca ad) (XS (GX D ca ad)) cX5_readOperand RX5 4 (some .int) 3 K) (hr1 : oX r1 1) (hw : w_X5_readOperand_97 r1 Q x2 s0 h) : PW (GX D ca ad) K 4 (qI Q) h 97 [some (.ref 2), some (.ref r1), some (.int x2), none] [.int s0] := by
  unfold w_X5_readOperand_97 at hw
  refine PW.ist3n C dX5_readOperand_97 (by decide) rfl ?_
  refine PW.ild2n C dX5_readOperand_98 ?_
  refine PW.if_ne (tgt := 123) C dX5_readOperand_99 (by decide) (fun c => ?_) (fun c => ?_)
  · rw [if_neg c] at hw
    exact PW.wk (wk_s (wk_s (wk_s (wk_s wk_0)))) (b_X5_readOperand_123 C hr1 hw)
  · rw [if_pos c] at hw
    refine PW.ild3n C dX5_readOperand_102 ?_
    refine PW.if_ne (tgt := 123) C dX5_readOperand_103 (by decide) (fun c => ?_) (fun c => ?_)
    · rw [if_neg c] at hw
      exact PW.wk (wk_s (wk_s (wk_s (wk_s wk_0)))) (b_X5_readOperand_123 C hr1 hw)
    · rw [if_pos c] at hw
      refine PW.ald0n C dX5_readOperand_106 ?_
      refine PW.get0 (v := .ref 3) C cf_5 fl_X5_12 (by decide) oX_2 (fvR (o := 1) rfl) dX5_readOperand_107 ?_
      refine PW.getN0 C cf_7 fl_X5_54 (by decide) oX_3 (fvI rfl) dX5_readOperand_110 ?_
      refine PW.iconst (v := 2) C dX5_readOperand_113 (by decide) ?_
      refine PW.icmp_eq (tgt := 123) C dX5_readOperand_114 (by decide) (fun c => ?_) (fun c => ?_)
      · rw [if_pos c] at hw
        exact PW.wk (wk_s (wk_s (wk_s (wk_s wk_0)))) (b_X5_readOperand_123 C hr1 hw)
      · rw [if_neg c] at hw
        refine PW.ald0n C dX5_readOperand_117 ?_
        refine PW.iconst (v := 1) C dX5_readOperand_118 (by decide) ?_
        refine PW.callVI1 C ms_X5_faulty ml_X5_210 dX5_readOperand_119 oX_2 ⟨_, _, rfl⟩ (Nat.le_of_ble_eq_true rfl) (by decide) (Nat.le_of_ble_eq_true rfl) (s_X5_faulty hw) ?_
        clear hw
        intro z13 h12 hw
        exact PW.iret C dX5_readOperand_122 ⟨_, rfl, hw⟩
def w_X5_readOperand_96 (r1 : Nat) (Q : Int32 → PH → Prop) (x2 : Int32) (h : PH) : Prop :=
  w_X5_readOperand_97 r1 Q x2 0 h
set_option maxRecDepth 8000 in
theorem b_X5_readOperand_96 {D : va_G} {ca : Nat → ClassId} {ad : Nat → Nat} {K : Kt} {r1 : Nat} {Q : Int32 → PH → Prop} {x2 : Int32} {h : PH} (C : CX (GX D ca ad) (XS (GX D ca ad)) cX5_readOperand RX5 4 (some .int) 3 K) (hr1 : oX r1 1) (hw : w_X5_readOperand_96 r1 Q x2 h) : PW (GX D ca ad) K 4 (qI Q) h 96 [some (.ref 2), some (.ref r1), some (.int x2), none] [] := by
  unfold w_X5_readOperand_96 at hw
  refine PW.iconst (v := 0) C dX5_readOperand_96 (by decide) ?_
  exact PW.wk (wk_s (wk_s (wk_s (wk_n wk_0)))) (b_X5_readOperand_97 C hr1 hw)
def w_X5_readOperand_68 (r1 : Nat) (Q : Int32 → PH → Prop) (s0 : Int32) (h : PH) : Prop :=
  if (gI h 3 4) = 4 then (if (gI h 3 6) < 18 then (w_X5_readOperand_96 r1 Q s0 h) else (w_X5_readOperand_97 r1 Q s0 1 h)) else (w_X5_readOperand_96 r1 Q s0 h)
set_option maxRecDepth 8000 in
theorem b_X5_readOperand_68 {D : va_G} {ca : Nat → ClassId} {ad : Nat → Nat} {K : Kt} {r1 : Nat} {Q : Int32 → PH → Prop} {s0 : Int32} {h : PH} (C : CX (GX D ca ad) (XS (GX D ca ad)) cX5_readOperand RX5 4 (some .int) 3 K) (hr1 : oX r1 1) (hw : w_X5_readOperand_68 r1 Q s0 h) : PW (GX D ca ad) K 4 (qI Q) h 68 [some (.ref 2), some (.ref r1), none, none] [.int s0] := by
  unfold w_X5_readOperand_68 at hw
  refine PW.ist2n C dX5_readOperand_68 (by decide) rfl ?_
  refine PW.ald0n C dX5_readOperand_69 ?_
  refine PW.get0 (v := .ref 3) C cf_5 fl_X5_12 (by decide) oX_2 (fvR (o := 1) rfl) dX5_readOperand_70 ?_
  refine PW.getN0 C cf_7 fl_X5_54 (by decide) oX_3 (fvI rfl) dX5_readOperand_73 ?_
  refine PW.iconst (v := 4) C dX5_readOperand_76 (by decide) ?_
  refine PW.icmp_ne (tgt := 96) C dX5_readOperand_77 (by decide) (fun c => ?_) (fun c => ?_)
  · rw [if_neg c] at hw
    exact PW.wk (wk_s (wk_s (wk_s (wk_n wk_0)))) (b_X5_readOperand_96 C hr1 hw)
  · rw [if_pos c] at hw
    refine PW.ald0n C dX5_readOperand_80 ?_
    refine PW.get0 (v := .ref 3) C cf_5 fl_X5_12 (by decide) oX_2 (fvR (o := 1) rfl) dX5_readOperand_81 ?_
    refine PW.getN0 C cf_7 fl_X5_77 (by decide) oX_3 (fvI rfl) dX5_readOperand_84 ?_
    refine PW.bipush (v := 18) C dX5_readOperand_87 (by decide) ?_
    refine PW.icmp_lt (tgt := 96) C dX5_readOperand_89 (by decide) (fun c => ?_) (fun c => ?_)
    · rw [if_pos c] at hw
      exact PW.wk (wk_s (wk_s (wk_s (wk_n wk_0)))) (b_X5_readOperand_96 C hr1 hw)
    · rw [if_neg c] at hw
      refine PW.iconst (v := 1) C dX5_readOperand_92 (by decide) ?_
      refine PW.goto (tgt := 97) C dX5_readOperand_93 (by decide) ?_
      exact PW.wk (wk_s (wk_s (wk_s (wk_n wk_0)))) (b_X5_readOperand_97 C hr1 hw)
def w_X5_readOperand_67 (r1 : Nat) (Q : Int32 → PH → Prop) (h : PH) : Prop :=
  w_X5_readOperand_68 r1 Q 0 h
set_option maxRecDepth 8000 in
theorem b_X5_readOperand_67 {D : va_G} {ca : Nat → ClassId} {ad : Nat → Nat} {K : Kt} {r1 : Nat} {Q : Int32 → PH → Prop} {h : PH} (C : CX (GX D ca ad) (XS (GX D ca ad)) cX5_readOperand RX5 4 (some .int) 3 K) (hr1 : oX r1 1) (hw : w_X5_readOperand_67 r1 Q h) : PW (GX D ca ad) K 4 (qI Q) h 67 [some (.ref 2), some (.ref r1), none, none] [] := by
  unfold w_X5_readOperand_67 at hw
  refine PW.iconst (v := 0) C dX5_readOperand_67 (by decide) ?_
  exact PW.wk (wk_s (wk_s (wk_n (wk_n wk_0)))) (b_X5_readOperand_68 C hr1 hw)
def w_X5_readOperand (r1 : Nat) (h : PH) (Q : Int32 → PH → Prop) : Prop :=
  w_X7_isSign 40 h (fun z2 h1 => if z2 = 0 then (w_X7_isWord 17 h1 (fun z4 h3 => if z4 = 0 then (w_X5_readOperand_67 r1 Q h3) else (w_X5_notMayStand h3 (fun z15 h14 => if z15 = 0 then (w_X5_readOperand_67 r1 Q h14) else (w_X5_readOperand_68 r1 Q 1 h14))))) else (if (gI h1 2 5) < 8 then (∀ h16, h16 = sI h1 2 5 ((gI h1 2 5) + 1) → w_X5_hold 13 h16 (fun z18 h17 => Q z18 h17)) else (w_X5_faulty 2 h1 (fun z20 h19 => Q z20 h19))))
set_option maxRecDepth 8000 in
theorem s_X5_readOperand {D : va_G} {ca : Nat → ClassId} {ad : Nat → Nat} {l : Launch} {r1 : Nat} {h : PH} {Q : Int32 → PH → Prop} (hr1 : oX r1 1) (hw : w_X5_readOperand r1 h Q) : Sp (GX D ca ad) (XS (GX D ca ad)) l 3 yX5_readOperand cX5_readOperand 4 (some .int) [.ref 2, .ref r1] h (qI Q) := by
  refine Sp.of (own := RX5) [some (.ref 2), some (.ref r1), none, none] (by decide +kernel) rfl rfl (Nat.le_of_ble_eq_true rfl) (fun K hl C => ?_)
  subst hl
  unfold w_X5_readOperand at hw
  refine PW.ald0n C dX5_readOperand_0 ?_
  refine PW.get0 (v := .ref 3) C cf_5 fl_X5_12 (by decide) oX_2 (fvR (o := 1) rfl) dX5_readOperand_1 ?_
  refine PW.bipush (v := 40) C dX5_readOperand_4 (by decide) ?_
  refine PW.callVI1 C ms_X7_isSign ml_X5_126 dX5_readOperand_6 oX_3 ⟨_, _, rfl⟩ (Nat.le_of_ble_eq_true rfl) (by decide) (Nat.le_of_ble_eq_true rfl) (s_X7_isSign hw) ?_
  clear hw
  intro z2 h1 hw
  refine PW.if_eq (tgt := 44) C dX5_readOperand_9 (by decide) (fun c => ?_) (fun c => ?_)
  · rw [if_pos c] at hw
    refine PW.ald0n C dX5_readOperand_44 ?_
    refine PW.get0 (v := .ref 3) C cf_5 fl_X5_12 (by decide) oX_2 (fvR (o := 1) rfl) dX5_readOperand_45 ?_
    refine PW.bipush (v := 17) C dX5_readOperand_48 (by decide) ?_
    refine PW.callVI1 C ms_X7_isWord ml_X5_180 dX5_readOperand_50 oX_3 ⟨_, _, rfl⟩ (Nat.le_of_ble_eq_true rfl) (by decide) (Nat.le_of_ble_eq_true rfl) (s_X7_isWord hw) ?_
    clear hw
    intro z4 h3 hw
    refine PW.if_eq (tgt := 67) C dX5_readOperand_53 (by decide) (fun c => ?_) (fun c => ?_)
    · rw [if_pos c] at hw
      exact PW.wk (wk_s (wk_s (wk_n (wk_n wk_0)))) (b_X5_readOperand_67 C hr1 hw)
    · rw [if_neg c] at hw
      refine PW.ald0n C dX5_readOperand_56 ?_
      refine PW.callVI0 C ms_X5_notMayStand ml_X5_217 dX5_readOperand_57 oX_2 ⟨_, _, rfl⟩ (Nat.le_of_ble_eq_true rfl) (by decide) (Nat.le_of_ble_eq_true rfl) (s_X5_notMayStand hw) ?_
      clear hw
      intro z15 h14 hw
      refine PW.if_eq (tgt := 67) C dX5_readOperand_60 (by decide) (fun c => ?_) (fun c => ?_)
      · rw [if_pos c] at hw
        exact PW.wk (wk_s (wk_s (wk_n (wk_n wk_0)))) (b_X5_readOperand_67 C hr1 hw)
      · rw [if_neg c] at hw
        refine PW.iconst (v := 1) C dX5_readOperand_63 (by decide) ?_
        refine PW.goto (tgt := 68) C dX5_readOperand_64 (by decide) ?_
        exact PW.wk (wk_s (wk_s (wk_n (wk_n wk_0)))) (b_X5_readOperand_68 C hr1 hw)
  · rw [if_neg c] at hw
    refine PW.ald0n C dX5_readOperand_12 ?_
    refine PW.get0 C cf_5 fl_X5_196 (by decide) oX_2 (fvI rfl) dX5_readOperand_13 ?_
    refine PW.bipush (v := 8) C dX5_readOperand_16 (by decide) ?_
    refine PW.icmp_lt (tgt := 27) C dX5_readOperand_18 (by decide) (fun c => ?_) (fun c => ?_)
    · rw [if_pos c] at hw
      refine PW.ald0n C dX5_readOperand_27 ?_
      refine PW.dup C dX5_readOperand_28 rfl ?_
      refine PW.get0 C cf_5 fl_X5_196 (by decide) oX_2 (fvI rfl) dX5_readOperand_29 ?_
      refine PW.iconst (v := 1) C dX5_readOperand_32 (by decide) ?_
      refine PW.iadd C dX5_readOperand_33 ?_
      replace hw := hw _ rfl
      refine PW.put0 C cf_5 fl_X5_196 (by decide) oX_2 rfl rfl rfl (pw_sI oX_2 (by decide) rfl) dX5_readOperand_34 ?_
      refine PW.ald0n C dX5_readOperand_37 ?_
      refine PW.bipush (v := 13) C dX5_readOperand_38 (by decide) ?_
      refine PW.callVI1 C ms_X5_hold ml_X5_214 dX5_readOperand_40 oX_2 ⟨_, _, rfl⟩ (Nat.le_of_ble_eq_true rfl) (by decide) (Nat.le_of_ble_eq_true rfl) (s_X5_hold hw) ?_
      clear hw
      intro z18 h17 hw
      exact PW.iret C dX5_readOperand_43 ⟨_, rfl, hw⟩
    · rw [if_neg c] at hw
      refine PW.ald0n C dX5_readOperand_21 ?_
      refine PW.iconst (v := 2) C dX5_readOperand_22 (by decide) ?_
      refine PW.callVI1 C ms_X5_faulty ml_X5_210 dX5_readOperand_23 oX_2 ⟨_, _, rfl⟩ (Nat.le_of_ble_eq_true rfl) (by decide) (Nat.le_of_ble_eq_true rfl) (s_X5_faulty hw) ?_
      clear hw
      intro z20 h19 hw
      exact PW.iret C dX5_readOperand_26 ⟨_, rfl, hw⟩
def w_X5_readLaw_158 (k163 : PH → Prop) (Q : Int32 → PH → Prop) (kb : Int32 → Int32 → PH → Prop) (x1 : Nat) (x3 : Int32) (s0 : Int32) (h : PH) : Prop :=
  if s0 = 0 then (k163 h) else (kb s0 (x3 + 1) h)
set_option maxRecDepth 8000 in
theorem b_X5_readLaw_158 {D : va_G} {ca : Nat → ClassId} {ad : Nat → Nat} {K : Kt} {k163 : PH → Prop} {kb : Int32 → Int32 → PH → Prop} {Q : Int32 → PH → Prop} {x1 : Nat} {x3 : Int32} {s0 : Int32} {h : PH} (C : CX (GX D ca ad) (XS (GX D ca ad)) cX5_readLaw RX5 4 (some .boolean) 7 K) (hk163 : ∀ (h : PH), k163 h → PW (GX D ca ad) K 4 (qI Q) h 163 [none, none, none, none] []) (hkb : ∀ (x2 : Int32) (x3 : Int32) (h : PH), kb x2 x3 h → PW (GX D ca ad) K 4 (qI Q) h 94 [some (.ref 2), some (.ref x1), some (.int x2), some (.int x3)] []) (hx1 : oX x1 1) (hw : w_X5_readLaw_158 k163 Q kb x1 x3 s0 h) : PW (GX D ca ad) K 4 (qI Q) h 158 [some (.ref 2), some (.ref x1), none, some (.int x3)] [.int s0] := by
  unfold w_X5_readLaw_158 at hw
  refine PW.ist2n C dX5_readLaw_158 (by decide) rfl ?_
  refine PW.ild2n C dX5_readLaw_159 ?_
  refine PW.if_ne (tgt := 165) C dX5_readLaw_160 (by decide) (fun c => ?_) (fun c => ?_)
  · rw [if_neg c] at hw
    refine PW.inc3 (v := 1) C dX5_readLaw_165 (by decide) rfl (by decide) ?_
    refine PW.goto (tgt := 94) C dX5_readLaw_168 (by decide) ?_
    exact PW.wk (wk_s (wk_s (wk_s (wk_s wk_0)))) (hkb _ _ _ hw)
  · rw [if_pos c] at hw
    exact PW.wk (wk_n (wk_n (wk_n (wk_n wk_0)))) (hk163 _ hw)
def w_X5_readLaw_140 (k163 : PH → Prop) (Q : Int32 → PH → Prop) (kb : Int32 → Int32 → PH → Prop) (x1 : Nat) (x2 : Int32) (x3 : Int32) (h : PH) : Prop :=
  if x2 = 1 then (w_X5_readOperand x1 h (fun z14 h13 => w_X5_readLaw_158 k163 Q kb x1 x3 z14 h13)) else (w_X5_readJoin x1 h (fun z12 h11 => w_X5_readLaw_158 k163 Q kb x1 x3 z12 h11))
set_option maxRecDepth 8000 in
theorem b_X5_readLaw_140 {D : va_G} {ca : Nat → ClassId} {ad : Nat → Nat} {K : Kt} {k163 : PH → Prop} {kb : Int32 → Int32 → PH → Prop} {Q : Int32 → PH → Prop} {x1 : Nat} {x2 : Int32} {x3 : Int32} {h : PH} (C : CX (GX D ca ad) (XS (GX D ca ad)) cX5_readLaw RX5 4 (some .boolean) 7 K) (hk163 : ∀ (h : PH), k163 h → PW (GX D ca ad) K 4 (qI Q) h 163 [none, none, none, none] []) (hkb : ∀ (x2 : Int32) (x3 : Int32) (h : PH), kb x2 x3 h → PW (GX D ca ad) K 4 (qI Q) h 94 [some (.ref 2), some (.ref x1), some (.int x2), some (.int x3)] []) (hx1 : oX x1 1) (hw : w_X5_readLaw_140 k163 Q kb x1 x2 x3 h) : PW (GX D ca ad) K 4 (qI Q) h 140 [some (.ref 2), some (.ref x1), some (.int x2), some (.int x3)] [] := by
  unfold w_X5_readLaw_140 at hw
  refine PW.ild2n C dX5_readLaw_140 ?_
  refine PW.iconst (v := 1) C dX5_readLaw_141 (by decide) ?_
  refine PW.icmp_ne (tgt := 153) C dX5_readLaw_142 (by decide) (fun c => ?_) (fun c => ?_)
  · rw [if_neg c] at hw
    refine PW.ald0n C dX5_readLaw_153 ?_
    refine PW.ald1n C dX5_readLaw_154 ?_
    refine PW.callVI1 C ms_X5_readJoin ml_X5_207 dX5_readLaw_155 oX_2 ⟨_, _, rfl⟩ (Nat.le_of_ble_eq_true rfl) (by decide) (Nat.le_of_ble_eq_true rfl) (s_X5_readJoin hx1 hw) ?_
    clear hw
    intro z12 h11 hw
    exact PW.wk (wk_s (wk_s (wk_n (wk_s wk_0)))) (b_X5_readLaw_158 C hk163 hkb hx1 hw)
  · rw [if_pos c] at hw
    refine PW.ald0n C dX5_readLaw_145 ?_
    refine PW.ald1n C dX5_readLaw_146 ?_
    refine PW.callVI1 C ms_X5_readOperand ml_X5_203 dX5_readLaw_147 oX_2 ⟨_, _, rfl⟩ (Nat.le_of_ble_eq_true rfl) (by decide) (Nat.le_of_ble_eq_true rfl) (s_X5_readOperand hx1 hw) ?_
    clear hw
    intro z14 h13 hw
    refine PW.goto (tgt := 158) C dX5_readLaw_150 (by decide) ?_
    exact PW.wk (wk_s (wk_s (wk_n (wk_s wk_0)))) (b_X5_readLaw_158 C hk163 hkb hx1 hw)
def w_X5_readLaw_94 (k132 : PH → Prop) (k163 : PH → Prop) (k171 : PH → Prop) (Q : Int32 → PH → Prop) (x1 : Nat) (kb : Int32 → Int32 → PH → Prop) (x2 : Int32) (x3 : Int32) (h : PH) : Prop :=
  if 700 < x3 then (k171 h) else (w_X7_advance h (fun h10 => if x2 = 2 then (if (gI h10 2 5) = 0 then (w_X7_isSign 59 h10 (fun z16 h15 => if z16 = 0 then (w_X5_readLaw_140 k163 Q kb x1 x2 x3 h15) else (k132 h15))) else (w_X5_readLaw_140 k163 Q kb x1 x2 x3 h10)) else (w_X5_readLaw_140 k163 Q kb x1 x2 x3 h10)))
set_option maxRecDepth 8000 in
theorem b_X5_readLaw_94 {D : va_G} {ca : Nat → ClassId} {ad : Nat → Nat} {K : Kt} {k132 : PH → Prop} {k163 : PH → Prop} {k171 : PH → Prop} {kb : Int32 → Int32 → PH → Prop} {Q : Int32 → PH → Prop} {x1 : Nat} {x2 : Int32} {x3 : Int32} {h : PH} (C : CX (GX D ca ad) (XS (GX D ca ad)) cX5_readLaw RX5 4 (some .boolean) 7 K) (hx1 : oX x1 1) (hk132 : ∀ (h : PH), k132 h → PW (GX D ca ad) K 4 (qI Q) h 132 [some (.ref 2), some (.ref x1), none, none] []) (hk163 : ∀ (h : PH), k163 h → PW (GX D ca ad) K 4 (qI Q) h 163 [none, none, none, none] []) (hk171 : ∀ (h : PH), k171 h → PW (GX D ca ad) K 4 (qI Q) h 171 [some (.ref 2), none, none, none] []) (hkb : ∀ (x2 : Int32) (x3 : Int32) (h : PH), kb x2 x3 h → PW (GX D ca ad) K 4 (qI Q) h 94 [some (.ref 2), some (.ref x1), some (.int x2), some (.int x3)] []) (hw : w_X5_readLaw_94 k132 k163 k171 Q x1 kb x2 x3 h) : PW (GX D ca ad) K 4 (qI Q) h 94 [some (.ref 2), some (.ref x1), some (.int x2), some (.int x3)] [] := by
  unfold w_X5_readLaw_94 at hw
  refine PW.ild3n C dX5_readLaw_94 ?_
  refine PW.sipush (v := 700) C dX5_readLaw_95 (by decide) ?_
  refine PW.icmp_gt (tgt := 171) C dX5_readLaw_98 (by decide) (fun c => ?_) (fun c => ?_)
  · rw [if_pos c] at hw
    exact PW.wk (wk_s (wk_n (wk_n (wk_n wk_0)))) (hk171 _ hw)
  · rw [if_neg c] at hw
    refine PW.ald0n C dX5_readLaw_101 ?_
    refine PW.get0 (v := .ref 3) C cf_5 fl_X5_12 (by decide) oX_2 (fvR (o := 1) rfl) dX5_readLaw_102 ?_
    refine PW.callVV0 C ms_X7_advance ml_X5_51 dX5_readLaw_105 oX_3 ⟨_, _, rfl⟩ (Nat.le_of_ble_eq_true rfl) (by decide) (Nat.le_of_ble_eq_true rfl) (s_X7_advance hw) ?_
    clear hw
    intro h10 hw
    refine PW.ild2n C dX5_readLaw_108 ?_
    refine PW.iconst (v := 2) C dX5_readLaw_109 (by decide) ?_
    refine PW.icmp_ne (tgt := 140) C dX5_readLaw_110 (by decide) (fun c => ?_) (fun c => ?_)
    · rw [if_neg c] at hw
      exact PW.wk (wk_s (wk_s (wk_s (wk_s wk_0)))) (b_X5_readLaw_140 C hk163 hkb hx1 hw)
    · rw [if_pos c] at hw
      refine PW.ald0n C dX5_readLaw_113 ?_
      refine PW.get0 C cf_5 fl_X5_196 (by decide) oX_2 (fvI rfl) dX5_readLaw_114 ?_
      refine PW.if_ne (tgt := 140) C dX5_readLaw_117 (by decide) (fun c => ?_) (fun c => ?_)
      · rw [if_neg c] at hw
        exact PW.wk (wk_s (wk_s (wk_s (wk_s wk_0)))) (b_X5_readLaw_140 C hk163 hkb hx1 hw)
      · rw [if_pos c] at hw
        refine PW.ald0n C dX5_readLaw_120 ?_
        refine PW.get0 (v := .ref 3) C cf_5 fl_X5_12 (by decide) oX_2 (fvR (o := 1) rfl) dX5_readLaw_121 ?_
        refine PW.bipush (v := 59) C dX5_readLaw_124 (by decide) ?_
        refine PW.callVI1 C ms_X7_isSign ml_X5_126 dX5_readLaw_126 oX_3 ⟨_, _, rfl⟩ (Nat.le_of_ble_eq_true rfl) (by decide) (Nat.le_of_ble_eq_true rfl) (s_X7_isSign hw) ?_
        clear hw
        intro z16 h15 hw
        refine PW.if_eq (tgt := 140) C dX5_readLaw_129 (by decide) (fun c => ?_) (fun c => ?_)
        · rw [if_pos c] at hw
          exact PW.wk (wk_s (wk_s (wk_s (wk_s wk_0)))) (b_X5_readLaw_140 C hk163 hkb hx1 hw)
        · rw [if_neg c] at hw
          exact PW.wk (wk_s (wk_s (wk_n (wk_n wk_0)))) (hk132 _ hw)
theorem l_X5_readLaw_94 {D : va_G} {ca : Nat → ClassId} {ad : Nat → Nat} {K : Kt} {k132 : PH → Prop} {k163 : PH → Prop} {k171 : PH → Prop} {Q : Int32 → PH → Prop} {x1 : Nat} (C : CX (GX D ca ad) (XS (GX D ca ad)) cX5_readLaw RX5 4 (some .boolean) 7 K) (hx1 : oX x1 1) (hk132 : ∀ (h : PH), k132 h → PW (GX D ca ad) K 4 (qI Q) h 132 [some (.ref 2), some (.ref x1), none, none] []) (hk163 : ∀ (h : PH), k163 h → PW (GX D ca ad) K 4 (qI Q) h 163 [none, none, none, none] []) (hk171 : ∀ (h : PH), k171 h → PW (GX D ca ad) K 4 (qI Q) h 171 [some (.ref 2), none, none, none] []) : ∀ (n : Nat) (x2 : Int32) (x3 : Int32) (h : PH), Lp2 (w_X5_readLaw_94 k132 k163 k171 Q x1) n x2 x3 h → PW (GX D ca ad) K 4 (qI Q) h 94 [some (.ref 2), some (.ref x1), some (.int x2), some (.int x3)] [] := by
  intro n
  induction n with
  | zero => intro x2 x3 h hw; exact hw.elim
  | succ n ih => intro x2 x3 h hw; exact b_X5_readLaw_94 C hx1 hk132 hk163 hk171 (fun x2 x3 h hw => ih x2 x3 h hw) hw
def w_X5_readLaw_66 (Q : Int32 → PH → Prop) (s0 : Nat) (h : PH) : Prop :=
  if (gI h s0 3) ≤ 0 then (∀ h8, h8 = sI h 2 4 0 → ∀ h9, h9 = sI h8 2 5 0 → ∃ n, Lp2 (w_X5_readLaw_94 (fun h17 => w_X5_release s0 1 h17 (fun h18 => Q 1 h18)) (fun h19 => Q 0 h19) (fun h20 => w_X5_refuse 1 h20 (fun z22 h21 => (z22 = 0 ∨ z22 = 1) ∧ Q z22 h21)) Q s0) n 1 0 h9) else (w_X5_refuse 3 h (fun z24 h23 => (z24 = 0 ∨ z24 = 1) ∧ Q z24 h23))
set_option maxRecDepth 8000 in
theorem b_X5_readLaw_66 {D : va_G} {ca : Nat → ClassId} {ad : Nat → Nat} {K : Kt} {Q : Int32 → PH → Prop} {s0 : Nat} {h : PH} (C : CX (GX D ca ad) (XS (GX D ca ad)) cX5_readLaw RX5 4 (some .boolean) 7 K) (hs0 : oX s0 1) (hw : w_X5_readLaw_66 Q s0 h) : PW (GX D ca ad) K 4 (qI Q) h 66 [some (.ref 2), none, none, none] [.ref s0] := by
  unfold w_X5_readLaw_66 at hw
  refine PW.ast1n C dX5_readLaw_66 (by decide) rfl ?_
  refine PW.ald1n C dX5_readLaw_67 ?_
  refine PW.getN0 C cf_1 fl_X5_190 (by decide) hs0 (fvI rfl) dX5_readLaw_68 ?_
  refine PW.if_le (tgt := 80) C dX5_readLaw_71 (by decide) (fun c => ?_) (fun c => ?_)
  · rw [if_pos c] at hw
    refine PW.ald0n C dX5_readLaw_80 ?_
    refine PW.iconst (v := 0) C dX5_readLaw_81 (by decide) ?_
    replace hw := hw _ rfl
    refine PW.put0 C cf_5 fl_X5_193 (by decide) oX_2 rfl rfl rfl (pw_sI oX_2 (by decide) rfl) dX5_readLaw_82 ?_
    refine PW.ald0n C dX5_readLaw_85 ?_
    refine PW.iconst (v := 0) C dX5_readLaw_86 (by decide) ?_
    replace hw := hw _ rfl
    refine PW.put0 C cf_5 fl_X5_196 (by decide) oX_2 rfl rfl rfl (pw_sI oX_2 (by decide) rfl) dX5_readLaw_87 ?_
    refine PW.iconst (v := 1) C dX5_readLaw_90 (by decide) ?_
    refine PW.ist2n C dX5_readLaw_91 (by decide) rfl ?_
    refine PW.iconst (v := 0) C dX5_readLaw_92 (by decide) ?_
    refine PW.ist3n C dX5_readLaw_93 (by decide) rfl ?_
    obtain ⟨n, hw⟩ := hw
    refine PW.wk (wk_s (wk_s (wk_s (wk_s wk_0)))) (l_X5_readLaw_94 C hs0 ?_ ?_ ?_ n _ _ _ hw)
    · intro h17 hw
      refine PW.ald0n C dX5_readLaw_132 ?_
      refine PW.ald1n C dX5_readLaw_133 ?_
      refine PW.iconst (v := 1) C dX5_readLaw_134 (by decide) ?_
      refine PW.callVV2 C ms_X5_release ml_X5_199 dX5_readLaw_135 oX_2 ⟨_, _, rfl⟩ (Nat.le_of_ble_eq_true rfl) (by decide) (Nat.le_of_ble_eq_true rfl) (s_X5_release hs0 hw) ?_
      clear hw
      intro h18 hw
      refine PW.iconst (v := 1) C dX5_readLaw_138 (by decide) ?_
      exact PW.zret C dX5_readLaw_139 (by decide) ⟨_, rfl, hw⟩
    · intro h19 hw
      refine PW.iconst (v := 0) C dX5_readLaw_163 (by decide) ?_
      exact PW.zret C dX5_readLaw_164 (by decide) ⟨_, rfl, hw⟩
    · intro h20 hw
      refine PW.ald0n C dX5_readLaw_171 ?_
      refine PW.iconst (v := 1) C dX5_readLaw_172 (by decide) ?_
      refine PW.callVI1 C ms_X5_refuse ml_X5_70 dX5_readLaw_173 oX_2 ⟨_, _, rfl⟩ (Nat.le_of_ble_eq_true rfl) (by decide) (Nat.le_of_ble_eq_true rfl) (s_X5_refuse hw) ?_
      clear hw
      intro z22 h21 hw
      obtain ⟨hz, hw⟩ := hw
      exact PW.zret C dX5_readLaw_176 hz ⟨_, rfl, hw⟩
  · rw [if_neg c] at hw
    refine PW.ald0n C dX5_readLaw_74 ?_
    refine PW.iconst (v := 3) C dX5_readLaw_75 (by decide) ?_
    refine PW.callVI1 C ms_X5_refuse ml_X5_70 dX5_readLaw_76 oX_2 ⟨_, _, rfl⟩ (Nat.le_of_ble_eq_true rfl) (by decide) (Nat.le_of_ble_eq_true rfl) (s_X5_refuse hw) ?_
    clear hw
    intro z24 h23 hw
    obtain ⟨hz, hw⟩ := hw
    exact PW.zret C dX5_readLaw_79 hz ⟨_, rfl, hw⟩
def w_X5_readLaw_37 (Q : Int32 → PH → Prop) (h : PH) : Prop :=
  w_X7_isWord 13 h (fun z5 h4 => if z5 = 0 then (gP h4 2 7 ≠ 0 ∧ oX (gP h4 2 7 - 1) 8 ∧ w_X5_readLaw_66 Q ((gP h4 2 7 - 1) + 19) h4) else (gP h4 2 7 ≠ 0 ∧ oX (gP h4 2 7 - 1) 8 ∧ w_X5_readLaw_66 Q ((gP h4 2 7 - 1) + 15) h4))
set_option maxRecDepth 8000 in
theorem b_X5_readLaw_37 {D : va_G} {ca : Nat → ClassId} {ad : Nat → Nat} {K : Kt} {Q : Int32 → PH → Prop} {h : PH} (C : CX (GX D ca ad) (XS (GX D ca ad)) cX5_readLaw RX5 4 (some .boolean) 7 K) (hw : w_X5_readLaw_37 Q h) : PW (GX D ca ad) K 4 (qI Q) h 37 [some (.ref 2), none, none, none] [] := by
  unfold w_X5_readLaw_37 at hw
  refine PW.ald0n C dX5_readLaw_37 ?_
  refine PW.get0 (v := .ref 3) C cf_5 fl_X5_12 (by decide) oX_2 (fvR (o := 1) rfl) dX5_readLaw_38 ?_
  refine PW.bipush (v := 13) C dX5_readLaw_41 (by decide) ?_
  refine PW.callVI1 C ms_X7_isWord ml_X5_180 dX5_readLaw_43 oX_3 ⟨_, _, rfl⟩ (Nat.le_of_ble_eq_true rfl) (by decide) (Nat.le_of_ble_eq_true rfl) (s_X7_isWord hw) ?_
  clear hw
  intro z5 h4 hw
  refine PW.if_eq (tgt := 59) C dX5_readLaw_46 (by decide) (fun c => ?_) (fun c => ?_)
  · rw [if_pos c] at hw
    refine PW.ald0n C dX5_readLaw_59 ?_
    obtain ⟨hz7, hq6, hw⟩ := hw
    refine PW.get0 C cf_5 fl_X5_36 (by decide) oX_2 (fvP rfl hz7) dX5_readLaw_60 ?_
    refine PW.getN0 C cf_8 fl_X5_187 (by decide) hq6 (fvR (o := 19) rfl) dX5_readLaw_63 ?_
    exact PW.wk (wk_s (wk_n (wk_n (wk_n wk_0)))) (b_X5_readLaw_66 C (sf_8_8 hq6) hw)
  · rw [if_neg c] at hw
    refine PW.ald0n C dX5_readLaw_49 ?_
    obtain ⟨hz26, hq25, hw⟩ := hw
    refine PW.get0 C cf_5 fl_X5_36 (by decide) oX_2 (fvP rfl hz26) dX5_readLaw_50 ?_
    refine PW.getN0 C cf_8 fl_X5_183 (by decide) hq25 (fvR (o := 15) rfl) dX5_readLaw_53 ?_
    refine PW.goto (tgt := 66) C dX5_readLaw_56 (by decide) ?_
    exact PW.wk (wk_s (wk_n (wk_n (wk_n wk_0)))) (b_X5_readLaw_66 C (sf_8_7 hq25) hw)
def w_X5_readLaw (h : PH) (Q : Int32 → PH → Prop) : Prop :=
  w_X7_advance h (fun h1 => w_X7_isWord 13 h1 (fun z3 h2 => if z3 = 0 then (w_X7_isWord 14 h2 (fun z28 h27 => if z28 = 0 then (w_X5_refuse 1 h27 (fun z30 h29 => (z30 = 0 ∨ z30 = 1) ∧ Q z30 h29)) else (w_X5_readLaw_37 Q h27))) else (w_X5_readLaw_37 Q h2)))
set_option maxRecDepth 8000 in
theorem s_X5_readLaw {D : va_G} {ca : Nat → ClassId} {ad : Nat → Nat} {l : Launch} {h : PH} {Q : Int32 → PH → Prop} (hw : w_X5_readLaw h Q) : Sp (GX D ca ad) (XS (GX D ca ad)) l 7 yX5_readLaw cX5_readLaw 4 (some .boolean) [.ref 2] h (qI Q) := by
  refine Sp.of (own := RX5) [some (.ref 2), none, none, none] (by decide +kernel) rfl rfl (Nat.le_of_ble_eq_true rfl) (fun K hl C => ?_)
  subst hl
  unfold w_X5_readLaw at hw
  refine PW.ald0n C dX5_readLaw_0 ?_
  refine PW.get0 (v := .ref 3) C cf_5 fl_X5_12 (by decide) oX_2 (fvR (o := 1) rfl) dX5_readLaw_1 ?_
  refine PW.callVV0 C ms_X7_advance ml_X5_51 dX5_readLaw_4 oX_3 ⟨_, _, rfl⟩ (Nat.le_of_ble_eq_true rfl) (by decide) (Nat.le_of_ble_eq_true rfl) (s_X7_advance hw) ?_
  clear hw
  intro h1 hw
  refine PW.ald0n C dX5_readLaw_7 ?_
  refine PW.get0 (v := .ref 3) C cf_5 fl_X5_12 (by decide) oX_2 (fvR (o := 1) rfl) dX5_readLaw_8 ?_
  refine PW.bipush (v := 13) C dX5_readLaw_11 (by decide) ?_
  refine PW.callVI1 C ms_X7_isWord ml_X5_180 dX5_readLaw_13 oX_3 ⟨_, _, rfl⟩ (Nat.le_of_ble_eq_true rfl) (by decide) (Nat.le_of_ble_eq_true rfl) (s_X7_isWord hw) ?_
  clear hw
  intro z3 h2 hw
  refine PW.if_ne (tgt := 37) C dX5_readLaw_16 (by decide) (fun c => ?_) (fun c => ?_)
  · rw [if_neg c] at hw
    exact PW.wk (wk_s (wk_n (wk_n (wk_n wk_0)))) (b_X5_readLaw_37 C hw)
  · rw [if_pos c] at hw
    refine PW.ald0n C dX5_readLaw_19 ?_
    refine PW.get0 (v := .ref 3) C cf_5 fl_X5_12 (by decide) oX_2 (fvR (o := 1) rfl) dX5_readLaw_20 ?_
    refine PW.bipush (v := 14) C dX5_readLaw_23 (by decide) ?_
    refine PW.callVI1 C ms_X7_isWord ml_X5_180 dX5_readLaw_25 oX_3 ⟨_, _, rfl⟩ (Nat.le_of_ble_eq_true rfl) (by decide) (Nat.le_of_ble_eq_true rfl) (s_X7_isWord hw) ?_
    clear hw
    intro z28 h27 hw
    refine PW.if_ne (tgt := 37) C dX5_readLaw_28 (by decide) (fun c => ?_) (fun c => ?_)
    · rw [if_neg c] at hw
      exact PW.wk (wk_s (wk_n (wk_n (wk_n wk_0)))) (b_X5_readLaw_37 C hw)
    · rw [if_pos c] at hw
      refine PW.ald0n C dX5_readLaw_31 ?_
      refine PW.iconst (v := 1) C dX5_readLaw_32 (by decide) ?_
      refine PW.callVI1 C ms_X5_refuse ml_X5_70 dX5_readLaw_33 oX_2 ⟨_, _, rfl⟩ (Nat.le_of_ble_eq_true rfl) (by decide) (Nat.le_of_ble_eq_true rfl) (s_X5_refuse hw) ?_
      clear hw
      intro z30 h29 hw
      obtain ⟨hz, hw⟩ := hw
      exact PW.zret C dX5_readLaw_36 hz ⟨_, rfl, hw⟩
def w_X5_readLine_22 (Q : Int32 → PH → Prop) (s0 : Int32) (h : PH) : Prop :=
  if s0 = 0 then (w_X5_readPlace h (fun z2 h1 => (z2 = 0 ∨ z2 = 1) ∧ Q z2 h1)) else (if s0 = 1 then (w_X5_readLink h (fun z5 h4 => (z5 = 0 ∨ z5 = 1) ∧ Q z5 h4)) else (if s0 = 2 then (w_X5_readOwner h (fun z8 h7 => (z8 = 0 ∨ z8 = 1) ∧ Q z8 h7)) else (if s0 = 3 then (w_X5_readHeir h (fun z11 h10 => (z11 = 0 ∨ z11 = 1) ∧ Q z11 h10)) else (if s0 = 4 then (w_X5_readNoise h (fun z14 h13 => (z14 = 0 ∨ z14 = 1) ∧ Q z14 h13)) else (if s0 = 5 then (gP h 2 7 ≠ 0 ∧ oX (gP h 2 7 - 1) 8 ∧ w_X5_readHolding ((gP h 2 7 - 1) + 9) 8 h (fun z19 h18 => (z19 = 0 ∨ z19 = 1) ∧ Q z19 h18)) else (if s0 = 6 then (gP h 2 7 ≠ 0 ∧ oX (gP h 2 7 - 1) 8 ∧ w_X5_readHolding ((gP h 2 7 - 1) + 11) 6 h (fun z24 h23 => (z24 = 0 ∨ z24 = 1) ∧ Q z24 h23)) else (if s0 = 7 then (w_X5_readTask h (fun z27 h26 => (z27 = 0 ∨ z27 = 1) ∧ Q z27 h26)) else (if s0 = 8 then (w_X5_readDog h (fun z30 h29 => (z30 = 0 ∨ z30 = 1) ∧ Q z30 h29)) else (if s0 = 9 then (w_X5_readOnce 0 1 9 h (fun z33 h32 => (z33 = 0 ∨ z33 = 1) ∧ Q z33 h32)) else (if s0 = 10 then (w_X5_readOnce 1 0 9 h (fun z36 h35 => (z36 = 0 ∨ z36 = 1) ∧ Q z36 h35)) else (if s0 = 11 then (w_X5_readOnce 2 0 99999 h (fun z39 h38 => (z39 = 0 ∨ z39 = 1) ∧ Q z39 h38)) else (if s0 = 12 then (w_X5_readLaw h (fun z42 h41 => (z42 = 0 ∨ z42 = 1) ∧ Q z42 h41)) else (w_X5_refuse 1 h (fun z45 h44 => (z45 = 0 ∨ z45 = 1) ∧ Q z45 h44))))))))))))))
set_option maxRecDepth 8000 in
theorem b_X5_readLine_22 {D : va_G} {ca : Nat → ClassId} {ad : Nat → Nat} {K : Kt} {Q : Int32 → PH → Prop} {s0 : Int32} {h : PH} (C : CX (GX D ca ad) (XS (GX D ca ad)) cX5_readLine RX5 1 (some .boolean) 9 K) (hw : w_X5_readLine_22 Q s0 h) : PW (GX D ca ad) K 1 (qI Q) h 22 [some (.ref 2)] [.int s0] := by
  unfold w_X5_readLine_22 at hw
  refine PW.byc 0 (fun c => ?_) (fun c => ?_)
  · rw [if_pos c] at hw
    subst c
    refine PW.tin (tgt := 88) C dX5_readLine_22 (by decide) (by decide) rfl (by decide) ?_
    refine PW.ald0n C dX5_readLine_88 ?_
    refine PW.callVI0 C ms_X5_readPlace ml_X5_80 dX5_readLine_89 oX_2 ⟨_, _, rfl⟩ (Nat.le_of_ble_eq_true rfl) (by decide) (Nat.le_of_ble_eq_true rfl) (s_X5_readPlace hw) ?_
    clear hw
    intro z2 h1 hw
    obtain ⟨hz, hw⟩ := hw
    exact PW.zret C dX5_readLine_92 hz ⟨_, rfl, hw⟩
  have n3 := c
  rw [if_neg c] at hw
  refine PW.byc 1 (fun c => ?_) (fun c => ?_)
  · rw [if_pos c] at hw
    subst c
    refine PW.tin (tgt := 93) C dX5_readLine_22 (by decide) (by decide) rfl (by decide) ?_
    refine PW.ald0n C dX5_readLine_93 ?_
    refine PW.callVI0 C ms_X5_readLink ml_X5_83 dX5_readLine_94 oX_2 ⟨_, _, rfl⟩ (Nat.le_of_ble_eq_true rfl) (by decide) (Nat.le_of_ble_eq_true rfl) (s_X5_readLink hw) ?_
    clear hw
    intro z5 h4 hw
    obtain ⟨hz, hw⟩ := hw
    exact PW.zret C dX5_readLine_97 hz ⟨_, rfl, hw⟩
  have n6 := c
  rw [if_neg c] at hw
  refine PW.byc 2 (fun c => ?_) (fun c => ?_)
  · rw [if_pos c] at hw
    subst c
    refine PW.tin (tgt := 98) C dX5_readLine_22 (by decide) (by decide) rfl (by decide) ?_
    refine PW.ald0n C dX5_readLine_98 ?_
    refine PW.callVI0 C ms_X5_readOwner ml_X5_86 dX5_readLine_99 oX_2 ⟨_, _, rfl⟩ (Nat.le_of_ble_eq_true rfl) (by decide) (Nat.le_of_ble_eq_true rfl) (s_X5_readOwner hw) ?_
    clear hw
    intro z8 h7 hw
    obtain ⟨hz, hw⟩ := hw
    exact PW.zret C dX5_readLine_102 hz ⟨_, rfl, hw⟩
  have n9 := c
  rw [if_neg c] at hw
  refine PW.byc 3 (fun c => ?_) (fun c => ?_)
  · rw [if_pos c] at hw
    subst c
    refine PW.tin (tgt := 103) C dX5_readLine_22 (by decide) (by decide) rfl (by decide) ?_
    refine PW.ald0n C dX5_readLine_103 ?_
    refine PW.callVI0 C ms_X5_readHeir ml_X5_89 dX5_readLine_104 oX_2 ⟨_, _, rfl⟩ (Nat.le_of_ble_eq_true rfl) (by decide) (Nat.le_of_ble_eq_true rfl) (s_X5_readHeir hw) ?_
    clear hw
    intro z11 h10 hw
    obtain ⟨hz, hw⟩ := hw
    exact PW.zret C dX5_readLine_107 hz ⟨_, rfl, hw⟩
  have n12 := c
  rw [if_neg c] at hw
  refine PW.byc 4 (fun c => ?_) (fun c => ?_)
  · rw [if_pos c] at hw
    subst c
    refine PW.tin (tgt := 108) C dX5_readLine_22 (by decide) (by decide) rfl (by decide) ?_
    refine PW.ald0n C dX5_readLine_108 ?_
    refine PW.callVI0 C ms_X5_readNoise ml_X5_92 dX5_readLine_109 oX_2 ⟨_, _, rfl⟩ (Nat.le_of_ble_eq_true rfl) (by decide) (Nat.le_of_ble_eq_true rfl) (s_X5_readNoise hw) ?_
    clear hw
    intro z14 h13 hw
    obtain ⟨hz, hw⟩ := hw
    exact PW.zret C dX5_readLine_112 hz ⟨_, rfl, hw⟩
  have n15 := c
  rw [if_neg c] at hw
  refine PW.byc 5 (fun c => ?_) (fun c => ?_)
  · rw [if_pos c] at hw
    subst c
    refine PW.tin (tgt := 113) C dX5_readLine_22 (by decide) (by decide) rfl (by decide) ?_
    refine PW.ald0n C dX5_readLine_113 ?_
    refine PW.ald0n C dX5_readLine_114 ?_
    obtain ⟨hz17, hq16, hw⟩ := hw
    refine PW.get0 C cf_5 fl_X5_36 (by decide) oX_2 (fvP rfl hz17) dX5_readLine_115 ?_
    refine PW.getN0 C cf_8 fl_X5_95 (by decide) hq16 (fvR (o := 9) rfl) dX5_readLine_118 ?_
    refine PW.bipush (v := 8) C dX5_readLine_121 (by decide) ?_
    refine PW.callVI2 C ms_X5_readHolding ml_X5_99 dX5_readLine_123 oX_2 ⟨_, _, rfl⟩ (Nat.le_of_ble_eq_true rfl) (by decide) (Nat.le_of_ble_eq_true rfl) (s_X5_readHolding (sf_8_4 hq16) hw) ?_
    clear hw
    intro z19 h18 hw
    obtain ⟨hz, hw⟩ := hw
    exact PW.zret C dX5_readLine_126 hz ⟨_, rfl, hw⟩
  have n20 := c
  rw [if_neg c] at hw
  refine PW.byc 6 (fun c => ?_) (fun c => ?_)
  · rw [if_pos c] at hw
    subst c
    refine PW.tin (tgt := 127) C dX5_readLine_22 (by decide) (by decide) rfl (by decide) ?_
    refine PW.ald0n C dX5_readLine_127 ?_
    refine PW.ald0n C dX5_readLine_128 ?_
    obtain ⟨hz22, hq21, hw⟩ := hw
    refine PW.get0 C cf_5 fl_X5_36 (by decide) oX_2 (fvP rfl hz22) dX5_readLine_129 ?_
    refine PW.getN0 C cf_8 fl_X5_103 (by decide) hq21 (fvR (o := 11) rfl) dX5_readLine_132 ?_
    refine PW.bipush (v := 6) C dX5_readLine_135 (by decide) ?_
    refine PW.callVI2 C ms_X5_readHolding ml_X5_99 dX5_readLine_137 oX_2 ⟨_, _, rfl⟩ (Nat.le_of_ble_eq_true rfl) (by decide) (Nat.le_of_ble_eq_true rfl) (s_X5_readHolding (sf_8_5 hq21) hw) ?_
    clear hw
    intro z24 h23 hw
    obtain ⟨hz, hw⟩ := hw
    exact PW.zret C dX5_readLine_140 hz ⟨_, rfl, hw⟩
  have n25 := c
  rw [if_neg c] at hw
  refine PW.byc 7 (fun c => ?_) (fun c => ?_)
  · rw [if_pos c] at hw
    subst c
    refine PW.tin (tgt := 141) C dX5_readLine_22 (by decide) (by decide) rfl (by decide) ?_
    refine PW.ald0n C dX5_readLine_141 ?_
    refine PW.callVI0 C ms_X5_readTask ml_X5_106 dX5_readLine_142 oX_2 ⟨_, _, rfl⟩ (Nat.le_of_ble_eq_true rfl) (by decide) (Nat.le_of_ble_eq_true rfl) (s_X5_readTask hw) ?_
    clear hw
    intro z27 h26 hw
    obtain ⟨hz, hw⟩ := hw
    exact PW.zret C dX5_readLine_145 hz ⟨_, rfl, hw⟩
  have n28 := c
  rw [if_neg c] at hw
  refine PW.byc 8 (fun c => ?_) (fun c => ?_)
  · rw [if_pos c] at hw
    subst c
    refine PW.tin (tgt := 146) C dX5_readLine_22 (by decide) (by decide) rfl (by decide) ?_
    refine PW.ald0n C dX5_readLine_146 ?_
    refine PW.callVI0 C ms_X5_readDog ml_X5_109 dX5_readLine_147 oX_2 ⟨_, _, rfl⟩ (Nat.le_of_ble_eq_true rfl) (by decide) (Nat.le_of_ble_eq_true rfl) (s_X5_readDog hw) ?_
    clear hw
    intro z30 h29 hw
    obtain ⟨hz, hw⟩ := hw
    exact PW.zret C dX5_readLine_150 hz ⟨_, rfl, hw⟩
  have n31 := c
  rw [if_neg c] at hw
  refine PW.byc 9 (fun c => ?_) (fun c => ?_)
  · rw [if_pos c] at hw
    subst c
    refine PW.tin (tgt := 151) C dX5_readLine_22 (by decide) (by decide) rfl (by decide) ?_
    refine PW.ald0n C dX5_readLine_151 ?_
    refine PW.iconst (v := 0) C dX5_readLine_152 (by decide) ?_
    refine PW.iconst (v := 1) C dX5_readLine_153 (by decide) ?_
    refine PW.bipush (v := 9) C dX5_readLine_154 (by decide) ?_
    refine PW.callVI3 C ms_X5_readOnce ml_X5_112 dX5_readLine_156 oX_2 ⟨_, _, rfl⟩ (Nat.le_of_ble_eq_true rfl) (by decide) (Nat.le_of_ble_eq_true rfl) (s_X5_readOnce hw) ?_
    clear hw
    intro z33 h32 hw
    obtain ⟨hz, hw⟩ := hw
    exact PW.zret C dX5_readLine_159 hz ⟨_, rfl, hw⟩
  have n34 := c
  rw [if_neg c] at hw
  refine PW.byc 10 (fun c => ?_) (fun c => ?_)
  · rw [if_pos c] at hw
    subst c
    refine PW.tin (tgt := 160) C dX5_readLine_22 (by decide) (by decide) rfl (by decide) ?_
    refine PW.ald0n C dX5_readLine_160 ?_
    refine PW.iconst (v := 1) C dX5_readLine_161 (by decide) ?_
    refine PW.iconst (v := 0) C dX5_readLine_162 (by decide) ?_
    refine PW.bipush (v := 9) C dX5_readLine_163 (by decide) ?_
    refine PW.callVI3 C ms_X5_readOnce ml_X5_112 dX5_readLine_165 oX_2 ⟨_, _, rfl⟩ (Nat.le_of_ble_eq_true rfl) (by decide) (Nat.le_of_ble_eq_true rfl) (s_X5_readOnce hw) ?_
    clear hw
    intro z36 h35 hw
    obtain ⟨hz, hw⟩ := hw
    exact PW.zret C dX5_readLine_168 hz ⟨_, rfl, hw⟩
  have n37 := c
  rw [if_neg c] at hw
  refine PW.byc 11 (fun c => ?_) (fun c => ?_)
  · rw [if_pos c] at hw
    subst c
    refine PW.tin (tgt := 169) C dX5_readLine_22 (by decide) (by decide) rfl (by decide) ?_
    refine PW.ald0n C dX5_readLine_169 ?_
    refine PW.iconst (v := 2) C dX5_readLine_170 (by decide) ?_
    refine PW.iconst (v := 0) C dX5_readLine_171 (by decide) ?_
    refine PW.ldc (v := 99999) C cs_X5_116 dX5_readLine_172 ?_
    refine PW.callVI3 C ms_X5_readOnce ml_X5_112 dX5_readLine_174 oX_2 ⟨_, _, rfl⟩ (Nat.le_of_ble_eq_true rfl) (by decide) (Nat.le_of_ble_eq_true rfl) (s_X5_readOnce hw) ?_
    clear hw
    intro z39 h38 hw
    obtain ⟨hz, hw⟩ := hw
    exact PW.zret C dX5_readLine_177 hz ⟨_, rfl, hw⟩
  have n40 := c
  rw [if_neg c] at hw
  refine PW.byc 12 (fun c => ?_) (fun c => ?_)
  · rw [if_pos c] at hw
    subst c
    refine PW.tin (tgt := 178) C dX5_readLine_22 (by decide) (by decide) rfl (by decide) ?_
    refine PW.ald0n C dX5_readLine_178 ?_
    refine PW.callVI0 C ms_X5_readLaw ml_X5_117 dX5_readLine_179 oX_2 ⟨_, _, rfl⟩ (Nat.le_of_ble_eq_true rfl) (by decide) (Nat.le_of_ble_eq_true rfl) (s_X5_readLaw hw) ?_
    clear hw
    intro z42 h41 hw
    obtain ⟨hz, hw⟩ := hw
    exact PW.zret C dX5_readLine_182 hz ⟨_, rfl, hw⟩
  have n43 := c
  rw [if_neg c] at hw
  refine PW.tout (tgt := 183) C dX5_readLine_22 (by have e0 := ne_ti (z := 0) (by decide) n3; have e1 := ne_ti (z := 1) (by decide) n6; have e2 := ne_ti (z := 2) (by decide) n9; have e3 := ne_ti (z := 3) (by decide) n12; have e4 := ne_ti (z := 4) (by decide) n15; have e5 := ne_ti (z := 5) (by decide) n20; have e6 := ne_ti (z := 6) (by decide) n25; have e7 := ne_ti (z := 7) (by decide) n28; have e8 := ne_ti (z := 8) (by decide) n31; have e9 := ne_ti (z := 9) (by decide) n34; have e10 := ne_ti (z := 10) (by decide) n37; have e11 := ne_ti (z := 11) (by decide) n40; have e12 := ne_ti (z := 12) (by decide) n43; omega) (by decide) ?_
  refine PW.ald0n C dX5_readLine_183 ?_
  refine PW.iconst (v := 1) C dX5_readLine_184 (by decide) ?_
  refine PW.callVI1 C ms_X5_refuse ml_X5_70 dX5_readLine_185 oX_2 ⟨_, _, rfl⟩ (Nat.le_of_ble_eq_true rfl) (by decide) (Nat.le_of_ble_eq_true rfl) (s_X5_refuse hw) ?_
  clear hw
  intro z45 h44 hw
  obtain ⟨hz, hw⟩ := hw
  exact PW.zret C dX5_readLine_188 hz ⟨_, rfl, hw⟩
def w_X5_readLine (h : PH) (Q : Int32 → PH → Prop) : Prop :=
  if (gI h 3 4) = 4 then (w_X5_readLine_22 Q (gI h 3 6) h) else (w_X5_readLine_22 Q (-1) h)
set_option maxRecDepth 8000 in
theorem s_X5_readLine {D : va_G} {ca : Nat → ClassId} {ad : Nat → Nat} {l : Launch} {h : PH} {Q : Int32 → PH → Prop} (hw : w_X5_readLine h Q) : Sp (GX D ca ad) (XS (GX D ca ad)) l 9 yX5_readLine cX5_readLine 1 (some .boolean) [.ref 2] h (qI Q) := by
  refine Sp.of (own := RX5) [some (.ref 2)] (by decide +kernel) rfl rfl (Nat.le_of_ble_eq_true rfl) (fun K hl C => ?_)
  subst hl
  unfold w_X5_readLine at hw
  refine PW.ald0n C dX5_readLine_0 ?_
  refine PW.get0 (v := .ref 3) C cf_5 fl_X5_12 (by decide) oX_2 (fvR (o := 1) rfl) dX5_readLine_1 ?_
  refine PW.getN0 C cf_7 fl_X5_54 (by decide) oX_3 (fvI rfl) dX5_readLine_4 ?_
  refine PW.iconst (v := 4) C dX5_readLine_7 (by decide) ?_
  refine PW.icmp_ne (tgt := 21) C dX5_readLine_8 (by decide) (fun c => ?_) (fun c => ?_)
  · rw [if_neg c] at hw
    refine PW.iconst (v := (-1)) C dX5_readLine_21 (by decide) ?_
    exact PW.wk (wk_s wk_0) (b_X5_readLine_22 C hw)
  · rw [if_pos c] at hw
    refine PW.ald0n C dX5_readLine_11 ?_
    refine PW.get0 (v := .ref 3) C cf_5 fl_X5_12 (by decide) oX_2 (fvR (o := 1) rfl) dX5_readLine_12 ?_
    refine PW.getN0 C cf_7 fl_X5_77 (by decide) oX_3 (fvI rfl) dX5_readLine_15 ?_
    refine PW.goto (tgt := 22) C dX5_readLine_18 (by decide) ?_
    exact PW.wk (wk_s wk_0) (b_X5_readLine_22 C hw)
def w_X5_read_39 (r1 : Nat) (r3 : Nat) (k63 : PH → Prop) (Q : Int32 → PH → Prop) (kb : Int32 → PH → Prop) (x4 : Int32) (h : PH) : Prop :=
  if 3 ≤ x4 then (k63 h) else (vp_in x4 3 ∧ ∀ h10, h10 = sI h 6 (iN x4) (-1) → kb (x4 + 1) h10)
set_option maxRecDepth 8000 in
theorem b_X5_read_39 {D : va_G} {ca : Nat → ClassId} {ad : Nat → Nat} {K : Kt} {r1 : Nat} {r3 : Nat} {k63 : PH → Prop} {kb : Int32 → PH → Prop} {Q : Int32 → PH → Prop} {x4 : Int32} {h : PH} (C : CX (GX D ca ad) (XS (GX D ca ad)) cX5_read RX5 5 (some .boolean) 10 K) (hr1 : aX r1 2 (alX r1)) (hr3 : oX r3 8) (hk63 : ∀ (h : PH), k63 h → PW (GX D ca ad) K 5 (qI Q) h 63 [some (.ref 2), none, none, none, none] []) (hkb : ∀ (x4 : Int32) (h : PH), kb x4 h → PW (GX D ca ad) K 5 (qI Q) h 39 [some (.ref 2), none, none, none, some (.int x4)] []) (hw : w_X5_read_39 r1 r3 k63 Q kb x4 h) : PW (GX D ca ad) K 5 (qI Q) h 39 [some (.ref 2), none, none, none, some (.int x4)] [] := by
  unfold w_X5_read_39 at hw
  refine PW.ild4 C dX5_read_39 ?_
  refine PW.ald0n C dX5_read_41 ?_
  refine PW.get0 (v := .ref 6) C cf_5 fl_X5_22 (by decide) oX_2 (fvR (o := 4) rfl) dX5_read_42 ?_
  refine PW.alen (v := 3) C dX5_read_45 aX_6 (by decide) (by decide) ?_
  refine PW.icmp_ge (tgt := 63) C dX5_read_46 (by decide) (fun c => ?_) (fun c => ?_)
  · rw [if_pos c] at hw
    exact PW.wk (wk_s (wk_n (wk_n (wk_n (wk_n wk_0))))) (hk63 _ hw)
  · rw [if_neg c] at hw
    refine PW.ald0n C dX5_read_49 ?_
    refine PW.get0 (v := .ref 6) C cf_5 fl_X5_22 (by decide) oX_2 (fvR (o := 4) rfl) dX5_read_50 ?_
    refine PW.ild4 C dX5_read_53 ?_
    refine PW.iconst (v := (-1)) C dX5_read_55 (by decide) ?_
    obtain ⟨hc9, hw⟩ := hw
    replace hw := hw _ rfl
    refine PW.iast C dX5_read_56 aX_6 hc9 ?_
    refine PW.inc4 (v := 1) C dX5_read_57 (by decide) rfl (by decide) ?_
    refine PW.goto (tgt := 39) C dX5_read_60 (by decide) ?_
    exact PW.wk (wk_s (wk_n (wk_n (wk_n (wk_s wk_0))))) (hkb _ _ hw)
theorem l_X5_read_39 {D : va_G} {ca : Nat → ClassId} {ad : Nat → Nat} {K : Kt} {r1 : Nat} {r3 : Nat} {k63 : PH → Prop} {Q : Int32 → PH → Prop} (C : CX (GX D ca ad) (XS (GX D ca ad)) cX5_read RX5 5 (some .boolean) 10 K) (hr1 : aX r1 2 (alX r1)) (hr3 : oX r3 8) (hk63 : ∀ (h : PH), k63 h → PW (GX D ca ad) K 5 (qI Q) h 63 [some (.ref 2), none, none, none, none] []) : ∀ (n : Nat) (x4 : Int32) (h : PH), Lp1 (w_X5_read_39 r1 r3 k63 Q) n x4 h → PW (GX D ca ad) K 5 (qI Q) h 39 [some (.ref 2), none, none, none, some (.int x4)] [] := by
  intro n
  induction n with
  | zero => intro x4 h hw; exact hw.elim
  | succ n ih => intro x4 h hw; exact b_X5_read_39 C hr1 hr3 hk63 (fun x4 h hw => ih x4 h hw) hw
def w_X5_read_66 (r1 : Nat) (r3 : Nat) (k91 : Int32 → PH → Prop) (k175 : PH → Prop) (k183 : PH → Prop) (Q : Int32 → PH → Prop) (kb : Int32 → PH → Prop) (x4 : Int32) (h : PH) : Prop :=
  if 700 < x4 then (k183 h) else (w_X7_advance h (fun h12 => if (gI h12 3 4) = 0 then (k91 x4 h12) else (w_X5_readLine h12 (fun z14 h13 => if z14 = 0 then (k175 h13) else (kb (x4 + 1) h13)))))
set_option maxRecDepth 8000 in
theorem b_X5_read_66 {D : va_G} {ca : Nat → ClassId} {ad : Nat → Nat} {K : Kt} {r1 : Nat} {r3 : Nat} {k91 : Int32 → PH → Prop} {k175 : PH → Prop} {k183 : PH → Prop} {kb : Int32 → PH → Prop} {Q : Int32 → PH → Prop} {x4 : Int32} {h : PH} (C : CX (GX D ca ad) (XS (GX D ca ad)) cX5_read RX5 5 (some .boolean) 10 K) (hr1 : aX r1 2 (alX r1)) (hr3 : oX r3 8) (hk91 : ∀ (x4 : Int32) (h : PH), k91 x4 h → PW (GX D ca ad) K 5 (qI Q) h 91 [some (.ref 2), none, none, none, some (.int x4)] []) (hk175 : ∀ (h : PH), k175 h → PW (GX D ca ad) K 5 (qI Q) h 175 [none, none, none, none, none] []) (hk183 : ∀ (h : PH), k183 h → PW (GX D ca ad) K 5 (qI Q) h 183 [some (.ref 2), none, none, none, none] []) (hkb : ∀ (x4 : Int32) (h : PH), kb x4 h → PW (GX D ca ad) K 5 (qI Q) h 66 [some (.ref 2), none, none, none, some (.int x4)] []) (hw : w_X5_read_66 r1 r3 k91 k175 k183 Q kb x4 h) : PW (GX D ca ad) K 5 (qI Q) h 66 [some (.ref 2), none, none, none, some (.int x4)] [] := by
  unfold w_X5_read_66 at hw
  refine PW.ild4 C dX5_read_66 ?_
  refine PW.sipush (v := 700) C dX5_read_68 (by decide) ?_
  refine PW.icmp_gt (tgt := 183) C dX5_read_71 (by decide) (fun c => ?_) (fun c => ?_)
  · rw [if_pos c] at hw
    exact PW.wk (wk_s (wk_n (wk_n (wk_n (wk_n wk_0))))) (hk183 _ hw)
  · rw [if_neg c] at hw
    refine PW.ald0n C dX5_read_74 ?_
    refine PW.get0 (v := .ref 3) C cf_5 fl_X5_12 (by decide) oX_2 (fvR (o := 1) rfl) dX5_read_75 ?_
    refine PW.callVV0 C ms_X7_advance ml_X5_51 dX5_read_78 oX_3 ⟨_, _, rfl⟩ (Nat.le_of_ble_eq_true rfl) (by decide) (Nat.le_of_ble_eq_true rfl) (s_X7_advance hw) ?_
    clear hw
    intro h12 hw
    refine PW.ald0n C dX5_read_81 ?_
    refine PW.get0 (v := .ref 3) C cf_5 fl_X5_12 (by decide) oX_2 (fvR (o := 1) rfl) dX5_read_82 ?_
    refine PW.getN0 C cf_7 fl_X5_54 (by decide) oX_3 (fvI rfl) dX5_read_85 ?_
    refine PW.if_ne (tgt := 168) C dX5_read_88 (by decide) (fun c => ?_) (fun c => ?_)
    · rw [if_neg c] at hw
      refine PW.ald0n C dX5_read_168 ?_
      refine PW.callVI0 C ms_X5_readLine ml_X5_66 dX5_read_169 oX_2 ⟨_, _, rfl⟩ (Nat.le_of_ble_eq_true rfl) (by decide) (Nat.le_of_ble_eq_true rfl) (s_X5_readLine hw) ?_
      clear hw
      intro z14 h13 hw
      refine PW.if_ne (tgt := 177) C dX5_read_172 (by decide) (fun c => ?_) (fun c => ?_)
      · rw [if_neg c] at hw
        refine PW.inc4 (v := 1) C dX5_read_177 (by decide) rfl (by decide) ?_
        refine PW.goto (tgt := 66) C dX5_read_180 (by decide) ?_
        exact PW.wk (wk_s (wk_n (wk_n (wk_n (wk_s wk_0))))) (hkb _ _ hw)
      · rw [if_pos c] at hw
        exact PW.wk (wk_n (wk_n (wk_n (wk_n (wk_n wk_0))))) (hk175 _ hw)
    · rw [if_pos c] at hw
      exact PW.wk (wk_s (wk_n (wk_n (wk_n (wk_s wk_0))))) (hk91 _ _ hw)
theorem l_X5_read_66 {D : va_G} {ca : Nat → ClassId} {ad : Nat → Nat} {K : Kt} {r1 : Nat} {r3 : Nat} {k91 : Int32 → PH → Prop} {k175 : PH → Prop} {k183 : PH → Prop} {Q : Int32 → PH → Prop} (C : CX (GX D ca ad) (XS (GX D ca ad)) cX5_read RX5 5 (some .boolean) 10 K) (hr1 : aX r1 2 (alX r1)) (hr3 : oX r3 8) (hk91 : ∀ (x4 : Int32) (h : PH), k91 x4 h → PW (GX D ca ad) K 5 (qI Q) h 91 [some (.ref 2), none, none, none, some (.int x4)] []) (hk175 : ∀ (h : PH), k175 h → PW (GX D ca ad) K 5 (qI Q) h 175 [none, none, none, none, none] []) (hk183 : ∀ (h : PH), k183 h → PW (GX D ca ad) K 5 (qI Q) h 183 [some (.ref 2), none, none, none, none] []) : ∀ (n : Nat) (x4 : Int32) (h : PH), Lp1 (w_X5_read_66 r1 r3 k91 k175 k183 Q) n x4 h → PW (GX D ca ad) K 5 (qI Q) h 66 [some (.ref 2), none, none, none, some (.int x4)] [] := by
  intro n
  induction n with
  | zero => intro x4 h hw; exact hw.elim
  | succ n ih => intro x4 h hw; exact b_X5_read_66 C hr1 hr3 hk91 hk175 hk183 (fun x4 h hw => ih x4 h hw) hw
def w_X5_read_130 (r1 : Nat) (r3 : Nat) (Q : Int32 → PH → Prop) (s0 : Nat) (s1 : Int32) (h : PH) : Prop :=
  ∀ h22, h22 = sI h s0 9 s1 → gP h22 2 7 ≠ 0 ∧ oX (gP h22 2 7 - 1) 8 ∧ if (gI h22 6 (iN 1)) = (-1) then (gP h22 2 7 ≠ 0 ∧ oX (gP h22 2 7 - 1) 8 ∧ ∀ h28, h28 = sI h22 (gP h22 2 7 - 1) 10 (gI h22 (gP h22 2 7 - 1) 10) → Q 1 h28) else (∀ h25, h25 = sI h22 (gP h22 2 7 - 1) 10 (gI h22 6 (iN 1)) → Q 1 h25)
set_option maxRecDepth 8000 in
theorem b_X5_read_130 {D : va_G} {ca : Nat → ClassId} {ad : Nat → Nat} {K : Kt} {r1 : Nat} {r3 : Nat} {Q : Int32 → PH → Prop} {s0 : Nat} {s1 : Int32} {h : PH} (C : CX (GX D ca ad) (XS (GX D ca ad)) cX5_read RX5 5 (some .boolean) 10 K) (hr1 : aX r1 2 (alX r1)) (hr3 : oX r3 8) (hs0 : oX s0 8) (hw : w_X5_read_130 r1 r3 Q s0 s1 h) : PW (GX D ca ad) K 5 (qI Q) h 130 [some (.ref 2), none, none, none, none] [.int s1, .ref s0] := by
  unfold w_X5_read_130 at hw
  replace hw := hw _ rfl
  refine PW.putN0 C cf_8 fl_X5_60 (by decide) hs0 rfl rfl rfl (pw_sI hs0 (by decide) rfl) dX5_read_130 ?_
  refine PW.ald0n C dX5_read_133 ?_
  obtain ⟨hz24, hq23, hw⟩ := hw
  refine PW.get0 C cf_5 fl_X5_36 (by decide) oX_2 (fvP rfl hz24) dX5_read_134 ?_
  refine PW.ald0n C dX5_read_137 ?_
  refine PW.get0 (v := .ref 6) C cf_5 fl_X5_22 (by decide) oX_2 (fvR (o := 4) rfl) dX5_read_138 ?_
  refine PW.iconst (v := 1) C dX5_read_141 (by decide) ?_
  refine PW.iald C dX5_read_142 aX_6 (vpl (by decide)) ?_
  refine PW.iconst (v := (-1)) C dX5_read_143 (by decide) ?_
  refine PW.icmp_ne (tgt := 157) C dX5_read_144 (by decide) (fun c => ?_) (fun c => ?_)
  · rw [if_neg c] at hw
    refine PW.ald0n C dX5_read_157 ?_
    refine PW.get0 (v := .ref 6) C cf_5 fl_X5_22 (by decide) oX_2 (fvR (o := 4) rfl) dX5_read_158 ?_
    refine PW.iconst (v := 1) C dX5_read_161 (by decide) ?_
    refine PW.iald C dX5_read_162 aX_6 (vpl (by decide)) ?_
    replace hw := hw _ rfl
    refine PW.putN0 C cf_8 fl_X5_63 (by decide) hq23 rfl rfl rfl (pw_sI hq23 (by decide) rfl) dX5_read_163 ?_
    refine PW.iconst (v := 1) C dX5_read_166 (by decide) ?_
    exact PW.zret C dX5_read_167 (by decide) ⟨_, rfl, hw⟩
  · rw [if_pos c] at hw
    refine PW.ald0n C dX5_read_147 ?_
    obtain ⟨hz27, hq26, hw⟩ := hw
    refine PW.get0 C cf_5 fl_X5_36 (by decide) oX_2 (fvP rfl hz27) dX5_read_148 ?_
    refine PW.getN0 C cf_8 fl_X5_63 (by decide) hq26 (fvI rfl) dX5_read_151 ?_
    refine PW.goto (tgt := 163) C dX5_read_154 (by decide) ?_
    replace hw := hw _ rfl
    refine PW.putN0 C cf_8 fl_X5_63 (by decide) hq23 rfl rfl rfl (pw_sI hq23 (by decide) rfl) dX5_read_163 ?_
    refine PW.iconst (v := 1) C dX5_read_166 (by decide) ?_
    exact PW.zret C dX5_read_167 (by decide) ⟨_, rfl, hw⟩
def w_X5_read (r1 : Nat) (r3 : Nat) (x2 : Int32) (h : PH) (Q : Int32 → PH → Prop) : Prop :=
  w_X7_begin r1 x2 h (fun h1 => ∀ h2, h2 = sP h1 2 7 (r3 + 1) → gP h2 2 7 ≠ 0 ∧ oX (gP h2 2 7 - 1) 8 ∧ w_X8_clear (gP h2 2 7 - 1) h2 (fun h5 => ∀ h6, h6 = sI h5 2 6 0 → ∀ h7, h7 = sI h6 2 8 0 → ∀ h8, h8 = sI h7 2 9 (-1) → ∃ n, Lp1 (w_X5_read_39 r1 r3 (fun h11 => ∃ n, Lp1 (w_X5_read_66 r1 r3 (fun y16 h15 => gP h15 2 7 ≠ 0 ∧ oX (gP h15 2 7 - 1) 8 ∧ ∀ h19, h19 = sI h15 (gP h15 2 7 - 1) 12 y16 → gP h19 2 7 ≠ 0 ∧ oX (gP h19 2 7 - 1) 8 ∧ if (gI h19 6 (iN 0)) = (-1) then (gP h19 2 7 ≠ 0 ∧ oX (gP h19 2 7 - 1) 8 ∧ w_X5_read_130 r1 r3 Q (gP h19 2 7 - 1) (gI h19 (gP h19 2 7 - 1) 9) h19) else (w_X5_read_130 r1 r3 Q (gP h19 2 7 - 1) (gI h19 6 (iN 0)) h19)) (fun h31 => Q 0 h31) (fun h32 => w_X5_refuse 1 h32 (fun z34 h33 => (z34 = 0 ∨ z34 = 1) ∧ Q z34 h33)) Q) n 0 h11) Q) n 0 h8))
set_option maxRecDepth 8000 in
theorem s_X5_read {D : va_G} {ca : Nat → ClassId} {ad : Nat → Nat} {l : Launch} {r1 : Nat} {r3 : Nat} {x2 : Int32} {h : PH} {Q : Int32 → PH → Prop} (hr1 : aX r1 2 (alX r1)) (hr3 : oX r3 8) (hw : w_X5_read r1 r3 x2 h Q) : Sp (GX D ca ad) (XS (GX D ca ad)) l 10 yX5_read cX5_read 5 (some .boolean) [.ref 2, .ref r1, .int x2, .ref r3] h (qI Q) := by
  refine Sp.of (own := RX5) [some (.ref 2), some (.ref r1), some (.int x2), some (.ref r3), none] (by decide +kernel) rfl rfl (Nat.le_of_ble_eq_true rfl) (fun K hl C => ?_)
  subst hl
  unfold w_X5_read at hw
  refine PW.ald0n C dX5_read_0 ?_
  refine PW.get0 (v := .ref 3) C cf_5 fl_X5_12 (by decide) oX_2 (fvR (o := 1) rfl) dX5_read_1 ?_
  refine PW.ald1n C dX5_read_4 ?_
  refine PW.ild2n C dX5_read_5 ?_
  refine PW.callVV2 C ms_X7_begin ml_X5_32 dX5_read_6 oX_3 ⟨_, _, rfl⟩ (Nat.le_of_ble_eq_true rfl) (by decide) (Nat.le_of_ble_eq_true rfl) (s_X7_begin hr1 hw) ?_
  clear hw
  intro h1 hw
  refine PW.ald0n C dX5_read_9 ?_
  refine PW.ald3n C dX5_read_10 ?_
  replace hw := hw _ rfl
  refine PW.put0 C cf_5 fl_X5_36 (by decide) oX_2 rfl rfl rfl (pw_sP oX_2 (by decide) rfl) dX5_read_11 ?_
  refine PW.ald0n C dX5_read_14 ?_
  obtain ⟨hz4, hq3, hw⟩ := hw
  refine PW.get0 C cf_5 fl_X5_36 (by decide) oX_2 (fvP rfl hz4) dX5_read_15 ?_
  refine PW.callVV0 C ms_X8_clear ml_X5_40 dX5_read_18 hq3 ⟨_, _, rfl⟩ (Nat.le_of_ble_eq_true rfl) (by decide) (Nat.le_of_ble_eq_true rfl) (s_X8_clear hq3 hw) ?_
  clear hw
  intro h5 hw
  refine PW.ald0n C dX5_read_21 ?_
  refine PW.iconst (v := 0) C dX5_read_22 (by decide) ?_
  replace hw := hw _ rfl
  refine PW.put0 C cf_5 fl_X5_45 (by decide) oX_2 rfl rfl rfl (pw_sI oX_2 (by decide) rfl) dX5_read_23 ?_
  refine PW.ald0n C dX5_read_26 ?_
  refine PW.iconst (v := 0) C dX5_read_27 (by decide) ?_
  replace hw := hw _ rfl
  refine PW.put0 C cf_5 fl_X5_48 (by decide) oX_2 rfl rfl rfl (pw_sI oX_2 (by decide) rfl) dX5_read_28 ?_
  refine PW.ald0n C dX5_read_31 ?_
  refine PW.iconst (v := (-1)) C dX5_read_32 (by decide) ?_
  replace hw := hw _ rfl
  refine PW.put0 C cf_5 fl_X5_28 (by decide) oX_2 rfl rfl rfl (pw_sI oX_2 (by decide) rfl) dX5_read_33 ?_
  refine PW.iconst (v := 0) C dX5_read_36 (by decide) ?_
  refine PW.ist4 C dX5_read_37 (by decide) rfl ?_
  obtain ⟨n, hw⟩ := hw
  refine PW.wk (wk_s (wk_n (wk_n (wk_n (wk_s wk_0))))) (l_X5_read_39 C hr1 hr3 ?_ n _ _ hw)
  · intro h11 hw
    refine PW.iconst (v := 0) C dX5_read_63 (by decide) ?_
    refine PW.ist4 C dX5_read_64 (by decide) rfl ?_
    obtain ⟨n, hw⟩ := hw
    refine PW.wk (wk_s (wk_n (wk_n (wk_n (wk_s wk_0))))) (l_X5_read_66 C hr1 hr3 ?_ ?_ ?_ n _ _ hw)
    · intro y16 h15 hw
      refine PW.ald0n C dX5_read_91 ?_
      obtain ⟨hz18, hq17, hw⟩ := hw
      refine PW.get0 C cf_5 fl_X5_36 (by decide) oX_2 (fvP rfl hz18) dX5_read_92 ?_
      refine PW.ild4 C dX5_read_95 ?_
      replace hw := hw _ rfl
      refine PW.putN0 C cf_8 fl_X5_57 (by decide) hq17 rfl rfl rfl (pw_sI hq17 (by decide) rfl) dX5_read_97 ?_
      refine PW.ald0n C dX5_read_100 ?_
      obtain ⟨hz21, hq20, hw⟩ := hw
      refine PW.get0 C cf_5 fl_X5_36 (by decide) oX_2 (fvP rfl hz21) dX5_read_101 ?_
      refine PW.ald0n C dX5_read_104 ?_
      refine PW.get0 (v := .ref 6) C cf_5 fl_X5_22 (by decide) oX_2 (fvR (o := 4) rfl) dX5_read_105 ?_
      refine PW.iconst (v := 0) C dX5_read_108 (by decide) ?_
      refine PW.iald C dX5_read_109 aX_6 (vpl (by decide)) ?_
      refine PW.iconst (v := (-1)) C dX5_read_110 (by decide) ?_
      refine PW.icmp_ne (tgt := 124) C dX5_read_111 (by decide) (fun c => ?_) (fun c => ?_)
      · rw [if_neg c] at hw
        refine PW.ald0n C dX5_read_124 ?_
        refine PW.get0 (v := .ref 6) C cf_5 fl_X5_22 (by decide) oX_2 (fvR (o := 4) rfl) dX5_read_125 ?_
        refine PW.iconst (v := 0) C dX5_read_128 (by decide) ?_
        refine PW.iald C dX5_read_129 aX_6 (vpl (by decide)) ?_
        exact PW.wk (wk_s (wk_n (wk_n (wk_n (wk_n wk_0))))) (b_X5_read_130 C hr1 hr3 hq20 hw)
      · rw [if_pos c] at hw
        refine PW.ald0n C dX5_read_114 ?_
        obtain ⟨hz30, hq29, hw⟩ := hw
        refine PW.get0 C cf_5 fl_X5_36 (by decide) oX_2 (fvP rfl hz30) dX5_read_115 ?_
        refine PW.getN0 C cf_8 fl_X5_60 (by decide) hq29 (fvI rfl) dX5_read_118 ?_
        refine PW.goto (tgt := 130) C dX5_read_121 (by decide) ?_
        exact PW.wk (wk_s (wk_n (wk_n (wk_n (wk_n wk_0))))) (b_X5_read_130 C hr1 hr3 hq20 hw)
    · intro h31 hw
      refine PW.iconst (v := 0) C dX5_read_175 (by decide) ?_
      exact PW.zret C dX5_read_176 (by decide) ⟨_, rfl, hw⟩
    · intro h32 hw
      refine PW.ald0n C dX5_read_183 ?_
      refine PW.iconst (v := 1) C dX5_read_184 (by decide) ?_
      refine PW.callVI1 C ms_X5_refuse ml_X5_70 dX5_read_185 oX_2 ⟨_, _, rfl⟩ (Nat.le_of_ble_eq_true rfl) (by decide) (Nat.le_of_ble_eq_true rfl) (s_X5_refuse hw) ?_
      clear hw
      intro z34 h33 hw
      obtain ⟨hz, hw⟩ := hw
      exact PW.zret C dX5_read_188 hz ⟨_, rfl, hw⟩
