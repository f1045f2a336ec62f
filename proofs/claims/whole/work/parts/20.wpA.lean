def w_J1_charAt_3b067 (r0 : Nat) (x1 : Int32) (h : PH) (Q : Int32 → PH → Prop) : Prop :=
  w_J0_checkIndex_df160 x1 (Int32.ofNat (sLen r0)) h (fun h1 => vp_in x1 (sLen r0) ∧ narrow .char (.int (((((sByt r0 (iN x1)) &&& 255) : Int32).toUInt32 % 65536).toInt32)) = .int (((((sByt r0 (iN x1)) &&& 255) : Int32).toUInt32 % 65536).toInt32) ∧ Q (((((sByt r0 (iN x1)) &&& 255) : Int32).toUInt32 % 65536).toInt32) h1)
set_option maxRecDepth 8000 in
theorem s_J1_charAt_3b067 {G : Gt} {l : Launch} {r0 : Nat} {x1 : Int32} {h : PH} {Q : Int32 → PH → Prop} (hr0 : r0 < 2) (hw : w_J1_charAt_3b067 r0 x1 h Q) : Sp G (XS G) l 3 yJ1_charAt_3b067 cJ1_charAt_3b067 2 (some .char) [.ref (1004 + r0), .int x1] h (qI Q) := by
  refine Sp.of (own := RJ1) [some (.ref (1004 + r0)), some (.int x1)] (by decide +kernel) rfl rfl (Nat.le_of_ble_eq_true rfl) (fun K hl C => ?_)
  subst hl
  unfold w_J1_charAt_3b067 at hw
  refine PW.ild1n C dJ1_charAt_3b067_0 ?_
  refine PW.ald0n C dJ1_charAt_3b067_1 ?_
  refine PW.sAl C dJ1_charAt_3b067_2 hr0 ?_
  refine PW.callSV2 C ms_J0_checkIndex_df160 ml_J1_9 dJ1_charAt_3b067_3 (Nat.le_of_ble_eq_true rfl) (by decide) (Nat.le_of_ble_eq_true rfl) (s_J0_checkIndex_df160 hw) ?_
  clear hw
  intro h1 hw
  refine PW.ald0n C dJ1_charAt_3b067_6 ?_
  refine PW.ild1n C dJ1_charAt_3b067_7 ?_
  obtain ⟨hc2, hw⟩ := hw
  refine PW.sBa C dJ1_charAt_3b067_8 hr0 hc2 ?_
  refine PW.sipush (v := 255) C dJ1_charAt_3b067_9 (by decide) ?_
  refine PW.iand C dJ1_charAt_3b067_12 ?_
  refine PW.i2c C dJ1_charAt_3b067_13 ?_
  obtain ⟨hz, hw⟩ := hw
  exact PW.nret C dJ1_charAt_3b067_14 hz ⟨_, rfl, hw⟩
def w_J1_canEncode_9a6ad (x0 : Int32) (h : PH) (Q : Int32 → PH → Prop) : Prop :=
  if x0 < 0 then (Q 0 h) else (if 255 < x0 then (Q 0 h) else (Q 1 h))
set_option maxRecDepth 8000 in
theorem s_J1_canEncode_9a6ad {G : Gt} {l : Launch} {x0 : Int32} {h : PH} {Q : Int32 → PH → Prop} (hw : w_J1_canEncode_9a6ad x0 h Q) : Sp G (XS G) l 1 yJ1_canEncode_9a6ad cJ1_canEncode_9a6ad 1 (some .boolean) [.int x0] h (qI Q) := by
  refine Sp.of (own := RJ1) [some (.int x0)] (by decide +kernel) rfl rfl (Nat.le_of_ble_eq_true rfl) (fun K hl C => ?_)
  subst hl
  unfold w_J1_canEncode_9a6ad at hw
  refine PW.ild0n C dJ1_canEncode_9a6ad_0 ?_
  refine PW.if_lt (tgt := 15) C dJ1_canEncode_9a6ad_1 (by decide) (fun c => ?_) (fun c => ?_)
  · rw [if_pos c] at hw
    refine PW.iconst (v := 0) C dJ1_canEncode_9a6ad_15 (by decide) ?_
    exact PW.zret C dJ1_canEncode_9a6ad_16 (by decide) ⟨_, rfl, hw⟩
  · rw [if_neg c] at hw
    refine PW.ild0n C dJ1_canEncode_9a6ad_4 ?_
    refine PW.sipush (v := 255) C dJ1_canEncode_9a6ad_5 (by decide) ?_
    refine PW.icmp_gt (tgt := 15) C dJ1_canEncode_9a6ad_8 (by decide) (fun c => ?_) (fun c => ?_)
    · rw [if_pos c] at hw
      refine PW.iconst (v := 0) C dJ1_canEncode_9a6ad_15 (by decide) ?_
      exact PW.zret C dJ1_canEncode_9a6ad_16 (by decide) ⟨_, rfl, hw⟩
    · rw [if_neg c] at hw
      refine PW.iconst (v := 1) C dJ1_canEncode_9a6ad_11 (by decide) ?_
      refine PW.goto (tgt := 16) C dJ1_canEncode_9a6ad_12 (by decide) ?_
      exact PW.zret C dJ1_canEncode_9a6ad_16 (by decide) ⟨_, rfl, hw⟩
def w_J1_indexOfChar_4cfef_7 (r0 : Nat) (k22 : Int32 → PH → Prop) (k31 : PH → Prop) (Q : Int32 → PH → Prop) (x3 : Int32) (x4 : Int32) (kb : Int32 → PH → Prop) (x5 : Int32) (h : PH) : Prop :=
  if x3 ≤ x5 then (k31 h) else (vp_in x5 (sLen r0) ∧ if (sByt r0 (iN x5)) = x4 then (k22 x5 h) else (kb (x5 + 1) h))
set_option maxRecDepth 8000 in
theorem b_J1_indexOfChar_4cfef_7 {G : Gt} {K : Kt} {r0 : Nat} {k22 : Int32 → PH → Prop} {k31 : PH → Prop} {kb : Int32 → PH → Prop} {Q : Int32 → PH → Prop} {x3 : Int32} {x4 : Int32} {x5 : Int32} {h : PH} (C : CX G (XS G) cJ1_indexOfChar_4cfef RJ1 6 (some .int) 1 K) (hr0 : r0 < 2) (hk22 : ∀ (x5 : Int32) (h : PH), k22 x5 h → PW G K 6 (qI Q) h 22 [none, none, none, none, none, some (.int x5)] []) (hk31 : ∀ (h : PH), k31 h → PW G K 6 (qI Q) h 31 [none, none, none, none, none, none] []) (hkb : ∀ (x5 : Int32) (h : PH), kb x5 h → PW G K 6 (qI Q) h 7 [some (.ref (1004 + r0)), none, none, some (.int x3), some (.int x4), some (.int x5)] []) (hw : w_J1_indexOfChar_4cfef_7 r0 k22 k31 Q x3 x4 kb x5 h) : PW G K 6 (qI Q) h 7 [some (.ref (1004 + r0)), none, none, some (.int x3), some (.int x4), some (.int x5)] [] := by
  unfold w_J1_indexOfChar_4cfef_7 at hw
  refine PW.ild5 C dJ1_indexOfChar_4cfef_7 ?_
  refine PW.ild3n C dJ1_indexOfChar_4cfef_9 ?_
  refine PW.icmp_ge (tgt := 31) C dJ1_indexOfChar_4cfef_10 (by decide) (fun c => ?_) (fun c => ?_)
  · rw [if_pos c] at hw
    exact PW.wk (wk_n (wk_n (wk_n (wk_n (wk_n (wk_n wk_0)))))) (hk31 _ hw)
  · rw [if_neg c] at hw
    refine PW.ald0n C dJ1_indexOfChar_4cfef_13 ?_
    refine PW.ild5 C dJ1_indexOfChar_4cfef_14 ?_
    obtain ⟨hc2, hw⟩ := hw
    refine PW.sBa C dJ1_indexOfChar_4cfef_16 hr0 hc2 ?_
    refine PW.ild4 C dJ1_indexOfChar_4cfef_17 ?_
    refine PW.icmp_ne (tgt := 25) C dJ1_indexOfChar_4cfef_19 (by decide) (fun c => ?_) (fun c => ?_)
    · rw [if_neg c] at hw
      refine PW.inc5 (v := 1) C dJ1_indexOfChar_4cfef_25 (by decide) rfl (by decide) ?_
      refine PW.goto (tgt := 7) C dJ1_indexOfChar_4cfef_28 (by decide) ?_
      exact PW.wk (wk_s (wk_n (wk_n (wk_s (wk_s (wk_s wk_0)))))) (hkb _ _ hw)
    · rw [if_pos c] at hw
      exact PW.wk (wk_n (wk_n (wk_n (wk_n (wk_n (wk_s wk_0)))))) (hk22 _ _ hw)
theorem l_J1_indexOfChar_4cfef_7 {G : Gt} {K : Kt} {r0 : Nat} {k22 : Int32 → PH → Prop} {k31 : PH → Prop} {Q : Int32 → PH → Prop} {x3 : Int32} {x4 : Int32} (C : CX G (XS G) cJ1_indexOfChar_4cfef RJ1 6 (some .int) 1 K) (hr0 : r0 < 2) (hk22 : ∀ (x5 : Int32) (h : PH), k22 x5 h → PW G K 6 (qI Q) h 22 [none, none, none, none, none, some (.int x5)] []) (hk31 : ∀ (h : PH), k31 h → PW G K 6 (qI Q) h 31 [none, none, none, none, none, none] []) : ∀ (n : Nat) (x5 : Int32) (h : PH), Lp1 (w_J1_indexOfChar_4cfef_7 r0 k22 k31 Q x3 x4) n x5 h → PW G K 6 (qI Q) h 7 [some (.ref (1004 + r0)), none, none, some (.int x3), some (.int x4), some (.int x5)] [] := by
  intro n
  induction n with
  | zero => intro x5 h hw; exact hw.elim
  | succ n ih => intro x5 h hw; exact b_J1_indexOfChar_4cfef_7 C hr0 hk22 hk31 (fun x5 h hw => ih x5 h hw) hw
def w_J1_indexOfChar_4cfef (r0 : Nat) (x1 : Int32) (x2 : Int32) (x3 : Int32) (h : PH) (Q : Int32 → PH → Prop) : Prop :=
  ∀ (y1 : Int32), y1 = (x1 : Int32).toInt8.toInt32 → ∃ n, Lp1 (w_J1_indexOfChar_4cfef_7 r0 (fun y4 h3 => Q y4 h3) (fun h5 => Q (-1) h5) Q x3 y1) n x2 h
set_option maxRecDepth 8000 in
theorem s_J1_indexOfChar_4cfef {G : Gt} {l : Launch} {r0 : Nat} {x1 : Int32} {x2 : Int32} {x3 : Int32} {h : PH} {Q : Int32 → PH → Prop} (hr0 : r0 < 2) (hw : w_J1_indexOfChar_4cfef r0 x1 x2 x3 h Q) : Sp G (XS G) l 1 yJ1_indexOfChar_4cfef cJ1_indexOfChar_4cfef 6 (some .int) [.ref (1004 + r0), .int x1, .int x2, .int x3] h (qI Q) := by
  refine Sp.of (own := RJ1) [some (.ref (1004 + r0)), some (.int x1), some (.int x2), some (.int x3), none, none] (by decide +kernel) rfl rfl (Nat.le_of_ble_eq_true rfl) (fun K hl C => ?_)
  subst hl
  unfold w_J1_indexOfChar_4cfef at hw
  refine PW.ild1n C dJ1_indexOfChar_4cfef_0 ?_
  refine PW.i2b C dJ1_indexOfChar_4cfef_1 ?_
  replace hw := hw _ rfl
  refine PW.ist4 C dJ1_indexOfChar_4cfef_2 (by decide) rfl ?_
  refine PW.ild2n C dJ1_indexOfChar_4cfef_4 ?_
  refine PW.ist5 C dJ1_indexOfChar_4cfef_5 (by decide) rfl ?_
  obtain ⟨n, hw⟩ := hw
  refine PW.wk (wk_s (wk_n (wk_n (wk_s (wk_s (wk_s wk_0)))))) (l_J1_indexOfChar_4cfef_7 C hr0 ?_ ?_ n _ _ hw)
  · intro y4 h3 hw
    refine PW.ild5 C dJ1_indexOfChar_4cfef_22 ?_
    exact PW.iret C dJ1_indexOfChar_4cfef_24 ⟨_, rfl, hw⟩
  · intro h5 hw
    refine PW.iconst (v := (-1)) C dJ1_indexOfChar_4cfef_31 (by decide) ?_
    exact PW.iret C dJ1_indexOfChar_4cfef_32 ⟨_, rfl, hw⟩
def w_J1_indexOf_4cfef (r0 : Nat) (x1 : Int32) (x2 : Int32) (x3 : Int32) (h : PH) (Q : Int32 → PH → Prop) : Prop :=
  w_J1_canEncode_9a6ad x1 h (fun z2 h1 => if z2 = 0 then (Q (-1) h1) else (∀ (y3 : Int32), y3 = (mxI x2 0) → ∀ (y4 : Int32), y4 = (mnI x3 (Int32.ofNat (sLen r0))) → if y3 < y4 then (w_J1_indexOfChar_4cfef r0 x1 y3 y4 h1 (fun z6 h5 => Q z6 h5)) else (Q (-1) h1)))
set_option maxRecDepth 8000 in
theorem s_J1_indexOf_4cfef {G : Gt} {l : Launch} {r0 : Nat} {x1 : Int32} {x2 : Int32} {x3 : Int32} {h : PH} {Q : Int32 → PH → Prop} (hr0 : r0 < 2) (hw : w_J1_indexOf_4cfef r0 x1 x2 x3 h Q) : Sp G (XS G) l 2 yJ1_indexOf_4cfef cJ1_indexOf_4cfef 4 (some .int) [.ref (1004 + r0), .int x1, .int x2, .int x3] h (qI Q) := by
  refine Sp.of (own := RJ1) [some (.ref (1004 + r0)), some (.int x1), some (.int x2), some (.int x3)] (by decide +kernel) rfl rfl (Nat.le_of_ble_eq_true rfl) (fun K hl C => ?_)
  subst hl
  unfold w_J1_indexOf_4cfef at hw
  refine PW.ild1n C dJ1_indexOf_4cfef_0 ?_
  refine PW.callSI1 C ms_J1_canEncode_9a6ad ml_J1_88 dJ1_indexOf_4cfef_1 (Nat.le_of_ble_eq_true rfl) (by decide) (Nat.le_of_ble_eq_true rfl) (s_J1_canEncode_9a6ad hw) ?_
  clear hw
  intro z2 h1 hw
  refine PW.if_ne (tgt := 9) C dJ1_indexOf_4cfef_4 (by decide) (fun c => ?_) (fun c => ?_)
  · rw [if_neg c] at hw
    refine PW.ild2n C dJ1_indexOf_4cfef_9 ?_
    refine PW.iconst (v := 0) C dJ1_indexOf_4cfef_10 (by decide) ?_
    refine PW.mxI C ml_J1_92 (Nat.le_of_ble_eq_true rfl) (by decide) dJ1_indexOf_4cfef_11 ?_
    replace hw := hw _ rfl
    refine PW.ist2n C dJ1_indexOf_4cfef_14 (by decide) rfl ?_
    refine PW.ild3n C dJ1_indexOf_4cfef_15 ?_
    refine PW.ald0n C dJ1_indexOf_4cfef_16 ?_
    refine PW.sAl C dJ1_indexOf_4cfef_17 hr0 ?_
    refine PW.mnI C ml_J1_38 (Nat.le_of_ble_eq_true rfl) (by decide) dJ1_indexOf_4cfef_18 ?_
    replace hw := hw _ rfl
    refine PW.ist3n C dJ1_indexOf_4cfef_21 (by decide) rfl ?_
    refine PW.ild2n C dJ1_indexOf_4cfef_22 ?_
    refine PW.ild3n C dJ1_indexOf_4cfef_23 ?_
    refine PW.icmp_lt (tgt := 29) C dJ1_indexOf_4cfef_24 (by decide) (fun c => ?_) (fun c => ?_)
    · rw [if_pos c] at hw
      refine PW.ald0n C dJ1_indexOf_4cfef_29 ?_
      refine PW.ild1n C dJ1_indexOf_4cfef_30 ?_
      refine PW.ild2n C dJ1_indexOf_4cfef_31 ?_
      refine PW.ild3n C dJ1_indexOf_4cfef_32 ?_
      refine PW.callSI4 C ms_J1_indexOfChar_4cfef ml_J1_95 dJ1_indexOf_4cfef_33 (Nat.le_of_ble_eq_true rfl) (by decide) (Nat.le_of_ble_eq_true rfl) (s_J1_indexOfChar_4cfef hr0 hw) ?_
      clear hw
      intro z6 h5 hw
      exact PW.iret C dJ1_indexOf_4cfef_36 ⟨_, rfl, hw⟩
    · rw [if_neg c] at hw
      refine PW.iconst (v := (-1)) C dJ1_indexOf_4cfef_27 (by decide) ?_
      exact PW.iret C dJ1_indexOf_4cfef_28 ⟨_, rfl, hw⟩
  · rw [if_pos c] at hw
    refine PW.iconst (v := (-1)) C dJ1_indexOf_4cfef_7 (by decide) ?_
    exact PW.iret C dJ1_indexOf_4cfef_8 ⟨_, rfl, hw⟩
def w_J0_isLatin1_aae02 (t : Nat) (h : PH) (Q : Int32 → PH → Prop) : Prop :=
  if (1 : Int32) = 0 then (Q 0 h) else (if (0 : Int32) = 0 then (Q 1 h) else (Q 0 h))
set_option maxRecDepth 8000 in
theorem s_J0_isLatin1_aae02 {G : Gt} {l : Launch} {t : Nat} {h : PH} {Q : Int32 → PH → Prop} (ht : t < 2) (hw : w_J0_isLatin1_aae02 t h Q) : Sp G (XS G) l 1 yJ0_isLatin1_aae02 cJ0_isLatin1_aae02 1 (some .boolean) [.ref (1002 + t)] h (qI Q) := by
  refine Sp.of (own := RJ0) [some (.ref (1002 + t))] (by decide +kernel) rfl rfl (Nat.le_of_ble_eq_true rfl) (fun K hl C => ?_)
  subst hl
  unfold w_J0_isLatin1_aae02 at hw
  refine PW.sCom C dJ0_isLatin1_aae02_0 ?_
  refine PW.if_eq (tgt := 17) C dJ0_isLatin1_aae02_3 (by decide) (fun c => ?_) (fun c => ?_)
  · rw [if_pos c] at hw
    refine PW.iconst (v := 0) C dJ0_isLatin1_aae02_17 (by decide) ?_
    exact PW.zret C dJ0_isLatin1_aae02_18 (by decide) ⟨_, rfl, hw⟩
  · rw [if_neg c] at hw
    refine PW.ald0n C dJ0_isLatin1_aae02_6 ?_
    refine PW.sCod C dJ0_isLatin1_aae02_7 ht ?_
    refine PW.if_ne (tgt := 17) C dJ0_isLatin1_aae02_10 (by decide) (fun c => ?_) (fun c => ?_)
    · rw [if_neg c] at hw
      refine PW.iconst (v := 0) C dJ0_isLatin1_aae02_17 (by decide) ?_
      exact PW.zret C dJ0_isLatin1_aae02_18 (by decide) ⟨_, rfl, hw⟩
    · rw [if_pos c] at hw
      refine PW.iconst (v := 1) C dJ0_isLatin1_aae02_13 (by decide) ?_
      refine PW.goto (tgt := 18) C dJ0_isLatin1_aae02_14 (by decide) ?_
      exact PW.zret C dJ0_isLatin1_aae02_18 (by decide) ⟨_, rfl, hw⟩
def w_J0_coder_7d493 (t : Nat) (h : PH) (Q : Int32 → PH → Prop) : Prop :=
  if (1 : Int32) = 0 then (Q 1 h) else (Q 0 h)
set_option maxRecDepth 8000 in
theorem s_J0_coder_7d493 {G : Gt} {l : Launch} {t : Nat} {h : PH} {Q : Int32 → PH → Prop} (ht : t < 2) (hw : w_J0_coder_7d493 t h Q) : Sp G (XS G) l 1 yJ0_coder_7d493 cJ0_coder_7d493 1 (some .byte) [.ref (1002 + t)] h (qI Q) := by
  refine Sp.of (own := RJ0) [some (.ref (1002 + t))] (by decide +kernel) rfl rfl (Nat.le_of_ble_eq_true rfl) (fun K hl C => ?_)
  subst hl
  unfold w_J0_coder_7d493 at hw
  refine PW.sCom C dJ0_coder_7d493_0 ?_
  refine PW.if_eq (tgt := 13) C dJ0_coder_7d493_3 (by decide) (fun c => ?_) (fun c => ?_)
  · rw [if_pos c] at hw
    refine PW.iconst (v := 1) C dJ0_coder_7d493_13 (by decide) ?_
    exact PW.nret C dJ0_coder_7d493_14 (by decide +kernel) ⟨_, rfl, hw⟩
  · rw [if_neg c] at hw
    refine PW.ald0n C dJ0_coder_7d493_6 ?_
    refine PW.sCod C dJ0_coder_7d493_7 ht ?_
    refine PW.goto (tgt := 14) C dJ0_coder_7d493_10 (by decide) ?_
    exact PW.nret C dJ0_coder_7d493_14 (by decide +kernel) ⟨_, rfl, hw⟩
def w_J0_length_8abf5 (t : Nat) (h : PH) (Q : Int32 → PH → Prop) : Prop :=
  w_J0_coder_7d493 t h (fun z2 h1 => Q (((Int32.ofNat (sLen t)) : Int32) >>> ((z2 : Int32) &&& 31)) h1)
set_option maxRecDepth 8000 in
theorem s_J0_length_8abf5 {G : Gt} {l : Launch} {t : Nat} {h : PH} {Q : Int32 → PH → Prop} (ht : t < 2) (hw : w_J0_length_8abf5 t h Q) : Sp G (XS G) l 2 yJ0_length_8abf5 cJ0_length_8abf5 1 (some .int) [.ref (1002 + t)] h (qI Q) := by
  refine Sp.of (own := RJ0) [some (.ref (1002 + t))] (by decide +kernel) rfl rfl (Nat.le_of_ble_eq_true rfl) (fun K hl C => ?_)
  subst hl
  unfold w_J0_length_8abf5 at hw
  refine PW.ald0n C dJ0_length_8abf5_0 ?_
  refine PW.sVal C dJ0_length_8abf5_1 ht ?_
  refine PW.sAl C dJ0_length_8abf5_4 ht ?_
  refine PW.ald0n C dJ0_length_8abf5_5 ?_
  refine PW.callTI0 (b := t) C ms_J0_coder_7d493 ml_J0_335 dJ0_length_8abf5_6 ht rfl (Nat.le_of_ble_eq_true rfl) (by decide) (Nat.le_of_ble_eq_true rfl) (s_J0_coder_7d493 ht hw) ?_
  clear hw
  intro z2 h1 hw
  refine PW.ishr C dJ0_length_8abf5_9 ?_
  exact PW.iret C dJ0_length_8abf5_10 ⟨_, rfl, hw⟩
def w_J0_charAt_5068e (t : Nat) (x1 : Int32) (h : PH) (Q : Int32 → PH → Prop) : Prop :=
  w_J0_isLatin1_aae02 t h (fun z2 h1 => if z2 = 0 then (False) else (w_J1_charAt_3b067 t x1 h1 (fun z4 h3 => narrow .char (.int z4) = .int z4 ∧ Q z4 h3)))
set_option maxRecDepth 8000 in
theorem s_J0_charAt_5068e {G : Gt} {l : Launch} {t : Nat} {x1 : Int32} {h : PH} {Q : Int32 → PH → Prop} (ht : t < 2) (hw : w_J0_charAt_5068e t x1 h Q) : Sp G (XS G) l 4 yJ0_charAt_5068e cJ0_charAt_5068e 2 (some .char) [.ref (1002 + t), .int x1] h (qI Q) := by
  refine Sp.of (own := RJ0) [some (.ref (1002 + t)), some (.int x1)] (by decide +kernel) rfl rfl (Nat.le_of_ble_eq_true rfl) (fun K hl C => ?_)
  subst hl
  unfold w_J0_charAt_5068e at hw
  refine PW.ald0n C dJ0_charAt_5068e_0 ?_
  refine PW.callTI0 (b := t) C ms_J0_isLatin1_aae02 ml_J0_492 dJ0_charAt_5068e_1 ht rfl (Nat.le_of_ble_eq_true rfl) (by decide) (Nat.le_of_ble_eq_true rfl) (s_J0_isLatin1_aae02 ht hw) ?_
  clear hw
  intro z2 h1 hw
  refine PW.if_eq (tgt := 16) C dJ0_charAt_5068e_4 (by decide) (fun c => ?_) (fun c => ?_)
  · rw [if_pos c] at hw
    refine PW.ald0n C dJ0_charAt_5068e_16 ?_
    refine PW.sVal C dJ0_charAt_5068e_17 ht ?_
    refine PW.ild1n C dJ0_charAt_5068e_20 ?_
    exact hw.elim
  · rw [if_neg c] at hw
    refine PW.ald0n C dJ0_charAt_5068e_7 ?_
    refine PW.sVal C dJ0_charAt_5068e_8 ht ?_
    refine PW.ild1n C dJ0_charAt_5068e_11 ?_
    refine PW.callSI2 C ms_J1_charAt_3b067 ml_J0_495 dJ0_charAt_5068e_12 (Nat.le_of_ble_eq_true rfl) (by decide) (Nat.le_of_ble_eq_true rfl) (s_J1_charAt_3b067 ht hw) ?_
    clear hw
    intro z4 h3 hw
    obtain ⟨hz, hw⟩ := hw
    exact PW.nret C dJ0_charAt_5068e_15 hz ⟨_, rfl, hw⟩
def w_J0_indexOf_7cf53 (t : Nat) (x1 : Int32) (x2 : Int32) (h : PH) (Q : Int32 → PH → Prop) : Prop :=
  w_J0_isLatin1_aae02 t h (fun z2 h1 => if z2 = 0 then (w_J0_length_8abf5 t h1 (fun z4 h3 => False)) else (w_J0_length_8abf5 t h1 (fun z6 h5 => w_J1_indexOf_4cfef t x1 x2 z6 h5 (fun z8 h7 => Q z8 h7))))
set_option maxRecDepth 8000 in
theorem s_J0_indexOf_7cf53 {G : Gt} {l : Launch} {t : Nat} {x1 : Int32} {x2 : Int32} {h : PH} {Q : Int32 → PH → Prop} (ht : t < 2) (hw : w_J0_indexOf_7cf53 t x1 x2 h Q) : Sp G (XS G) l 3 yJ0_indexOf_7cf53 cJ0_indexOf_7cf53 3 (some .int) [.ref (1002 + t), .int x1, .int x2] h (qI Q) := by
  refine Sp.of (own := RJ0) [some (.ref (1002 + t)), some (.int x1), some (.int x2)] (by decide +kernel) rfl rfl (Nat.le_of_ble_eq_true rfl) (fun K hl C => ?_)
  subst hl
  unfold w_J0_indexOf_7cf53 at hw
  refine PW.ald0n C dJ0_indexOf_7cf53_0 ?_
  refine PW.callTI0 (b := t) C ms_J0_isLatin1_aae02 ml_J0_492 dJ0_indexOf_7cf53_1 ht rfl (Nat.le_of_ble_eq_true rfl) (by decide) (Nat.le_of_ble_eq_true rfl) (s_J0_isLatin1_aae02 ht hw) ?_
  clear hw
  intro z2 h1 hw
  refine PW.if_eq (tgt := 23) C dJ0_indexOf_7cf53_4 (by decide) (fun c => ?_) (fun c => ?_)
  · rw [if_pos c] at hw
    refine PW.ald0n C dJ0_indexOf_7cf53_23 ?_
    refine PW.sVal C dJ0_indexOf_7cf53_24 ht ?_
    refine PW.ild1n C dJ0_indexOf_7cf53_27 ?_
    refine PW.ild2n C dJ0_indexOf_7cf53_28 ?_
    refine PW.ald0n C dJ0_indexOf_7cf53_29 ?_
    refine PW.callTI0 (b := t) C ms_J0_length_8abf5 ml_J0_505 dJ0_indexOf_7cf53_30 ht rfl (Nat.le_of_ble_eq_true rfl) (by decide) (Nat.le_of_ble_eq_true rfl) (s_J0_length_8abf5 ht hw) ?_
    clear hw
    intro z4 h3 hw
    exact hw.elim
  · rw [if_neg c] at hw
    refine PW.ald0n C dJ0_indexOf_7cf53_7 ?_
    refine PW.sVal C dJ0_indexOf_7cf53_8 ht ?_
    refine PW.ild1n C dJ0_indexOf_7cf53_11 ?_
    refine PW.ild2n C dJ0_indexOf_7cf53_12 ?_
    refine PW.ald0n C dJ0_indexOf_7cf53_13 ?_
    refine PW.callTI0 (b := t) C ms_J0_length_8abf5 ml_J0_505 dJ0_indexOf_7cf53_14 ht rfl (Nat.le_of_ble_eq_true rfl) (by decide) (Nat.le_of_ble_eq_true rfl) (s_J0_length_8abf5 ht hw) ?_
    clear hw
    intro z6 h5 hw
    refine PW.callSI4 C ms_J1_indexOf_4cfef ml_J0_637 dJ0_indexOf_7cf53_17 (Nat.le_of_ble_eq_true rfl) (by decide) (Nat.le_of_ble_eq_true rfl) (s_J1_indexOf_4cfef ht hw) ?_
    clear hw
    intro z8 h7 hw
    refine PW.goto (tgt := 36) C dJ0_indexOf_7cf53_20 (by decide) ?_
    exact PW.iret C dJ0_indexOf_7cf53_36 ⟨_, rfl, hw⟩
def w_J0_indexOf_0f7a4 (t : Nat) (x1 : Int32) (h : PH) (Q : Int32 → PH → Prop) : Prop :=
  w_J0_indexOf_7cf53 t x1 0 h (fun z2 h1 => Q z2 h1)
set_option maxRecDepth 8000 in
theorem s_J0_indexOf_0f7a4 {G : Gt} {l : Launch} {t : Nat} {x1 : Int32} {h : PH} {Q : Int32 → PH → Prop} (ht : t < 2) (hw : w_J0_indexOf_0f7a4 t x1 h Q) : Sp G (XS G) l 4 yJ0_indexOf_0f7a4 cJ0_indexOf_0f7a4 2 (some .int) [.ref (1002 + t), .int x1] h (qI Q) := by
  refine Sp.of (own := RJ0) [some (.ref (1002 + t)), some (.int x1)] (by decide +kernel) rfl rfl (Nat.le_of_ble_eq_true rfl) (fun K hl C => ?_)
  subst hl
  unfold w_J0_indexOf_0f7a4 at hw
  refine PW.ald0n C dJ0_indexOf_0f7a4_0 ?_
  refine PW.ild1n C dJ0_indexOf_0f7a4_1 ?_
  refine PW.iconst (v := 0) C dJ0_indexOf_0f7a4_2 (by decide) ?_
  refine PW.callTI2 (b := t) C ms_J0_indexOf_7cf53 ml_J0_633 dJ0_indexOf_0f7a4_3 ht rfl (Nat.le_of_ble_eq_true rfl) (by decide) (Nat.le_of_ble_eq_true rfl) (s_J0_indexOf_7cf53 ht hw) ?_
  clear hw
  intro z2 h1 hw
  exact PW.iret C dJ0_indexOf_0f7a4_6 ⟨_, rfl, hw⟩
def w_J6_bitCount_0f7a4 (x0 : Int32) (h : PH) (Q : Int32 → PH → Prop) : Prop :=
  ∀ (y1 : Int32), y1 = (x0 - (((x0 : Int32).toUInt32 >>> ((1 : Int32).toUInt32 &&& Int32.toUInt32 31)).toInt32 &&& 1431655765)) → ∀ (y2 : Int32), y2 = ((y1 &&& 858993459) + (((y1 : Int32).toUInt32 >>> ((2 : Int32).toUInt32 &&& Int32.toUInt32 31)).toInt32 &&& 858993459)) → ∀ (y3 : Int32), y3 = ((y2 + ((y2 : Int32).toUInt32 >>> ((4 : Int32).toUInt32 &&& Int32.toUInt32 31)).toInt32) &&& 252645135) → ∀ (y4 : Int32), y4 = (y3 + ((y3 : Int32).toUInt32 >>> ((8 : Int32).toUInt32 &&& Int32.toUInt32 31)).toInt32) → ∀ (y5 : Int32), y5 = (y4 + ((y4 : Int32).toUInt32 >>> ((16 : Int32).toUInt32 &&& Int32.toUInt32 31)).toInt32) → Q (y5 &&& 63) h
set_option maxRecDepth 8000 in
theorem s_J6_bitCount_0f7a4 {G : Gt} {l : Launch} {x0 : Int32} {h : PH} {Q : Int32 → PH → Prop} (hw : w_J6_bitCount_0f7a4 x0 h Q) : Sp G (XS G) l 1 yJ6_bitCount_0f7a4 cJ6_bitCount_0f7a4 1 (some .int) [.int x0] h (qI Q) := by
  refine Sp.of (own := RJ6) [some (.int x0)] (by decide +kernel) rfl rfl (Nat.le_of_ble_eq_true rfl) (fun K hl C => ?_)
  subst hl
  unfold w_J6_bitCount_0f7a4 at hw
  refine PW.ild0n C dJ6_bitCount_0f7a4_0 ?_
  refine PW.ild0n C dJ6_bitCount_0f7a4_1 ?_
  refine PW.iconst (v := 1) C dJ6_bitCount_0f7a4_2 (by decide) ?_
  refine PW.iushr C dJ6_bitCount_0f7a4_3 ?_
  refine PW.ldcw (v := 1431655765) C cs_J6_265 dJ6_bitCount_0f7a4_4 ?_
  refine PW.iand C dJ6_bitCount_0f7a4_7 ?_
  refine PW.isub C dJ6_bitCount_0f7a4_8 ?_
  replace hw := hw _ rfl
  refine PW.ist0n C dJ6_bitCount_0f7a4_9 (by decide) ?_
  refine PW.ild0n C dJ6_bitCount_0f7a4_10 ?_
  refine PW.ldcw (v := 858993459) C cs_J6_266 dJ6_bitCount_0f7a4_11 ?_
  refine PW.iand C dJ6_bitCount_0f7a4_14 ?_
  refine PW.ild0n C dJ6_bitCount_0f7a4_15 ?_
  refine PW.iconst (v := 2) C dJ6_bitCount_0f7a4_16 (by decide) ?_
  refine PW.iushr C dJ6_bitCount_0f7a4_17 ?_
  refine PW.ldcw (v := 858993459) C cs_J6_266 dJ6_bitCount_0f7a4_18 ?_
  refine PW.iand C dJ6_bitCount_0f7a4_21 ?_
  refine PW.iadd C dJ6_bitCount_0f7a4_22 ?_
  replace hw := hw _ rfl
  refine PW.ist0n C dJ6_bitCount_0f7a4_23 (by decide) ?_
  refine PW.ild0n C dJ6_bitCount_0f7a4_24 ?_
  refine PW.ild0n C dJ6_bitCount_0f7a4_25 ?_
  refine PW.iconst (v := 4) C dJ6_bitCount_0f7a4_26 (by decide) ?_
  refine PW.iushr C dJ6_bitCount_0f7a4_27 ?_
  refine PW.iadd C dJ6_bitCount_0f7a4_28 ?_
  refine PW.ldcw (v := 252645135) C cs_J6_267 dJ6_bitCount_0f7a4_29 ?_
  refine PW.iand C dJ6_bitCount_0f7a4_32 ?_
  replace hw := hw _ rfl
  refine PW.ist0n C dJ6_bitCount_0f7a4_33 (by decide) ?_
  refine PW.ild0n C dJ6_bitCount_0f7a4_34 ?_
  refine PW.ild0n C dJ6_bitCount_0f7a4_35 ?_
  refine PW.bipush (v := 8) C dJ6_bitCount_0f7a4_36 (by decide) ?_
  refine PW.iushr C dJ6_bitCount_0f7a4_38 ?_
  refine PW.iadd C dJ6_bitCount_0f7a4_39 ?_
  replace hw := hw _ rfl
  refine PW.ist0n C dJ6_bitCount_0f7a4_40 (by decide) ?_
  refine PW.ild0n C dJ6_bitCount_0f7a4_41 ?_
  refine PW.ild0n C dJ6_bitCount_0f7a4_42 ?_
  refine PW.bipush (v := 16) C dJ6_bitCount_0f7a4_43 (by decide) ?_
  refine PW.iushr C dJ6_bitCount_0f7a4_45 ?_
  refine PW.iadd C dJ6_bitCount_0f7a4_46 ?_
  replace hw := hw _ rfl
  refine PW.ist0n C dJ6_bitCount_0f7a4_47 (by decide) ?_
  refine PW.ild0n C dJ6_bitCount_0f7a4_48 ?_
  refine PW.bipush (v := 63) C dJ6_bitCount_0f7a4_49 (by decide) ?_
  refine PW.iand C dJ6_bitCount_0f7a4_51 ?_
  exact PW.iret C dJ6_bitCount_0f7a4_52 ⟨_, rfl, hw⟩
def w_J13_bitCount_95d88 (x0 : Int64) (h : PH) (Q : Int32 → PH → Prop) : Prop :=
  ∀ (y1 : Int64), y1 = (x0 - (((x0 : Int64).toUInt64 >>> ((1 : Int32).toInt64.toUInt64 &&& Int64.toUInt64 63)).toInt64 &&& 6148914691236517205)) → ∀ (y2 : Int64), y2 = ((y1 &&& 3689348814741910323) + (((y1 : Int64).toUInt64 >>> ((2 : Int32).toInt64.toUInt64 &&& Int64.toUInt64 63)).toInt64 &&& 3689348814741910323)) → ∀ (y3 : Int64), y3 = ((y2 + ((y2 : Int64).toUInt64 >>> ((4 : Int32).toInt64.toUInt64 &&& Int64.toUInt64 63)).toInt64) &&& 1085102592571150095) → ∀ (y4 : Int64), y4 = (y3 + ((y3 : Int64).toUInt64 >>> ((8 : Int32).toInt64.toUInt64 &&& Int64.toUInt64 63)).toInt64) → ∀ (y5 : Int64), y5 = (y4 + ((y4 : Int64).toUInt64 >>> ((16 : Int32).toInt64.toUInt64 &&& Int64.toUInt64 63)).toInt64) → ∀ (y6 : Int64), y6 = (y5 + ((y5 : Int64).toUInt64 >>> ((32 : Int32).toInt64.toUInt64 &&& Int64.toUInt64 63)).toInt64) → Q ((y6 : Int64).toInt32 &&& 127) h
set_option maxRecDepth 8000 in
theorem s_J13_bitCount_95d88 {G : Gt} {l : Launch} {x0 : Int64} {h : PH} {Q : Int32 → PH → Prop} (hw : w_J13_bitCount_95d88 x0 h Q) : Sp G (XS G) l 1 yJ13_bitCount_95d88 cJ13_bitCount_95d88 2 (some .int) [.long x0] h (qI Q) := by
  refine Sp.of (own := RJ13) [some (.long x0), none] (by decide +kernel) rfl rfl (Nat.le_of_ble_eq_true rfl) (fun K hl C => ?_)
  subst hl
  unfold w_J13_bitCount_95d88 at hw
  refine PW.lld0n C dJ13_bitCount_95d88_0 ?_
  refine PW.lld0n C dJ13_bitCount_95d88_1 ?_
  refine PW.iconst (v := 1) C dJ13_bitCount_95d88_2 (by decide) ?_
  refine PW.lushr C dJ13_bitCount_95d88_3 ?_
  refine PW.ldc2 (v := 6148914691236517205) C cs_J13_314 dJ13_bitCount_95d88_4 ?_
  refine PW.land C dJ13_bitCount_95d88_7 ?_
  refine PW.lsub C dJ13_bitCount_95d88_8 ?_
  replace hw := hw _ rfl
  refine PW.lst0n C dJ13_bitCount_95d88_9 (by decide) ?_
  refine PW.lld0n C dJ13_bitCount_95d88_10 ?_
  refine PW.ldc2 (v := 3689348814741910323) C cs_J13_316 dJ13_bitCount_95d88_11 ?_
  refine PW.land C dJ13_bitCount_95d88_14 ?_
  refine PW.lld0n C dJ13_bitCount_95d88_15 ?_
  refine PW.iconst (v := 2) C dJ13_bitCount_95d88_16 (by decide) ?_
  refine PW.lushr C dJ13_bitCount_95d88_17 ?_
  refine PW.ldc2 (v := 3689348814741910323) C cs_J13_316 dJ13_bitCount_95d88_18 ?_
  refine PW.land C dJ13_bitCount_95d88_21 ?_
  refine PW.ladd C dJ13_bitCount_95d88_22 ?_
  replace hw := hw _ rfl
  refine PW.lst0n C dJ13_bitCount_95d88_23 (by decide) ?_
  refine PW.lld0n C dJ13_bitCount_95d88_24 ?_
  refine PW.lld0n C dJ13_bitCount_95d88_25 ?_
  refine PW.iconst (v := 4) C dJ13_bitCount_95d88_26 (by decide) ?_
  refine PW.lushr C dJ13_bitCount_95d88_27 ?_
  refine PW.ladd C dJ13_bitCount_95d88_28 ?_
  refine PW.ldc2 (v := 1085102592571150095) C cs_J13_318 dJ13_bitCount_95d88_29 ?_
  refine PW.land C dJ13_bitCount_95d88_32 ?_
  replace hw := hw _ rfl
  refine PW.lst0n C dJ13_bitCount_95d88_33 (by decide) ?_
  refine PW.lld0n C dJ13_bitCount_95d88_34 ?_
  refine PW.lld0n C dJ13_bitCount_95d88_35 ?_
  refine PW.bipush (v := 8) C dJ13_bitCount_95d88_36 (by decide) ?_
  refine PW.lushr C dJ13_bitCount_95d88_38 ?_
  refine PW.ladd C dJ13_bitCount_95d88_39 ?_
  replace hw := hw _ rfl
  refine PW.lst0n C dJ13_bitCount_95d88_40 (by decide) ?_
  refine PW.lld0n C dJ13_bitCount_95d88_41 ?_
  refine PW.lld0n C dJ13_bitCount_95d88_42 ?_
  refine PW.bipush (v := 16) C dJ13_bitCount_95d88_43 (by decide) ?_
  refine PW.lushr C dJ13_bitCount_95d88_45 ?_
  refine PW.ladd C dJ13_bitCount_95d88_46 ?_
  replace hw := hw _ rfl
  refine PW.lst0n C dJ13_bitCount_95d88_47 (by decide) ?_
  refine PW.lld0n C dJ13_bitCount_95d88_48 ?_
  refine PW.lld0n C dJ13_bitCount_95d88_49 ?_
  refine PW.bipush (v := 32) C dJ13_bitCount_95d88_50 (by decide) ?_
  refine PW.lushr C dJ13_bitCount_95d88_52 ?_
  refine PW.ladd C dJ13_bitCount_95d88_53 ?_
  replace hw := hw _ rfl
  refine PW.lst0n C dJ13_bitCount_95d88_54 (by decide) ?_
  refine PW.lld0n C dJ13_bitCount_95d88_55 ?_
  refine PW.l2i C dJ13_bitCount_95d88_56 ?_
  refine PW.bipush (v := 127) C dJ13_bitCount_95d88_57 (by decide) ?_
  refine PW.iand C dJ13_bitCount_95d88_59 ?_
  exact PW.iret C dJ13_bitCount_95d88_60 ⟨_, rfl, hw⟩
def w_X6_has (t : Nat) (x1 : Int32) (h : PH) (Q : Int32 → PH → Prop) : Prop :=
  if x1 < 0 then (Q 0 h) else (if (gI h t 3) ≤ x1 then (Q 0 h) else (Q 1 h))
set_option maxRecDepth 8000 in
theorem s_X6_has {D : va_G} {ca : Nat → ClassId} {ad : Nat → Nat} {l : Launch} {t : Nat} {x1 : Int32} {h : PH} {Q : Int32 → PH → Prop} (ht : oX t 6) (hw : w_X6_has t x1 h Q) : Sp (GX D ca ad) (XS (GX D ca ad)) l 1 yX6_has cX6_has 2 (some .boolean) [.ref t, .int x1] h (qI Q) := by
  refine Sp.of (own := RX6) [some (.ref t), some (.int x1)] (by decide +kernel) rfl rfl (Nat.le_of_ble_eq_true rfl) (fun K hl C => ?_)
  subst hl
  unfold w_X6_has at hw
  refine PW.ild1n C dX6_has_0 ?_
  refine PW.if_lt (tgt := 16) C dX6_has_1 (by decide) (fun c => ?_) (fun c => ?_)
  · rw [if_pos c] at hw
    refine PW.iconst (v := 0) C dX6_has_16 (by decide) ?_
    exact PW.zret C dX6_has_17 (by decide) ⟨_, rfl, hw⟩
  · rw [if_neg c] at hw
    refine PW.ild1n C dX6_has_4 ?_
    refine PW.ald0n C dX6_has_5 ?_
    refine PW.get0 C cf_6 fl_X6_22 (by decide) ht (fvI rfl) dX6_has_6 ?_
    refine PW.icmp_ge (tgt := 16) C dX6_has_9 (by decide) (fun c => ?_) (fun c => ?_)
    · rw [if_pos c] at hw
      refine PW.iconst (v := 0) C dX6_has_16 (by decide) ?_
      exact PW.zret C dX6_has_17 (by decide) ⟨_, rfl, hw⟩
    · rw [if_neg c] at hw
      refine PW.iconst (v := 1) C dX6_has_12 (by decide) ?_
      refine PW.goto (tgt := 17) C dX6_has_13 (by decide) ?_
      exact PW.zret C dX6_has_17 (by decide) ⟨_, rfl, hw⟩
def w_X6_isFull (t : Nat) (h : PH) (Q : Int32 → PH → Prop) : Prop :=
  if (gI h t 3) < (gI h t 1) then (Q 0 h) else (Q 1 h)
set_option maxRecDepth 8000 in
theorem s_X6_isFull {D : va_G} {ca : Nat → ClassId} {ad : Nat → Nat} {l : Launch} {t : Nat} {h : PH} {Q : Int32 → PH → Prop} (ht : oX t 6) (hw : w_X6_isFull t h Q) : Sp (GX D ca ad) (XS (GX D ca ad)) l 1 yX6_isFull cX6_isFull 1 (some .boolean) [.ref t] h (qI Q) := by
  refine Sp.of (own := RX6) [some (.ref t)] (by decide +kernel) rfl rfl (Nat.le_of_ble_eq_true rfl) (fun K hl C => ?_)
  subst hl
  unfold w_X6_isFull at hw
  refine PW.ald0n C dX6_isFull_0 ?_
  refine PW.get0 C cf_6 fl_X6_22 (by decide) ht (fvI rfl) dX6_isFull_1 ?_
  refine PW.ald0n C dX6_isFull_4 ?_
  refine PW.get0 C cf_6 fl_X6_15 (by decide) ht (fvI rfl) dX6_isFull_5 ?_
  refine PW.icmp_lt (tgt := 15) C dX6_isFull_8 (by decide) (fun c => ?_) (fun c => ?_)
  · rw [if_pos c] at hw
    refine PW.iconst (v := 0) C dX6_isFull_15 (by decide) ?_
    exact PW.zret C dX6_isFull_16 (by decide) ⟨_, rfl, hw⟩
  · rw [if_neg c] at hw
    refine PW.iconst (v := 1) C dX6_isFull_11 (by decide) ?_
    refine PW.goto (tgt := 16) C dX6_isFull_12 (by decide) ?_
    exact PW.zret C dX6_isFull_16 (by decide) ⟨_, rfl, hw⟩
def w_X6_at (t : Nat) (x1 : Int32) (x2 : Int32) (h : PH) (Q : Int32 → PH → Prop) : Prop :=
  w_X6_has t x1 h (fun z2 h1 => if z2 = 0 then (Q (-1) h1) else (if x2 < 0 then (Q (-1) h1) else (if (gI h1 t 0) ≤ x2 then (Q (-1) h1) else (vp_in ((x1 * (gI h1 t 0)) + x2) (alX (t + 1)) ∧ Q (gI h1 (t + 1) (iN ((x1 * (gI h1 t 0)) + x2))) h1))))
set_option maxRecDepth 8000 in
theorem s_X6_at {D : va_G} {ca : Nat → ClassId} {ad : Nat → Nat} {l : Launch} {t : Nat} {x1 : Int32} {x2 : Int32} {h : PH} {Q : Int32 → PH → Prop} (ht : oX t 6) (hw : w_X6_at t x1 x2 h Q) : Sp (GX D ca ad) (XS (GX D ca ad)) l 2 yX6_at cX6_at 3 (some .int) [.ref t, .int x1, .int x2] h (qI Q) := by
  refine Sp.of (own := RX6) [some (.ref t), some (.int x1), some (.int x2)] (by decide +kernel) rfl rfl (Nat.le_of_ble_eq_true rfl) (fun K hl C => ?_)
  subst hl
  unfold w_X6_at at hw
  refine PW.ald0n C dX6_at_0 ?_
  refine PW.ild1n C dX6_at_1 ?_
  refine PW.callVI1 C ms_X6_has ml_X6_25 dX6_at_2 ht ⟨_, _, rfl⟩ (Nat.le_of_ble_eq_true rfl) (by decide) (Nat.le_of_ble_eq_true rfl) (s_X6_has ht hw) ?_
  clear hw
  intro z2 h1 hw
  refine PW.if_eq (tgt := 36) C dX6_at_5 (by decide) (fun c => ?_) (fun c => ?_)
  · rw [if_pos c] at hw
    refine PW.iconst (v := (-1)) C dX6_at_36 (by decide) ?_
    exact PW.iret C dX6_at_37 ⟨_, rfl, hw⟩
  · rw [if_neg c] at hw
    refine PW.ild2n C dX6_at_8 ?_
    refine PW.if_lt (tgt := 36) C dX6_at_9 (by decide) (fun c => ?_) (fun c => ?_)
    · rw [if_pos c] at hw
      refine PW.iconst (v := (-1)) C dX6_at_36 (by decide) ?_
      exact PW.iret C dX6_at_37 ⟨_, rfl, hw⟩
    · rw [if_neg c] at hw
      refine PW.ild2n C dX6_at_12 ?_
      refine PW.ald0n C dX6_at_13 ?_
      refine PW.get0 C cf_6 fl_X6_9 (by decide) ht (fvI rfl) dX6_at_14 ?_
      refine PW.icmp_ge (tgt := 36) C dX6_at_17 (by decide) (fun c => ?_) (fun c => ?_)
      · rw [if_pos c] at hw
        refine PW.iconst (v := (-1)) C dX6_at_36 (by decide) ?_
        exact PW.iret C dX6_at_37 ⟨_, rfl, hw⟩
      · rw [if_neg c] at hw
        refine PW.ald0n C dX6_at_20 ?_
        refine PW.get0 C cf_6 fl_X6_18 (by decide) ht (fvR (o := 1) rfl) dX6_at_21 ?_
        refine PW.ild1n C dX6_at_24 ?_
        refine PW.ald0n C dX6_at_25 ?_
        refine PW.get0 C cf_6 fl_X6_9 (by decide) ht (fvI rfl) dX6_at_26 ?_
        refine PW.imul C dX6_at_29 ?_
        refine PW.ild2n C dX6_at_30 ?_
        refine PW.iadd C dX6_at_31 ?_
        obtain ⟨hc3, hw⟩ := hw
        refine PW.iald C dX6_at_32 (sf_6_2 ht) hc3 ?_
        refine PW.goto (tgt := 37) C dX6_at_33 (by decide) ?_
        exact PW.iret C dX6_at_37 ⟨_, rfl, hw⟩
def w_X6_put (t : Nat) (x1 : Int32) (x2 : Int32) (x3 : Int32) (h : PH) (Q : PH → Prop) : Prop :=
  w_X6_has t x1 h (fun z2 h1 => if z2 = 0 then (Q h1) else (if x2 < 0 then (Q h1) else (if (gI h1 t 0) ≤ x2 then (Q h1) else (vp_in ((x1 * (gI h1 t 0)) + x2) (alX (t + 1)) ∧ ∀ h4, h4 = sI h1 (t + 1) (iN ((x1 * (gI h1 t 0)) + x2)) x3 → Q h4))))
set_option maxRecDepth 8000 in
theorem s_X6_put {D : va_G} {ca : Nat → ClassId} {ad : Nat → Nat} {l : Launch} {t : Nat} {x1 : Int32} {x2 : Int32} {x3 : Int32} {h : PH} {Q : PH → Prop} (ht : oX t 6) (hw : w_X6_put t x1 x2 x3 h Q) : Sp (GX D ca ad) (XS (GX D ca ad)) l 2 yX6_put cX6_put 4 none [.ref t, .int x1, .int x2, .int x3] h (qV Q) := by
  refine Sp.of (own := RX6) [some (.ref t), some (.int x1), some (.int x2), some (.int x3)] (by decide +kernel) rfl rfl (Nat.le_of_ble_eq_true rfl) (fun K hl C => ?_)
  subst hl
  unfold w_X6_put at hw
  refine PW.ald0n C dX6_put_0 ?_
  refine PW.ild1n C dX6_put_1 ?_
  refine PW.callVI1 C ms_X6_has ml_X6_25 dX6_put_2 ht ⟨_, _, rfl⟩ (Nat.le_of_ble_eq_true rfl) (by decide) (Nat.le_of_ble_eq_true rfl) (s_X6_has ht hw) ?_
  clear hw
  intro z2 h1 hw
  refine PW.if_eq (tgt := 34) C dX6_put_5 (by decide) (fun c => ?_) (fun c => ?_)
  · rw [if_pos c] at hw
    exact PW.vret C dX6_put_34 ⟨rfl, hw⟩
  · rw [if_neg c] at hw
    refine PW.ild2n C dX6_put_8 ?_
    refine PW.if_lt (tgt := 34) C dX6_put_9 (by decide) (fun c => ?_) (fun c => ?_)
    · rw [if_pos c] at hw
      exact PW.vret C dX6_put_34 ⟨rfl, hw⟩
    · rw [if_neg c] at hw
      refine PW.ild2n C dX6_put_12 ?_
      refine PW.ald0n C dX6_put_13 ?_
      refine PW.get0 C cf_6 fl_X6_9 (by decide) ht (fvI rfl) dX6_put_14 ?_
      refine PW.icmp_ge (tgt := 34) C dX6_put_17 (by decide) (fun c => ?_) (fun c => ?_)
      · rw [if_pos c] at hw
        exact PW.vret C dX6_put_34 ⟨rfl, hw⟩
      · rw [if_neg c] at hw
        refine PW.ald0n C dX6_put_20 ?_
        refine PW.get0 C cf_6 fl_X6_18 (by decide) ht (fvR (o := 1) rfl) dX6_put_21 ?_
        refine PW.ild1n C dX6_put_24 ?_
        refine PW.ald0n C dX6_put_25 ?_
        refine PW.get0 C cf_6 fl_X6_9 (by decide) ht (fvI rfl) dX6_put_26 ?_
        refine PW.imul C dX6_put_29 ?_
        refine PW.ild2n C dX6_put_30 ?_
        refine PW.iadd C dX6_put_31 ?_
        refine PW.ild3n C dX6_put_32 ?_
        obtain ⟨hc3, hw⟩ := hw
        replace hw := hw _ rfl
        refine PW.iast C dX6_put_33 (sf_6_2 ht) hc3 ?_
        exact PW.vret C dX6_put_34 ⟨rfl, hw⟩
def w_X6_add (t : Nat) (x1 : Int32) (x2 : Int32) (x3 : Int32) (x4 : Int32) (x5 : Int32) (h : PH) (Q : Int32 → PH → Prop) : Prop :=
  w_X6_isFull t h (fun z2 h1 => if z2 = 0 then (∀ (y3 : Int32), y3 = (gI h1 t 3) → ∀ h4, h4 = sI h1 t 3 ((gI h1 t 3) + 1) → w_X6_put t y3 0 x1 h4 (fun h5 => w_X6_put t y3 1 x2 h5 (fun h6 => w_X6_put t y3 2 x3 h6 (fun h7 => w_X6_put t y3 3 x4 h7 (fun h8 => w_X6_put t y3 4 x5 h8 (fun h9 => w_X6_put t y3 5 0 h9 (fun h10 => Q y3 h10))))))) else (Q (-1) h1))
set_option maxRecDepth 8000 in
theorem s_X6_add {D : va_G} {ca : Nat → ClassId} {ad : Nat → Nat} {l : Launch} {t : Nat} {x1 : Int32} {x2 : Int32} {x3 : Int32} {x4 : Int32} {x5 : Int32} {h : PH} {Q : Int32 → PH → Prop} (ht : oX t 6) (hw : w_X6_add t x1 x2 x3 x4 x5 h Q) : Sp (GX D ca ad) (XS (GX D ca ad)) l 3 yX6_add cX6_add 7 (some .int) [.ref t, .int x1, .int x2, .int x3, .int x4, .int x5] h (qI Q) := by
  refine Sp.of (own := RX6) [some (.ref t), some (.int x1), some (.int x2), some (.int x3), some (.int x4), some (.int x5), none] (by decide +kernel) rfl rfl (Nat.le_of_ble_eq_true rfl) (fun K hl C => ?_)
  subst hl
  unfold w_X6_add at hw
  refine PW.ald0n C dX6_add_0 ?_
  refine PW.callVI0 C ms_X6_isFull ml_X6_29 dX6_add_1 ht ⟨_, _, rfl⟩ (Nat.le_of_ble_eq_true rfl) (by decide) (Nat.le_of_ble_eq_true rfl) (s_X6_isFull ht hw) ?_
  clear hw
  intro z2 h1 hw
  refine PW.if_eq (tgt := 9) C dX6_add_4 (by decide) (fun c => ?_) (fun c => ?_)
  · rw [if_pos c] at hw
    refine PW.ald0n C dX6_add_9 ?_
    refine PW.get0 C cf_6 fl_X6_22 (by decide) ht (fvI rfl) dX6_add_10 ?_
    replace hw := hw _ rfl
    refine PW.ist6 C dX6_add_13 (by decide) rfl ?_
    refine PW.ald0n C dX6_add_15 ?_
    refine PW.dup C dX6_add_16 rfl ?_
    refine PW.get0 C cf_6 fl_X6_22 (by decide) ht (fvI rfl) dX6_add_17 ?_
    refine PW.iconst (v := 1) C dX6_add_20 (by decide) ?_
    refine PW.iadd C dX6_add_21 ?_
    replace hw := hw _ rfl
    refine PW.put0 C cf_6 fl_X6_22 (by decide) ht rfl rfl rfl (pw_sI ht (by decide) rfl) dX6_add_22 ?_
    refine PW.ald0n C dX6_add_25 ?_
    refine PW.ild6 C dX6_add_26 ?_
    refine PW.iconst (v := 0) C dX6_add_28 (by decide) ?_
    refine PW.ild1n C dX6_add_29 ?_
    refine PW.callVV3 C ms_X6_put ml_X6_33 dX6_add_30 ht ⟨_, _, rfl⟩ (Nat.le_of_ble_eq_true rfl) (by decide) (Nat.le_of_ble_eq_true rfl) (s_X6_put ht hw) ?_
    clear hw
    intro h5 hw
    refine PW.ald0n C dX6_add_33 ?_
    refine PW.ild6 C dX6_add_34 ?_
    refine PW.iconst (v := 1) C dX6_add_36 (by decide) ?_
    refine PW.ild2n C dX6_add_37 ?_
    refine PW.callVV3 C ms_X6_put ml_X6_33 dX6_add_38 ht ⟨_, _, rfl⟩ (Nat.le_of_ble_eq_true rfl) (by decide) (Nat.le_of_ble_eq_true rfl) (s_X6_put ht hw) ?_
    clear hw
    intro h6 hw
    refine PW.ald0n C dX6_add_41 ?_
    refine PW.ild6 C dX6_add_42 ?_
    refine PW.iconst (v := 2) C dX6_add_44 (by decide) ?_
    refine PW.ild3n C dX6_add_45 ?_
    refine PW.callVV3 C ms_X6_put ml_X6_33 dX6_add_46 ht ⟨_, _, rfl⟩ (Nat.le_of_ble_eq_true rfl) (by decide) (Nat.le_of_ble_eq_true rfl) (s_X6_put ht hw) ?_
    clear hw
    intro h7 hw
    refine PW.ald0n C dX6_add_49 ?_
    refine PW.ild6 C dX6_add_50 ?_
    refine PW.iconst (v := 3) C dX6_add_52 (by decide) ?_
    refine PW.ild4 C dX6_add_53 ?_
    refine PW.callVV3 C ms_X6_put ml_X6_33 dX6_add_55 ht ⟨_, _, rfl⟩ (Nat.le_of_ble_eq_true rfl) (by decide) (Nat.le_of_ble_eq_true rfl) (s_X6_put ht hw) ?_
    clear hw
    intro h8 hw
    refine PW.ald0n C dX6_add_58 ?_
    refine PW.ild6 C dX6_add_59 ?_
    refine PW.iconst (v := 4) C dX6_add_61 (by decide) ?_
    refine PW.ild5 C dX6_add_62 ?_
    refine PW.callVV3 C ms_X6_put ml_X6_33 dX6_add_64 ht ⟨_, _, rfl⟩ (Nat.le_of_ble_eq_true rfl) (by decide) (Nat.le_of_ble_eq_true rfl) (s_X6_put ht hw) ?_
    clear hw
    intro h9 hw
    refine PW.ald0n C dX6_add_67 ?_
    refine PW.ild6 C dX6_add_68 ?_
    refine PW.iconst (v := 5) C dX6_add_70 (by decide) ?_
    refine PW.iconst (v := 0) C dX6_add_71 (by decide) ?_
    refine PW.callVV3 C ms_X6_put ml_X6_33 dX6_add_72 ht ⟨_, _, rfl⟩ (Nat.le_of_ble_eq_true rfl) (by decide) (Nat.le_of_ble_eq_true rfl) (s_X6_put ht hw) ?_
    clear hw
    intro h10 hw
    refine PW.ild6 C dX6_add_75 ?_
    exact PW.iret C dX6_add_77 ⟨_, rfl, hw⟩
  · rw [if_neg c] at hw
    refine PW.iconst (v := (-1)) C dX6_add_7 (by decide) ?_
    exact PW.iret C dX6_add_8 ⟨_, rfl, hw⟩
def w_X6_removeLast (t : Nat) (h : PH) (Q : PH → Prop) : Prop :=
  if (gI h t 3) ≤ 0 then (Q h) else (∀ h1, h1 = sI h t 3 ((gI h t 3) - 1) → Q h1)
set_option maxRecDepth 8000 in
theorem s_X6_removeLast {D : va_G} {ca : Nat → ClassId} {ad : Nat → Nat} {l : Launch} {t : Nat} {h : PH} {Q : PH → Prop} (ht : oX t 6) (hw : w_X6_removeLast t h Q) : Sp (GX D ca ad) (XS (GX D ca ad)) l 1 yX6_removeLast cX6_removeLast 1 none [.ref t] h (qV Q) := by
  refine Sp.of (own := RX6) [some (.ref t)] (by decide +kernel) rfl rfl (Nat.le_of_ble_eq_true rfl) (fun K hl C => ?_)
  subst hl
  unfold w_X6_removeLast at hw
  refine PW.ald0n C dX6_removeLast_0 ?_
  refine PW.get0 C cf_6 fl_X6_22 (by decide) ht (fvI rfl) dX6_removeLast_1 ?_
  refine PW.if_le (tgt := 17) C dX6_removeLast_4 (by decide) (fun c => ?_) (fun c => ?_)
  · rw [if_pos c] at hw
    exact PW.vret C dX6_removeLast_17 ⟨rfl, hw⟩
  · rw [if_neg c] at hw
    refine PW.ald0n C dX6_removeLast_7 ?_
    refine PW.dup C dX6_removeLast_8 rfl ?_
    refine PW.get0 C cf_6 fl_X6_22 (by decide) ht (fvI rfl) dX6_removeLast_9 ?_
    refine PW.iconst (v := 1) C dX6_removeLast_12 (by decide) ?_
    refine PW.isub C dX6_removeLast_13 ?_
    replace hw := hw _ rfl
    refine PW.put0 C cf_6 fl_X6_22 (by decide) ht rfl rfl rfl (pw_sI ht (by decide) rfl) dX6_removeLast_14 ?_
    exact PW.vret C dX6_removeLast_17 ⟨rfl, hw⟩
def w_X6_removeFirst (t : Nat) (h : PH) (Q : PH → Prop) : Prop :=
  if (gI h t 3) ≤ 0 then (Q h) else (¬ ((gI h t 0) : Int32) < 0 ∧ ¬ (0 : Int32) < 0 ∧ ¬ ((((gI h t 3) - 1) * (gI h t 0)) : Int32) < 0 ∧ iN (gI h t 0) + iN (((gI h t 3) - 1) * (gI h t 0)) ≤ (alX (t + 1)) ∧ iN 0 + iN (((gI h t 3) - 1) * (gI h t 0)) ≤ (alX (t + 1)) ∧ ∀ h6, h6 = cpI h (t + 1) (t + 1) (iN (gI h t 0)) (iN 0) (iN (((gI h t 3) - 1) * (gI h t 0))) → ∀ h7, h7 = sI h6 t 3 ((gI h6 t 3) - 1) → Q h7)
set_option maxRecDepth 8000 in
theorem s_X6_removeFirst {D : va_G} {ca : Nat → ClassId} {ad : Nat → Nat} {l : Launch} {t : Nat} {h : PH} {Q : PH → Prop} (ht : oX t 6) (hw : w_X6_removeFirst t h Q) : Sp (GX D ca ad) (XS (GX D ca ad)) l 1 yX6_removeFirst cX6_removeFirst 1 none [.ref t] h (qV Q) := by
  refine Sp.of (own := RX6) [some (.ref t)] (by decide +kernel) rfl rfl (Nat.le_of_ble_eq_true rfl) (fun K hl C => ?_)
  subst hl
  unfold w_X6_removeFirst at hw
  refine PW.ald0n C dX6_removeFirst_0 ?_
  refine PW.get0 C cf_6 fl_X6_22 (by decide) ht (fvI rfl) dX6_removeFirst_1 ?_
  refine PW.if_le (tgt := 44) C dX6_removeFirst_4 (by decide) (fun c => ?_) (fun c => ?_)
  · rw [if_pos c] at hw
    exact PW.vret C dX6_removeFirst_44 ⟨rfl, hw⟩
  · rw [if_neg c] at hw
    refine PW.ald0n C dX6_removeFirst_7 ?_
    refine PW.get0 C cf_6 fl_X6_18 (by decide) ht (fvR (o := 1) rfl) dX6_removeFirst_8 ?_
    refine PW.ald0n C dX6_removeFirst_11 ?_
    refine PW.get0 C cf_6 fl_X6_9 (by decide) ht (fvI rfl) dX6_removeFirst_12 ?_
    refine PW.ald0n C dX6_removeFirst_15 ?_
    refine PW.get0 C cf_6 fl_X6_18 (by decide) ht (fvR (o := 1) rfl) dX6_removeFirst_16 ?_
    refine PW.iconst (v := 0) C dX6_removeFirst_19 (by decide) ?_
    refine PW.ald0n C dX6_removeFirst_20 ?_
    refine PW.get0 C cf_6 fl_X6_22 (by decide) ht (fvI rfl) dX6_removeFirst_21 ?_
    refine PW.iconst (v := 1) C dX6_removeFirst_24 (by decide) ?_
    refine PW.isub C dX6_removeFirst_25 ?_
    refine PW.ald0n C dX6_removeFirst_26 ?_
    refine PW.get0 C cf_6 fl_X6_9 (by decide) ht (fvI rfl) dX6_removeFirst_27 ?_
    refine PW.imul C dX6_removeFirst_30 ?_
    obtain ⟨hc1, hc2, hc3, hc4, hc5, hw⟩ := hw
    replace hw := hw _ rfl
    refine PW.acp C ml_X6_37 (Nat.le_of_ble_eq_true rfl) (by decide) dX6_removeFirst_31 (sf_6_2 ht) (sf_6_2 ht) hc1 hc2 hc3 hc4 hc5 ?_
    refine PW.ald0n C dX6_removeFirst_34 ?_
    refine PW.dup C dX6_removeFirst_35 rfl ?_
    refine PW.get0 C cf_6 fl_X6_22 (by decide) ht (fvI rfl) dX6_removeFirst_36 ?_
    refine PW.iconst (v := 1) C dX6_removeFirst_39 (by decide) ?_
    refine PW.isub C dX6_removeFirst_40 ?_
    replace hw := hw _ rfl
    refine PW.put0 C cf_6 fl_X6_22 (by decide) ht rfl rfl rfl (pw_sI ht (by decide) rfl) dX6_removeFirst_41 ?_
    exact PW.vret C dX6_removeFirst_44 ⟨rfl, hw⟩
def w_X6_clear (t : Nat) (h : PH) (Q : PH → Prop) : Prop :=
  ∀ h1, h1 = sI h t 3 0 → Q h1
set_option maxRecDepth 8000 in
theorem s_X6_clear {D : va_G} {ca : Nat → ClassId} {ad : Nat → Nat} {l : Launch} {t : Nat} {h : PH} {Q : PH → Prop} (ht : oX t 6) (hw : w_X6_clear t h Q) : Sp (GX D ca ad) (XS (GX D ca ad)) l 1 yX6_clear cX6_clear 1 none [.ref t] h (qV Q) := by
  refine Sp.of (own := RX6) [some (.ref t)] (by decide +kernel) rfl rfl (Nat.le_of_ble_eq_true rfl) (fun K hl C => ?_)
  subst hl
  unfold w_X6_clear at hw
  refine PW.ald0n C dX6_clear_0 ?_
  refine PW.iconst (v := 0) C dX6_clear_1 (by decide) ?_
  replace hw := hw _ rfl
  refine PW.put0 C cf_6 fl_X6_22 (by decide) ht rfl rfl rfl (pw_sI ht (by decide) rfl) dX6_clear_2 ?_
  exact PW.vret C dX6_clear_5 ⟨rfl, hw⟩
def w_X6_find_2 (t : Nat) (k20 : Int32 → PH → Prop) (k28 : PH → Prop) (Q : Int32 → PH → Prop) (x1 : Int32) (x2 : Int32) (kb : Int32 → PH → Prop) (x3 : Int32) (h : PH) : Prop :=
  if (gI h t 3) ≤ x3 then (k28 h) else (w_X6_at t x3 x1 h (fun z2 h1 => if z2 = x2 then (k20 x3 h1) else (kb (x3 + 1) h1)))
set_option maxRecDepth 8000 in
theorem b_X6_find_2 {D : va_G} {ca : Nat → ClassId} {ad : Nat → Nat} {K : Kt} {t : Nat} {k20 : Int32 → PH → Prop} {k28 : PH → Prop} {kb : Int32 → PH → Prop} {Q : Int32 → PH → Prop} {x1 : Int32} {x2 : Int32} {x3 : Int32} {h : PH} (C : CX (GX D ca ad) (XS (GX D ca ad)) cX6_find RX6 4 (some .int) 3 K) (ht : oX t 6) (hk20 : ∀ (x3 : Int32) (h : PH), k20 x3 h → PW (GX D ca ad) K 4 (qI Q) h 20 [none, none, none, some (.int x3)] []) (hk28 : ∀ (h : PH), k28 h → PW (GX D ca ad) K 4 (qI Q) h 28 [none, none, none, none] []) (hkb : ∀ (x3 : Int32) (h : PH), kb x3 h → PW (GX D ca ad) K 4 (qI Q) h 2 [some (.ref t), some (.int x1), some (.int x2), some (.int x3)] []) (hw : w_X6_find_2 t k20 k28 Q x1 x2 kb x3 h) : PW (GX D ca ad) K 4 (qI Q) h 2 [some (.ref t), some (.int x1), some (.int x2), some (.int x3)] [] := by
  unfold w_X6_find_2 at hw
  refine PW.ild3n C dX6_find_2 ?_
  refine PW.ald0n C dX6_find_3 ?_
  refine PW.get0 C cf_6 fl_X6_22 (by decide) ht (fvI rfl) dX6_find_4 ?_
  refine PW.icmp_ge (tgt := 28) C dX6_find_7 (by decide) (fun c => ?_) (fun c => ?_)
  · rw [if_pos c] at hw
    exact PW.wk (wk_n (wk_n (wk_n (wk_n wk_0)))) (hk28 _ hw)
  · rw [if_neg c] at hw
    refine PW.ald0n C dX6_find_10 ?_
    refine PW.ild3n C dX6_find_11 ?_
    refine PW.ild1n C dX6_find_12 ?_
    refine PW.callVI2 C ms_X6_at ml_X6_43 dX6_find_13 ht ⟨_, _, rfl⟩ (Nat.le_of_ble_eq_true rfl) (by decide) (Nat.le_of_ble_eq_true rfl) (s_X6_at ht hw) ?_
    clear hw
    intro z2 h1 hw
    refine PW.ild2n C dX6_find_16 ?_
    refine PW.icmp_ne (tgt := 22) C dX6_find_17 (by decide) (fun c => ?_) (fun c => ?_)
    · rw [if_neg c] at hw
      refine PW.inc3 (v := 1) C dX6_find_22 (by decide) rfl (by decide) ?_
      refine PW.goto (tgt := 2) C dX6_find_25 (by decide) ?_
      exact PW.wk (wk_s (wk_s (wk_s (wk_s wk_0)))) (hkb _ _ hw)
    · rw [if_pos c] at hw
      exact PW.wk (wk_n (wk_n (wk_n (wk_s wk_0)))) (hk20 _ _ hw)
theorem l_X6_find_2 {D : va_G} {ca : Nat → ClassId} {ad : Nat → Nat} {K : Kt} {t : Nat} {k20 : Int32 → PH → Prop} {k28 : PH → Prop} {Q : Int32 → PH → Prop} {x1 : Int32} {x2 : Int32} (C : CX (GX D ca ad) (XS (GX D ca ad)) cX6_find RX6 4 (some .int) 3 K) (ht : oX t 6) (hk20 : ∀ (x3 : Int32) (h : PH), k20 x3 h → PW (GX D ca ad) K 4 (qI Q) h 20 [none, none, none, some (.int x3)] []) (hk28 : ∀ (h : PH), k28 h → PW (GX D ca ad) K 4 (qI Q) h 28 [none, none, none, none] []) : ∀ (n : Nat) (x3 : Int32) (h : PH), Lp1 (w_X6_find_2 t k20 k28 Q x1 x2) n x3 h → PW (GX D ca ad) K 4 (qI Q) h 2 [some (.ref t), some (.int x1), some (.int x2), some (.int x3)] [] := by
  intro n
  induction n with
  | zero => intro x3 h hw; exact hw.elim
  | succ n ih => intro x3 h hw; exact b_X6_find_2 C ht hk20 hk28 (fun x3 h hw => ih x3 h hw) hw
def w_X6_find (t : Nat) (x1 : Int32) (x2 : Int32) (h : PH) (Q : Int32 → PH → Prop) : Prop :=
  ∃ n, Lp1 (w_X6_find_2 t (fun y4 h3 => Q y4 h3) (fun h5 => Q (-1) h5) Q x1 x2) n 0 h
set_option maxRecDepth 8000 in
theorem s_X6_find {D : va_G} {ca : Nat → ClassId} {ad : Nat → Nat} {l : Launch} {t : Nat} {x1 : Int32} {x2 : Int32} {h : PH} {Q : Int32 → PH → Prop} (ht : oX t 6) (hw : w_X6_find t x1 x2 h Q) : Sp (GX D ca ad) (XS (GX D ca ad)) l 3 yX6_find cX6_find 4 (some .int) [.ref t, .int x1, .int x2] h (qI Q) := by
  refine Sp.of (own := RX6) [some (.ref t), some (.int x1), some (.int x2), none] (by decide +kernel) rfl rfl (Nat.le_of_ble_eq_true rfl) (fun K hl C => ?_)
  subst hl
  unfold w_X6_find at hw
  refine PW.iconst (v := 0) C dX6_find_0 (by decide) ?_
  refine PW.ist3n C dX6_find_1 (by decide) rfl ?_
  obtain ⟨n, hw⟩ := hw
  refine PW.wk (wk_s (wk_s (wk_s (wk_s wk_0)))) (l_X6_find_2 C ht ?_ ?_ n _ _ hw)
  · intro y4 h3 hw
    refine PW.ild3n C dX6_find_20 ?_
    exact PW.iret C dX6_find_21 ⟨_, rfl, hw⟩
  · intro h5 hw
    refine PW.iconst (v := (-1)) C dX6_find_28 (by decide) ?_
    exact PW.iret C dX6_find_29 ⟨_, rfl, hw⟩
def w_X6_sum_4 (t : Nat) (k27 : Int32 → PH → Prop) (Q : Int32 → PH → Prop) (x1 : Int32) (kb : Int32 → Int32 → PH → Prop) (x2 : Int32) (x3 : Int32) (h : PH) : Prop :=
  if (gI h t 3) ≤ x3 then (k27 x2 h) else (w_X6_at t x3 x1 h (fun z2 h1 => ∀ (y3 : Int32), y3 = (x2 + z2) → kb y3 (x3 + 1) h1))
set_option maxRecDepth 8000 in
theorem b_X6_sum_4 {D : va_G} {ca : Nat → ClassId} {ad : Nat → Nat} {K : Kt} {t : Nat} {k27 : Int32 → PH → Prop} {kb : Int32 → Int32 → PH → Prop} {Q : Int32 → PH → Prop} {x1 : Int32} {x2 : Int32} {x3 : Int32} {h : PH} (C : CX (GX D ca ad) (XS (GX D ca ad)) cX6_sum RX6 4 (some .int) 3 K) (ht : oX t 6) (hk27 : ∀ (x2 : Int32) (h : PH), k27 x2 h → PW (GX D ca ad) K 4 (qI Q) h 27 [none, none, some (.int x2), none] []) (hkb : ∀ (x2 : Int32) (x3 : Int32) (h : PH), kb x2 x3 h → PW (GX D ca ad) K 4 (qI Q) h 4 [some (.ref t), some (.int x1), some (.int x2), some (.int x3)] []) (hw : w_X6_sum_4 t k27 Q x1 kb x2 x3 h) : PW (GX D ca ad) K 4 (qI Q) h 4 [some (.ref t), some (.int x1), some (.int x2), some (.int x3)] [] := by
  unfold w_X6_sum_4 at hw
  refine PW.ild3n C dX6_sum_4 ?_
  refine PW.ald0n C dX6_sum_5 ?_
  refine PW.get0 C cf_6 fl_X6_22 (by decide) ht (fvI rfl) dX6_sum_6 ?_
  refine PW.icmp_ge (tgt := 27) C dX6_sum_9 (by decide) (fun c => ?_) (fun c => ?_)
  · rw [if_pos c] at hw
    exact PW.wk (wk_n (wk_n (wk_s (wk_n wk_0)))) (hk27 _ _ hw)
  · rw [if_neg c] at hw
    refine PW.ild2n C dX6_sum_12 ?_
    refine PW.ald0n C dX6_sum_13 ?_
    refine PW.ild3n C dX6_sum_14 ?_
    refine PW.ild1n C dX6_sum_15 ?_
    refine PW.callVI2 C ms_X6_at ml_X6_43 dX6_sum_16 ht ⟨_, _, rfl⟩ (Nat.le_of_ble_eq_true rfl) (by decide) (Nat.le_of_ble_eq_true rfl) (s_X6_at ht hw) ?_
    clear hw
    intro z2 h1 hw
    refine PW.iadd C dX6_sum_19 ?_
    replace hw := hw _ rfl
    refine PW.ist2n C dX6_sum_20 (by decide) rfl ?_
    refine PW.inc3 (v := 1) C dX6_sum_21 (by decide) rfl (by decide) ?_
    refine PW.goto (tgt := 4) C dX6_sum_24 (by decide) ?_
    exact PW.wk (wk_s (wk_s (wk_s (wk_s wk_0)))) (hkb _ _ _ hw)
theorem l_X6_sum_4 {D : va_G} {ca : Nat → ClassId} {ad : Nat → Nat} {K : Kt} {t : Nat} {k27 : Int32 → PH → Prop} {Q : Int32 → PH → Prop} {x1 : Int32} (C : CX (GX D ca ad) (XS (GX D ca ad)) cX6_sum RX6 4 (some .int) 3 K) (ht : oX t 6) (hk27 : ∀ (x2 : Int32) (h : PH), k27 x2 h → PW (GX D ca ad) K 4 (qI Q) h 27 [none, none, some (.int x2), none] []) : ∀ (n : Nat) (x2 : Int32) (x3 : Int32) (h : PH), Lp2 (w_X6_sum_4 t k27 Q x1) n x2 x3 h → PW (GX D ca ad) K 4 (qI Q) h 4 [some (.ref t), some (.int x1), some (.int x2), some (.int x3)] [] := by
  intro n
  induction n with
  | zero => intro x2 x3 h hw; exact hw.elim
  | succ n ih => intro x2 x3 h hw; exact b_X6_sum_4 C ht hk27 (fun x2 x3 h hw => ih x2 x3 h hw) hw
def w_X6_sum (t : Nat) (x1 : Int32) (h : PH) (Q : Int32 → PH → Prop) : Prop :=
  ∃ n, Lp2 (w_X6_sum_4 t (fun y5 h4 => Q y5 h4) Q x1) n 0 0 h
set_option maxRecDepth 8000 in
theorem s_X6_sum {D : va_G} {ca : Nat → ClassId} {ad : Nat → Nat} {l : Launch} {t : Nat} {x1 : Int32} {h : PH} {Q : Int32 → PH → Prop} (ht : oX t 6) (hw : w_X6_sum t x1 h Q) : Sp (GX D ca ad) (XS (GX D ca ad)) l 3 yX6_sum cX6_sum 4 (some .int) [.ref t, .int x1] h (qI Q) := by
  refine Sp.of (own := RX6) [some (.ref t), some (.int x1), none, none] (by decide +kernel) rfl rfl (Nat.le_of_ble_eq_true rfl) (fun K hl C => ?_)
  subst hl
  unfold w_X6_sum at hw
  refine PW.iconst (v := 0) C dX6_sum_0 (by decide) ?_
  refine PW.ist2n C dX6_sum_1 (by decide) rfl ?_
  refine PW.iconst (v := 0) C dX6_sum_2 (by decide) ?_
  refine PW.ist3n C dX6_sum_3 (by decide) rfl ?_
  obtain ⟨n, hw⟩ := hw
  refine PW.wk (wk_s (wk_s (wk_s (wk_s wk_0)))) (l_X6_sum_4 C ht ?_ n _ _ _ hw)
  · intro y5 h4 hw
    refine PW.ild2n C dX6_sum_27 ?_
    exact PW.iret C dX6_sum_28 ⟨_, rfl, hw⟩
def w_X6_copyFrom (t : Nat) (r1 : Nat) (h : PH) (Q : PH → Prop) : Prop :=
  ∀ (y1 : Int32), y1 = (mnI (Int32.ofNat (alX (t + 1))) (Int32.ofNat (alX (r1 + 1)))) → ¬ (0 : Int32) < 0 ∧ ¬ (0 : Int32) < 0 ∧ ¬ (y1 : Int32) < 0 ∧ iN 0 + iN y1 ≤ (alX (r1 + 1)) ∧ iN 0 + iN y1 ≤ (alX (t + 1)) ∧ ∀ h7, h7 = cpI h (r1 + 1) (t + 1) (iN 0) (iN 0) (iN y1) → ∀ h8, h8 = sI h7 t 3 (gI h7 r1 3) → Q h8
set_option maxRecDepth 8000 in
theorem s_X6_copyFrom {D : va_G} {ca : Nat → ClassId} {ad : Nat → Nat} {l : Launch} {t : Nat} {r1 : Nat} {h : PH} {Q : PH → Prop} (ht : oX t 6) (hr1 : oX r1 6) (hw : w_X6_copyFrom t r1 h Q) : Sp (GX D ca ad) (XS (GX D ca ad)) l 1 yX6_copyFrom cX6_copyFrom 3 none [.ref t, .ref r1] h (qV Q) := by
  refine Sp.of (own := RX6) [some (.ref t), some (.ref r1), none] (by decide +kernel) rfl rfl (Nat.le_of_ble_eq_true rfl) (fun K hl C => ?_)
  subst hl
  unfold w_X6_copyFrom at hw
  refine PW.ald0n C dX6_copyFrom_0 ?_
  refine PW.get0 C cf_6 fl_X6_18 (by decide) ht (fvR (o := 1) rfl) dX6_copyFrom_1 ?_
  refine PW.alen C dX6_copyFrom_4 (sf_6_2 ht) (by decide) rfl ?_
  refine PW.ald1n C dX6_copyFrom_5 ?_
  refine PW.get0 C cf_6 fl_X6_18 (by decide) hr1 (fvR (o := 1) rfl) dX6_copyFrom_6 ?_
  refine PW.alen C dX6_copyFrom_9 (sf_6_2 hr1) (by decide) rfl ?_
  refine PW.mnI C ml_X6_47 (Nat.le_of_ble_eq_true rfl) (by decide) dX6_copyFrom_10 ?_
  replace hw := hw _ rfl
  refine PW.ist2n C dX6_copyFrom_13 (by decide) rfl ?_
  refine PW.ald1n C dX6_copyFrom_14 ?_
  refine PW.get0 C cf_6 fl_X6_18 (by decide) hr1 (fvR (o := 1) rfl) dX6_copyFrom_15 ?_
  refine PW.iconst (v := 0) C dX6_copyFrom_18 (by decide) ?_
  refine PW.ald0n C dX6_copyFrom_19 ?_
  refine PW.get0 C cf_6 fl_X6_18 (by decide) ht (fvR (o := 1) rfl) dX6_copyFrom_20 ?_
  refine PW.iconst (v := 0) C dX6_copyFrom_23 (by decide) ?_
  refine PW.ild2n C dX6_copyFrom_24 ?_
  obtain ⟨hc2, hc3, hc4, hc5, hc6, hw⟩ := hw
  replace hw := hw _ rfl
  refine PW.acp C ml_X6_37 (Nat.le_of_ble_eq_true rfl) (by decide) dX6_copyFrom_25 (sf_6_2 hr1) (sf_6_2 ht) hc2 hc3 hc4 hc5 hc6 ?_
  refine PW.ald0n C dX6_copyFrom_28 ?_
  refine PW.ald1n C dX6_copyFrom_29 ?_
  refine PW.get0 C cf_6 fl_X6_22 (by decide) hr1 (fvI rfl) dX6_copyFrom_30 ?_
  replace hw := hw _ rfl
  refine PW.put0 C cf_6 fl_X6_22 (by decide) ht rfl rfl rfl (pw_sI ht (by decide) rfl) dX6_copyFrom_33 ?_
  exact PW.vret C dX6_copyFrom_36 ⟨rfl, hw⟩
def w_X1_clear (t : Nat) (h : PH) (Q : PH → Prop) : Prop :=
  ∀ h1, h1 = sI h t 3 0 → ∀ h2, h2 = sI h1 t 4 0 → Q h2
set_option maxRecDepth 8000 in
theorem s_X1_clear {D : va_G} {ca : Nat → ClassId} {ad : Nat → Nat} {l : Launch} {t : Nat} {h : PH} {Q : PH → Prop} (ht : oX t 1) (hw : w_X1_clear t h Q) : Sp (GX D ca ad) (XS (GX D ca ad)) l 1 yX1_clear cX1_clear 1 none [.ref t] h (qV Q) := by
  refine Sp.of (own := RX1) [some (.ref t)] (by decide +kernel) rfl rfl (Nat.le_of_ble_eq_true rfl) (fun K hl C => ?_)
  subst hl
  unfold w_X1_clear at hw
  refine PW.ald0n C dX1_clear_0 ?_
  refine PW.iconst (v := 0) C dX1_clear_1 (by decide) ?_
  replace hw := hw _ rfl
  refine PW.put0 C cf_1 fl_X1_24 (by decide) ht rfl rfl rfl (pw_sI ht (by decide) rfl) dX1_clear_2 ?_
  refine PW.ald0n C dX1_clear_5 ?_
  refine PW.iconst (v := 0) C dX1_clear_6 (by decide) ?_
  replace hw := hw _ rfl
  refine PW.put0 C cf_1 fl_X1_28 (by decide) ht rfl (z_nar (by decide)).1 (z_nar (by decide)).2 (pw_sI ht (by decide) rfl) dX1_clear_7 ?_
  exact PW.vret C dX1_clear_10 ⟨rfl, hw⟩
def w_X1_copyFrom (t : Nat) (r1 : Nat) (h : PH) (Q : PH → Prop) : Prop :=
  ¬ (0 : Int32) < 0 ∧ ¬ (0 : Int32) < 0 ∧ ¬ (64 : Int32) < 0 ∧ iN 0 + iN 64 ≤ 64 ∧ iN 0 + iN 64 ≤ 64 ∧ ∀ h6, h6 = cpI h (r1 + 1) (t + 1) (iN 0) (iN 0) (iN 64) → ∀ h7, h7 = sI h6 t 3 (gI h6 r1 3) → ((gI h7 r1 4) = 0 ∨ (gI h7 r1 4) = 1) ∧ ∀ h8, h8 = sI h7 t 4 (gI h7 r1 4) → Q h8
set_option maxRecDepth 8000 in
theorem s_X1_copyFrom {D : va_G} {ca : Nat → ClassId} {ad : Nat → Nat} {l : Launch} {t : Nat} {r1 : Nat} {h : PH} {Q : PH → Prop} (ht : oX t 1) (hr1 : oX r1 1) (hw : w_X1_copyFrom t r1 h Q) : Sp (GX D ca ad) (XS (GX D ca ad)) l 1 yX1_copyFrom cX1_copyFrom 2 none [.ref t, .ref r1] h (qV Q) := by
  refine Sp.of (own := RX1) [some (.ref t), some (.ref r1)] (by decide +kernel) rfl rfl (Nat.le_of_ble_eq_true rfl) (fun K hl C => ?_)
  subst hl
  unfold w_X1_copyFrom at hw
  refine PW.ald1n C dX1_copyFrom_0 ?_
  refine PW.get0 C cf_1 fl_X1_11 (by decide) hr1 (fvR (o := 1) rfl) dX1_copyFrom_1 ?_
  refine PW.iconst (v := 0) C dX1_copyFrom_4 (by decide) ?_
  refine PW.ald0n C dX1_copyFrom_5 ?_
  refine PW.get0 C cf_1 fl_X1_11 (by decide) ht (fvR (o := 1) rfl) dX1_copyFrom_6 ?_
  refine PW.iconst (v := 0) C dX1_copyFrom_9 (by decide) ?_
  refine PW.bipush (v := 64) C dX1_copyFrom_10 (by decide) ?_
  obtain ⟨hc1, hc2, hc3, hc4, hc5, hw⟩ := hw
  replace hw := hw _ rfl
  refine PW.acp C ml_X1_32 (Nat.le_of_ble_eq_true rfl) (by decide) dX1_copyFrom_12 (sf_1_0 hr1) (sf_1_0 ht) hc1 hc2 hc3 hc4 hc5 ?_
  refine PW.ald0n C dX1_copyFrom_15 ?_
  refine PW.ald1n C dX1_copyFrom_16 ?_
  refine PW.get0 C cf_1 fl_X1_24 (by decide) hr1 (fvI rfl) dX1_copyFrom_17 ?_
  replace hw := hw _ rfl
  refine PW.put0 C cf_1 fl_X1_24 (by decide) ht rfl rfl rfl (pw_sI ht (by decide) rfl) dX1_copyFrom_20 ?_
  refine PW.ald0n C dX1_copyFrom_23 ?_
  refine PW.ald1n C dX1_copyFrom_24 ?_
  refine PW.get0 C cf_1 fl_X1_28 (by decide) hr1 (fvI rfl) dX1_copyFrom_25 ?_
  obtain ⟨hz9, hw⟩ := hw
  replace hw := hw _ rfl
  refine PW.put0 C cf_1 fl_X1_28 (by decide) ht rfl (z_nar hz9).1 (z_nar hz9).2 (pw_sI ht (by decide) rfl) dX1_copyFrom_28 ?_
  exact PW.vret C dX1_copyFrom_31 ⟨rfl, hw⟩
def w_X1_add_19 (t : Nat) (Q : PH → Prop) (x1 : Int32) (s1 : Int32) (h : PH) : Prop :=
  (s1 = 0 ∨ s1 = 1) ∧ ∀ h1, h1 = sI h t 4 s1 → if 64 ≤ (gI h1 t 3) then (Q h1) else (vp_in (gI h1 t 3) 64 ∧ ∀ h4, h4 = sI h1 (t + 1) (iN (gI h1 t 3)) x1 → ∀ h5, h5 = sI h4 t 3 ((gI h4 t 3) + 1) → Q h5)
set_option maxRecDepth 8000 in
theorem b_X1_add_19 {D : va_G} {ca : Nat → ClassId} {ad : Nat → Nat} {K : Kt} {t : Nat} {Q : PH → Prop} {x1 : Int32} {s1 : Int32} {h : PH} (C : CX (GX D ca ad) (XS (GX D ca ad)) cX1_add RX1 2 none 1 K) (ht : oX t 1) (hw : w_X1_add_19 t Q x1 s1 h) : PW (GX D ca ad) K 2 (qV Q) h 19 [some (.ref t), some (.int x1)] [.int s1, .ref t] := by
  unfold w_X1_add_19 at hw
  obtain ⟨hz2, hw⟩ := hw
  replace hw := hw _ rfl
  refine PW.put0 C cf_1 fl_X1_28 (by decide) ht rfl (z_nar hz2).1 (z_nar hz2).2 (pw_sI ht (by decide) rfl) dX1_add_19 ?_
  refine PW.ald0n C dX1_add_22 ?_
  refine PW.get0 C cf_1 fl_X1_24 (by decide) ht (fvI rfl) dX1_add_23 ?_
  refine PW.bipush (v := 64) C dX1_add_26 (by decide) ?_
  refine PW.icmp_ge (tgt := 51) C dX1_add_28 (by decide) (fun c => ?_) (fun c => ?_)
  · rw [if_pos c] at hw
    exact PW.vret C dX1_add_51 ⟨rfl, hw⟩
  · rw [if_neg c] at hw
    refine PW.ald0n C dX1_add_31 ?_
    refine PW.get0 C cf_1 fl_X1_11 (by decide) ht (fvR (o := 1) rfl) dX1_add_32 ?_
    refine PW.ald0n C dX1_add_35 ?_
    refine PW.get0 C cf_1 fl_X1_24 (by decide) ht (fvI rfl) dX1_add_36 ?_
    refine PW.ild1n C dX1_add_39 ?_
    obtain ⟨hc3, hw⟩ := hw
    replace hw := hw _ rfl
    refine PW.iast C dX1_add_40 (sf_1_0 ht) hc3 ?_
    refine PW.ald0n C dX1_add_41 ?_
    refine PW.dup C dX1_add_42 rfl ?_
    refine PW.get0 C cf_1 fl_X1_24 (by decide) ht (fvI rfl) dX1_add_43 ?_
    refine PW.iconst (v := 1) C dX1_add_46 (by decide) ?_
    refine PW.iadd C dX1_add_47 ?_
    replace hw := hw _ rfl
    refine PW.put0 C cf_1 fl_X1_24 (by decide) ht rfl rfl rfl (pw_sI ht (by decide) rfl) dX1_add_48 ?_
    exact PW.vret C dX1_add_51 ⟨rfl, hw⟩
def w_X1_add_14 (t : Nat) (Q : PH → Prop) (x1 : Int32) (h : PH) : Prop :=
  w_X1_add_19 t Q x1 1 h
set_option maxRecDepth 8000 in
theorem b_X1_add_14 {D : va_G} {ca : Nat → ClassId} {ad : Nat → Nat} {K : Kt} {t : Nat} {Q : PH → Prop} {x1 : Int32} {h : PH} (C : CX (GX D ca ad) (XS (GX D ca ad)) cX1_add RX1 2 none 1 K) (ht : oX t 1) (hw : w_X1_add_14 t Q x1 h) : PW (GX D ca ad) K 2 (qV Q) h 14 [some (.ref t), some (.int x1)] [.ref t] := by
  unfold w_X1_add_14 at hw
  refine PW.iconst (v := 1) C dX1_add_14 (by decide) ?_
  refine PW.goto (tgt := 19) C dX1_add_15 (by decide) ?_
  exact PW.wk (wk_s (wk_s wk_0)) (b_X1_add_19 C ht hw)
def w_X1_add (t : Nat) (x1 : Int32) (h : PH) (Q : PH → Prop) : Prop :=
  if (gI h t 4) = 0 then (if x1 = (-3) then (w_X1_add_14 t Q x1 h) else (w_X1_add_19 t Q x1 0 h)) else (w_X1_add_14 t Q x1 h)
set_option maxRecDepth 8000 in
theorem s_X1_add {D : va_G} {ca : Nat → ClassId} {ad : Nat → Nat} {l : Launch} {t : Nat} {x1 : Int32} {h : PH} {Q : PH → Prop} (ht : oX t 1) (hw : w_X1_add t x1 h Q) : Sp (GX D ca ad) (XS (GX D ca ad)) l 1 yX1_add cX1_add 2 none [.ref t, .int x1] h (qV Q) := by
  refine Sp.of (own := RX1) [some (.ref t), some (.int x1)] (by decide +kernel) rfl rfl (Nat.le_of_ble_eq_true rfl) (fun K hl C => ?_)
  subst hl
  unfold w_X1_add at hw
  refine PW.ald0n C dX1_add_0 ?_
  refine PW.ald0n C dX1_add_1 ?_
  refine PW.get0 C cf_1 fl_X1_28 (by decide) ht (fvI rfl) dX1_add_2 ?_
  refine PW.if_ne (tgt := 14) C dX1_add_5 (by decide) (fun c => ?_) (fun c => ?_)
  · rw [if_neg c] at hw
    exact PW.wk (wk_s (wk_s wk_0)) (b_X1_add_14 C ht hw)
  · rw [if_pos c] at hw
    refine PW.ild1n C dX1_add_8 ?_
    refine PW.bipush (v := (-3)) C dX1_add_9 (by decide) ?_
    refine PW.icmp_ne (tgt := 18) C dX1_add_11 (by decide) (fun c => ?_) (fun c => ?_)
    · rw [if_neg c] at hw
      refine PW.iconst (v := 0) C dX1_add_18 (by decide) ?_
      exact PW.wk (wk_s (wk_s wk_0)) (b_X1_add_19 C ht hw)
    · rw [if_pos c] at hw
      exact PW.wk (wk_s (wk_s wk_0)) (b_X1_add_14 C ht hw)
def w_X1_joined_253 (Q : Int64 → PH → Prop) (x5 : Int64) (h : PH) : Prop :=
  if 0 < (lg_cmp x5 1000000000000) then (Q (-9223372036854775808) h) else (if 0 ≤ (lg_cmp x5 (-1000000000000)) then (Q x5 h) else (Q (-9223372036854775808) h))
set_option maxRecDepth 8000 in
theorem b_X1_joined_253 {D : va_G} {ca : Nat → ClassId} {ad : Nat → Nat} {K : Kt} {Q : Int64 → PH → Prop} {x5 : Int64} {h : PH} (C : CX (GX D ca ad) (XS (GX D ca ad)) cX1_joined RX1 7 (some .long) 1 K) (hw : w_X1_joined_253 Q x5 h) : PW (GX D ca ad) K 7 (qJ Q) h 253 [none, none, none, none, none, some (.long x5), none] [] := by
  unfold w_X1_joined_253 at hw
  refine PW.lld5 C dX1_joined_253 ?_
  refine PW.ldc2 (v := 1000000000000) C cs_X1_44 dX1_joined_255 ?_
  refine PW.lcmp C dX1_joined_258 ?_
  refine PW.if_gt (tgt := 271) C dX1_joined_259 (by decide) (fun c => ?_) (fun c => ?_)
  · rw [if_pos c] at hw
    refine PW.ldc2 (v := (-9223372036854775808)) C cs_X1_38 dX1_joined_271 ?_
    refine PW.goto (tgt := 279) C dX1_joined_274 (by decide) ?_
    exact PW.lret C dX1_joined_279 ⟨_, rfl, hw⟩
  · rw [if_neg c] at hw
    refine PW.lld5 C dX1_joined_262 ?_
    refine PW.ldc2 (v := (-1000000000000)) C cs_X1_46 dX1_joined_264 ?_
    refine PW.lcmp C dX1_joined_267 ?_
    refine PW.if_ge (tgt := 277) C dX1_joined_268 (by decide) (fun c => ?_) (fun c => ?_)
    · rw [if_pos c] at hw
      refine PW.lld5 C dX1_joined_277 ?_
      exact PW.lret C dX1_joined_279 ⟨_, rfl, hw⟩
    · rw [if_neg c] at hw
      refine PW.ldc2 (v := (-9223372036854775808)) C cs_X1_38 dX1_joined_271 ?_
      refine PW.goto (tgt := 279) C dX1_joined_274 (by decide) ?_
      exact PW.lret C dX1_joined_279 ⟨_, rfl, hw⟩
def w_X1_joined_230 (Q : Int64 → PH → Prop) (x1 : Int64) (x3 : Int64) (h : PH) : Prop :=
  ∀ (y13 : Int64), y13 = (x1 * x3) → w_X1_joined_253 Q y13 h
set_option maxRecDepth 8000 in
theorem b_X1_joined_230 {D : va_G} {ca : Nat → ClassId} {ad : Nat → Nat} {K : Kt} {Q : Int64 → PH → Prop} {x1 : Int64} {x3 : Int64} {h : PH} (C : CX (GX D ca ad) (XS (GX D ca ad)) cX1_joined RX1 7 (some .long) 1 K) (hw : w_X1_joined_230 Q x1 x3 h) : PW (GX D ca ad) K 7 (qJ Q) h 230 [none, some (.long x1), none, some (.long x3), none, none, none] [] := by
  unfold w_X1_joined_230 at hw
  refine PW.lld1n C dX1_joined_230 ?_
  refine PW.lld3n C dX1_joined_231 ?_
  refine PW.lmul C dX1_joined_232 ?_
  replace hw := hw _ rfl
  refine PW.lst5 C dX1_joined_233 (by decide) rfl ?_
  refine PW.goto (tgt := 253) C dX1_joined_235 (by decide) ?_
  exact PW.wk (wk_n (wk_n (wk_n (wk_n (wk_n (wk_s (wk_n wk_0))))))) (b_X1_joined_253 C hw)
def w_X1_joined_221 (Q : Int64 → PH → Prop) (x1 : Int64) (x3 : Int64) (s0 : Int64) (s1 : Int64) (s2 : Int64) (h : PH) : Prop :=
  ¬ s2 = 0 ∧ if (lg_cmp s0 (s1 / s2)) ≤ 0 then (w_X1_joined_230 Q x1 x3 h) else (Q (-9223372036854775808) h)
set_option maxRecDepth 8000 in
theorem b_X1_joined_221 {D : va_G} {ca : Nat → ClassId} {ad : Nat → Nat} {K : Kt} {Q : Int64 → PH → Prop} {x1 : Int64} {x3 : Int64} {s0 : Int64} {s1 : Int64} {s2 : Int64} {h : PH} (C : CX (GX D ca ad) (XS (GX D ca ad)) cX1_joined RX1 7 (some .long) 1 K) (hw : w_X1_joined_221 Q x1 x3 s0 s1 s2 h) : PW (GX D ca ad) K 7 (qJ Q) h 221 [none, some (.long x1), none, some (.long x3), none, none, none] [.long s2, .long s1, .long s0] := by
  unfold w_X1_joined_221 at hw
  obtain ⟨hc14, hw⟩ := hw
  refine PW.ldiv C dX1_joined_221 hc14 ?_
  refine PW.lcmp C dX1_joined_222 ?_
  refine PW.if_le (tgt := 230) C dX1_joined_223 (by decide) (fun c => ?_) (fun c => ?_)
  · rw [if_pos c] at hw
    exact PW.wk (wk_n (wk_s (wk_n (wk_s (wk_n (wk_n (wk_n wk_0))))))) (b_X1_joined_230 C hw)
  · rw [if_neg c] at hw
    refine PW.ldc2 (v := (-9223372036854775808)) C cs_X1_38 dX1_joined_226 ?_
    exact PW.lret C dX1_joined_229 ⟨_, rfl, hw⟩
def w_X1_joined_206 (Q : Int64 → PH → Prop) (x1 : Int64) (x3 : Int64) (s0 : Int64) (h : PH) : Prop :=
  if 0 ≤ (lg_cmp x3 0) then (w_X1_joined_221 Q x1 x3 s0 1000000000000 x3 h) else (w_X1_joined_221 Q x1 x3 s0 1000000000000 (-x3) h)
set_option maxRecDepth 8000 in
theorem b_X1_joined_206 {D : va_G} {ca : Nat → ClassId} {ad : Nat → Nat} {K : Kt} {Q : Int64 → PH → Prop} {x1 : Int64} {x3 : Int64} {s0 : Int64} {h : PH} (C : CX (GX D ca ad) (XS (GX D ca ad)) cX1_joined RX1 7 (some .long) 1 K) (hw : w_X1_joined_206 Q x1 x3 s0 h) : PW (GX D ca ad) K 7 (qJ Q) h 206 [none, some (.long x1), none, some (.long x3), none, none, none] [.long s0] := by
  unfold w_X1_joined_206 at hw
  refine PW.ldc2 (v := 1000000000000) C cs_X1_44 dX1_joined_206 ?_
  refine PW.lld3n C dX1_joined_209 ?_
  refine PW.lconst (v := 0) C dX1_joined_210 (by decide) ?_
  refine PW.lcmp C dX1_joined_211 ?_
  refine PW.if_ge (tgt := 220) C dX1_joined_212 (by decide) (fun c => ?_) (fun c => ?_)
  · rw [if_pos c] at hw
    refine PW.lld3n C dX1_joined_220 ?_
    exact PW.wk (wk_n (wk_s (wk_n (wk_s (wk_n (wk_n (wk_n wk_0))))))) (b_X1_joined_221 C hw)
  · rw [if_neg c] at hw
    refine PW.lld3n C dX1_joined_215 ?_
    refine PW.lneg C dX1_joined_216 ?_
    refine PW.goto (tgt := 221) C dX1_joined_217 (by decide) ?_
    exact PW.wk (wk_n (wk_s (wk_n (wk_s (wk_n (wk_n (wk_n wk_0))))))) (b_X1_joined_221 C hw)
def w_X1_joined_238 (Q : Int64 → PH → Prop) (x1 : Int64) (x3 : Int64) (h : PH) : Prop :=
  if (lg_cmp x3 0) = 0 then (Q (-9223372036854775808) h) else (¬ x3 = 0 ∧ ∀ (y17 : Int64), y17 = (x1 / x3) → w_X1_joined_253 Q y17 h)
set_option maxRecDepth 8000 in
theorem b_X1_joined_238 {D : va_G} {ca : Nat → ClassId} {ad : Nat → Nat} {K : Kt} {Q : Int64 → PH → Prop} {x1 : Int64} {x3 : Int64} {h : PH} (C : CX (GX D ca ad) (XS (GX D ca ad)) cX1_joined RX1 7 (some .long) 1 K) (hw : w_X1_joined_238 Q x1 x3 h) : PW (GX D ca ad) K 7 (qJ Q) h 238 [none, some (.long x1), none, some (.long x3), none, none, none] [] := by
  unfold w_X1_joined_238 at hw
  refine PW.lld3n C dX1_joined_238 ?_
  refine PW.lconst (v := 0) C dX1_joined_239 (by decide) ?_
  refine PW.lcmp C dX1_joined_240 ?_
  refine PW.if_ne (tgt := 248) C dX1_joined_241 (by decide) (fun c => ?_) (fun c => ?_)
  · rw [if_neg c] at hw
    refine PW.lld1n C dX1_joined_248 ?_
    refine PW.lld3n C dX1_joined_249 ?_
    obtain ⟨hc16, hw⟩ := hw
    refine PW.ldiv C dX1_joined_250 hc16 ?_
    replace hw := hw _ rfl
    refine PW.lst5 C dX1_joined_251 (by decide) rfl ?_
    exact PW.wk (wk_n (wk_n (wk_n (wk_n (wk_n (wk_s (wk_n wk_0))))))) (b_X1_joined_253 C hw)
  · rw [if_pos c] at hw
    refine PW.ldc2 (v := (-9223372036854775808)) C cs_X1_38 dX1_joined_244 ?_
    exact PW.lret C dX1_joined_247 ⟨_, rfl, hw⟩
def w_X1_joined (x0 : Int32) (x1 : Int64) (x3 : Int64) (h : PH) (Q : Int64 → PH → Prop) : Prop :=
  if x0 = 0 then (if (lg_cmp x1 0) = 0 then (if (lg_cmp x3 0) = 0 then (Q 0 h) else (Q 1 h)) else (Q 1 h)) else (if x0 = 1 then (if (lg_cmp x1 0) = 0 then (Q 0 h) else (if (lg_cmp x3 0) = 0 then (Q 0 h) else (Q 1 h))) else (if x0 = 3 then (if 0 ≤ (lg_cmp x1 x3) then (Q 0 h) else (Q 1 h)) else (if x0 = 4 then (if 0 < (lg_cmp x1 x3) then (Q 0 h) else (Q 1 h)) else (if x0 = 5 then (if (lg_cmp x1 x3) = 0 then (Q 1 h) else (Q 0 h)) else (if x0 = 6 then (if (lg_cmp x1 x3) = 0 then (Q 0 h) else (Q 1 h)) else (if x0 = 7 then (if (lg_cmp x1 x3) < 0 then (Q 0 h) else (Q 1 h)) else (if x0 = 8 then (if (lg_cmp x1 x3) ≤ 0 then (Q 0 h) else (Q 1 h)) else (if x0 = 9 then (∀ (y9 : Int64), y9 = (x1 + x3) → w_X1_joined_253 Q y9 h) else (if x0 = 10 then (∀ (y11 : Int64), y11 = (x1 - x3) → w_X1_joined_253 Q y11 h) else (if x0 = 11 then (if (lg_cmp x3 0) = 0 then (w_X1_joined_230 Q x1 x3 h) else (if 0 ≤ (lg_cmp x1 0) then (w_X1_joined_206 Q x1 x3 x1 h) else (w_X1_joined_206 Q x1 x3 (-x1) h))) else (w_X1_joined_238 Q x1 x3 h)))))))))))
set_option maxRecDepth 8000 in
theorem s_X1_joined {D : va_G} {ca : Nat → ClassId} {ad : Nat → Nat} {l : Launch} {x0 : Int32} {x1 : Int64} {x3 : Int64} {h : PH} {Q : Int64 → PH → Prop} (hw : w_X1_joined x0 x1 x3 h Q) : Sp (GX D ca ad) (XS (GX D ca ad)) l 1 yX1_joined cX1_joined 7 (some .long) [.int x0, .long x1, .long x3] h (qJ Q) := by
  refine Sp.of (own := RX1) [some (.int x0), some (.long x1), none, some (.long x3), none, none, none] (by decide +kernel) rfl rfl (Nat.le_of_ble_eq_true rfl) (fun K hl C => ?_)
  subst hl
  unfold w_X1_joined at hw
  refine PW.ild0n C dX1_joined_0 ?_
  refine PW.byc 0 (fun c => ?_) (fun c => ?_)
  · rw [if_pos c] at hw
    subst c
    refine PW.tin (tgt := 64) C dX1_joined_1 (by decide) (by decide) rfl (by decide) ?_
    refine PW.lld1n C dX1_joined_64 ?_
    refine PW.lconst (v := 0) C dX1_joined_65 (by decide) ?_
    refine PW.lcmp C dX1_joined_66 ?_
    refine PW.if_ne (tgt := 76) C dX1_joined_67 (by decide) (fun c => ?_) (fun c => ?_)
    · rw [if_neg c] at hw
      refine PW.lconst (v := 1) C dX1_joined_76 (by decide) ?_
      refine PW.goto (tgt := 81) C dX1_joined_77 (by decide) ?_
      exact PW.lret C dX1_joined_81 ⟨_, rfl, hw⟩
    · rw [if_pos c] at hw
      refine PW.lld3n C dX1_joined_70 ?_
      refine PW.lconst (v := 0) C dX1_joined_71 (by decide) ?_
      refine PW.lcmp C dX1_joined_72 ?_
      refine PW.if_eq (tgt := 80) C dX1_joined_73 (by decide) (fun c => ?_) (fun c => ?_)
      · rw [if_pos c] at hw
        refine PW.lconst (v := 0) C dX1_joined_80 (by decide) ?_
        exact PW.lret C dX1_joined_81 ⟨_, rfl, hw⟩
      · rw [if_neg c] at hw
        refine PW.lconst (v := 1) C dX1_joined_76 (by decide) ?_
        refine PW.goto (tgt := 81) C dX1_joined_77 (by decide) ?_
        exact PW.lret C dX1_joined_81 ⟨_, rfl, hw⟩
  have n1 := c
  rw [if_neg c] at hw
  refine PW.byc 1 (fun c => ?_) (fun c => ?_)
  · rw [if_pos c] at hw
    subst c
    refine PW.tin (tgt := 82) C dX1_joined_1 (by decide) (by decide) rfl (by decide) ?_
    refine PW.lld1n C dX1_joined_82 ?_
    refine PW.lconst (v := 0) C dX1_joined_83 (by decide) ?_
    refine PW.lcmp C dX1_joined_84 ?_
    refine PW.if_eq (tgt := 98) C dX1_joined_85 (by decide) (fun c => ?_) (fun c => ?_)
    · rw [if_pos c] at hw
      refine PW.lconst (v := 0) C dX1_joined_98 (by decide) ?_
      exact PW.lret C dX1_joined_99 ⟨_, rfl, hw⟩
    · rw [if_neg c] at hw
      refine PW.lld3n C dX1_joined_88 ?_
      refine PW.lconst (v := 0) C dX1_joined_89 (by decide) ?_
      refine PW.lcmp C dX1_joined_90 ?_
      refine PW.if_eq (tgt := 98) C dX1_joined_91 (by decide) (fun c => ?_) (fun c => ?_)
      · rw [if_pos c] at hw
        refine PW.lconst (v := 0) C dX1_joined_98 (by decide) ?_
        exact PW.lret C dX1_joined_99 ⟨_, rfl, hw⟩
      · rw [if_neg c] at hw
        refine PW.lconst (v := 1) C dX1_joined_94 (by decide) ?_
        refine PW.goto (tgt := 99) C dX1_joined_95 (by decide) ?_
        exact PW.lret C dX1_joined_99 ⟨_, rfl, hw⟩
  have n2 := c
  rw [if_neg c] at hw
  refine PW.byc 3 (fun c => ?_) (fun c => ?_)
  · rw [if_pos c] at hw
    subst c
    refine PW.tin (tgt := 100) C dX1_joined_1 (by decide) (by decide) rfl (by decide) ?_
    refine PW.lld1n C dX1_joined_100 ?_
    refine PW.lld3n C dX1_joined_101 ?_
    refine PW.lcmp C dX1_joined_102 ?_
    refine PW.if_ge (tgt := 110) C dX1_joined_103 (by decide) (fun c => ?_) (fun c => ?_)
    · rw [if_pos c] at hw
      refine PW.lconst (v := 0) C dX1_joined_110 (by decide) ?_
      exact PW.lret C dX1_joined_111 ⟨_, rfl, hw⟩
    · rw [if_neg c] at hw
      refine PW.lconst (v := 1) C dX1_joined_106 (by decide) ?_
      refine PW.goto (tgt := 111) C dX1_joined_107 (by decide) ?_
      exact PW.lret C dX1_joined_111 ⟨_, rfl, hw⟩
  have n3 := c
  rw [if_neg c] at hw
  refine PW.byc 4 (fun c => ?_) (fun c => ?_)
  · rw [if_pos c] at hw
    subst c
    refine PW.tin (tgt := 112) C dX1_joined_1 (by decide) (by decide) rfl (by decide) ?_
    refine PW.lld1n C dX1_joined_112 ?_
    refine PW.lld3n C dX1_joined_113 ?_
    refine PW.lcmp C dX1_joined_114 ?_
    refine PW.if_gt (tgt := 122) C dX1_joined_115 (by decide) (fun c => ?_) (fun c => ?_)
    · rw [if_pos c] at hw
      refine PW.lconst (v := 0) C dX1_joined_122 (by decide) ?_
      exact PW.lret C dX1_joined_123 ⟨_, rfl, hw⟩
    · rw [if_neg c] at hw
      refine PW.lconst (v := 1) C dX1_joined_118 (by decide) ?_
      refine PW.goto (tgt := 123) C dX1_joined_119 (by decide) ?_
      exact PW.lret C dX1_joined_123 ⟨_, rfl, hw⟩
  have n4 := c
  rw [if_neg c] at hw
  refine PW.byc 5 (fun c => ?_) (fun c => ?_)
  · rw [if_pos c] at hw
    subst c
    refine PW.tin (tgt := 124) C dX1_joined_1 (by decide) (by decide) rfl (by decide) ?_
    refine PW.lld1n C dX1_joined_124 ?_
    refine PW.lld3n C dX1_joined_125 ?_
    refine PW.lcmp C dX1_joined_126 ?_
    refine PW.if_ne (tgt := 134) C dX1_joined_127 (by decide) (fun c => ?_) (fun c => ?_)
    · rw [if_neg c] at hw
      refine PW.lconst (v := 0) C dX1_joined_134 (by decide) ?_
      exact PW.lret C dX1_joined_135 ⟨_, rfl, hw⟩
    · rw [if_pos c] at hw
      refine PW.lconst (v := 1) C dX1_joined_130 (by decide) ?_
      refine PW.goto (tgt := 135) C dX1_joined_131 (by decide) ?_
      exact PW.lret C dX1_joined_135 ⟨_, rfl, hw⟩
  have n5 := c
  rw [if_neg c] at hw
  refine PW.byc 6 (fun c => ?_) (fun c => ?_)
  · rw [if_pos c] at hw
    subst c
    refine PW.tin (tgt := 136) C dX1_joined_1 (by decide) (by decide) rfl (by decide) ?_
    refine PW.lld1n C dX1_joined_136 ?_
    refine PW.lld3n C dX1_joined_137 ?_
    refine PW.lcmp C dX1_joined_138 ?_
    refine PW.if_eq (tgt := 146) C dX1_joined_139 (by decide) (fun c => ?_) (fun c => ?_)
    · rw [if_pos c] at hw
      refine PW.lconst (v := 0) C dX1_joined_146 (by decide) ?_
      exact PW.lret C dX1_joined_147 ⟨_, rfl, hw⟩
    · rw [if_neg c] at hw
      refine PW.lconst (v := 1) C dX1_joined_142 (by decide) ?_
      refine PW.goto (tgt := 147) C dX1_joined_143 (by decide) ?_
      exact PW.lret C dX1_joined_147 ⟨_, rfl, hw⟩
  have n6 := c
  rw [if_neg c] at hw
  refine PW.byc 7 (fun c => ?_) (fun c => ?_)
  · rw [if_pos c] at hw
    subst c
    refine PW.tin (tgt := 148) C dX1_joined_1 (by decide) (by decide) rfl (by decide) ?_
    refine PW.lld1n C dX1_joined_148 ?_
    refine PW.lld3n C dX1_joined_149 ?_
    refine PW.lcmp C dX1_joined_150 ?_
    refine PW.if_lt (tgt := 158) C dX1_joined_151 (by decide) (fun c => ?_) (fun c => ?_)
    · rw [if_pos c] at hw
      refine PW.lconst (v := 0) C dX1_joined_158 (by decide) ?_
      exact PW.lret C dX1_joined_159 ⟨_, rfl, hw⟩
    · rw [if_neg c] at hw
      refine PW.lconst (v := 1) C dX1_joined_154 (by decide) ?_
      refine PW.goto (tgt := 159) C dX1_joined_155 (by decide) ?_
      exact PW.lret C dX1_joined_159 ⟨_, rfl, hw⟩
  have n7 := c
  rw [if_neg c] at hw
  refine PW.byc 8 (fun c => ?_) (fun c => ?_)
  · rw [if_pos c] at hw
    subst c
    refine PW.tin (tgt := 160) C dX1_joined_1 (by decide) (by decide) rfl (by decide) ?_
    refine PW.lld1n C dX1_joined_160 ?_
    refine PW.lld3n C dX1_joined_161 ?_
    refine PW.lcmp C dX1_joined_162 ?_
    refine PW.if_le (tgt := 170) C dX1_joined_163 (by decide) (fun c => ?_) (fun c => ?_)
    · rw [if_pos c] at hw
      refine PW.lconst (v := 0) C dX1_joined_170 (by decide) ?_
      exact PW.lret C dX1_joined_171 ⟨_, rfl, hw⟩
    · rw [if_neg c] at hw
      refine PW.lconst (v := 1) C dX1_joined_166 (by decide) ?_
      refine PW.goto (tgt := 171) C dX1_joined_167 (by decide) ?_
      exact PW.lret C dX1_joined_171 ⟨_, rfl, hw⟩
  have n8 := c
  rw [if_neg c] at hw
  refine PW.byc 9 (fun c => ?_) (fun c => ?_)
  · rw [if_pos c] at hw
    subst c
    refine PW.tin (tgt := 172) C dX1_joined_1 (by decide) (by decide) rfl (by decide) ?_
    refine PW.lld1n C dX1_joined_172 ?_
    refine PW.lld3n C dX1_joined_173 ?_
    refine PW.ladd C dX1_joined_174 ?_
    replace hw := hw _ rfl
    refine PW.lst5 C dX1_joined_175 (by decide) rfl ?_
    refine PW.goto (tgt := 253) C dX1_joined_177 (by decide) ?_
    exact PW.wk (wk_n (wk_n (wk_n (wk_n (wk_n (wk_s (wk_n wk_0))))))) (b_X1_joined_253 C hw)
  have n10 := c
  rw [if_neg c] at hw
  refine PW.byc 10 (fun c => ?_) (fun c => ?_)
  · rw [if_pos c] at hw
    subst c
    refine PW.tin (tgt := 180) C dX1_joined_1 (by decide) (by decide) rfl (by decide) ?_
    refine PW.lld1n C dX1_joined_180 ?_
    refine PW.lld3n C dX1_joined_181 ?_
    refine PW.lsub C dX1_joined_182 ?_
    replace hw := hw _ rfl
    refine PW.lst5 C dX1_joined_183 (by decide) rfl ?_
    refine PW.goto (tgt := 253) C dX1_joined_185 (by decide) ?_
    exact PW.wk (wk_n (wk_n (wk_n (wk_n (wk_n (wk_s (wk_n wk_0))))))) (b_X1_joined_253 C hw)
  have n12 := c
  rw [if_neg c] at hw
  refine PW.byc 11 (fun c => ?_) (fun c => ?_)
  · rw [if_pos c] at hw
    subst c
    refine PW.tin (tgt := 188) C dX1_joined_1 (by decide) (by decide) rfl (by decide) ?_
    refine PW.lld3n C dX1_joined_188 ?_
    refine PW.lconst (v := 0) C dX1_joined_189 (by decide) ?_
    refine PW.lcmp C dX1_joined_190 ?_
    refine PW.if_eq (tgt := 230) C dX1_joined_191 (by decide) (fun c => ?_) (fun c => ?_)
    · rw [if_pos c] at hw
      exact PW.wk (wk_n (wk_s (wk_n (wk_s (wk_n (wk_n (wk_n wk_0))))))) (b_X1_joined_230 C hw)
    · rw [if_neg c] at hw
      refine PW.lld1n C dX1_joined_194 ?_
      refine PW.lconst (v := 0) C dX1_joined_195 (by decide) ?_
      refine PW.lcmp C dX1_joined_196 ?_
      refine PW.if_ge (tgt := 205) C dX1_joined_197 (by decide) (fun c => ?_) (fun c => ?_)
      · rw [if_pos c] at hw
        refine PW.lld1n C dX1_joined_205 ?_
        exact PW.wk (wk_n (wk_s (wk_n (wk_s (wk_n (wk_n (wk_n wk_0))))))) (b_X1_joined_206 C hw)
      · rw [if_neg c] at hw
        refine PW.lld1n C dX1_joined_200 ?_
        refine PW.lneg C dX1_joined_201 ?_
        refine PW.goto (tgt := 206) C dX1_joined_202 (by decide) ?_
        exact PW.wk (wk_n (wk_s (wk_n (wk_s (wk_n (wk_n (wk_n wk_0))))))) (b_X1_joined_206 C hw)
  have n15 := c
  rw [if_neg c] at hw
  refine PW.byc 2 (fun c => ?_) (fun c => ?_)
  · subst c
    refine PW.tin (tgt := 238) C dX1_joined_1 (by decide) (by decide) rfl (by decide) ?_
    exact PW.wk (wk_n (wk_s (wk_n (wk_s (wk_n (wk_n (wk_n wk_0))))))) (b_X1_joined_238 C hw)
  have n18 := c
  refine PW.tout (tgt := 238) C dX1_joined_1 (by have e0 := ne_ti (z := 0) (by decide) n1; have e1 := ne_ti (z := 1) (by decide) n2; have e2 := ne_ti (z := 3) (by decide) n3; have e3 := ne_ti (z := 4) (by decide) n4; have e4 := ne_ti (z := 5) (by decide) n5; have e5 := ne_ti (z := 6) (by decide) n6; have e6 := ne_ti (z := 7) (by decide) n7; have e7 := ne_ti (z := 8) (by decide) n8; have e8 := ne_ti (z := 9) (by decide) n10; have e9 := ne_ti (z := 10) (by decide) n12; have e10 := ne_ti (z := 11) (by decide) n15; have e11 := ne_ti (z := 2) (by decide) n18; omega) (by decide) ?_
  exact PW.wk (wk_n (wk_s (wk_n (wk_s (wk_n (wk_n (wk_n wk_0))))))) (b_X1_joined_238 C hw)
def w_X1_value_92 (t : Nat) (k109 : PH → Prop) (Q : Int64 → PH → Prop) (kb : Int32 → Int32 → PH → Prop) (x7 : Int32) (x8 : Int32) (x9 : Int32) (h : PH) : Prop :=
  if 64 ≤ (x7 + 1) then (k109 h) else (if (-7) < x9 then (if x9 < 0 then (vp_in ((-1) - x9) 6 ∧ vp_in (x7 + 1) 64 ∧ ∀ h12, h12 = sJ h (t + 2) (iN (x7 + 1)) (gJ h (t + 3) (iN ((-1) - x9))) → kb (x7 + 1) (x8 + 1) h12) else (vp_in (x7 + 1) 64 ∧ ∀ h14, h14 = sJ h (t + 2) (iN (x7 + 1)) ((x9 : Int32).toInt64) → kb (x7 + 1) (x8 + 1) h14)) else (k109 h))
set_option maxRecDepth 8000 in
theorem b_X1_value_92 {D : va_G} {ca : Nat → ClassId} {ad : Nat → Nat} {K : Kt} {t : Nat} {k109 : PH → Prop} {kb : Int32 → Int32 → PH → Prop} {Q : Int64 → PH → Prop} {x7 : Int32} {x8 : Int32} {x9 : Int32} {h : PH} (C : CX (GX D ca ad) (XS (GX D ca ad)) cX1_value RX1 11 (some .long) 2 K) (ht : oX t 1) (hk109 : ∀ (h : PH), k109 h → PW (GX D ca ad) K 11 (qJ Q) h 109 [none, none, none, none, none, none, none, none, none, none, none] []) (hkb : ∀ (x7 : Int32) (x8 : Int32) (h : PH), kb x7 x8 h → PW (GX D ca ad) K 11 (qJ Q) h 57 [some (.ref t), none, none, none, none, none, none, some (.int x7), some (.int x8), none, none] []) (hw : w_X1_value_92 t k109 Q kb x7 x8 x9 h) : PW (GX D ca ad) K 11 (qJ Q) h 92 [some (.ref t), none, none, none, none, none, none, some (.int x7), some (.int x8), some (.int x9), none] [] := by
  unfold w_X1_value_92 at hw
  refine PW.inc7 (v := 1) C dX1_value_92 (by decide) rfl (by decide) ?_
  refine PW.ild7 C dX1_value_95 ?_
  refine PW.bipush (v := 64) C dX1_value_97 (by decide) ?_
  refine PW.icmp_ge (tgt := 109) C dX1_value_99 (by decide) (fun c => ?_) (fun c => ?_)
  · rw [if_pos c] at hw
    exact PW.wk (wk_n (wk_n (wk_n (wk_n (wk_n (wk_n (wk_n (wk_n (wk_n (wk_n (wk_n wk_0))))))))))) (hk109 _ hw)
  · rw [if_neg c] at hw
    refine PW.ild9 C dX1_value_102 ?_
    refine PW.bipush (v := (-7)) C dX1_value_104 (by decide) ?_
    refine PW.icmp_gt (tgt := 113) C dX1_value_106 (by decide) (fun c => ?_) (fun c => ?_)
    · rw [if_pos c] at hw
      refine PW.ald0n C dX1_value_113 ?_
      refine PW.get0 C cf_1 fl_X1_17 (by decide) ht (fvR (o := 2) rfl) dX1_value_114 ?_
      refine PW.ild7 C dX1_value_117 ?_
      refine PW.ild9 C dX1_value_119 ?_
      refine PW.if_lt (tgt := 130) C dX1_value_121 (by decide) (fun c => ?_) (fun c => ?_)
      · rw [if_pos c] at hw
        refine PW.ald0n C dX1_value_130 ?_
        refine PW.get0 C cf_1 fl_X1_21 (by decide) ht (fvR (o := 3) rfl) dX1_value_131 ?_
        refine PW.iconst (v := (-1)) C dX1_value_134 (by decide) ?_
        refine PW.ild9 C dX1_value_135 ?_
        refine PW.isub C dX1_value_137 ?_
        obtain ⟨hc10, hw⟩ := hw
        refine PW.lald C dX1_value_138 (sf_1_2 ht) hc10 ?_
        obtain ⟨hc11, hw⟩ := hw
        replace hw := hw _ rfl
        refine PW.last C dX1_value_139 (sf_1_1 ht) hc11 ?_
        refine PW.goto (tgt := 240) C dX1_value_140 (by decide) ?_
        refine PW.inc8 (v := 1) C dX1_value_240 (by decide) rfl (by decide) ?_
        refine PW.goto (tgt := 57) C dX1_value_243 (by decide) ?_
        exact PW.wk (wk_s (wk_n (wk_n (wk_n (wk_n (wk_n (wk_n (wk_s (wk_s (wk_n (wk_n wk_0))))))))))) (hkb _ _ _ hw)
      · rw [if_neg c] at hw
        refine PW.ild9 C dX1_value_124 ?_
        refine PW.i2l C dX1_value_126 ?_
        refine PW.goto (tgt := 139) C dX1_value_127 (by decide) ?_
        obtain ⟨hc13, hw⟩ := hw
        replace hw := hw _ rfl
        refine PW.last C dX1_value_139 (sf_1_1 ht) hc13 ?_
        refine PW.goto (tgt := 240) C dX1_value_140 (by decide) ?_
        refine PW.inc8 (v := 1) C dX1_value_240 (by decide) rfl (by decide) ?_
        refine PW.goto (tgt := 57) C dX1_value_243 (by decide) ?_
        exact PW.wk (wk_s (wk_n (wk_n (wk_n (wk_n (wk_n (wk_n (wk_s (wk_s (wk_n (wk_n wk_0))))))))))) (hkb _ _ _ hw)
    · rw [if_neg c] at hw
      exact PW.wk (wk_n (wk_n (wk_n (wk_n (wk_n (wk_n (wk_n (wk_n (wk_n (wk_n (wk_n wk_0))))))))))) (hk109 _ hw)
def w_X1_value_181 (t : Nat) (k187 : PH → Prop) (k236 : PH → Prop) (Q : Int64 → PH → Prop) (kb : Int32 → Int32 → PH → Prop) (x7 : Int32) (x8 : Int32) (x10 : Int32) (h : PH) : Prop :=
  if 1 ≤ x7 then (vp_in (x7 + (-1)) 64 ∧ vp_in ((x7 + (-1)) + 1) 64 ∧ w_X1_joined x10 (gJ h (t + 2) (iN (x7 + (-1)))) (gJ h (t + 2) (iN ((x7 + (-1)) + 1))) h (fun z18 h17 => vp_in (x7 + (-1)) 64 ∧ ∀ h20, h20 = sJ h17 (t + 2) (iN (x7 + (-1))) z18 → vp_in (x7 + (-1)) 64 ∧ if (lg_cmp (gJ h20 (t + 2) (iN (x7 + (-1)))) (-9223372036854775808)) = 0 then (k236 h20) else (kb (x7 + (-1)) (x8 + 1) h20))) else (k187 h)
set_option maxRecDepth 8000 in
theorem b_X1_value_181 {D : va_G} {ca : Nat → ClassId} {ad : Nat → Nat} {K : Kt} {t : Nat} {k187 : PH → Prop} {k236 : PH → Prop} {kb : Int32 → Int32 → PH → Prop} {Q : Int64 → PH → Prop} {x7 : Int32} {x8 : Int32} {x10 : Int32} {h : PH} (C : CX (GX D ca ad) (XS (GX D ca ad)) cX1_value RX1 11 (some .long) 2 K) (ht : oX t 1) (hk187 : ∀ (h : PH), k187 h → PW (GX D ca ad) K 11 (qJ Q) h 187 [none, none, none, none, none, none, none, none, none, none, none] []) (hk236 : ∀ (h : PH), k236 h → PW (GX D ca ad) K 11 (qJ Q) h 236 [none, none, none, none, none, none, none, none, none, none, none] []) (hkb : ∀ (x7 : Int32) (x8 : Int32) (h : PH), kb x7 x8 h → PW (GX D ca ad) K 11 (qJ Q) h 57 [some (.ref t), none, none, none, none, none, none, some (.int x7), some (.int x8), none, none] []) (hw : w_X1_value_181 t k187 k236 Q kb x7 x8 x10 h) : PW (GX D ca ad) K 11 (qJ Q) h 181 [some (.ref t), none, none, none, none, none, none, some (.int x7), some (.int x8), none, some (.int x10)] [] := by
  unfold w_X1_value_181 at hw
  refine PW.ild7 C dX1_value_181 ?_
  refine PW.iconst (v := 1) C dX1_value_183 (by decide) ?_
  refine PW.icmp_ge (tgt := 191) C dX1_value_184 (by decide) (fun c => ?_) (fun c => ?_)
  · rw [if_pos c] at hw
    refine PW.inc7 (v := (-1)) C dX1_value_191 (by decide) rfl (by decide) ?_
    refine PW.ald0n C dX1_value_194 ?_
    refine PW.get0 C cf_1 fl_X1_17 (by decide) ht (fvR (o := 2) rfl) dX1_value_195 ?_
    refine PW.ild7 C dX1_value_198 ?_
    refine PW.ild10 C dX1_value_200 ?_
    refine PW.ald0n C dX1_value_202 ?_
    refine PW.get0 C cf_1 fl_X1_17 (by decide) ht (fvR (o := 2) rfl) dX1_value_203 ?_
    refine PW.ild7 C dX1_value_206 ?_
    obtain ⟨hc15, hw⟩ := hw
    refine PW.lald C dX1_value_208 (sf_1_1 ht) hc15 ?_
    refine PW.ald0n C dX1_value_209 ?_
    refine PW.get0 C cf_1 fl_X1_17 (by decide) ht (fvR (o := 2) rfl) dX1_value_210 ?_
    refine PW.ild7 C dX1_value_213 ?_
    refine PW.iconst (v := 1) C dX1_value_215 (by decide) ?_
    refine PW.iadd C dX1_value_216 ?_
    obtain ⟨hc16, hw⟩ := hw
    refine PW.lald C dX1_value_217 (sf_1_1 ht) hc16 ?_
    refine PW.callSJ3 C ms_X1_joined ml_X1_40 dX1_value_218 (Nat.le_of_ble_eq_true rfl) (by decide) (Nat.le_of_ble_eq_true rfl) (s_X1_joined hw) ?_
    clear hw
    intro z18 h17 hw
    obtain ⟨hc19, hw⟩ := hw
    replace hw := hw _ rfl
    refine PW.last C dX1_value_221 (sf_1_1 ht) hc19 ?_
    refine PW.ald0n C dX1_value_222 ?_
    refine PW.get0 C cf_1 fl_X1_17 (by decide) ht (fvR (o := 2) rfl) dX1_value_223 ?_
    refine PW.ild7 C dX1_value_226 ?_
    obtain ⟨hc21, hw⟩ := hw
    refine PW.lald C dX1_value_228 (sf_1_1 ht) hc21 ?_
    refine PW.ldc2 (v := (-9223372036854775808)) C cs_X1_38 dX1_value_229 ?_
    refine PW.lcmp C dX1_value_232 ?_
    refine PW.if_ne (tgt := 240) C dX1_value_233 (by decide) (fun c => ?_) (fun c => ?_)
    · rw [if_neg c] at hw
      refine PW.inc8 (v := 1) C dX1_value_240 (by decide) rfl (by decide) ?_
      refine PW.goto (tgt := 57) C dX1_value_243 (by decide) ?_
      exact PW.wk (wk_s (wk_n (wk_n (wk_n (wk_n (wk_n (wk_n (wk_s (wk_s (wk_n (wk_n wk_0))))))))))) (hkb _ _ _ hw)
    · rw [if_pos c] at hw
      exact PW.wk (wk_n (wk_n (wk_n (wk_n (wk_n (wk_n (wk_n (wk_n (wk_n (wk_n (wk_n wk_0))))))))))) (hk236 _ hw)
  · rw [if_neg c] at hw
    exact PW.wk (wk_n (wk_n (wk_n (wk_n (wk_n (wk_n (wk_n (wk_n (wk_n (wk_n (wk_n wk_0))))))))))) (hk187 _ hw)
def w_X1_value_57 (t : Nat) (k109 : PH → Prop) (k187 : PH → Prop) (k236 : PH → Prop) (k246 : Int32 → PH → Prop) (Q : Int64 → PH → Prop) (kb : Int32 → Int32 → PH → Prop) (x7 : Int32) (x8 : Int32) (h : PH) : Prop :=
  if (gI h t 3) ≤ x8 then (k246 x7 h) else (vp_in x8 64 ∧ ∀ (y8 : Int32), y8 = (gI h (t + 1) (iN x8)) → ∀ (y9 : Int32), y9 = ((-10) - y8) → if 0 ≤ y8 then (w_X1_value_92 t k109 Q kb x7 x8 y8 h) else (if 0 ≤ y9 then (if y9 = 2 then (if x7 < 0 then (w_X1_value_181 t k187 k236 Q kb x7 x8 y9 h) else (vp_in x7 64 ∧ if (lg_cmp (gJ h (t + 2) (iN x7)) 0) = 0 then (vp_in x7 64 ∧ ∀ h26, h26 = sJ h (t + 2) (iN x7) 1 → kb x7 (x8 + 1) h26) else (vp_in x7 64 ∧ ∀ h24, h24 = sJ h (t + 2) (iN x7) 0 → kb x7 (x8 + 1) h24))) else (w_X1_value_181 t k187 k236 Q kb x7 x8 y9 h)) else (w_X1_value_92 t k109 Q kb x7 x8 y8 h)))
set_option maxRecDepth 8000 in
theorem b_X1_value_57 {D : va_G} {ca : Nat → ClassId} {ad : Nat → Nat} {K : Kt} {t : Nat} {k109 : PH → Prop} {k187 : PH → Prop} {k236 : PH → Prop} {k246 : Int32 → PH → Prop} {kb : Int32 → Int32 → PH → Prop} {Q : Int64 → PH → Prop} {x7 : Int32} {x8 : Int32} {h : PH} (C : CX (GX D ca ad) (XS (GX D ca ad)) cX1_value RX1 11 (some .long) 2 K) (ht : oX t 1) (hk109 : ∀ (h : PH), k109 h → PW (GX D ca ad) K 11 (qJ Q) h 109 [none, none, none, none, none, none, none, none, none, none, none] []) (hk187 : ∀ (h : PH), k187 h → PW (GX D ca ad) K 11 (qJ Q) h 187 [none, none, none, none, none, none, none, none, none, none, none] []) (hk236 : ∀ (h : PH), k236 h → PW (GX D ca ad) K 11 (qJ Q) h 236 [none, none, none, none, none, none, none, none, none, none, none] []) (hk246 : ∀ (x7 : Int32) (h : PH), k246 x7 h → PW (GX D ca ad) K 11 (qJ Q) h 246 [some (.ref t), none, none, none, none, none, none, some (.int x7), none, none, none] []) (hkb : ∀ (x7 : Int32) (x8 : Int32) (h : PH), kb x7 x8 h → PW (GX D ca ad) K 11 (qJ Q) h 57 [some (.ref t), none, none, none, none, none, none, some (.int x7), some (.int x8), none, none] []) (hw : w_X1_value_57 t k109 k187 k236 k246 Q kb x7 x8 h) : PW (GX D ca ad) K 11 (qJ Q) h 57 [some (.ref t), none, none, none, none, none, none, some (.int x7), some (.int x8), none, none] [] := by
  unfold w_X1_value_57 at hw
  refine PW.ild8 C dX1_value_57 ?_
  refine PW.ald0n C dX1_value_59 ?_
  refine PW.get0 C cf_1 fl_X1_24 (by decide) ht (fvI rfl) dX1_value_60 ?_
  refine PW.icmp_ge (tgt := 246) C dX1_value_63 (by decide) (fun c => ?_) (fun c => ?_)
  · rw [if_pos c] at hw
    exact PW.wk (wk_s (wk_n (wk_n (wk_n (wk_n (wk_n (wk_n (wk_s (wk_n (wk_n (wk_n wk_0))))))))))) (hk246 _ _ hw)
  · rw [if_neg c] at hw
    refine PW.ald0n C dX1_value_66 ?_
    refine PW.get0 C cf_1 fl_X1_11 (by decide) ht (fvR (o := 1) rfl) dX1_value_67 ?_
    refine PW.ild8 C dX1_value_70 ?_
    obtain ⟨hc7, hw⟩ := hw
    refine PW.iald C dX1_value_72 (sf_1_0 ht) hc7 ?_
    replace hw := hw _ rfl
    refine PW.ist9 C dX1_value_73 (by decide) rfl ?_
    refine PW.bipush (v := (-10)) C dX1_value_75 (by decide) ?_
    refine PW.ild9 C dX1_value_77 ?_
    refine PW.isub C dX1_value_79 ?_
    replace hw := hw _ rfl
    refine PW.ist10 C dX1_value_80 (by decide) rfl ?_
    refine PW.ild9 C dX1_value_82 ?_
    refine PW.if_ge (tgt := 92) C dX1_value_84 (by decide) (fun c => ?_) (fun c => ?_)
    · rw [if_pos c] at hw
      exact PW.wk (wk_s (wk_n (wk_n (wk_n (wk_n (wk_n (wk_n (wk_s (wk_s (wk_s (wk_n wk_0))))))))))) (b_X1_value_92 C ht hk109 hkb hw)
    · rw [if_neg c] at hw
      refine PW.ild10 C dX1_value_87 ?_
      refine PW.if_ge (tgt := 143) C dX1_value_89 (by decide) (fun c => ?_) (fun c => ?_)
      · rw [if_pos c] at hw
        refine PW.ild10 C dX1_value_143 ?_
        refine PW.iconst (v := 2) C dX1_value_145 (by decide) ?_
        refine PW.icmp_ne (tgt := 181) C dX1_value_146 (by decide) (fun c => ?_) (fun c => ?_)
        · rw [if_neg c] at hw
          exact PW.wk (wk_s (wk_n (wk_n (wk_n (wk_n (wk_n (wk_n (wk_s (wk_s (wk_n (wk_s wk_0))))))))))) (b_X1_value_181 C ht hk187 hk236 hkb hw)
        · rw [if_pos c] at hw
          refine PW.ild7 C dX1_value_149 ?_
          refine PW.if_lt (tgt := 181) C dX1_value_151 (by decide) (fun c => ?_) (fun c => ?_)
          · rw [if_pos c] at hw
            exact PW.wk (wk_s (wk_n (wk_n (wk_n (wk_n (wk_n (wk_n (wk_s (wk_s (wk_n (wk_s wk_0))))))))))) (b_X1_value_181 C ht hk187 hk236 hkb hw)
          · rw [if_neg c] at hw
            refine PW.ald0n C dX1_value_154 ?_
            refine PW.get0 C cf_1 fl_X1_17 (by decide) ht (fvR (o := 2) rfl) dX1_value_155 ?_
            refine PW.ild7 C dX1_value_158 ?_
            refine PW.ald0n C dX1_value_160 ?_
            refine PW.get0 C cf_1 fl_X1_17 (by decide) ht (fvR (o := 2) rfl) dX1_value_161 ?_
            refine PW.ild7 C dX1_value_164 ?_
            obtain ⟨hc22, hw⟩ := hw
            refine PW.lald C dX1_value_166 (sf_1_1 ht) hc22 ?_
            refine PW.lconst (v := 0) C dX1_value_167 (by decide) ?_
            refine PW.lcmp C dX1_value_168 ?_
            refine PW.if_ne (tgt := 176) C dX1_value_169 (by decide) (fun c => ?_) (fun c => ?_)
            · rw [if_neg c] at hw
              refine PW.lconst (v := 0) C dX1_value_176 (by decide) ?_
              obtain ⟨hc23, hw⟩ := hw
              replace hw := hw _ rfl
              refine PW.last C dX1_value_177 (sf_1_1 ht) hc23 ?_
              refine PW.goto (tgt := 240) C dX1_value_178 (by decide) ?_
              refine PW.inc8 (v := 1) C dX1_value_240 (by decide) rfl (by decide) ?_
              refine PW.goto (tgt := 57) C dX1_value_243 (by decide) ?_
              exact PW.wk (wk_s (wk_n (wk_n (wk_n (wk_n (wk_n (wk_n (wk_s (wk_s (wk_n (wk_n wk_0))))))))))) (hkb _ _ _ hw)
            · rw [if_pos c] at hw
              refine PW.lconst (v := 1) C dX1_value_172 (by decide) ?_
              refine PW.goto (tgt := 177) C dX1_value_173 (by decide) ?_
              obtain ⟨hc25, hw⟩ := hw
              replace hw := hw _ rfl
              refine PW.last C dX1_value_177 (sf_1_1 ht) hc25 ?_
              refine PW.goto (tgt := 240) C dX1_value_178 (by decide) ?_
              refine PW.inc8 (v := 1) C dX1_value_240 (by decide) rfl (by decide) ?_
              refine PW.goto (tgt := 57) C dX1_value_243 (by decide) ?_
              exact PW.wk (wk_s (wk_n (wk_n (wk_n (wk_n (wk_n (wk_n (wk_s (wk_s (wk_n (wk_n wk_0))))))))))) (hkb _ _ _ hw)
      · rw [if_neg c] at hw
        exact PW.wk (wk_s (wk_n (wk_n (wk_n (wk_n (wk_n (wk_n (wk_s (wk_s (wk_s (wk_n wk_0))))))))))) (b_X1_value_92 C ht hk109 hkb hw)
theorem l_X1_value_57 {D : va_G} {ca : Nat → ClassId} {ad : Nat → Nat} {K : Kt} {t : Nat} {k109 : PH → Prop} {k187 : PH → Prop} {k236 : PH → Prop} {k246 : Int32 → PH → Prop} {Q : Int64 → PH → Prop} (C : CX (GX D ca ad) (XS (GX D ca ad)) cX1_value RX1 11 (some .long) 2 K) (ht : oX t 1) (hk109 : ∀ (h : PH), k109 h → PW (GX D ca ad) K 11 (qJ Q) h 109 [none, none, none, none, none, none, none, none, none, none, none] []) (hk187 : ∀ (h : PH), k187 h → PW (GX D ca ad) K 11 (qJ Q) h 187 [none, none, none, none, none, none, none, none, none, none, none] []) (hk236 : ∀ (h : PH), k236 h → PW (GX D ca ad) K 11 (qJ Q) h 236 [none, none, none, none, none, none, none, none, none, none, none] []) (hk246 : ∀ (x7 : Int32) (h : PH), k246 x7 h → PW (GX D ca ad) K 11 (qJ Q) h 246 [some (.ref t), none, none, none, none, none, none, some (.int x7), none, none, none] []) : ∀ (n : Nat) (x7 : Int32) (x8 : Int32) (h : PH), Lp2 (w_X1_value_57 t k109 k187 k236 k246 Q) n x7 x8 h → PW (GX D ca ad) K 11 (qJ Q) h 57 [some (.ref t), none, none, none, none, none, none, some (.int x7), some (.int x8), none, none] [] := by
  intro n
  induction n with
  | zero => intro x7 x8 h hw; exact hw.elim
  | succ n ih => intro x7 x8 h hw; exact b_X1_value_57 C ht hk109 hk187 hk236 hk246 (fun x7 x8 h hw => ih x7 x8 h hw) hw
def w_X1_value (t : Nat) (x1 : Int32) (x2 : Int32) (x3 : Int32) (x4 : Int32) (x5 : Int32) (x6 : Int32) (h : PH) (Q : Int64 → PH → Prop) : Prop :=
  ∀ h1, h1 = sJ h (t + 3) (iN 0) ((x1 : Int32).toInt64) → ∀ h2, h2 = sJ h1 (t + 3) (iN 1) ((x2 : Int32).toInt64) → ∀ h3, h3 = sJ h2 (t + 3) (iN 2) ((x3 : Int32).toInt64) → ∀ h4, h4 = sJ h3 (t + 3) (iN 3) ((x4 : Int32).toInt64) → ∀ h5, h5 = sJ h4 (t + 3) (iN 4) ((x5 : Int32).toInt64) → ∀ h6, h6 = sJ h5 (t + 3) (iN 5) ((x6 : Int32).toInt64) → ∃ n, Lp2 (w_X1_value_57 t (fun h27 => Q (-9223372036854775808) h27) (fun h28 => Q (-9223372036854775808) h28) (fun h29 => Q (-9223372036854775808) h29) (fun y31 h30 => if y31 = 0 then (Q (gJ h30 (t + 2) (iN 0)) h30) else (Q (-9223372036854775808) h30)) Q) n (-1) 0 h6
set_option maxRecDepth 8000 in
theorem s_X1_value {D : va_G} {ca : Nat → ClassId} {ad : Nat → Nat} {l : Launch} {t : Nat} {x1 : Int32} {x2 : Int32} {x3 : Int32} {x4 : Int32} {x5 : Int32} {x6 : Int32} {h : PH} {Q : Int64 → PH → Prop} (ht : oX t 1) (hw : w_X1_value t x1 x2 x3 x4 x5 x6 h Q) : Sp (GX D ca ad) (XS (GX D ca ad)) l 2 yX1_value cX1_value 11 (some .long) [.ref t, .int x1, .int x2, .int x3, .int x4, .int x5, .int x6] h (qJ Q) := by
  refine Sp.of (own := RX1) [some (.ref t), some (.int x1), some (.int x2), some (.int x3), some (.int x4), some (.int x5), some (.int x6), none, none, none, none] (by decide +kernel) rfl rfl (Nat.le_of_ble_eq_true rfl) (fun K hl C => ?_)
  subst hl
  unfold w_X1_value at hw
  refine PW.ald0n C dX1_value_0 ?_
  refine PW.get0 C cf_1 fl_X1_21 (by decide) ht (fvR (o := 3) rfl) dX1_value_1 ?_
  refine PW.iconst (v := 0) C dX1_value_4 (by decide) ?_
  refine PW.ild1n C dX1_value_5 ?_
  refine PW.i2l C dX1_value_6 ?_
  replace hw := hw _ rfl
  refine PW.last C dX1_value_7 (sf_1_2 ht) (vpl (by decide)) ?_
  refine PW.ald0n C dX1_value_8 ?_
  refine PW.get0 C cf_1 fl_X1_21 (by decide) ht (fvR (o := 3) rfl) dX1_value_9 ?_
  refine PW.iconst (v := 1) C dX1_value_12 (by decide) ?_
  refine PW.ild2n C dX1_value_13 ?_
  refine PW.i2l C dX1_value_14 ?_
  replace hw := hw _ rfl
  refine PW.last C dX1_value_15 (sf_1_2 ht) (vpl (by decide)) ?_
  refine PW.ald0n C dX1_value_16 ?_
  refine PW.get0 C cf_1 fl_X1_21 (by decide) ht (fvR (o := 3) rfl) dX1_value_17 ?_
  refine PW.iconst (v := 2) C dX1_value_20 (by decide) ?_
  refine PW.ild3n C dX1_value_21 ?_
  refine PW.i2l C dX1_value_22 ?_
  replace hw := hw _ rfl
  refine PW.last C dX1_value_23 (sf_1_2 ht) (vpl (by decide)) ?_
  refine PW.ald0n C dX1_value_24 ?_
  refine PW.get0 C cf_1 fl_X1_21 (by decide) ht (fvR (o := 3) rfl) dX1_value_25 ?_
  refine PW.iconst (v := 3) C dX1_value_28 (by decide) ?_
  refine PW.ild4 C dX1_value_29 ?_
  refine PW.i2l C dX1_value_31 ?_
  replace hw := hw _ rfl
  refine PW.last C dX1_value_32 (sf_1_2 ht) (vpl (by decide)) ?_
  refine PW.ald0n C dX1_value_33 ?_
  refine PW.get0 C cf_1 fl_X1_21 (by decide) ht (fvR (o := 3) rfl) dX1_value_34 ?_
  refine PW.iconst (v := 4) C dX1_value_37 (by decide) ?_
  refine PW.ild5 C dX1_value_38 ?_
  refine PW.i2l C dX1_value_40 ?_
  replace hw := hw _ rfl
  refine PW.last C dX1_value_41 (sf_1_2 ht) (vpl (by decide)) ?_
  refine PW.ald0n C dX1_value_42 ?_
  refine PW.get0 C cf_1 fl_X1_21 (by decide) ht (fvR (o := 3) rfl) dX1_value_43 ?_
  refine PW.iconst (v := 5) C dX1_value_46 (by decide) ?_
  refine PW.ild6 C dX1_value_47 ?_
  refine PW.i2l C dX1_value_49 ?_
  replace hw := hw _ rfl
  refine PW.last C dX1_value_50 (sf_1_2 ht) (vpl (by decide)) ?_
  refine PW.iconst (v := (-1)) C dX1_value_51 (by decide) ?_
  refine PW.ist7 C dX1_value_52 (by decide) rfl ?_
  refine PW.iconst (v := 0) C dX1_value_54 (by decide) ?_
  refine PW.ist8 C dX1_value_55 (by decide) rfl ?_
  obtain ⟨n, hw⟩ := hw
  refine PW.wk (wk_s (wk_n (wk_n (wk_n (wk_n (wk_n (wk_n (wk_s (wk_s (wk_n (wk_n wk_0))))))))))) (l_X1_value_57 C ht ?_ ?_ ?_ ?_ n _ _ _ hw)
  · intro h27 hw
    refine PW.ldc2 (v := (-9223372036854775808)) C cs_X1_38 dX1_value_109 ?_
    exact PW.lret C dX1_value_112 ⟨_, rfl, hw⟩
  · intro h28 hw
    refine PW.ldc2 (v := (-9223372036854775808)) C cs_X1_38 dX1_value_187 ?_
    exact PW.lret C dX1_value_190 ⟨_, rfl, hw⟩
  · intro h29 hw
    refine PW.ldc2 (v := (-9223372036854775808)) C cs_X1_38 dX1_value_236 ?_
    exact PW.lret C dX1_value_239 ⟨_, rfl, hw⟩
  · intro y31 h30 hw
    refine PW.ild7 C dX1_value_246 ?_
    refine PW.if_ne (tgt := 260) C dX1_value_248 (by decide) (fun c => ?_) (fun c => ?_)
    · rw [if_neg c] at hw
      refine PW.ldc2 (v := (-9223372036854775808)) C cs_X1_38 dX1_value_260 ?_
      exact PW.lret C dX1_value_263 ⟨_, rfl, hw⟩
    · rw [if_pos c] at hw
      refine PW.ald0n C dX1_value_251 ?_
      refine PW.get0 C cf_1 fl_X1_17 (by decide) ht (fvR (o := 2) rfl) dX1_value_252 ?_
      refine PW.iconst (v := 0) C dX1_value_255 (by decide) ?_
      refine PW.lald C dX1_value_256 (sf_1_1 ht) (vpl (by decide)) ?_
      refine PW.goto (tgt := 263) C dX1_value_257 (by decide) ?_
      exact PW.lret C dX1_value_263 ⟨_, rfl, hw⟩
def w_X8_clear (t : Nat) (h : PH) (Q : PH → Prop) : Prop :=
  w_X6_clear (t + 1) h (fun h1 => w_X6_clear (t + 3) h1 (fun h2 => w_X6_clear (t + 5) h2 (fun h3 => w_X6_clear (t + 7) h3 (fun h4 => w_X6_clear (t + 9) h4 (fun h5 => w_X6_clear (t + 11) h5 (fun h6 => w_X6_clear (t + 13) h6 (fun h7 => w_X1_clear (t + 15) h7 (fun h8 => w_X1_clear (t + 19) h8 (fun h9 => ∀ h10, h10 = sI h9 t 9 5 → ∀ h11, h11 = sI h10 t 10 1 → ∀ h12, h12 = sI h11 t 11 0 → ∀ h13, h13 = sI h12 t 12 0 → Q h13)))))))))
set_option maxRecDepth 8000 in
theorem s_X8_clear {D : va_G} {ca : Nat → ClassId} {ad : Nat → Nat} {l : Launch} {t : Nat} {h : PH} {Q : PH → Prop} (ht : oX t 8) (hw : w_X8_clear t h Q) : Sp (GX D ca ad) (XS (GX D ca ad)) l 2 yX8_clear cX8_clear 1 none [.ref t] h (qV Q) := by
  refine Sp.of (own := RX8) [some (.ref t)] (by decide +kernel) rfl rfl (Nat.le_of_ble_eq_true rfl) (fun K hl C => ?_)
  subst hl
  unfold w_X8_clear at hw
  refine PW.ald0n C dX8_clear_0 ?_
  refine PW.get0 C cf_8 fl_X8_14 (by decide) ht (fvR (o := 1) rfl) dX8_clear_1 ?_
  refine PW.callVV0 C ms_X6_clear ml_X8_55 dX8_clear_4 (sf_8_0 ht) ⟨_, _, rfl⟩ (Nat.le_of_ble_eq_true rfl) (by decide) (Nat.le_of_ble_eq_true rfl) (s_X6_clear (sf_8_0 ht) hw) ?_
  clear hw
  intro h1 hw
  refine PW.ald0n C dX8_clear_7 ?_
  refine PW.get0 C cf_8 fl_X8_20 (by decide) ht (fvR (o := 3) rfl) dX8_clear_8 ?_
  refine PW.callVV0 C ms_X6_clear ml_X8_55 dX8_clear_11 (sf_8_1 ht) ⟨_, _, rfl⟩ (Nat.le_of_ble_eq_true rfl) (by decide) (Nat.le_of_ble_eq_true rfl) (s_X6_clear (sf_8_1 ht) hw) ?_
  clear hw
  intro h2 hw
  refine PW.ald0n C dX8_clear_14 ?_
  refine PW.get0 C cf_8 fl_X8_23 (by decide) ht (fvR (o := 5) rfl) dX8_clear_15 ?_
  refine PW.callVV0 C ms_X6_clear ml_X8_55 dX8_clear_18 (sf_8_2 ht) ⟨_, _, rfl⟩ (Nat.le_of_ble_eq_true rfl) (by decide) (Nat.le_of_ble_eq_true rfl) (s_X6_clear (sf_8_2 ht) hw) ?_
  clear hw
  intro h3 hw
  refine PW.ald0n C dX8_clear_21 ?_
  refine PW.get0 C cf_8 fl_X8_26 (by decide) ht (fvR (o := 7) rfl) dX8_clear_22 ?_
  refine PW.callVV0 C ms_X6_clear ml_X8_55 dX8_clear_25 (sf_8_3 ht) ⟨_, _, rfl⟩ (Nat.le_of_ble_eq_true rfl) (by decide) (Nat.le_of_ble_eq_true rfl) (s_X6_clear (sf_8_3 ht) hw) ?_
  clear hw
  intro h4 hw
  refine PW.ald0n C dX8_clear_28 ?_
  refine PW.get0 C cf_8 fl_X8_29 (by decide) ht (fvR (o := 9) rfl) dX8_clear_29 ?_
  refine PW.callVV0 C ms_X6_clear ml_X8_55 dX8_clear_32 (sf_8_4 ht) ⟨_, _, rfl⟩ (Nat.le_of_ble_eq_true rfl) (by decide) (Nat.le_of_ble_eq_true rfl) (s_X6_clear (sf_8_4 ht) hw) ?_
  clear hw
  intro h5 hw
  refine PW.ald0n C dX8_clear_35 ?_
  refine PW.get0 C cf_8 fl_X8_32 (by decide) ht (fvR (o := 11) rfl) dX8_clear_36 ?_
  refine PW.callVV0 C ms_X6_clear ml_X8_55 dX8_clear_39 (sf_8_5 ht) ⟨_, _, rfl⟩ (Nat.le_of_ble_eq_true rfl) (by decide) (Nat.le_of_ble_eq_true rfl) (s_X6_clear (sf_8_5 ht) hw) ?_
  clear hw
  intro h6 hw
  refine PW.ald0n C dX8_clear_42 ?_
  refine PW.get0 C cf_8 fl_X8_35 (by decide) ht (fvR (o := 13) rfl) dX8_clear_43 ?_
  refine PW.callVV0 C ms_X6_clear ml_X8_55 dX8_clear_46 (sf_8_6 ht) ⟨_, _, rfl⟩ (Nat.le_of_ble_eq_true rfl) (by decide) (Nat.le_of_ble_eq_true rfl) (s_X6_clear (sf_8_6 ht) hw) ?_
  clear hw
  intro h7 hw
  refine PW.ald0n C dX8_clear_49 ?_
  refine PW.get0 C cf_8 fl_X8_41 (by decide) ht (fvR (o := 15) rfl) dX8_clear_50 ?_
  refine PW.callVV0 C ms_X1_clear ml_X8_58 dX8_clear_53 (sf_8_7 ht) ⟨_, _, rfl⟩ (Nat.le_of_ble_eq_true rfl) (by decide) (Nat.le_of_ble_eq_true rfl) (s_X1_clear (sf_8_7 ht) hw) ?_
  clear hw
  intro h8 hw
  refine PW.ald0n C dX8_clear_56 ?_
  refine PW.get0 C cf_8 fl_X8_45 (by decide) ht (fvR (o := 19) rfl) dX8_clear_57 ?_
  refine PW.callVV0 C ms_X1_clear ml_X8_58 dX8_clear_60 (sf_8_8 ht) ⟨_, _, rfl⟩ (Nat.le_of_ble_eq_true rfl) (by decide) (Nat.le_of_ble_eq_true rfl) (s_X1_clear (sf_8_8 ht) hw) ?_
  clear hw
  intro h9 hw
  refine PW.ald0n C dX8_clear_63 ?_
  refine PW.iconst (v := 5) C dX8_clear_64 (by decide) ?_
  replace hw := hw _ rfl
  refine PW.put0 C cf_8 fl_X8_48 (by decide) ht rfl rfl rfl (pw_sI ht (by decide) rfl) dX8_clear_65 ?_
  refine PW.ald0n C dX8_clear_68 ?_
  refine PW.iconst (v := 1) C dX8_clear_69 (by decide) ?_
  replace hw := hw _ rfl
  refine PW.put0 C cf_8 fl_X8_52 (by decide) ht rfl rfl rfl (pw_sI ht (by decide) rfl) dX8_clear_70 ?_
  refine PW.ald0n C dX8_clear_73 ?_
  refine PW.iconst (v := 0) C dX8_clear_74 (by decide) ?_
  replace hw := hw _ rfl
  refine PW.put0 C cf_8 fl_X8_59 (by decide) ht rfl rfl rfl (pw_sI ht (by decide) rfl) dX8_clear_75 ?_
  refine PW.ald0n C dX8_clear_78 ?_
  refine PW.iconst (v := 0) C dX8_clear_79 (by decide) ?_
  replace hw := hw _ rfl
  refine PW.put0 C cf_8 fl_X8_62 (by decide) ht rfl rfl rfl (pw_sI ht (by decide) rfl) dX8_clear_80 ?_
  exact PW.vret C dX8_clear_83 ⟨rfl, hw⟩
def w_X8_copyFrom (t : Nat) (r1 : Nat) (h : PH) (Q : PH → Prop) : Prop :=
  w_X6_copyFrom (t + 1) (r1 + 1) h (fun h1 => w_X6_copyFrom (t + 3) (r1 + 3) h1 (fun h2 => w_X6_copyFrom (t + 5) (r1 + 5) h2 (fun h3 => w_X6_copyFrom (t + 7) (r1 + 7) h3 (fun h4 => w_X6_copyFrom (t + 9) (r1 + 9) h4 (fun h5 => w_X6_copyFrom (t + 11) (r1 + 11) h5 (fun h6 => w_X6_copyFrom (t + 13) (r1 + 13) h6 (fun h7 => w_X1_copyFrom (t + 15) (r1 + 15) h7 (fun h8 => w_X1_copyFrom (t + 19) (r1 + 19) h8 (fun h9 => ∀ h10, h10 = sI h9 t 9 (gI h9 r1 9) → ∀ h11, h11 = sI h10 t 10 (gI h10 r1 10) → ∀ h12, h12 = sI h11 t 11 (gI h11 r1 11) → ∀ h13, h13 = sI h12 t 12 (gI h12 r1 12) → Q h13)))))))))
set_option maxRecDepth 8000 in
theorem s_X8_copyFrom {D : va_G} {ca : Nat → ClassId} {ad : Nat → Nat} {l : Launch} {t : Nat} {r1 : Nat} {h : PH} {Q : PH → Prop} (ht : oX t 8) (hr1 : oX r1 8) (hw : w_X8_copyFrom t r1 h Q) : Sp (GX D ca ad) (XS (GX D ca ad)) l 2 yX8_copyFrom cX8_copyFrom 2 none [.ref t, .ref r1] h (qV Q) := by
  refine Sp.of (own := RX8) [some (.ref t), some (.ref r1)] (by decide +kernel) rfl rfl (Nat.le_of_ble_eq_true rfl) (fun K hl C => ?_)
  subst hl
  unfold w_X8_copyFrom at hw
  refine PW.ald0n C dX8_copyFrom_0 ?_
  refine PW.get0 C cf_8 fl_X8_14 (by decide) ht (fvR (o := 1) rfl) dX8_copyFrom_1 ?_
  refine PW.ald1n C dX8_copyFrom_4 ?_
  refine PW.get0 C cf_8 fl_X8_14 (by decide) hr1 (fvR (o := 1) rfl) dX8_copyFrom_5 ?_
  refine PW.callVV1 C ms_X6_copyFrom ml_X8_65 dX8_copyFrom_8 (sf_8_0 ht) ⟨_, _, rfl⟩ (Nat.le_of_ble_eq_true rfl) (by decide) (Nat.le_of_ble_eq_true rfl) (s_X6_copyFrom (sf_8_0 ht) (sf_8_0 hr1) hw) ?_
  clear hw
  intro h1 hw
  refine PW.ald0n C dX8_copyFrom_11 ?_
  refine PW.get0 C cf_8 fl_X8_20 (by decide) ht (fvR (o := 3) rfl) dX8_copyFrom_12 ?_
  refine PW.ald1n C dX8_copyFrom_15 ?_
  refine PW.get0 C cf_8 fl_X8_20 (by decide) hr1 (fvR (o := 3) rfl) dX8_copyFrom_16 ?_
  refine PW.callVV1 C ms_X6_copyFrom ml_X8_65 dX8_copyFrom_19 (sf_8_1 ht) ⟨_, _, rfl⟩ (Nat.le_of_ble_eq_true rfl) (by decide) (Nat.le_of_ble_eq_true rfl) (s_X6_copyFrom (sf_8_1 ht) (sf_8_1 hr1) hw) ?_
  clear hw
  intro h2 hw
  refine PW.ald0n C dX8_copyFrom_22 ?_
  refine PW.get0 C cf_8 fl_X8_23 (by decide) ht (fvR (o := 5) rfl) dX8_copyFrom_23 ?_
  refine PW.ald1n C dX8_copyFrom_26 ?_
  refine PW.get0 C cf_8 fl_X8_23 (by decide) hr1 (fvR (o := 5) rfl) dX8_copyFrom_27 ?_
  refine PW.callVV1 C ms_X6_copyFrom ml_X8_65 dX8_copyFrom_30 (sf_8_2 ht) ⟨_, _, rfl⟩ (Nat.le_of_ble_eq_true rfl) (by decide) (Nat.le_of_ble_eq_true rfl) (s_X6_copyFrom (sf_8_2 ht) (sf_8_2 hr1) hw) ?_
  clear hw
  intro h3 hw
  refine PW.ald0n C dX8_copyFrom_33 ?_
  refine PW.get0 C cf_8 fl_X8_26 (by decide) ht (fvR (o := 7) rfl) dX8_copyFrom_34 ?_
  refine PW.ald1n C dX8_copyFrom_37 ?_
  refine PW.get0 C cf_8 fl_X8_26 (by decide) hr1 (fvR (o := 7) rfl) dX8_copyFrom_38 ?_
  refine PW.callVV1 C ms_X6_copyFrom ml_X8_65 dX8_copyFrom_41 (sf_8_3 ht) ⟨_, _, rfl⟩ (Nat.le_of_ble_eq_true rfl) (by decide) (Nat.le_of_ble_eq_true rfl) (s_X6_copyFrom (sf_8_3 ht) (sf_8_3 hr1) hw) ?_
  clear hw
  intro h4 hw
  refine PW.ald0n C dX8_copyFrom_44 ?_
  refine PW.get0 C cf_8 fl_X8_29 (by decide) ht (fvR (o := 9) rfl) dX8_copyFrom_45 ?_
  refine PW.ald1n C dX8_copyFrom_48 ?_
  refine PW.get0 C cf_8 fl_X8_29 (by decide) hr1 (fvR (o := 9) rfl) dX8_copyFrom_49 ?_
  refine PW.callVV1 C ms_X6_copyFrom ml_X8_65 dX8_copyFrom_52 (sf_8_4 ht) ⟨_, _, rfl⟩ (Nat.le_of_ble_eq_true rfl) (by decide) (Nat.le_of_ble_eq_true rfl) (s_X6_copyFrom (sf_8_4 ht) (sf_8_4 hr1) hw) ?_
  clear hw
  intro h5 hw
  refine PW.ald0n C dX8_copyFrom_55 ?_
  refine PW.get0 C cf_8 fl_X8_32 (by decide) ht (fvR (o := 11) rfl) dX8_copyFrom_56 ?_
  refine PW.ald1n C dX8_copyFrom_59 ?_
  refine PW.get0 C cf_8 fl_X8_32 (by decide) hr1 (fvR (o := 11) rfl) dX8_copyFrom_60 ?_
  refine PW.callVV1 C ms_X6_copyFrom ml_X8_65 dX8_copyFrom_63 (sf_8_5 ht) ⟨_, _, rfl⟩ (Nat.le_of_ble_eq_true rfl) (by decide) (Nat.le_of_ble_eq_true rfl) (s_X6_copyFrom (sf_8_5 ht) (sf_8_5 hr1) hw) ?_
  clear hw
  intro h6 hw
  refine PW.ald0n C dX8_copyFrom_66 ?_
  refine PW.get0 C cf_8 fl_X8_35 (by decide) ht (fvR (o := 13) rfl) dX8_copyFrom_67 ?_
  refine PW.ald1n C dX8_copyFrom_70 ?_
  refine PW.get0 C cf_8 fl_X8_35 (by decide) hr1 (fvR (o := 13) rfl) dX8_copyFrom_71 ?_
  refine PW.callVV1 C ms_X6_copyFrom ml_X8_65 dX8_copyFrom_74 (sf_8_6 ht) ⟨_, _, rfl⟩ (Nat.le_of_ble_eq_true rfl) (by decide) (Nat.le_of_ble_eq_true rfl) (s_X6_copyFrom (sf_8_6 ht) (sf_8_6 hr1) hw) ?_
  clear hw
  intro h7 hw
  refine PW.ald0n C dX8_copyFrom_77 ?_
  refine PW.get0 C cf_8 fl_X8_41 (by decide) ht (fvR (o := 15) rfl) dX8_copyFrom_78 ?_
  refine PW.ald1n C dX8_copyFrom_81 ?_
  refine PW.get0 C cf_8 fl_X8_41 (by decide) hr1 (fvR (o := 15) rfl) dX8_copyFrom_82 ?_
  refine PW.callVV1 C ms_X1_copyFrom ml_X8_69 dX8_copyFrom_85 (sf_8_7 ht) ⟨_, _, rfl⟩ (Nat.le_of_ble_eq_true rfl) (by decide) (Nat.le_of_ble_eq_true rfl) (s_X1_copyFrom (sf_8_7 ht) (sf_8_7 hr1) hw) ?_
  clear hw
  intro h8 hw
  refine PW.ald0n C dX8_copyFrom_88 ?_
  refine PW.get0 C cf_8 fl_X8_45 (by decide) ht (fvR (o := 19) rfl) dX8_copyFrom_89 ?_
  refine PW.ald1n C dX8_copyFrom_92 ?_
  refine PW.get0 C cf_8 fl_X8_45 (by decide) hr1 (fvR (o := 19) rfl) dX8_copyFrom_93 ?_
  refine PW.callVV1 C ms_X1_copyFrom ml_X8_69 dX8_copyFrom_96 (sf_8_8 ht) ⟨_, _, rfl⟩ (Nat.le_of_ble_eq_true rfl) (by decide) (Nat.le_of_ble_eq_true rfl) (s_X1_copyFrom (sf_8_8 ht) (sf_8_8 hr1) hw) ?_
  clear hw
  intro h9 hw
  refine PW.ald0n C dX8_copyFrom_99 ?_
  refine PW.ald1n C dX8_copyFrom_100 ?_
  refine PW.get0 C cf_8 fl_X8_48 (by decide) hr1 (fvI rfl) dX8_copyFrom_101 ?_
  replace hw := hw _ rfl
  refine PW.put0 C cf_8 fl_X8_48 (by decide) ht rfl rfl rfl (pw_sI ht (by decide) rfl) dX8_copyFrom_104 ?_
  refine PW.ald0n C dX8_copyFrom_107 ?_
  refine PW.ald1n C dX8_copyFrom_108 ?_
  refine PW.get0 C cf_8 fl_X8_52 (by decide) hr1 (fvI rfl) dX8_copyFrom_109 ?_
  replace hw := hw _ rfl
  refine PW.put0 C cf_8 fl_X8_52 (by decide) ht rfl rfl rfl (pw_sI ht (by decide) rfl) dX8_copyFrom_112 ?_
  refine PW.ald0n C dX8_copyFrom_115 ?_
  refine PW.ald1n C dX8_copyFrom_116 ?_
  refine PW.get0 C cf_8 fl_X8_59 (by decide) hr1 (fvI rfl) dX8_copyFrom_117 ?_
  replace hw := hw _ rfl
  refine PW.put0 C cf_8 fl_X8_59 (by decide) ht rfl rfl rfl (pw_sI ht (by decide) rfl) dX8_copyFrom_120 ?_
  refine PW.ald0n C dX8_copyFrom_123 ?_
  refine PW.ald1n C dX8_copyFrom_124 ?_
  refine PW.get0 C cf_8 fl_X8_62 (by decide) hr1 (fvI rfl) dX8_copyFrom_125 ?_
  replace hw := hw _ rfl
  refine PW.put0 C cf_8 fl_X8_62 (by decide) ht rfl rfl rfl (pw_sI ht (by decide) rfl) dX8_copyFrom_128 ?_
  exact PW.vret C dX8_copyFrom_131 ⟨rfl, hw⟩
def w_X8_dogs_4 (t : Nat) (k39 : Int32 → PH → Prop) (Q : Int32 → PH → Prop) (kb : Int32 → Int32 → PH → Prop) (x1 : Int32) (x2 : Int32) (h : PH) : Prop :=
  if (gI h (t + 1) 3) ≤ x2 then (k39 x1 h) else (w_X6_at (t + 1) x2 1 h (fun z2 h1 => if z2 ≤ 0 then (kb x1 (x2 + 1) h1) else (∀ (y3 : Int32), y3 = (x1 ||| ((1 : Int32) <<< ((x2 : Int32) &&& 31))) → kb y3 (x2 + 1) h1)))
set_option maxRecDepth 8000 in
theorem b_X8_dogs_4 {D : va_G} {ca : Nat → ClassId} {ad : Nat → Nat} {K : Kt} {t : Nat} {k39 : Int32 → PH → Prop} {kb : Int32 → Int32 → PH → Prop} {Q : Int32 → PH → Prop} {x1 : Int32} {x2 : Int32} {h : PH} (C : CX (GX D ca ad) (XS (GX D ca ad)) cX8_dogs RX8 3 (some .int) 3 K) (ht : oX t 8) (hk39 : ∀ (x1 : Int32) (h : PH), k39 x1 h → PW (GX D ca ad) K 3 (qI Q) h 39 [none, some (.int x1), none] []) (hkb : ∀ (x1 : Int32) (x2 : Int32) (h : PH), kb x1 x2 h → PW (GX D ca ad) K 3 (qI Q) h 4 [some (.ref t), some (.int x1), some (.int x2)] []) (hw : w_X8_dogs_4 t k39 Q kb x1 x2 h) : PW (GX D ca ad) K 3 (qI Q) h 4 [some (.ref t), some (.int x1), some (.int x2)] [] := by
  unfold w_X8_dogs_4 at hw
  refine PW.ild2n C dX8_dogs_4 ?_
  refine PW.ald0n C dX8_dogs_5 ?_
  refine PW.get0 C cf_8 fl_X8_14 (by decide) ht (fvR (o := 1) rfl) dX8_dogs_6 ?_
  refine PW.getN0 C cf_6 fl_X8_72 (by decide) (sf_8_0 ht) (fvI rfl) dX8_dogs_9 ?_
  refine PW.icmp_ge (tgt := 39) C dX8_dogs_12 (by decide) (fun c => ?_) (fun c => ?_)
  · rw [if_pos c] at hw
    exact PW.wk (wk_n (wk_s (wk_n wk_0))) (hk39 _ _ hw)
  · rw [if_neg c] at hw
    refine PW.ald0n C dX8_dogs_15 ?_
    refine PW.get0 C cf_8 fl_X8_14 (by decide) ht (fvR (o := 1) rfl) dX8_dogs_16 ?_
    refine PW.ild2n C dX8_dogs_19 ?_
    refine PW.iconst (v := 1) C dX8_dogs_20 (by decide) ?_
    refine PW.callVI2 C ms_X6_at ml_X8_75 dX8_dogs_21 (sf_8_0 ht) ⟨_, _, rfl⟩ (Nat.le_of_ble_eq_true rfl) (by decide) (Nat.le_of_ble_eq_true rfl) (s_X6_at (sf_8_0 ht) hw) ?_
    clear hw
    intro z2 h1 hw
    refine PW.if_le (tgt := 33) C dX8_dogs_24 (by decide) (fun c => ?_) (fun c => ?_)
    · rw [if_pos c] at hw
      refine PW.inc2 (v := 1) C dX8_dogs_33 (by decide) rfl (by decide) ?_
      refine PW.goto (tgt := 4) C dX8_dogs_36 (by decide) ?_
      exact PW.wk (wk_s (wk_s (wk_s wk_0))) (hkb _ _ _ hw)
    · rw [if_neg c] at hw
      refine PW.ild1n C dX8_dogs_27 ?_
      refine PW.iconst (v := 1) C dX8_dogs_28 (by decide) ?_
      refine PW.ild2n C dX8_dogs_29 ?_
      refine PW.ishl C dX8_dogs_30 ?_
      refine PW.ior C dX8_dogs_31 ?_
      replace hw := hw _ rfl
      refine PW.ist1n C dX8_dogs_32 (by decide) rfl ?_
      refine PW.inc2 (v := 1) C dX8_dogs_33 (by decide) rfl (by decide) ?_
      refine PW.goto (tgt := 4) C dX8_dogs_36 (by decide) ?_
      exact PW.wk (wk_s (wk_s (wk_s wk_0))) (hkb _ _ _ hw)
theorem l_X8_dogs_4 {D : va_G} {ca : Nat → ClassId} {ad : Nat → Nat} {K : Kt} {t : Nat} {k39 : Int32 → PH → Prop} {Q : Int32 → PH → Prop} (C : CX (GX D ca ad) (XS (GX D ca ad)) cX8_dogs RX8 3 (some .int) 3 K) (ht : oX t 8) (hk39 : ∀ (x1 : Int32) (h : PH), k39 x1 h → PW (GX D ca ad) K 3 (qI Q) h 39 [none, some (.int x1), none] []) : ∀ (n : Nat) (x1 : Int32) (x2 : Int32) (h : PH), Lp2 (w_X8_dogs_4 t k39 Q) n x1 x2 h → PW (GX D ca ad) K 3 (qI Q) h 4 [some (.ref t), some (.int x1), some (.int x2)] [] := by
  intro n
  induction n with
  | zero => intro x1 x2 h hw; exact hw.elim
  | succ n ih => intro x1 x2 h hw; exact b_X8_dogs_4 C ht hk39 (fun x1 x2 h hw => ih x1 x2 h hw) hw
def w_X8_dogs (t : Nat) (h : PH) (Q : Int32 → PH → Prop) : Prop :=
  ∃ n, Lp2 (w_X8_dogs_4 t (fun y5 h4 => Q y5 h4) Q) n 0 0 h
set_option maxRecDepth 8000 in
theorem s_X8_dogs {D : va_G} {ca : Nat → ClassId} {ad : Nat → Nat} {l : Launch} {t : Nat} {h : PH} {Q : Int32 → PH → Prop} (ht : oX t 8) (hw : w_X8_dogs t h Q) : Sp (GX D ca ad) (XS (GX D ca ad)) l 3 yX8_dogs cX8_dogs 3 (some .int) [.ref t] h (qI Q) := by
  refine Sp.of (own := RX8) [some (.ref t), none, none] (by decide +kernel) rfl rfl (Nat.le_of_ble_eq_true rfl) (fun K hl C => ?_)
  subst hl
  unfold w_X8_dogs at hw
  refine PW.iconst (v := 0) C dX8_dogs_0 (by decide) ?_
  refine PW.ist1n C dX8_dogs_1 (by decide) rfl ?_
  refine PW.iconst (v := 0) C dX8_dogs_2 (by decide) ?_
  refine PW.ist2n C dX8_dogs_3 (by decide) rfl ?_
  obtain ⟨n, hw⟩ := hw
  refine PW.wk (wk_s (wk_s (wk_s wk_0))) (l_X8_dogs_4 C ht ?_ n _ _ _ hw)
  · intro y5 h4 hw
    refine PW.ild1n C dX8_dogs_39 ?_
    exact PW.iret C dX8_dogs_40 ⟨_, rfl, hw⟩
def w_X8_pay (t : Nat) (x1 : Int32) (x2 : Int32) (x3 : Int32) (h : PH) (Q : PH → Prop) : Prop :=
  w_X6_at (t + 5) x1 1 h (fun z2 h1 => w_X6_put (t + 5) x1 1 (z2 - x3) h1 (fun h3 => w_X6_at (t + 5) x2 1 h3 (fun z5 h4 => w_X6_put (t + 5) x2 1 (z5 + x3) h4 (fun h6 => Q h6))))
set_option maxRecDepth 8000 in
theorem s_X8_pay {D : va_G} {ca : Nat → ClassId} {ad : Nat → Nat} {l : Launch} {t : Nat} {x1 : Int32} {x2 : Int32} {x3 : Int32} {h : PH} {Q : PH → Prop} (ht : oX t 8) (hw : w_X8_pay t x1 x2 x3 h Q) : Sp (GX D ca ad) (XS (GX D ca ad)) l 3 yX8_pay cX8_pay 4 none [.ref t, .int x1, .int x2, .int x3] h (qV Q) := by
  refine Sp.of (own := RX8) [some (.ref t), some (.int x1), some (.int x2), some (.int x3)] (by decide +kernel) rfl rfl (Nat.le_of_ble_eq_true rfl) (fun K hl C => ?_)
  subst hl
  unfold w_X8_pay at hw
  refine PW.ald0n C dX8_pay_0 ?_
  refine PW.get0 C cf_8 fl_X8_23 (by decide) ht (fvR (o := 5) rfl) dX8_pay_1 ?_
  refine PW.ild1n C dX8_pay_4 ?_
  refine PW.iconst (v := 1) C dX8_pay_5 (by decide) ?_
  refine PW.ald0n C dX8_pay_6 ?_
  refine PW.get0 C cf_8 fl_X8_23 (by decide) ht (fvR (o := 5) rfl) dX8_pay_7 ?_
  refine PW.ild1n C dX8_pay_10 ?_
  refine PW.iconst (v := 1) C dX8_pay_11 (by decide) ?_
  refine PW.callVI2 C ms_X6_at ml_X8_75 dX8_pay_12 (sf_8_2 ht) ⟨_, _, rfl⟩ (Nat.le_of_ble_eq_true rfl) (by decide) (Nat.le_of_ble_eq_true rfl) (s_X6_at (sf_8_2 ht) hw) ?_
  clear hw
  intro z2 h1 hw
  refine PW.ild3n C dX8_pay_15 ?_
  refine PW.isub C dX8_pay_16 ?_
  refine PW.callVV3 C ms_X6_put ml_X8_79 dX8_pay_17 (sf_8_2 ht) ⟨_, _, rfl⟩ (Nat.le_of_ble_eq_true rfl) (by decide) (Nat.le_of_ble_eq_true rfl) (s_X6_put (sf_8_2 ht) hw) ?_
  clear hw
  intro h3 hw
  refine PW.ald0n C dX8_pay_20 ?_
  refine PW.get0 C cf_8 fl_X8_23 (by decide) ht (fvR (o := 5) rfl) dX8_pay_21 ?_
  refine PW.ild2n C dX8_pay_24 ?_
  refine PW.iconst (v := 1) C dX8_pay_25 (by decide) ?_
  refine PW.ald0n C dX8_pay_26 ?_
  refine PW.get0 C cf_8 fl_X8_23 (by decide) ht (fvR (o := 5) rfl) dX8_pay_27 ?_
  refine PW.ild2n C dX8_pay_30 ?_
  refine PW.iconst (v := 1) C dX8_pay_31 (by decide) ?_
  refine PW.callVI2 C ms_X6_at ml_X8_75 dX8_pay_32 (sf_8_2 ht) ⟨_, _, rfl⟩ (Nat.le_of_ble_eq_true rfl) (by decide) (Nat.le_of_ble_eq_true rfl) (s_X6_at (sf_8_2 ht) hw) ?_
  clear hw
  intro z5 h4 hw
  refine PW.ild3n C dX8_pay_35 ?_
  refine PW.iadd C dX8_pay_36 ?_
  refine PW.callVV3 C ms_X6_put ml_X8_79 dX8_pay_37 (sf_8_2 ht) ⟨_, _, rfl⟩ (Nat.le_of_ble_eq_true rfl) (by decide) (Nat.le_of_ble_eq_true rfl) (s_X6_put (sf_8_2 ht) hw) ?_
  clear hw
  intro h6 hw
  exact PW.vret C dX8_pay_40 ⟨rfl, hw⟩
def w_X8_hasRight_3 (t : Nat) (k71 : PH → Prop) (k79 : PH → Prop) (Q : Int32 → PH → Prop) (x1 : Int32) (x2 : Int32) (x3 : Int32) (kb : Int32 → PH → Prop) (x4 : Int32) (h : PH) : Prop :=
  if (gI h (t + 11) 3) ≤ x4 then (k79 h) else (w_X6_at (t + 11) x4 0 h (fun z2 h1 => if z2 = x1 then (w_X6_at (t + 11) x4 1 h1 (fun z4 h3 => if z4 = x2 then (w_X6_at (t + 11) x4 2 h3 (fun z6 h5 => if x3 < z6 then (kb (x4 + 1) h5) else (w_X6_at (t + 11) x4 3 h5 (fun z8 h7 => if z8 < x3 then (kb (x4 + 1) h7) else (k71 h7))))) else (kb (x4 + 1) h3))) else (kb (x4 + 1) h1)))
set_option maxRecDepth 8000 in
theorem b_X8_hasRight_3 {D : va_G} {ca : Nat → ClassId} {ad : Nat → Nat} {K : Kt} {t : Nat} {k71 : PH → Prop} {k79 : PH → Prop} {kb : Int32 → PH → Prop} {Q : Int32 → PH → Prop} {x1 : Int32} {x2 : Int32} {x3 : Int32} {x4 : Int32} {h : PH} (C : CX (GX D ca ad) (XS (GX D ca ad)) cX8_hasRight RX8 5 (some .boolean) 3 K) (ht : oX t 8) (hk71 : ∀ (h : PH), k71 h → PW (GX D ca ad) K 5 (qI Q) h 71 [none, none, none, none, none] []) (hk79 : ∀ (h : PH), k79 h → PW (GX D ca ad) K 5 (qI Q) h 79 [none, none, none, none, none] []) (hkb : ∀ (x4 : Int32) (h : PH), kb x4 h → PW (GX D ca ad) K 5 (qI Q) h 3 [some (.ref t), some (.int x1), some (.int x2), some (.int x3), some (.int x4)] []) (hw : w_X8_hasRight_3 t k71 k79 Q x1 x2 x3 kb x4 h) : PW (GX D ca ad) K 5 (qI Q) h 3 [some (.ref t), some (.int x1), some (.int x2), some (.int x3), some (.int x4)] [] := by
  unfold w_X8_hasRight_3 at hw
  refine PW.ild4 C dX8_hasRight_3 ?_
  refine PW.ald0n C dX8_hasRight_5 ?_
  refine PW.get0 C cf_8 fl_X8_32 (by decide) ht (fvR (o := 11) rfl) dX8_hasRight_6 ?_
  refine PW.getN0 C cf_6 fl_X8_72 (by decide) (sf_8_5 ht) (fvI rfl) dX8_hasRight_9 ?_
  refine PW.icmp_ge (tgt := 79) C dX8_hasRight_12 (by decide) (fun c => ?_) (fun c => ?_)
  · rw [if_pos c] at hw
    exact PW.wk (wk_n (wk_n (wk_n (wk_n (wk_n wk_0))))) (hk79 _ hw)
  · rw [if_neg c] at hw
    refine PW.ald0n C dX8_hasRight_15 ?_
    refine PW.get0 C cf_8 fl_X8_32 (by decide) ht (fvR (o := 11) rfl) dX8_hasRight_16 ?_
    refine PW.ild4 C dX8_hasRight_19 ?_
    refine PW.iconst (v := 0) C dX8_hasRight_21 (by decide) ?_
    refine PW.callVI2 C ms_X6_at ml_X8_75 dX8_hasRight_22 (sf_8_5 ht) ⟨_, _, rfl⟩ (Nat.le_of_ble_eq_true rfl) (by decide) (Nat.le_of_ble_eq_true rfl) (s_X6_at (sf_8_5 ht) hw) ?_
    clear hw
    intro z2 h1 hw
    refine PW.ild1n C dX8_hasRight_25 ?_
    refine PW.icmp_ne (tgt := 73) C dX8_hasRight_26 (by decide) (fun c => ?_) (fun c => ?_)
    · rw [if_neg c] at hw
      refine PW.inc4 (v := 1) C dX8_hasRight_73 (by decide) rfl (by decide) ?_
      refine PW.goto (tgt := 3) C dX8_hasRight_76 (by decide) ?_
      exact PW.wk (wk_s (wk_s (wk_s (wk_s (wk_s wk_0))))) (hkb _ _ hw)
    · rw [if_pos c] at hw
      refine PW.ald0n C dX8_hasRight_29 ?_
      refine PW.get0 C cf_8 fl_X8_32 (by decide) ht (fvR (o := 11) rfl) dX8_hasRight_30 ?_
      refine PW.ild4 C dX8_hasRight_33 ?_
      refine PW.iconst (v := 1) C dX8_hasRight_35 (by decide) ?_
      refine PW.callVI2 C ms_X6_at ml_X8_75 dX8_hasRight_36 (sf_8_5 ht) ⟨_, _, rfl⟩ (Nat.le_of_ble_eq_true rfl) (by decide) (Nat.le_of_ble_eq_true rfl) (s_X6_at (sf_8_5 ht) hw) ?_
      clear hw
      intro z4 h3 hw
      refine PW.ild2n C dX8_hasRight_39 ?_
      refine PW.icmp_ne (tgt := 73) C dX8_hasRight_40 (by decide) (fun c => ?_) (fun c => ?_)
      · rw [if_neg c] at hw
        refine PW.inc4 (v := 1) C dX8_hasRight_73 (by decide) rfl (by decide) ?_
        refine PW.goto (tgt := 3) C dX8_hasRight_76 (by decide) ?_
        exact PW.wk (wk_s (wk_s (wk_s (wk_s (wk_s wk_0))))) (hkb _ _ hw)
      · rw [if_pos c] at hw
        refine PW.ald0n C dX8_hasRight_43 ?_
        refine PW.get0 C cf_8 fl_X8_32 (by decide) ht (fvR (o := 11) rfl) dX8_hasRight_44 ?_
        refine PW.ild4 C dX8_hasRight_47 ?_
        refine PW.iconst (v := 2) C dX8_hasRight_49 (by decide) ?_
        refine PW.callVI2 C ms_X6_at ml_X8_75 dX8_hasRight_50 (sf_8_5 ht) ⟨_, _, rfl⟩ (Nat.le_of_ble_eq_true rfl) (by decide) (Nat.le_of_ble_eq_true rfl) (s_X6_at (sf_8_5 ht) hw) ?_
        clear hw
        intro z6 h5 hw
        refine PW.ild3n C dX8_hasRight_53 ?_
        refine PW.icmp_gt (tgt := 73) C dX8_hasRight_54 (by decide) (fun c => ?_) (fun c => ?_)
        · rw [if_pos c] at hw
          refine PW.inc4 (v := 1) C dX8_hasRight_73 (by decide) rfl (by decide) ?_
          refine PW.goto (tgt := 3) C dX8_hasRight_76 (by decide) ?_
          exact PW.wk (wk_s (wk_s (wk_s (wk_s (wk_s wk_0))))) (hkb _ _ hw)
        · rw [if_neg c] at hw
          refine PW.ald0n C dX8_hasRight_57 ?_
          refine PW.get0 C cf_8 fl_X8_32 (by decide) ht (fvR (o := 11) rfl) dX8_hasRight_58 ?_
          refine PW.ild4 C dX8_hasRight_61 ?_
          refine PW.iconst (v := 3) C dX8_hasRight_63 (by decide) ?_
          refine PW.callVI2 C ms_X6_at ml_X8_75 dX8_hasRight_64 (sf_8_5 ht) ⟨_, _, rfl⟩ (Nat.le_of_ble_eq_true rfl) (by decide) (Nat.le_of_ble_eq_true rfl) (s_X6_at (sf_8_5 ht) hw) ?_
          clear hw
          intro z8 h7 hw
          refine PW.ild3n C dX8_hasRight_67 ?_
          refine PW.icmp_lt (tgt := 73) C dX8_hasRight_68 (by decide) (fun c => ?_) (fun c => ?_)
          · rw [if_pos c] at hw
            refine PW.inc4 (v := 1) C dX8_hasRight_73 (by decide) rfl (by decide) ?_
            refine PW.goto (tgt := 3) C dX8_hasRight_76 (by decide) ?_
            exact PW.wk (wk_s (wk_s (wk_s (wk_s (wk_s wk_0))))) (hkb _ _ hw)
          · rw [if_neg c] at hw
            exact PW.wk (wk_n (wk_n (wk_n (wk_n (wk_n wk_0))))) (hk71 _ hw)
theorem l_X8_hasRight_3 {D : va_G} {ca : Nat → ClassId} {ad : Nat → Nat} {K : Kt} {t : Nat} {k71 : PH → Prop} {k79 : PH → Prop} {Q : Int32 → PH → Prop} {x1 : Int32} {x2 : Int32} {x3 : Int32} (C : CX (GX D ca ad) (XS (GX D ca ad)) cX8_hasRight RX8 5 (some .boolean) 3 K) (ht : oX t 8) (hk71 : ∀ (h : PH), k71 h → PW (GX D ca ad) K 5 (qI Q) h 71 [none, none, none, none, none] []) (hk79 : ∀ (h : PH), k79 h → PW (GX D ca ad) K 5 (qI Q) h 79 [none, none, none, none, none] []) : ∀ (n : Nat) (x4 : Int32) (h : PH), Lp1 (w_X8_hasRight_3 t k71 k79 Q x1 x2 x3) n x4 h → PW (GX D ca ad) K 5 (qI Q) h 3 [some (.ref t), some (.int x1), some (.int x2), some (.int x3), some (.int x4)] [] := by
  intro n
  induction n with
  | zero => intro x4 h hw; exact hw.elim
  | succ n ih => intro x4 h hw; exact b_X8_hasRight_3 C ht hk71 hk79 (fun x4 h hw => ih x4 h hw) hw
def w_X8_hasRight (t : Nat) (x1 : Int32) (x2 : Int32) (x3 : Int32) (h : PH) (Q : Int32 → PH → Prop) : Prop :=
  ∃ n, Lp1 (w_X8_hasRight_3 t (fun h9 => Q 1 h9) (fun h10 => Q 0 h10) Q x1 x2 x3) n 0 h
set_option maxRecDepth 8000 in
theorem s_X8_hasRight {D : va_G} {ca : Nat → ClassId} {ad : Nat → Nat} {l : Launch} {t : Nat} {x1 : Int32} {x2 : Int32} {x3 : Int32} {h : PH} {Q : Int32 → PH → Prop} (ht : oX t 8) (hw : w_X8_hasRight t x1 x2 x3 h Q) : Sp (GX D ca ad) (XS (GX D ca ad)) l 3 yX8_hasRight cX8_hasRight 5 (some .boolean) [.ref t, .int x1, .int x2, .int x3] h (qI Q) := by
  refine Sp.of (own := RX8) [some (.ref t), some (.int x1), some (.int x2), some (.int x3), none] (by decide +kernel) rfl rfl (Nat.le_of_ble_eq_true rfl) (fun K hl C => ?_)
  subst hl
  unfold w_X8_hasRight at hw
  refine PW.iconst (v := 0) C dX8_hasRight_0 (by decide) ?_
  refine PW.ist4 C dX8_hasRight_1 (by decide) rfl ?_
  obtain ⟨n, hw⟩ := hw
  refine PW.wk (wk_s (wk_s (wk_s (wk_s (wk_s wk_0))))) (l_X8_hasRight_3 C ht ?_ ?_ n _ _ hw)
  · intro h9 hw
    refine PW.iconst (v := 1) C dX8_hasRight_71 (by decide) ?_
    exact PW.zret C dX8_hasRight_72 (by decide) ⟨_, rfl, hw⟩
  · intro h10 hw
    refine PW.iconst (v := 0) C dX8_hasRight_79 (by decide) ?_
    exact PW.zret C dX8_hasRight_80 (by decide) ⟨_, rfl, hw⟩
def w_X8_silence_2 (t : Nat) (k42 : PH → Prop) (Q : PH → Prop) (x1 : Int32) (kb : Int32 → PH → Prop) (x2 : Int32) (h : PH) : Prop :=
  if (gI h (t + 7) 3) ≤ x2 then (k42 h) else (w_X6_at (t + 7) x2 1 h (fun z2 h1 => if z2 = x1 then (w_X6_put (t + 7) x2 5 1 h1 (fun h3 => kb (x2 + 1) h3)) else (kb (x2 + 1) h1)))
set_option maxRecDepth 8000 in
theorem b_X8_silence_2 {D : va_G} {ca : Nat → ClassId} {ad : Nat → Nat} {K : Kt} {t : Nat} {k42 : PH → Prop} {kb : Int32 → PH → Prop} {Q : PH → Prop} {x1 : Int32} {x2 : Int32} {h : PH} (C : CX (GX D ca ad) (XS (GX D ca ad)) cX8_silence RX8 3 none 3 K) (ht : oX t 8) (hk42 : ∀ (h : PH), k42 h → PW (GX D ca ad) K 3 (qV Q) h 42 [none, none, none] []) (hkb : ∀ (x2 : Int32) (h : PH), kb x2 h → PW (GX D ca ad) K 3 (qV Q) h 2 [some (.ref t), some (.int x1), some (.int x2)] []) (hw : w_X8_silence_2 t k42 Q x1 kb x2 h) : PW (GX D ca ad) K 3 (qV Q) h 2 [some (.ref t), some (.int x1), some (.int x2)] [] := by
  unfold w_X8_silence_2 at hw
  refine PW.ild2n C dX8_silence_2 ?_
  refine PW.ald0n C dX8_silence_3 ?_
  refine PW.get0 C cf_8 fl_X8_26 (by decide) ht (fvR (o := 7) rfl) dX8_silence_4 ?_
  refine PW.getN0 C cf_6 fl_X8_72 (by decide) (sf_8_3 ht) (fvI rfl) dX8_silence_7 ?_
  refine PW.icmp_ge (tgt := 42) C dX8_silence_10 (by decide) (fun c => ?_) (fun c => ?_)
  · rw [if_pos c] at hw
    exact PW.wk (wk_n (wk_n (wk_n wk_0))) (hk42 _ hw)
  · rw [if_neg c] at hw
    refine PW.ald0n C dX8_silence_13 ?_
    refine PW.get0 C cf_8 fl_X8_26 (by decide) ht (fvR (o := 7) rfl) dX8_silence_14 ?_
    refine PW.ild2n C dX8_silence_17 ?_
    refine PW.iconst (v := 1) C dX8_silence_18 (by decide) ?_
    refine PW.callVI2 C ms_X6_at ml_X8_75 dX8_silence_19 (sf_8_3 ht) ⟨_, _, rfl⟩ (Nat.le_of_ble_eq_true rfl) (by decide) (Nat.le_of_ble_eq_true rfl) (s_X6_at (sf_8_3 ht) hw) ?_
    clear hw
    intro z2 h1 hw
    refine PW.ild1n C dX8_silence_22 ?_
    refine PW.icmp_ne (tgt := 36) C dX8_silence_23 (by decide) (fun c => ?_) (fun c => ?_)
    · rw [if_neg c] at hw
      refine PW.inc2 (v := 1) C dX8_silence_36 (by decide) rfl (by decide) ?_
      refine PW.goto (tgt := 2) C dX8_silence_39 (by decide) ?_
      exact PW.wk (wk_s (wk_s (wk_s wk_0))) (hkb _ _ hw)
    · rw [if_pos c] at hw
      refine PW.ald0n C dX8_silence_26 ?_
      refine PW.get0 C cf_8 fl_X8_26 (by decide) ht (fvR (o := 7) rfl) dX8_silence_27 ?_
      refine PW.ild2n C dX8_silence_30 ?_
      refine PW.iconst (v := 5) C dX8_silence_31 (by decide) ?_
      refine PW.iconst (v := 1) C dX8_silence_32 (by decide) ?_
      refine PW.callVV3 C ms_X6_put ml_X8_79 dX8_silence_33 (sf_8_3 ht) ⟨_, _, rfl⟩ (Nat.le_of_ble_eq_true rfl) (by decide) (Nat.le_of_ble_eq_true rfl) (s_X6_put (sf_8_3 ht) hw) ?_
      clear hw
      intro h3 hw
      refine PW.inc2 (v := 1) C dX8_silence_36 (by decide) rfl (by decide) ?_
      refine PW.goto (tgt := 2) C dX8_silence_39 (by decide) ?_
      exact PW.wk (wk_s (wk_s (wk_s wk_0))) (hkb _ _ hw)
theorem l_X8_silence_2 {D : va_G} {ca : Nat → ClassId} {ad : Nat → Nat} {K : Kt} {t : Nat} {k42 : PH → Prop} {Q : PH → Prop} {x1 : Int32} (C : CX (GX D ca ad) (XS (GX D ca ad)) cX8_silence RX8 3 none 3 K) (ht : oX t 8) (hk42 : ∀ (h : PH), k42 h → PW (GX D ca ad) K 3 (qV Q) h 42 [none, none, none] []) : ∀ (n : Nat) (x2 : Int32) (h : PH), Lp1 (w_X8_silence_2 t k42 Q x1) n x2 h → PW (GX D ca ad) K 3 (qV Q) h 2 [some (.ref t), some (.int x1), some (.int x2)] [] := by
  intro n
  induction n with
  | zero => intro x2 h hw; exact hw.elim
  | succ n ih => intro x2 h hw; exact b_X8_silence_2 C ht hk42 (fun x2 h hw => ih x2 h hw) hw
def w_X8_silence (t : Nat) (x1 : Int32) (h : PH) (Q : PH → Prop) : Prop :=
  ∃ n, Lp1 (w_X8_silence_2 t (fun h4 => Q h4) Q x1) n 0 h
set_option maxRecDepth 8000 in
theorem s_X8_silence {D : va_G} {ca : Nat → ClassId} {ad : Nat → Nat} {l : Launch} {t : Nat} {x1 : Int32} {h : PH} {Q : PH → Prop} (ht : oX t 8) (hw : w_X8_silence t x1 h Q) : Sp (GX D ca ad) (XS (GX D ca ad)) l 3 yX8_silence cX8_silence 3 none [.ref t, .int x1] h (qV Q) := by
  refine Sp.of (own := RX8) [some (.ref t), some (.int x1), none] (by decide +kernel) rfl rfl (Nat.le_of_ble_eq_true rfl) (fun K hl C => ?_)
  subst hl
  unfold w_X8_silence at hw
  refine PW.iconst (v := 0) C dX8_silence_0 (by decide) ?_
  refine PW.ist2n C dX8_silence_1 (by decide) rfl ?_
  obtain ⟨n, hw⟩ := hw
  refine PW.wk (wk_s (wk_s (wk_s wk_0))) (l_X8_silence_2 C ht ?_ n _ _ hw)
  · intro h4 hw
    exact PW.vret C dX8_silence_42 ⟨rfl, hw⟩
def w_X8_muffle_2 (t : Nat) (k56 : PH → Prop) (Q : PH → Prop) (kb : Int32 → PH → Prop) (x1 : Int32) (h : PH) : Prop :=
  if (gI h (t + 7) 3) ≤ x1 then (k56 h) else (w_X6_at (t + 7) x1 4 h (fun z2 h1 => ∀ (y3 : Int32), y3 = (z2 - 5) → w_X6_put (t + 7) x1 4 y3 h1 (fun h4 => if 1 ≤ y3 then (kb (x1 + 1) h4) else (w_X6_put (t + 7) x1 5 1 h4 (fun h5 => kb (x1 + 1) h5)))))
set_option maxRecDepth 8000 in
theorem b_X8_muffle_2 {D : va_G} {ca : Nat → ClassId} {ad : Nat → Nat} {K : Kt} {t : Nat} {k56 : PH → Prop} {kb : Int32 → PH → Prop} {Q : PH → Prop} {x1 : Int32} {h : PH} (C : CX (GX D ca ad) (XS (GX D ca ad)) cX8_muffle RX8 3 none 3 K) (ht : oX t 8) (hk56 : ∀ (h : PH), k56 h → PW (GX D ca ad) K 3 (qV Q) h 56 [none, none, none] []) (hkb : ∀ (x1 : Int32) (h : PH), kb x1 h → PW (GX D ca ad) K 3 (qV Q) h 2 [some (.ref t), some (.int x1), none] []) (hw : w_X8_muffle_2 t k56 Q kb x1 h) : PW (GX D ca ad) K 3 (qV Q) h 2 [some (.ref t), some (.int x1), none] [] := by
  unfold w_X8_muffle_2 at hw
  refine PW.ild1n C dX8_muffle_2 ?_
  refine PW.ald0n C dX8_muffle_3 ?_
  refine PW.get0 C cf_8 fl_X8_26 (by decide) ht (fvR (o := 7) rfl) dX8_muffle_4 ?_
  refine PW.getN0 C cf_6 fl_X8_72 (by decide) (sf_8_3 ht) (fvI rfl) dX8_muffle_7 ?_
  refine PW.icmp_ge (tgt := 56) C dX8_muffle_10 (by decide) (fun c => ?_) (fun c => ?_)
  · rw [if_pos c] at hw
    exact PW.wk (wk_n (wk_n (wk_n wk_0))) (hk56 _ hw)
  · rw [if_neg c] at hw
    refine PW.ald0n C dX8_muffle_13 ?_
    refine PW.get0 C cf_8 fl_X8_26 (by decide) ht (fvR (o := 7) rfl) dX8_muffle_14 ?_
    refine PW.ild1n C dX8_muffle_17 ?_
    refine PW.iconst (v := 4) C dX8_muffle_18 (by decide) ?_
    refine PW.callVI2 C ms_X6_at ml_X8_75 dX8_muffle_19 (sf_8_3 ht) ⟨_, _, rfl⟩ (Nat.le_of_ble_eq_true rfl) (by decide) (Nat.le_of_ble_eq_true rfl) (s_X6_at (sf_8_3 ht) hw) ?_
    clear hw
    intro z2 h1 hw
    refine PW.iconst (v := 5) C dX8_muffle_22 (by decide) ?_
    refine PW.isub C dX8_muffle_23 ?_
    replace hw := hw _ rfl
    refine PW.ist2n C dX8_muffle_24 (by decide) rfl ?_
    refine PW.ald0n C dX8_muffle_25 ?_
    refine PW.get0 C cf_8 fl_X8_26 (by decide) ht (fvR (o := 7) rfl) dX8_muffle_26 ?_
    refine PW.ild1n C dX8_muffle_29 ?_
    refine PW.iconst (v := 4) C dX8_muffle_30 (by decide) ?_
    refine PW.ild2n C dX8_muffle_31 ?_
    refine PW.callVV3 C ms_X6_put ml_X8_79 dX8_muffle_32 (sf_8_3 ht) ⟨_, _, rfl⟩ (Nat.le_of_ble_eq_true rfl) (by decide) (Nat.le_of_ble_eq_true rfl) (s_X6_put (sf_8_3 ht) hw) ?_
    clear hw
    intro h4 hw
    refine PW.ild2n C dX8_muffle_35 ?_
    refine PW.iconst (v := 1) C dX8_muffle_36 (by decide) ?_
    refine PW.icmp_ge (tgt := 50) C dX8_muffle_37 (by decide) (fun c => ?_) (fun c => ?_)
    · rw [if_pos c] at hw
      refine PW.inc1 (v := 1) C dX8_muffle_50 (by decide) rfl (by decide) ?_
      refine PW.goto (tgt := 2) C dX8_muffle_53 (by decide) ?_
      exact PW.wk (wk_s (wk_s (wk_n wk_0))) (hkb _ _ hw)
    · rw [if_neg c] at hw
      refine PW.ald0n C dX8_muffle_40 ?_
      refine PW.get0 C cf_8 fl_X8_26 (by decide) ht (fvR (o := 7) rfl) dX8_muffle_41 ?_
      refine PW.ild1n C dX8_muffle_44 ?_
      refine PW.iconst (v := 5) C dX8_muffle_45 (by decide) ?_
      refine PW.iconst (v := 1) C dX8_muffle_46 (by decide) ?_
      refine PW.callVV3 C ms_X6_put ml_X8_79 dX8_muffle_47 (sf_8_3 ht) ⟨_, _, rfl⟩ (Nat.le_of_ble_eq_true rfl) (by decide) (Nat.le_of_ble_eq_true rfl) (s_X6_put (sf_8_3 ht) hw) ?_
      clear hw
      intro h5 hw
      refine PW.inc1 (v := 1) C dX8_muffle_50 (by decide) rfl (by decide) ?_
      refine PW.goto (tgt := 2) C dX8_muffle_53 (by decide) ?_
      exact PW.wk (wk_s (wk_s (wk_n wk_0))) (hkb _ _ hw)
theorem l_X8_muffle_2 {D : va_G} {ca : Nat → ClassId} {ad : Nat → Nat} {K : Kt} {t : Nat} {k56 : PH → Prop} {Q : PH → Prop} (C : CX (GX D ca ad) (XS (GX D ca ad)) cX8_muffle RX8 3 none 3 K) (ht : oX t 8) (hk56 : ∀ (h : PH), k56 h → PW (GX D ca ad) K 3 (qV Q) h 56 [none, none, none] []) : ∀ (n : Nat) (x1 : Int32) (h : PH), Lp1 (w_X8_muffle_2 t k56 Q) n x1 h → PW (GX D ca ad) K 3 (qV Q) h 2 [some (.ref t), some (.int x1), none] [] := by
  intro n
  induction n with
  | zero => intro x1 h hw; exact hw.elim
  | succ n ih => intro x1 h hw; exact b_X8_muffle_2 C ht hk56 (fun x1 h hw => ih x1 h hw) hw
def w_X8_muffle (t : Nat) (h : PH) (Q : PH → Prop) : Prop :=
  ∃ n, Lp1 (w_X8_muffle_2 t (fun h6 => Q h6) Q) n 0 h
set_option maxRecDepth 8000 in
theorem s_X8_muffle {D : va_G} {ca : Nat → ClassId} {ad : Nat → Nat} {l : Launch} {t : Nat} {h : PH} {Q : PH → Prop} (ht : oX t 8) (hw : w_X8_muffle t h Q) : Sp (GX D ca ad) (XS (GX D ca ad)) l 3 yX8_muffle cX8_muffle 3 none [.ref t] h (qV Q) := by
  refine Sp.of (own := RX8) [some (.ref t), none, none] (by decide +kernel) rfl rfl (Nat.le_of_ble_eq_true rfl) (fun K hl C => ?_)
  subst hl
  unfold w_X8_muffle at hw
  refine PW.iconst (v := 0) C dX8_muffle_0 (by decide) ?_
  refine PW.ist1n C dX8_muffle_1 (by decide) rfl ?_
  obtain ⟨n, hw⟩ := hw
  refine PW.wk (wk_s (wk_s (wk_n wk_0))) (l_X8_muffle_2 C ht ?_ n _ _ hw)
  · intro h6 hw
    exact PW.vret C dX8_muffle_56 ⟨rfl, hw⟩
