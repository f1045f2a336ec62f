/-! ===== feed ===== -/
/-- the byte of a number that begins at bit s -/
noncomputable def bN (x s : Int) : Int := ((wdN (fun l => bt (z x) (s.toNat + l.toNat)) 8 : Nat) : Int)
theorem bN_rg (x s : Int) : 0 ≤ bN x s ∧ bN x s < 256 := by
  have := wdN_lt (fun l => bt (z x) (s.toNat + l.toNat)) 8
  unfold bN
  omega
theorem bN_bit {x s : Int} {l : Nat} (hl : l < 32) : bt (z (bN x s)) l = (decide (l < 8) && bt (z x) (s.toNat + l)) := by
  unfold bN
  rw [z_nI, bt_wd hl]
  show (decide (l < 8) && bt (z x) (s.toNat + ((l : Nat) : Int).toNat)) = _
  rw [show ((l : Nat) : Int).toNat = l by omega]
theorem bN_and {x s : Int} (h0 : 0 ≤ s) (h1 : s ≤ 24) : ((z x) >>> (z s &&& 31)) &&& 255 = z (bN x s) := by
  refine b_ext (fun l hl => ?_)
  rw [bN_bit hl, b_and, b_255, z_nI' h0, b_sshr _ (by omega) _ hl]
  by_cases c : l < 8
  · rw [if_pos (by omega), decide_eq_true c]; simp
  · rw [decide_eq_false c]; simp
theorem sb_tab : ∀ b : Fin 256, vp_nar .byte ((nI b.val).toInt8.toInt32) = z (sb ((b.val : Nat) : Int)) := by decide +kernel
theorem i8_low {x y : Int32} (h : ∀ i, i < 8 → bt x i = bt y i) : x.toInt8 = y.toInt8 := by
  apply Int8.toBitVec_inj.mp
  apply BitVec.eq_of_getLsbD_eq
  intro i hi
  rw [Int32.toBitVec_toInt8, Int32.toBitVec_toInt8, BitVec.getLsbD_signExtend, BitVec.getLsbD_signExtend]
  rw [if_pos (by omega), if_pos (by omega)]
  have := h i hi
  unfold bt at this
  rw [this]
theorem bN_sb {x s : Int} (h0 : 0 ≤ s) (h1 : s ≤ 24) : vp_nar .byte ((((z x).toUInt32 >>> ((z s).toUInt32 &&& Int32.toUInt32 31)).toInt32 : Int32).toInt8.toInt32) = z (sb (bN x s)) := by
  have r := bN_rg x s
  have e := sb_tab ⟨(bN x s).toNat, by omega⟩
  simp only [show (((bN x s).toNat : Nat) : Int) = bN x s by omega] at e
  rw [← e]
  congr 2
  refine i8_low (fun i hi => ?_)
  rw [z_nI' h0, b_ushr _ (by omega)]
  have b := bN_bit (x := x) (s := s) (l := i) (by omega)
  rw [z_nI' r.1] at b
  rw [b, decide_eq_true hi, Bool.true_and]
noncomputable def fdB (x1 x2 x3 x4 x5 k : Int) : Int := bN (if 4 ≤ k then (if 8 ≤ k then (if 12 ≤ k then (if 16 ≤ k then x5 else x4) else x3) else x2) else x1) (24 - 8 * (k % 4))
def tpS (s : St) (tn : Int) (tp : Int → Int) : St := (s.1, s.2.1, s.2.2.1, s.2.2.2.1, (tn, tp), s.2.2.2.2.2)
noncomputable def t_feed (s : St) (x1 x2 x3 x4 x5 : Int) : St := if s.tn + 20 ≤ 700 then tpS s (s.tn + 20) (fun k => if s.tn ≤ k ∧ k < s.tn + 20 then fdB x1 x2 x3 x4 x5 (k - s.tn) else s.tp k) else s
def a_feed (s : St) : Int := if s.tn + 20 ≤ 700 then s.tn + 20 else -1
theorem OkS.tp {s : St} {tn : Int} {tp : Int → Int} (O : OkS s) (T : OkTp tn tp) : OkS (tpS s tn tp) := ⟨O.1, O.2.1, O.2.2.1, O.2.2.2.1, O.2.2.2.2.1, O.2.2.2.2.2.1, T⟩
theorem feed_ok {s : St} {x1 x2 x3 x4 x5 : Int} (O : OkTp s.tn s.tp) (h : s.tn + 20 ≤ 700) : OkTp (s.tn + 20) (fun k => if s.tn ≤ k ∧ k < s.tn + 20 then fdB x1 x2 x3 x4 x5 (k - s.tn) else s.tp k) := by
  obtain ⟨⟨o1, o2, o3⟩, o4⟩ := O
  refine ⟨⟨by omega, h, by omega⟩, fun k => ?_⟩
  show 0 ≤ (if s.tn ≤ k ∧ k < s.tn + 20 then fdB x1 x2 x3 x4 x5 (k - s.tn) else s.tp k) ∧ (if s.tn ≤ k ∧ k < s.tn + 20 then fdB x1 x2 x3 x4 x5 (k - s.tn) else s.tp k) < 256
  split
  · exact bN_rg _ _
  · exact o4 k
section FEED
variable {h : PH} {w : Nat} {s : St}
def TpA (h : PH) (n : Int) (f : Int → Int) : Prop := gI h 0 1 = z n ∧ ∀ k : Int, 0 ≤ k → k < n → gI h 1 k.toNat = z (sb (f k))
def tpC (c k : Nat) : Prop := c = 1 ∨ (c = 0 ∧ k = 1)
theorem x_tapeNumber {Q : PH → Prop} {n x : Int} {f : Int → Int} (T : TpA h n f) (h0 : 0 ≤ n) (h1 : n + 4 ≤ 700) (hf : ∀ j, 0 ≤ j → j < 4 → f (n + j) = bN x (24 - 8 * j)) (hq : ∀ g, (∀ c k, ¬ tpC c k → At h g c k) → TpA g (n + 4) f → Q g) : w_X9_tapeNumber (z x) h Q := by
  unfold w_X9_tapeNumber
  refine lp1_i (fun y g => ∃ j : Int, y = z (24 - 8 * j) ∧ (0 ≤ j ∧ j ≤ 4) ∧ (∀ c k, ¬ tpC c k → At h g c k) ∧ TpA g (n + j) f) (fun y _ => (y.toInt + 8).toNat) ?_ 24 h ⟨0, rfl, by omega, fun c k _ => At.rf h c k, by rw [Int.add_zero]; exact T⟩
  rintro kb _ g ⟨j, rfl, hj, hF, hT⟩ hk
  unfold w_X9_tapeNumber_3
  by_cases c : j = 4
  · rw [zn_0, if_pos (by rw [z_lt (by omega) (by omega) (by omega) (by omega)]; omega)]
    rw [c] at hT
    exact hq g hF hT
  · rw [zn_0, if_neg (by rw [z_lt (by omega) (by omega) (by omega) (by omega)]; omega), hT.1, zn_700, if_neg (by rw [z_le (by omega) (by omega) (by omega) (by omega)]; omega), z_iN (a := n + j) (by omega) (by omega), bN_sb (by omega) (by omega), ← hf j hj.1 (by omega)]
    refine ⟨z_in (by omega) (by omega) (by omega), ?_⟩
    rintro _ rfl
    rintro _ rfl
    rw [gI_out (by omega), hT.1, z_inc, show z (24 - 8 * j) + -8 = z (24 - 8 * (j + 1)) from by rw [show (-8 : Int32) = z (-8) from rfl, z_add]; congr 1; omega]
    refine hk _ _ ⟨j + 1, rfl, by omega, fun c k hc => ((hF c k hc).sI (by unfold tpC at hc; omega)).sI (by unfold tpC at hc; omega), by rw [gI_in rfl rfl]; congr 1; omega, fun k k0 k1 => ?_⟩ ?_
    · by_cases e : k = n + j
      · rw [gI_out (by omega), e, gI_in rfl rfl]
      · rw [gI_out (by omega), gI_out (by omega)]; exact hT.2 k k0 (by omega)
    · rw [z_ti (by omega) (by omega), z_ti (by omega) (by omega)]
      omega
theorem IX.tp {g : PH} {tn : Int} {tp : Int → Int} (I : IX h w s) (T : TpX g (tpS s tn tp)) (O : OkTp tn tp) (f : ∀ c k, ¬ tpC c k → At h g c k) : IX g w (tpS s tn tp) ∧ KpX h g := by
  obtain ⟨⟨n1, n2, n3, n4, n5, n6⟩, ⟨i2, i2'⟩, i3, ⟨i4, i5, i6⟩, i7, ⟨i8, i9, i10⟩, _, ⟨i13, i14, i15⟩, ⟨⟨q1, i16⟩, ⟨q2, i17⟩⟩, i18⟩ := I
  have hw := n1
  have e9 : gI g 0 9 = gI h 0 9 := (f 0 9 (by unfold tpC; omega)).1
  have N : NX g w s.a := ⟨n1, by rw [(f 0 3 (by unfold tpC; omega)).2.2]; exact n2, n3.at' (fun c k b1 b2 _ _ _ _ => f c k (by unfold tpC; omega)), n4, by rw [e9]; exact n5, fun e => (n6 (by rw [← e9]; exact e)).at' (fun c k b1 b2 => f c k (by unfold tpC; omega))⟩
  refine ⟨⟨N, ⟨?_, ?_⟩, ?_, ⟨?_, ?_, fun b => ?_⟩, ?_, ⟨?_, fun k k0 k1 c hc => ?_, ?_⟩, T, ⟨fun k hk => ?_, ?_, ?_⟩, ⟨⟨q1, ?_⟩, ⟨q2, ?_⟩⟩, i18.tp O⟩, Or.inr ⟨(f 0 12 (by unfold tpC; omega)).1, fun x => by rw [e9]; exact x, fun c k c1 c2 => f c k (by unfold tpC; omega)⟩⟩
  · rw [(f 0 4 (by unfold tpC; omega)).2.2]; exact i2
  · exact i2'.fr (fun c k b1 b2 => f c k (by unfold tpC; omega))
  · exact i3.fr (fun c k b1 b2 => f c k (by unfold tpC; omega))
  · exact i4.fr (fun c k b1 b2 => f c k (by unfold tpC; omega))
  · rw [(f 0 6 (by unfold tpC; omega)).1]; exact i5
  · exact (i6 b).at' (fun c k b1 b2 b3 b4 b5 b6 => f c k (by unfold tpC; omega))
  · exact i7.at' (fun c k hc => f c k (by unfold tpC; omega))
  · exact i8.at' (fun k => f 130 k (by unfold tpC; omega))
  · rw [(f 131 _ (by unfold tpC; omega)).1]; exact i9 k k0 k1 c hc
  · rw [(f 129 4 (by unfold tpC; omega)).1]; exact i10
  · rw [(f 4 _ (by unfold tpC; omega)).1]; exact i13 k hk
  · rw [(f 2 8 (by unfold tpC; omega)).1]; exact i14
  · rw [(f 2 9 (by unfold tpC; omega)).1]; exact i15
  · exact i16.at' (fun k => f 113 k (by unfold tpC; omega))
  · exact i17.at' (fun k => f 115 k (by unfold tpC; omega))
theorem xs_feed {Q : Int32 → PH → Prop} {x1 x2 x3 x4 x5 : Int} (I : IX h w s) (hq : ∀ g, IX g w (t_feed s x1 x2 x3 x4 x5) → KpX h g → Q (z (a_feed s)) g) : w_X9_feed (z x1) (z x2) (z x3) (z x4) (z x5) h Q := by
  obtain ⟨t1, t2⟩ := I.2.2.2.2.2.2.1
  have O := I.ok.2.2.2.2.2.2
  have o1 := O.1
  unfold t_feed a_feed at hq
  unfold w_X9_feed
  rw [t1, zn_20, z_add, zn_700]
  by_cases c : s.tn + 20 ≤ 700
  · rw [if_pos (by rw [z_le (by omega) (by omega) (by omega) (by omega)]; omega)]
    rw [if_pos c, if_pos c] at hq
    have T0 : TpA h s.tn (fun k => if s.tn ≤ k ∧ k < s.tn + 20 then fdB x1 x2 x3 x4 x5 (k - s.tn) else s.tp k) := ⟨t1, fun k k0 k1 => by
      show _ = z (sb (if s.tn ≤ k ∧ k < s.tn + 20 then fdB x1 x2 x3 x4 x5 (k - s.tn) else s.tp k))
      rw [if_neg (by omega)]
      exact t2 k k0 k1⟩
    have fe : ∀ j, 0 ≤ j → j < 20 → (fun k => if s.tn ≤ k ∧ k < s.tn + 20 then fdB x1 x2 x3 x4 x5 (k - s.tn) else s.tp k) (s.tn + j) = fdB x1 x2 x3 x4 x5 j := fun j j0 j1 => by
      show (if s.tn ≤ s.tn + j ∧ s.tn + j < s.tn + 20 then fdB x1 x2 x3 x4 x5 (s.tn + j - s.tn) else s.tp (s.tn + j)) = _
      rw [if_pos (by omega), show s.tn + j - s.tn = j by omega]
    have fok := feed_ok (x1 := x1) (x2 := x2) (x3 := x3) (x4 := x4) (x5 := x5) O c
    generalize (fun k => if s.tn ≤ k ∧ k < s.tn + 20 then fdB x1 x2 x3 x4 x5 (k - s.tn) else s.tp k) = f at *
    refine x_tapeNumber T0 (by omega) (by omega) (fun j j0 j1 => ?_) (fun g1 f1 T1 => ?_)
    · rw [fe j j0 (by omega)]; unfold fdB; rw [if_neg (by omega), show j % 4 = j by omega]
    refine x_tapeNumber T1 (by omega) (by omega) (fun j j0 j1 => ?_) (fun g2 f2 T2 => ?_)
    · rw [show s.tn + 4 + j = s.tn + (4 + j) by omega, fe _ (by omega) (by omega)]; unfold fdB; rw [if_pos (by omega), if_neg (by omega), show (4 + j) % 4 = j by omega]
    refine x_tapeNumber T2 (by omega) (by omega) (fun j j0 j1 => ?_) (fun g3 f3 T3 => ?_)
    · rw [show s.tn + 4 + 4 + j = s.tn + (8 + j) by omega, fe _ (by omega) (by omega)]; unfold fdB; rw [if_pos (by omega), if_pos (by omega), if_neg (by omega), show (8 + j) % 4 = j by omega]
    refine x_tapeNumber T3 (by omega) (by omega) (fun j j0 j1 => ?_) (fun g4 f4 T4 => ?_)
    · rw [show s.tn + 4 + 4 + 4 + j = s.tn + (12 + j) by omega, fe _ (by omega) (by omega)]; unfold fdB; rw [if_pos (by omega), if_pos (by omega), if_pos (by omega), if_neg (by omega), show (12 + j) % 4 = j by omega]
    refine x_tapeNumber T4 (by omega) (by omega) (fun j j0 j1 => ?_) (fun g5 f5 T5 => ?_)
    · rw [show s.tn + 4 + 4 + 4 + 4 + j = s.tn + (16 + j) by omega, fe _ (by omega) (by omega)]; unfold fdB; rw [if_pos (by omega), if_pos (by omega), if_pos (by omega), if_pos (by omega), show (16 + j) % 4 = j by omega]
    rw [show s.tn + 4 + 4 + 4 + 4 + 4 = s.tn + 20 by omega] at T5
    rw [T5.1]
    have r := I.tp (tn := s.tn + 20) (tp := f) T5 fok (fun c k hc => ((((f1 c k hc).tr (f2 c k hc)).tr (f3 c k hc)).tr (f4 c k hc)).tr (f5 c k hc))
    exact hq g5 r.1 r.2
  · rw [if_neg (by rw [z_le (by omega) (by omega) (by omega) (by omega)]; omega)]
    rw [if_neg c, if_neg c] at hq
    exact hq h I (KpX.rf h)
theorem IM.tp {g : PH} {tn : Int} {tp : Int → Int} (J : IM h s) (T : TpM g (tpS s tn tp)) (O : OkTp tn tp) (f : ∀ c k, ¬ (c = 1 ∨ (c = 0 ∧ k = 2)) → At h g c k) : IM g (tpS s tn tp) := by
  obtain ⟨j1, j2, ⟨j3, j4⟩, j5, _, ⟨j8, j9⟩, j10⟩ := J
  refine ⟨⟨j1.1.at' (fun c k b1 b2 => f c k (by omega)), j1.2.1.at' (fun c k b1 b2 => f c k (by omega)), j1.2.2⟩, j2.at' (f 0 61 (by omega)) (fun c k b1 b2 => f c k (by omega)), ⟨?_, fun b => (j4 b).at' (fun c k b1 b2 => f c k (by omega))⟩, j5.at' (fun k hk => f 0 k (by omega)) (fun c k b1 b2 => f c k (by omega)), T, ⟨?_, ?_⟩, j10.tp O⟩
  · rw [(f 0 60 (by omega)).1]; exact j3
  · rw [(f 0 42 (by omega)).1]; exact j8
  · rw [(f 0 43 (by omega)).1]; exact j9
theorem ms_feed {Q : Int32 → PH → Prop} {x1 x2 x3 x4 x5 : Int} (J : IM h s) (hq : ∀ g, IM g (t_feed s x1 x2 x3 x4 x5) → Q (z (a_feed s)) g) : w_X10_feed (z x1) (z x2) (z x3) (z x4) (z x5) h Q := by
  unfold w_X10_feed
  rintro _ rfl
  have J1 := J.fr (fr0 h 0)
  generalize sI h 0 0 0 = h1 at *
  obtain ⟨t1, t2⟩ := J1.2.2.2.2.1
  have O := J1.2.2.2.2.2.2.2.2.2.2.2.2
  have o1 := O.1
  unfold t_feed a_feed at hq
  rw [t1, zn_680]
  by_cases c : s.tn + 20 ≤ 700
  · rw [if_pos (by rw [z_le (by omega) (by omega) (by omega) (by omega)]; omega)]
    rw [if_pos c, if_pos c] at hq
    have fok := feed_ok (x1 := x1) (x2 := x2) (x3 := x3) (x4 := x4) (x5 := x5) O c
    refine for10 20 (fun i g => (∀ c k, ¬ (c = 1) → At h1 g c k) ∧ ∀ k, 0 ≤ k → k < s.tn + i → gI g 1 k.toNat = z ((fun k => if s.tn ≤ k ∧ k < s.tn + 20 then fdB x1 x2 x3 x4 x5 (k - s.tn) else s.tp k) k)) 0 rfl (by omega) (by omega) (by omega) ⟨fun c k _ => At.rf h1 c k, fun k k0 k1 => by
      show _ = z (if s.tn ≤ k ∧ k < s.tn + 20 then fdB x1 x2 x3 x4 x5 (k - s.tn) else s.tp k)
      rw [if_neg (by omega)]
      exact t2 k k0 (by omega)⟩ ?_ ?_
    · rintro kb i g i0 i1 ⟨hf, hJ⟩ hn
      have put : ∀ y : Int, fdB x1 x2 x3 x4 x5 i = bN y (24 - 8 * (i % 4)) → w_X10_feed_73 Q kb (z x1) (z x2) (z x3) (z x4) (z x5) (z i) (z y) g := fun y hy => by
        unfold w_X10_feed_73
        rw [(hf 0 2 (by omega)).1, t1, z_add, z_iN (a := s.tn + i) (by omega) (by omega), z_inc]
        refine ⟨z_in (by omega) (by omega) (by omega), ?_⟩
        have es : (24 : Int32) - 8 * (z i - z i / 4 * 4) = z (24 - 8 * (i % 4)) := by
          have : i = 0 ∨ i = 1 ∨ i = 2 ∨ i = 3 ∨ i = 4 ∨ i = 5 ∨ i = 6 ∨ i = 7 ∨ i = 8 ∨ i = 9 ∨ i = 10 ∨ i = 11 ∨ i = 12 ∨ i = 13 ∨ i = 14 ∨ i = 15 ∨ i = 16 ∨ i = 17 ∨ i = 18 ∨ i = 19 := by omega
          rcases this with rfl | rfl | rfl | rfl | rfl | rfl | rfl | rfl | rfl | rfl | rfl | rfl | rfl | rfl | rfl | rfl | rfl | rfl | rfl | rfl <;> decide +kernel
        rw [es, bN_and (by omega) (by omega), ← hy]
        rintro _ rfl
        refine hn _ ⟨fun c k hc => (hf c k hc).sI (by omega), fun k k0 k1 => ?_⟩
        by_cases e : k = s.tn + i
        · show _ = z (if s.tn ≤ k ∧ k < s.tn + 20 then fdB x1 x2 x3 x4 x5 (k - s.tn) else s.tp k)
          rw [if_pos (by omega), e, gI_in rfl rfl, show s.tn + i - s.tn = i by omega]
        · rw [gI_out (by omega)]; exact hJ k k0 (by omega)
      unfold w_X10_feed_20
      rw [zn_20, if_neg (by rw [z_le (by omega) (by omega) (by omega) (by omega)]; omega), zn_4, zn_8, zn_12, zn_16]
      unfold fdB at put
      by_cases c4 : 4 ≤ i
      · rw [if_pos (by rw [z_le (by omega) (by omega) (by omega) (by omega)]; omega)]
        by_cases c8 : 8 ≤ i
        · rw [if_pos (by rw [z_le (by omega) (by omega) (by omega) (by omega)]; omega)]
          by_cases c12 : 12 ≤ i
          · rw [if_pos (by rw [z_le (by omega) (by omega) (by omega) (by omega)]; omega)]
            by_cases c16 : 16 ≤ i
            · rw [if_pos (by rw [z_le (by omega) (by omega) (by omega) (by omega)]; omega)]
              exact put x5 (by rw [if_pos c4, if_pos c8, if_pos c12, if_pos c16])
            · rw [if_neg (by rw [z_le (by omega) (by omega) (by omega) (by omega)]; omega)]
              exact put x4 (by rw [if_pos c4, if_pos c8, if_pos c12, if_neg c16])
          · rw [if_neg (by rw [z_le (by omega) (by omega) (by omega) (by omega)]; omega)]
            exact put x3 (by rw [if_pos c4, if_pos c8, if_neg c12])
        · rw [if_neg (by rw [z_le (by omega) (by omega) (by omega) (by omega)]; omega)]
          exact put x2 (by rw [if_pos c4, if_neg c8])
      · rw [if_neg (by rw [z_le (by omega) (by omega) (by omega) (by omega)]; omega)]
        exact put x1 (by rw [if_neg c4])
    · rintro kb g ⟨hf, hJ⟩
      unfold w_X10_feed_20
      rw [zn_20, if_pos (by rw [z_le (by omega) (by omega) (by omega) (by omega)]; omega)]
      show ∀ h5, _ → _
      rintro _ rfl
      rw [(hf 0 2 (by omega)).1, t1, z_add, gI_in rfl rfl]
      exact hq _ (J1.tp ⟨gI_in rfl rfl, fun k k0 k1 => by rw [gI_out (by omega)]; exact hJ k k0 k1⟩ fok (fun c k hc => (hf c k (by omega)).sI (by omega)))
  · rw [if_neg (by rw [z_le (by omega) (by omega) (by omega) (by omega)]; omega)]
    rw [if_neg c, if_neg c] at hq
    exact hq h1 J1
end FEED
