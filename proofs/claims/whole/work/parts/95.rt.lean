/-! ===== a year ===== -/
def nxt (v : Int32) : Int32 := ((v * 1103515245) + 12345) &&& 2147483647
def dr (v : Int32) : Int := (v >>> ((16 : Int32) &&& 31)).toInt
theorem nxt_hi (v : Int32) : ∃ a : Int, (0 ≤ a ∧ a ≤ 32767) ∧ (nxt v >>> ((16 : Int32) &&& 31)) = z a := by
  obtain ⟨n, hn, e⟩ := wb_of32 (nxt v >>> ((16 : Int32) &&& 31))
  have hmask : bt (2147483647 : Int32) 31 = false := by decide +kernel
  have h31 : bt (nxt v) 31 = false := by unfold nxt; rw [b_and, hmask, Bool.and_false]
  have hb : ∀ i, 15 ≤ i → n.testBit i = false := by
    intro i hi
    by_cases h32 : i < 32
    · have e1 : bt (nI n) i = n.testBit i := bt_nI h32
      rw [← e1, ← e]
      show bt (nxt v >>> (nI 16 &&& 31)) i = false
      rw [b_sshr 16 (by omega) _ h32]
      split
      · rw [show 16 + i = 31 by omega]; exact h31
      · exact h31
    · exact Nat.testBit_lt_two_pow (Nat.lt_of_lt_of_le hn (Nat.pow_le_pow_right (by decide) (by omega)))
  have hl : n < 2 ^ 15 := Nat.lt_pow_two_of_testBit n (fun i hi => hb i hi)
  exact ⟨n, by omega, by rw [e, z_nI]⟩
theorem dr_rg (v : Int32) : (nxt v >>> ((16 : Int32) &&& 31)) = z (dr (nxt v)) ∧ 0 ≤ dr (nxt v) ∧ dr (nxt v) ≤ 32767 := by
  obtain ⟨a, h, e⟩ := nxt_hi v
  have : dr (nxt v) = a := by unfold dr; rw [e, z_ti (by omega) (by omega)]
  rw [this, e]
  exact ⟨rfl, h⟩
theorem z_rem {a b : Int} (ha : 0 ≤ a ∧ a ≤ 32767) (hb : 0 < b ∧ b ≤ 1000) : z a - z a / z b * z b = z (a % b) := by
  rw [z_div (by omega) (by omega) (by omega) (by omega), z_mul, z_sub]
  congr 1
  rw [Int.emod_def, Int.mul_comm]
def quar (a : Wd) (p m : Int) : Int := silAll (adR a 3 (nz0 p 0 m (m + 3) 10)) (far a (-1))
def yrD (a : Wd) (t : Int32 × Int) : Int32 × Int := if dr (nxt t.1) % 3 = 0 then (nxt t.1, t.2 + silAll (soft a) (far a (-1))) else if dr (nxt t.1) % 3 = 1 ∧ 0 < a.n 0 ∧ 0 < a.n 2 then (nxt (nxt (nxt (nxt t.1))), t.2 + quar a (dr (nxt (nxt t.1)) % a.n 0) (dr (nxt (nxt (nxt (nxt t.1)))) % 44)) else (nxt t.1, t.2 + silAll a (far a (-1)))
def yrN (a : Wd) (v : Int32) : Nat → Int32 × Int
  | 0 => (v, 0)
  | d + 1 => yrD a (yrN a v d)
theorem yrN_s {a : Wd} {v : Int32} {d : Int} (h : 0 ≤ d) : yrN a v (d + 1).toNat = yrD a (yrN a v d.toNat) := by
  rw [show (d + 1).toNat = d.toNat + 1 by omega]; rfl
def a_year (a : Wd) (v n : Int) : Int := if 0 ≤ v ∧ (0 ≤ n ∧ n ≤ 20) then (yrN a (z v) n.toNat).2 else -1
theorem far_soft (a : Wd) : far (soft a) (-1) = far a (-1) := by
  have e : ∀ l : Nat, ini (soft a) (-1) l = ini a (-1) l := by
    intro l
    induction l with
    | zero => rfl
    | succ l ih =>
      funext p q
      show (if (l : Int) ≠ -1 ∧ ((p = a.f 1 0 l ∧ q = a.f 1 1 l) ∨ (p = a.f 1 1 l ∧ q = a.f 1 0 l)) then a.f 1 2 l + a.f 1 3 l * a.f 7 0 0 else ini (soft a) (-1) l p q) = (if (l : Int) ≠ -1 ∧ ((p = a.f 1 0 l ∧ q = a.f 1 1 l) ∨ (p = a.f 1 1 l ∧ q = a.f 1 0 l)) then a.f 1 2 l + a.f 1 3 l * a.f 7 0 0 else ini a (-1) l p q)
      rw [ih]
  unfold far
  show fwN (ini (soft a) (-1) (a.n 1).toNat) (a.n 0).toNat = _
  rw [e]
section YX
variable {h : PH} {w : Nat} {s : St} {a : Wd}
theorem x_next {v : Int32} {Q : Int32 → PH → Prop} (hq : Q (nxt v) h) : w_X9_nextNumber v h Q := hq
theorem fst_add {F : Int → Int → Int} {p o m o' t : Int} (ON : 0 ≤ a.n 3) : decide (fst (adR a 3 (nz0 p o m (m + 3) 10)) F o' t = -1) = (decide (fst a F o' t = -1) && !(decide (m ≤ t) && decide (t ≤ m + 3) && decide (F p o' < 100000) && decide (1 ≤ rem a 10 (F p o') t))) := by
  have e1 : fst (adR a 3 (nz0 p o m (m + 3) 10)) F o' t = ff (fun n => hr (adR a 3 (nz0 p o m (m + 3) 10)) F n o' t) (a.n 3 + 1) := by unfold fst; rw [adR_n]
  have e2 : ff (fun n => hr (adR a 3 (nz0 p o m (m + 3) 10)) F n o' t) (a.n 3) = fst a F o' t := ff_cong (fun n n0 n1 => hr_cong (adR_out (by omega)) (adR_out (by omega)) (adR_out (by omega)) (adR_out (by omega)) (adR_out (by omega)) rfl)
  rw [e1, ff_s ON, e2]
  congr 2
  unfold hr car
  rw [adR_in, adR_in, adR_in, adR_in, adR_in]
  show (decide (m ≤ t) && decide (t ≤ m + 3) && decide ((0 : Int) = 0) && (decide (F p o' < 100000) && decide ((1 : Int) ≤ 10) && decide (1 ≤ rem a 10 (F p o') t))) = _
  rw [decide_eq_true (rfl : (0 : Int) = 0), decide_eq_true (by omega : (1 : Int) ≤ 10), Bool.and_true, Bool.and_true]
  simp only [Bool.and_assoc]
theorem x_quar {Q : Int32 → PH → Prop} {p m : Int} (H : WX h w a) (X : FX h 100 (far a (-1))) (S : SX h 100 a (far a (-1))) (N : Now a) (hw : w = 8 ∨ w = 31) (eP : gP h 0 3 = w + 1) (hp : 0 ≤ p ∧ p < a.n 0) (hm : 0 ≤ m ∧ m < 44) (hq : ∀ g, (∀ c k, ¬ (c = w + 17 ∨ c = w + 18) → At h g c k) → Q (z (quar a p m)) g) : w_X9_quarrelled (z p) (z m) h Q := by
  have h6 := N.1.1
  have F3 := (far_gd (-1) N.1).2.2.1
  unfold quar silAll at hq
  rw [show (adR a 3 (nz0 p 0 m (m + 3) 10)).n 0 = a.n 0 from rfl] at hq
  generalize hF : far a (-1) = F at *
  unfold w_X9_quarrelled
  refine for21 (a.n 0) (fun o x g => x = z (sm (sil (adR a 3 (nz0 p 0 m (m + 3) 10)) F) (48 * o)) ∧ ∀ c k, ¬ (c = w + 17 ∨ c = w + 18) → At h g c k) 0 rfl (by omega) (by omega) (by omega) ⟨rfl, fun c k _ => At.rf h c k⟩ ?_ ?_
  · rintro kb o _ g o0 o1 ⟨rfl, hf⟩ hk
    have eg : gP g 0 3 = w + 1 := by rw [(hf 0 3 (by omega)).2.2]; exact eP
    have Wg : WX g w a := H.at' (fun c k b1 b2 b3 b4 b5 b6 => hf c k (by omega))
    have Xg : FX g 100 F := fun p q c1 c2 c3 c4 => by rw [(hf 101 _ (by omega)).1]; exact X p q c1 c2 c3 c4
    unfold w_X9_quarrelled_5
    rw [eg, show w + 1 - 1 = w by omega, show gI g (w + 1) 3 = z (a.n 0) from (Wg.n0 0 (by decide)).1]
    refine ⟨by omega, oX_w hw, ?_⟩
    rw [if_neg (by rw [z_le (by omega) (by omega) (by omega) (by omega)]; omega), zn_3, z_add, zn_10, z_inc]
    refine ⟨by omega, oX_w hw, ?_⟩
    refine x_mh Wg N.2.2.2.2.1 Xg (by omega) (by omega) (by omega) (F3 p o) (by omega) (by omega) (fun g2 v f2 hv hb => ?_)
    obtain ⟨u, u1, u2, u3⟩ := S o o0 (by omega)
    unfold w_X0_silentAt
    rw [zn_0, zn_6, if_neg (by rw [z_lt (by omega) (by omega) (by omega) (by omega)]; omega), if_neg (by rw [z_le (by omega) (by omega) (by omega) (by omega)]; omega), z_iN (a := o) (by omega) (by omega), (f2 103 _ (by omega)).2.1, (hf 103 _ (by omega)).2.1, u2]
    refine ⟨z_in (by omega) (by omega) (by omega), ?_⟩
    show w_J13_bitCount_95d88 (lN u &&& (lN v ^^^ (-1))) g2 _
    rw [l_andn]
    refine x_bitJ (by have := andn_lt (b := v) u1; omega) ?_
    rintro _ rfl
    rw [z_add]
    refine hk _ _ ⟨?_, fun c k hc => (hf c k hc).tr (f2 c k hc)⟩
    congr 1
    rw [show 48 * (o + 1) = 48 * o + ((48 : Nat) : Int) by omega, sm_split (by omega)]
    congr 1
    apply sm_cong
    intro t t0 t1
    have u3' : u.testBit t.toNat = (decide (o < a.n 0) && decide (fst a F o t = -1)) := u3 t t0 t1
    unfold bc sil
    rw [andn_bit, u3', hb t t0 t1, show (48 * o + t) / 48 = o by omega, show (48 * o + t) % 48 = t by omega, decide_eq_true o1, Bool.true_and]
    have e := fst_add (a := a) (F := F) (p := p) (o := 0) (m := m) (o' := o) (t := t) N.2.1.1.1
    rw [← e]
    by_cases c : fst (adR a 3 (nz0 p 0 m (m + 3) 10)) F o t = -1
    · rw [if_pos c, if_pos (decide_eq_true c)]
    · rw [if_neg c, if_neg (by rw [decide_eq_false c]; decide)]
  · rintro kb _ g ⟨rfl, hf⟩
    have eg : gP g 0 3 = w + 1 := by rw [(hf 0 3 (by omega)).2.2]; exact eP
    have Wg : WX g w a := H.at' (fun c k b1 b2 b3 b4 b5 b6 => hf c k (by omega))
    unfold w_X9_quarrelled_5
    rw [eg, show w + 1 - 1 = w by omega, show gI g (w + 1) 3 = z (a.n 0) from (Wg.n0 0 (by decide)).1]
    refine ⟨by omega, oX_w hw, ?_⟩
    rw [if_pos (by rw [z_le (by omega) (by omega) (by omega) (by omega)]; omega)]
    exact hq g hf
theorem xs_year {Q : Int32 → PH → Prop} {v n : Int} (I : IX h w s) (hv : i32 v) (hn : i32 n) (hq : ∀ g, IX g w s → KpX h g → Q (z (a_year s.a v n)) g) : w_X9_year (z v) (z n) h Q := by
  have n1 := I.1.1
  have n4 := I.1.2.2.2.1
  have h6 := n4.1.1
  have n10 := n4.2.2.2.2.2.2.2.2.2.2.1
  have hv1 := hv.1
  have hv2 := hv.2
  have hn1 := hn.1
  have hn2 := hn.2
  have hw := I.w
  have ref : ¬ (0 ≤ v ∧ (0 ≤ n ∧ n ≤ 20)) → Q (-1) h := fun c => by
    have e : a_year s.a v n = -1 := if_neg c
    rw [e] at hq
    exact hq h I (KpX.rf h)
  unfold w_X9_year
  rw [zn_0]
  by_cases c1 : v < 0
  · rw [if_pos (by rw [z_lt (by omega) (by omega) (by omega) (by omega)]; omega)]; exact ref (by omega)
  · rw [if_neg (by rw [z_lt (by omega) (by omega) (by omega) (by omega)]; omega)]
    by_cases c2 : n < 0
    · rw [if_pos (by rw [z_lt (by omega) (by omega) (by omega) (by omega)]; omega)]; exact ref (by omega)
    · rw [if_neg (by rw [z_lt (by omega) (by omega) (by omega) (by omega)]; omega), zn_20]
      by_cases c3 : n ≤ 20
      · rw [if_pos (by rw [z_le (by omega) (by omega) (by omega) (by omega)]; omega)]
        refine x_freshAir I.gh (fun g f N A => ?_)
        rw [far_sa (mkd_sa _ _)] at A
        have A' := A.sa (mkd_sa _ _).sy
        refine ⟨rfl, ?_⟩
        refine x_silentMinutes A'.2.2.1 h6 ?_
        have S77 : WS g 77 := I.2.2.1.fr (fun c k b1 b2 => f c k (by unfold airR; omega))
        have et : a_tried (mkd (fl h) s.a) 3 0 = silAll (soft s.a) (far s.a (-1)) := by
          rw [a_tried_sa (mkd_sa _ _)]
          show silAll (soft s.a) (far (soft s.a) (-1)) = _
          rw [far_soft]
        refine xq_tried (k := 3) (i := 0) N S77 (by omega) (by omega) (fun g2 f2 N2 S2 => ?_)
        rw [et]
        obtain ⟨q1, q2, q3⟩ := N2.p
        rw [q3]
        refine ⟨q1, oX_w n1, ?_⟩
        have W2 : WX g2 w s.a := N2.2.2.1.ext (fun r hr => (mkd_n (by omega)).symm) (fun r c k _ _ _ _ => rfl) (fun c => rfl) rfl rfl
        have A2 : AirX g2 100 s.a (far s.a (-1)) := A'.at' (fun c k b1 b2 => f2 c k (by unfold trR; omega))
        rw [show gI g2 (w + 1) 3 = z (s.a.n 0) from (W2.n0 0 (by decide)).1]
        rintro _ rfl
        have eP2 : gP g2 0 3 = w + 1 := N2.2.1
        have cg : 0 ≤ v ∧ (0 ≤ n ∧ n ≤ 20) := by omega
        have ea : a_year s.a v n = (yrN s.a (z v) n.toNat).2 := if_pos cg
        rw [ea] at hq
        refine for32 n (fun d x y g' => (x = (yrN s.a (z v) d.toNat).1 ∧ y = z (yrN s.a (z v) d.toNat).2) ∧ ∀ c k, ¬ (c = w + 17 ∨ c = w + 18) → At g2 g' c k) 0 rfl (by omega) (by omega) (by omega) ⟨⟨rfl, rfl⟩, fun c k _ => At.rf g2 c k⟩ ?_ ?_
        · rintro kb d _ _ g' d0 d1 ⟨⟨rfl, rfl⟩, hf⟩ hk
          have Wg : WX g' w s.a := W2.at' (fun c k b1 b2 b3 b4 b5 b6 => hf c k (by omega))
          have Xg : FX g' 100 (far s.a (-1)) := fun p q c1 c2 c3 c4 => by rw [(hf 101 _ (by omega)).1]; exact A2.1 p q c1 c2 c3 c4
          have Sg : SX g' 100 s.a (far s.a (-1)) := fun p c1 c2 => by rw [(hf 103 _ (by omega)).2.1]; exact A2.2.2.1 p c1 c2
          have eP : gP g' 0 3 = w + 1 := by rw [(hf 0 3 (by omega)).2.2]; exact eP2
          rw [yrN_s d0] at hk
          generalize yrN s.a (z v) d.toNat = T at *
          have r1 := dr_rg T.1
          have r2 := dr_rg (nxt T.1)
          have r4 := dr_rg (nxt (nxt (nxt T.1)))
          have eD : yrD s.a T = (if dr (nxt T.1) % 3 = 0 then (nxt T.1, T.2 + silAll (soft s.a) (far s.a (-1))) else if dr (nxt T.1) % 3 = 1 ∧ 0 < s.a.n 0 ∧ 0 < s.a.n 2 then (nxt (nxt (nxt (nxt T.1))), T.2 + quar s.a (dr (nxt (nxt T.1)) % s.a.n 0) (dr (nxt (nxt (nxt (nxt T.1)))) % 44)) else (nxt T.1, T.2 + silAll s.a (far s.a (-1)))) := rfl
          unfold w_X9_year_53
          rw [if_neg (by rw [z_le (by omega) (by omega) (by omega) (by omega)]; omega), z_inc]
          refine x_next ?_
          rw [eD] at hk
          clear eD
          generalize dr (nxt T.1) = b1 at *
          generalize dr (nxt (nxt T.1)) = b2 at *
          generalize dr (nxt (nxt (nxt (nxt T.1)))) = b4 at *
          rw [r1.1, zn_3, z_rem r1.2 (by omega)]
          have r1' := r1.2
          rintro _ rfl
          have last : ¬ b1 % 3 = 0 → ¬ (b1 % 3 = 1 ∧ 0 < s.a.n 0 ∧ 0 < s.a.n 2) → w_X9_year_159 Q kb (z n) (z (silAll s.a (far s.a (-1)))) (z (silAll (soft s.a) (far s.a (-1)))) (z (s.a.n 0)) (nxt T.1) (z T.2) (z d) g' := by
            intro d1 d2
            unfold w_X9_year_159
            rintro _ rfl
            rw [z_add, z_inc]
            rw [if_neg d1, if_neg d2] at hk
            exact hk _ _ g' ⟨⟨rfl, rfl⟩, hf⟩
          by_cases e0 : b1 % 3 = 0
          · rw [if_pos (show z (b1 % 3) = 0 by rw [e0]; rfl)]
            rintro _ rfl
            rw [z_add]
            rw [if_pos e0] at hk
            exact hk _ _ g' ⟨⟨rfl, rfl⟩, hf⟩
          · rw [if_neg (show ¬ z (b1 % 3) = 0 from z_ne (by omega) (by omega) (by decide) (by decide) e0)]
            by_cases e1 : b1 % 3 = 1
            · rw [if_pos (show z (b1 % 3) = 1 by rw [e1]; rfl), zn_0]
              by_cases e2 : s.a.n 0 ≤ 0
              · rw [if_pos (by rw [z_le (by omega) (by omega) (by omega) (by omega)]; omega)]
                exact last e0 (fun x => by omega)
              · rw [if_neg (by rw [z_le (by omega) (by omega) (by omega) (by omega)]; omega), eP, show w + 1 - 1 = w by omega]
                refine ⟨by omega, oX_w n1, ?_⟩
                rw [show gI g' (w + 5) 3 = z (s.a.n 2) from (Wg.n0 2 (by decide)).1]
                by_cases e3 : s.a.n 2 ≤ 0
                · rw [if_pos (by rw [z_le (by omega) (by omega) (by omega) (by omega)]; omega)]
                  exact last e0 (fun x => by omega)
                · rw [if_neg (by rw [z_le (by omega) (by omega) (by omega) (by omega)]; omega)]
                  refine x_next ?_
                  refine x_next ?_
                  refine x_next ?_
                  rw [r2.1, r4.1, zn_44, z_rem r2.2 (by omega), z_rem r4.2 (by omega)]
                  have q2 := Int.emod_nonneg b2 (show s.a.n 0 ≠ 0 by omega)
                  have q3 := Int.emod_lt_of_pos b2 (show 0 < s.a.n 0 by omega)
                  have q4 : 0 ≤ b4 % 44 ∧ b4 % 44 < 44 := by omega
                  refine ⟨z_ne (by omega) (by omega) (by omega) (by omega) (by omega), ?_⟩
                  rw [if_neg e0, if_pos ⟨e1, by omega, by omega⟩] at hk
                  clear last r1 r2 r4
                  generalize b2 % s.a.n 0 = c2 at *
                  generalize b4 % 44 = c4 at *
                  refine x_quar Wg Xg Sg n4 hw eP ⟨q2, q3⟩ q4 (fun g3 f3 => ?_)
                  rintro _ rfl
                  rw [z_add]
                  exact hk _ _ g3 ⟨⟨rfl, rfl⟩, fun c k hc => (hf c k hc).tr (f3 c k hc)⟩
            · rw [if_neg (show ¬ z (b1 % 3) = 1 from z_ne (by omega) (by omega) (by decide) (by decide) e1)]
              exact last e0 (fun x => e1 x.1)
        · rintro kb _ _ g' ⟨⟨rfl, rfl⟩, hf⟩
          unfold w_X9_year_53
          rw [if_pos (by rw [z_le (by omega) (by omega) (by omega) (by omega)]; omega)]
          have ff : ∀ c k, ¬ scrX w c k → At h g' c k := fun c k hc => ((f c k (by unfold scrX at hc; unfold airR; omega)).tr (f2 c k (by unfold scrX at hc; unfold trR; omega))).tr (hf c k (by unfold scrX at hc; omega))
          have N3 : NX g' w (mkd (fl h) s.a) := N2.at' (fun k => hf 0 k (by omega)) (fun c k b1 b2 b3 => hf c k (by unfold lawR at b3; omega)) (fun c k b1 b2 => hf c k (by omega))
          have r := I.fin N3 (S2.fr (fun c k b1 b2 => hf c k (by omega))) ff
          exact hq g' r.1 r.2
      · rw [if_neg (by rw [z_le (by omega) (by omega) (by omega) (by omega)]; omega)]; exact ref (by omega)
end YX
