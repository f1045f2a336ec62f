/-! ===== small words of bits ===== -/
def cn (f : Int → Bool) (n : Int) : Int := sm (fun k => if f k = true then 1 else 0) n
theorem cn_rg (f : Int → Bool) {n : Int} (h : 0 ≤ n) : 0 ≤ cn f n ∧ cn f n ≤ n * 1 := sm_rg h (by omega) (fun j _ _ => by split <;> omega)
theorem sm_pad {f g : Int → Int} {n : Int} (hn : 0 ≤ n) (h1 : ∀ k, 0 ≤ k → k < n → f k = g k) : ∀ d : Nat, (∀ k, n ≤ k → k < n + d → f k = 0) → sm f (n + d) = sm g n
  | 0, _ => by rw [show n + ((0 : Nat) : Int) = n by omega]; exact sm_cong h1
  | d + 1, h => by
    rw [show n + ((d + 1 : Nat) : Int) = n + (d : Nat) + 1 by omega, sm_s (by omega), sm_pad hn h1 d (fun k c1 c2 => h k c1 (by omega)), h _ (by omega) (by omega), Int.add_zero]
theorem sm_pad' {f g : Int → Int} {n N : Int} (hn : 0 ≤ n) (hN : n ≤ N) (h1 : ∀ k, 0 ≤ k → k < n → f k = g k) (h2 : ∀ k, n ≤ k → k < N → f k = 0) : sm f N = sm g n := by
  have := sm_pad hn h1 (N - n).toNat (fun k c1 c2 => h2 k c1 (by omega))
  rw [show n + ((N - n).toNat : Int) = N by omega] at this
  exact this
theorem bt_nI {v l : Nat} (h : l < 32) : bt (nI v) l = v.testBit l := by
  show (BitVec.ofNat 32 v).getLsbD l = _
  rw [BitVec.getLsbD_ofNat, decide_eq_true h]; simp
theorem bt_wd {f : Int → Bool} {n l : Nat} (h : l < 32) : bt (nI (wdN f n)) l = (decide (l < n) && f l) := by rw [bt_nI h, wdN_bit]
theorem wd_ext {x : Int32} {f : Int → Bool} {n : Nat} (h : ∀ l : Nat, l < 32 → bt x l = (decide (l < n) && f l)) : x = nI (wdN f n) := b_ext (fun i hi => by rw [h i hi, bt_wd hi])
theorem wd_on {f : Int → Bool} {i : Int} (h0 : 0 ≤ i) (h1 : i < 31) (hf : f i = true) : nI (wdN f i.toNat) ||| ((1 : Int32) <<< (z i &&& 31)) = nI (wdN f (i + 1).toNat) := by
  refine wd_ext (fun l hl => ?_)
  rw [bt_on h0 (by omega) hl, bt_wd hl]
  by_cases e : l = i.toNat
  · subst e
    rw [decide_eq_true (rfl : i.toNat = i.toNat), decide_eq_true (by omega : i.toNat < (i + 1).toNat), show ((i.toNat : Nat) : Int) = i by omega, hf]; simp
  · rw [decide_eq_false e]
    by_cases c : l < i.toNat
    · rw [decide_eq_true c, decide_eq_true (by omega : l < (i + 1).toNat)]; simp
    · rw [decide_eq_false c, decide_eq_false (by omega : ¬ l < (i + 1).toNat)]; simp
theorem wd_off {f : Int → Bool} {i : Int} (h0 : 0 ≤ i) (hf : f i = false) : wdN f (i + 1).toNat = wdN f i.toNat := by
  rw [show (i + 1).toNat = i.toNat + 1 by omega]
  show wdN f i.toNat ||| (if f ((i.toNat : Nat) : Int) = true then 2 ^ i.toNat else 0) = _
  rw [show ((i.toNat : Nat) : Int) = i by omega, hf, if_neg (by decide), Nat.or_zero]
theorem bcI_tab : ∀ x : Fin 512, (bcI x.val : Int) = sm (bc x.val) 9 := by decide +kernel
theorem bcI_wd {f : Int → Bool} {n : Int} (h0 : 0 ≤ n) (h1 : n ≤ 9) : nI (bcI (wdN f n.toNat)) = z (cn f n) := by
  have hl : wdN f n.toNat < 512 := Nat.lt_of_lt_of_le (wdN_lt f n.toNat) (by rw [show (512 : Nat) = 2 ^ 9 by decide]; exact Nat.pow_le_pow_right (by decide) (by omega))
  have e := bcI_tab ⟨wdN f n.toNat, hl⟩
  simp only at e
  rw [← z_nI, e]
  congr 1
  refine sm_pad' h0 h1 (fun k k0 k1 => ?_) (fun k k0 k1 => ?_)
  · unfold bc
    rw [wdN_bit, decide_eq_true (by omega : k.toNat < n.toNat), show ((k.toNat : Nat) : Int) = k by omega]; simp
  · unfold bc
    rw [wdN_bit, decide_eq_false (by omega : ¬ k.toNat < n.toNat)]; simp
theorem x_bits {f : Int → Bool} {n : Int} {x : Int32} {h : PH} {Q : Int32 → PH → Prop} (h0 : 0 ≤ n) (h1 : n ≤ 9) (e : x = nI (wdN f n.toNat)) (hq : Q (z (cn f n)) h) : w_J6_bitCount_0f7a4 x h Q := by
  subst e
  have hl : wdN f n.toNat < 512 := Nat.lt_of_lt_of_le (wdN_lt f n.toNat) (by rw [show (512 : Nat) = 2 ^ 9 by decide]; exact Nat.pow_le_pow_right (by decide) (by omega))
  refine x_bitI hl ?_
  rw [bcI_wd h0 h1]
  exact hq
theorem m_bitsOf {x : Int32} {h : PH} {Q : Int32 → PH → Prop} (hq : Q (z (sm (fun k => if bt x k.toNat = true then 1 else 0) 10)) h) : w_X10_bitsOf x h Q := by
  unfold w_X10_bitsOf
  refine for21 10 (fun i s g => h = g ∧ s = z (sm (fun k => if bt x k.toNat = true then 1 else 0) i)) 0 rfl (by omega) (by omega) (by omega) ⟨rfl, rfl⟩ ?_ ?_
  · rintro kb i _ _ i0 i1 ⟨rfl, rfl⟩ hk
    unfold w_X10_bitsOf_4
    rw [zn_10, if_neg (by rw [z_le (by omega) (by omega) (by omega) (by omega)]; omega)]
    rintro _ rfl
    rw [bitI i0 (by omega), z_add, z_inc]
    exact hk _ _ ⟨rfl, by rw [sm_s i0]⟩
  · rintro kb _ _ ⟨rfl, rfl⟩
    unfold w_X10_bitsOf_4
    rw [zn_10, if_pos (by rw [z_le (by omega) (by omega) (by omega) (by omega)]; omega)]
    exact hq
theorem m_bits {f : Int → Bool} {n : Int} {x : Int32} {h : PH} {Q : Int32 → PH → Prop} (h0 : 0 ≤ n) (h1 : n ≤ 10) (e : ∀ l : Nat, l < 32 → bt x l = (decide (l < n.toNat) && f l)) (hq : Q (z (cn f n)) h) : w_X10_bitsOf x h Q := by
  refine m_bitsOf ?_
  rw [show sm (fun k => if bt x k.toNat = true then 1 else 0) 10 = cn f n from sm_pad' h0 h1 (fun k k0 k1 => by rw [e _ (by omega), decide_eq_true (by omega : k.toNat < n.toNat), show ((k.toNat : Nat) : Int) = k by omega]; simp) (fun k k0 k1 => by rw [e _ (by omega), decide_eq_false (by omega : ¬ k.toNat < n.toNat)]; simp)]
  exact hq
/-! ===== dogs ===== -/
def dg (a : Wd) : Int → Bool := fun p => decide (0 < a.f 0 1 p)
theorem x_dogs {h : PH} {w : Nat} {a : Wd} {Q : Int32 → PH → Prop} (H : WX h w a) (N : Now a) (hq : Q (nI (wdN (dg a) (a.n 0).toNat)) h) : w_X8_dogs w h Q := by
  have h6 := N.1.1
  have n7 := N.2.2.2.2.2.2.2.2.2.2
  unfold w_X8_dogs
  refine for21 (a.n 0) (fun i s g => h = g ∧ s = nI (wdN (dg a) i.toNat)) 0 rfl (by omega) (by omega) (by omega) ⟨rfl, rfl⟩ ?_ ?_
  · rintro kb i _ _ i0 i1 ⟨rfl, rfl⟩ hk
    unfold w_X8_dogs_4
    rw [(H.n0 0 (by decide)).1, if_neg (by rw [z_le (by omega) (by omega) (by omega) (by omega)]; omega)]
    refine H.at 0 1 (by decide) rfl (by decide) rfl rfl i0 i1 ?_
    have b := (n7.2.2.2.2.2.1 i i0 i1).2
    by_cases e : 0 < a.f 0 1 i
    · rw [if_neg (by rw [zn_0, z_le (by omega) (by omega) (by omega) (by omega)]; omega)]
      rintro _ rfl
      rw [wd_on i0 (by omega) (by unfold dg; exact decide_eq_true e), z_inc]
      exact hk _ _ ⟨rfl, rfl⟩
    · rw [if_pos (by rw [zn_0, z_le (by omega) (by omega) (by omega) (by omega)]; omega), z_inc]
      exact hk _ _ ⟨rfl, by rw [wd_off i0 (by unfold dg; exact decide_eq_false e)]⟩
  · rintro kb _ _ ⟨rfl, rfl⟩
    unfold w_X8_dogs_4
    rw [(H.n0 0 (by decide)).1, if_pos (by rw [z_le (by omega) (by omega) (by omega) (by omega)]; omega)]
    exact hq
/-! ===== the reference's owner ===== -/
def thr (a : Wd) (o k : Int) : Int := if 0 ≤ o ∧ o < a.n 2 then (if 0 ≤ k ∧ k ≤ 4 then 0 else 2) else 1
def a_owner (a : Wd) (o k : Int) : Int := if k = 0 then a.f 2 1 o else if k = 1 then a.f 2 2 o else if k = 3 then trs a (far a (-1)) o (-1) else if k = 4 then trs a (far a (-1)) (-1) o else mns a o
theorem m_isOwner {h : PH} {a : Wd} {o : Int} {Q : Int32 → PH → Prop} (M : MW h a) (ho : -2147483648 ≤ o ∧ o < 2147483648) (hT : 0 ≤ o → o < a.n 2 → Q 1 h) (hF : ¬ (0 ≤ o ∧ o < a.n 2) → Q 0 h) : w_X10_isOwner (z o) h Q := by
  unfold w_X10_isOwner
  rw [iN_2]
  have b := M.2.2.2.2.2.2.2.2.2.2.2.2.1
  exact m_lt M.1.1.2.2.1 (by omega) ho hT hF
theorem mq_owner {h : PH} {a : Wd} {o k : Int} {Q : Int32 → PH → Prop} (M : MW h a) (ho : -2147483648 ≤ o ∧ o < 2147483648) (hk : -2147483648 ≤ k ∧ k < 2147483648) (hq : ∀ g, (∀ c k, ¬ scrM c k → At h g c k) → gI g 0 0 = z (thr a o k) → Q (z (if thr a o k = 0 then a_owner a o k else 0)) g) : w_X10_owner (z o) (z k) h Q := by
  have n4 := M.2.2
  have OL := n4.1.1
  have n7 := n4.2.2.2.2.2.2.2.2.2.2
  have bad : ∀ t : Int, thr a o k = t → (t = 1 ∨ t = 2) → w_X10_owner_27 Q (z o) (z k) (z t) h := by
    intro t et ht
    unfold w_X10_owner_27
    rintro _ rfl
    have e0 : gI (sI h 0 0 (z t)) 0 0 = z t := gI_in rfl rfl
    rw [e0, if_neg (by rw [zn_0]; exact z_ne (by omega) (by omega) (by omega) (by omega) (by omega))]
    have := hq _ (fr0 h (z t)) (by rw [e0, et])
    rw [if_neg (by omega)] at this
    exact this
  unfold w_X10_owner
  refine m_isOwner M ho (fun c1 c2 => ?_) (fun c1 => ?_)
  · rw [if_neg (by decide), zn_0, zn_4]
    by_cases c3 : k < 0
    · rw [if_pos (by rw [z_lt (by omega) (by omega) (by omega) (by omega)]; omega)]
      unfold w_X10_owner_22
      exact bad 2 (by unfold thr; rw [if_pos ⟨c1, c2⟩, if_neg (by omega)]) (Or.inr rfl)
    · rw [if_neg (by rw [z_lt (by omega) (by omega) (by omega) (by omega)]; omega)]
      by_cases c4 : k ≤ 4
      · rw [if_pos (by rw [z_le (by omega) (by omega) (by omega) (by omega)]; omega)]
        have et : thr a o k = 0 := by unfold thr; rw [if_pos ⟨c1, c2⟩, if_pos ⟨by omega, c4⟩]
        unfold w_X10_owner_27
        rintro _ rfl
        have e0 : gI (sI h 0 0 (z 0)) 0 0 = z 0 := gI_in rfl rfl
        have M1 : MW (sI h 0 0 (z 0)) a := M.at' (fr0 h (z 0))
        have rf := hq _ (fr0 h (z 0)) (by rw [e0, et])
        rw [if_pos et] at hq rf
        unfold a_owner at hq rf
        rw [e0, if_pos (show z 0 = 0 from rfl)]
        by_cases k0 : k = 0
        · rw [if_pos (show z k = 0 by rw [k0]; rfl)]
          rw [if_pos k0] at rf
          refine ⟨z_in (by omega) (by omega) (by omega), ?_⟩
          rw [z_iN (by omega) (by omega)]
          have := M1.2.1.2.2.2.2.2.1 o c1 c2
          rw [show (4 * 0 + o) = o by omega] at this
          rw [this]
          exact rf
        · rw [if_neg (show ¬ z k = 0 from z_ne (by omega) (by omega) (by decide) (by decide) k0)]
          rw [if_neg k0] at hq rf
          by_cases k1 : k = 1
          · rw [if_pos (by rw [k1]; rfl)]
            rw [if_pos k1] at rf
            refine ⟨z_in (by omega) (by omega) (by omega), ?_⟩
            rw [z_iN (by omega) (by omega), (M1.1.2.2.2.1 o c1 c2).2, zn_1, z_sub, show a.f 2 2 o + 1 - 1 = a.f 2 2 o by omega]
            exact rf
          · rw [if_neg (show ¬ z k = 1 from z_ne (by omega) (by omega) (by decide) (by decide) k1)]
            rw [if_neg k1] at hq rf
            clear rf
            refine m_layDay M1.1 M1.2.1 n4 (fun g f1 D1 => ?_)
            have fr1 := frD (fr0 h (z 0)) f1
            have g0 : gI g 0 0 = z 0 := by rw [(f1 0 0 (by unfold dayR; omega)).1]; exact e0
            by_cases k3 : k = 3
            · rw [if_pos (by rw [k3]; rfl)]
              rw [z_m1]
              refine m_trespasses (by_ := o) (on := -1) D1 n4 (by omega) (by omega) (fun g2 f2 => ?_)
              have := hq g2 (fun c j hc => (fr1 c j hc).tr (f2 c j (by unfold scrM at hc; unfold lawC; omega))) (by rw [(f2 0 0 (by unfold lawC; omega)).1, g0, et])
              rw [if_pos k3] at this
              exact this
            · rw [if_neg (show ¬ z k = 3 from z_ne (by omega) (by omega) (by decide) (by decide) k3)]
              by_cases k4 : k = 4
              · rw [if_pos (show z k = 4 by rw [k4]; rfl)]
                rw [z_m1]
                refine m_trespasses (by_ := -1) (on := o) D1 n4 (by omega) (by omega) (fun g2 f2 => ?_)
                have := hq g2 (fun c j hc => (fr1 c j hc).tr (f2 c j (by unfold scrM at hc; unfold lawC; omega))) (by rw [(f2 0 0 (by unfold lawC; omega)).1, g0, et])
                rw [if_neg k3, if_pos k4] at this
                exact this
              · rw [if_neg (show ¬ z k = 4 from z_ne (by omega) (by omega) (by decide) (by decide) k4)]
                have fin := hq g fr1 (by rw [g0, et])
                rw [if_neg k3, if_neg k4] at fin
                have e20 : gI g 2 0 = z (a.n 0) := D1.1.1.1
                refine for21 (48 * a.n 0) (fun i s g' => g = g' ∧ s = z (sm (mine a o) i)) 0 rfl (by omega) (by omega) (by omega) ⟨rfl, rfl⟩ ?_ ?_
                · rintro kb i _ _ i0 i1 ⟨rfl, rfl⟩ hk
                  unfold w_X10_owner_97
                  have b := whs_rg n4.2.1 n4.2.2.1 (far a (-1)) (i / 48) (i % 48)
                  rw [iN_0, e20, zn_48, z_mul, if_neg (by rw [z_le (by omega) (by omega) (by omega) (by omega)]; omega), z_iN (by omega) (by omega), D1.2.2.2.2.2.2.k i0 i1]
                  refine ⟨z_in (by omega) (by omega) (by omega), ?_⟩
                  by_cases e : whs a (far a (-1)) (i / 48) (i % 48) = o
                  · rw [if_pos (by rw [e])]
                    rintro _ rfl
                    rw [z_inc, z_inc]
                    refine hk _ _ ⟨rfl, ?_⟩
                    rw [sm_s i0]; unfold mine; rw [if_pos e]
                  · rw [if_neg (z_ne (by omega) (by omega) (by omega) (by omega) e)]
                    rintro _ rfl
                    rw [z_inc, zn_0, z_add]
                    refine hk _ _ ⟨rfl, ?_⟩
                    rw [sm_s i0]; unfold mine; rw [if_neg e]
                · rintro kb _ _ ⟨rfl, rfl⟩
                  unfold w_X10_owner_97
                  rw [iN_0, e20, zn_48, z_mul, if_pos (by rw [z_le (by omega) (by omega) (by omega) (by omega)]; omega)]
                  exact fin
      · rw [if_neg (by rw [z_le (by omega) (by omega) (by omega) (by omega)]; omega)]
        unfold w_X10_owner_22
        exact bad 2 (by unfold thr; rw [if_pos ⟨c1, c2⟩, if_neg (by omega)]) (Or.inr rfl)
  · rw [if_pos rfl]
    exact bad 1 (by unfold thr; rw [if_neg c1]) (Or.inl rfl)
