/-! ===== names, sums, counts ===== -/
def rgI (v : Int) : Prop := -2147483648 ≤ v ∧ v < 2147483648
theorem m_found {r : Nat} {fr n v : Int} {f : Int → Int} {h : PH} {x1 x2 x3 : Int32} {Q : Int32 → PH → Prop} (e1 : x1 = z fr) (e2 : x2 = z n) (e3 : x3 = z v) (hv : -2147483648 ≤ v ∧ v < 2147483648) (h0 : 0 ≤ n) (hb : 0 ≤ fr ∧ fr + n ≤ (alM r : Int)) (ha : alM r ≤ 1000) (hf : ∀ k, 0 ≤ k → k < n → gI h r (fr + k).toNat = z (f k) ∧ -2147483648 ≤ f k ∧ f k < 2147483648) (hq : Q (z (ff (fun k => decide (f k = v)) n)) h) : w_X10_found r x1 x2 x3 h Q := by
  subst e1 e2 e3
  unfold w_X10_found
  refine for10 n (fun i g => h = g ∧ ∀ j, 0 ≤ j → j < i → f j ≠ v) 0 rfl (by omega) (by omega) h0 ⟨rfl, fun j b1 b2 => by omega⟩ ?_ ?_
  · rintro kb i _ i0 i1 ⟨rfl, hJ⟩ hk
    unfold w_X10_found_3
    obtain ⟨q1, q2, q3⟩ := hf i i0 i1
    rw [if_neg (by rw [z_le (by omega) (by omega) (by omega) (by omega)]; omega), z_add, z_iN (by omega) (by omega), q1]
    refine ⟨z_in (by omega) (by omega) (by omega), ?_⟩
    by_cases e : f i = v
    · rw [if_pos (by rw [e])]
      have : ff (fun k => decide (f k = v)) n = i := ff_yes i0 i1 (by simp [e]) (fun j b1 b2 => by simp [hJ j b1 b2])
      rw [this] at hq
      exact hq
    · rw [if_neg (z_ne q2 q3 hv.1 hv.2 e), z_inc]
      exact hk _ ⟨rfl, fun j b1 b2 => by
        by_cases ej : j = i
        · rw [ej]; exact e
        · exact hJ j b1 (by omega)⟩
  · rintro kb _ ⟨rfl, hJ⟩
    unfold w_X10_found_3
    rw [if_pos (by rw [z_le (by omega) (by omega) (by omega) (by omega)]; omega)]
    rw [ff_no (fun j b1 b2 => by simp [hJ j b1 b2])] at hq
    exact hq
def a_named (a : Wd) (k v : Int) : Int := if k = 0 then ff (fun j => decide (a.f 0 0 j = v)) (a.n 0) else if k = 1 then ff (fun j => decide (a.f 2 0 j = v)) (a.n 2) else -1
theorem xq_named {h : PH} {w : Nat} {a : Wd} {k v : Int} {Q : Int32 → PH → Prop} (N : NX h w a) (hk : -2147483648 ≤ k ∧ k < 2147483648) (hv : -2147483648 ≤ v ∧ v < 2147483648) (hq : Q (z (a_named a k v)) h) : w_X9_named (z k) (z v) h Q := by
  obtain ⟨p1, p2, p3⟩ := N.p
  obtain ⟨n1, n2, n3, n4, n5, n6⟩ := id N
  have n7 := n4.2.2.2.2.2.2.2.2.2.2
  unfold w_X9_named
  rw [p3]
  unfold a_named at hq
  by_cases c1 : k = 0
  · rw [if_pos (by rw [c1]; rfl)]
    rw [if_pos c1] at hq
    refine ⟨p1, oX_w n1, ?_⟩
    refine x_find (f := a.f 0 0) (n3.rw 0 (by decide)) (c := 0) rfl rfl hv (by omega) (by decide) (fun j j0 j1 => ?_) hq
    have r := (n3.1 0 (by decide)).2 j 0 j0 j1 (by decide)
    have b := (n7.2.2.2.2.2.1 j j0 j1).1
    exact ⟨r, by omega, by omega⟩
  · rw [if_neg (show ¬ z k = 0 from z_ne hk.1 hk.2 (by decide) (by decide) c1)]
    rw [if_neg c1] at hq
    by_cases c2 : k = 1
    · rw [if_pos (by rw [c2]; rfl)]
      rw [if_pos c2] at hq
      refine ⟨p1, oX_w n1, ?_⟩
      refine x_find (f := a.f 2 0) (n3.rw 2 (by decide)) (c := 0) rfl rfl hv (by omega) (by decide) (fun j j0 j1 => ?_) hq
      have r := (n3.1 2 (by decide)).2 j 0 j0 j1 (by decide)
      have b := (n7.2.1 j j0 j1).1
      exact ⟨r, by omega, by omega⟩
    · rw [if_neg (show ¬ z k = 1 from z_ne hk.1 hk.2 (by decide) (by decide) c2)]
      rw [if_neg c2] at hq
      exact hq
theorem mq_named {h : PH} {a : Wd} {k v : Int} {Q : Int32 → PH → Prop} (M : MW h a) (hk : -2147483648 ≤ k ∧ k < 2147483648) (hv : -2147483648 ≤ v ∧ v < 2147483648) (hq : ∀ g, (∀ c k, ¬ scrM c k → At h g c k) → Q (z (a_named a k v)) g) : w_X10_named (z k) (z v) h Q := by
  unfold w_X10_named
  rintro _ rfl
  have M1 := M.at' (fr0 h 0)
  have hq := hq _ (fr0 h 0)
  have n7 := M.2.2.2.2.2.2.2.2.2.2.2.2
  have n6 := M.2.2.1.1
  unfold a_named at hq
  by_cases c1 : k = 0
  · rw [if_pos (by rw [c1]; rfl), iN_0]
    rw [if_pos c1] at hq
    refine m_found (fr := 0) (f := a.f 0 0) rfl M1.1.1.1 rfl hv (by omega) ⟨by omega, by rw [show alM 3 = 12 from rfl]; omega⟩ (by decide) (fun j j0 j1 => ?_) hq
    have r := (M1.1.2.1 j j0 j1).1
    have b := (n7.2.2.2.2.2.1 j j0 j1).1
    rw [Int.zero_add]
    exact ⟨r, by omega, by omega⟩
  · rw [if_neg (show ¬ z k = 0 from z_ne hk.1 hk.2 (by decide) (by decide) c1)]
    rw [if_neg c1] at hq
    by_cases c2 : k = 1
    · rw [if_pos (by rw [c2]; rfl), iN_2]
      rw [if_pos c2] at hq
      refine m_found (fr := 0) (f := a.f 2 0) rfl M1.1.1.2.2.1 rfl hv (by omega) ⟨by omega, by rw [show alM 7 = 8 from rfl]; omega⟩ (by decide) (fun j j0 j1 => ?_) hq
      have r := (M1.1.2.2.2.1 j j0 j1).1
      have b := (n7.2.1 j j0 j1).1
      rw [Int.zero_add]
      exact ⟨r, by omega, by omega⟩
    · rw [if_neg (show ¬ z k = 1 from z_ne hk.1 hk.2 (by decide) (by decide) c2)]
      rw [if_neg c2] at hq
      exact hq
theorem x_sum {h : PH} {t : Nat} {W N n c : Int} {x1 : Int32} {f : Int → Int} {Q : Int32 → PH → Prop} (R : Rw h t W N n) (e1 : x1 = z c) (h3 : 0 ≤ c) (h4 : c < W) (hf : ∀ k, 0 ≤ k → k < n → gI h (t + 1) (k * W + c).toNat = z (f k)) (hq : Q (z (sm f n)) h) : w_X6_sum t x1 h Q := by
  subst e1
  have R' := R
  obtain ⟨a1, a2, a3, a4, a5, a6, a7, a8, a9⟩ := R'
  unfold w_X6_sum
  refine for21 n (fun i s g => h = g ∧ s = z (sm f i)) 0 rfl (by omega) (by omega) a4 ⟨rfl, rfl⟩ ?_ ?_
  · rintro kb i _ _ i0 i1 ⟨rfl, rfl⟩ hk
    unfold w_X6_sum_4
    rw [a3, if_neg (by rw [z_le (by omega) (by omega) (by omega) (by omega)]; omega)]
    refine x_at R rfl rfl i0 i1 h3 h4 ?_
    rintro _ rfl
    rw [hf i i0 i1, z_add, z_inc]
    exact hk _ _ ⟨rfl, by rw [sm_s i0]⟩
  · rintro kb _ _ ⟨rfl, rfl⟩
    unfold w_X6_sum_4
    rw [a3, if_pos (by rw [z_le (by omega) (by omega) (by omega) (by omega)]; omega)]
    exact hq
/-- how many minutes are an owner's -/
def mine (a : Wd) (o k : Int) : Int := if whs a (far a (-1)) (k / 48) (k % 48) = o then 1 else 0
def mns (a : Wd) (o : Int) : Int := sm (mine a o) (48 * a.n 0)
theorem x_minutesOf {h : PH} {t : Nat} {a : Wd} {o : Int} {Q : Int32 → PH → Prop} (A : AirX h t a (far a (-1))) (N : Now a) (ho : 0 ≤ o ∧ o < 4) (hq : Q (z (mns a o)) h) : w_X0_minutesOf t (z o) h Q := by
  have h6 := N.1.1
  unfold w_X0_minutesOf
  refine for21 6 (fun p s g => h = g ∧ s = z (sm (mine a o) (48 * min p (a.n 0)))) 0 rfl (by omega) (by omega) (by omega) ⟨rfl, by rw [show min (0 : Int) (a.n 0) = 0 by omega]; rfl⟩ ?_ ?_
  · rintro kb p _ _ p0 p1 ⟨rfl, rfl⟩ hk
    unfold w_X0_minutesOf_4
    rw [zn_6, if_neg (by rw [z_le (by omega) (by omega) (by omega) (by omega)]; omega)]
    refine for21 48 (fun m s g => h = g ∧ s = z (sm (mine a o) (if p < a.n 0 then 48 * p + m else 48 * a.n 0))) 0 rfl (by omega) (by omega) (by omega) ⟨rfl, ?_⟩ ?_ ?_
    · by_cases c : p < a.n 0
      · rw [if_pos c, show min p (a.n 0) = p by omega, Int.add_zero]
      · rw [if_neg c, show min p (a.n 0) = a.n 0 by omega]
    · rintro kb2 m _ _ m0 m1 ⟨rfl, rfl⟩ hk2
      unfold w_X0_minutesOf_13
      rw [zn_48, if_neg (by rw [z_le (by omega) (by omega) (by omega) (by omega)]; omega)]
      have yes : ∀ d, p < a.n 0 → mine a o (48 * p + m) = d → sm (mine a o) (if p < a.n 0 then 48 * p + (m + 1) else 48 * a.n 0) = sm (mine a o) (if p < a.n 0 then 48 * p + m else 48 * a.n 0) + d := by
        intro d c e
        rw [if_pos c, if_pos c, show 48 * p + (m + 1) = 48 * p + m + 1 by omega, sm_s (by omega), e]
      have em : mine a o (48 * p + m) = if whs a (far a (-1)) p m = o then 1 else 0 := by
        unfold mine
        rw [show (48 * p + m) / 48 = p by omega, show (48 * p + m) % 48 = m by omega]
      refine x_isSilent A.2.2.1 ⟨p0, p1⟩ ⟨m0, m1⟩ (fun c1 c2 => ?_) (fun c1 => ?_)
      · rw [if_neg (by decide)]
        unfold w_X0_holder
        refine x_isSpot ⟨p0, p1⟩ ⟨m0, m1⟩ ?_
        rw [if_neg (by decide), zn_48, z_mul, z_add, z_iN (by omega) (by omega), A.2.2.2.2 p m p0 c1 m0 m1]
        refine ⟨z_in (by omega) (by omega) (by omega), ?_⟩
        have b := whs_rg N.2.1 N.2.2.1 (far a (-1)) p m
        by_cases e : whs a (far a (-1)) p m = o
        · show (if z (whs a (far a (-1)) p m) = z o then _ else _)
          rw [if_pos (congrArg z e), z_inc, z_inc]
          exact hk2 _ _ ⟨rfl, by rw [yes 1 c1 (by rw [em, if_pos e])]⟩
        · show (if z (whs a (far a (-1)) p m) = z o then _ else _)
          rw [if_neg (z_ne (by omega) (by omega) (by omega) (by omega) e), z_inc]
          exact hk2 _ _ ⟨rfl, by rw [yes 0 c1 (by rw [em, if_neg e]), Int.add_zero]⟩
      · rw [if_pos rfl, z_inc]
        refine hk2 _ _ ⟨rfl, ?_⟩
        by_cases c : p < a.n 0
        · have e : whs a (far a (-1)) p m = -3 := by unfold whs; rw [if_neg (fun x => c1 ⟨c, x⟩)]
          rw [yes 0 c (by rw [em, e, if_neg (by omega)]), Int.add_zero]
        · rw [if_neg c, if_neg c]
    · rintro kb2 _ _ ⟨rfl, rfl⟩
      unfold w_X0_minutesOf_13
      rw [zn_48, if_pos (by rw [z_le (by omega) (by omega) (by omega) (by omega)]; omega), z_inc]
      refine hk _ _ ⟨rfl, ?_⟩
      by_cases c : p < a.n 0
      · rw [if_pos c, show min (p + 1) (a.n 0) = p + 1 by omega, show 48 * p + 48 = 48 * (p + 1) by omega]
      · rw [if_neg c, show min (p + 1) (a.n 0) = a.n 0 by omega]
  · rintro kb _ _ ⟨rfl, rfl⟩
    unfold w_X0_minutesOf_4
    rw [zn_6, if_pos (by rw [z_le (by omega) (by omega) (by omega) (by omega)]; omega)]
    rw [show min (6 : Int) (a.n 0) = a.n 0 by omega]
    exact hq
