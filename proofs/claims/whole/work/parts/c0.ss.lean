/-! ===== minutes that may not be, and the earliest start, by the class ===== -/
def BdX (h : PH) (a : Wd) (n : Int) : Prop := ∀ t : Int, 0 ≤ t → t < n → ∃ v : Nat, gJ h 123 t.toNat = lN v ∧ v < 2 ^ 48 ∧ ∀ m : Int, 0 ≤ m → m < 48 → v.testBit m.toNat = bad a t m
section FORB
variable {h : PH} {w : Nat} {a : Wd}
set_option maxHeartbeats 2000000 in
theorem x_forbiddenMinutes {Q : Int64 → PH → Prop} {t : Int} (H : WX h w a) (A : AirX h 100 a (far a (-1))) (N : Now a) (hw : w = 8 ∨ w = 31) (ht : 0 ≤ t ∧ t < a.n 6) (hq : ∀ g (v : Nat), (∀ c k, ¬ (c = w + 17 ∨ c = w + 18) → At h g c k) → v < 2 ^ 48 → (∀ m : Int, 0 ≤ m → m < 48 → v.testBit m.toNat = bad a t m) → Q (lN v) g) : w_X4_forbiddenMinutes w 100 (z t) h Q := by
  have h6 := N.1.1
  have F3 := (far_gd (-1) N.1).2.2.1
  have n14 := N.2.2.2.2.2.2.2.2.2.2.2.2.2
  obtain ⟨t1, t2, t3, t4⟩ := n14.2.1 t ht.1 ht.2
  have n2 := N.2.2.2.2.2.2.2.2.2.2.1
  unfold w_X4_forbiddenMinutes
  refine H.at 6 0 (by decide) rfl (by decide) rfl rfl ht.1 ht.2 ?_
  refine H.at 6 1 (by decide) rfl (by decide) rfl rfl ht.1 ht.2 ?_
  refine H.at 6 3 (by decide) rfl (by decide) rfl rfl ht.1 ht.2 ?_
  refine for21 (a.n 0) (fun q x g => (∀ c k, ¬ (c = w + 17 ∨ c = w + 18) → At h g c k) ∧ ∃ v : Nat, x = lN v ∧ v < 2 ^ 48 ∧ ∀ m : Int, 0 ≤ m → m < 48 → v.testBit m.toNat = ex (bdQ a t m) q) 0 rfl (by omega) (by omega) (by omega) ⟨fun c k _ => At.rf h c k, 0, rfl, by decide, fun m m0 m1 => by rw [Nat.zero_testBit]; rfl⟩ ?_ ?_
  · rintro kb q _ g q0 q1 ⟨hf, v, rfl, hv, hb⟩ hn
    have Hg : WX g w a := H.at' (fun c k b1 b2 b3 b4 b5 b6 => hf c k (by omega))
    have Ag : AirX g 100 a (far a (-1)) := A.at' (fun c k b1 b2 => hf c k (by omega))
    unfold w_X4_forbiddenMinutes_38
    rw [(Hg.n0 0 (by decide)).1, if_neg (by rw [z_le (by omega) (by omega) (by omega) (by omega)]; omega), z_inc]
    refine x_mh (fr := 0) (to := 47) Hg N.2.2.2.2.1 Ag.1 (by omega) (by omega) (by omega) (F3 _ _) (by omega) (by omega) (fun g1 u f1 hu hbu => ?_)
    have H1 : WX g1 w a := Hg.at' (fun c k b1 b2 b3 b4 b5 b6 => f1 c k (by omega))
    have A1 : AirX g1 100 a (far a (-1)) := Ag.at' (fun c k b1 b2 => f1 c k (by omega))
    have ecar : ∀ m : Int, 0 ≤ m → m < 48 → u.testBit m.toNat = car a (far a (-1)) (a.f 6 1 t) (a.f 6 3 t) q m := fun m m0 m1 => by
      rw [hbu m m0 m1, decide_eq_true m0, decide_eq_true (by omega : m ≤ 47)]
      unfold car
      rw [decide_eq_true t4.1]
      simp
    refine for21 48 (fun m x g2 => g2 = g1 ∧ ∃ v : Nat, x = lN v ∧ v < 2 ^ 48 ∧ ∀ m' : Int, 0 ≤ m' → m' < 48 → v.testBit m'.toNat = if m' < m then ex (bdQ a t m') (q + 1) else ex (bdQ a t m') q) 0 rfl (by omega) (by omega) (by omega) ⟨rfl, v, rfl, hv, fun m' m0 m1 => by rw [if_neg (by omega)]; exact hb m' m0 m1⟩ ?_ ?_
    · rintro kb2 m _ g2 m0 m1 ⟨e2, v, rfl, hv, hb⟩ hn2
      subst e2
      have es := ex_s (f := bdQ a t m) q0
      have bv : v.testBit m.toNat = ex (bdQ a t m) q := by rw [hb m m0 m1, if_neg (by omega)]
      have no : bdQ a t m q = false → kb2 (lN v) (z (m + 1)) g2 := fun e => hn2 _ g2 ⟨rfl, v, rfl, hv, fun m' c0 c1 => by
        rw [hb m' c0 c1]
        by_cases e1 : m' = m
        · subst e1
          rw [if_neg (by omega), if_pos (by omega), es, e, Bool.or_false]
        · by_cases e3 : m' < m
          · rw [if_pos e3, if_pos (by omega)]
          · rw [if_neg e3, if_neg (by omega)]⟩
      unfold w_X4_forbiddenMinutes_69
      rw [zn_48, if_neg (by rw [z_le (by omega) (by omega) (by omega) (by omega)]; omega), z_inc]
      by_cases c : u.testBit m.toNat = true
      · rw [if_pos ((l_bit hu m0 m1).mpr c)]
        rw [ecar m m0 m1] at c
        refine x_forbidden H1 A1.2.2.2.1 N.2.2.1 N.2.2.2.1 (by omega) (by omega) ⟨m0, m1⟩ h6.2 (fun c1 _ => ?_) (fun c1 => ?_)
        · rw [if_neg (by decide)]
          rintro _ rfl
          have eb : bdQ a t m q = true := by unfold bdQ; rw [c, decide_eq_true c1]; rfl
          rw [l_one m0 (by omega), l_or]
          refine hn2 _ g2 ⟨rfl, _, rfl, Nat.or_lt_two_pow hv (Nat.pow_lt_pow_right (by decide) (by omega)), fun m' c0 c1' => ?_⟩
          rw [Nat.testBit_or, Nat.testBit_two_pow, hb m' c0 c1']
          by_cases e1 : m' = m
          · subst e1
            rw [if_neg (by omega), decide_eq_true rfl, if_pos (by omega), es, eb, Bool.or_true]
          · rw [decide_eq_false (by omega), Bool.or_false]
            by_cases e3 : m' < m
            · rw [if_pos e3, if_pos (by omega)]
            · rw [if_neg e3, if_neg (by omega)]
        · rw [if_pos rfl]
          exact no (by unfold bdQ; rw [decide_eq_false (by omega : ¬ agn a (a.f 6 0 t) q m ≠ -1), Bool.and_false])
      · rw [if_neg (fun x => c ((l_bit hu m0 m1).mp x))]
        rw [ecar m m0 m1] at c
        exact no (by unfold bdQ; rw [Bool.eq_false_iff.mpr c]; rfl)
    · rintro kb2 _ g2 ⟨e2, v, rfl, hv, hb⟩
      subst e2
      unfold w_X4_forbiddenMinutes_69
      rw [zn_48, if_pos (by rw [z_le (by omega) (by omega) (by omega) (by omega)]; omega)]
      exact hn _ g2 ⟨fun c k hc => (hf c k hc).tr (f1 c k hc), v, rfl, hv, fun m m0 m1 => by rw [hb m m0 m1, if_pos m1]⟩
  · rintro kb _ g ⟨hf, v, rfl, hv, hb⟩
    have Hg : WX g w a := H.at' (fun c k b1 b2 b3 b4 b5 b6 => hf c k (by omega))
    unfold w_X4_forbiddenMinutes_38
    rw [(Hg.n0 0 (by decide)).1, if_pos (by rw [z_le (by omega) (by omega) (by omega) (by omega)]; omega)]
    exact hq g v hf hv hb
theorem x_earliest {Q : Int32 → PH → Prop} {v : Nat} {L : Int} {f : Int → Bool} (hL : 1 ≤ L ∧ L ≤ 12) (hv : v < 2 ^ 48) (hb : ∀ m : Int, 0 ≤ m → m < 48 → v.testBit m.toNat = f m) (hq : ∀ r, r = ff (fun x => decide (ff (fun d => f (x + d)) L = -1)) (49 - L) → Q (z (if r = -1 then -2 else r)) h) : w_X4_earliest (lN v) (z L) h Q := by
  have q := hq _ rfl
  unfold w_X4_earliest
  refine for10 (49 - L) (fun x g => g = h ∧ ∀ j, 0 ≤ j → j < x → decide (ff (fun d => f (j + d)) L = -1) = false) 0 rfl (by omega) (by omega) (by omega) ⟨rfl, fun j j0 j1 => by omega⟩ ?_ ?_
  · rintro kb x g x0 x1 ⟨e2, hJ⟩ hn
    subst e2
    have tst : ((2 ^ L.toNat - 1) * 2 ^ x.toNat &&& v = 0) ↔ ff (fun d => f (x + d)) L = -1 := by
      constructor
      · intro e
        refine ff_no (fun d d0 d1 => ?_)
        rw [← hb (x + d) (by omega) (by omega)]
        have := congrArg (fun y => y.testBit (x + d).toNat) e
        simp only [Nat.testBit_and, Nat.zero_testBit, msk_bit] at this
        rw [decide_eq_true (by omega), decide_eq_true (by omega)] at this
        simpa using this
      · intro e
        apply Nat.eq_of_testBit_eq
        intro i
        rw [Nat.testBit_and, Nat.zero_testBit, msk_bit]
        by_cases c : x.toNat ≤ i
        · by_cases c2 : i < x.toNat + L.toNat
          · have h1 := hb (i : Int) (by omega) (by omega)
            rw [show ((i : Nat) : Int).toNat = i by omega] at h1
            rw [h1]
            rcases ff_ca (fun d => f (x + d)) L with ⟨_, hnn⟩ | ⟨u0, _⟩
            · have := hnn ((i : Int) - x) (by omega) (by omega)
              rw [show x + ((i : Int) - x) = (i : Int) by omega] at this
              rw [this, Bool.and_false]
            · omega
          · rw [decide_eq_false c2]; simp
        · rw [decide_eq_false c]; simp
    have ml : (2 ^ L.toNat - 1) * 2 ^ x.toNat &&& v < 2 ^ 48 := Nat.and_lt_two_pow _ hv
    unfold w_X4_earliest_2
    rw [z_add, zn_48, if_neg (by rw [z_lt (by omega) (by omega) (by omega) (by omega)]; omega), l_msk (by omega) x0 (by omega), l_and, z_inc]
    by_cases c : ff (fun d => f (x + d)) L = -1
    · rw [if_pos ((lN_z ml).mpr (tst.mpr c))]
      rw [ff_yes x0 x1 (decide_eq_true c) hJ, if_neg (by omega)] at q
      exact q
    · rw [if_neg (fun y => c (tst.mp ((lN_z ml).mp y)))]
      refine hn g ⟨rfl, fun j j0 j1 => ?_⟩
      by_cases e : j = x
      · rw [e]; exact decide_eq_false c
      · exact hJ j j0 (by omega)
  · rintro kb g ⟨e2, hJ⟩
    subst e2
    unfold w_X4_earliest_2
    rw [z_add, zn_48, if_pos (by rw [z_lt (by omega) (by omega) (by omega) (by omega)]; omega)]
    rw [ff_no hJ, if_pos rfl] at q
    exact q
end FORB
