def fitP (s : St) (p m l : Int) : Prop := ∀ q, 0 ≤ q → q < s.a.n 0 → (nd s (knm s) m q → car s.a (far s.a (-1)) p l q m = true) ∧ (br s (knm s) m q → car s.a (far s.a (-1)) p l q m = false)
theorem lN_z {v : Nat} (h : v < 2 ^ 48) : (lg_cmp (lN v) 0 = 0) ↔ v = 0 := by
  rw [lg_cmp_eq, lN_zl, zl_0, zl_eq (by omega) (by omega) (by omega) (by omega)]
  omega
theorem aso_fit {s : St} {p m l : Int} (O : OkNt (s.a.n 0) s.nn s.nt s.kb) (hS : ∀ k, 0 ≤ k → k < knm s → stk1 s k = false → s.nt 0 k = 0 → fst s.a (far s.a (-1)) (s.nt 1 k) (s.nt 2 k) = -1) (hO : ∀ m' q, 0 ≤ m' → m' < 48 → nd s (knm s) m' q → m' = m) : asoP s p m l ↔ fitP s p m l := by
  have kr := knm_rg O
  constructor
  · intro A q q0 q1
    constructor
    · rintro ⟨k, x1, x2, x3, x4, x5, x6⟩
      have := ((A k x1.1 x1.2 x2).1 x3 (by rw [x5, x4]; exact x6)).2
      rw [x5] at this; exact this
    · rintro ⟨k, x1, x2, x3, x4, x5⟩
      have := ((A k x1.1 x1.2 x2).2 x3).2 x4
      rw [x5] at this; exact this
  · intro A k k0 k1 x2
    have on := O.2.2 k k0 (by omega)
    constructor
    · intro x3 x6
      have o : (0 ≤ s.nt 1 k ∧ s.nt 1 k < s.a.n 0) ∧ (0 ≤ s.nt 2 k ∧ s.nt 2 k < 48) := by
        rcases on with y | y
        · exact y.2
        · omega
      have N : nd s (knm s) (s.nt 2 k) (s.nt 1 k) := ⟨k, ⟨k0, k1⟩, x2, x3, rfl, rfl, x6⟩
      have em := hO _ _ o.2.1 o.2.2 N
      rw [em] at N
      exact ⟨em, (A _ o.1.1 o.1.2).1 N⟩
    · intro x3
      have o : (0 ≤ s.nt 1 k ∧ s.nt 1 k < s.a.n 0) ∧ (0 ≤ s.nt 2 k ∧ s.nt 2 k < 48) := by
        rcases on with y | y
        · exact y.2
        · omega
      exact ⟨hS k k0 k1 x2 x3, fun x4 => (A _ o.1.1 o.1.2).2 ⟨k, ⟨k0, k1⟩, x2, x3, x4, rfl⟩⟩
section THZ
variable {h : PH} {w : Nat} {s : St}
theorem x_fits {Q : Int32 → PH → Prop} {p m l : Int} (H : WX h w s.a) (X : FX h 100 (far s.a (-1))) (N : Now s.a) (hw : w = 8 ∨ w = 31) (D : NdX h s (knm s)) (hp : 0 ≤ p ∧ p < s.a.n 0) (hm : 0 ≤ m ∧ m < 48) (hl : 1 ≤ l ∧ l ≤ 20) (hT : ∀ g, (∀ c k, ¬ (c = w + 17 ∨ c = w + 18) → At h g c k) → fitP s p m l → Q 1 g) (hF : ∀ g, (∀ c k, ¬ (c = w + 17 ∨ c = w + 18) → At h g c k) → ¬ fitP s p m l → Q 0 g) : w_X2_fits w 100 (z p) (z m) (z l) h Q := by
  have h6 := N.1.1
  have F3 := (far_gd (-1) N.1).2.2.1
  unfold w_X2_fits
  rw [z_iN (a := m) (by omega) (by omega)]
  refine ⟨z_in (by omega) (by omega) (by omega), z_in (by omega) (by omega) (by omega), ?_⟩
  rintro _ rfl
  have DA : ∀ q : Int, 0 ≤ q → q < s.a.n 0 → (bt (gI h 133 m.toNat ||| gI h 134 m.toNat) q.toNat = true ↔ nd s (knm s) m q ∨ br s (knm s) m q) := fun q q0 q1 => by
    have d := D m hm.1 hm.2 q.toNat (by omega)
    rw [show ((q.toNat : Nat) : Int) = q by omega] at d
    rw [b_or, Bool.or_eq_true, d.1, d.2]
  refine for10 (s.a.n 0) (fun i g => (∀ c k, ¬ (c = w + 17 ∨ c = w + 18) → At h g c k) ∧ ∀ q, 0 ≤ q → q < i → (nd s (knm s) m q → car s.a (far s.a (-1)) p l q m = true) ∧ (br s (knm s) m q → car s.a (far s.a (-1)) p l q m = false)) 0 rfl (by omega) (by omega) (by omega) ⟨fun c k _ => At.rf h c k, fun q q0 q1 => by omega⟩ ?_ ?_
  · rintro kb i g i0 i1 ⟨hf, hJ⟩ hk
    have Wg : WX g w s.a := H.at' (fun c k b1 b2 b3 b4 b5 b6 => hf c k (by omega))
    have Xg : FX g 100 (far s.a (-1)) := fun p q c1 c2 c3 c4 => by rw [(hf 101 _ (by omega)).1]; exact X p q c1 c2 c3 c4
    unfold w_X2_fits_20
    rw [show gI g (w + 1) 3 = z (s.a.n 0) from (Wg.n0 0 (by decide)).1, if_neg (by rw [z_le (by omega) (by omega) (by omega) (by omega)]; omega)]
    by_cases c0 : (gI h 133 m.toNat ||| gI h 134 m.toNat) = 0
    · rw [if_pos c0]
      refine hT g hf (fun q q0 q1 => ?_)
      have d := DA q q0 q1
      rw [c0] at d
      have e0 : bt (0 : Int32) q.toNat = false := bt_z0 q.toNat (by omega)
      rw [e0] at d
      exact ⟨fun x => absurd (d.mpr (Or.inl x)) (by decide), fun x => absurd (d.mpr (Or.inr x)) (by decide)⟩
    · rw [if_neg c0, bitI i0 (by omega)]
      have d := DA i i0 i1
      have dd := D m hm.1 hm.2 i.toNat (by omega)
      rw [show ((i.toNat : Nat) : Int) = i by omega] at dd
      cases hb : bt (gI h 133 m.toNat ||| gI h 134 m.toNat) i.toNat with
      | false =>
        rw [if_neg (by decide), z_inc]
        rw [hb] at d
        refine hk g ⟨hf, fun q q0 q1 => ?_⟩
        by_cases e : q = i
        · subst e
          exact ⟨fun x => absurd (d.mpr (Or.inl x)) (by decide), fun x => absurd (d.mpr (Or.inr x)) (by decide)⟩
        · exact hJ q q0 (by omega)
      | true =>
        rw [if_pos (by decide)]
        refine x_mh Wg N.2.2.2.2.1 Xg (by omega) (by omega) (by omega) (F3 p i) (by omega) (by omega) (fun g2 v f2 hv hbt => ?_)
        have hf2 : ∀ c k, ¬ (c = w + 17 ∨ c = w + 18) → At h g2 c k := fun c k hc => (hf c k hc).tr (f2 c k hc)
        have e133 : gI g2 133 m.toNat = gI h 133 m.toNat := (hf2 133 _ (by omega)).1
        have e134 : gI g2 134 m.toNat = gI h 134 m.toNat := (hf2 134 _ (by omega)).1
        have ecar : car s.a (far s.a (-1)) p l i m = v.testBit m.toNat := by
          rw [hbt m hm.1 hm.2, decide_eq_true (Int.le_refl m)]
          unfold car
          rw [decide_eq_true hl.1]
          simp
        have good : ((nd s (knm s) m i → car s.a (far s.a (-1)) p l i m = true) ∧ (br s (knm s) m i → car s.a (far s.a (-1)) p l i m = false)) → kb (z i + 1) g2 := by
          intro hh
          rw [z_inc]
          refine hk g2 ⟨hf2, fun q q0 q1 => ?_⟩
          by_cases e : q = i
          · subst e; exact hh
          · exact hJ q q0 (by omega)
        have bad : ¬ ((nd s (knm s) m i → car s.a (far s.a (-1)) p l i m = true) ∧ (br s (knm s) m i → car s.a (far s.a (-1)) p l i m = false)) → Q 0 g2 := fun hh => hF g2 hf2 (fun x => hh (x i i0 i1))
        have hor := d.mp hb
        by_cases ev : v = 0
        · rw [if_pos ((lN_z hv).mpr ev)]
          have ec : car s.a (far s.a (-1)) p l i m = false := by rw [ecar, ev]; simp
          unfold w_X2_fits_72
          refine ⟨z_in (by omega) (by omega) (by omega), ?_⟩
          rw [z_iN (a := m) (by omega) (by omega), e133, bitI i0 (by omega)]
          cases hn : bt (gI h 133 m.toNat) i.toNat with
          | true =>
            rw [if_pos (by decide)]
            unfold w_X2_fits_97
            rw [if_neg (by decide)]
            exact bad (fun x => by have := x.1 (dd.1.mp hn); rw [ec] at this; exact absurd this (by decide))
          | false =>
            rw [if_neg (by decide)]
            unfold w_X2_fits_97
            rw [if_pos rfl, if_pos rfl]
            exact good ⟨fun x => by rw [dd.1.mpr x] at hn; exact absurd hn (by decide), fun _ => ec⟩
        · rw [if_neg (fun x => ev ((lN_z hv).mp x))]
          have ec : car s.a (far s.a (-1)) p l i m = true := by
            cases hc : car s.a (far s.a (-1)) p l i m with
            | true => rfl
            | false =>
              exfalso
              apply ev
              apply Nat.eq_of_testBit_eq
              intro j
              rw [Nat.zero_testBit]
              by_cases hj : j < 48
              · have b := hbt j (by omega) (by omega)
                rw [show ((j : Nat) : Int).toNat = j by omega] at b
                by_cases e : (j : Int) = m
                · have : j = m.toNat := by omega
                  rw [this, ← ecar, hc]
                · rw [b]
                  by_cases e1 : m ≤ (j : Int)
                  · rw [decide_eq_false (by omega : ¬ (j : Int) ≤ m)]; simp
                  · rw [decide_eq_false e1]; simp
              · exact Nat.testBit_lt_two_pow (Nat.lt_of_lt_of_le hv (Nat.pow_le_pow_right (by decide) (by omega)))
          unfold w_X2_fits_72
          refine ⟨z_in (by omega) (by omega) (by omega), ?_⟩
          rw [z_iN (a := m) (by omega) (by omega), e133, bitI i0 (by omega)]
          cases hn : bt (gI h 133 m.toNat) i.toNat with
          | true =>
            rw [if_pos (by decide)]
            unfold w_X2_fits_97
            rw [if_pos rfl, if_neg (by decide), z_iN (a := m) (by omega) (by omega), e134, bitI i0 (by omega)]
            refine ⟨z_in (by omega) (by omega) (by omega), ?_⟩
            cases hr : bt (gI h 134 m.toNat) i.toNat with
            | true =>
              rw [if_pos (by decide)]
              exact bad (fun x => by have := x.2 (dd.2.mp hr); rw [ec] at this; exact absurd this (by decide))
            | false =>
              rw [if_neg (by decide)]
              exact good ⟨fun _ => ec, fun x => by rw [dd.2.mpr x] at hr; exact absurd hr (by decide)⟩
          | false =>
            rw [if_neg (by decide)]
            unfold w_X2_fits_97
            rw [if_neg (by decide)]
            refine bad (fun x => ?_)
            rcases hor with y | y
            · rw [dd.1.mpr y] at hn; exact absurd hn (by decide)
            · have := x.2 y; rw [ec] at this; exact absurd this (by decide)
  · rintro kb g ⟨hf, hJ⟩
    unfold w_X2_fits_20
    have Wg : WX g w s.a := H.at' (fun c k b1 b2 b3 b4 b5 b6 => hf c k (by omega))
    rw [show gI g (w + 1) 3 = z (s.a.n 0) from (Wg.n0 0 (by decide)).1, if_pos (by rw [z_le (by omega) (by omega) (by omega) (by omega)]; omega)]
    exact hT g hf hJ
end THZ
