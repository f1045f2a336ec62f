/-! ===== words of bits ===== -/
def wdN (f : Int → Bool) : Nat → Nat
  | 0 => 0
  | n + 1 => wdN f n ||| (if f n = true then 2 ^ n else 0)
theorem wdN_bit (f : Int → Bool) : ∀ (n i : Nat), (wdN f n).testBit i = (decide (i < n) && f i)
  | 0, i => by show (0 : Nat).testBit i = _; simp
  | n + 1, i => by
    show (wdN f n ||| (if f n = true then 2 ^ n else 0)).testBit i = _
    rw [Nat.testBit_or, wdN_bit f n i]
    by_cases e : i = n
    · subst e
      cases hf : f i <;> simp [hf]
    · have e1 : decide (i < n + 1) = decide (i < n) := by apply decide_eq_decide.mpr; omega
      rw [e1]
      split
      · rw [Nat.testBit_two_pow, decide_eq_false (by omega : ¬ n = i)]; simp
      · rw [Nat.zero_testBit]; simp
theorem wdN_lt (f : Int → Bool) : ∀ n : Nat, wdN f n < 2 ^ n
  | 0 => by show 0 < 2 ^ 0; decide
  | n + 1 => by
    refine Nat.or_lt_two_pow (Nat.lt_trans (wdN_lt f n) (Nat.pow_lt_pow_right (by decide) (by omega))) ?_
    split
    · exact Nat.pow_lt_pow_right (by decide) (by omega)
    · exact Nat.two_pow_pos _
theorem Bt.wd {x : Int64} {f : Int → Bool} (B : Bt x f) : x = lN (wdN f 48) := by
  obtain ⟨v, h1, h2, h3⟩ := B
  rw [h2]
  congr 1
  apply Nat.eq_of_testBit_eq
  intro i
  rw [wdN_bit]
  by_cases c : i < 48
  · have := h3 (i : Int) (by omega) (by omega)
    rw [show ((i : Int)).toNat = i by omega] at this
    rw [this, decide_eq_true c]; simp
  · rw [decide_eq_false c, Nat.testBit_lt_two_pow (Nat.lt_of_lt_of_le h1 (Nat.pow_le_pow_right (by decide) (by omega)))]; simp
def silF (a : Wd) (p : Int) : Int → Bool := fun m => decide (fst a (far a (-1)) p m = -1)
def a_hush (a : Wd) (p : Int) : Int64 := if 0 ≤ p ∧ p < a.n 0 then lN (wdN (silF a p) 48) else -1
section QB
variable {h : PH} {w : Nat} {a : Wd} {p q m : Int}
theorem xq_hush {Q : Int64 → PH → Prop} (N : NX h w a) (hp : -2147483648 ≤ p ∧ p < 2147483648) (hq : ∀ g, (∀ c k, ¬ airR w c k → At h g c k) → NX g w a → Q (a_hush a p) g) : w_X9_hush (z p) h Q := by
  obtain ⟨p1, p2, p3⟩ := N.p
  have n3 := N.2.2.1
  have n6 := N.2.2.2.1.1.1
  unfold w_X9_hush
  rw [p3]
  refine ⟨p1, oX_w N.1, ?_⟩
  have rf := hq h (fun c k _ => At.rf h c k) N
  unfold a_hush at hq rf
  refine x_has (n3.rw 0 (by decide)) rfl hp.1 hp.2 (fun c1 c2 => ?_) (fun c1 => ?_)
  · rw [if_neg (by decide)]
    refine x_freshAir N (fun g f1 N1 A1 => ?_)
    refine ⟨rfl, ?_⟩
    unfold w_X0_silentAt
    rw [zn_0, zn_6, if_neg (by rw [z_lt (by omega) (by omega) (by omega) (by omega)]; omega), if_neg (by rw [z_le (by omega) (by omega) (by omega) (by omega)]; omega), z_iN (by omega) (by omega)]
    refine ⟨z_in (by omega) (by omega) (by omega), ?_⟩
    have := hq g f1 N1
    rw [if_pos ⟨c1, c2⟩] at this
    rw [((A1.2.2.1 p c1 (by omega)).ext (g := silF a p) (fun m _ _ => by rw [decide_eq_true c2]; rfl)).wd]
    exact this
  · rw [if_pos rfl]
    rw [if_neg c1] at rf
    exact rf
theorem mq_hush {Q : Int64 → PH → Prop} (M : MW h a) (hp : -2147483648 ≤ p ∧ p < 2147483648) (hq : ∀ g, (∀ c k, ¬ scrM c k → At h g c k) → Q (a_hush a p) g) : w_X10_hush (z p) h Q := by
  unfold w_X10_hush
  rintro _ rfl
  have M1 := M.at' (fr0 h 0)
  have rf := hq _ (fr0 h 0)
  have n6 := M.2.2.1.1
  have n13 := M.2.2.2.1.1
  unfold a_hush at hq rf
  refine m_isPlace M1 hp (fun c1 c2 => ?_) (fun c1 => ?_)
  · rw [if_neg (by decide)]
    refine m_layDay M1.1 M1.2.1 M.2.2 (fun g f1 D1 => ?_)
    have fin := hq g (frD (fr0 h 0) f1)
    rw [if_pos ⟨c1, c2⟩] at fin
    refine for21 48 (fun m x g' => g = g' ∧ x = lN (wdN (silF a p) m.toNat)) 0 rfl (by omega) (by omega) (by omega) ⟨rfl, rfl⟩ ?_ ?_
    · rintro kb m _ _ m0 m1 ⟨rfl, rfl⟩ hk
      have b := fst_rg M.2.2.2.1 (far a (-1)) p m
      unfold w_X10_hush_26
      rw [zn_48, if_neg (by rw [z_le (by omega) (by omega) (by omega) (by omega)]; omega), z_mul, z_add, z_iN (by omega) (by omega), D1.2.2.2.2.1 p m c1 c2 m0 m1]
      refine ⟨z_in (by omega) (by omega) (by omega), ?_⟩
      have ew : wdN (silF a p) (m + 1).toNat = wdN (silF a p) m.toNat ||| (if silF a p m = true then 2 ^ m.toNat else 0) := by
        rw [show (m + 1).toNat = m.toNat + 1 by omega]
        show (_ ||| (if silF a p ((m.toNat : Nat) : Int) = true then _ else _)) = _
        rw [show ((m.toNat : Nat) : Int) = m by omega]
      have l1 := wdN_lt (silF a p) m.toNat
      have p2 : (2 : Nat) ^ m.toNat < 2 ^ 48 := Nat.pow_lt_pow_right (by decide) (by omega)
      by_cases e : fst a (far a (-1)) p m = -1
      · rw [if_pos (by rw [e]; rfl)]
        rintro _ rfl
        rw [show (1 : Int64) = lN 1 from rfl, l_shl (by omega) (by omega), Nat.one_mul, wb_or (by omega) (by omega), z_inc]
        refine hk _ _ ⟨rfl, ?_⟩
        rw [ew, if_pos (show silF a p m = true from decide_eq_true e)]
      · rw [if_neg (by rw [z_m1]; exact z_ne (by omega) (by omega) (by omega) (by omega) e), z_inc]
        refine hk _ _ ⟨rfl, ?_⟩
        rw [ew, if_neg (by unfold silF; rw [decide_eq_false e]; decide), Nat.or_zero]
    · rintro kb _ _ ⟨rfl, rfl⟩
      unfold w_X10_hush_26
      rw [zn_48, if_pos (by rw [z_le (by omega) (by omega) (by omega) (by omega)]; omega)]
      exact fin
  · rw [if_pos rfl]
    rw [if_neg c1] at rf
    exact rf
/-! ===== cells asked for ===== -/
def a_cell (a : Wd) (r : Nat) (k c : Int) : Int := if (0 ≤ k ∧ k < a.n r) ∧ (0 ≤ c ∧ c < cW r) then a.f r c.toNat k else -1
theorem x_cell {Q : Int32 → PH → Prop} {t : Nat} {k c : Int} (r : Nat) (hr : r < 7) (H : WX h w a) (ht : t = w + 1 + 2 * r) (hk : -2147483648 ≤ k ∧ k < 2147483648) (hc : -2147483648 ≤ c ∧ c < 2147483648) (hq : Q (z (a_cell a r k c)) h) : w_X6_at t (z k) (z c) h Q := by
  unfold a_cell at hq
  by_cases e : (0 ≤ k ∧ k < a.n r) ∧ (0 ≤ c ∧ c < cW r)
  · rw [if_pos e] at hq
    exact H.at r c.toNat hr ht (by omega) rfl (by rw [Int.toNat_of_nonneg e.2.1]) e.1.1 e.1.2 hq
  · rw [if_neg e] at hq
    subst ht
    exact x_atN (H.rw r hr) rfl rfl hk.1 hk.2 hc.1 hc.2 (by omega) hq
theorem xq_noise {Q : Int32 → PH → Prop} (N : NX h w a) (hp : -2147483648 ≤ p ∧ p < 2147483648) (hm : -2147483648 ≤ q ∧ q < 2147483648) (hq : Q (z (a_cell a 3 p q)) h) : w_X9_noise (z p) (z q) h Q := by
  obtain ⟨p1, p2, p3⟩ := N.p
  unfold w_X9_noise
  rw [p3]
  exact ⟨p1, oX_w N.1, x_cell 3 (by decide) N.2.2.1 rfl hp hm hq⟩
theorem xq_claim {Q : Int32 → PH → Prop} (N : NX h w a) (hp : -2147483648 ≤ p ∧ p < 2147483648) (hm : -2147483648 ≤ q ∧ q < 2147483648) (hq : Q (z (a_cell a 4 p q)) h) : w_X9_claim (z p) (z q) h Q := by
  obtain ⟨p1, p2, p3⟩ := N.p
  unfold w_X9_claim
  rw [p3]
  exact ⟨p1, oX_w N.1, x_cell 4 (by decide) N.2.2.1 rfl hp hm hq⟩
theorem xq_link {Q : Int32 → PH → Prop} (N : NX h w a) (hp : -2147483648 ≤ p ∧ p < 2147483648) (hm : -2147483648 ≤ q ∧ q < 2147483648) (hq : Q (z (a_cell a 1 p q)) h) : w_X9_link (z p) (z q) h Q := by
  obtain ⟨p1, p2, p3⟩ := N.p
  unfold w_X9_link
  rw [p3]
  exact ⟨p1, oX_w N.1, x_cell 1 (by decide) N.2.2.1 rfl hp hm hq⟩
theorem z_is {q k : Int} (hm : -2147483648 ≤ q ∧ q < 2147483648) (hk : -2147483648 ≤ k ∧ k < 2147483648) : (z q = z k) ↔ q = k := by rw [z_eq hm.1 hm.2 hk.1 hk.2]
set_option maxHeartbeats 2000000 in
theorem mq_noise {Q : Int32 → PH → Prop} (M : MW h a) (hp : -2147483648 ≤ p ∧ p < 2147483648) (hm : -2147483648 ≤ q ∧ q < 2147483648) (hq : ∀ g, (∀ c k, ¬ scrM c k → At h g c k) → Q (z (a_cell a 3 p q)) g) : w_X10_noise (z p) (z q) h Q := by
  unfold w_X10_noise w_X10_isNoise
  rintro _ rfl
  have M1 := M.at' (fr0 h 0)
  have rf := hq _ (fr0 h 0)
  have n13 := M.2.2.2.1.1
  have n12 := M.2.2.2.2.2.2.2.2.1
  unfold a_cell at rf
  rw [iN_0, show gI (sI h 0 0 0) 34 0 = z (a.n 3) from M1.2.1.1]
  have no : ¬ (0 ≤ p ∧ p < a.n 3) → Q (-1) (sI h 0 0 0) := fun c => by rw [if_neg (by omega)] at rf; exact rf
  by_cases c : p < 0
  · rw [if_pos (by rw [zn_0, z_lt (by omega) (by omega) (by omega) (by omega)]; exact c)]
    dsimp only
    rw [if_pos rfl]
    exact no (by omega)
  · rw [if_neg (by rw [zn_0, z_lt (by omega) (by omega) (by omega) (by omega)]; exact c)]
    by_cases c2 : a.n 3 ≤ p
    · rw [if_pos (by rw [z_le (by omega) (by omega) (by omega) (by omega)]; omega)]
      dsimp only
      rw [if_pos rfl]
      exact no (by omega)
    · rw [if_neg (by rw [z_le (by omega) (by omega) (by omega) (by omega)]; omega)]
      dsimp only
      rw [if_neg (by decide), z_iN (by omega) (by omega)]
      obtain ⟨e1, e2, e3, e4, e5⟩ := M1.2.1.2.1 p (by omega) (by omega)
      simp only [show 12 * (0 : Int) + p = p by omega] at e1 e2 e3 e4 e5
      rw [e1, e2, e3, e4, e5]
      by_cases q0 : q = 0
      · subst q0; rw [if_pos (show z 0 = 0 from rfl)]; rw [if_pos ⟨by omega, by decide⟩] at rf; exact ⟨z_in (by omega) (by omega) (by omega), rf⟩
      rw [if_neg (show ¬ z q = 0 from fun e => q0 ((z_is hm (k := 0) (by omega)).mp e))]
      by_cases q1 : q = 1
      · subst q1; rw [if_pos (show z 1 = 1 from rfl)]; rw [if_pos ⟨by omega, by decide⟩] at rf; exact ⟨z_in (by omega) (by omega) (by omega), rf⟩
      rw [if_neg (show ¬ z q = 1 from fun e => q1 ((z_is hm (k := 1) (by omega)).mp e))]
      by_cases q2 : q = 2
      · subst q2; rw [if_pos (show z 2 = 2 from rfl)]; rw [if_pos ⟨by omega, by decide⟩] at rf; exact ⟨z_in (by omega) (by omega) (by omega), rf⟩
      rw [if_neg (show ¬ z q = 2 from fun e => q2 ((z_is hm (k := 2) (by omega)).mp e))]
      by_cases q3 : q = 3
      · subst q3; rw [if_pos (show z 3 = 3 from rfl)]; rw [if_pos ⟨by omega, by decide⟩] at rf; exact ⟨z_in (by omega) (by omega) (by omega), rf⟩
      rw [if_neg (show ¬ z q = 3 from fun e => q3 ((z_is hm (k := 3) (by omega)).mp e))]
      by_cases q4 : q = 4
      · subst q4; rw [if_pos (show z 4 = 4 from rfl)]; rw [if_pos ⟨by omega, by decide⟩] at rf; exact ⟨z_in (by omega) (by omega) (by omega), rf⟩
      rw [if_neg (show ¬ z q = 4 from fun e => q4 ((z_is hm (k := 4) (by omega)).mp e))]
      by_cases q5 : q = 5
      · subst q5
        rw [if_pos (show z 5 = 5 from rfl)]
        rw [if_pos ⟨by omega, by decide⟩] at rf
        rw [bitI (by omega) (by omega)]
        have hb : bt (gI (sI h 0 0 0) 40 0) p.toNat = true ↔ p < a.n 3 ∧ a.f 3 5 p = 1 := M1.2.1.2.2.1 p (by omega) (by omega)
        rcases (M.2.2.2.1.2 p (by omega) (by omega)).2.2.2.2 with e | e
        · rw [if_neg (fun x => by have := (hb.mp x).2; omega)]
          rw [show a.f 3 (5 : Int).toNat p = 0 from e] at rf
          exact rf
        · rw [if_pos (hb.mpr ⟨by omega, e⟩)]
          rw [show a.f 3 (5 : Int).toNat p = 1 from e] at rf
          exact rf
      rw [if_neg (show ¬ z q = 5 from fun e => q5 ((z_is hm (k := 5) (by omega)).mp e))]
      rw [if_neg (by show ¬ (_ ∧ (0 ≤ q ∧ q < (6 : Int))); omega)] at rf
      exact rf
set_option maxHeartbeats 2000000 in
theorem mq_claim {Q : Int32 → PH → Prop} (M : MW h a) (hp : -2147483648 ≤ p ∧ p < 2147483648) (hm : -2147483648 ≤ q ∧ q < 2147483648) (hq : ∀ g, (∀ c k, ¬ scrM c k → At h g c k) → Q (z (a_cell a 4 p q)) g) : w_X10_claim (z p) (z q) h Q := by
  unfold w_X10_claim
  rintro _ rfl
  have M1 := M.at' (fr0 h 0)
  have rf := hq _ (fr0 h 0)
  have n8 := M.2.2.2.2.2.2.2.2.2.2.1
  have n8' := M.2.2.2.2.1.1
  unfold a_cell at rf
  rw [iN_4, M1.1.1.2.2.2.1]
  have no : ¬ (0 ≤ p ∧ p < a.n 4) → Q (-1) (sI h 0 0 0) := fun c => by rw [if_neg (by omega)] at rf; exact rf
  by_cases c : p < 0
  · rw [if_pos (by rw [zn_0, z_lt (by omega) (by omega) (by omega) (by omega)]; exact c)]
    exact no (by omega)
  · rw [if_neg (by rw [zn_0, z_lt (by omega) (by omega) (by omega) (by omega)]; exact c)]
    by_cases c2 : p < a.n 4
    · rw [if_pos (by rw [z_lt (by omega) (by omega) (by omega) (by omega)]; omega), z_iN (by omega) (by omega)]
      have e0 := M1.2.1.2.2.2.1 p (by omega) (by omega)
      rw [show 8 * (0 : Int) + p = p by omega] at e0
      obtain ⟨e1, e2, e3⟩ := M1.1.2.2.2.2.1 p (by omega) (by omega)
      rw [e0, e1, e2, e3]
      by_cases q0 : q = 0
      · subst q0; rw [if_pos (show z 0 = 0 from rfl)]; rw [if_pos ⟨by omega, by decide⟩] at rf; exact ⟨z_in (by omega) (by omega) (by omega), rf⟩
      rw [if_neg (show ¬ z q = 0 from fun e => q0 ((z_is hm (k := 0) (by omega)).mp e))]
      by_cases q1 : q = 1
      · subst q1; rw [if_pos (show z 1 = 1 from rfl)]; rw [if_pos ⟨by omega, by decide⟩] at rf; exact ⟨z_in (by omega) (by omega) (by omega), rf⟩
      rw [if_neg (show ¬ z q = 1 from fun e => q1 ((z_is hm (k := 1) (by omega)).mp e))]
      by_cases q2 : q = 2
      · subst q2; rw [if_pos (show z 2 = 2 from rfl)]; rw [if_pos ⟨by omega, by decide⟩] at rf; exact ⟨z_in (by omega) (by omega) (by omega), rf⟩
      rw [if_neg (show ¬ z q = 2 from fun e => q2 ((z_is hm (k := 2) (by omega)).mp e))]
      by_cases q3 : q = 3
      · subst q3; rw [if_pos (show z 3 = 3 from rfl)]; rw [if_pos ⟨by omega, by decide⟩] at rf; exact ⟨z_in (by omega) (by omega) (by omega), rf⟩
      rw [if_neg (show ¬ z q = 3 from fun e => q3 ((z_is hm (k := 3) (by omega)).mp e))]
      rw [if_neg (by show ¬ (_ ∧ (0 ≤ q ∧ q < (4 : Int))); omega)] at rf
      exact rf
    · rw [if_neg (by rw [z_lt (by omega) (by omega) (by omega) (by omega)]; omega)]
      exact no (by omega)
set_option maxHeartbeats 2000000 in
theorem mq_link {Q : Int32 → PH → Prop} (M : MW h a) (hp : -2147483648 ≤ p ∧ p < 2147483648) (hm : -2147483648 ≤ q ∧ q < 2147483648) (hq : ∀ g, (∀ c k, ¬ scrM c k → At h g c k) → Q (z (a_cell a 1 p q)) g) : w_X10_link (z p) (z q) h Q := by
  unfold w_X10_link w_X10_isLink
  rintro _ rfl
  have M1 := M.at' (fr0 h 0)
  have rf := hq _ (fr0 h 0)
  have n9 := M.2.2.1.2.1
  unfold a_cell at rf
  rw [iN_1, M1.1.1.2.1]
  have no : ¬ (0 ≤ p ∧ p < a.n 1) → Q (-1) (sI h 0 0 0) := fun c => by rw [if_neg (by omega)] at rf; exact rf
  by_cases c : p < 0
  · rw [if_pos (by rw [zn_0, z_lt (by omega) (by omega) (by omega) (by omega)]; exact c)]
    dsimp only
    rw [if_pos rfl]
    exact no (by omega)
  · rw [if_neg (by rw [zn_0, z_lt (by omega) (by omega) (by omega) (by omega)]; exact c)]
    by_cases c2 : a.n 1 ≤ p
    · rw [if_pos (by rw [z_le (by omega) (by omega) (by omega) (by omega)]; omega)]
      dsimp only
      rw [if_pos rfl]
      exact no (by omega)
    · rw [if_neg (by rw [z_le (by omega) (by omega) (by omega) (by omega)]; omega)]
      dsimp only
      rw [if_neg (by decide), z_iN (by omega) (by omega)]
      obtain ⟨e1, e2, e3⟩ := M1.1.2.2.1 p (by omega) (by omega)
      rw [e1, e2, e3]
      by_cases q0 : q = 0
      · subst q0; rw [if_pos (show z 0 = 0 from rfl)]; rw [if_pos ⟨by omega, by decide⟩] at rf; exact ⟨z_in (by omega) (by omega) (by omega), rf⟩
      rw [if_neg (show ¬ z q = 0 from fun e => q0 ((z_is hm (k := 0) (by omega)).mp e))]
      by_cases q1 : q = 1
      · subst q1; rw [if_pos (show z 1 = 1 from rfl)]; rw [if_pos ⟨by omega, by decide⟩] at rf; exact ⟨z_in (by omega) (by omega) (by omega), rf⟩
      rw [if_neg (show ¬ z q = 1 from fun e => q1 ((z_is hm (k := 1) (by omega)).mp e))]
      by_cases q2 : q = 2
      · subst q2; rw [if_pos (show z 2 = 2 from rfl)]; rw [if_pos ⟨by omega, by decide⟩] at rf; exact ⟨z_in (by omega) (by omega) (by omega), rf⟩
      rw [if_neg (show ¬ z q = 2 from fun e => q2 ((z_is hm (k := 2) (by omega)).mp e))]
      by_cases q3 : q = 3
      · subst q3
        rw [if_pos (show z 3 = 3 from rfl)]
        rw [if_pos ⟨by omega, by decide⟩] at rf
        rw [iN_0, bitI (by omega) (by omega)]
        have hb : bt (gI (sI h 0 0 0) 42 0) p.toNat = true ↔ p < a.n 1 ∧ a.f 1 3 p = 1 := M1.2.1.2.2.2.2.1 p (by omega) (by omega)
        rcases (M.2.2.1.2.2.2.1 p (by omega) (by omega)).2.2.2.2 with e | e
        · rw [if_neg (fun x => by have := (hb.mp x).2; omega)]
          rw [show a.f 1 (3 : Int).toNat p = 0 from e] at rf
          exact rf
        · rw [if_pos (hb.mpr ⟨by omega, e⟩)]
          rw [show a.f 1 (3 : Int).toNat p = 1 from e] at rf
          exact rf
      rw [if_neg (show ¬ z q = 3 from fun e => q3 ((z_is hm (k := 3) (by omega)).mp e))]
      rw [if_neg (by show ¬ (_ ∧ (0 ≤ q ∧ q < (4 : Int))); omega)] at rf
      exact rf
end QB
