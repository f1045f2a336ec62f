/-! ===== two who wait ===== -/
def gn (pz ct own oth : Int) : Int := (if own = oth then pz / 2 else if oth < own then pz else 0) - ct * min own oth
theorem gn_rg {pz ct own oth : Int} (h1 : 0 ≤ pz ∧ pz ≤ 99) (h2 : 0 ≤ ct ∧ ct ≤ 99) (h3 : 0 ≤ own ∧ own ≤ 9) (h4 : 0 ≤ oth ∧ oth ≤ 9) : (0 ≤ ct * min own oth ∧ ct * min own oth ≤ 891) ∧ -891 ≤ gn pz ct own oth ∧ gn pz ct own oth ≤ 99 := by
  have a : 0 ≤ ct * min own oth := Int.mul_nonneg h2.1 (by omega)
  have b : ct * min own oth ≤ 99 * min own oth := Int.mul_le_mul_of_nonneg_right h2.2 (by omega)
  refine ⟨by omega, ?_⟩
  unfold gn
  split
  · omega
  · split <;> omega
def isR (pz o t x v : Int) : Bool := decide (ff (fun k => decide (gn pz o x v < gn pz o k v) || decide (gn pz t v x < gn pz t k x)) 10 = -1)
def prR (pz o t : Int) : Int → Bool := fun i => isR pz o t (i / 10) (i % 10)
def cnR (pz o t i : Int) : Int := sm (fun j => if prR pz o t j = true then 1 else 0) i
def stk3 (pz o t : Int) : Prop := (0 ≤ pz ∧ pz ≤ 99) ∧ (0 ≤ o ∧ o ≤ 99) ∧ (0 ≤ t ∧ t ≤ 99)
noncomputable def a_rests (pz o t : Int) : Int := if (0 ≤ pz ∧ pz ≤ 99) ∧ (0 ≤ o ∧ o ≤ 99) ∧ (0 ≤ t ∧ t ≤ 99) then cnR pz o t 100 else -1
def kR (pz o t k : Int) : Int := ff (fun i => prR pz o t i && decide (cnR pz o t i = k)) 100
noncomputable def a_rest (pz o t k : Int) : Int := if ((0 ≤ pz ∧ pz ≤ 99) ∧ (0 ≤ o ∧ o ≤ 99) ∧ (0 ≤ t ∧ t ≤ 99)) ∧ 0 ≤ k then (if kR pz o t k = -1 then -2 else kR pz o t k) else -1
theorem cnR_rg {pz o t i : Int} (h : 0 ≤ i) : 0 ≤ cnR pz o t i ∧ cnR pz o t i ≤ i * 1 := sm_rg h (by omega) (fun j _ _ => by split <;> omega)
section QD
variable {h : PH} {pz o t k : Int}
theorem x_gain {ct own oth : Int} {Q : Int32 → PH → Prop} (h1 : 0 ≤ pz ∧ pz ≤ 99) (h2 : 0 ≤ ct ∧ ct ≤ 99) (h3 : 0 ≤ own ∧ own ≤ 9) (h4 : 0 ≤ oth ∧ oth ≤ 9) (hq : Q (z (gn pz ct own oth)) h) : w_X9_gain (z pz) (z ct) (z own) (z oth) h Q := by
  unfold w_X9_gain
  rintro _ rfl
  rw [z_mnI (by omega) (by omega) (by omega) (by omega), z_mul]
  unfold gn at hq
  by_cases c : own = oth
  · rw [if_pos (congrArg z c), zn_2, z_div (by omega) (by omega) (by omega) (by omega), z_sub]
    rw [if_pos c] at hq
    exact hq
  · rw [if_neg (z_ne (by omega) (by omega) (by omega) (by omega) c)]
    rw [if_neg c] at hq
    by_cases c2 : oth < own
    · rw [if_neg (by rw [z_le (by omega) (by omega) (by omega) (by omega)]; omega), z_sub]
      rw [if_pos c2] at hq
      exact hq
    · rw [if_pos (by rw [z_le (by omega) (by omega) (by omega) (by omega)]; omega), z_neg]
      rw [if_neg c2, Int.zero_sub] at hq
      exact hq
theorem x_isRest {i : Int} {Q : Int32 → PH → Prop} (h1 : 0 ≤ pz ∧ pz ≤ 99) (h2 : 0 ≤ o ∧ o ≤ 99) (h3 : 0 ≤ t ∧ t ≤ 99) (h4 : 0 ≤ i ∧ i < 100) (hT : prR pz o t i = true → Q 1 h) (hF : prR pz o t i = false → Q 0 h) : w_X9_isRest (z pz) (z o) (z t) (z i) h Q := by
  unfold w_X9_isRest
  rintro _ rfl _ rfl
  rw [zn_10, z_div (by omega) (by omega) (by omega) (by omega), z_mul, z_sub, show i - i / 10 * 10 = i % 10 by omega]
  have ex : 0 ≤ i / 10 ∧ i / 10 ≤ 9 := by omega
  have ev : 0 ≤ i % 10 ∧ i % 10 ≤ 9 := by omega
  unfold prR at hT hF
  generalize i / 10 = x at *
  generalize i % 10 = v at *
  have ga := gn_rg h1 h2 ex ev
  have gb := gn_rg h1 h3 ev ex
  refine x_gain h1 h2 ex ev ?_
  refine x_gain h1 h3 ev ex ?_
  refine for10 10 (fun j g => h = g ∧ ∀ k, 0 ≤ k → k < j → (decide (gn pz o x v < gn pz o k v) || decide (gn pz t v x < gn pz t k x)) = false) 0 rfl (by omega) (by omega) (by omega) ⟨rfl, fun k c1 c2 => by omega⟩ ?_ ?_
  · rintro kb j _ j0 j1 ⟨rfl, hJ⟩ hk
    have gc := gn_rg h1 h2 (own := j) (oth := v) (by omega) ev
    have gd := gn_rg h1 h3 (own := j) (oth := x) (by omega) ex
    unfold w_X9_isRest_37
    rw [zn_10, if_neg (by rw [z_le (by omega) (by omega) (by omega) (by omega)]; omega)]
    refine x_gain h1 h2 (by omega) ev ?_
    have out : (decide (gn pz o x v < gn pz o j v) || decide (gn pz t v x < gn pz t j x)) = true → Q 0 h := fun hb => hF (by unfold isR; rw [ff_yes j0 j1 hb hJ]; exact decide_eq_false (by omega))
    by_cases c1 : gn pz o x v < gn pz o j v
    · rw [if_pos (by rw [z_lt (by omega) (by omega) (by omega) (by omega)]; omega)]
      exact out (by rw [decide_eq_true c1]; rfl)
    · rw [if_neg (by rw [z_lt (by omega) (by omega) (by omega) (by omega)]; omega)]
      refine x_gain h1 h3 (by omega) ex ?_
      by_cases c2 : gn pz t v x < gn pz t j x
      · rw [if_neg (by rw [z_le (by omega) (by omega) (by omega) (by omega)]; omega)]
        exact out (by rw [decide_eq_true c2]; simp)
      · rw [if_pos (by rw [z_le (by omega) (by omega) (by omega) (by omega)]; omega), z_inc]
        refine hk _ ⟨rfl, fun k d1 d2 => ?_⟩
        by_cases e : k = j
        · rw [e, decide_eq_false c1, decide_eq_false c2]; rfl
        · exact hJ k d1 (by omega)
  · rintro kb _ ⟨rfl, hJ⟩
    unfold w_X9_isRest_37
    rw [zn_10, if_pos (by rw [z_le (by omega) (by omega) (by omega) (by omega)]; omega)]
    exact hT (by unfold isR; rw [ff_no hJ]; rfl)
theorem x_isStake {v : Int} {Q : Int32 → PH → Prop} (hv : -2147483648 ≤ v ∧ v < 2147483648) (hT : 0 ≤ v → v ≤ 99 → Q 1 h) (hF : ¬ (0 ≤ v ∧ v ≤ 99) → Q 0 h) : w_X9_isStake (z v) h Q := by
  unfold w_X9_isStake
  by_cases c : v < 0
  · rw [if_pos (by rw [zn_0, z_lt (by omega) (by omega) (by omega) (by omega)]; exact c)]
    exact hF (by omega)
  · rw [if_neg (by rw [zn_0, z_lt (by omega) (by omega) (by omega) (by omega)]; exact c)]
    by_cases c2 : 99 < v
    · rw [if_pos (by rw [zn_99, z_lt (by omega) (by omega) (by omega) (by omega)]; exact c2)]
      exact hF (by omega)
    · rw [if_neg (by rw [zn_99, z_lt (by omega) (by omega) (by omega) (by omega)]; exact c2)]
      exact hT (by omega) (by omega)
theorem cnR_s {i : Int} (h : 0 ≤ i) : cnR pz o t (i + 1) = cnR pz o t i + (if prR pz o t i = true then 1 else 0) := sm_s h
theorem xq_rests {Q : Int32 → PH → Prop} (h1 : -2147483648 ≤ pz ∧ pz < 2147483648) (h2 : -2147483648 ≤ o ∧ o < 2147483648) (h3 : -2147483648 ≤ t ∧ t < 2147483648) (hq : Q (z (a_rests pz o t)) h) : w_X9_rests (z pz) (z o) (z t) h Q := by
  unfold w_X9_rests
  unfold a_rests at hq
  refine x_isStake h1 (fun a1 a2 => ?_) (fun a1 => by rw [if_pos rfl]; rw [if_neg (by omega)] at hq; exact hq)
  rw [if_neg (by decide)]
  refine x_isStake h2 (fun a3 a4 => ?_) (fun a3 => by rw [if_pos rfl]; rw [if_neg (by omega)] at hq; exact hq)
  rw [if_neg (by decide)]
  refine x_isStake h3 (fun a5 a6 => ?_) (fun a5 => by rw [if_pos rfl]; rw [if_neg (by omega)] at hq; exact hq)
  rw [if_neg (by decide)]
  rw [if_pos ⟨⟨a1, a2⟩, ⟨a3, a4⟩, a5, a6⟩] at hq
  refine for21 100 (fun i n g => h = g ∧ n = z (cnR pz o t i)) 0 rfl (by omega) (by omega) (by omega) ⟨rfl, rfl⟩ ?_ ?_
  · rintro kb i _ _ i0 i1 ⟨rfl, rfl⟩ hk
    unfold w_X9_rests_29
    rw [zn_100, if_neg (by rw [z_le (by omega) (by omega) (by omega) (by omega)]; omega)]
    refine x_isRest ⟨a1, a2⟩ ⟨a3, a4⟩ ⟨a5, a6⟩ ⟨i0, i1⟩ (fun c => ?_) (fun c => ?_)
    · rw [if_neg (by decide), z_inc, z_inc]
      exact hk _ _ ⟨rfl, by rw [cnR_s i0, if_pos c]⟩
    · rw [if_pos rfl, z_inc]
      exact hk _ _ ⟨rfl, by rw [cnR_s i0, if_neg (by rw [c]; decide), Int.add_zero]⟩
  · rintro kb _ _ ⟨rfl, rfl⟩
    unfold w_X9_rests_29
    rw [zn_100, if_pos (by rw [z_le (by omega) (by omega) (by omega) (by omega)]; omega)]
    exact hq
theorem xq_rest {Q : Int32 → PH → Prop} (h1 : -2147483648 ≤ pz ∧ pz < 2147483648) (h2 : -2147483648 ≤ o ∧ o < 2147483648) (h3 : -2147483648 ≤ t ∧ t < 2147483648) (h4 : -2147483648 ≤ k ∧ k < 2147483648) (hq : Q (z (a_rest pz o t k)) h) : w_X9_rest (z pz) (z o) (z t) (z k) h Q := by
  unfold w_X9_rest
  unfold a_rest at hq
  refine x_isStake h1 (fun a1 a2 => ?_) (fun a1 => by rw [if_pos rfl]; rw [if_neg (by omega)] at hq; exact hq)
  rw [if_neg (by decide)]
  refine x_isStake h2 (fun a3 a4 => ?_) (fun a3 => by rw [if_pos rfl]; rw [if_neg (by omega)] at hq; exact hq)
  rw [if_neg (by decide)]
  refine x_isStake h3 (fun a5 a6 => ?_) (fun a5 => by rw [if_pos rfl]; rw [if_neg (by omega)] at hq; exact hq)
  rw [if_neg (by decide)]
  by_cases k0 : 0 ≤ k
  · rw [if_pos (by rw [zn_0, z_le (by omega) (by omega) (by omega) (by omega)]; exact k0)]
    rw [if_pos ⟨⟨⟨a1, a2⟩, ⟨a3, a4⟩, a5, a6⟩, k0⟩] at hq
    refine for21 100 (fun i n g => h = g ∧ n = z (cnR pz o t i) ∧ ∀ j, 0 ≤ j → j < i → (prR pz o t j && decide (cnR pz o t j = k)) = false) 0 rfl (by omega) (by omega) (by omega) ⟨rfl, rfl, fun j c1 c2 => by omega⟩ ?_ ?_
    · rintro kb i _ _ i0 i1 ⟨rfl, rfl, hJ⟩ hk
      have rg := cnR_rg (pz := pz) (o := o) (t := t) i0
      have nxt : (prR pz o t i && decide (cnR pz o t i = k)) = false → ∀ n : Int32, n = z (cnR pz o t (i + 1)) → kb n (z (i + 1)) h := by
        rintro hb _ rfl
        refine hk _ _ ⟨rfl, rfl, fun j c1 c2 => ?_⟩
        by_cases e : j = i
        · rw [e]; exact hb
        · exact hJ j c1 (by omega)
      unfold w_X9_rest_34
      rw [zn_100, if_neg (by rw [z_le (by omega) (by omega) (by omega) (by omega)]; omega)]
      refine x_isRest ⟨a1, a2⟩ ⟨a3, a4⟩ ⟨a5, a6⟩ ⟨i0, i1⟩ (fun c => ?_) (fun c => ?_)
      · rw [if_neg (by decide)]
        by_cases e : cnR pz o t i = k
        · rw [if_pos (congrArg z e)]
          have ek : kR pz o t k = i := ff_yes i0 i1 (by rw [c, decide_eq_true e]; rfl) hJ
          rw [ek, if_neg (by omega)] at hq
          exact hq
        · rw [if_neg (z_ne (by omega) (by omega) (by omega) (by omega) e), z_inc, z_inc]
          exact nxt (by rw [decide_eq_false e]; simp) _ (by rw [cnR_s i0, if_pos c])
      · rw [if_pos rfl, z_inc]
        exact nxt (by rw [c]; rfl) _ (by rw [cnR_s i0, if_neg (by rw [c]; decide), Int.add_zero])
    · rintro kb _ _ ⟨rfl, rfl, hJ⟩
      unfold w_X9_rest_34
      rw [zn_100, if_pos (by rw [z_le (by omega) (by omega) (by omega) (by omega)]; omega)]
      rw [show kR pz o t k = -1 from ff_no hJ, if_pos rfl] at hq
      exact hq
  · rw [if_neg (by rw [zn_0, z_le (by omega) (by omega) (by omega) (by omega)]; exact k0)]
    rw [if_neg (by omega)] at hq
    exact hq
theorem m_has {ct own oth : Int} {Q : Int32 → PH → Prop} (h1 : 0 ≤ pz ∧ pz ≤ 99) (h2 : 0 ≤ ct ∧ ct ≤ 99) (h3 : 0 ≤ own ∧ own ≤ 9) (h4 : 0 ≤ oth ∧ oth ≤ 9) (hq : Q (z (gn pz ct own oth)) h) : w_X10_has (z pz) (z ct) (z own) (z oth) h Q := by
  unfold w_X10_has w_X10_has_21
  rw [z_mnI (by omega) (by omega) (by omega) (by omega), z_mul]
  unfold gn at hq
  by_cases c : own = oth
  · rw [if_pos (by rw [z_le (by omega) (by omega) (by omega) (by omega)]; omega), if_pos (congrArg z c), zn_2, z_div (by omega) (by omega) (by omega) (by omega), z_sub]
    rw [if_pos c] at hq
    exact hq
  · rw [if_neg c] at hq
    by_cases c2 : oth < own
    · rw [if_neg (by rw [z_le (by omega) (by omega) (by omega) (by omega)]; omega), z_sub]
      rw [if_pos c2] at hq
      exact hq
    · rw [if_pos (by rw [z_le (by omega) (by omega) (by omega) (by omega)]; omega), if_neg (z_ne (by omega) (by omega) (by omega) (by omega) c), zn_0, z_sub]
      rw [if_neg c2] at hq
      exact hq
theorem m_isRest {x v : Int} {Q : Int32 → PH → Prop} (h1 : 0 ≤ pz ∧ pz ≤ 99) (h2 : 0 ≤ o ∧ o ≤ 99) (h3 : 0 ≤ t ∧ t ≤ 99) (ex : 0 ≤ x ∧ x ≤ 9) (ev : 0 ≤ v ∧ v ≤ 9) (hT : isR pz o t x v = true → Q 1 h) (hF : isR pz o t x v = false → Q 0 h) : w_X10_isRest (z pz) (z o) (z t) (z x) (z v) h Q := by
  have ga := gn_rg h1 h2 ex ev
  have gb := gn_rg h1 h3 ev ex
  unfold w_X10_isRest
  refine for10 10 (fun j g => h = g ∧ ∀ k, 0 ≤ k → k < j → (decide (gn pz o x v < gn pz o k v) || decide (gn pz t v x < gn pz t k x)) = false) 0 rfl (by omega) (by omega) (by omega) ⟨rfl, fun k c1 c2 => by omega⟩ ?_ ?_
  · rintro kb j _ j0 j1 ⟨rfl, hJ⟩ hk
    have gc := gn_rg h1 h2 (own := j) (oth := v) (by omega) ev
    have gd := gn_rg h1 h3 (own := j) (oth := x) (by omega) ex
    unfold w_X10_isRest_3
    rw [zn_10, if_neg (by rw [z_le (by omega) (by omega) (by omega) (by omega)]; omega)]
    refine m_has h1 h2 (by omega) ev ?_
    refine m_has h1 h2 ex ev ?_
    have out : (decide (gn pz o x v < gn pz o j v) || decide (gn pz t v x < gn pz t j x)) = true → Q 0 h := fun hb => hF (by unfold isR; rw [ff_yes j0 j1 hb hJ]; exact decide_eq_false (by omega))
    by_cases c1 : gn pz o x v < gn pz o j v
    · rw [if_pos (by rw [z_lt (by omega) (by omega) (by omega) (by omega)]; omega)]
      exact out (by rw [decide_eq_true c1]; rfl)
    · rw [if_neg (by rw [z_lt (by omega) (by omega) (by omega) (by omega)]; omega)]
      refine m_has h1 h3 (by omega) ex ?_
      refine m_has h1 h3 ev ex ?_
      by_cases c2 : gn pz t v x < gn pz t j x
      · rw [if_neg (by rw [z_le (by omega) (by omega) (by omega) (by omega)]; omega)]
        exact out (by rw [decide_eq_true c2]; simp)
      · rw [if_pos (by rw [z_le (by omega) (by omega) (by omega) (by omega)]; omega), z_inc]
        refine hk _ ⟨rfl, fun k d1 d2 => ?_⟩
        by_cases e : k = j
        · rw [e, decide_eq_false c1, decide_eq_false c2]; rfl
        · exact hJ k d1 (by omega)
  · rintro kb _ ⟨rfl, hJ⟩
    unfold w_X10_isRest_3
    rw [zn_10, if_pos (by rw [z_le (by omega) (by omega) (by omega) (by omega)]; omega)]
    exact hT (by unfold isR; rw [ff_no hJ]; rfl)
theorem m_restOf {Q : Int32 → PH → Prop} (h1 : 0 ≤ pz ∧ pz ≤ 99) (h2 : 0 ≤ o ∧ o ≤ 99) (h3 : 0 ≤ t ∧ t ≤ 99) (h4 : -1 ≤ k ∧ k < 2147483648) (hq : Q (z (if k = -1 then cnR pz o t 100 else if kR pz o t k = -1 then -2 else kR pz o t k)) h) : w_X10_restOf (z pz) (z o) (z t) (z k) h Q := by
  unfold w_X10_restOf
  refine for21 10 (fun x n g => h = g ∧ n = z (cnR pz o t (10 * x)) ∧ ∀ j, 0 ≤ j → j < 10 * x → (prR pz o t j && decide (cnR pz o t j = k)) = false) 0 rfl (by omega) (by omega) (by omega) ⟨rfl, rfl, fun j c1 c2 => by omega⟩ ?_ ?_
  · rintro kb x _ _ x0 x1 ⟨rfl, rfl, hJ⟩ hk
    unfold w_X10_restOf_6
    rw [zn_10, if_neg (by rw [z_le (by omega) (by omega) (by omega) (by omega)]; omega), z_inc]
    refine for21 10 (fun v n g => h = g ∧ n = z (cnR pz o t (10 * x + v)) ∧ ∀ j, 0 ≤ j → j < 10 * x + v → (prR pz o t j && decide (cnR pz o t j = k)) = false) 0 rfl (by omega) (by omega) (by omega) ⟨rfl, by rw [Int.add_zero], fun j c1 c2 => hJ j c1 (by omega)⟩ ?_ ?_
    · clear hJ
      rintro kb2 v _ _ v0 v1 ⟨rfl, rfl, hJ⟩ hk2
      have i0 : 0 ≤ 10 * x + v := by omega
      have rg := cnR_rg (pz := pz) (o := o) (t := t) i0
      have ep : isR pz o t x v = prR pz o t (10 * x + v) := by unfold prR; rw [show (10 * x + v) / 10 = x by omega, show (10 * x + v) % 10 = v by omega]
      have nxt : (prR pz o t (10 * x + v) && decide (cnR pz o t (10 * x + v) = k)) = false → ∀ n : Int32, n = z (cnR pz o t (10 * x + v + 1)) → kb2 n (z (v + 1)) h := by
        rintro hb _ rfl
        refine hk2 _ _ ⟨rfl, by rw [Int.add_assoc], fun j c1 c2 => ?_⟩
        by_cases e : j = 10 * x + v
        · rw [e]; exact hb
        · exact hJ j c1 (by omega)
      unfold w_X10_restOf_16
      rw [zn_10, if_neg (by rw [z_le (by omega) (by omega) (by omega) (by omega)]; omega)]
      refine m_isRest h1 h2 h3 (by omega) (by omega) (fun c => ?_) (fun c => ?_)
      · rw [ep] at c
        rw [if_neg (by decide)]
        by_cases e : cnR pz o t (10 * x + v) = k
        · rw [if_pos (congrArg z e)]
          have ek : kR pz o t k = 10 * x + v := ff_yes i0 (by omega) (by rw [c, decide_eq_true e]; rfl) hJ
          rw [ek, if_neg (by omega), if_neg (by omega)] at hq
          dsimp only
          rw [z_mul, z_add]
          exact hq
        · rw [if_neg (z_ne (by omega) (by omega) (by omega) (by omega) e), z_inc, z_inc]
          exact nxt (by rw [decide_eq_false e]; simp) _ (by rw [cnR_s i0, if_pos c])
      · rw [ep] at c
        rw [if_pos rfl, z_inc]
        exact nxt (by rw [c]; rfl) _ (by rw [cnR_s i0, if_neg (by rw [c]; decide), Int.add_zero])
    · clear hJ
      rintro kb2 _ _ ⟨rfl, rfl, hJ⟩
      unfold w_X10_restOf_16
      rw [zn_10, if_pos (by rw [z_le (by omega) (by omega) (by omega) (by omega)]; omega)]
      refine hk _ _ ⟨rfl, by rw [show 10 * (x + 1) = 10 * x + 10 by omega], fun j c1 c2 => hJ j c1 (by omega)⟩
  · rintro kb _ _ ⟨rfl, rfl, hJ⟩
    unfold w_X10_restOf_6
    rw [zn_10, if_pos (by rw [z_le (by omega) (by omega) (by omega) (by omega)]; omega)]
    dsimp only
    by_cases e : k = -1
    · rw [if_pos (show z k = -1 by rw [e]; rfl)]
      rw [if_pos e] at hq
      exact hq
    · rw [if_neg (show ¬ z k = -1 from z_ne (by omega) (by omega) (by decide) (by decide) e)]
      rw [if_neg e, show kR pz o t k = -1 from ff_no (fun j c1 c2 => hJ j c1 (by omega)), if_pos rfl] at hq
      exact hq
theorem m_isWait {Q : Int32 → PH → Prop} (h1 : -2147483648 ≤ pz ∧ pz < 2147483648) (h2 : -2147483648 ≤ o ∧ o < 2147483648) (h3 : -2147483648 ≤ t ∧ t < 2147483648) (hT : ((0 ≤ pz ∧ pz ≤ 99) ∧ (0 ≤ o ∧ o ≤ 99) ∧ (0 ≤ t ∧ t ≤ 99)) → Q 1 h) (hF : ¬ ((0 ≤ pz ∧ pz ≤ 99) ∧ (0 ≤ o ∧ o ≤ 99) ∧ (0 ≤ t ∧ t ≤ 99)) → Q 0 h) : w_X10_isWait (z pz) (z o) (z t) h Q := by
  unfold w_X10_isWait
  have e : ∀ (v : Int) (A : Prop), (-2147483648 ≤ v ∧ v < 2147483648) → ((0 ≤ v ∧ v ≤ 99) → A) → (¬ (0 ≤ v ∧ v ≤ 99) → Q 0 h) → (if z v < 0 then Q 0 h else if 99 < z v then Q 0 h else A) := by
    intro v A hv a1 a2
    by_cases c : v < 0
    · rw [if_pos (by rw [zn_0, z_lt (by omega) (by omega) (by omega) (by omega)]; exact c)]
      exact a2 (by omega)
    · rw [if_neg (by rw [zn_0, z_lt (by omega) (by omega) (by omega) (by omega)]; exact c)]
      by_cases c2 : 99 < v
      · rw [if_pos (by rw [zn_99, z_lt (by omega) (by omega) (by omega) (by omega)]; exact c2)]
        exact a2 (by omega)
      · rw [if_neg (by rw [zn_99, z_lt (by omega) (by omega) (by omega) (by omega)]; exact c2)]
        exact a1 (by omega)
  exact e pz _ h1 (fun c1 => e o _ h2 (fun c2 => e t _ h3 (fun c3 => hT ⟨c1, c2, c3⟩) (fun c3 => hF (by omega))) (fun c2 => hF (by omega))) (fun c1 => hF (by omega))
theorem mq_rests {Q : Int32 → PH → Prop} (h1 : -2147483648 ≤ pz ∧ pz < 2147483648) (h2 : -2147483648 ≤ o ∧ o < 2147483648) (h3 : -2147483648 ≤ t ∧ t < 2147483648) (hq : ∀ g, (∀ c k, ¬ scrM c k → At h g c k) → Q (z (a_rests pz o t)) g) : w_X10_rests (z pz) (z o) (z t) h Q := by
  unfold w_X10_rests
  rintro _ rfl
  have rf := hq _ (fr0 h 0)
  unfold a_rests at rf
  refine m_isWait h1 h2 h3 (fun c => ?_) (fun c => ?_)
  · rw [if_neg (by decide)]
    rw [if_pos c] at rf
    refine m_restOf (k := -1) c.1 c.2.1 c.2.2 (by omega) ?_
    rw [if_pos rfl]
    exact rf
  · rw [if_pos rfl]
    rw [if_neg c] at rf
    exact rf
theorem mq_rest {Q : Int32 → PH → Prop} (h1 : -2147483648 ≤ pz ∧ pz < 2147483648) (h2 : -2147483648 ≤ o ∧ o < 2147483648) (h3 : -2147483648 ≤ t ∧ t < 2147483648) (h4 : -2147483648 ≤ k ∧ k < 2147483648) (hq : ∀ g, (∀ c k, ¬ scrM c k → At h g c k) → Q (z (a_rest pz o t k)) g) : w_X10_rest (z pz) (z o) (z t) (z k) h Q := by
  unfold w_X10_rest
  rintro _ rfl
  have rf := hq _ (fr0 h 0)
  unfold a_rest at rf
  refine m_isWait h1 h2 h3 (fun c => ?_) (fun c => ?_)
  · rw [if_neg (by decide)]
    by_cases k0 : k < 0
    · rw [if_pos (by rw [zn_0, z_lt (by omega) (by omega) (by omega) (by omega)]; exact k0)]
      rw [if_neg (by omega)] at rf
      exact rf
    · rw [if_neg (by rw [zn_0, z_lt (by omega) (by omega) (by omega) (by omega)]; exact k0)]
      rw [if_pos ⟨c, by omega⟩] at rf
      refine m_restOf c.1 c.2.1 c.2.2 (by omega) ?_
      rw [if_neg (by omega)]
      exact rf
  · rw [if_pos rfl]
    rw [if_neg (by omega)] at rf
    exact rf
end QD
