theorem iN_0 : iN 0 = 0 := rfl
theorem iN_1 : iN 1 = 1 := rfl
theorem iN_2 : iN 2 = 2 := rfl
theorem iN_3 : iN 3 = 3 := rfl
theorem iN_4 : iN 4 = 4 := rfl
theorem iN_5 : iN 5 = 5 := rfl
theorem x_j253 {v : Int} {h : PH} {Q : Int64 → PH → Prop} (hv : -4000000000000 ≤ v ∧ v ≤ 4000000000000) (hq : Q (ey (lim v)) h) : w_X1_joined_253 Q (zl v) h := by
  unfold w_X1_joined_253
  simp (disch := omega) only [lg_cmp_ge, lg_cmp_le, lg_cmp_gt, lg_cmp_lt, lg_cmp_eq, zl_0, zl_1, zl_T, zl_mT, zl_err, zl_9999, zl_add, zl_sub, zl_mul, zl_neg, zl_lt, zl_le, zl_eq, zl_of]
  unfold lim at hq
  by_cases h1 : 1000000000000 < v
  · rw [if_pos h1, ← zl_err]; rw [if_pos (Or.inl h1)] at hq; exact hq
  · rw [if_neg h1]
    by_cases h2 : -1000000000000 ≤ v
    · rw [if_pos h2]; rw [if_neg (by omega)] at hq; exact hq
    · rw [if_neg h2, ← zl_err]; rw [if_pos (by omega)] at hq; exact hq
theorem x_jmul {x v a : Int} {h : PH} {Q : Int64 → PH → Prop} (hx : bd x) (hv : bd v) (ha : a = x ∨ a = -x) (ha0 : 0 ≤ a) (h0 : v ≠ 0) (hq : Q (ey (lim (x * v))) h) : w_X1_joined_206 Q (zl x) (zl v) (zl a) h := by
  unfold bd at hx hv
  have key : ∀ c : Int, (c = v ∨ c = -v) → 0 < c → w_X1_joined_221 Q (zl x) (zl v) (zl a) 1000000000000 (zl c) h := by
    intro c hc hc0
    unfold w_X1_joined_221
    have e := mul_lim ha ha0 hc hc0
    have q0 : (0 : Int) ≤ 1000000000000 / c := Int.ediv_nonneg (by omega) (by omega)
    have q1 : 1000000000000 / c ≤ 1000000000000 := Int.ediv_le_self _ (by omega)
    rw [zl_T, zl_div (by omega) (by omega) (by omega) (by omega), Int.tdiv_eq_ediv_of_nonneg (by omega)]
    simp (disch := omega) only [lg_cmp_le, zl_0, zl_le, zl_eq]
    refine ⟨by omega, ?_⟩
    by_cases hl : 1000000000000 / c < a
    · rw [if_neg (by omega)]
      rw [e] at hl
      rw [lim_mul, if_pos hl] at hq
      exact hq
    · rw [if_pos (by omega)]
      rw [e] at hl
      unfold w_X1_joined_230
      rintro _ rfl
      rw [zl_mul]
      exact x_j253 (by omega) hq
  unfold w_X1_joined_206
  simp (disch := omega) only [lg_cmp_ge, zl_0, zl_le]
  by_cases hs : 0 ≤ v
  · rw [if_pos hs]; exact key v (Or.inl rfl) (by omega)
  · rw [if_neg hs, zl_neg]; exact key (-v) (Or.inr rfl) (by omega)
theorem z_ne {a b : Int} (h1 : -2147483648 ≤ a) (h2 : a < 2147483648) (h3 : -2147483648 ≤ b) (h4 : b < 2147483648) (h : a ≠ b) : ¬ z a = z b := by rw [z_eq h1 h2 h3 h4]; exact h
theorem x_joined {s x v : Int} {h : PH} {Q : Int64 → PH → Prop} (hs : 0 ≤ s ∧ s ≤ 12 ∧ s ≠ 2) (hx : bd x) (hv : bd v) (hq : Q (ey (jn s x v)) h) : w_X1_joined (z s) (zl x) (zl v) h Q := by
  have hx' := hx
  have hv' := hv
  unfold bd at hx' hv'
  unfold w_X1_joined
  unfold jn at hq
  have e0 : ey (some 0) = 0 := rfl
  have e1 : ey (some 1) = 1 := rfl
  have eq0 : ∀ w : Int, -1000000000000 ≤ w ∧ w ≤ 1000000000000 → (lg_cmp (zl w) 0 = 0) = (w = 0) := by
    intro w hw
    rw [lg_cmp_eq, zl_0, zl_eq (by omega) (by omega) (by omega) (by omega)]
  by_cases c0 : s = 0
  · rw [if_pos (show z s = 0 by rw [c0]; rfl)]
    rw [if_pos c0] at hq
    by_cases a : x = 0 <;> by_cases b : v = 0 <;> simp only [eq0 x hx', eq0 v hv', a, b, if_true, if_false, and_true, true_and, and_false, false_and, and_self, e0, e1] at hq ⊢ <;> exact hq
  rw [if_neg (show ¬ z s = 0 from z_ne (by omega) (by omega) (by decide) (by decide) c0)]
  rw [if_neg c0] at hq
  by_cases c1 : s = 1
  · rw [if_pos (show z s = 1 by rw [c1]; rfl)]
    rw [if_pos c1] at hq
    by_cases a : x = 0 <;> by_cases b : v = 0 <;> simp only [eq0 x hx', eq0 v hv', a, b, if_true, if_false, or_true, true_or, or_false, false_or, or_self, e0, e1] at hq ⊢ <;> exact hq
  rw [if_neg (show ¬ z s = 1 from z_ne (by omega) (by omega) (by decide) (by decide) c1)]
  rw [if_neg c1] at hq
  by_cases c3 : s = 3
  · rw [if_pos (show z s = 3 by rw [c3]; rfl)]
    rw [if_pos c3] at hq
    simp (disch := omega) only [lg_cmp_ge, zl_le]
    by_cases a : x < v
    · rw [if_neg (by omega)]; rw [if_pos a] at hq; exact hq
    · rw [if_pos (by omega)]; rw [if_neg a] at hq; exact hq
  rw [if_neg (show ¬ z s = 3 from z_ne (by omega) (by omega) (by decide) (by decide) c3)]
  rw [if_neg c3] at hq
  by_cases c4 : s = 4
  · rw [if_pos (show z s = 4 by rw [c4]; rfl)]
    rw [if_pos c4] at hq
    simp (disch := omega) only [lg_cmp_gt, zl_lt]
    by_cases a : x ≤ v
    · rw [if_neg (by omega)]; rw [if_pos a] at hq; exact hq
    · rw [if_pos (by omega)]; rw [if_neg a] at hq; exact hq
  rw [if_neg (show ¬ z s = 4 from z_ne (by omega) (by omega) (by decide) (by decide) c4)]
  rw [if_neg c4] at hq
  by_cases c5 : s = 5
  · rw [if_pos (show z s = 5 by rw [c5]; rfl)]
    rw [if_pos c5] at hq
    simp (disch := omega) only [lg_cmp_eq, zl_eq]
    by_cases a : x = v
    · rw [if_pos a]; rw [if_pos a] at hq; exact hq
    · rw [if_neg a]; rw [if_neg a] at hq; exact hq
  rw [if_neg (show ¬ z s = 5 from z_ne (by omega) (by omega) (by decide) (by decide) c5)]
  rw [if_neg c5] at hq
  by_cases c6 : s = 6
  · rw [if_pos (show z s = 6 by rw [c6]; rfl)]
    rw [if_pos c6] at hq
    simp (disch := omega) only [lg_cmp_eq, zl_eq]
    by_cases a : x = v
    · rw [if_pos a]; rw [if_pos a] at hq; exact hq
    · rw [if_neg a]; rw [if_neg a] at hq; exact hq
  rw [if_neg (show ¬ z s = 6 from z_ne (by omega) (by omega) (by decide) (by decide) c6)]
  rw [if_neg c6] at hq
  by_cases c7 : s = 7
  · rw [if_pos (show z s = 7 by rw [c7]; rfl)]
    rw [if_pos c7] at hq
    simp (disch := omega) only [lg_cmp_lt, zl_lt]
    by_cases a : v ≤ x
    · rw [if_neg (by omega)]; rw [if_pos a] at hq; exact hq
    · rw [if_pos (by omega)]; rw [if_neg a] at hq; exact hq
  rw [if_neg (show ¬ z s = 7 from z_ne (by omega) (by omega) (by decide) (by decide) c7)]
  rw [if_neg c7] at hq
  by_cases c8 : s = 8
  · rw [if_pos (show z s = 8 by rw [c8]; rfl)]
    rw [if_pos c8] at hq
    simp (disch := omega) only [lg_cmp_le, zl_le]
    by_cases a : v < x
    · rw [if_neg (by omega)]; rw [if_pos a] at hq; exact hq
    · rw [if_pos (by omega)]; rw [if_neg a] at hq; exact hq
  rw [if_neg (show ¬ z s = 8 from z_ne (by omega) (by omega) (by decide) (by decide) c8)]
  rw [if_neg c8] at hq
  by_cases c9 : s = 9
  · rw [if_pos (show z s = 9 by rw [c9]; rfl)]
    rw [if_pos c9] at hq
    rintro _ rfl
    rw [zl_add]
    exact x_j253 (by omega) hq
  rw [if_neg (show ¬ z s = 9 from z_ne (by omega) (by omega) (by decide) (by decide) c9)]
  rw [if_neg c9] at hq
  by_cases c10 : s = 10
  · rw [if_pos (show z s = 10 by rw [c10]; rfl)]
    rw [if_pos c10] at hq
    rintro _ rfl
    rw [zl_sub]
    exact x_j253 (by omega) hq
  rw [if_neg (show ¬ z s = 10 from z_ne (by omega) (by omega) (by decide) (by decide) c10)]
  rw [if_neg c10] at hq
  by_cases c11 : s = 11
  · rw [if_pos (show z s = 11 by rw [c11]; rfl)]
    rw [if_pos c11] at hq
    by_cases v0 : v = 0
    · rw [if_pos (by rw [eq0 v hv']; exact v0)]
      unfold w_X1_joined_230
      rintro _ rfl
      rw [zl_mul]
      exact x_j253 (by rw [v0]; omega) hq
    · rw [if_neg (by rw [eq0 v hv']; exact v0)]
      by_cases x0 : 0 ≤ x
      · rw [if_pos (by rw [lg_cmp_ge, zl_0, zl_le (by omega) (by omega) (by omega) (by omega)]; exact x0)]
        exact x_jmul hx hv (Or.inl rfl) x0 v0 hq
      · rw [if_neg (by rw [lg_cmp_ge, zl_0, zl_le (by omega) (by omega) (by omega) (by omega)]; exact x0), zl_neg]
        exact x_jmul hx hv (Or.inr rfl) (by omega) v0 hq
  rw [if_neg (show ¬ z s = 11 from z_ne (by omega) (by omega) (by decide) (by decide) c11)]
  rw [if_neg c11] at hq
  unfold w_X1_joined_238
  by_cases v0 : v = 0
  · rw [if_pos (by rw [eq0 v hv']; exact v0)]
    rw [if_pos v0] at hq
    exact hq
  · rw [if_neg (by rw [eq0 v hv']; exact v0)]
    rw [if_neg v0] at hq
    refine ⟨by rw [zl_0, zl_eq (by omega) (by omega) (by omega) (by omega)]; exact v0, ?_⟩
    rintro _ rfl
    rw [zl_div (by omega) (by omega) (by omega) (by omega)]
    refine x_j253 ?_ hq
    have a1 := Int.natAbs_tdiv_le_natAbs x v
    omega
