/-! ===== the same by the reference ===== -/
def msg (s : Int) : Int := if s = 0 then 262 else if s = 1 then 261 else if s = 2 then 260 else if s = 3 then 60 else if s = 4 then 256 else if s = 5 then 61 else if s = 6 then 257 else if s = 7 then 258 else if s = 8 then 62 else if s = 9 then 43 else if s = 10 then 45 else if s = 11 then 42 else 47
def kso (k : Int) : Int := if 0 ≤ k then 0 else if -10 < k then 1 else 2
def kva (k : Int) : Int := if 0 ≤ k then k else if -10 < k then -1 - k else msg (-10 - k)
def KM (h : PH) (i : Nat) (fr : Int) (ks : List Int) : Prop := gI h 28 i = z fr ∧ gI h 29 i = z (fr + ks.length) ∧ 0 ≤ fr ∧ fr + ks.length ≤ 64 ∧ ∀ j : Nat, j < ks.length → gI h 30 (fr.toNat + j) = z (kso (kat ks j)) ∧ gI h 31 (fr.toNat + j) = z (kva (kat ks j))
theorem m_407 {v n : Int} {h : PH} {Q : Int32 → PH → Prop} (hv : -4000000000000 ≤ v ∧ v ≤ 4000000000000) (hc : gI h 0 48 = z (n + 1)) (hn : 0 ≤ n ∧ n ≤ 62) (h1 : ∀ w, lim v = some w → Q 1 (sJ h 33 n.toNat (zl w))) (h0 : lim v = none → Q 0 (sJ h 33 n.toNat (zl v))) : w_X10_works_407 Q (zl v) h := by
  unfold w_X10_works_407
  rw [hc]
  simp (disch := omega) only [zn_0, zn_1, zn_2, zn_3, zn_4, zn_5, zn_6, zn_7, zn_8, zn_9, zn_10, zn_11, zn_12, zn_13, zn_14, zn_15, zn_16, zn_17, zn_18, zn_19, zn_20, zn_21, zn_22, zn_23, zn_24, zn_36, zn_44, zn_47, zn_48, zn_64, z_add, z_sub, z_mul, z_neg, z_lt, z_le, z_eq, z_iN, z_in, z_mnI, z_mxI, true_and, and_true]
  rw [show (n + 1 - 1).toNat = n.toNat by omega]
  rintro _ rfl
  simp (disch := omega) only [lz_gt, lz_lt, zl_T, zl_mT, zl_neg, zl_lt]
  unfold lim at h1 h0
  by_cases a : 1000000000000 < v
  · rw [if_pos a]; exact h0 (if_pos (Or.inl a))
  · rw [if_neg a]
    by_cases b : v < -1000000000000
    · rw [if_pos b]; exact h0 (if_pos (Or.inr b))
    · rw [if_neg b]; exact h1 v (if_neg (by omega))
theorem m_407b {v n : Int} {h : PH} {Q : Int32 → PH → Prop} (hv : v = 0 ∨ v = 1) (hc : gI h 0 48 = z (n + 1)) (hn : 0 ≤ n ∧ n ≤ 62) (h1 : Q 1 (sJ h 33 n.toNat (zl v))) : w_X10_works_407 Q (zl v) h := by
  have e : lim v = some v := by unfold lim; rw [if_neg (by omega)]
  refine m_407 (by omega) hc hn (fun w hw => ?_) (fun hw => ?_)
  · rw [e] at hw; injection hw with hw; subst hw; exact h1
  · rw [e] at hw; cases hw
theorem m_is {b : Int} {h : PH} {Q : Int64 → PH → Prop} (hb : b = 0 ∨ b = 1) (hq : Q (zl b) h) : w_X10_is (z b) h Q := by
  unfold w_X10_is
  rcases hb with rfl | rfl
  · exact hq
  · exact hq
set_option maxHeartbeats 4000000 in
theorem m_works {s u v n : Int} {h : PH} {Q : Int32 → PH → Prop} (hs : 0 ≤ s ∧ s ≤ 12 ∧ s ≠ 2) (bu : bd u) (bv : bd v) (hn : 0 ≤ n ∧ n ≤ 62) (hc : gI h 0 48 = z (n + 2)) (e1 : gJ h 33 (n + 1).toNat = zl v) (e2 : gJ h 33 n.toNat = zl u)
    (h1 : ∀ w, jn s u v = some w → Q 1 (sJ (sI h 0 48 (z (n + 1))) 33 n.toNat (zl w))) (h0 : jn s u v = none → ∀ g, (∀ c k, ¬ (c = 33) → ¬ (c = 0 ∧ k = 48) → At h g c k) → Q 0 g) : w_X10_works (z (msg s)) h Q := by
  have bu' := bu
  have bv' := bv
  unfold bd at bu' bv'
  unfold w_X10_works
  have eq0 : ∀ w : Int, -1000000000000 ≤ w ∧ w ≤ 1000000000000 → (lg_cmp (zl w) 0 = 0) = (w = 0) := by
    intro w hw
    rw [lg_cmp_eq, zl_0, zl_eq (by omega) (by omega) (by omega) (by omega)]
  have i1 : z (n + 2) - 1 = z (n + 1) := by rw [zn_1, z_sub]; congr 1; omega
  have i2 : z (n + 2) - 2 = z n := by rw [zn_2, z_sub]; congr 1; omega
  rw [hc, i1, i2, z_iN (by omega) (by omega), z_iN (by omega) (by omega), e1, e2]
  refine ⟨z_in (by omega) (by omega) (by omega), ?_⟩
  rintro _ rfl
  have hm : ∀ k : Int, msg s ≠ k → -2147483648 ≤ k → k < 2147483648 → ¬ z (msg s) = z k := fun k a b c => z_ne (by unfold msg; repeat' split <;> omega) (by unfold msg; repeat' split <;> omega) b c a
  rw [if_neg (show ¬ z (msg s) = 260 from hm 260 (by unfold msg; repeat' split <;> omega) (by decide) (by decide))]
  refine ⟨z_in (by omega) (by omega) (by omega), ?_⟩
  rintro _ rfl _ rfl
  have hc5 : gI (sI h 0 48 (z (n + 1))) 0 48 = z (n + 1) := gI_in rfl rfl
  have fr0 : ∀ c k, ¬ (c = 33) → ¬ (c = 0 ∧ k = 48) → At h (sI h 0 48 (z (n + 1))) c k := fun c k a b => (At.rf h c k).sI b
  have fr1 : ∀ x c k, ¬ (c = 33) → ¬ (c = 0 ∧ k = 48) → At h (sJ (sI h 0 48 (z (n + 1))) 33 n.toNat x) c k := fun x c k a b => ((At.rf h c k).sI b).sJ (by omega)
  have hz0 : (0 : Int32) = z 0 := rfl
  have hz1 : (1 : Int32) = z 1 := rfl
  unfold jn at h1 h0
  by_cases c0 : s = 0
  · have em : msg s = 262 := by rw [c0]; rfl
    rw [em]
    rw [if_neg (show ¬ z 262 = 42 by decide)]
    rw [if_neg (show ¬ z 262 = 43 by decide)]
    rw [if_neg (show ¬ z 262 = 45 by decide)]
    rw [if_neg (show ¬ z 262 = 47 by decide)]
    rw [if_neg (show ¬ z 262 = 60 by decide)]
    rw [if_neg (show ¬ z 262 = 61 by decide)]
    rw [if_neg (show ¬ z 262 = 62 by decide)]
    rw [if_neg (show ¬ z 262 = 256 by decide)]
    rw [if_neg (show ¬ z 262 = 257 by decide)]
    rw [if_neg (show ¬ z 262 = 258 by decide)]
    rw [if_neg (show ¬ z 262 = 261 by decide)]
    simp only [if_pos c0] at h1 h0
    unfold w_X10_works_397 w_X10_works_402
    rw [hz0, hz1]
    by_cases a : u = 0 <;> by_cases b : v = 0 <;> simp only [← hz0, eq0 u bu', eq0 v bv', a, b, if_true, if_false, and_true, true_and, and_false, false_and, and_self] at h1 ⊢ <;> first | exact m_is (b := 0) (by omega) (m_407b (by omega) hc5 hn (h1 _ rfl)) | exact m_is (b := 1) (by omega) (m_407b (by omega) hc5 hn (h1 _ rfl))
  by_cases c1 : s = 1
  · have em : msg s = 261 := by rw [c1]; rfl
    rw [em]
    rw [if_neg (show ¬ z 261 = 42 by decide)]
    rw [if_neg (show ¬ z 261 = 43 by decide)]
    rw [if_neg (show ¬ z 261 = 45 by decide)]
    rw [if_neg (show ¬ z 261 = 47 by decide)]
    rw [if_neg (show ¬ z 261 = 60 by decide)]
    rw [if_neg (show ¬ z 261 = 61 by decide)]
    rw [if_neg (show ¬ z 261 = 62 by decide)]
    rw [if_neg (show ¬ z 261 = 256 by decide)]
    rw [if_neg (show ¬ z 261 = 257 by decide)]
    rw [if_neg (show ¬ z 261 = 258 by decide)]
    rw [if_pos (show z 261 = 261 from rfl)]
    simp only [if_neg (show ¬ s = 0 by omega), if_pos c1] at h1 h0
    unfold w_X10_works_375 w_X10_works_376
    rw [hz0, hz1]
    by_cases a : u = 0 <;> by_cases b : v = 0 <;> simp only [← hz0, eq0 u bu', eq0 v bv', a, b, if_true, if_false, or_true, true_or, or_false, false_or, or_self] at h1 ⊢ <;> first | exact m_is (b := 0) (by omega) (m_407b (by omega) hc5 hn (h1 _ rfl)) | exact m_is (b := 1) (by omega) (m_407b (by omega) hc5 hn (h1 _ rfl))
  by_cases c3 : s = 3
  · have em : msg s = 60 := by rw [c3]; rfl
    rw [em]
    rw [if_neg (show ¬ z 60 = 42 by decide)]
    rw [if_neg (show ¬ z 60 = 43 by decide)]
    rw [if_neg (show ¬ z 60 = 45 by decide)]
    rw [if_neg (show ¬ z 60 = 47 by decide)]
    rw [if_pos (show z 60 = 60 from rfl)]
    simp only [if_neg (show ¬ s = 0 by omega), if_neg (show ¬ s = 1 by omega), if_pos c3] at h1 h0
    unfold w_X10_works_250
    simp (disch := omega) only [lg_cmp_ge, zl_le]
    by_cases a : u < v
    · rw [if_neg (by omega)]; rw [if_pos a] at h1; exact m_is (b := 1) (by omega) (m_407b (by omega) hc5 hn (h1 _ rfl))
    · rw [if_pos (by omega)]; rw [if_neg a] at h1; exact m_is (b := 0) (by omega) (m_407b (by omega) hc5 hn (h1 _ rfl))
  by_cases c4 : s = 4
  · have em : msg s = 256 := by rw [c4]; rfl
    rw [em]
    rw [if_neg (show ¬ z 256 = 42 by decide)]
    rw [if_neg (show ¬ z 256 = 43 by decide)]
    rw [if_neg (show ¬ z 256 = 45 by decide)]
    rw [if_neg (show ¬ z 256 = 47 by decide)]
    rw [if_neg (show ¬ z 256 = 60 by decide)]
    rw [if_neg (show ¬ z 256 = 61 by decide)]
    rw [if_neg (show ¬ z 256 = 62 by decide)]
    rw [if_pos (show z 256 = 256 from rfl)]
    simp only [if_neg (show ¬ s = 0 by omega), if_neg (show ¬ s = 1 by omega), if_neg (show ¬ s = 3 by omega), if_pos c4] at h1 h0
    unfold w_X10_works_310
    simp (disch := omega) only [lg_cmp_gt, zl_lt]
    by_cases a : u ≤ v
    · rw [if_neg (by omega)]; rw [if_pos a] at h1; exact m_is (b := 1) (by omega) (m_407b (by omega) hc5 hn (h1 _ rfl))
    · rw [if_pos (by omega)]; rw [if_neg a] at h1; exact m_is (b := 0) (by omega) (m_407b (by omega) hc5 hn (h1 _ rfl))
  by_cases c5 : s = 5
  · have em : msg s = 61 := by rw [c5]; rfl
    rw [em]
    rw [if_neg (show ¬ z 61 = 42 by decide)]
    rw [if_neg (show ¬ z 61 = 43 by decide)]
    rw [if_neg (show ¬ z 61 = 45 by decide)]
    rw [if_neg (show ¬ z 61 = 47 by decide)]
    rw [if_neg (show ¬ z 61 = 60 by decide)]
    rw [if_pos (show z 61 = 61 from rfl)]
    simp only [if_neg (show ¬ s = 0 by omega), if_neg (show ¬ s = 1 by omega), if_neg (show ¬ s = 3 by omega), if_neg (show ¬ s = 4 by omega), if_pos c5] at h1 h0
    unfold w_X10_works_290
    simp (disch := omega) only [lg_cmp_eq, zl_eq]
    by_cases a : u = v
    · rw [if_pos a]; rw [if_pos a] at h1; exact m_is (b := 1) (by omega) (m_407b (by omega) hc5 hn (h1 _ rfl))
    · rw [if_neg a]; rw [if_neg a] at h1; exact m_is (b := 0) (by omega) (m_407b (by omega) hc5 hn (h1 _ rfl))
  by_cases c6 : s = 6
  · have em : msg s = 257 := by rw [c6]; rfl
    rw [em]
    rw [if_neg (show ¬ z 257 = 42 by decide)]
    rw [if_neg (show ¬ z 257 = 43 by decide)]
    rw [if_neg (show ¬ z 257 = 45 by decide)]
    rw [if_neg (show ¬ z 257 = 47 by decide)]
    rw [if_neg (show ¬ z 257 = 60 by decide)]
    rw [if_neg (show ¬ z 257 = 61 by decide)]
    rw [if_neg (show ¬ z 257 = 62 by decide)]
    rw [if_neg (show ¬ z 257 = 256 by decide)]
    rw [if_pos (show z 257 = 257 from rfl)]
    simp only [if_neg (show ¬ s = 0 by omega), if_neg (show ¬ s = 1 by omega), if_neg (show ¬ s = 3 by omega), if_neg (show ¬ s = 4 by omega), if_neg (show ¬ s = 5 by omega), if_pos c6] at h1 h0
    unfold w_X10_works_350
    simp (disch := omega) only [lg_cmp_eq, zl_eq]
    by_cases a : u = v
    · rw [if_pos a]; rw [if_pos a] at h1; exact m_is (b := 0) (by omega) (m_407b (by omega) hc5 hn (h1 _ rfl))
    · rw [if_neg a]; rw [if_neg a] at h1; exact m_is (b := 1) (by omega) (m_407b (by omega) hc5 hn (h1 _ rfl))
  by_cases c7 : s = 7
  · have em : msg s = 258 := by rw [c7]; rfl
    rw [em]
    rw [if_neg (show ¬ z 258 = 42 by decide)]
    rw [if_neg (show ¬ z 258 = 43 by decide)]
    rw [if_neg (show ¬ z 258 = 45 by decide)]
    rw [if_neg (show ¬ z 258 = 47 by decide)]
    rw [if_neg (show ¬ z 258 = 60 by decide)]
    rw [if_neg (show ¬ z 258 = 61 by decide)]
    rw [if_neg (show ¬ z 258 = 62 by decide)]
    rw [if_neg (show ¬ z 258 = 256 by decide)]
    rw [if_neg (show ¬ z 258 = 257 by decide)]
    rw [if_pos (show z 258 = 258 from rfl)]
    simp only [if_neg (show ¬ s = 0 by omega), if_neg (show ¬ s = 1 by omega), if_neg (show ¬ s = 3 by omega), if_neg (show ¬ s = 4 by omega), if_neg (show ¬ s = 5 by omega), if_neg (show ¬ s = 6 by omega), if_pos c7] at h1 h0
    unfold w_X10_works_330
    simp (disch := omega) only [lg_cmp_lt, zl_lt]
    by_cases a : v ≤ u
    · rw [if_neg (by omega)]; rw [if_pos a] at h1; exact m_is (b := 1) (by omega) (m_407b (by omega) hc5 hn (h1 _ rfl))
    · rw [if_pos (by omega)]; rw [if_neg a] at h1; exact m_is (b := 0) (by omega) (m_407b (by omega) hc5 hn (h1 _ rfl))
  by_cases c8 : s = 8
  · have em : msg s = 62 := by rw [c8]; rfl
    rw [em]
    rw [if_neg (show ¬ z 62 = 42 by decide)]
    rw [if_neg (show ¬ z 62 = 43 by decide)]
    rw [if_neg (show ¬ z 62 = 45 by decide)]
    rw [if_neg (show ¬ z 62 = 47 by decide)]
    rw [if_neg (show ¬ z 62 = 60 by decide)]
    rw [if_neg (show ¬ z 62 = 61 by decide)]
    rw [if_pos (show z 62 = 62 from rfl)]
    simp only [if_neg (show ¬ s = 0 by omega), if_neg (show ¬ s = 1 by omega), if_neg (show ¬ s = 3 by omega), if_neg (show ¬ s = 4 by omega), if_neg (show ¬ s = 5 by omega), if_neg (show ¬ s = 6 by omega), if_neg (show ¬ s = 7 by omega), if_pos c8] at h1 h0
    unfold w_X10_works_270
    simp (disch := omega) only [lg_cmp_le, zl_le]
    by_cases a : v < u
    · rw [if_neg (by omega)]; rw [if_pos a] at h1; exact m_is (b := 1) (by omega) (m_407b (by omega) hc5 hn (h1 _ rfl))
    · rw [if_pos (by omega)]; rw [if_neg a] at h1; exact m_is (b := 0) (by omega) (m_407b (by omega) hc5 hn (h1 _ rfl))
  by_cases c9 : s = 9
  · have em : msg s = 43 := by rw [c9]; rfl
    rw [em]
    rw [if_neg (show ¬ z 43 = 42 by decide)]
    rw [if_pos (show z 43 = 43 from rfl)]
    simp only [if_neg (show ¬ s = 0 by omega), if_neg (show ¬ s = 1 by omega), if_neg (show ¬ s = 3 by omega), if_neg (show ¬ s = 4 by omega), if_neg (show ¬ s = 5 by omega), if_neg (show ¬ s = 6 by omega), if_neg (show ¬ s = 7 by omega), if_neg (show ¬ s = 8 by omega), if_pos c9] at h1 h0
    rintro _ rfl
    rw [zl_add]
    exact m_407 (by omega) hc5 hn h1 (fun e => h0 e _ (fr1 _))
  by_cases c10 : s = 10
  · have em : msg s = 45 := by rw [c10]; rfl
    rw [em]
    rw [if_neg (show ¬ z 45 = 42 by decide)]
    rw [if_neg (show ¬ z 45 = 43 by decide)]
    rw [if_pos (show z 45 = 45 from rfl)]
    simp only [if_neg (show ¬ s = 0 by omega), if_neg (show ¬ s = 1 by omega), if_neg (show ¬ s = 3 by omega), if_neg (show ¬ s = 4 by omega), if_neg (show ¬ s = 5 by omega), if_neg (show ¬ s = 6 by omega), if_neg (show ¬ s = 7 by omega), if_neg (show ¬ s = 8 by omega), if_neg (show ¬ s = 9 by omega), if_pos c10] at h1 h0
    rintro _ rfl
    rw [zl_sub]
    exact m_407 (by omega) hc5 hn h1 (fun e => h0 e _ (fr1 _))
  by_cases c11 : s = 11
  · have em : msg s = 42 := by rw [c11]; rfl
    rw [em]
    rw [if_pos (show z 42 = 42 from rfl)]
    simp only [if_neg (show ¬ s = 0 by omega), if_neg (show ¬ s = 1 by omega), if_neg (show ¬ s = 3 by omega), if_neg (show ¬ s = 4 by omega), if_neg (show ¬ s = 5 by omega), if_neg (show ¬ s = 6 by omega), if_neg (show ¬ s = 7 by omega), if_neg (show ¬ s = 8 by omega), if_neg (show ¬ s = 9 by omega), if_neg (show ¬ s = 10 by omega), if_pos c11] at h1 h0
    have key : (-4000000000000 ≤ u * v ∧ u * v ≤ 4000000000000) → w_X10_works_212 Q (zl v) (zl u) (sI h 0 48 (z (n + 1))) := by
      intro hb
      unfold w_X10_works_212
      rintro _ rfl
      rw [zl_mul]
      exact m_407 hb hc5 hn h1 (fun e => h0 e _ (fr1 _))
    by_cases u0 : u = 0
    · rw [if_pos (by rw [eq0 u bu']; exact u0)]
      exact key (by rw [u0]; omega)
    · rw [if_neg (by rw [eq0 u bu']; exact u0)]
      have ab : ∀ x : Int, bd x → abJ (zl x) = zl (if 0 < x then x else -x) := by
        intro x hx
        unfold bd at hx
        unfold abJ
        simp (disch := omega) only [zl_0, zl_lt, zl_neg]
        split <;> rfl
      rw [ab u bu, ab v bv]
      have hcc : (if 0 < u then u else -u) = u ∨ (if 0 < u then u else -u) = -u := by split <;> simp
      have hc0 : 0 < (if 0 < u then u else -u) := by split <;> omega
      have hcb : (if 0 < u then u else -u) ≤ 1000000000000 := by split <;> omega
      have ha : (if 0 < v then v else -v) = v ∨ (if 0 < v then v else -v) = -v := by split <;> simp
      have ha0 : 0 ≤ (if 0 < v then v else -v) := by split <;> omega
      have hab : (if 0 < v then v else -v) ≤ 1000000000000 := by split <;> omega
      have e := mul_lim ha ha0 hcc hc0
      generalize (if 0 < u then u else -u) = c at *
      generalize (if 0 < v then v else -v) = a at *
      have q0 : (0 : Int) ≤ 1000000000000 / c := Int.ediv_nonneg (by omega) (by omega)
      have q1 : 1000000000000 / c ≤ 1000000000000 := Int.ediv_le_self _ (by omega)
      rw [zl_T, zl_div (by omega) (by omega) (by omega) (by omega), Int.tdiv_eq_ediv_of_nonneg (by omega)]
      rw [Int.mul_comm v u] at e
      refine ⟨by rw [zl_0, zl_eq (by omega) (by omega) (by omega) (by omega)]; omega, ?_⟩
      by_cases hl : 1000000000000 / c < a
      · rw [if_neg (by rw [lg_cmp_le, zl_le (by omega) (by omega) (by omega) (by omega)]; omega)]
        rw [e] at hl
        exact h0 (by rw [lim_mul, if_pos hl]) _ fr0
      · rw [if_pos (by rw [lg_cmp_le, zl_le (by omega) (by omega) (by omega) (by omega)]; omega)]
        rw [e] at hl
        exact key (by omega)
  have c12 : s = 12 := by omega
  have em : msg s = 47 := by rw [c12]; rfl
  rw [em]
  rw [if_neg (show ¬ z 47 = 42 by decide)]
  rw [if_neg (show ¬ z 47 = 43 by decide)]
  rw [if_neg (show ¬ z 47 = 45 by decide)]
  rw [if_pos (show z 47 = 47 from rfl)]
  simp only [if_neg (show ¬ s = 0 by omega), if_neg (show ¬ s = 1 by omega), if_neg (show ¬ s = 3 by omega), if_neg (show ¬ s = 4 by omega), if_neg (show ¬ s = 5 by omega), if_neg (show ¬ s = 6 by omega), if_neg (show ¬ s = 7 by omega), if_neg (show ¬ s = 8 by omega), if_neg (show ¬ s = 9 by omega), if_neg (show ¬ s = 10 by omega), if_neg (show ¬ s = 11 by omega)] at h1 h0
  by_cases v0 : v = 0
  · rw [if_pos (by rw [eq0 v bv']; exact v0)]
    rw [if_pos v0] at h0
    exact h0 rfl _ fr0
  · rw [if_neg (by rw [eq0 v bv']; exact v0)]
    simp only [if_neg v0] at h1 h0
    refine ⟨by rw [zl_0, zl_eq (by omega) (by omega) (by omega) (by omega)]; exact v0, ?_⟩
    rintro _ rfl
    rw [zl_div (by omega) (by omega) (by omega) (by omega)]
    refine m_407 ?_ hc5 hn h1 (fun e => h0 e _ (fr1 _))
    have a1 := Int.natAbs_tdiv_le_natAbs u v
    omega
