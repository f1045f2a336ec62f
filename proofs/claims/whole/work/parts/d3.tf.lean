/-! ===== letters packed by five bits ===== -/
theorem shl_z {v : Int} {s : Nat} (hv : 0 ≤ v) (hs : s < 32) : (z v <<< (nI s &&& 31)) = z (v * 2 ^ s) := by
  have e : z (v * 2 ^ s) = nI (v.toNat * 2 ^ s) := by
    rw [← z_nI, Int.natCast_mul, Int.natCast_pow, Int.toNat_of_nonneg hv]
    rfl
  refine b_ext (fun i hi => ?_)
  rw [b_shl s hs _ hi, e, bt_nI hi, z_nI' hv, bt_nI (by omega), Nat.testBit_mul_two_pow]
theorem pk_or {v d : Int} (hv : 0 ≤ v) (hd : 0 ≤ d ∧ d < 32) : (z v <<< ((5 : Int32) &&& 31)) ||| z d = z (v * 32 + d) := by
  have e : z (v * 32 + d) = nI (2 ^ 5 * v.toNat + d.toNat) := by
    rw [← z_nI]
    congr 1
    omega
  refine b_ext (fun i hi => ?_)
  rw [b_or, show (5 : Int32) = nI 5 from rfl, b_shl 5 (by omega) _ hi, z_nI' hv, z_nI' hd.1, bt_nI (by omega), bt_nI hi, e, bt_nI hi, Nat.testBit_two_pow_mul_add _ (by omega : d.toNat < 2 ^ 5)]
  by_cases c : i < 5
  · rw [if_pos c, decide_eq_false (by omega), Bool.false_and, Bool.false_or]
  · rw [if_neg c, decide_eq_true (by omega), Bool.true_and, Nat.testBit_lt_two_pow (Nat.lt_of_lt_of_le (by omega : d.toNat < 2 ^ 5) (Nat.pow_le_pow_right (by decide) (by omega))), Bool.or_false]
def pv (T : Int → Int) (L p n : Int) : Nat → Int
  | 0 => 0
  | i + 1 => pv T L p n i * 32 + (if (i : Int) < n then tat T L (p + i) - 96 else 0)
theorem ltr_rg {c : Int} (h : ltr c = true) : 97 ≤ c ∧ c ≤ 122 := by
  unfold ltr at h
  rw [Bool.and_eq_true, decide_eq_true_eq, decide_eq_true_eq] at h
  exact h
section PACK
variable {T : Int → Int} {L p n : Int}
theorem pv_s (i : Nat) : pv T L p n (i + 1) = pv T L p n i * 32 + (if (i : Int) < n then tat T L (p + i) - 96 else 0) := rfl
theorem pvt_rg (hl : ∀ r, p ≤ r → r < p + n → ltr (tat T L r) = true) : ∀ i : Nat, 0 ≤ pv T L p n i ∧ pv T L p n i < 32 ^ i
  | 0 => by
    show 0 ≤ (0 : Int) ∧ (0 : Int) < 32 ^ 0
    decide
  | i + 1 => by
    obtain ⟨a, b⟩ := pvt_rg hl i
    rw [pv_s, Int.pow_succ]
    generalize (32 : Int) ^ i = w at *
    by_cases c : (i : Int) < n
    · rw [if_pos c]
      have := ltr_rg (hl (p + i) (by omega) (by omega))
      omega
    · rw [if_neg c]
      omega
theorem pw32 {i : Nat} (h : i ≤ 6) : (32 : Int) ^ i ≤ 1073741824 := by
  have : i = 0 ∨ i = 1 ∨ i = 2 ∨ i = 3 ∨ i = 4 ∨ i = 5 ∨ i = 6 := by omega
  rcases this with rfl | rfl | rfl | rfl | rfl | rfl | rfl <;> decide
theorem pv_6 (hl : ∀ r, p ≤ r → r < p + n → ltr (tat T L r) = true) {i : Nat} (h : i ≤ 6) : 0 ≤ pv T L p n i ∧ pv T L p n i < 1073741824 := by
  have a := pvt_rg hl i
  have b := pw32 h
  omega
theorem pkN_pv (hl : ∀ r, p ≤ r → r < p + n → ltr (tat T L r) = true) : ∀ i : Nat, (i : Int) ≤ n → pkN T L p i = z (pv T L p n i)
  | 0, _ => rfl
  | i + 1, h => by
    have a := pvt_rg hl i
    have b := ltr_rg (hl (p + i) (by omega) (by omega))
    show (pkN T L p i <<< ((5 : Int32) &&& 31)) ||| z (tat T L (p + i) - 97 + 1) = _
    rw [pkN_pv hl i (by omega), pv_s, if_pos (by omega), show tat T L (p + i) - 97 + 1 = tat T L (p + i) - 96 by omega, pk_or a.1 (by omega)]
theorem pv_pad (i : Nat) (h : n ≤ i) : ∀ j : Nat, pv T L p n (i + j) = pv T L p n i * 2 ^ (5 * j)
  | 0 => by
    show pv T L p n i = pv T L p n i * 2 ^ 0
    rw [show (2 : Int) ^ 0 = 1 from rfl, Int.mul_one]
  | j + 1 => by
    rw [show i + (j + 1) = (i + j) + 1 by omega, pv_s, if_neg (by omega), pv_pad i h j, Int.add_zero, show 5 * (j + 1) = 5 * j + 1 + 1 + 1 + 1 + 1 by omega, Int.pow_succ, Int.pow_succ, Int.pow_succ, Int.pow_succ, Int.pow_succ]
    generalize (2 : Int) ^ (5 * j) = w
    rw [show w * 2 * 2 * 2 * 2 * 2 = w * 32 by omega, Int.mul_assoc]
end PACK
/-! the words of the language: where they begin, how long they are -/
def wstL : List Int := [0, 6, 11, 17, 22, 28, 34, 40, 45, 49, 54, 59, 64, 68, 73, 79, 82, 86, 90, 95, 99, 106, 111, 116]
def wlnL : List Int := [5, 4, 5, 4, 5, 5, 5, 4, 3, 4, 4, 4, 3, 4, 5, 2, 3, 3, 4, 3, 6, 4, 4, 3]
def wst (k : Nat) : Int := wstL.getD k 120
def wln (k : Nat) : Int := wlnL.getD k 0
/-- the i-th letter of a word, as a number, 0 behind it -/
def wdg (k i : Nat) : Int := if (i : Int) < wln k then wch (wst k + i) - 96 else 0
theorem wtab : ∀ k : Fin 24, ((1 ≤ wln k.val ∧ wln k.val ≤ 6) ∧ (0 ≤ wst k.val ∧ wst k.val + wln k.val ≤ 119) ∧ wst (k.val + 1) = wst k.val + wln k.val + 1 ∧ wch (wst k.val + wln k.val) = 32) ∧ tg24 k.val = ((((wdg k.val 0 * 32 + wdg k.val 1) * 32 + wdg k.val 2) * 32 + wdg k.val 3) * 32 + wdg k.val 4) * 32 + wdg k.val 5 := by decide +kernel
theorem wtab2 : ∀ k : Fin 24, ∀ i : Fin 6, ((i.val : Nat) : Int) < wln k.val → 97 ≤ wch (wst k.val + ((i.val : Nat) : Int)) ∧ wch (wst k.val + ((i.val : Nat) : Int)) ≤ 122 := by decide +kernel
theorem tg_rg : ∀ k : Fin 24, 0 ≤ tg24 k.val ∧ tg24 k.val < 1073741824 := by decide +kernel
section WMATCH
variable {T : Int → Int} {L p n : Int} {k : Nat}
theorem wl_ok (hk : k < 24) {i : Int} (h0 : 0 ≤ i) (h1 : i < wln k) : 97 ≤ wch (wst k + i) ∧ wch (wst k + i) ≤ 122 := by
  have t := (wtab ⟨k, hk⟩).1.1
  simp only at t
  have := wtab2 ⟨k, hk⟩ ⟨i.toNat, by omega⟩
  simp only [show ((i.toNat : Nat) : Int) = i by omega] at this
  exact this h1
theorem wdg_rg (hk : k < 24) {i : Nat} : (0 ≤ wdg k i ∧ wdg k i < 32) ∧ ((i : Int) < wln k → 1 ≤ wdg k i) := by
  unfold wdg
  by_cases c : (i : Int) < wln k
  · rw [if_pos c]
    have := wl_ok hk (by omega : (0 : Int) ≤ (i : Int)) c
    omega
  · rw [if_neg c]
    omega
/-- these letters are the k-th word -/
def wmt (T : Int → Int) (L p n : Int) (k : Nat) : Prop := n = wln k ∧ ∀ i, 0 ≤ i → i < n → tat T L (p + i) = wch (wst k + i)
theorem dig6 {a0 a1 a2 a3 a4 a5 b0 b1 b2 b3 b4 b5 : Int} (h : ((((a0 * 32 + a1) * 32 + a2) * 32 + a3) * 32 + a4) * 32 + a5 = ((((b0 * 32 + b1) * 32 + b2) * 32 + b3) * 32 + b4) * 32 + b5) (r1 : 0 ≤ a1 ∧ a1 < 32) (r2 : 0 ≤ a2 ∧ a2 < 32) (r3 : 0 ≤ a3 ∧ a3 < 32) (r4 : 0 ≤ a4 ∧ a4 < 32) (r5 : 0 ≤ a5 ∧ a5 < 32) (s1 : 0 ≤ b1 ∧ b1 < 32) (s2 : 0 ≤ b2 ∧ b2 < 32) (s3 : 0 ≤ b3 ∧ b3 < 32) (s4 : 0 ≤ b4 ∧ b4 < 32) (s5 : 0 ≤ b5 ∧ b5 < 32) : a0 = b0 ∧ a1 = b1 ∧ a2 = b2 ∧ a3 = b3 ∧ a4 = b4 ∧ a5 = b5 := by
  have e5 : a5 = b5 ∧ (((a0 * 32 + a1) * 32 + a2) * 32 + a3) * 32 + a4 = (((b0 * 32 + b1) * 32 + b2) * 32 + b3) * 32 + b4 := by
    generalize (((a0 * 32 + a1) * 32 + a2) * 32 + a3) * 32 + a4 = u at *
    generalize (((b0 * 32 + b1) * 32 + b2) * 32 + b3) * 32 + b4 = v at *
    omega
  have e4 : a4 = b4 ∧ ((a0 * 32 + a1) * 32 + a2) * 32 + a3 = ((b0 * 32 + b1) * 32 + b2) * 32 + b3 := by
    have := e5.2
    generalize ((a0 * 32 + a1) * 32 + a2) * 32 + a3 = u at *
    generalize ((b0 * 32 + b1) * 32 + b2) * 32 + b3 = v at *
    omega
  have e3 : a3 = b3 ∧ (a0 * 32 + a1) * 32 + a2 = (b0 * 32 + b1) * 32 + b2 := by
    have := e4.2
    generalize (a0 * 32 + a1) * 32 + a2 = u at *
    generalize (b0 * 32 + b1) * 32 + b2 = v at *
    omega
  have := e3.2
  have e5' := e5.1
  have e4' := e4.1
  have e3' := e3.1
  clear e5 e4 e3 h
  omega
theorem wmt_pv (hl : ∀ r, p ≤ r → r < p + n → ltr (tat T L r) = true) (hn : 1 ≤ n) (hn6 : n ≤ 6) (hk : k < 24) : wmt T L p n k ↔ pv T L p n 6 = tg24 k := by
  have t := wtab ⟨k, hk⟩
  simp only at t
  obtain ⟨⟨tl, -⟩, t2⟩ := t
  have ep : pv T L p n 6 = (((((if ((0 : Nat) : Int) < n then tat T L (p + ((0 : Nat) : Int)) - 96 else 0) * 32 + (if ((1 : Nat) : Int) < n then tat T L (p + ((1 : Nat) : Int)) - 96 else 0)) * 32 + (if ((2 : Nat) : Int) < n then tat T L (p + ((2 : Nat) : Int)) - 96 else 0)) * 32 + (if ((3 : Nat) : Int) < n then tat T L (p + ((3 : Nat) : Int)) - 96 else 0)) * 32 + (if ((4 : Nat) : Int) < n then tat T L (p + ((4 : Nat) : Int)) - 96 else 0)) * 32 + (if ((5 : Nat) : Int) < n then tat T L (p + ((5 : Nat) : Int)) - 96 else 0) := by
    have e0 : pv T L p n 0 = 0 := rfl
    rw [pv_s, pv_s, pv_s, pv_s, pv_s, pv_s, e0, Int.zero_mul, Int.zero_add]
  have hd : ∀ i : Nat, (0 ≤ (if (i : Int) < n then tat T L (p + i) - 96 else 0) ∧ (if (i : Int) < n then tat T L (p + i) - 96 else 0) < 32) ∧ ((i : Int) < n → 1 ≤ (if (i : Int) < n then tat T L (p + i) - 96 else 0)) := fun i => by
    by_cases c : (i : Int) < n
    · rw [if_pos c]
      have := ltr_rg (hl (p + i) (by omega) (by omega))
      omega
    · rw [if_neg c]
      omega
  rw [ep, t2]
  constructor
  · rintro ⟨e1, e2⟩
    have ed : ∀ i : Nat, (if (i : Int) < n then tat T L (p + i) - 96 else 0) = wdg k i := fun i => by
      unfold wdg
      rw [← e1]
      by_cases c : (i : Int) < n
      · rw [if_pos c, if_pos c, e2 i (by omega) c]
      · rw [if_neg c, if_neg c]
    rw [ed 0, ed 1, ed 2, ed 3, ed 4, ed 5]
  · intro e
    have d6 := dig6 e (hd 1).1 (hd 2).1 (hd 3).1 (hd 4).1 (hd 5).1 (wdg_rg hk).1 (wdg_rg hk).1 (wdg_rg hk).1 (wdg_rg hk).1 (wdg_rg hk).1
    have ed : ∀ i : Nat, i < 6 → (if (i : Int) < n then tat T L (p + i) - 96 else 0) = wdg k i := fun i hi => by
      have : i = 0 ∨ i = 1 ∨ i = 2 ∨ i = 3 ∨ i = 4 ∨ i = 5 := by omega
      rcases this with rfl | rfl | rfl | rfl | rfl | rfl
      · exact d6.1
      · exact d6.2.1
      · exact d6.2.2.1
      · exact d6.2.2.2.1
      · exact d6.2.2.2.2.1
      · exact d6.2.2.2.2.2
    have en : n = wln k := by
      rcases Int.lt_trichotomy n (wln k) with c | c | c
      · have a := ed n.toNat (by omega)
        rw [if_neg (by omega)] at a
        have b := (wdg_rg (i := n.toNat) hk).2 (by omega)
        omega
      · exact c
      · have a := ed (wln k).toNat (by omega)
        have b := (hd (wln k).toNat).2 (by omega)
        unfold wdg at a
        rw [if_neg (by omega : ¬ (((wln k).toNat : Nat) : Int) < wln k)] at a
        omega
    refine ⟨en, fun i i0 i1 => ?_⟩
    have a := ed i.toNat (by omega)
    unfold wdg at a
    rw [show ((i.toNat : Nat) : Int) = i by omega, if_pos i1, if_pos (by omega)] at a
    omega
end WMATCH
/-- the word of the language that these letters are -/
def wI (T : Int → Int) (L p n : Int) : Int := if n ≤ 6 then ff (fun k => decide (pv T L p n 6 = tg24 k.toNat)) 24 else -1
theorem wI_hit {T : Int → Int} {L p n k : Int} (hl : ∀ r, p ≤ r → r < p + n → ltr (tat T L r) = true) (hn : 1 ≤ n) (k0 : 0 ≤ k) (k1 : k < 24) (hm : wmt T L p n k.toNat) (hb : ∀ j : Int, 0 ≤ j → j < k → ¬ wmt T L p n j.toNat) : wI T L p n = k := by
  have t := (wtab ⟨k.toNat, by omega⟩).1.1
  simp only at t
  have e := hm.1
  unfold wI
  rw [if_pos (by omega)]
  refine ff_yes k0 k1 (decide_eq_true ((wmt_pv hl hn (by omega) (by omega)).mp hm)) (fun j j0 j1 => decide_eq_false (fun x => hb j j0 j1 ((wmt_pv hl hn (by omega) (by omega)).mpr x)))
theorem wI_no {T : Int → Int} {L p n : Int} (hl : ∀ r, p ≤ r → r < p + n → ltr (tat T L r) = true) (hn : 1 ≤ n) (hb : ∀ j : Int, 0 ≤ j → j < 24 → ¬ wmt T L p n j.toNat) : wI T L p n = -1 := by
  unfold wI
  by_cases c : n ≤ 6
  · rw [if_pos c]
    exact ff_no (fun j j0 j1 => decide_eq_false (fun x => hb j j0 j1 ((wmt_pv hl hn (by omega) (by omega)).mpr x)))
  · rw [if_neg c]
theorem wI_rg (T : Int → Int) (L p n : Int) : -1 ≤ wI T L p n ∧ wI T L p n < 24 := by
  unfold wI
  by_cases c : n ≤ 6
  · rw [if_pos c]; exact ff_rg _ (by omega)
  · rw [if_neg c]; omega
