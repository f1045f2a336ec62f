/-! ===== lN n to 2^64: shifts, and, or, masks, one bit ===== -/
theorem wb_tb (n : Nat) : (lN n).toBitVec = BitVec.ofNat 64 n := rfl
theorem wb_inj {a b : Int64} (h : a.toBitVec = b.toBitVec) : a = b := Int64.toBitVec_inj.mp h
theorem wb_tn {n : Nat} (h : n < 2 ^ 64) : (lN n).toBitVec.toNat = n := by rw [wb_tb, BitVec.toNat_ofNat, Nat.mod_eq_of_lt h]
theorem wb_of (x : Int64) : ∃ n, n < 2 ^ 64 ∧ x = lN n := ⟨x.toBitVec.toNat, x.toBitVec.isLt, wb_inj (by rw [wb_tb]; simp)⟩
theorem wb_of32 (x : Int32) : ∃ n, n < 2 ^ 32 ∧ x = nI n := ⟨x.toBitVec.toNat, x.toBitVec.isLt, Int32.toBitVec_inj.mp (by show _ = BitVec.ofNat 32 _; simp)⟩
theorem wb_c : ∀ k, k < 64 → ((nI k).toInt64 &&& 63) = lN k := by decide +kernel
theorem wb_cu : ∀ k, k < 64 → ((nI k).toInt64.toUInt64 &&& Int64.toUInt64 63) = UInt64.ofNat k := by decide +kernel
theorem wb_sm : ∀ k, k < 64 → (BitVec.ofNat 64 k).smod 64 = BitVec.ofNat 64 k := by decide +kernel
theorem wb_pw {a b : Nat} (h : a ≤ b) : 2 ^ b = 2 ^ a * 2 ^ (b - a) := by rw [← Nat.pow_add]; congr 1; omega
theorem wb_lt2 {a b : Nat} (h : a < b) : 2 ^ a < 2 ^ b := Nat.pow_lt_pow_right (by decide) h
theorem wb_mod (n : Nat) : lN n = lN (n % 2 ^ 64) := wb_inj (by rw [wb_tb, wb_tb]; apply BitVec.eq_of_toNat_eq; rw [BitVec.toNat_ofNat, BitVec.toNat_ofNat, Nat.mod_mod])
theorem wb_shr {n k : Nat} (hn : n < 2 ^ 64) (hk : k < 64) : ((lN n).toUInt64 >>> ((nI k).toInt64.toUInt64 &&& Int64.toUInt64 63)).toInt64 = lN (n / 2 ^ k) := by
  rw [wb_cu k hk]
  apply wb_inj
  apply BitVec.eq_of_toNat_eq
  show ((lN n).toUInt64 >>> UInt64.ofNat k).toNat = (BitVec.ofNat 64 _).toNat
  have h1 : (UInt64.ofNat k).toNat = k := by
    show (BitVec.ofNat 64 k).toNat = k
    rw [BitVec.toNat_ofNat, Nat.mod_eq_of_lt (by omega)]
  have h2 : (lN n).toUInt64.toNat = n := wb_tn hn
  rw [UInt64.toNat_shiftRight, h1, h2, Nat.mod_eq_of_lt hk, Nat.shiftRight_eq_div_pow, BitVec.toNat_ofNat, Nat.mod_eq_of_lt (Nat.lt_of_le_of_lt (Nat.div_le_self _ _) hn)]
theorem wb_shl (n : Nat) {k : Nat} (hk : k < 64) : lN n <<< ((nI k).toInt64 &&& 63) = lN (n * 2 ^ k) := by
  rw [wb_c k hk]
  apply wb_inj
  rw [Int64.toBitVec_shiftLeft, wb_tb, wb_tb, wb_tb, wb_sm k hk]
  apply BitVec.eq_of_toNat_eq
  rw [BitVec.shiftLeft_eq', BitVec.toNat_shiftLeft, BitVec.toNat_ofNat, BitVec.toNat_ofNat, BitVec.toNat_ofNat, Nat.mod_eq_of_lt (show k < 2 ^ 64 by omega), Nat.shiftLeft_eq, Nat.mul_mod, Nat.mod_mod, ← Nat.mul_mod]
theorem wb_and {a b : Nat} (ha : a < 2 ^ 64) (hb : b < 2 ^ 64) : lN a &&& lN b = lN (a &&& b) := by
  apply wb_inj
  rw [Int64.toBitVec_and, wb_tb, wb_tb, wb_tb]
  apply BitVec.eq_of_toNat_eq
  rw [BitVec.toNat_and, BitVec.toNat_ofNat, BitVec.toNat_ofNat, BitVec.toNat_ofNat, Nat.mod_eq_of_lt ha, Nat.mod_eq_of_lt hb, Nat.mod_eq_of_lt (Nat.and_lt_two_pow _ hb)]
theorem wb_or {a b : Nat} (ha : a < 2 ^ 64) (hb : b < 2 ^ 64) : lN a ||| lN b = lN (a ||| b) := by
  apply wb_inj
  rw [Int64.toBitVec_or, wb_tb, wb_tb, wb_tb]
  apply BitVec.eq_of_toNat_eq
  rw [BitVec.toNat_or, BitVec.toNat_ofNat, BitVec.toNat_ofNat, BitVec.toNat_ofNat, Nat.mod_eq_of_lt ha, Nat.mod_eq_of_lt hb, Nat.mod_eq_of_lt (Nat.or_lt_two_pow ha hb)]
theorem wb_mask {n k : Nat} (hn : n < 2 ^ 64) (hk : k < 64) : lN n &&& lN (2 ^ k - 1) = lN (n % 2 ^ k) := by
  rw [wb_and hn (by have := wb_lt2 hk; omega), Nat.and_two_pow_sub_one_eq_mod]
theorem wb_a1 {n : Nat} (hn : n < 2 ^ 64) : lN n &&& 1 = lN (n % 2) := wb_mask (k := 1) hn (by decide)
theorem wb_bit {n k : Nat} (hn : n < 2 ^ 64) (hk : k < 64) : ((lN n).toUInt64 >>> ((nI k).toInt64.toUInt64 &&& Int64.toUInt64 63)).toInt64 &&& 1 = lN (n / 2 ^ k % 2) := by
  rw [wb_shr hn hk, wb_a1 (Nat.lt_of_le_of_lt (Nat.div_le_self _ _) hn)]
/-! ===== lN to 2^62 under >> and >>> ===== -/
theorem pf_lI {a : Nat} (h : a < 2 ^ 63) : (lN a).toInt = (a : Int) := lg_ofNat_toInt h
theorem pf_shr {a d : Nat} {D : Int64} (hD : (D.toBitVec.smod 64).toNat = d) (h : a < 2 ^ 62) : lN a >>> D = lN (a / 2 ^ d) := by
  have hd : a / 2 ^ d ≤ a := Nat.div_le_self _ _
  apply Int64.toInt_inj.mp
  have e : (lN a >>> D).toInt = (lN a).toInt >>> d := by
    rw [← hD]
    exact BitVec.toInt_sshiftRight ..
  rw [e, Int.shiftRight_eq_div_pow, pf_lI (by omega), pf_lI (by omega)]
  rfl
theorem fa_and (a b : Nat) : nI a &&& nI b = nI (a &&& b) := by
  apply Int32.toBitVec_inj.1
  show BitVec.ofNat 32 a &&& BitVec.ofNat 32 b = BitVec.ofNat 32 (a &&& b)
  apply BitVec.eq_of_getLsbD_eq
  intro i hi
  simp [hi]
theorem fa_mask (n k : Nat) : nI n &&& nI (2 ^ k - 1) = nI (n % 2 ^ k) := by rw [fa_and, Nat.and_two_pow_sub_one_eq_mod]
theorem lN_zl (n : Nat) : lN n = zl (n : Int) := Int64.ofInt_eq_ofNat.symm
theorem lA_ (a b : Nat) : lN a + lN b = lN (a + b) := by rw [lN_zl, lN_zl, lN_zl, zl_add]; congr 1
theorem lS_ {a b : Nat} (h : b ≤ a) : lN a - lN b = lN (a - b) := by rw [lN_zl, lN_zl, lN_zl, zl_sub]; congr 1; omega
theorem l_shl {w : Nat} {m : Int} (h0 : 0 ≤ m) (h1 : m < 64) : lN w <<< ((z m).toInt64 &&& 63) = lN (w * 2 ^ m.toNat) := by
  rw [z_nI' h0]; exact wb_shl w (by omega)
theorem l_shr {w : Nat} (hw : w < 2 ^ 62) {m : Int} (h0 : 0 ≤ m) (h1 : m < 64) : lN w >>> ((z m).toInt64 &&& 63) = lN (w / 2 ^ m.toNat) := by
  rw [z_nI' h0]
  refine pf_shr ?_ hw
  rw [wb_c _ (by omega), wb_tb, wb_sm _ (by omega), BitVec.toNat_ofNat, Nat.mod_eq_of_lt (show m.toNat < 2 ^ 64 by omega)]
theorem l_bit {w : Nat} (hw : w < 2 ^ 48) {m : Int} (h0 : 0 ≤ m) (h1 : m < 48) : lg_cmp ((lN w >>> ((z m).toInt64 &&& 63)) &&& 1) 1 = 0 ↔ w.testBit m.toNat = true := by
  rw [l_shr (by omega) h0 (by omega), wb_a1 (Nat.lt_of_le_of_lt (Nat.div_le_self _ _) (by omega)), lg_cmp_eq, Nat.testBit_eq_decide_div_mod_eq, decide_eq_true_iff]
  have hx : w / 2 ^ m.toNat % 2 < 2 := Nat.mod_lt _ (by decide)
  generalize w / 2 ^ m.toNat % 2 = x at hx
  have : x = 0 ∨ x = 1 := by omega
  rcases this with rfl | rfl
  · decide
  · decide
theorem l_m1 : ∀ i, i < 64 → (-1 : Int64).toBitVec.getLsbD i = true := by decide +kernel
theorem l_andn (a b : Nat) : lN a &&& (lN b ^^^ (-1)) = lN (a ^^^ (a &&& b)) := by
  apply wb_inj
  apply BitVec.eq_of_getLsbD_eq
  intro i hi
  rw [Int64.toBitVec_and, Int64.toBitVec_xor, wb_tb, wb_tb, wb_tb, BitVec.getLsbD_and, BitVec.getLsbD_xor, BitVec.getLsbD_ofNat, BitVec.getLsbD_ofNat, BitVec.getLsbD_ofNat, Nat.testBit_xor, Nat.testBit_and, l_m1 i hi]
  simp only [hi, decide_true, Bool.true_and]
  cases a.testBit i <;> cases b.testBit i <;> rfl
theorem andn_lt {a b : Nat} (h : a < 2 ^ 48) : a ^^^ (a &&& b) < 2 ^ 48 := Nat.xor_lt_two_pow h (Nat.lt_of_le_of_lt Nat.and_le_left h)
theorem andn_bit (a b i : Nat) : (a ^^^ (a &&& b)).testBit i = (a.testBit i && !b.testBit i) := by
  rw [Nat.testBit_xor, Nat.testBit_and]
  cases a.testBit i <;> cases b.testBit i <;> rfl
theorem l_msk {k f : Int} (h0 : 0 ≤ k) (h1 : 0 ≤ f) (h2 : k + f ≤ 48) : ((((1 : Int64) <<< ((z k).toInt64 &&& 63)) - 1) : Int64) <<< ((z f).toInt64 &&& 63) = lN ((2 ^ k.toNat - 1) * 2 ^ f.toNat) := by
  have e1 : (1 : Int64) = lN 1 := rfl
  rw [e1, l_shl h0 (by omega), lS_ (by have := Nat.one_le_two_pow (n := k.toNat); omega), l_shl h1 (by omega), Nat.one_mul]
theorem msk_lt {k f : Int} (h0 : 0 ≤ k) (h1 : 0 ≤ f) (h2 : k + f ≤ 48) : (2 ^ k.toNat - 1) * 2 ^ f.toNat < 2 ^ 48 := by
  have a : (2 ^ k.toNat - 1) * 2 ^ f.toNat < 2 ^ k.toNat * 2 ^ f.toNat := Nat.mul_lt_mul_of_pos_right (by have := Nat.one_le_two_pow (n := k.toNat); omega) (Nat.two_pow_pos _)
  rw [← Nat.pow_add] at a
  exact Nat.lt_of_lt_of_le a (Nat.pow_le_pow_right (by decide) (by omega))
theorem msk_bit (k f i : Nat) : ((2 ^ k - 1) * 2 ^ f).testBit i = (decide (f ≤ i) && decide (i < f + k)) := by
  rw [Nat.testBit_mul_two_pow, Nat.testBit_two_pow_sub_one]
  by_cases h : f ≤ i
  · simp [h]; omega
  · simp [h]
/-! ===== how many bits ===== -/
def p8 (b : Nat) : Nat := (b.testBit 0).toNat + (b.testBit 1).toNat + (b.testBit 2).toNat + (b.testBit 3).toNat + (b.testBit 4).toNat + (b.testBit 5).toNat + (b.testBit 6).toNat + (b.testBit 7).toNat
def mkB (b : Nat) : Nat → Nat
  | 0 => 0
  | k + 1 => b + 256 * mkB b k
def st1 (k n : Nat) : Nat := n - ((n / 2) &&& mkB 85 k)
def st2 (k y : Nat) : Nat := (y &&& mkB 51 k) + ((y / 4) &&& mkB 51 k)
def st3 (k y : Nat) : Nat := (y + y / 16) &&& mkB 15 k
theorem and_b {a b c d : Nat} (ha : a < 256) (hc : c < 256) : (a + 256 * b) &&& (c + 256 * d) = (a &&& c) + 256 * (b &&& d) := by
  have e : ∀ x y : Nat, x + 256 * y = 2 ^ 8 * y + x := fun x y => by omega
  have hac : a &&& c < 2 ^ 8 := Nat.and_lt_two_pow _ hc
  rw [e a b, e c d, e (a &&& c) (b &&& d)]
  apply Nat.eq_of_testBit_eq
  intro i
  rw [Nat.testBit_and, Nat.testBit_two_pow_mul_add _ ha, Nat.testBit_two_pow_mul_add _ hc, Nat.testBit_two_pow_mul_add _ hac]
  split
  · rw [Nat.testBit_and]
  · rw [Nat.testBit_and]
def b1 (lo : Nat) : Nat := lo - (lo / 2 &&& 85)
def b2 (lo : Nat) : Nat := (b1 lo &&& 51) + (b1 lo / 4 &&& 51)
theorem tab1 : ∀ lo : Fin 256, ∀ c : Fin 2, (lo.val / 2 + 128 * c.val) &&& 85 = lo.val / 2 &&& 85 ∧ (lo.val / 2 &&& 85) ≤ lo.val := by decide +kernel
theorem tab2 : ∀ lo : Fin 256, ∀ c : Fin 4, (lo.val / 4 + 64 * c.val) &&& 51 = lo.val / 4 &&& 51 := by decide +kernel
theorem tab3 : ∀ lo : Fin 256, ∀ c : Fin 5, (b2 lo.val + b2 lo.val / 16 + 16 * c.val) &&& 15 = p8 lo.val ∧ b2 lo.val % 16 ≤ 4 ∧ b2 lo.val ≤ 68 ∧ p8 lo.val ≤ 8 := by decide +kernel
theorem st12_s {k lo hi : Nat} (h : lo < 256) : st2 (k + 1) (st1 (k + 1) (lo + 256 * hi)) = b2 lo + 256 * st2 k (st1 k hi) := by
  have t1 : (lo / 2 + 128 * (hi % 2)) &&& 85 = lo / 2 &&& 85 ∧ (lo / 2 &&& 85) ≤ lo := tab1 ⟨lo, h⟩ ⟨hi % 2, Nat.mod_lt _ (by decide)⟩
  have e1 : st1 (k + 1) (lo + 256 * hi) = b1 lo + 256 * st1 k hi := by
    unfold st1 b1
    show _ - (_ &&& (85 + 256 * mkB 85 k)) = _
    rw [show (lo + 256 * hi) / 2 = (lo / 2 + 128 * (hi % 2)) + 256 * (hi / 2) by omega, and_b (by omega) (by omega), t1.1]
    have := t1.2
    have h2 : (hi / 2 &&& mkB 85 k) ≤ hi / 2 := Nat.and_le_left
    omega
  rw [e1]
  have hb : b1 lo < 256 := by unfold b1; omega
  have t2 : (b1 lo / 4 + 64 * (st1 k hi % 4)) &&& 51 = b1 lo / 4 &&& 51 := tab2 ⟨b1 lo, hb⟩ ⟨st1 k hi % 4, Nat.mod_lt _ (by decide)⟩
  unfold st2
  show ((_ &&& (51 + 256 * mkB 51 k)) + (_ &&& (51 + 256 * mkB 51 k))) = _
  rw [show (b1 lo + 256 * st1 k hi) / 4 = (b1 lo / 4 + 64 * (st1 k hi % 4)) + 256 * (st1 k hi / 4) by omega, and_b hb (by omega), and_b (by omega) (by omega), t2]
  unfold b2
  omega
theorem st_s {k lo hi : Nat} (h : lo < 256) (h4 : st2 k (st1 k hi) % 16 ≤ 4) : st3 (k + 1) (st2 (k + 1) (st1 (k + 1) (lo + 256 * hi))) = p8 lo + 256 * st3 k (st2 k (st1 k hi)) := by
  rw [st12_s h]
  generalize st2 k (st1 k hi) = u at h4
  have t3 : (b2 lo + b2 lo / 16 + 16 * (u % 16)) &&& 15 = p8 lo ∧ b2 lo % 16 ≤ 4 ∧ b2 lo ≤ 68 ∧ p8 lo ≤ 8 := tab3 ⟨lo, h⟩ ⟨u % 16, by omega⟩
  unfold st3
  show (_ &&& (15 + 256 * mkB 15 k)) = _
  rw [show b2 lo + 256 * u + (b2 lo + 256 * u) / 16 = (b2 lo + b2 lo / 16 + 16 * (u % 16)) + 256 * (u + u / 16) by omega, and_b (by omega) (by omega), t3.1]
theorem st_4 {k lo hi : Nat} (h : lo < 256) : st2 (k + 1) (st1 (k + 1) (lo + 256 * hi)) % 16 ≤ 4 := by
  rw [st12_s h]
  have t3 : (b2 lo + b2 lo / 16 + 16 * 0) &&& 15 = p8 lo ∧ b2 lo % 16 ≤ 4 ∧ b2 lo ≤ 68 ∧ p8 lo ≤ 8 := tab3 ⟨lo, h⟩ ⟨0, by decide⟩
  omega
theorem p8_le {b : Nat} (h : b < 256) : p8 b ≤ 8 := (tab3 ⟨b, h⟩ ⟨0, by decide⟩).2.2.2
/-- the eight bytes of a word -/
theorem st_8 {c0 c1 c2 c3 c4 c5 c6 c7 : Nat} (h0 : c0 < 256) (h1 : c1 < 256) (h2 : c2 < 256) (h3 : c3 < 256) (h4 : c4 < 256) (h5 : c5 < 256) (h6 : c6 < 256) (h7 : c7 < 256) :
    st3 8 (st2 8 (st1 8 (c0 + 256 * (c1 + 256 * (c2 + 256 * (c3 + 256 * (c4 + 256 * (c5 + 256 * (c6 + 256 * c7))))))))) = p8 c0 + 256 * (p8 c1 + 256 * (p8 c2 + 256 * (p8 c3 + 256 * (p8 c4 + 256 * (p8 c5 + 256 * (p8 c6 + 256 * p8 c7)))))) := by
  have e7 : c7 = c7 + 256 * 0 := by omega
  have z0 : st2 0 (st1 0 0) % 16 ≤ 4 := by decide
  rw [st_s h0 (st_4 h1), st_s h1 (st_4 h2), st_s h2 (st_4 h3), st_s h3 (st_4 h4), st_s h4 (st_4 h5), st_s h5 (st_4 h6), st_s h6 (by rw [e7]; exact st_4 h7), e7, st_s (by omega) z0]
  have : st3 0 (st2 0 (st1 0 0)) = 0 := by decide
  rw [this]
  simp
theorem l_low (n : Nat) : (lN n).toInt32 = nI n := by
  apply Int32.toBitVec_inj.mp
  rw [Int64.toBitVec_toInt32, wb_tb]
  show _ = BitVec.ofNat 32 n
  rw [BitVec.signExtend_eq_setWidth_of_le _ (by decide), BitVec.setWidth_ofNat_of_le (by decide)]
def bc (w : Nat) (i : Int) : Int := if w.testBit i.toNat = true then 1 else 0
theorem bc_8 (w j : Nat) : sm (bc w) (8 * (j + 1 : Nat)) = sm (bc w) (8 * j) + p8 (w / 256 ^ j % 256) := by
  have e : ((8 * (j + 1 : Nat) : Nat) : Int) = 8 * (j : Int) + 1 + 1 + 1 + 1 + 1 + 1 + 1 + 1 := by omega
  have t : ∀ i : Nat, i < 8 → (w / 256 ^ j % 256).testBit i = w.testBit (8 * j + i) := by
    intro i hi
    rw [show (256 : Nat) = 2 ^ 8 from rfl, ← Nat.pow_mul, Nat.testBit_mod_two_pow, Nat.testBit_div_two_pow]
    simp [hi]
    rw [Nat.add_comm]
  have b : ∀ i : Nat, bc w (8 * (j : Int) + i) = ((w.testBit (8 * j + i)).toNat : Int) := by
    intro i
    unfold bc
    rw [show (8 * (j : Int) + i).toNat = 8 * j + i by omega]
    cases w.testBit (8 * j + i) <;> rfl
  have b0 := b 0
  have b1 := b 1
  have b2 := b 2
  have b3 := b 3
  have b4 := b 4
  have b5 := b 5
  have b6 := b 6
  have b7 := b 7
  unfold p8
  rw [t 0 (by decide), t 1 (by decide), t 2 (by decide), t 3 (by decide), t 4 (by decide), t 5 (by decide), t 6 (by decide), t 7 (by decide)]
  rw [show (8 * ((j + 1 : Nat) : Int)) = 8 * (j : Int) + 1 + 1 + 1 + 1 + 1 + 1 + 1 + 1 by omega]
  rw [sm_s (by omega), sm_s (by omega), sm_s (by omega), sm_s (by omega), sm_s (by omega), sm_s (by omega), sm_s (by omega), sm_s (by omega)]
  rw [show 8 * (j : Int) + 1 + 1 + 1 + 1 + 1 + 1 + 1 = 8 * (j : Int) + (7 : Nat) by omega, show 8 * (j : Int) + 1 + 1 + 1 + 1 + 1 + 1 = 8 * (j : Int) + (6 : Nat) by omega, show 8 * (j : Int) + 1 + 1 + 1 + 1 + 1 = 8 * (j : Int) + (5 : Nat) by omega, show 8 * (j : Int) + 1 + 1 + 1 + 1 = 8 * (j : Int) + (4 : Nat) by omega, show 8 * (j : Int) + 1 + 1 + 1 = 8 * (j : Int) + (3 : Nat) by omega, show 8 * (j : Int) + 1 + 1 = 8 * (j : Int) + (2 : Nat) by omega, show 8 * (j : Int) + 1 = 8 * (j : Int) + (1 : Nat) by omega]
  rw [b1, b2, b3, b4, b5, b6, b7]
  rw [show bc w (8 * (j : Int)) = ((w.testBit (8 * j + 0)).toNat : Int) from by have := b0; simpa using this]
  omega
theorem bc_48 {w : Nat} : sm (bc w) 48 = (p8 (w % 256) + p8 (w / 256 % 256) + p8 (w / 65536 % 256) + p8 (w / 16777216 % 256) + p8 (w / 4294967296 % 256) + p8 (w / 1099511627776 % 256) : Nat) := by
  have a0 := bc_8 w 0
  have a1 := bc_8 w 1
  have a2 := bc_8 w 2
  have a3 := bc_8 w 3
  have a4 := bc_8 w 4
  have a5 := bc_8 w 5
  have z0 : sm (bc w) (8 * ((0 : Nat) : Int)) = 0 := rfl
  rw [show w / 256 ^ 0 % 256 = w % 256 by simp] at a0
  rw [show w / 256 ^ 1 % 256 = w / 256 % 256 by simp] at a1
  rw [show (256 : Nat) ^ 2 = 65536 from rfl] at a2
  rw [show (256 : Nat) ^ 3 = 16777216 from rfl] at a3
  rw [show (256 : Nat) ^ 4 = 4294967296 from rfl] at a4
  rw [show (256 : Nat) ^ 5 = 1099511627776 from rfl] at a5
  have e : sm (bc w) 48 = sm (bc w) (8 * ((5 + 1 : Nat) : Int)) := rfl
  have e4 : sm (bc w) (8 * ((4 + 1 : Nat) : Int)) = sm (bc w) (8 * ((5 : Nat) : Int)) := rfl
  have e3 : sm (bc w) (8 * ((3 + 1 : Nat) : Int)) = sm (bc w) (8 * ((4 : Nat) : Int)) := rfl
  have e2 : sm (bc w) (8 * ((2 + 1 : Nat) : Int)) = sm (bc w) (8 * ((3 : Nat) : Int)) := rfl
  have e1 : sm (bc w) (8 * ((1 + 1 : Nat) : Int)) = sm (bc w) (8 * ((2 : Nat) : Int)) := rfl
  have e0 : sm (bc w) (8 * ((0 + 1 : Nat) : Int)) = sm (bc w) (8 * ((1 : Nat) : Int)) := rfl
  omega
theorem x_bitJ {w : Nat} (hw : w < 281474976710656) {h : PH} {Q : Int32 → PH → Prop} (hq : Q (z (sm (bc w) 48)) h) : w_J13_bitCount_95d88 (lN w) h Q := by
  have s1 : ∀ a : Nat, a < 2 ^ 64 → ((lN a).toUInt64 >>> ((1 : Int32).toInt64.toUInt64 &&& Int64.toUInt64 63)).toInt64 = lN (a / 2) := fun a ha => wb_shr (k := 1) ha (by decide)
  have s2 : ∀ a : Nat, a < 2 ^ 64 → ((lN a).toUInt64 >>> ((2 : Int32).toInt64.toUInt64 &&& Int64.toUInt64 63)).toInt64 = lN (a / 4) := fun a ha => wb_shr (k := 2) ha (by decide)
  have s4 : ∀ a : Nat, a < 2 ^ 64 → ((lN a).toUInt64 >>> ((4 : Int32).toInt64.toUInt64 &&& Int64.toUInt64 63)).toInt64 = lN (a / 16) := fun a ha => wb_shr (k := 4) ha (by decide)
  have s8 : ∀ a : Nat, a < 2 ^ 64 → ((lN a).toUInt64 >>> ((8 : Int32).toInt64.toUInt64 &&& Int64.toUInt64 63)).toInt64 = lN (a / 256) := fun a ha => wb_shr (k := 8) ha (by decide)
  have s16 : ∀ a : Nat, a < 2 ^ 64 → ((lN a).toUInt64 >>> ((16 : Int32).toInt64.toUInt64 &&& Int64.toUInt64 63)).toInt64 = lN (a / 65536) := fun a ha => wb_shr (k := 16) ha (by decide)
  have s32 : ∀ a : Nat, a < 2 ^ 64 → ((lN a).toUInt64 >>> ((32 : Int32).toInt64.toUInt64 &&& Int64.toUInt64 63)).toInt64 = lN (a / 4294967296) := fun a ha => wb_shr (k := 32) ha (by decide)
  have m1 : (6148914691236517205 : Int64) = lN (mkB 85 8) := by decide
  have m2 : (3689348814741910323 : Int64) = lN (mkB 51 8) := by decide
  have m4 : (1085102592571150095 : Int64) = lN (mkB 15 8) := by decide
  have k1 : mkB 85 8 = 6148914691236517205 := by decide
  have k2 : mkB 51 8 = 3689348814741910323 := by decide
  have k4 : mkB 15 8 = 1085102592571150095 := by decide
  unfold w_J13_bitCount_95d88
  rintro _ rfl _ rfl _ rfl _ rfl _ rfl _ rfl
  have le1 : (w / 2 &&& mkB 85 8) ≤ w / 2 := Nat.and_le_left
  rw [m1, m2, m4, s1 w (by omega), wb_and (by omega) (by omega), lS_ (by omega)]
  have b1 : st1 8 w ≤ w := by unfold st1; omega
  rw [show w - (w / 2 &&& mkB 85 8) = st1 8 w from rfl]
  have le2 : (st1 8 w &&& mkB 51 8) ≤ mkB 51 8 := Nat.and_le_right
  have le3 : (st1 8 w / 4 &&& mkB 51 8) ≤ mkB 51 8 := Nat.and_le_right
  have le2' : (st1 8 w &&& mkB 51 8) ≤ st1 8 w := Nat.and_le_left
  have le3' : (st1 8 w / 4 &&& mkB 51 8) ≤ st1 8 w / 4 := Nat.and_le_left
  rw [s2 _ (by omega), wb_and (by omega) (by omega), wb_and (by omega) (by omega), lA_]
  rw [show (st1 8 w &&& mkB 51 8) + (st1 8 w / 4 &&& mkB 51 8) = st2 8 (st1 8 w) from rfl]
  have b2 : st2 8 (st1 8 w) ≤ 2 * w := by unfold st2; omega
  rw [s4 _ (by omega), lA_, wb_and (by omega) (by omega)]
  rw [show (st2 8 (st1 8 w) + st2 8 (st1 8 w) / 16 &&& mkB 15 8) = st3 8 (st2 8 (st1 8 w)) from rfl]
  have ew : w = w % 256 + 256 * (w / 256 % 256 + 256 * (w / 65536 % 256 + 256 * (w / 16777216 % 256 + 256 * (w / 4294967296 % 256 + 256 * (w / 1099511627776 % 256 + 256 * (0 + 256 * 0)))))) := by omega
  have e8 := st_8 (c0 := w % 256) (c1 := w / 256 % 256) (c2 := w / 65536 % 256) (c3 := w / 16777216 % 256) (c4 := w / 4294967296 % 256) (c5 := w / 1099511627776 % 256) (c6 := 0) (c7 := 0) (by omega) (by omega) (by omega) (by omega) (by omega) (by omega) (by omega) (by omega)
  rw [← ew] at e8
  have q0 := p8_le (b := w % 256) (by omega)
  have q1 := p8_le (b := w / 256 % 256) (by omega)
  have q2 := p8_le (b := w / 65536 % 256) (by omega)
  have q3 := p8_le (b := w / 16777216 % 256) (by omega)
  have q4 := p8_le (b := w / 4294967296 % 256) (by omega)
  have q5 := p8_le (b := w / 1099511627776 % 256) (by omega)
  have q6 : p8 0 = 0 := by decide
  rw [bc_48] at hq
  rw [e8, q6]
  generalize p8 (w % 256) = r0 at *
  generalize p8 (w / 256 % 256) = r1 at *
  generalize p8 (w / 65536 % 256) = r2 at *
  generalize p8 (w / 16777216 % 256) = r3 at *
  generalize p8 (w / 4294967296 % 256) = r4 at *
  generalize p8 (w / 1099511627776 % 256) = r5 at *
  rw [s8 _ (by omega), lA_]
  rw [show r0 + 256 * (r1 + 256 * (r2 + 256 * (r3 + 256 * (r4 + 256 * (r5 + 256 * (0 + 256 * 0)))))) + (r0 + 256 * (r1 + 256 * (r2 + 256 * (r3 + 256 * (r4 + 256 * (r5 + 256 * (0 + 256 * 0))))))) / 256 = (r0 + r1) + 256 * ((r1 + r2) + 256 * ((r2 + r3) + 256 * ((r3 + r4) + 256 * ((r4 + r5) + 256 * r5)))) by omega]
  rw [s16 _ (by omega), lA_]
  rw [show (r0 + r1) + 256 * ((r1 + r2) + 256 * ((r2 + r3) + 256 * ((r3 + r4) + 256 * ((r4 + r5) + 256 * r5)))) + ((r0 + r1) + 256 * ((r1 + r2) + 256 * ((r2 + r3) + 256 * ((r3 + r4) + 256 * ((r4 + r5) + 256 * r5))))) / 65536 = (r0 + r1 + r2 + r3) + 256 * ((r1 + r2 + r3 + r4) + 256 * ((r2 + r3 + r4 + r5) + 256 * ((r3 + r4 + r5) + 256 * ((r4 + r5) + 256 * r5)))) by omega]
  rw [s32 _ (by omega), lA_, l_low]
  rw [show (127 : Int32) = nI (2 ^ 7 - 1) from rfl, fa_mask]
  rw [show ((r0 + r1 + r2 + r3) + 256 * ((r1 + r2 + r3 + r4) + 256 * ((r2 + r3 + r4 + r5) + 256 * ((r3 + r4 + r5) + 256 * ((r4 + r5) + 256 * r5))))) / 4294967296 = (r4 + r5) + 256 * r5 by clear hq e8 ew le1 le2 le3 le2' le3' b1 b2; omega]
  rw [show ((r0 + r1 + r2 + r3) + 256 * ((r1 + r2 + r3 + r4) + 256 * ((r2 + r3 + r4 + r5) + 256 * ((r3 + r4 + r5) + 256 * ((r4 + r5) + 256 * r5)))) + ((r4 + r5) + 256 * r5)) % 2 ^ 7 = r0 + r1 + r2 + r3 + r4 + r5 by clear hq e8 ew le1 le2 le3 le2' le3' b1 b2; show _ % 128 = _; omega]
  rw [z_nI] at hq
  exact hq
theorem tabI : ∀ x : Fin 512, (let x0 := nI x.val; let y1 := (x0 - (((x0 : Int32).toUInt32 >>> ((1 : Int32).toUInt32 &&& Int32.toUInt32 31)).toInt32 &&& 1431655765)); let y2 := ((y1 &&& 858993459) + (((y1 : Int32).toUInt32 >>> ((2 : Int32).toUInt32 &&& Int32.toUInt32 31)).toInt32 &&& 858993459)); let y3 := ((y2 + ((y2 : Int32).toUInt32 >>> ((4 : Int32).toUInt32 &&& Int32.toUInt32 31)).toInt32) &&& 252645135); let y4 := (y3 + ((y3 : Int32).toUInt32 >>> ((8 : Int32).toUInt32 &&& Int32.toUInt32 31)).toInt32); let y5 := (y4 + ((y4 : Int32).toUInt32 >>> ((16 : Int32).toUInt32 &&& Int32.toUInt32 31)).toInt32); y5 &&& 63) = nI (p8 x.val + (x.val.testBit 8).toNat) := by decide +kernel
def bcI (x : Nat) : Nat := p8 x + (x.testBit 8).toNat
theorem x_bitI {x : Nat} (hx : x < 512) {h : PH} {Q : Int32 → PH → Prop} (hq : Q (nI (bcI x)) h) : w_J6_bitCount_0f7a4 (nI x) h Q := by
  unfold w_J6_bitCount_0f7a4
  rintro _ rfl _ rfl _ rfl _ rfl _ rfl
  have := tabI ⟨x, hx⟩
  simp only at this
  rw [this]
  exact hq
