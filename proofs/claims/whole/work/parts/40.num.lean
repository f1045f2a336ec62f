/-! ===== NUMBERS: Int32 and Int64 out of Int ===== -/
def z (a : Int) : Int32 := Int32.ofInt a
theorem z_ti {a : Int} (h1 : -2147483648 ≤ a) (h2 : a < 2147483648) : (z a).toInt = a := Int32.toInt_ofInt_of_le (by omega) (by omega)
theorem z_toInt (x : Int32) : z x.toInt = x := Int32.ofInt_toInt x
theorem z_ex (x : Int32) : ∃ a : Int, -2147483648 ≤ a ∧ a < 2147483648 ∧ x = z a := ⟨x.toInt, by have := x.le_toInt; omega, by have := x.toInt_lt; omega, (z_toInt x).symm⟩
theorem z_add (a b : Int) : z a + z b = z (a + b) := (Int32.ofInt_add a b).symm
theorem z_sub (a b : Int) : z a - z b = z (a - b) := (Int32.ofInt_sub a b).symm
theorem z_mul (a b : Int) : z a * z b = z (a * b) := (Int32.ofInt_mul a b).symm
theorem z_neg (a : Int) : -z a = z (-a) := Int32.neg_ofInt
theorem z_lt {a b : Int} (h1 : -2147483648 ≤ a) (h2 : a < 2147483648) (h3 : -2147483648 ≤ b) (h4 : b < 2147483648) : (z a < z b) = (a < b) := by
  rw [Int32.lt_iff_toInt_lt, z_ti h1 h2, z_ti h3 h4]
theorem z_le {a b : Int} (h1 : -2147483648 ≤ a) (h2 : a < 2147483648) (h3 : -2147483648 ≤ b) (h4 : b < 2147483648) : (z a ≤ z b) = (a ≤ b) := by
  rw [Int32.le_iff_toInt_le, z_ti h1 h2, z_ti h3 h4]
theorem z_eq {a b : Int} (h1 : -2147483648 ≤ a) (h2 : a < 2147483648) (h3 : -2147483648 ≤ b) (h4 : b < 2147483648) : (z a = z b) = (a = b) := by
  rw [← Int32.toInt_inj, z_ti h1 h2, z_ti h3 h4]
theorem z_iN {a : Int} (h1 : 0 ≤ a) (h2 : a < 2147483648) : iN (z a) = a.toNat := by
  show (z a).toInt.toNat = _
  rw [z_ti (by omega) h2]
theorem z_in {a : Int} {n : Nat} (h1 : 0 ≤ a) (h2 : a < 2147483648) (h3 : a < (n : Int)) : vp_in (z a) n := by
  unfold vp_in
  rintro (h | h)
  · rw [Int32.lt_iff_toInt_lt, z_ti (by omega) h2] at h
    have : (0 : Int32).toInt = 0 := rfl
    omega
  · have e : (z a).toNatClampNeg = a.toNat := z_iN h1 h2
    rw [e] at h
    omega
theorem z_div {a b : Int} (h1 : 0 ≤ a) (h2 : a < 2147483648) (h3 : 0 < b) (h4 : b < 2147483648) : z a / z b = z (a / b) := by
  have := Int32.ofInt_tdiv (a := a) (b := b) (by show (-2147483648 : Int) ≤ a; omega) (by show a ≤ (2147483647 : Int); omega) (by show (-2147483648 : Int) ≤ b; omega) (by show b ≤ (2147483647 : Int); omega)
  unfold z
  rw [← this, Int.tdiv_eq_ediv_of_nonneg h1]
theorem zn_0 : (0 : Int32) = z 0 := rfl
theorem zn_1 : (1 : Int32) = z 1 := rfl
theorem zn_2 : (2 : Int32) = z 2 := rfl
theorem zn_3 : (3 : Int32) = z 3 := rfl
theorem zn_4 : (4 : Int32) = z 4 := rfl
theorem zn_5 : (5 : Int32) = z 5 := rfl
theorem zn_6 : (6 : Int32) = z 6 := rfl
theorem zn_7 : (7 : Int32) = z 7 := rfl
theorem zn_8 : (8 : Int32) = z 8 := rfl
theorem zn_9 : (9 : Int32) = z 9 := rfl
theorem zn_10 : (10 : Int32) = z 10 := rfl
theorem zn_11 : (11 : Int32) = z 11 := rfl
theorem zn_12 : (12 : Int32) = z 12 := rfl
theorem zn_13 : (13 : Int32) = z 13 := rfl
theorem zn_14 : (14 : Int32) = z 14 := rfl
theorem zn_15 : (15 : Int32) = z 15 := rfl
theorem zn_16 : (16 : Int32) = z 16 := rfl
theorem zn_17 : (17 : Int32) = z 17 := rfl
theorem zn_18 : (18 : Int32) = z 18 := rfl
theorem zn_19 : (19 : Int32) = z 19 := rfl
theorem zn_20 : (20 : Int32) = z 20 := rfl
theorem zn_21 : (21 : Int32) = z 21 := rfl
theorem zn_22 : (22 : Int32) = z 22 := rfl
theorem zn_23 : (23 : Int32) = z 23 := rfl
theorem zn_24 : (24 : Int32) = z 24 := rfl
theorem zn_25 : (25 : Int32) = z 25 := rfl
theorem zn_26 : (26 : Int32) = z 26 := rfl
theorem zn_27 : (27 : Int32) = z 27 := rfl
theorem zn_28 : (28 : Int32) = z 28 := rfl
theorem zn_29 : (29 : Int32) = z 29 := rfl
theorem zn_30 : (30 : Int32) = z 30 := rfl
theorem zn_31 : (31 : Int32) = z 31 := rfl
theorem zn_32 : (32 : Int32) = z 32 := rfl
theorem zn_33 : (33 : Int32) = z 33 := rfl
theorem zn_34 : (34 : Int32) = z 34 := rfl
theorem zn_35 : (35 : Int32) = z 35 := rfl
theorem zn_36 : (36 : Int32) = z 36 := rfl
theorem zn_37 : (37 : Int32) = z 37 := rfl
theorem zn_38 : (38 : Int32) = z 38 := rfl
theorem zn_39 : (39 : Int32) = z 39 := rfl
theorem zn_40 : (40 : Int32) = z 40 := rfl
theorem zn_41 : (41 : Int32) = z 41 := rfl
theorem zn_42 : (42 : Int32) = z 42 := rfl
theorem zn_43 : (43 : Int32) = z 43 := rfl
theorem zn_44 : (44 : Int32) = z 44 := rfl
theorem zn_45 : (45 : Int32) = z 45 := rfl
theorem zn_46 : (46 : Int32) = z 46 := rfl
theorem zn_47 : (47 : Int32) = z 47 := rfl
theorem zn_48 : (48 : Int32) = z 48 := rfl
theorem zn_49 : (49 : Int32) = z 49 := rfl
theorem zn_50 : (50 : Int32) = z 50 := rfl
theorem zn_51 : (51 : Int32) = z 51 := rfl
theorem zn_52 : (52 : Int32) = z 52 := rfl
theorem zn_53 : (53 : Int32) = z 53 := rfl
theorem zn_54 : (54 : Int32) = z 54 := rfl
theorem zn_55 : (55 : Int32) = z 55 := rfl
theorem zn_56 : (56 : Int32) = z 56 := rfl
theorem zn_57 : (57 : Int32) = z 57 := rfl
theorem zn_58 : (58 : Int32) = z 58 := rfl
theorem zn_59 : (59 : Int32) = z 59 := rfl
theorem zn_60 : (60 : Int32) = z 60 := rfl
theorem zn_61 : (61 : Int32) = z 61 := rfl
theorem zn_62 : (62 : Int32) = z 62 := rfl
theorem zn_63 : (63 : Int32) = z 63 := rfl
theorem zn_64 : (64 : Int32) = z 64 := rfl
theorem zn_72 : (72 : Int32) = z 72 := rfl
theorem zn_91 : (91 : Int32) = z 91 := rfl
theorem zn_96 : (96 : Int32) = z 96 := rfl
theorem zn_97 : (97 : Int32) = z 97 := rfl
theorem zn_99 : (99 : Int32) = z 99 := rfl
theorem zn_100 : (100 : Int32) = z 100 := rfl
theorem zn_122 : (122 : Int32) = z 122 := rfl
theorem zn_128 : (128 : Int32) = z 128 := rfl
theorem zn_144 : (144 : Int32) = z 144 := rfl
theorem zn_176 : (176 : Int32) = z 176 := rfl
theorem zn_192 : (192 : Int32) = z 192 := rfl
theorem zn_255 : (255 : Int32) = z 255 := rfl
theorem zn_256 : (256 : Int32) = z 256 := rfl
theorem zn_257 : (257 : Int32) = z 257 := rfl
theorem zn_258 : (258 : Int32) = z 258 := rfl
theorem zn_260 : (260 : Int32) = z 260 := rfl
theorem zn_261 : (261 : Int32) = z 261 := rfl
theorem zn_262 : (262 : Int32) = z 262 := rfl
theorem zn_264 : (264 : Int32) = z 264 := rfl
theorem zn_288 : (288 : Int32) = z 288 := rfl
theorem zn_680 : (680 : Int32) = z 680 := rfl
theorem zn_700 : (700 : Int32) = z 700 := rfl
theorem zn_999 : (999 : Int32) = z 999 := rfl
theorem zn_9999 : (9999 : Int32) = z 9999 := rfl
theorem zn_99999 : (99999 : Int32) = z 99999 := rfl
theorem zn_100000 : (100000 : Int32) = z 100000 := rfl
theorem zn_1000000 : (1000000 : Int32) = z 1000000 := rfl
theorem z_0 : (0 : Int32) = z 0 := rfl
theorem z_1 : (1 : Int32) = z 1 := rfl
theorem z_m1 : (-1 : Int32) = z (-1) := rfl
theorem z_m2 : (-2 : Int32) = z (-2) := rfl
theorem z_m3 : (-3 : Int32) = z (-3) := rfl
theorem z_of_toInt {x : Int32} {a : Int} (h : x.toInt = a) : x = z a := by rw [← h, z_toInt]
theorem z_mnI {a b : Int} (h1 : -2147483648 ≤ a) (h2 : a < 2147483648) (h3 : -2147483648 ≤ b) (h4 : b < 2147483648) : mnI (z a) (z b) = z (min a b) := by
  unfold mnI
  simp only [z_lt h3 h4 h1 h2]
  split <;> congr 1 <;> omega
theorem z_mxI {a b : Int} (h1 : -2147483648 ≤ a) (h2 : a < 2147483648) (h3 : -2147483648 ≤ b) (h4 : b < 2147483648) : mxI (z a) (z b) = z (max a b) := by
  unfold mxI
  simp only [z_lt h1 h2 h3 h4]
  split <;> congr 1 <;> omega
/-- long numbers -/
def zl (a : Int) : Int64 := Int64.ofInt a
theorem zl_ti {a : Int} (h1 : -9223372036854775808 ≤ a) (h2 : a < 9223372036854775808) : (zl a).toInt = a := Int64.toInt_ofInt_of_le (by omega) (by omega)
theorem zl_toInt (x : Int64) : zl x.toInt = x := Int64.ofInt_toInt x
theorem zl_add (a b : Int) : zl a + zl b = zl (a + b) := (Int64.ofInt_add a b).symm
theorem zl_sub (a b : Int) : zl a - zl b = zl (a - b) := (Int64.ofInt_sub a b).symm
theorem zl_mul (a b : Int) : zl a * zl b = zl (a * b) := (Int64.ofInt_mul a b).symm
theorem zl_neg (a : Int) : -zl a = zl (-a) := Int64.neg_ofInt
theorem zl_lt {a b : Int} (h1 : -9223372036854775808 ≤ a) (h2 : a < 9223372036854775808) (h3 : -9223372036854775808 ≤ b) (h4 : b < 9223372036854775808) : (zl a < zl b) = (a < b) := by
  rw [Int64.lt_iff_toInt_lt, zl_ti h1 h2, zl_ti h3 h4]
theorem zl_le {a b : Int} (h1 : -9223372036854775808 ≤ a) (h2 : a < 9223372036854775808) (h3 : -9223372036854775808 ≤ b) (h4 : b < 9223372036854775808) : (zl a ≤ zl b) = (a ≤ b) := by
  rw [Int64.le_iff_toInt_le, zl_ti h1 h2, zl_ti h3 h4]
theorem zl_eq {a b : Int} (h1 : -9223372036854775808 ≤ a) (h2 : a < 9223372036854775808) (h3 : -9223372036854775808 ≤ b) (h4 : b < 9223372036854775808) : (zl a = zl b) = (a = b) := by
  rw [← Int64.toInt_inj, zl_ti h1 h2, zl_ti h3 h4]
theorem zl_div {a b : Int} (h1 : -9223372036854775808 < a) (h2 : a < 9223372036854775808) (h3 : -9223372036854775808 < b) (h4 : b < 9223372036854775808) : zl a / zl b = zl (a.tdiv b) := by
  have := Int64.ofInt_tdiv (a := a) (b := b) (by show (-9223372036854775808 : Int) ≤ a; omega) (by show a ≤ (9223372036854775807 : Int); omega) (by show (-9223372036854775808 : Int) ≤ b; omega) (by show b ≤ (9223372036854775807 : Int); omega)
  unfold zl
  rw [← this]
theorem zl_0 : (0 : Int64) = zl 0 := rfl
theorem zl_1 : (1 : Int64) = zl 1 := rfl
theorem zl_m1 : (-1 : Int64) = zl (-1) := rfl
theorem zl_T : (1000000000000 : Int64) = zl 1000000000000 := rfl
theorem zl_mT : (-1000000000000 : Int64) = zl (-1000000000000) := rfl
theorem zl_err : (-9223372036854775808 : Int64) = zl (-9223372036854775808) := rfl
theorem zl_9999 : (9999 : Int64) = zl 9999 := rfl
theorem zl_of {a : Int} (h1 : -2147483648 ≤ a) (h2 : a < 2147483648) : (z a).toInt64 = zl a := by
  apply Int64.toInt_inj.mp
  rw [Int32.toInt_toInt64, z_ti h1 h2, zl_ti (by omega) (by omega)]
theorem zl_low {a : Int} (h1 : -2147483648 ≤ a) (h2 : a < 2147483648) : (zl a).toInt32 = z a := by
  apply Int32.toInt_inj.mp
  rw [Int64.toInt_toInt32, zl_ti (by omega) (by omega), z_ti h1 h2]
  exact Int.bmod_eq_of_le (by omega) (by omega)
/-! ===== what stays ===== -/
def At (h g : PH) (c k : Nat) : Prop := gI g c k = gI h c k ∧ gJ g c k = gJ h c k ∧ gP g c k = gP h c k
theorem At.rf (h : PH) (c k : Nat) : At h h c k := ⟨rfl, rfl, rfl⟩
theorem At.tr {h g f : PH} {c k : Nat} (a : At h g c k) (b : At g f c k) : At h f c k := ⟨b.1.trans a.1, b.2.1.trans a.2.1, b.2.2.trans a.2.2⟩
theorem At.sI {h g : PH} {c k i j : Nat} {x : Int32} (a : At h g c k) (hn : ¬ (c = i ∧ k = j)) : At h (sI g i j x) c k := ⟨by rw [gI_sI, if_neg hn]; exact a.1, a.2.1, a.2.2⟩
theorem At.sJ {h g : PH} {c k i j : Nat} {x : Int64} (a : At h g c k) (hn : ¬ (c = i ∧ k = j)) : At h (sJ g i j x) c k := ⟨a.1, by rw [gJ_sJ, if_neg hn]; exact a.2.1, a.2.2⟩
theorem At.sP {h g : PH} {c k i j x : Nat} (a : At h g c k) (hn : ¬ (c = i ∧ k = j)) : At h (sP g i j x) c k := ⟨a.1, a.2.1, by rw [gP_sP, if_neg hn]; exact a.2.2⟩
theorem gI_in {h : PH} {i k a b : Nat} {x : Int32} (h1 : a = i) (h2 : b = k) : gI (sI h i k x) a b = x := by rw [gI_sI, if_pos ⟨h1, h2⟩]
theorem gI_out {h : PH} {i k a b : Nat} {x : Int32} (hn : ¬ (a = i ∧ b = k)) : gI (sI h i k x) a b = gI h a b := by rw [gI_sI, if_neg hn]
theorem gJ_in {h : PH} {i k a b : Nat} {x : Int64} (h1 : a = i) (h2 : b = k) : gJ (sJ h i k x) a b = x := by rw [gJ_sJ, if_pos ⟨h1, h2⟩]
theorem gJ_out {h : PH} {i k a b : Nat} {x : Int64} (hn : ¬ (a = i ∧ b = k)) : gJ (sJ h i k x) a b = gJ h a b := by rw [gJ_sJ, if_neg hn]
/-! ===== loops that count ===== -/
theorem for10 {body : (Int32 → PH → Prop) → Int32 → PH → Prop} (n : Int) (J : Int → PH → Prop) (i0 : Int) {x0 : Int32} {h : PH} (hx : x0 = z i0) (hb : -2147483648 ≤ i0) (hn : n < 2147483648) (h0 : i0 ≤ n) (hJ : J i0 h) (hs : ∀ (kb : Int32 → PH → Prop) (i : Int) (h : PH), i0 ≤ i → i < n → J i h → (∀ (g : PH), J (i + 1) g → kb (z (i + 1)) g) → body kb (z i) h) (he : ∀ (kb : Int32 → PH → Prop) (h : PH), J n h → body kb (z n) h) : ∃ k, Lp1 body k x0 h := by
  subst hx
  refine lp1_i (fun x h => ∃ i, x = z i ∧ i0 ≤ i ∧ i ≤ n ∧ J i h) (fun x _ => (n - x.toInt).toNat) ?_ _ h ⟨i0, rfl, Int.le_refl _, h0, hJ⟩
  rintro kb _ h ⟨i, rfl, h1, h2, hJ⟩ hk
  by_cases hi : i < n
  · refine hs kb i h h1 hi hJ (fun g hg => hk _ g ⟨i + 1, rfl, by omega, by omega, hg⟩ ?_)
    rw [z_ti (by omega) (by omega), z_ti (by omega) (by omega)]
    omega
  · have e : i = n := by omega
    subst e
    exact he kb h hJ
theorem for20 {A1 : Type} {body : (Int32 → A1 → PH → Prop) → Int32 → A1 → PH → Prop} (n : Int) (J : Int → A1 → PH → Prop) (i0 : Int) {x0 : Int32} {a1 : A1} {h : PH} (hx : x0 = z i0) (hb : -2147483648 ≤ i0) (hn : n < 2147483648) (h0 : i0 ≤ n) (hJ : J i0 a1 h) (hs : ∀ (kb : Int32 → A1 → PH → Prop) (i : Int) (a1 : A1) (h : PH), i0 ≤ i → i < n → J i a1 h → (∀ (b1 : A1) (g : PH), J (i + 1) b1 g → kb (z (i + 1)) b1 g) → body kb (z i) a1 h) (he : ∀ (kb : Int32 → A1 → PH → Prop) (a1 : A1) (h : PH), J n a1 h → body kb (z n) a1 h) : ∃ k, Lp2 body k x0 a1 h := by
  subst hx
  refine lp2_i (fun x a1 h => ∃ i, x = z i ∧ i0 ≤ i ∧ i ≤ n ∧ J i a1 h) (fun x _ _ => (n - x.toInt).toNat) ?_ _ _ h ⟨i0, rfl, Int.le_refl _, h0, hJ⟩
  rintro kb _ a1 h ⟨i, rfl, h1, h2, hJ⟩ hk
  by_cases hi : i < n
  · refine hs kb i a1 h h1 hi hJ (fun b1 g hg => hk _ b1 g ⟨i + 1, rfl, by omega, by omega, hg⟩ ?_)
    rw [z_ti (by omega) (by omega), z_ti (by omega) (by omega)]
    omega
  · have e : i = n := by omega
    subst e
    exact he kb a1 h hJ
theorem for21 {A0 : Type} {body : (A0 → Int32 → PH → Prop) → A0 → Int32 → PH → Prop} (n : Int) (J : Int → A0 → PH → Prop) (i0 : Int) {x0 : Int32} {a0 : A0} {h : PH} (hx : x0 = z i0) (hb : -2147483648 ≤ i0) (hn : n < 2147483648) (h0 : i0 ≤ n) (hJ : J i0 a0 h) (hs : ∀ (kb : A0 → Int32 → PH → Prop) (i : Int) (a0 : A0) (h : PH), i0 ≤ i → i < n → J i a0 h → (∀ (b0 : A0) (g : PH), J (i + 1) b0 g → kb b0 (z (i + 1)) g) → body kb a0 (z i) h) (he : ∀ (kb : A0 → Int32 → PH → Prop) (a0 : A0) (h : PH), J n a0 h → body kb a0 (z n) h) : ∃ k, Lp2 body k a0 x0 h := by
  subst hx
  refine lp2_i (fun a0 x h => ∃ i, x = z i ∧ i0 ≤ i ∧ i ≤ n ∧ J i a0 h) (fun _ x _ => (n - x.toInt).toNat) ?_ _ _ h ⟨i0, rfl, Int.le_refl _, h0, hJ⟩
  rintro kb a0 _ h ⟨i, rfl, h1, h2, hJ⟩ hk
  by_cases hi : i < n
  · refine hs kb i a0 h h1 hi hJ (fun b0 g hg => hk b0 _ g ⟨i + 1, rfl, by omega, by omega, hg⟩ ?_)
    rw [z_ti (by omega) (by omega), z_ti (by omega) (by omega)]
    omega
  · have e : i = n := by omega
    subst e
    exact he kb a0 h hJ
theorem for30 {A1 : Type} {A2 : Type} {body : (Int32 → A1 → A2 → PH → Prop) → Int32 → A1 → A2 → PH → Prop} (n : Int) (J : Int → A1 → A2 → PH → Prop) (i0 : Int) {x0 : Int32} {a1 : A1} {a2 : A2} {h : PH} (hx : x0 = z i0) (hb : -2147483648 ≤ i0) (hn : n < 2147483648) (h0 : i0 ≤ n) (hJ : J i0 a1 a2 h) (hs : ∀ (kb : Int32 → A1 → A2 → PH → Prop) (i : Int) (a1 : A1) (a2 : A2) (h : PH), i0 ≤ i → i < n → J i a1 a2 h → (∀ (b1 : A1) (b2 : A2) (g : PH), J (i + 1) b1 b2 g → kb (z (i + 1)) b1 b2 g) → body kb (z i) a1 a2 h) (he : ∀ (kb : Int32 → A1 → A2 → PH → Prop) (a1 : A1) (a2 : A2) (h : PH), J n a1 a2 h → body kb (z n) a1 a2 h) : ∃ k, Lp3 body k x0 a1 a2 h := by
  subst hx
  refine lp3_i (fun x a1 a2 h => ∃ i, x = z i ∧ i0 ≤ i ∧ i ≤ n ∧ J i a1 a2 h) (fun x _ _ _ => (n - x.toInt).toNat) ?_ _ _ _ h ⟨i0, rfl, Int.le_refl _, h0, hJ⟩
  rintro kb _ a1 a2 h ⟨i, rfl, h1, h2, hJ⟩ hk
  by_cases hi : i < n
  · refine hs kb i a1 a2 h h1 hi hJ (fun b1 b2 g hg => hk _ b1 b2 g ⟨i + 1, rfl, by omega, by omega, hg⟩ ?_)
    rw [z_ti (by omega) (by omega), z_ti (by omega) (by omega)]
    omega
  · have e : i = n := by omega
    subst e
    exact he kb a1 a2 h hJ
theorem for31 {A0 : Type} {A2 : Type} {body : (A0 → Int32 → A2 → PH → Prop) → A0 → Int32 → A2 → PH → Prop} (n : Int) (J : Int → A0 → A2 → PH → Prop) (i0 : Int) {x0 : Int32} {a0 : A0} {a2 : A2} {h : PH} (hx : x0 = z i0) (hb : -2147483648 ≤ i0) (hn : n < 2147483648) (h0 : i0 ≤ n) (hJ : J i0 a0 a2 h) (hs : ∀ (kb : A0 → Int32 → A2 → PH → Prop) (i : Int) (a0 : A0) (a2 : A2) (h : PH), i0 ≤ i → i < n → J i a0 a2 h → (∀ (b0 : A0) (b2 : A2) (g : PH), J (i + 1) b0 b2 g → kb b0 (z (i + 1)) b2 g) → body kb a0 (z i) a2 h) (he : ∀ (kb : A0 → Int32 → A2 → PH → Prop) (a0 : A0) (a2 : A2) (h : PH), J n a0 a2 h → body kb a0 (z n) a2 h) : ∃ k, Lp3 body k a0 x0 a2 h := by
  subst hx
  refine lp3_i (fun a0 x a2 h => ∃ i, x = z i ∧ i0 ≤ i ∧ i ≤ n ∧ J i a0 a2 h) (fun _ x _ _ => (n - x.toInt).toNat) ?_ _ _ _ h ⟨i0, rfl, Int.le_refl _, h0, hJ⟩
  rintro kb a0 _ a2 h ⟨i, rfl, h1, h2, hJ⟩ hk
  by_cases hi : i < n
  · refine hs kb i a0 a2 h h1 hi hJ (fun b0 b2 g hg => hk b0 _ b2 g ⟨i + 1, rfl, by omega, by omega, hg⟩ ?_)
    rw [z_ti (by omega) (by omega), z_ti (by omega) (by omega)]
    omega
  · have e : i = n := by omega
    subst e
    exact he kb a0 a2 h hJ
theorem for32 {A0 : Type} {A1 : Type} {body : (A0 → A1 → Int32 → PH → Prop) → A0 → A1 → Int32 → PH → Prop} (n : Int) (J : Int → A0 → A1 → PH → Prop) (i0 : Int) {x0 : Int32} {a0 : A0} {a1 : A1} {h : PH} (hx : x0 = z i0) (hb : -2147483648 ≤ i0) (hn : n < 2147483648) (h0 : i0 ≤ n) (hJ : J i0 a0 a1 h) (hs : ∀ (kb : A0 → A1 → Int32 → PH → Prop) (i : Int) (a0 : A0) (a1 : A1) (h : PH), i0 ≤ i → i < n → J i a0 a1 h → (∀ (b0 : A0) (b1 : A1) (g : PH), J (i + 1) b0 b1 g → kb b0 b1 (z (i + 1)) g) → body kb a0 a1 (z i) h) (he : ∀ (kb : A0 → A1 → Int32 → PH → Prop) (a0 : A0) (a1 : A1) (h : PH), J n a0 a1 h → body kb a0 a1 (z n) h) : ∃ k, Lp3 body k a0 a1 x0 h := by
  subst hx
  refine lp3_i (fun a0 a1 x h => ∃ i, x = z i ∧ i0 ≤ i ∧ i ≤ n ∧ J i a0 a1 h) (fun _ _ x _ => (n - x.toInt).toNat) ?_ _ _ _ h ⟨i0, rfl, Int.le_refl _, h0, hJ⟩
  rintro kb a0 a1 _ h ⟨i, rfl, h1, h2, hJ⟩ hk
  by_cases hi : i < n
  · refine hs kb i a0 a1 h h1 hi hJ (fun b0 b1 g hg => hk b0 b1 _ g ⟨i + 1, rfl, by omega, by omega, hg⟩ ?_)
    rw [z_ti (by omega) (by omega), z_ti (by omega) (by omega)]
    omega
  · have e : i = n := by omega
    subst e
    exact he kb a0 a1 h hJ
theorem for40 {A1 : Type} {A2 : Type} {A3 : Type} {body : (Int32 → A1 → A2 → A3 → PH → Prop) → Int32 → A1 → A2 → A3 → PH → Prop} (n : Int) (J : Int → A1 → A2 → A3 → PH → Prop) (i0 : Int) {x0 : Int32} {a1 : A1} {a2 : A2} {a3 : A3} {h : PH} (hx : x0 = z i0) (hb : -2147483648 ≤ i0) (hn : n < 2147483648) (h0 : i0 ≤ n) (hJ : J i0 a1 a2 a3 h) (hs : ∀ (kb : Int32 → A1 → A2 → A3 → PH → Prop) (i : Int) (a1 : A1) (a2 : A2) (a3 : A3) (h : PH), i0 ≤ i → i < n → J i a1 a2 a3 h → (∀ (b1 : A1) (b2 : A2) (b3 : A3) (g : PH), J (i + 1) b1 b2 b3 g → kb (z (i + 1)) b1 b2 b3 g) → body kb (z i) a1 a2 a3 h) (he : ∀ (kb : Int32 → A1 → A2 → A3 → PH → Prop) (a1 : A1) (a2 : A2) (a3 : A3) (h : PH), J n a1 a2 a3 h → body kb (z n) a1 a2 a3 h) : ∃ k, Lp4 body k x0 a1 a2 a3 h := by
  subst hx
  refine lp4_i (fun x a1 a2 a3 h => ∃ i, x = z i ∧ i0 ≤ i ∧ i ≤ n ∧ J i a1 a2 a3 h) (fun x _ _ _ _ => (n - x.toInt).toNat) ?_ _ _ _ _ h ⟨i0, rfl, Int.le_refl _, h0, hJ⟩
  rintro kb _ a1 a2 a3 h ⟨i, rfl, h1, h2, hJ⟩ hk
  by_cases hi : i < n
  · refine hs kb i a1 a2 a3 h h1 hi hJ (fun b1 b2 b3 g hg => hk _ b1 b2 b3 g ⟨i + 1, rfl, by omega, by omega, hg⟩ ?_)
    rw [z_ti (by omega) (by omega), z_ti (by omega) (by omega)]
    omega
  · have e : i = n := by omega
    subst e
    exact he kb a1 a2 a3 h hJ
theorem for41 {A0 : Type} {A2 : Type} {A3 : Type} {body : (A0 → Int32 → A2 → A3 → PH → Prop) → A0 → Int32 → A2 → A3 → PH → Prop} (n : Int) (J : Int → A0 → A2 → A3 → PH → Prop) (i0 : Int) {x0 : Int32} {a0 : A0} {a2 : A2} {a3 : A3} {h : PH} (hx : x0 = z i0) (hb : -2147483648 ≤ i0) (hn : n < 2147483648) (h0 : i0 ≤ n) (hJ : J i0 a0 a2 a3 h) (hs : ∀ (kb : A0 → Int32 → A2 → A3 → PH → Prop) (i : Int) (a0 : A0) (a2 : A2) (a3 : A3) (h : PH), i0 ≤ i → i < n → J i a0 a2 a3 h → (∀ (b0 : A0) (b2 : A2) (b3 : A3) (g : PH), J (i + 1) b0 b2 b3 g → kb b0 (z (i + 1)) b2 b3 g) → body kb a0 (z i) a2 a3 h) (he : ∀ (kb : A0 → Int32 → A2 → A3 → PH → Prop) (a0 : A0) (a2 : A2) (a3 : A3) (h : PH), J n a0 a2 a3 h → body kb a0 (z n) a2 a3 h) : ∃ k, Lp4 body k a0 x0 a2 a3 h := by
  subst hx
  refine lp4_i (fun a0 x a2 a3 h => ∃ i, x = z i ∧ i0 ≤ i ∧ i ≤ n ∧ J i a0 a2 a3 h) (fun _ x _ _ _ => (n - x.toInt).toNat) ?_ _ _ _ _ h ⟨i0, rfl, Int.le_refl _, h0, hJ⟩
  rintro kb a0 _ a2 a3 h ⟨i, rfl, h1, h2, hJ⟩ hk
  by_cases hi : i < n
  · refine hs kb i a0 a2 a3 h h1 hi hJ (fun b0 b2 b3 g hg => hk b0 _ b2 b3 g ⟨i + 1, rfl, by omega, by omega, hg⟩ ?_)
    rw [z_ti (by omega) (by omega), z_ti (by omega) (by omega)]
    omega
  · have e : i = n := by omega
    subst e
    exact he kb a0 a2 a3 h hJ
theorem for42 {A0 : Type} {A1 : Type} {A3 : Type} {body : (A0 → A1 → Int32 → A3 → PH → Prop) → A0 → A1 → Int32 → A3 → PH → Prop} (n : Int) (J : Int → A0 → A1 → A3 → PH → Prop) (i0 : Int) {x0 : Int32} {a0 : A0} {a1 : A1} {a3 : A3} {h : PH} (hx : x0 = z i0) (hb : -2147483648 ≤ i0) (hn : n < 2147483648) (h0 : i0 ≤ n) (hJ : J i0 a0 a1 a3 h) (hs : ∀ (kb : A0 → A1 → Int32 → A3 → PH → Prop) (i : Int) (a0 : A0) (a1 : A1) (a3 : A3) (h : PH), i0 ≤ i → i < n → J i a0 a1 a3 h → (∀ (b0 : A0) (b1 : A1) (b3 : A3) (g : PH), J (i + 1) b0 b1 b3 g → kb b0 b1 (z (i + 1)) b3 g) → body kb a0 a1 (z i) a3 h) (he : ∀ (kb : A0 → A1 → Int32 → A3 → PH → Prop) (a0 : A0) (a1 : A1) (a3 : A3) (h : PH), J n a0 a1 a3 h → body kb a0 a1 (z n) a3 h) : ∃ k, Lp4 body k a0 a1 x0 a3 h := by
  subst hx
  refine lp4_i (fun a0 a1 x a3 h => ∃ i, x = z i ∧ i0 ≤ i ∧ i ≤ n ∧ J i a0 a1 a3 h) (fun _ _ x _ _ => (n - x.toInt).toNat) ?_ _ _ _ _ h ⟨i0, rfl, Int.le_refl _, h0, hJ⟩
  rintro kb a0 a1 _ a3 h ⟨i, rfl, h1, h2, hJ⟩ hk
  by_cases hi : i < n
  · refine hs kb i a0 a1 a3 h h1 hi hJ (fun b0 b1 b3 g hg => hk b0 b1 _ b3 g ⟨i + 1, rfl, by omega, by omega, hg⟩ ?_)
    rw [z_ti (by omega) (by omega), z_ti (by omega) (by omega)]
    omega
  · have e : i = n := by omega
    subst e
    exact he kb a0 a1 a3 h hJ
theorem for43 {A0 : Type} {A1 : Type} {A2 : Type} {body : (A0 → A1 → A2 → Int32 → PH → Prop) → A0 → A1 → A2 → Int32 → PH → Prop} (n : Int) (J : Int → A0 → A1 → A2 → PH → Prop) (i0 : Int) {x0 : Int32} {a0 : A0} {a1 : A1} {a2 : A2} {h : PH} (hx : x0 = z i0) (hb : -2147483648 ≤ i0) (hn : n < 2147483648) (h0 : i0 ≤ n) (hJ : J i0 a0 a1 a2 h) (hs : ∀ (kb : A0 → A1 → A2 → Int32 → PH → Prop) (i : Int) (a0 : A0) (a1 : A1) (a2 : A2) (h : PH), i0 ≤ i → i < n → J i a0 a1 a2 h → (∀ (b0 : A0) (b1 : A1) (b2 : A2) (g : PH), J (i + 1) b0 b1 b2 g → kb b0 b1 b2 (z (i + 1)) g) → body kb a0 a1 a2 (z i) h) (he : ∀ (kb : A0 → A1 → A2 → Int32 → PH → Prop) (a0 : A0) (a1 : A1) (a2 : A2) (h : PH), J n a0 a1 a2 h → body kb a0 a1 a2 (z n) h) : ∃ k, Lp4 body k a0 a1 a2 x0 h := by
  subst hx
  refine lp4_i (fun a0 a1 a2 x h => ∃ i, x = z i ∧ i0 ≤ i ∧ i ≤ n ∧ J i a0 a1 a2 h) (fun _ _ _ x _ => (n - x.toInt).toNat) ?_ _ _ _ _ h ⟨i0, rfl, Int.le_refl _, h0, hJ⟩
  rintro kb a0 a1 a2 _ h ⟨i, rfl, h1, h2, hJ⟩ hk
  by_cases hi : i < n
  · refine hs kb i a0 a1 a2 h h1 hi hJ (fun b0 b1 b2 g hg => hk b0 b1 b2 _ g ⟨i + 1, rfl, by omega, by omega, hg⟩ ?_)
    rw [z_ti (by omega) (by omega), z_ti (by omega) (by omega)]
    omega
  · have e : i = n := by omega
    subst e
    exact he kb a0 a1 a2 h hJ
theorem for50 {A1 : Type} {A2 : Type} {A3 : Type} {A4 : Type} {body : (Int32 → A1 → A2 → A3 → A4 → PH → Prop) → Int32 → A1 → A2 → A3 → A4 → PH → Prop} (n : Int) (J : Int → A1 → A2 → A3 → A4 → PH → Prop) (i0 : Int) {x0 : Int32} {a1 : A1} {a2 : A2} {a3 : A3} {a4 : A4} {h : PH} (hx : x0 = z i0) (hb : -2147483648 ≤ i0) (hn : n < 2147483648) (h0 : i0 ≤ n) (hJ : J i0 a1 a2 a3 a4 h) (hs : ∀ (kb : Int32 → A1 → A2 → A3 → A4 → PH → Prop) (i : Int) (a1 : A1) (a2 : A2) (a3 : A3) (a4 : A4) (h : PH), i0 ≤ i → i < n → J i a1 a2 a3 a4 h → (∀ (b1 : A1) (b2 : A2) (b3 : A3) (b4 : A4) (g : PH), J (i + 1) b1 b2 b3 b4 g → kb (z (i + 1)) b1 b2 b3 b4 g) → body kb (z i) a1 a2 a3 a4 h) (he : ∀ (kb : Int32 → A1 → A2 → A3 → A4 → PH → Prop) (a1 : A1) (a2 : A2) (a3 : A3) (a4 : A4) (h : PH), J n a1 a2 a3 a4 h → body kb (z n) a1 a2 a3 a4 h) : ∃ k, Lp5 body k x0 a1 a2 a3 a4 h := by
  subst hx
  refine lp5_i (fun x a1 a2 a3 a4 h => ∃ i, x = z i ∧ i0 ≤ i ∧ i ≤ n ∧ J i a1 a2 a3 a4 h) (fun x _ _ _ _ _ => (n - x.toInt).toNat) ?_ _ _ _ _ _ h ⟨i0, rfl, Int.le_refl _, h0, hJ⟩
  rintro kb _ a1 a2 a3 a4 h ⟨i, rfl, h1, h2, hJ⟩ hk
  by_cases hi : i < n
  · refine hs kb i a1 a2 a3 a4 h h1 hi hJ (fun b1 b2 b3 b4 g hg => hk _ b1 b2 b3 b4 g ⟨i + 1, rfl, by omega, by omega, hg⟩ ?_)
    rw [z_ti (by omega) (by omega), z_ti (by omega) (by omega)]
    omega
  · have e : i = n := by omega
    subst e
    exact he kb a1 a2 a3 a4 h hJ
theorem for51 {A0 : Type} {A2 : Type} {A3 : Type} {A4 : Type} {body : (A0 → Int32 → A2 → A3 → A4 → PH → Prop) → A0 → Int32 → A2 → A3 → A4 → PH → Prop} (n : Int) (J : Int → A0 → A2 → A3 → A4 → PH → Prop) (i0 : Int) {x0 : Int32} {a0 : A0} {a2 : A2} {a3 : A3} {a4 : A4} {h : PH} (hx : x0 = z i0) (hb : -2147483648 ≤ i0) (hn : n < 2147483648) (h0 : i0 ≤ n) (hJ : J i0 a0 a2 a3 a4 h) (hs : ∀ (kb : A0 → Int32 → A2 → A3 → A4 → PH → Prop) (i : Int) (a0 : A0) (a2 : A2) (a3 : A3) (a4 : A4) (h : PH), i0 ≤ i → i < n → J i a0 a2 a3 a4 h → (∀ (b0 : A0) (b2 : A2) (b3 : A3) (b4 : A4) (g : PH), J (i + 1) b0 b2 b3 b4 g → kb b0 (z (i + 1)) b2 b3 b4 g) → body kb a0 (z i) a2 a3 a4 h) (he : ∀ (kb : A0 → Int32 → A2 → A3 → A4 → PH → Prop) (a0 : A0) (a2 : A2) (a3 : A3) (a4 : A4) (h : PH), J n a0 a2 a3 a4 h → body kb a0 (z n) a2 a3 a4 h) : ∃ k, Lp5 body k a0 x0 a2 a3 a4 h := by
  subst hx
  refine lp5_i (fun a0 x a2 a3 a4 h => ∃ i, x = z i ∧ i0 ≤ i ∧ i ≤ n ∧ J i a0 a2 a3 a4 h) (fun _ x _ _ _ _ => (n - x.toInt).toNat) ?_ _ _ _ _ _ h ⟨i0, rfl, Int.le_refl _, h0, hJ⟩
  rintro kb a0 _ a2 a3 a4 h ⟨i, rfl, h1, h2, hJ⟩ hk
  by_cases hi : i < n
  · refine hs kb i a0 a2 a3 a4 h h1 hi hJ (fun b0 b2 b3 b4 g hg => hk b0 _ b2 b3 b4 g ⟨i + 1, rfl, by omega, by omega, hg⟩ ?_)
    rw [z_ti (by omega) (by omega), z_ti (by omega) (by omega)]
    omega
  · have e : i = n := by omega
    subst e
    exact he kb a0 a2 a3 a4 h hJ
theorem for52 {A0 : Type} {A1 : Type} {A3 : Type} {A4 : Type} {body : (A0 → A1 → Int32 → A3 → A4 → PH → Prop) → A0 → A1 → Int32 → A3 → A4 → PH → Prop} (n : Int) (J : Int → A0 → A1 → A3 → A4 → PH → Prop) (i0 : Int) {x0 : Int32} {a0 : A0} {a1 : A1} {a3 : A3} {a4 : A4} {h : PH} (hx : x0 = z i0) (hb : -2147483648 ≤ i0) (hn : n < 2147483648) (h0 : i0 ≤ n) (hJ : J i0 a0 a1 a3 a4 h) (hs : ∀ (kb : A0 → A1 → Int32 → A3 → A4 → PH → Prop) (i : Int) (a0 : A0) (a1 : A1) (a3 : A3) (a4 : A4) (h : PH), i0 ≤ i → i < n → J i a0 a1 a3 a4 h → (∀ (b0 : A0) (b1 : A1) (b3 : A3) (b4 : A4) (g : PH), J (i + 1) b0 b1 b3 b4 g → kb b0 b1 (z (i + 1)) b3 b4 g) → body kb a0 a1 (z i) a3 a4 h) (he : ∀ (kb : A0 → A1 → Int32 → A3 → A4 → PH → Prop) (a0 : A0) (a1 : A1) (a3 : A3) (a4 : A4) (h : PH), J n a0 a1 a3 a4 h → body kb a0 a1 (z n) a3 a4 h) : ∃ k, Lp5 body k a0 a1 x0 a3 a4 h := by
  subst hx
  refine lp5_i (fun a0 a1 x a3 a4 h => ∃ i, x = z i ∧ i0 ≤ i ∧ i ≤ n ∧ J i a0 a1 a3 a4 h) (fun _ _ x _ _ _ => (n - x.toInt).toNat) ?_ _ _ _ _ _ h ⟨i0, rfl, Int.le_refl _, h0, hJ⟩
  rintro kb a0 a1 _ a3 a4 h ⟨i, rfl, h1, h2, hJ⟩ hk
  by_cases hi : i < n
  · refine hs kb i a0 a1 a3 a4 h h1 hi hJ (fun b0 b1 b3 b4 g hg => hk b0 b1 _ b3 b4 g ⟨i + 1, rfl, by omega, by omega, hg⟩ ?_)
    rw [z_ti (by omega) (by omega), z_ti (by omega) (by omega)]
    omega
  · have e : i = n := by omega
    subst e
    exact he kb a0 a1 a3 a4 h hJ
theorem for53 {A0 : Type} {A1 : Type} {A2 : Type} {A4 : Type} {body : (A0 → A1 → A2 → Int32 → A4 → PH → Prop) → A0 → A1 → A2 → Int32 → A4 → PH → Prop} (n : Int) (J : Int → A0 → A1 → A2 → A4 → PH → Prop) (i0 : Int) {x0 : Int32} {a0 : A0} {a1 : A1} {a2 : A2} {a4 : A4} {h : PH} (hx : x0 = z i0) (hb : -2147483648 ≤ i0) (hn : n < 2147483648) (h0 : i0 ≤ n) (hJ : J i0 a0 a1 a2 a4 h) (hs : ∀ (kb : A0 → A1 → A2 → Int32 → A4 → PH → Prop) (i : Int) (a0 : A0) (a1 : A1) (a2 : A2) (a4 : A4) (h : PH), i0 ≤ i → i < n → J i a0 a1 a2 a4 h → (∀ (b0 : A0) (b1 : A1) (b2 : A2) (b4 : A4) (g : PH), J (i + 1) b0 b1 b2 b4 g → kb b0 b1 b2 (z (i + 1)) b4 g) → body kb a0 a1 a2 (z i) a4 h) (he : ∀ (kb : A0 → A1 → A2 → Int32 → A4 → PH → Prop) (a0 : A0) (a1 : A1) (a2 : A2) (a4 : A4) (h : PH), J n a0 a1 a2 a4 h → body kb a0 a1 a2 (z n) a4 h) : ∃ k, Lp5 body k a0 a1 a2 x0 a4 h := by
  subst hx
  refine lp5_i (fun a0 a1 a2 x a4 h => ∃ i, x = z i ∧ i0 ≤ i ∧ i ≤ n ∧ J i a0 a1 a2 a4 h) (fun _ _ _ x _ _ => (n - x.toInt).toNat) ?_ _ _ _ _ _ h ⟨i0, rfl, Int.le_refl _, h0, hJ⟩
  rintro kb a0 a1 a2 _ a4 h ⟨i, rfl, h1, h2, hJ⟩ hk
  by_cases hi : i < n
  · refine hs kb i a0 a1 a2 a4 h h1 hi hJ (fun b0 b1 b2 b4 g hg => hk b0 b1 b2 _ b4 g ⟨i + 1, rfl, by omega, by omega, hg⟩ ?_)
    rw [z_ti (by omega) (by omega), z_ti (by omega) (by omega)]
    omega
  · have e : i = n := by omega
    subst e
    exact he kb a0 a1 a2 a4 h hJ
theorem for54 {A0 : Type} {A1 : Type} {A2 : Type} {A3 : Type} {body : (A0 → A1 → A2 → A3 → Int32 → PH → Prop) → A0 → A1 → A2 → A3 → Int32 → PH → Prop} (n : Int) (J : Int → A0 → A1 → A2 → A3 → PH → Prop) (i0 : Int) {x0 : Int32} {a0 : A0} {a1 : A1} {a2 : A2} {a3 : A3} {h : PH} (hx : x0 = z i0) (hb : -2147483648 ≤ i0) (hn : n < 2147483648) (h0 : i0 ≤ n) (hJ : J i0 a0 a1 a2 a3 h) (hs : ∀ (kb : A0 → A1 → A2 → A3 → Int32 → PH → Prop) (i : Int) (a0 : A0) (a1 : A1) (a2 : A2) (a3 : A3) (h : PH), i0 ≤ i → i < n → J i a0 a1 a2 a3 h → (∀ (b0 : A0) (b1 : A1) (b2 : A2) (b3 : A3) (g : PH), J (i + 1) b0 b1 b2 b3 g → kb b0 b1 b2 b3 (z (i + 1)) g) → body kb a0 a1 a2 a3 (z i) h) (he : ∀ (kb : A0 → A1 → A2 → A3 → Int32 → PH → Prop) (a0 : A0) (a1 : A1) (a2 : A2) (a3 : A3) (h : PH), J n a0 a1 a2 a3 h → body kb a0 a1 a2 a3 (z n) h) : ∃ k, Lp5 body k a0 a1 a2 a3 x0 h := by
  subst hx
  refine lp5_i (fun a0 a1 a2 a3 x h => ∃ i, x = z i ∧ i0 ≤ i ∧ i ≤ n ∧ J i a0 a1 a2 a3 h) (fun _ _ _ _ x _ => (n - x.toInt).toNat) ?_ _ _ _ _ _ h ⟨i0, rfl, Int.le_refl _, h0, hJ⟩
  rintro kb a0 a1 a2 a3 _ h ⟨i, rfl, h1, h2, hJ⟩ hk
  by_cases hi : i < n
  · refine hs kb i a0 a1 a2 a3 h h1 hi hJ (fun b0 b1 b2 b3 g hg => hk b0 b1 b2 b3 _ g ⟨i + 1, rfl, by omega, by omega, hg⟩ ?_)
    rw [z_ti (by omega) (by omega), z_ti (by omega) (by omega)]
    omega
  · have e : i = n := by omega
    subst e
    exact he kb a0 a1 a2 a3 h hJ
