/-! ===== Int32 by its bits: bt x i ===== -/
def bt (x : Int32) (i : Nat) : Bool := x.toBitVec.getLsbD i
theorem b_ext {x y : Int32} (h : ∀ i, i < 32 → bt x i = bt y i) : x = y := Int32.toBitVec_inj.mp (BitVec.eq_of_getLsbD_eq (fun i hi => h i hi))
theorem b_or (x y : Int32) (i : Nat) : bt (x ||| y) i = (bt x i || bt y i) := by unfold bt; rw [Int32.toBitVec_or, BitVec.getLsbD_or]
theorem b_and (x y : Int32) (i : Nat) : bt (x &&& y) i = (bt x i && bt y i) := by unfold bt; rw [Int32.toBitVec_and, BitVec.getLsbD_and]
theorem b_xor (x y : Int32) (i : Nat) : bt (x ^^^ y) i = (bt x i ^^ bt y i) := by unfold bt; rw [Int32.toBitVec_xor, BitVec.getLsbD_xor]
theorem b_big {x : Int32} {i : Nat} (h : 32 ≤ i) : bt x i = false := BitVec.getLsbD_of_ge _ _ h
theorem b_255 (i : Nat) : bt 255 i = decide (i < 8) := by
  rcases Nat.lt_or_ge i 32 with h | h
  · exact (by decide +kernel : ∀ i, i < 32 → bt 255 i = decide (i < 8)) i h
  · rw [b_big h, decide_eq_false (by omega)]
theorem b_65535 (i : Nat) : bt 65535 i = decide (i < 16) := by
  rcases Nat.lt_or_ge i 32 with h | h
  · exact (by decide +kernel : ∀ i, i < 32 → bt 65535 i = decide (i < 16)) i h
  · rw [b_big h, decide_eq_false (by omega)]
theorem b_m1 : ∀ i, i < 32 → bt (-1) i = true := by decide +kernel
theorem b_0 (i : Nat) : bt 0 i = false := BitVec.getLsbD_zero
theorem s_l : ∀ n, n < 32 → ((nI n &&& 31).toBitVec.smod 32).toNat = n := by decide +kernel
theorem s_u : ∀ n, n < 32 → (((nI n).toUInt32 &&& Int32.toUInt32 31).toBitVec % 32).toNat = n := by decide +kernel
theorem b_shl (n : Nat) (hn : n < 32) (x : Int32) {i : Nat} (hi : i < 32) : bt (x <<< (nI n &&& 31)) i = (decide (n ≤ i) && bt x (i - n)) := by
  unfold bt
  rw [Int32.toBitVec_shiftLeft]
  show (x.toBitVec <<< ((nI n &&& 31).toBitVec.smod 32).toNat).getLsbD i = _
  rw [s_l n hn, BitVec.getLsbD_shiftLeft]
  rcases Nat.lt_or_ge i n with h | h
  · simp [h, Nat.not_le.mpr h]
  · simp [hi, h, Nat.not_lt.mpr h]
theorem b_ushr (n : Nat) (hn : n < 32) (x : Int32) (i : Nat) : bt ((x.toUInt32 >>> ((nI n).toUInt32 &&& Int32.toUInt32 31)).toInt32) i = bt x (n + i) := by
  show (x.toUInt32 >>> ((nI n).toUInt32 &&& Int32.toUInt32 31)).toBitVec.getLsbD i = x.toUInt32.toBitVec.getLsbD (n + i)
  rw [UInt32.toBitVec_shiftRight]
  show (x.toUInt32.toBitVec >>> (((nI n).toUInt32 &&& Int32.toUInt32 31).toBitVec % 32).toNat).getLsbD i = _
  rw [s_u n hn, BitVec.getLsbD_ushiftRight]
theorem b_sshr (n : Nat) (hn : n < 32) (x : Int32) {i : Nat} (hi : i < 32) : bt (x >>> (nI n &&& 31)) i = if n + i < 32 then bt x (n + i) else bt x 31 := by
  unfold bt
  rw [Int32.toBitVec_shiftRight]
  show (x.toBitVec.sshiftRight ((nI n &&& 31).toBitVec.smod 32).toNat).getLsbD i = _
  rw [s_l n hn, BitVec.getLsbD_sshiftRight, BitVec.msb_eq_getLsbD_last]
  simp [hi]
theorem b_shl8 (x : Int32) {i : Nat} (hi : i < 32) : bt (x <<< ((8 : Int32) &&& 31)) i = (decide (8 ≤ i) && bt x (i - 8)) := b_shl 8 (by omega) x hi
theorem b_shl16 (x : Int32) {i : Nat} (hi : i < 32) : bt (x <<< ((16 : Int32) &&& 31)) i = (decide (16 ≤ i) && bt x (i - 16)) := b_shl 16 (by omega) x hi
theorem b_shl24 (x : Int32) {i : Nat} (hi : i < 32) : bt (x <<< ((24 : Int32) &&& 31)) i = (decide (24 ≤ i) && bt x (i - 24)) := b_shl 24 (by omega) x hi
theorem b_sshr8 (x : Int32) {i : Nat} (hi : i < 32) : bt (x >>> ((8 : Int32) &&& 31)) i = if 8 + i < 32 then bt x (8 + i) else bt x 31 := b_sshr 8 (by omega) x hi
/-! ===== nI under and, xor, >>>, one bit, 65535 ===== -/
theorem iN_7 : iN 7 = 7 := rfl
theorem iN_6 : iN 6 = 6 := rfl
theorem iN_8 : iN 8 = 8 := rfl
theorem z_nI (n : Nat) : z (n : Int) = nI n := Int32.ofInt_eq_ofNat
theorem z_nI' {l : Int} (h : 0 ≤ l) : z l = nI l.toNat := by rw [← z_nI, Int.toNat_of_nonneg h]
theorem bt_1 : ∀ i, i < 32 → bt 1 i = decide (i = 0) := by decide +kernel
theorem bitI {x : Int32} {l : Int} (h0 : 0 ≤ l) (h1 : l < 32) : (x >>> (z l &&& 31)) &&& 1 = z (if bt x l.toNat = true then 1 else 0) := by
  rw [z_nI' h0]
  have hl : l.toNat < 32 := by omega
  apply b_ext
  intro i hi
  rw [b_and, b_sshr _ hl _ hi, bt_1 i hi]
  by_cases e : i = 0
  · subst e
    rw [if_pos (by omega), Nat.add_zero]
    cases bt x l.toNat <;> rfl
  · have : decide (i = 0) = false := by simpa using e
    rw [this, Bool.and_false]
    split
    · exact (show bt 1 i = decide (i = 0) from bt_1 i hi).trans this |>.symm
    · exact (b_0 i).symm
theorem shl1 {l : Int} (h0 : 0 ≤ l) (h1 : l < 32) {i : Nat} (hi : i < 32) : bt ((1 : Int32) <<< (z l &&& 31)) i = decide (i = l.toNat) := by
  rw [z_nI' h0, b_shl _ (by omega) _ hi]
  by_cases e : i = l.toNat
  · subst e
    rw [Nat.sub_self]
    simp
    decide
  · by_cases e2 : l.toNat ≤ i
    · rw [bt_1 _ (by omega)]
      have e3 : ¬ (i - l.toNat = 0) := by omega
      simp [e3, e]
    · simp [e2, e]
theorem bt_on {x : Int32} {l : Int} (h0 : 0 ≤ l) (h1 : l < 32) {i : Nat} (hi : i < 32) : bt (x ||| ((1 : Int32) <<< (z l &&& 31))) i = (bt x i || decide (i = l.toNat)) := by rw [b_or, shl1 h0 h1 hi]
theorem bt_flip {x : Int32} {l : Int} (h0 : 0 ≤ l) (h1 : l < 32) {i : Nat} (hi : i < 32) : bt (x ^^^ ((1 : Int32) <<< (z l &&& 31))) i = (bt x i ^^ decide (i = l.toNat)) := by rw [b_xor, shl1 h0 h1 hi]
/-! ===== the reference's world ===== -/
def MT (h : PH) (a : Wd) : Prop :=
  (gI h 2 0 = z (a.n 0) ∧ gI h 2 1 = z (a.n 1) ∧ gI h 2 2 = z (a.n 2) ∧ gI h 2 4 = z (a.n 4) ∧ gI h 2 5 = z (a.n 5) ∧ gI h 2 6 = z (a.n 6) ∧ gI h 2 7 = z (a.f 7 0 0) ∧ gI h 2 8 = z (a.f 7 1 0)) ∧
  (∀ k : Int, 0 ≤ k → k < a.n 0 → gI h 3 k.toNat = z (a.f 0 0 k) ∧ gI h 27 k.toNat = z (a.f 0 1 k)) ∧
  (∀ k : Int, 0 ≤ k → k < a.n 1 → gI h 4 k.toNat = z (a.f 1 0 k) ∧ gI h 5 k.toNat = z (a.f 1 1 k) ∧ gI h 6 k.toNat = z (a.f 1 2 k)) ∧
  (∀ k : Int, 0 ≤ k → k < a.n 2 → gI h 7 k.toNat = z (a.f 2 0 k) ∧ gI h 9 k.toNat = z (a.f 2 2 k + 1)) ∧
  (∀ k : Int, 0 ≤ k → k < a.n 4 → gI h 16 k.toNat = z (a.f 4 1 k) ∧ gI h 17 k.toNat = z (a.f 4 2 k) ∧ gI h 18 k.toNat = z (a.f 4 3 k)) ∧
  (∀ k : Int, 0 ≤ k → k < a.n 5 → gI h 19 k.toNat = z (a.f 5 0 k) ∧ gI h 20 k.toNat = z (a.f 5 1 k) ∧ gI h 21 k.toNat = z (a.f 5 2 k) ∧ gI h 22 k.toNat = z (a.f 5 3 k)) ∧
  (∀ k : Int, 0 ≤ k → k < a.n 6 → gI h 23 k.toNat = z (a.f 6 0 k) ∧ gI h 24 k.toNat = z (a.f 6 1 k) ∧ gI h 25 k.toNat = z (a.f 6 2 k) ∧ gI h 26 k.toNat = z (a.f 6 3 k)) ∧
  (∃ fr, KM h 0 fr a.fd) ∧ (∃ fr, KM h 1 fr a.wo) ∧ gI h 2 10 = z (a.fd.length + a.wo.length)
theorem KM.at' {h g : PH} {i : Nat} {fr : Int} {ks : List Int} (K : KM h i fr ks) (e : ∀ c k, 28 ≤ c → c < 32 → At h g c k) : KM g i fr ks := by
  obtain ⟨k1, k2, k3, k4, k5⟩ := K
  exact ⟨by rw [(e 28 _ (by omega) (by omega)).1]; exact k1, by rw [(e 29 _ (by omega) (by omega)).1]; exact k2, k3, k4, fun j hj => ⟨by rw [(e 30 _ (by omega) (by omega)).1]; exact (k5 j hj).1, by rw [(e 31 _ (by omega) (by omega)).1]; exact (k5 j hj).2⟩⟩
theorem MT.at' {h g : PH} {a : Wd} (M : MT h a) (e : ∀ c k, 2 ≤ c → c < 32 → At h g c k) : MT g a := by
  have E : ∀ c k, 2 ≤ c → c < 32 → gI g c k = gI h c k := fun c k a b => (e c k a b).1
  obtain ⟨⟨a0, a1, a2, a3, a4, a5, a6, a7⟩, m0, m1, m2, m4, m5, m6, ⟨f1, K1⟩, ⟨f2, K2⟩, kk⟩ := M
  refine ⟨⟨?_, ?_, ?_, ?_, ?_, ?_, ?_, ?_⟩, fun k b1 b2 => ?_, fun k b1 b2 => ?_, fun k b1 b2 => ?_, fun k b1 b2 => ?_, fun k b1 b2 => ?_, fun k b1 b2 => ?_, ⟨f1, K1.at' (fun c k b1 b2 => e c k (by omega) b2)⟩, ⟨f2, K2.at' (fun c k b1 b2 => e c k (by omega) b2)⟩, ?_⟩
  all_goals repeat rw [E _ _ (by omega) (by omega)]
  all_goals first | assumption | exact m0 k b1 b2 | exact m1 k b1 b2 | exact m2 k b1 b2 | exact m4 k b1 b2 | exact m5 k b1 b2 | exact m6 k b1 b2
def WB (x : Int32) (a : Wd) : Prop := ∀ l : Int, 0 ≤ l → l < a.n 1 → z (a.f 1 3 l) = z (if bt x l.toNat = true then 1 else 0)
def FM (h : PH) (F : Int → Int → Int) : Prop := ∀ p q : Int, 0 ≤ p → p < 6 → 0 ≤ q → q < 6 → gI h 50 (6 * p + q).toNat = z (F p q)
theorem m_far {a : Wd} {g : Int} {x1 x2 : Int32} {h : PH} {Q : PH → Prop} (M : MT h a) (O : OkL a) (B : WB x1 a) (hx : x2 = z g) (hg : -1 ≤ g ∧ g ≤ 100) (hq : ∀ f, (∀ c k, ¬ (c = 50) → At h f c k) → FM f (far a g) → Q f) : w_X10_layFar x1 x2 h Q := by
  subst hx
  have O1 := O.1
  have O2 := O.2.1
  have O3 := O.2.2.1
  have hw : ∀ f, (∀ c k, ¬ (c = 50) → At h f c k) → MT f a := fun f hf => M.at' (fun c k b1 b2 => hf c k (by omega))
  unfold w_X10_layFar
  refine for10 36 (fun i f => (∀ c k, ¬ (c = 50) → At h f c k) ∧ ∀ p q : Int, 0 ≤ p → p < 6 → 0 ≤ q → q < 6 → 6 * p + q < i → gI f 50 (6 * p + q).toNat = z (ini a g 0 p q)) 0 rfl (by omega) (by omega) (by omega) ⟨fun c k _ => At.rf h c k, fun p q b1 b2 b3 b4 b5 => by omega⟩ ?_ ?_
  · rintro kb i f h0 h1 ⟨hf, hJ⟩ hk
    unfold w_X10_layFar_2
    rw [zn_36, zn_7, if_neg (by rw [z_le (by omega) (by omega) (by omega) (by omega)]; omega), z_div (by omega) (by omega) (by omega) (by omega), z_mul, z_sub, z_iN (by omega) (by omega), zn_1, z_add]
    have fin : ∀ v : Int32, v = z (if i - i / 7 * 7 = 0 then 0 else 100000) → kb (z (i + 1)) (sI f 50 i.toNat v) := by
      intro v hv
      refine hk _ ⟨fun c k hc => (hf c k hc).sI (by omega), fun p q b1 b2 b3 b4 b5 => ?_⟩
      by_cases e : 6 * p + q = i
      · rw [gI_in rfl (by omega), hv]
        show _ = z (if p = q then 0 else 100000)
        congr 1
        by_cases e1 : p = q
        · rw [if_pos e1, if_pos (by omega)]
        · rw [if_neg e1, if_neg (by omega)]
      · rw [gI_out (by omega)]; exact hJ p q b1 b2 b3 b4 (by omega)
    by_cases e : i - i / 7 * 7 = 0
    · rw [if_pos (by rw [zn_0]; exact congrArg z e)]
      refine ⟨z_in (by omega) (by omega) (by omega), ?_⟩
      rintro _ rfl
      exact fin 0 (by rw [if_pos e]; rfl)
    · rw [if_neg (by rw [zn_0]; exact z_ne (by omega) (by omega) (by omega) (by omega) e)]
      refine ⟨z_in (by omega) (by omega) (by omega), ?_⟩
      rintro _ rfl
      exact fin 100000 (by rw [if_neg e]; rfl)
  · rintro kb f ⟨hf, hJ⟩
    unfold w_X10_layFar_2
    rw [if_pos (by rw [zn_36, z_le (by omega) (by omega) (by omega) (by omega)]; omega)]
    refine for10 (a.n 1) (fun i f => (∀ c k, ¬ (c = 50) → At h f c k) ∧ ∀ p q : Int, 0 ≤ p → p < 6 → 0 ≤ q → q < 6 → gI f 50 (6 * p + q).toNat = z (ini a g i.toNat p q)) 0 rfl (by omega) (by omega) (by omega) ⟨hf, fun p q b1 b2 b3 b4 => hJ p q b1 b2 b3 b4 (by omega)⟩ ?_ ?_
    · clear hJ hf f kb
      rintro kb i f h0 h1 ⟨hf, hJ⟩ hk
      have W := hw f hf
      obtain ⟨q1, q2, q3, q4, q5⟩ := O.2.2.2.1 i h0 h1
      have ln := O.len h0 h1
      obtain ⟨l1, l2, l3⟩ := W.2.2.1 i h0 h1
      unfold w_X10_layFar_36
      rw [iN_1, W.1.2.1, if_neg (by rw [z_le (by omega) (by omega) (by omega) (by omega)]; omega)]
      have ei : ∀ p q, ini a g (i + 1).toNat p q = if i ≠ g ∧ ((p = a.f 1 0 i ∧ q = a.f 1 1 i) ∨ (p = a.f 1 1 i ∧ q = a.f 1 0 i)) then a.f 1 2 i + a.f 1 3 i * a.f 7 0 0 else ini a g i.toNat p q := by
        intro p q
        rw [show (i + 1).toNat = i.toNat + 1 by omega]
        show (if ((i.toNat : Nat) : Int) ≠ g ∧ _ then _ else _) = _
        rw [show ((i.toNat : Nat) : Int) = i by omega]
      by_cases e : i = g
      · rw [if_pos (by rw [e]), zn_1, z_add]
        refine hk _ ⟨hf, fun p q b1 b2 b3 b4 => ?_⟩
        rw [ei, if_neg (by omega)]
        exact hJ p q b1 b2 b3 b4
      · rw [if_neg (z_ne (by omega) (by omega) (by omega) (by omega) e)]
        refine ⟨z_in (by omega) (by omega) (by omega), ?_⟩
        have hno := ini_no g O h0 h1 i.toNat (by omega)
        have run : ∀ s1 : Int, s1 = a.f 1 3 i * a.f 7 0 0 → w_X10_layFar_80 Q kb x1 (z g) (z i) (gI f 6 (iN (z i))) (z s1) f := by
          intro s1 hs
          unfold w_X10_layFar_80
          rw [z_iN (by omega) (by omega), l1, l2, l3]
          rintro _ rfl
          refine ⟨z_in (by omega) (by omega) (by omega), z_in (by omega) (by omega) (by omega), ?_⟩
          rintro _ rfl
          refine ⟨z_in (by omega) (by omega) (by omega), z_in (by omega) (by omega) (by omega), ?_⟩
          rintro _ rfl
          rw [z_add, zn_6, z_mul, z_add, z_mul, z_add, z_iN (by omega) (by omega), z_iN (by omega) (by omega), zn_1, z_add]
          refine ⟨z_in (by omega) (by omega) (by omega), z_in (by omega) (by omega) (by omega), ?_⟩
          rintro _ rfl
          rw [gI_out (by omega), hJ _ _ q1.1 (by omega) q2.1 (by omega), hJ _ _ q2.1 (by omega) q1.1 (by omega), hno.1, hno.2, z_mnI (by omega) (by omega) (by omega) (by omega), show min 100000 (a.f 1 2 i + s1) = a.f 1 2 i + s1 by omega]
          refine ⟨z_in (by omega) (by omega) (by omega), z_in (by omega) (by omega) (by omega), ?_⟩
          rintro _ rfl
          refine hk _ ⟨fun c k hc => ((hf c k hc).sI (by omega)).sI (by omega), fun p q b1 b2 b3 b4 => ?_⟩
          rw [ei]
          by_cases c2 : 6 * p + q = 6 * a.f 1 1 i + a.f 1 0 i
          · rw [gI_in rfl (by omega), if_pos (by omega), hs]
          · rw [gI_out (by omega)]
            by_cases c1 : 6 * p + q = 6 * a.f 1 0 i + a.f 1 1 i
            · rw [gI_in rfl (by omega), if_pos (by omega), hs]
            · rw [gI_out (by omega), if_neg (by omega)]
              exact hJ p q b1 b2 b3 b4
        rw [bitI h0 (by omega), ← B i h0 h1, iN_7, W.1.2.2.2.2.2.2.1]
        rcases q5 with e5 | e5
        · rw [e5, if_neg (by decide)]
          exact run 0 (by rw [e5]; omega)
        · rw [e5, if_pos (show z 1 = 1 from rfl)]
          exact run (a.f 7 0 0) (by rw [e5]; omega)
    · clear hJ hf f kb
      rintro kb f ⟨hf, hJ⟩
      have W := hw f hf
      unfold w_X10_layFar_36
      rw [iN_1, W.1.2.1, if_pos (by rw [z_le (by omega) (by omega) (by omega) (by omega)]; omega)]
      have hgd := (ini_gd g O (a.n 1).toNat (by omega)).1
      have hfa : far a g = fwN (ini a g (a.n 1).toNat) ((a.n 0).toNat + (6 - a.n 0).toNat) := (fwN_off O1.1 hgd _).symm
      rw [show (a.n 0).toNat + (6 - a.n 0).toNat = 6 by omega] at hfa
      generalize ini a g (a.n 1).toNat = E at hJ hgd hfa
      refine for10 6 (fun m f => (∀ c k, ¬ (c = 50) → At h f c k) ∧ ∀ p q : Int, 0 ≤ p → p < 6 → 0 ≤ q → q < 6 → gI f 50 (6 * p + q).toNat = z (fwN E m.toNat p q)) 0 rfl (by omega) (by omega) (by omega) ⟨hf, hJ⟩ ?_ ?_
      · clear hJ hf W f kb
        rintro kb m f m0 m1 ⟨hf, hJ⟩ hk
        unfold w_X10_layFar_165
        rw [zn_6, if_neg (by rw [z_le (by omega) (by omega) (by omega) (by omega)]; omega)]
        have G := fwN_gd hgd m.toNat
        have eE : fwN E (m + 1).toNat = par m (fwN E m.toNat) := by
          rw [show (m + 1).toNat = m.toNat + 1 by omega]
          show par ((m.toNat : Nat) : Int) _ = _
          rw [show ((m.toNat : Nat) : Int) = m by omega]
        rw [zn_1, z_add]
        have hk' : ∀ g', (∀ c k, ¬ (c = 50) → At h g' c k) → (∀ p q : Int, 0 ≤ p → p < 6 → 0 ≤ q → q < 6 → gI g' 50 (6 * p + q).toNat = z (par m (fwN E m.toNat) p q)) → kb (z (m + 1)) g' := fun g' a1 a2 => hk _ ⟨a1, by rw [eE]; exact a2⟩
        clear hk eE hfa
        generalize fwN E m.toNat = D at *
        obtain ⟨G1, G2, G3, G4⟩ := G
        have Gm : ∀ p, par m D p m = D p m := fun p => by have := G1 m; have := G3 p m; unfold par; omega
        have Gn : ∀ q, par m D m q = D m q := fun p => by have := G1 m; have := G3 m p; unfold par; omega
        refine for10 6 (fun i f => (∀ c k, ¬ (c = 50) → At h f c k) ∧ ∀ p q : Int, 0 ≤ p → p < 6 → 0 ≤ q → q < 6 → gI f 50 (6 * p + q).toNat = z (if p < i then par m D p q else D p q)) 0 rfl (by omega) (by omega) (by omega) ⟨hf, fun p q b1 b2 b3 b4 => by rw [if_neg (by omega)]; exact hJ p q b1 b2 b3 b4⟩ ?_ ?_
        · clear hJ hf f
          rintro kb2 i f i0 i1 ⟨hf, hJ⟩ hk2
          unfold w_X10_layFar_174
          rw [zn_6, if_neg (by rw [z_le (by omega) (by omega) (by omega) (by omega)]; omega), zn_1, z_add]
          refine for10 6 (fun j f => (∀ c k, ¬ (c = 50) → At h f c k) ∧ ∀ p q : Int, 0 ≤ p → p < 6 → 0 ≤ q → q < 6 → gI f 50 (6 * p + q).toNat = z (if p < i ∨ (p = i ∧ q < j) then par m D p q else D p q)) 0 rfl (by omega) (by omega) (by omega) ⟨hf, fun p q b1 b2 b3 b4 => by rw [hJ p q b1 b2 b3 b4]; congr 1; split <;> (first | rw [if_pos (by omega)] | rw [if_neg (by omega)])⟩ ?_ ?_
          · clear hJ hf f
            rintro kb3 j f j0 j1 ⟨hf, hJ⟩ hk3
            unfold w_X10_layFar_184
            rw [zn_6, if_neg (by rw [z_le (by omega) (by omega) (by omega) (by omega)]; omega)]
            simp only [zn_1, z_mul, z_add]
            rw [z_iN (by omega) (by omega), z_iN (by omega) (by omega), z_iN (by omega) (by omega)]
            refine ⟨z_in (by omega) (by omega) (by omega), z_in (by omega) (by omega) (by omega), z_in (by omega) (by omega) (by omega), z_in (by omega) (by omega) (by omega), ?_⟩
            have e1 : gI f 50 (6 * i + m).toNat = z (D i m) := by rw [hJ i m i0 (by omega) m0 (by omega)]; congr 1; split; exact Gm i; rfl
            have e2 : gI f 50 (6 * m + j).toNat = z (D m j) := by rw [hJ m j m0 (by omega) j0 (by omega)]; congr 1; split; exact Gn j; rfl
            have e3 : gI f 50 (6 * i + j).toNat = z (D i j) := by rw [hJ i j i0 (by omega) j0 (by omega)]; congr 1; rw [if_neg (by omega)]
            have s1 := G3 i m
            have s2 := G3 m j
            have s3 := G3 i j
            rw [e1, e2, e3, z_add, z_mnI (by omega) (by omega) (by omega) (by omega)]
            rintro _ rfl
            refine hk3 _ ⟨fun c k hc => (hf c k hc).sI (by omega), fun p q b1 b2 b3 b4 => ?_⟩
            by_cases c : 6 * p + q = 6 * i + j
            · rw [gI_in rfl (by omega)]
              have cp : p = i := by omega
              have cq : q = j := by omega
              subst cp cq
              rw [if_pos (by omega)]; rfl
            · rw [gI_out (by omega), hJ p q b1 b2 b3 b4]
              congr 1
              by_cases c2 : p < i ∨ (p = i ∧ q < j)
              · rw [if_pos c2, if_pos (by omega)]
              · rw [if_neg c2, if_neg (by omega)]
          · clear hJ hf f
            rintro kb3 f ⟨hf, hJ⟩
            unfold w_X10_layFar_184
            rw [zn_6, if_pos (by rw [z_le (by omega) (by omega) (by omega) (by omega)]; omega)]
            refine hk2 _ ⟨hf, fun p q b1 b2 b3 b4 => ?_⟩
            rw [hJ p q b1 b2 b3 b4]
            congr 1
            by_cases c2 : p < i ∨ (p = i ∧ q < 6)
            · rw [if_pos c2, if_pos (by omega)]
            · rw [if_neg c2, if_neg (by omega)]
        · clear hJ hf f
          rintro kb2 f ⟨hf, hJ⟩
          unfold w_X10_layFar_174
          rw [zn_6, if_pos (by rw [z_le (by omega) (by omega) (by omega) (by omega)]; omega)]
          refine hk' f hf (fun p q b1 b2 b3 b4 => ?_)
          rw [hJ p q b1 b2 b3 b4, if_pos b2]
      · clear hJ hf W f kb
        rintro kb f ⟨hf, hJ⟩
        unfold w_X10_layFar_165
        rw [zn_6, if_pos (by rw [z_le (by omega) (by omega) (by omega) (by omega)]; omega)]
        exact hq f hf (by rw [hfa]; exact hJ)
