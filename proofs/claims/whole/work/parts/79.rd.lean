/-! ===== days kept by the reference ===== -/
/-- the cells of a kept day -/
def dyC (d : Int) (c k : Nat) : Prop := ((c = 34 ∨ c = 40 ∨ c = 42 ∨ c = 44) ∧ k = d.toNat) ∨ (35 ≤ c ∧ c ≤ 39 ∧ (12 * d).toNat ≤ k ∧ k < (12 * d + 12).toNat) ∨ (c = 41 ∧ (8 * d).toNat ≤ k ∧ k < (8 * d + 8).toNat) ∨ (c = 43 ∧ (4 * d).toNat ≤ k ∧ k < (4 * d + 4).toNat)
def OkD (b : Wd) : Prop := (0 ≤ b.n 3 ∧ b.n 3 ≤ 12) ∧ b.n 4 ≤ 8 ∧ b.n 2 ≤ 4
theorem Now.okd {a : Wd} (N : Now a) : OkD a := ⟨⟨N.2.1.1.1, N.2.2.2.2.2.2.1⟩, N.2.2.2.2.2.2.2.2.1, N.2.2.2.2.2.2.2.2.2.2.1.2⟩
theorem MD.of {h g : PH} {d : Int} {b : Wd} (D : MD h d b) (O : OkD b) (d0 : 0 ≤ d) (e : ∀ c k, dyC d c k → gI g c k = gI h c k) : MD g d b := by
  obtain ⟨n1, n2, n3, n4, n5, n6, n7⟩ := D
  have O1 := O.1
  have O2 := O.2
  refine ⟨?_, fun n b1 b2 => ?_, fun n b1 b2 => ?_, fun n b1 b2 => ?_, fun n b1 b2 => ?_, fun n b1 b2 => ?_, ?_⟩
  · rw [e _ _ (by unfold dyC; omega)]; exact n1
  · rw [e 35 _ (by unfold dyC; omega), e 36 _ (by unfold dyC; omega), e 37 _ (by unfold dyC; omega), e 38 _ (by unfold dyC; omega), e 39 _ (by unfold dyC; omega)]; exact n2 n b1 b2
  · rw [e 40 _ (by unfold dyC; omega)]; exact n3 n b1 b2
  · rw [e 41 _ (by unfold dyC; omega)]; exact n4 n b1 b2
  · rw [e 42 _ (by unfold dyC; omega)]; exact n5 n b1 b2
  · rw [e 43 _ (by unfold dyC; omega)]; exact n6 n b1 b2
  · rw [e 44 _ (by unfold dyC; omega)]; exact n7
theorem MD.off {h g : PH} {d t : Int} {b : Wd} (D : MD h d b) (O : OkD b) (d0 : 0 ≤ d) (t0 : 0 ≤ t) (hne : d ≠ t) (e : ∀ c k, ¬ dyC t c k → At h g c k) : MD g d b := D.of O d0 (fun c k hc => (e c k (by unfold dyC at hc ⊢; omega)).1)
/-- a kept day moved -/
theorem MD.mv {h g : PH} {d t : Int} {b : Wd} (D : MD h d b) (O : OkD b) (d0 : 0 ≤ d) (t0 : 0 ≤ t) (e1 : ∀ c, (c = 34 ∨ c = 40 ∨ c = 42 ∨ c = 44) → gI g c t.toNat = gI h c d.toNat) (e2 : ∀ c (n : Int), 35 ≤ c → c ≤ 39 → 0 ≤ n → n < b.n 3 → gI g c (12 * t + n).toNat = gI h c (12 * d + n).toNat) (e3 : ∀ n : Int, 0 ≤ n → n < 8 → gI g 41 (8 * t + n).toNat = gI h 41 (8 * d + n).toNat) (e4 : ∀ n : Int, 0 ≤ n → n < 4 → gI g 43 (4 * t + n).toNat = gI h 43 (4 * d + n).toNat) : MD g t b := by
  obtain ⟨n1, n2, n3, n4, n5, n6, n7⟩ := D
  have O1 := O.1
  have O2 := O.2
  refine ⟨?_, fun n b1 b2 => ?_, fun n b1 b2 => ?_, fun n b1 b2 => ?_, fun n b1 b2 => ?_, fun n b1 b2 => ?_, ?_⟩
  · rw [e1 34 (by omega)]; exact n1
  · rw [e2 35 n (by omega) (by omega) b1 b2, e2 36 n (by omega) (by omega) b1 b2, e2 37 n (by omega) (by omega) b1 b2, e2 38 n (by omega) (by omega) b1 b2, e2 39 n (by omega) (by omega) b1 b2]; exact n2 n b1 b2
  · rw [e1 40 (by omega)]; exact n3 n b1 b2
  · rw [e3 n b1 (by omega)]; exact n4 n b1 b2
  · rw [e1 42 (by omega)]; exact n5 n b1 b2
  · rw [e4 n b1 (by omega)]; exact n6 n b1 b2
  · rw [e1 44 (by omega)]; exact n7
theorem m_copies {h : PH} {t d : Int} {x1 x2 : Int32} {b : Wd} {Q : PH → Prop} (D : MD h d b) (O : OkD b) (hx1 : x1 = z t) (hx2 : x2 = z d) (d0 : 0 ≤ d ∧ d < 22) (t0 : 0 ≤ t ∧ t < 22) (hne : d ≠ t) (hq : ∀ g, (∀ c k, ¬ dyC t c k → At h g c k) → MD g t b → Q g) : w_X10_copies x1 x2 h Q := by
  subst hx1 hx2
  have O1 := O.1
  have O2 := O.2
  unfold w_X10_copies
  refine ⟨z_in (by omega) (by omega) (by omega), z_in (by omega) (by omega) (by omega), ?_⟩
  rintro _ rfl
  rw [z_iN (a := t) (by omega) (by omega), z_iN (a := d) (by omega) (by omega)]
  have D1 : gI h 34 d.toNat = z (b.n 3) := D.1
  refine for10 (b.n 3) (fun i g => (∀ c k, ¬ dyC t c k → At h g c k) ∧ gI g 34 t.toNat = gI h 34 d.toNat ∧ ∀ c (n : Int), 35 ≤ c → c ≤ 39 → 0 ≤ n → n < i → gI g c (12 * t + n).toNat = gI h c (12 * d + n).toNat) 0 rfl (by omega) (by omega) (by omega) ⟨fun c k hc => (At.rf h c k).sI (by unfold dyC at hc; omega), gI_in rfl rfl, fun c n _ _ n0 n1 => by omega⟩ ?_ ?_
  · rintro kb i g i0 i1 ⟨hf, g34, hJ⟩ hk
    unfold w_X10_copies_14
    have gd : gI g 34 d.toNat = z (b.n 3) := by rw [(hf 34 d.toNat (by unfold dyC; omega)).1]; exact D1
    refine ⟨z_in (by omega) (by omega) (by omega), ?_⟩
    rw [z_iN (a := d) (by omega) (by omega), gd, if_neg (by rw [z_le (by omega) (by omega) (by omega) (by omega)]; omega), zn_12, z_mul, z_mul, z_add, z_add, z_iN (a := 12 * t + i) (by omega) (by omega), z_iN (a := 12 * d + i) (by omega) (by omega), z_inc]
    refine ⟨z_in (by omega) (by omega) (by omega), z_in (by omega) (by omega) (by omega), ?_⟩
    rintro _ rfl
    refine ⟨z_in (by omega) (by omega) (by omega), z_in (by omega) (by omega) (by omega), ?_⟩
    rintro _ rfl
    refine ⟨z_in (by omega) (by omega) (by omega), z_in (by omega) (by omega) (by omega), ?_⟩
    rintro _ rfl
    refine ⟨z_in (by omega) (by omega) (by omega), z_in (by omega) (by omega) (by omega), ?_⟩
    rintro _ rfl
    refine ⟨z_in (by omega) (by omega) (by omega), z_in (by omega) (by omega) (by omega), ?_⟩
    rintro _ rfl
    refine hk _ ⟨fun c k hc => (((((hf c k hc).sI (by unfold dyC at hc; omega)).sI (by unfold dyC at hc; omega)).sI (by unfold dyC at hc; omega)).sI (by unfold dyC at hc; omega)).sI (by unfold dyC at hc; omega), ?_, fun c n c1 c2 n0 n1 => ?_⟩
    · rw [gI_out (by omega), gI_out (by omega), gI_out (by omega), gI_out (by omega), gI_out (by omega)]; exact g34
    · have src : ∀ c, 35 ≤ c → c ≤ 39 → gI g c (12 * d + i).toNat = gI h c (12 * d + i).toNat := fun c q1 q2 => (hf c _ (by unfold dyC; omega)).1
      by_cases e : n = i
      · subst e
        have hc : c = 35 ∨ c = 36 ∨ c = 37 ∨ c = 38 ∨ c = 39 := by omega
        rcases hc with rfl | rfl | rfl | rfl | rfl
        · rw [gI_out (by omega), gI_out (by omega), gI_out (by omega), gI_out (by omega), gI_in rfl rfl]; exact src 35 (by omega) (by omega)
        · rw [gI_out (by omega), gI_out (by omega), gI_out (by omega), gI_in rfl rfl, gI_out (by omega)]; exact src 36 (by omega) (by omega)
        · rw [gI_out (by omega), gI_out (by omega), gI_in rfl rfl, gI_out (by omega), gI_out (by omega)]; exact src 37 (by omega) (by omega)
        · rw [gI_out (by omega), gI_in rfl rfl, gI_out (by omega), gI_out (by omega), gI_out (by omega)]; exact src 38 (by omega) (by omega)
        · rw [gI_in rfl rfl, gI_out (by omega), gI_out (by omega), gI_out (by omega), gI_out (by omega)]; exact src 39 (by omega) (by omega)
      · rw [gI_out (by omega), gI_out (by omega), gI_out (by omega), gI_out (by omega), gI_out (by omega)]
        exact hJ c n c1 c2 n0 (by omega)
  · rintro kb g ⟨hf, g34, hJ⟩
    unfold w_X10_copies_14
    have gd : gI g 34 d.toNat = z (b.n 3) := by rw [(hf 34 d.toNat (by unfold dyC; omega)).1]; exact D1
    refine ⟨z_in (by omega) (by omega) (by omega), ?_⟩
    rw [z_iN (a := d) (by omega) (by omega), gd, if_pos (by rw [z_le (by omega) (by omega) (by omega) (by omega)]; omega)]
    refine ⟨z_in (by omega) (by omega) (by omega), z_in (by omega) (by omega) (by omega), ?_⟩
    rintro _ rfl
    have s40 : gI g 40 d.toNat = gI h 40 d.toNat := (hf 40 _ (by unfold dyC; omega)).1
    rw [s40]
    refine for10 8 (fun i g' => (∀ c k, ¬ dyC t c k → At h g' c k) ∧ (gI g' 34 t.toNat = gI h 34 d.toNat ∧ gI g' 40 t.toNat = gI h 40 d.toNat ∧ ∀ c (n : Int), 35 ≤ c → c ≤ 39 → 0 ≤ n → n < b.n 3 → gI g' c (12 * t + n).toNat = gI h c (12 * d + n).toNat) ∧ ∀ n : Int, 0 ≤ n → n < i → gI g' 41 (8 * t + n).toNat = gI h 41 (8 * d + n).toNat) 0 rfl (by omega) (by omega) (by omega) ⟨fun c k hc => (hf c k hc).sI (by unfold dyC at hc; omega), ⟨by rw [gI_out (by omega)]; exact g34, gI_in rfl rfl, fun c n c1 c2 n0 n1 => by rw [gI_out (by omega)]; exact hJ c n c1 c2 n0 n1⟩, fun n n0 n1 => by omega⟩ ?_ ?_
    · clear hf g34 hJ gd s40 g
      rintro kb i g i0 i1 ⟨hf, hP, hJ⟩ hk
      unfold w_X10_copies_154
      rw [zn_8, if_neg (by rw [z_le (by omega) (by omega) (by omega) (by omega)]; omega), z_mul, z_mul, z_add, z_add, z_iN (a := 8 * t + i) (by omega) (by omega), z_iN (a := 8 * d + i) (by omega) (by omega), z_inc]
      refine ⟨z_in (by omega) (by omega) (by omega), z_in (by omega) (by omega) (by omega), ?_⟩
      rintro _ rfl
      refine hk _ ⟨fun c k hc => (hf c k hc).sI (by unfold dyC at hc; omega), ⟨by rw [gI_out (by omega)]; exact hP.1, by rw [gI_out (by omega)]; exact hP.2.1, fun c n c1 c2 n0 n1 => by rw [gI_out (by omega)]; exact hP.2.2 c n c1 c2 n0 n1⟩, fun n n0 n1 => ?_⟩
      by_cases e : n = i
      · subst e
        rw [gI_in rfl rfl]; exact (hf 41 _ (by unfold dyC; omega)).1
      · rw [gI_out (by omega)]; exact hJ n n0 (by omega)
    · clear hf g34 hJ gd s40 g
      rintro kb g ⟨hf, hP, hJ⟩
      unfold w_X10_copies_154
      rw [zn_8, if_pos (by rw [z_le (by omega) (by omega) (by omega) (by omega)]; omega)]
      refine ⟨z_in (by omega) (by omega) (by omega), z_in (by omega) (by omega) (by omega), ?_⟩
      rintro _ rfl
      have s42 : gI g 42 d.toNat = gI h 42 d.toNat := (hf 42 _ (by unfold dyC; omega)).1
      rw [s42]
      refine for10 4 (fun i g' => (∀ c k, ¬ dyC t c k → At h g' c k) ∧ (gI g' 34 t.toNat = gI h 34 d.toNat ∧ gI g' 40 t.toNat = gI h 40 d.toNat ∧ gI g' 42 t.toNat = gI h 42 d.toNat ∧ (∀ c (n : Int), 35 ≤ c → c ≤ 39 → 0 ≤ n → n < b.n 3 → gI g' c (12 * t + n).toNat = gI h c (12 * d + n).toNat) ∧ ∀ n : Int, 0 ≤ n → n < 8 → gI g' 41 (8 * t + n).toNat = gI h 41 (8 * d + n).toNat) ∧ ∀ n : Int, 0 ≤ n → n < i → gI g' 43 (4 * t + n).toNat = gI h 43 (4 * d + n).toNat) 0 rfl (by omega) (by omega) (by omega) ⟨fun c k hc => (hf c k hc).sI (by unfold dyC at hc; omega), ⟨by rw [gI_out (by omega)]; exact hP.1, by rw [gI_out (by omega)]; exact hP.2.1, gI_in rfl rfl, fun c n c1 c2 n0 n1 => by rw [gI_out (by omega)]; exact hP.2.2 c n c1 c2 n0 n1, fun n n0 n1 => by rw [gI_out (by omega)]; exact hJ n n0 n1⟩, fun n n0 n1 => by omega⟩ ?_ ?_
      · clear hf hP hJ s42 g
        rintro kb i g i0 i1 ⟨hf, hP, hJ⟩ hk
        unfold w_X10_copies_202
        rw [zn_4, if_neg (by rw [z_le (by omega) (by omega) (by omega) (by omega)]; omega), z_mul, z_mul, z_add, z_add, z_iN (a := 4 * t + i) (by omega) (by omega), z_iN (a := 4 * d + i) (by omega) (by omega), z_inc]
        refine ⟨z_in (by omega) (by omega) (by omega), z_in (by omega) (by omega) (by omega), ?_⟩
        rintro _ rfl
        refine hk _ ⟨fun c k hc => (hf c k hc).sI (by unfold dyC at hc; omega), ⟨by rw [gI_out (by omega)]; exact hP.1, by rw [gI_out (by omega)]; exact hP.2.1, by rw [gI_out (by omega)]; exact hP.2.2.1, fun c n c1 c2 n0 n1 => by rw [gI_out (by omega)]; exact hP.2.2.2.1 c n c1 c2 n0 n1, fun n n0 n1 => by rw [gI_out (by omega)]; exact hP.2.2.2.2 n n0 n1⟩, fun n n0 n1 => ?_⟩
        by_cases e : n = i
        · subst e
          rw [gI_in rfl rfl]; exact (hf 43 _ (by unfold dyC; omega)).1
        · rw [gI_out (by omega)]; exact hJ n n0 (by omega)
      · clear hf hP hJ s42 g
        rintro kb g ⟨hf, hP, hJ⟩
        unfold w_X10_copies_202
        rw [zn_4, if_pos (by rw [z_le (by omega) (by omega) (by omega) (by omega)]; omega)]
        refine ⟨z_in (by omega) (by omega) (by omega), z_in (by omega) (by omega) (by omega), ?_⟩
        rintro _ rfl
        have s44 : gI g 44 d.toNat = gI h 44 d.toNat := (hf 44 _ (by unfold dyC; omega)).1
        rw [s44]
        refine hq _ (fun c k hc => (hf c k hc).sI (by unfold dyC at hc; omega)) (D.mv O d0.1 t0.1 (fun c hc => ?_) (fun c n c1 c2 n0 n1 => ?_) (fun n n0 n1 => ?_) (fun n n0 n1 => ?_))
        · rcases hc with rfl | rfl | rfl | rfl
          · rw [gI_out (by omega)]; exact hP.1
          · rw [gI_out (by omega)]; exact hP.2.1
          · rw [gI_out (by omega)]; exact hP.2.2.1
          · rw [gI_in rfl rfl]
        · rw [gI_out (by omega)]; exact hP.2.2.2.1 c n c1 c2 n0 n1
        · rw [gI_out (by omega)]; exact hP.2.2.2.2 n n0 n1
        · rw [gI_out (by omega)]; exact hJ n n0 n1
/-- the kept days -/
def DyM (h : PH) (un : Int) (u : Int → Wd) : Prop := gI h 0 61 = z un ∧ (0 ≤ un ∧ un ≤ 20) ∧ ∀ i, 0 ≤ i → i < un → MD h (2 + i) (u i) ∧ OkD (u i)
def dysC (c k : Nat) : Prop := (c = 0 ∧ k = 61) ∨ (34 ≤ c ∧ c ≤ 44 ∧ ¬ (dyC 0 c k ∨ dyC 1 c k))
theorem m_keep45 {h : PH} {un : Int} {u : Int → Wd} {a : Wd} {Q : PH → Prop} (D : MD h 0 a) (O : OkD a) (U : DyM h un u) (hu : un < 20) (hq : ∀ g, (∀ c k, ¬ (dyC (2 + un) c k ∨ (c = 0 ∧ k = 61)) → At h g c k) → DyM g (un + 1) (fun k => if k = un then a else u k) → Q g) : w_X10_keepNow_45 Q h := by
  obtain ⟨u1, u2, u3⟩ := U
  unfold w_X10_keepNow_45
  rw [u1, zn_2, z_add]
  refine m_copies D O rfl rfl (by omega) (by omega) (by omega) (fun g f1 D1 => ?_)
  rintro _ rfl
  have e61 : gI g 0 61 = z un := by rw [(f1 0 61 (by unfold dyC; omega)).1]; exact u1
  rw [e61, z_inc]
  have F : ∀ c k, ¬ (c = 0 ∧ k = 61) → At g (sI g 0 61 (z (un + 1))) c k := fun c k hc => (At.rf g c k).sI hc
  refine hq _ (fun c k hc => (f1 c k (fun x => hc (Or.inl x))).tr (F c k (fun x => hc (Or.inr x)))) ⟨gI_in rfl rfl, by omega, fun i i0 i1 => ?_⟩
  show MD _ (2 + i) (if i = un then a else u i) ∧ OkD (if i = un then a else u i)
  by_cases e : i = un
  · subst e
    rw [if_pos rfl]
    exact ⟨D1.at' (fun c k b1 b2 => F c k (by omega)), O⟩
  · rw [if_neg e]
    obtain ⟨d1, d2⟩ := u3 i i0 (by omega)
    exact ⟨(d1.off d2 (by omega) (by omega) (by omega) f1).at' (fun c k b1 b2 => F c k (by omega)), d2⟩
theorem dy_out {d : Int} (hd : 2 ≤ d) {c k : Nat} (h : dyC 0 c k ∨ dyC 1 c k) : ¬ dyC d c k := by unfold dyC at *; omega
theorem dy_34 {d : Int} {c k : Nat} (h : dyC d c k) : 34 ≤ c ∧ c ≤ 44 := by unfold dyC at h; omega
theorem m_keepNow {h : PH} {un : Int} {u : Int → Wd} {a b : Wd} {Q : PH → Prop} (D : MD h 0 a) (O : OkD a) (U : DyM h un u) (hu : u un = a) (hq : ∀ g, (∀ c k, ¬ dysC c k → At h g c k) → DyM g (nun un) (nu un u b) → Q g) : w_X10_keepNow h Q := by
  obtain ⟨u1, u2, u3⟩ := id U
  unfold w_X10_keepNow
  rw [u1]
  by_cases c : un = 20
  · subst c
    rw [if_pos (show z 20 = 20 from rfl)]
    refine for10 20 (fun i g => (∀ c k, ¬ dysC c k → At h g c k) ∧ gI g 0 61 = z 20 ∧ (∀ j, 0 ≤ j → j < i - 1 → MD g (2 + j) (u (j + 1))) ∧ (∀ j, i - 1 ≤ j → j < 20 → MD g (2 + j) (u j))) 1 rfl (by omega) (by omega) (by omega) ⟨fun c k _ => At.rf h c k, u1, fun j j0 j1 => by omega, fun j j0 j1 => (u3 j (by omega) j1).1⟩ ?_ ?_
    · rintro kb i g i0 i1 ⟨hf, g61, hA, hB⟩ hk
      unfold w_X10_keepNow_11
      rw [zn_20, if_neg (by rw [z_le (by omega) (by omega) (by omega) (by omega)]; omega), zn_2, z_add, zn_1, z_sub, z_add]
      refine m_copies (b := u i) (t := 2 + i - 1) (hB i (by omega) i1) (u3 i (by omega) i1).2 rfl rfl (by omega) (by omega) (by omega) (fun g' f' D' => ?_)
      refine hk _ ⟨fun c k hc => (hf c k hc).tr (f' c k (fun e => hc (Or.inr ⟨(dy_34 e).1, (dy_34 e).2, fun x => dy_out (by omega) x e⟩))), ?_, fun j j0 j1 => ?_, fun j j0 j1 => ?_⟩
      · rw [(f' 0 61 (by unfold dyC; omega)).1]; exact g61
      · by_cases e : j = i - 1
        · rw [e, show 2 + (i - 1) = 2 + i - 1 by omega, show i - 1 + 1 = i by omega]; exact D'
        · exact (hA j j0 (by omega)).off (u3 (j + 1) (by omega) (by omega)).2 (by omega) (by omega) (by omega) f'
      · exact (hB j (by omega) j1).off (u3 j (by omega) j1).2 (by omega) (by omega) (by omega) f'
    · rintro kb g ⟨hf, g61, hA, hB⟩
      unfold w_X10_keepNow_11
      rw [zn_20, if_pos (by rw [z_le (by omega) (by omega) (by omega) (by omega)]; omega)]
      rintro _ rfl
      have F : ∀ c k, ¬ (c = 0 ∧ k = 61) → At g (sI g 0 61 (gI g 0 61 - 1)) c k := fun c k hc => (At.rf g c k).sI hc
      have D2 : MD (sI g 0 61 (gI g 0 61 - 1)) 0 a := D.of O (by omega) (fun c k hc => ((hf c k (fun x => by
        have h34 := dy_34 hc
        rcases x with x | x
        · omega
        · exact x.2.2 (Or.inl hc))).tr (F c k (by have := dy_34 hc; omega))).1)
      refine m_keep45 (un := 19) (u := fun j => u (j + 1)) D2 O ⟨by rw [gI_in rfl rfl, g61]; rfl, by omega, fun i i0 i1 => ⟨(hA i i0 (by omega)).at' (fun c k b1 b2 => F c k (by omega)), (u3 (i + 1) (by omega) (by omega)).2⟩⟩ (by omega) (fun g' f' U' => hq g' (fun c k hc => ((hf c k hc).tr (F c k (fun e => hc (Or.inl e)))).tr (f' c k (fun e => hc ?_))) ?_)
      · rcases e with e | e
        · exact Or.inr ⟨(dy_34 e).1, (dy_34 e).2, fun x => dy_out (by omega) x e⟩
        · exact Or.inl e
      · obtain ⟨v1, v2, v3⟩ := U'
        refine ⟨v1, v2, fun i i0 i1 => ?_⟩
        have := v3 i i0 i1
        dsimp only at this
        unfold nu
        rw [show nun 20 = 20 from rfl] at i1 ⊢
        rw [if_neg (by omega), if_pos rfl]
        by_cases e : i = 19
        · rw [if_pos e] at this
          rw [e, show (19 : Int) + 1 = 20 by omega, hu]
          rw [e] at this
          exact this
        · rw [if_neg e] at this; exact this
  · rw [if_neg (by rw [zn_20]; exact z_ne (by omega) (by omega) (by omega) (by omega) c)]
    refine m_keep45 D O U (by omega) (fun g' f' U' => hq g' (fun c k hc => f' c k (fun e => hc ?_)) ?_)
    · rcases e with e | e
      · exact Or.inr ⟨(dy_34 e).1, (dy_34 e).2, fun x => dy_out (by omega) x e⟩
      · exact Or.inl e
    · obtain ⟨v1, v2, v3⟩ := U'
      have en : nun un = un + 1 := if_neg c
      refine ⟨by rw [en]; exact v1, by rw [en]; exact v2, fun i i0 i1 => ?_⟩
      rw [en] at i1
      have := v3 i i0 i1
      dsimp only at this
      unfold nu
      rw [en, if_neg (by omega), if_neg c]
      by_cases e : i = un
      · rw [if_pos e] at this; rw [e, hu]; rw [e] at this; exact this
      · rw [if_neg e] at this; exact this
