/-! ===== a day by the reference ===== -/
theorem m_hears {a : Wd} {F : Int → Int → Int} {n p m : Int} {h : PH} {Q : Int32 → PH → Prop} {fr : Int} (K : KM h 0 fr a.fd) (W : Wf a.fd) (N : FM h F) (NN : NM h a) (O : OkN a) (hF : ∀ p q, 0 ≤ F p q ∧ F p q ≤ 100000) (h6 : a.n 0 ≤ 6) (hn : 0 ≤ n ∧ n < a.n 3) (hp : 0 ≤ p ∧ p < 6) (hm : 0 ≤ m ∧ m < 48)
    (hq : ∀ g, (∀ c k, ¬ lawC c k → At h g c k) → Q (z (if hr a F n p m = true then 1 else 0)) g) : w_X10_hears (z n) (z p) (z m) h Q := by
  obtain ⟨o1, o2, o3, o4, o5⟩ := O.2 n hn.1 hn.2
  have O1 := O.1
  obtain ⟨e1, e2, e3, e4, l, e5, b1, b2, b3⟩ := NN.2 n hn.1 hn.2
  have hq' : ∀ (g : PH) (b : Bool), (∀ c k, ¬ lawC c k → At h g c k) → hr a F n p m = b → Q (z (if b = true then 1 else 0)) g := fun g b hg e => by rw [← e]; exact hq g hg
  unfold w_X10_hears
  rw [z_iN (by omega) (by omega), e1, e3, e4, e5]
  refine ⟨z_in (by omega) (by omega) (by omega), ?_⟩
  by_cases c1 : m < a.f 3 2 n
  · rw [if_pos (by rw [z_lt (by omega) (by omega) (by omega) (by omega)]; exact c1)]
    exact hq' h false (fun c k _ => At.rf h c k) (by unfold hr; rw [decide_eq_false (by omega : ¬ a.f 3 2 n ≤ m)]; rfl)
  · rw [if_neg (by rw [z_lt (by omega) (by omega) (by omega) (by omega)]; exact c1)]
    refine ⟨z_in (by omega) (by omega) (by omega), ?_⟩
    by_cases c2 : a.f 3 3 n < m
    · rw [if_pos (by rw [z_lt (by omega) (by omega) (by omega) (by omega)]; exact c2)]
      exact hq' h false (fun c k _ => At.rf h c k) (by unfold hr; rw [decide_eq_false (by omega : ¬ m ≤ a.f 3 3 n)]; simp)
    · rw [if_neg (by rw [z_lt (by omega) (by omega) (by omega) (by omega)]; exact c2)]
      refine ⟨z_in (by omega) (by omega) (by omega), z_in (by omega) (by omega) (by omega), ?_⟩
      refine m_carries K W N (hF _ _) (by omega) hp (by omega) hm (fun g hg => ?_)
      have eh : hr a F n p m = car a F (a.f 3 0 n) l p m := by
        unfold hr
        rw [decide_eq_true (by omega : a.f 3 2 n ≤ m), decide_eq_true (by omega : m ≤ a.f 3 3 n)]
        by_cases c3 : 1 ≤ l ∨ (a.f 3 5 n = 0 ∧ 1 ≤ a.f 3 4 n)
        · obtain ⟨d1, d2⟩ := b3 c3
          rw [decide_eq_true d1, d2]; simp
        · have : car a F (a.f 3 0 n) l p m = false := by unfold car; rw [decide_eq_false (by omega : ¬ 1 ≤ l)]; simp
          rw [this]
          by_cases c4 : a.f 3 5 n = 0
          · unfold car; rw [decide_eq_false (by omega : ¬ 1 ≤ a.f 3 4 n)]; simp
          · rw [decide_eq_false c4]; simp
      cases hb : car a F (a.f 3 0 n) l p m with
      | false =>
        rw [if_pos (show z (if false = true then (1 : Int) else 0) = 0 from rfl)]
        exact hq' g false hg (by rw [eh, hb])
      | true =>
        rw [if_neg (show ¬ z (if true = true then (1 : Int) else 0) = 0 by decide)]
        exact hq' g true hg (by rw [eh, hb])
/-- what of a day stays while first ones are sought -/
def dayC (c k : Nat) : Prop := lawC c k ∨ c = 51
def FS (h : PH) (a : Wd) (F : Int → Int → Int) : Prop := ∀ p m : Int, 0 ≤ p → p < a.n 0 → 0 ≤ m → m < 48 → gI h 51 (48 * p + m).toNat = z (fst a F p m)
theorem m_first {a : Wd} {F : Int → Int → Int} {h : PH} {Q : PH → Prop} (M : MT h a) (W : Wf a.fd) (N : FM h F) (NN : NM h a) (O : OkN a) (hF : ∀ p q, 0 ≤ F p q ∧ F p q ≤ 100000) (h6 : 0 ≤ a.n 0 ∧ a.n 0 ≤ 6)
    (hq : ∀ g, (∀ c k, ¬ lawC c k → ¬ (c = 51) → At h g c k) → FS g a F → Q g) : w_X10_layFirst h Q := by
  obtain ⟨fr, K⟩ := M.2.2.2.2.2.2.2.1
  have O1 := O.1
  have st : ∀ g, (∀ c k, ¬ lawC c k → ¬ (c = 51) → At h g c k) → gI g 2 0 = z (a.n 0) ∧ gI g 0 62 = z (a.n 3) ∧ KM g 0 fr a.fd ∧ FM g F ∧ NM g a := by
    intro g hg
    refine ⟨by rw [(hg 2 0 (by unfold lawC; omega) (by omega)).1]; exact M.1.1, by rw [(hg 0 62 (by unfold lawC; omega) (by omega)).1]; exact NN.1, K.at' (fun c k b1 b2 => hg c k (by unfold lawC; omega) (by omega)), N.at' (fun k => hg 50 k (by unfold lawC; omega) (by omega)), NN.at' (hg 0 62 (by unfold lawC; omega) (by omega)) (fun c k b1 b2 => hg c k (by unfold lawC; omega) (by omega))⟩
  unfold w_X10_layFirst
  refine for10 (a.n 0) (fun p g => (∀ c k, ¬ lawC c k → ¬ (c = 51) → At h g c k) ∧ ∀ q m : Int, 0 ≤ q → q < p → 0 ≤ m → m < 48 → gI g 51 (48 * q + m).toNat = z (fst a F q m)) 0 rfl (by omega) (by omega) (by omega) ⟨fun c k _ _ => At.rf h c k, fun q m c1 c2 => by omega⟩ ?_ ?_
  · rintro kb p g p0 p1 ⟨hf, hJ⟩ hk
    unfold w_X10_layFirst_2
    rw [iN_0, (st g hf).1, if_neg (by rw [z_le (by omega) (by omega) (by omega) (by omega)]; omega), zn_1, z_add]
    refine for10 48 (fun m g => (∀ c k, ¬ lawC c k → ¬ (c = 51) → At h g c k) ∧ (∀ q m : Int, 0 ≤ q → q < p → 0 ≤ m → m < 48 → gI g 51 (48 * q + m).toNat = z (fst a F q m)) ∧ ∀ m' : Int, 0 ≤ m' → m' < m → gI g 51 (48 * p + m').toNat = z (fst a F p m')) 0 rfl (by omega) (by omega) (by omega) ⟨hf, hJ, fun m c1 c2 => by omega⟩ ?_ ?_
    · clear hJ hf g
      rintro kb2 m g m0 m1 ⟨hf, hJ, hL⟩ hk2
      unfold w_X10_layFirst_14
      rw [zn_48, if_neg (by rw [z_le (by omega) (by omega) (by omega) (by omega)]; omega)]
      have fin : ∀ (v : Int32) (g : PH), (∀ c k, ¬ lawC c k → ¬ (c = 51) → At h g c k) → (∀ q m : Int, 0 ≤ q → q < p → 0 ≤ m → m < 48 → gI g 51 (48 * q + m).toNat = z (fst a F q m)) → (∀ m' : Int, 0 ≤ m' → m' < m → gI g 51 (48 * p + m').toNat = z (fst a F p m')) → v = z (fst a F p m) → kb2 (z (m + 1)) (sI g 51 (48 * p + m).toNat v) := by
        intro v g hf hJ hL hv
        refine hk2 _ ⟨fun c k b1 b2 => (hf c k b1 b2).sI (by omega), fun q m' c1 c2 c3 c4 => ?_, fun m' c1 c2 => ?_⟩
        · rw [gI_out (by omega)]; exact hJ q m' c1 c2 c3 c4
        · by_cases e : m' = m
          · rw [gI_in rfl (by omega), hv, e]
          · rw [gI_out (by omega)]; exact hL m' c1 (by omega)
      refine for10 (a.n 3) (fun n g => (∀ c k, ¬ lawC c k → ¬ (c = 51) → At h g c k) ∧ (∀ q m : Int, 0 ≤ q → q < p → 0 ≤ m → m < 48 → gI g 51 (48 * q + m).toNat = z (fst a F q m)) ∧ (∀ m' : Int, 0 ≤ m' → m' < m → gI g 51 (48 * p + m').toNat = z (fst a F p m')) ∧ ∀ n', 0 ≤ n' → n' < n → hr a F n' p m = false) 0 rfl (by omega) (by omega) (by omega) ⟨hf, hJ, hL, fun n' c1 c2 => by omega⟩ ?_ ?_
      · clear hJ hf hL g
        rintro kb3 n g n0 n1 ⟨hf, hJ, hL, hN⟩ hk3
        obtain ⟨s1, s2, s3, s4, s5⟩ := st g hf
        unfold w_X10_layFirst_22
        rw [s2, if_neg (by rw [z_le (by omega) (by omega) (by omega) (by omega)]; omega)]
        refine m_hears s3 W s4 s5 O hF h6.2 ⟨n0, n1⟩ (by omega) (by omega) (fun g' hg' => ?_)
        have hf' : ∀ c k, ¬ lawC c k → ¬ (c = 51) → At h g' c k := fun c k b1 b2 => (hf c k b1 b2).tr (hg' c k b1)
        have hJ' : ∀ q m : Int, 0 ≤ q → q < p → 0 ≤ m → m < 48 → gI g' 51 (48 * q + m).toNat = z (fst a F q m) := fun q m c1 c2 c3 c4 => by rw [(hg' 51 _ (by unfold lawC; omega)).1]; exact hJ q m c1 c2 c3 c4
        have hL' : ∀ m' : Int, 0 ≤ m' → m' < m → gI g' 51 (48 * p + m').toNat = z (fst a F p m') := fun m' c1 c2 => by rw [(hg' 51 _ (by unfold lawC; omega)).1]; exact hL m' c1 c2
        cases hb : hr a F n p m with
        | false =>
          rw [if_pos (show z (if false = true then (1 : Int) else 0) = 0 from rfl), zn_1, z_add]
          refine hk3 _ ⟨hf', hJ', hL', fun n' c1 c2 => ?_⟩
          by_cases e : n' = n
          · rw [e]; exact hb
          · exact hN n' c1 (by omega)
        | true =>
          rw [if_neg (show ¬ z (if true = true then (1 : Int) else 0) = 0 by decide)]
          dsimp only
          unfold w_X10_layFirst_46
          rw [(st g' hf').2.1, if_neg (by rw [z_le (by omega) (by omega) (by omega) (by omega)]; omega), zn_48, zn_1, z_mul, z_add, z_add, z_iN (by omega) (by omega)]
          refine ⟨z_in (by omega) (by omega) (by omega), ?_⟩
          rintro _ rfl
          exact fin _ g' hf' hJ' hL' (by rw [show fst a F p m = n from ff_yes n0 n1 hb hN])
      · clear hJ hf hL g
        rintro kb3 g ⟨hf, hJ, hL, hN⟩
        obtain ⟨s1, s2, s3, s4, s5⟩ := st g hf
        unfold w_X10_layFirst_22
        rw [s2, if_pos (by rw [z_le (by omega) (by omega) (by omega) (by omega)]; omega)]
        dsimp only
        unfold w_X10_layFirst_46
        rw [s2, if_pos (by rw [z_le (by omega) (by omega) (by omega) (by omega)]; omega), zn_48, zn_1, z_mul, z_add, z_add, z_iN (by omega) (by omega)]
        refine ⟨z_in (by omega) (by omega) (by omega), ?_⟩
        rintro _ rfl
        exact fin _ g hf hJ hL (by rw [show fst a F p m = -1 from ff_no hN]; rfl)
    · clear hJ hf g
      rintro kb2 g ⟨hf, hJ, hL⟩
      unfold w_X10_layFirst_14
      rw [zn_48, if_pos (by rw [z_le (by omega) (by omega) (by omega) (by omega)]; omega)]
      refine hk _ ⟨hf, fun q m c1 c2 c3 c4 => ?_⟩
      by_cases e : q = p
      · rw [e]; exact hL m c3 c4
      · exact hJ q m c1 (by omega) c3 c4
  · rintro kb g ⟨hf, hJ⟩
    unfold w_X10_layFirst_2
    rw [iN_0, (st g hf).1, if_pos (by rw [z_le (by omega) (by omega) (by omega) (by omega)]; omega)]
    exact hq g hf hJ
/-- all silent minutes, counted over rows of 48 -/
def sil (a : Wd) (F : Int → Int → Int) (k : Int) : Int := if fst a F (k / 48) (k % 48) = -1 then 1 else 0
def silAll (a : Wd) (F : Int → Int → Int) : Int := sm (sil a F) (48 * a.n 0)
theorem sil_rg (a : Wd) (F : Int → Int → Int) (k : Int) : 0 ≤ sil a F k ∧ sil a F k ≤ 1 := by unfold sil; split <;> omega
theorem FS.k {h : PH} {a : Wd} {F : Int → Int → Int} (S : FS h a F) {k : Int} (h0 : 0 ≤ k) (h1 : k < 48 * a.n 0) : gI h 51 k.toNat = z (fst a F (k / 48) (k % 48)) := by
  have := S (k / 48) (k % 48) (by omega) (by omega) (by omega) (by omega)
  rw [show 48 * (k / 48) + k % 48 = k by omega] at this
  exact this
theorem m_silentAll {a : Wd} {F : Int → Int → Int} {h : PH} {Q : Int32 → PH → Prop} (M : MT h a) (W : Wf a.fd) (N : FM h F) (NN : NM h a) (O : OkN a) (hF : ∀ p q, 0 ≤ F p q ∧ F p q ≤ 100000) (h6 : 0 ≤ a.n 0 ∧ a.n 0 ≤ 6)
    (hq : ∀ g, (∀ c k, ¬ lawC c k → ¬ (c = 51) → At h g c k) → Q (z (silAll a F)) g) : w_X10_silentAll h Q := by
  unfold w_X10_silentAll
  refine m_first M W N NN O hF h6 (fun g hg S => ?_)
  have e0 : gI g 2 0 = z (a.n 0) := by rw [(hg 2 0 (by unfold lawC; omega) (by omega)).1]; exact M.1.1
  refine for21 (48 * a.n 0) (fun k s g' => g' = g ∧ s = z (sm (sil a F) k)) 0 rfl (by omega) (by omega) (by omega) ⟨rfl, rfl⟩ ?_ ?_
  · rintro kb k s _ k0 k1 ⟨rfl, rfl⟩ hk
    unfold w_X10_silentAll_8
    have b := fst_rg O F (k / 48) (k % 48)
    have O1 := O.1
    rw [iN_0, e0, zn_48, z_mul, if_neg (by rw [z_le (by omega) (by omega) (by omega) (by omega)]; omega), z_iN (by omega) (by omega), S.k k0 k1]
    refine ⟨z_in (by omega) (by omega) (by omega), ?_⟩
    by_cases e : fst a F (k / 48) (k % 48) = -1
    · rw [if_pos (by rw [e]; rfl)]
      rintro _ rfl
      rw [zn_1, z_add, z_add]
      refine hk _ _ ⟨rfl, ?_⟩
      rw [sm_s k0]
      unfold sil; rw [if_pos e]
    · rw [if_neg (by rw [z_m1]; exact z_ne (by omega) (by omega) (by omega) (by omega) e)]
      rintro _ rfl
      rw [zn_1, zn_0, z_add, z_add]
      refine hk _ _ ⟨rfl, ?_⟩
      rw [sm_s k0]
      unfold sil; rw [if_neg e]
  · rintro kb s _ ⟨rfl, rfl⟩
    unfold w_X10_silentAll_8
    rw [iN_0, e0, zn_48, z_mul, if_pos (by rw [z_le (by omega) (by omega) (by omega) (by omega)]; omega)]
    exact hq _ hg
