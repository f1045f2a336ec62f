theorem down1 {body : (Int32 → PH → Prop) → Int32 → PH → Prop} (J : Int → PH → Prop) (i0 : Int) {x0 : Int32} {h : PH} (hx : x0 = z i0) (hb : i0 < 2147483648) (h0 : -1 ≤ i0) (hJ : J i0 h) (hs : ∀ (kb : Int32 → PH → Prop) (i : Int) (h : PH), 0 ≤ i → i ≤ i0 → J i h → (∀ (g : PH), J (i - 1) g → kb (z (i - 1)) g) → body kb (z i) h) (he : ∀ (kb : Int32 → PH → Prop) (h : PH), J (-1) h → body kb (z (-1)) h) : ∃ k, Lp1 body k x0 h := by
  subst hx
  refine lp1_i (fun x h => ∃ i, x = z i ∧ -1 ≤ i ∧ i ≤ i0 ∧ J i h) (fun x _ => (x.toInt + 1).toNat) ?_ _ h ⟨i0, rfl, h0, Int.le_refl _, hJ⟩
  rintro kb _ h ⟨i, rfl, h1, h2, hJ⟩ hk
  by_cases hi : 0 ≤ i
  · refine hs kb i h hi h2 hJ (fun g hg => hk _ g ⟨i - 1, rfl, by omega, by omega, hg⟩ ?_)
    rw [z_ti (by omega) (by omega), z_ti (by omega) (by omega)]
    omega
  · have e : i = -1 := by omega
    subst e
    exact he kb h hJ
/-! ===== whose, by the class ===== -/
def prC (a : Wd) (p m : Int) : Int → Bool := fun c => decide (a.f 4 1 c = p) && decide (a.f 4 2 c ≤ m) && decide (m ≤ a.f 4 3 c)
/-- the owner by claims from the i-th on -/
def cloF (a : Wd) (i p m : Int) : Int := if ffr (prC a p m) (a.n 4 - i).toNat i = -1 then -1 else a.f 4 0 (ffr (prC a p m) (a.n 4 - i).toNat i)
theorem cloF_0 (a : Wd) (p m : Int) : cloF a 0 p m = clo a p m := by unfold cloF clo clm ff prC; rw [Int.sub_zero]
theorem cloF_s {a : Wd} {i p m : Int} (h0 : 0 ≤ i) (h1 : i < a.n 4) : cloF a i p m = if prC a p m i = true then a.f 4 0 i else cloF a (i + 1) p m := by
  unfold cloF
  have e : (a.n 4 - i).toNat = (a.n 4 - (i + 1)).toNat + 1 := by omega
  rw [e]
  by_cases c : prC a p m i = true
  · have : ffr (prC a p m) ((a.n 4 - (i + 1)).toNat + 1) i = i := by unfold ffr; rw [if_pos c]
    rw [this, if_pos c, if_neg (by omega)]
  · have : ffr (prC a p m) ((a.n 4 - (i + 1)).toNat + 1) i = ffr (prC a p m) (a.n 4 - (i + 1)).toNat (i + 1) := by rw [ffr, if_neg c]
    rw [this, if_neg c]
def CX' (h : PH) (t : Nat) (a : Wd) : Prop := ∀ p m : Int, 0 ≤ p → p < 6 → 0 ≤ m → m < 48 → gI h (t + 4) (p * 48 + m).toNat = z (clo a p m)
def HoX (h : PH) (t : Nat) (a : Wd) (F : Int → Int → Int) : Prop := ∀ p m : Int, 0 ≤ p → p < a.n 0 → 0 ≤ m → m < 48 → gI h (t + 5) (p * 48 + m).toNat = z (whs a F p m)
set_option maxHeartbeats 2000000 in
theorem x_settlePlace {t w : Nat} {a : Wd} {F : Int → Int → Int} {p : Int} {h : PH} {Q : PH → Prop} (H : WX h w a) (hH : HX h t a F) (S : SX h t a F) (C : CX' h t a) (ht : w + 22 < t) (h6 : 0 ≤ a.n 0 ∧ a.n 0 ≤ 6) (ON : OkN a) (OC : OkC a) (hp : 0 ≤ p ∧ p < a.n 0)
    (hq : ∀ g, (∀ c k, ¬ (c = t + 5) → At h g c k) → (∀ k : Nat, (¬ ((p * 48).toNat ≤ k ∧ k < (p * 48 + 48).toNat)) → At h g (t + 5) k) → (∀ m : Int, 0 ≤ m → m < 48 → gI g (t + 5) (p * 48 + m).toNat = z (whs a F p m)) → Q g) : w_X0_settlePlace t w (z p) h Q := by
  have ON1 := ON.1
  unfold w_X0_settlePlace
  refine for21 48 (fun m last g => last = z (lst a F p m.toNat) ∧ (∀ c k, ¬ (c = t + 5) → At h g c k) ∧ (∀ k : Nat, (¬ ((p * 48).toNat ≤ k ∧ k < (p * 48 + 48).toNat)) → At h g (t + 5) k) ∧ ∀ m' : Int, 0 ≤ m' → m' < m → gI g (t + 5) (p * 48 + m').toNat = z (whs a F p m')) 0 rfl (by omega) (by omega) (by omega) ⟨rfl, fun c k _ => At.rf h c k, fun k _ => At.rf h _ k, fun m c1 c2 => by omega⟩ ?_ ?_
  · rintro kb m _ g m0 m1 ⟨rfl, hf, hf5, hL⟩ hk
    have ls : lst a F p (m + 1).toNat = if fst a F p m = -1 then lst a F p m.toNat else a.f 3 1 (fst a F p m) := by
      rw [show (m + 1).toNat = m.toNat + 1 by omega]
      show (if fst a F p ((m.toNat : Nat) : Int) = -1 then _ else a.f 3 1 (fst a F p ((m.toNat : Nat) : Int))) = _
      rw [show ((m.toNat : Nat) : Int) = m by omega]
    have fin : ∀ (l v : Int32), l = z (lst a F p (m + 1).toNat) → v = z (whs a F p m) → kb l (z (m + 1)) (sI g (t + 5) (p * 48 + m).toNat v) := by
      intro l v hl hv
      refine hk _ _ ⟨hl, fun c k b1 => (hf c k b1).sI (by omega), fun k b1 => (hf5 k b1).sI (by omega), fun m' c1 c2 => ?_⟩
      by_cases e : m' = m
      · rw [gI_in rfl (by omega), hv, e]
      · rw [gI_out (by omega)]; exact hL m' c1 (by omega)
    have H' : WX g w a := H.at' (fun c k b1 b2 b3 b4 b5 b6 => hf c k (by omega))
    have S' : SX g t a F := fun q c1 c2 => by rw [(hf (t + 3) _ (by omega)).2.1]; exact S q c1 c2
    have hH' : HX g t a F := fun n q c1 c2 c3 c4 => by rw [(hf (t + 2) _ (by omega)).2.1]; exact hH n q c1 c2 c3 c4
    have bf := fst_rg ON F p m
    have bc := clo_rg OC p m
    unfold w_X0_settlePlace_6
    rw [zn_48, if_neg (by rw [z_le (by omega) (by omega) (by omega) (by omega)]; omega)]
    rintro _ rfl
    rw [z_mul, z_add]
    refine x_isSilent S' (by omega) (by omega) (fun c1 c2 => ?_) (fun c1 => ?_)
    · rw [if_neg (by decide), z_iN (by omega) (by omega), (hf (t + 4) _ (by omega)).1, C p m hp.1 (by omega) m0 m1]
      refine ⟨z_in (by omega) (by omega) (by omega), ?_⟩
      by_cases c3 : clo a p m = -1
      · rw [if_pos (by rw [c3]; rfl)]
        refine ⟨z_in (by omega) (by omega) (by omega), ?_⟩
        rintro _ rfl
        rw [z_inc]
        exact fin _ _ (by rw [ls, if_pos c2]) (by unfold whs; rw [if_pos c2, if_pos c3])
      · rw [if_neg (by rw [z_m1]; exact z_ne (by omega) (by omega) (by omega) (by omega) c3)]
        refine ⟨z_in (by omega) (by omega) (by omega), z_in (by omega) (by omega) (by omega), ?_⟩
        rintro _ rfl
        rw [z_inc]
        exact fin _ _ (by rw [ls, if_pos c2]) (by unfold whs; rw [if_pos c2, if_neg c3])
    · have c2 : ¬ fst a F p m = -1 := fun e => c1 ⟨hp.2, e⟩
      rw [if_pos rfl]
      refine x_first H' hH' h6.2 ON1.2 hp ⟨m0, m1⟩ ?_
      refine H'.at 3 1 (by decide) rfl (by decide) rfl rfl (by omega) bf.2 ?_
      rw [z_iN (by omega) (by omega)]
      refine ⟨z_in (by omega) (by omega) (by omega), ?_⟩
      rintro _ rfl
      rw [z_inc]
      exact fin _ _ (by rw [ls, if_neg c2]) (by unfold whs; rw [if_neg c2]; rfl)
  · rintro kb _ g ⟨rfl, hf, hf5, hL⟩
    unfold w_X0_settlePlace_6
    rw [zn_48, if_pos (by rw [z_le (by omega) (by omega) (by omega) (by omega)]; omega)]
    exact hq g hf hf5 hL
set_option maxHeartbeats 2000000 in
theorem x_settle {t w : Nat} {a : Wd} {F : Int → Int → Int} {h : PH} {Q : PH → Prop} (H : WX h w a) (hH : HX h t a F) (S : SX h t a F) (ht : w + 22 < t) (h6 : 0 ≤ a.n 0 ∧ a.n 0 ≤ 6) (ON : OkN a) (OC : OkC a)
    (hq : ∀ g, (∀ c k, ¬ (c = t + 4 ∨ c = t + 5) → At h g c k) → CX' g t a → HoX g t a F → Q g) : w_X0_settle t w h Q := by
  have OC1 := OC.1
  have hw : ∀ g, (∀ c k, ¬ (c = t + 4 ∨ c = t + 5) → At h g c k) → WX g w a ∧ HX g t a F ∧ SX g t a F := fun g hg => ⟨H.at' (fun c k b1 b2 b3 b4 b5 b6 => hg c k (by omega)), fun n q c1 c2 c3 c4 => by rw [(hg (t + 2) _ (by omega)).2.1]; exact hH n q c1 c2 c3 c4, fun q c1 c2 => by rw [(hg (t + 3) _ (by omega)).2.1]; exact S q c1 c2⟩
  unfold w_X0_settle
  refine for10 288 (fun i g => (∀ c k, ¬ (c = t + 4 ∨ c = t + 5) → At h g c k) ∧ ∀ k : Int, 0 ≤ k → k < i → gI g (t + 4) k.toNat = z (-1)) 0 rfl (by omega) (by omega) (by omega) ⟨fun c k _ => At.rf h c k, fun k c1 c2 => by omega⟩ ?_ ?_
  · rintro kb i g i0 i1 ⟨hf, hJ⟩ hk
    unfold w_X0_settle_2
    rw [zn_288, if_neg (by rw [z_le (by omega) (by omega) (by omega) (by omega)]; omega), z_iN (by omega) (by omega), z_inc]
    refine ⟨z_in (by omega) (by omega) (by omega), ?_⟩
    rintro _ rfl
    refine hk _ ⟨fun c k hc => (hf c k hc).sI (by omega), fun k c1 c2 => ?_⟩
    by_cases e : k = i
    · rw [gI_in rfl (by omega)]; rfl
    · rw [gI_out (by omega)]; exact hJ k c1 (by omega)
  · rintro kb g ⟨hf, hJ⟩
    unfold w_X0_settle_2
    rw [zn_288, if_pos (by rw [z_le (by omega) (by omega) (by omega) (by omega)]; omega)]
    dsimp only
    rintro _ rfl
    rw [show gI g (w + 9) 3 = z (a.n 4) from ((hw g hf).1.n0 4 (by decide)).1, zn_1, z_sub]
    refine down1 (fun i g => (∀ c k, ¬ (c = t + 4 ∨ c = t + 5) → At h g c k) ∧ ∀ p m : Int, 0 ≤ p → p < 6 → 0 ≤ m → m < 48 → gI g (t + 4) (p * 48 + m).toNat = z (cloF a (i + 1) p m)) (a.n 4 - 1) rfl (by omega) (by omega) ⟨hf, fun p m c1 c2 c3 c4 => by
      rw [hJ _ (by omega) (by omega)]
      unfold cloF
      rw [show (a.n 4 - (a.n 4 - 1 + 1)).toNat = 0 by omega]
      rw [show ffr (prC a p m) 0 (a.n 4 - 1 + 1) = -1 from rfl, if_pos rfl]⟩ ?_ ?_
    · clear hJ hf g kb
      rintro kb i g i0 i1 ⟨hf, hJ⟩ hk
      obtain ⟨H', hH', S'⟩ := hw g hf
      obtain ⟨o1, o2, o3⟩ := OC.2 i i0 (by omega)
      unfold w_X0_settle_34
      rw [zn_0, if_neg (by rw [z_lt (by omega) (by omega) (by omega) (by omega)]; omega)]
      refine H'.at 4 1 (by decide) rfl (by decide) rfl rfl i0 (by omega) ?_
      rintro _ rfl
      refine H'.at 4 3 (by decide) rfl (by decide) rfl rfl i0 (by omega) ?_
      refine H'.at 4 2 (by decide) rfl (by decide) rfl rfl i0 (by omega) ?_
      rw [zn_48, z_mul, z_m1, z_add]
      refine for10 (a.f 4 3 i + 1) (fun j g => (∀ c k, ¬ (c = t + 4 ∨ c = t + 5) → At h g c k) ∧ ∀ p m : Int, 0 ≤ p → p < 6 → 0 ≤ m → m < 48 → gI g (t + 4) (p * 48 + m).toNat = z (if p = a.f 4 1 i ∧ a.f 4 2 i ≤ m ∧ m < j then a.f 4 0 i else cloF a (i + 1) p m)) (a.f 4 2 i) rfl (by omega) (by omega) (by omega) ⟨hf, fun p m c1 c2 c3 c4 => by rw [if_neg (by omega)]; exact hJ p m c1 c2 c3 c4⟩ ?_ ?_
      · clear hJ hf g H' hH' S'
        rintro kb2 j g j0 j1 ⟨hf, hJ⟩ hk2
        obtain ⟨H', hH', S'⟩ := hw g hf
        unfold w_X0_settle_73
        rw [if_neg (by rw [z_lt (by omega) (by omega) (by omega) (by omega)]; omega)]
        refine z_isMin (by omega) (by omega) ?_
        rw [if_neg (by decide), zn_0, if_neg (by rw [z_lt (by omega) (by omega) (by omega) (by omega)]; omega), zn_288, if_neg (by rw [z_le (by omega) (by omega) (by omega) (by omega)]; omega)]
        refine H'.at 4 0 (by decide) rfl (by decide) rfl rfl i0 (by omega) ?_
        rw [z_add, z_iN (by omega) (by omega), z_inc]
        refine ⟨z_in (by omega) (by omega) (by omega), ?_⟩
        rintro _ rfl
        refine hk2 _ ⟨fun c k hc => (hf c k hc).sI (by omega), fun p m c1 c2 c3 c4 => ?_⟩
        by_cases e : p * 48 + m = a.f 4 1 i * 48 + j
        · rw [gI_in rfl (by omega), if_pos (by omega)]
        · rw [gI_out (by omega), hJ p m c1 c2 c3 c4]
          congr 1
          by_cases e2 : p = a.f 4 1 i ∧ a.f 4 2 i ≤ m ∧ m < j
          · rw [if_pos e2, if_pos (by omega)]
          · rw [if_neg e2, if_neg (by omega)]
      · clear hJ hf g H' hH' S'
        rintro kb2 g ⟨hf, hJ⟩
        unfold w_X0_settle_73
        rw [if_pos (by rw [z_lt (by omega) (by omega) (by omega) (by omega)]; omega)]
        rw [show i + -1 = i - 1 by omega]
        refine hk _ ⟨hf, fun p m c1 c2 c3 c4 => ?_⟩
        rw [hJ p m c1 c2 c3 c4, show i - 1 + 1 = i by omega, cloF_s i0 (by omega)]
        congr 1
        by_cases e2 : p = a.f 4 1 i ∧ a.f 4 2 i ≤ m ∧ m < a.f 4 3 i + 1
        · rw [if_pos e2, if_pos]
          unfold prC
          rw [decide_eq_true e2.1.symm, decide_eq_true e2.2.1, decide_eq_true (by omega : m ≤ a.f 4 3 i)]; rfl
        · rw [if_neg e2, if_neg]
          unfold prC
          intro x
          simp at x
          omega
    · clear hJ hf g kb
      rintro kb g ⟨hf, hJ⟩
      unfold w_X0_settle_34
      rw [zn_0, if_pos (by rw [z_lt (by omega) (by omega) (by omega) (by omega)]; omega)]
      have hC : CX' g t a := fun p m c1 c2 c3 c4 => by
        have := hJ p m c1 c2 c3 c4
        rw [show (-1 : Int) + 1 = 0 by omega, cloF_0] at this
        exact this
      clear hJ
      refine for10 (a.n 0) (fun p g => (∀ c k, ¬ (c = t + 4 ∨ c = t + 5) → At h g c k) ∧ CX' g t a ∧ ∀ q m : Int, 0 ≤ q → q < p → 0 ≤ m → m < 48 → gI g (t + 5) (q * 48 + m).toNat = z (whs a F q m)) 0 rfl (by omega) (by omega) (by omega) ⟨hf, hC, fun q m c1 c2 => by omega⟩ ?_ ?_
      · clear hC hf g
        rintro kb2 p g p0 p1 ⟨hf, hC, hJ⟩ hk2
        obtain ⟨H', hH', S'⟩ := hw g hf
        unfold w_X0_settle_133
        rw [show gI g (w + 1) 3 = z (a.n 0) from (H'.n0 0 (by decide)).1, if_neg (by rw [z_le (by omega) (by omega) (by omega) (by omega)]; omega), zn_6, if_neg (by rw [z_le (by omega) (by omega) (by omega) (by omega)]; omega)]
        refine x_settlePlace H' hH' S' hC ht h6 ON OC ⟨p0, p1⟩ (fun g' f1 f2 f3 => ?_)
        rw [z_inc]
        refine hk2 _ ⟨fun c k hc => (hf c k hc).tr (f1 c k (by omega)), fun q m c1 c2 c3 c4 => by rw [(f1 (t + 4) _ (by omega)).1]; exact hC q m c1 c2 c3 c4, fun q m c1 c2 c3 c4 => ?_⟩
        by_cases e : q = p
        · rw [e]; exact f3 m c3 c4
        · rw [(f2 _ (by omega)).1]; exact hJ q m c1 (by omega) c3 c4
      · clear hC hf g
        rintro kb2 g ⟨hf, hC, hJ⟩
        obtain ⟨H', hH', S'⟩ := hw g hf
        unfold w_X0_settle_133
        rw [show gI g (w + 1) 3 = z (a.n 0) from (H'.n0 0 (by decide)).1, if_pos (by rw [z_le (by omega) (by omega) (by omega) (by omega)]; omega)]
        exact hq g hf hC hJ
