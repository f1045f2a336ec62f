/-! ===== the class now, and its air ===== -/
def AirX (h : PH) (t : Nat) (a : Wd) (F : Int → Int → Int) : Prop := FX h t F ∧ HX h t a F ∧ SX h t a F ∧ CX' h t a ∧ HoX h t a F
theorem AirX.at' {h g : PH} {t : Nat} {a : Wd} {F : Int → Int → Int} (A : AirX h t a F) (e : ∀ c k, t < c → c < t + 6 → At h g c k) : AirX g t a F := by
  obtain ⟨a1, a2, a3, a4, a5⟩ := A
  exact ⟨fun p q c1 c2 c3 c4 => by rw [(e (t + 1) _ (by omega) (by omega)).1]; exact a1 p q c1 c2 c3 c4, fun n p c1 c2 c3 c4 => by rw [(e (t + 2) _ (by omega) (by omega)).2.1]; exact a2 n p c1 c2 c3 c4, fun p c1 c2 => by rw [(e (t + 3) _ (by omega) (by omega)).2.1]; exact a3 p c1 c2, fun p m c1 c2 c3 c4 => by rw [(e (t + 4) _ (by omega) (by omega)).1]; exact a4 p m c1 c2 c3 c4, fun p m c1 c2 c3 c4 => by rw [(e (t + 5) _ (by omega) (by omega)).1]; exact a5 p m c1 c2 c3 c4⟩
def NX (h : PH) (w : Nat) (a : Wd) : Prop := (w = 8 ∨ w = 31) ∧ gP h 0 3 = w + 1 ∧ WX h w a ∧ Now a ∧ ((gI h 0 9 = 0 ∧ a.n 9 ≠ 1) ∨ gI h 0 9 = 1) ∧ (gI h 0 9 = 1 → AirX h 100 a (far a (-1)))
/-- cells that asking the air changes -/
def airR (w c k : Nat) : Prop := (101 ≤ c ∧ c ≤ 105) ∨ (c = 0 ∧ k = 9) ∨ c = w + 17 ∨ c = w + 18
theorem oX_w {w : Nat} (h : w = 8 ∨ w = 31) : oX w 8 := by rcases h with rfl | rfl <;> exact ⟨by decide, rfl⟩
theorem NX.p {h : PH} {w : Nat} {a : Wd} (N : NX h w a) : gP h 0 3 ≠ 0 ∧ oX (gP h 0 3 - 1) 8 ∧ gP h 0 3 - 1 = w := by
  have e : gP h 0 3 - 1 = w := by rw [N.2.1]; omega
  exact ⟨by rw [N.2.1]; omega, by rw [e]; exact oX_w N.1, e⟩
theorem Now.okx {a : Wd} (N : Now a) : OkX a := fun n c1 c2 => Or.inl (N.2.2.2.2.2.2.2.1 n c1 c2).2
theorem x_freshAir {h : PH} {w : Nat} {a : Wd} {Q : Nat → PH → Prop} (N : NX h w a) (hq : ∀ g, (∀ c k, ¬ airR w c k → At h g c k) → NX g w a → AirX g 100 a (far a (-1)) → Q 100 g) : w_X9_freshAir h Q := by
  obtain ⟨p1, p2, p3⟩ := N.p
  obtain ⟨n1, n2, n3, n4, n5, n6⟩ := id N
  have OL := n4.1
  have F3 := (far_gd (-1) OL).2.2.1
  unfold w_X9_freshAir
  rcases n5 with ⟨e, _⟩ | e
  · rw [if_pos e, p3]
    refine ⟨p1, oX_w n1, ?_⟩
    refine x_ways (g := -1) n3 OL rfl (by omega) (by omega) (fun g1 f1 X1 => ?_)
    have e1 : gP g1 0 3 = w + 1 := by rw [(f1 0 3 (by omega)).2.2]; exact n2
    rw [e1]
    refine ⟨by omega, oX_w n1, ?_⟩
    have W1 : WX g1 w a := n3.at' (fun c k b1 b2 b3 b4 b5 b6 => f1 c k (by omega))
    refine x_listen W1 n4.2.2.2.2.1 X1 (by omega) F3 OL.1 n4.2.1 n4.okx (fun g2 f2 H2 S2 => ?_)
    have e2 : gP g2 0 3 = w + 1 := by rw [(f2 0 3 (by omega)).2.2]; exact e1
    rw [e2]
    refine ⟨by omega, oX_w n1, ?_⟩
    have W2 : WX g2 w a := W1.at' (fun c k b1 b2 b3 b4 b5 b6 => f2 c k (by omega))
    refine x_settle W2 H2 S2 (by omega) OL.1 n4.2.1 n4.2.2.1 (fun g3 f3 C3 Ho3 => ?_)
    rintro _ rfl
    have A3 : AirX g3 100 a (far a (-1)) := ⟨fun p q c1 c2 c3 c4 => by rw [(f3 101 _ (by omega)).1, (f2 101 _ (by omega)).1]; exact X1 p q c1 c2 c3 c4, fun n p c1 c2 c3 c4 => by rw [(f3 102 _ (by omega)).2.1]; exact H2 n p c1 c2 c3 c4, fun p c1 c2 => by rw [(f3 103 _ (by omega)).2.1]; exact S2 p c1 c2, C3, Ho3⟩
    have A4 : AirX (sI g3 0 9 1) 100 a (far a (-1)) := A3.at' (fun c k b1 b2 => (At.rf g3 c k).sI (by omega))
    refine hq _ (fun c k hc => ?_) ⟨n1, ?_, ?_, n4, Or.inr (gI_in rfl rfl), fun _ => A4⟩ A4
    · unfold airR at hc
      exact (((f1 c k (by omega)).tr (f2 c k (by omega))).tr (f3 c k (by omega))).sI (by omega)
    · show gP g3 0 3 = _
      rw [(f3 0 3 (by omega)).2.2]; exact e2
    · exact W2.at' (fun c k b1 b2 b3 b4 b5 b6 => (f3 c k (by omega)).sI (by omega))
  · rw [if_neg (by rw [e]; decide)]
    exact hq h (fun c k _ => At.rf h c k) N (n6 e)
def a_far (a : Wd) (p q : Int) : Int := if (0 ≤ p ∧ p < a.n 0) ∧ (0 ≤ q ∧ q < a.n 0) then (if far a (-1) p q < 100000 then far a (-1) p q else -2) else -1
def a_heard (a : Wd) (p m : Int) : Int := if (0 ≤ p ∧ p < a.n 0) ∧ (0 ≤ m ∧ m < 48) then (if fst a (far a (-1)) p m = -1 then -2 else fst a (far a (-1)) p m) else -1
def a_whose (a : Wd) (p m : Int) : Int := if (0 ≤ p ∧ p < a.n 0) ∧ (0 ≤ m ∧ m < 48) then whs a (far a (-1)) p m else -1
section QX
variable {h : PH} {w : Nat} {a : Wd} {p q m : Int}
theorem xq_far {Q : Int32 → PH → Prop} (N : NX h w a) (hp : -2147483648 ≤ p ∧ p < 2147483648) (hq1 : -2147483648 ≤ q ∧ q < 2147483648) (hq : ∀ g, (∀ c k, ¬ airR w c k → At h g c k) → NX g w a → Q (z (a_far a p q)) g) : w_X9_far (z p) (z q) h Q := by
  obtain ⟨p1, p2, p3⟩ := N.p
  have n3 := N.2.2.1
  have n6 := N.2.2.2.1.1.1
  unfold w_X9_far
  rw [p3]
  refine ⟨p1, oX_w N.1, ?_⟩
  have rf := hq h (fun c k _ => At.rf h c k) N
  unfold a_far at hq rf
  refine x_has (n3.rw 0 (by decide)) rfl hp.1 hp.2 (fun c1 c2 => ?_) (fun c1 => ?_)
  · rw [if_neg (by decide), p3]
    refine ⟨p1, oX_w N.1, ?_⟩
    refine x_has (n3.rw 0 (by decide)) rfl hq1.1 hq1.2 (fun c3 c4 => ?_) (fun c3 => ?_)
    · rw [if_neg (by decide)]
      refine x_freshAir N (fun g f1 N1 A1 => ?_)
      refine ⟨rfl, ?_⟩
      refine x_way A1.1 (by omega) (by omega) ((far_gd (-1) N.2.2.2.1.1).2.2.1 p q) ?_
      have := hq g f1 N1
      rw [if_pos ⟨⟨c1, c2⟩, c3, c4⟩] at this
      exact this
    · rw [if_pos rfl]
      rw [if_neg (by omega)] at rf
      exact rf
  · rw [if_pos rfl]
    rw [if_neg (by omega)] at rf
    exact rf
theorem z_isMin' {m : Int} {h : PH} {Q : Int32 → PH → Prop} (hm : -2147483648 ≤ m ∧ m < 2147483648) (hT : 0 ≤ m → m < 48 → Q 1 h) (hF : ¬ (0 ≤ m ∧ m < 48) → Q 0 h) : w_X9_isMinute (z m) h Q := by
  unfold w_X9_isMinute
  by_cases c : m < 0
  · rw [if_pos (by rw [zn_0, z_lt (by omega) (by omega) (by omega) (by omega)]; exact c)]
    exact hF (by omega)
  · rw [if_neg (by rw [zn_0, z_lt (by omega) (by omega) (by omega) (by omega)]; exact c)]
    by_cases c2 : 48 ≤ m
    · rw [if_pos (by rw [zn_48, z_le (by omega) (by omega) (by omega) (by omega)]; exact c2)]
      exact hF (by omega)
    · rw [if_neg (by rw [zn_48, z_le (by omega) (by omega) (by omega) (by omega)]; exact c2)]
      exact hT (by omega) (by omega)
theorem xq_heard {Q : Int32 → PH → Prop} (N : NX h w a) (hp : -2147483648 ≤ p ∧ p < 2147483648) (hm : -2147483648 ≤ m ∧ m < 2147483648) (hq : ∀ g, (∀ c k, ¬ airR w c k → At h g c k) → NX g w a → Q (z (a_heard a p m)) g) : w_X9_heard (z p) (z m) h Q := by
  obtain ⟨p1, p2, p3⟩ := N.p
  have n3 := N.2.2.1
  have n6 := N.2.2.2.1.1.1
  have n13 := N.2.2.2.1.2.1.1
  unfold w_X9_heard
  rw [p3]
  refine ⟨p1, oX_w N.1, ?_⟩
  have rf := hq h (fun c k _ => At.rf h c k) N
  unfold a_heard at hq rf
  refine x_has (n3.rw 0 (by decide)) rfl hp.1 hp.2 (fun c1 c2 => ?_) (fun c1 => ?_)
  · rw [if_neg (by decide)]
    refine z_isMin' hm (fun c3 c4 => ?_) (fun c3 => ?_)
    · rw [if_neg (by decide)]
      refine x_freshAir N (fun g f1 N1 A1 => ?_)
      obtain ⟨q1, q2, q3⟩ := N1.p
      rw [q3]
      refine ⟨rfl, q1, oX_w N.1, ?_⟩
      refine x_first N1.2.2.1 A1.2.1 n6.2 n13.2 ⟨c1, c2⟩ ⟨c3, c4⟩ ?_
      have := hq g f1 N1
      rw [if_pos ⟨⟨c1, c2⟩, c3, c4⟩] at this
      have b := fst_rg N.2.2.2.1.2.1 (far a (-1)) p m
      by_cases e : fst a (far a (-1)) p m = -1
      · rw [if_pos (by rw [e]; rfl)]
        rw [if_pos e] at this
        exact this
      · rw [if_neg (by rw [z_m1]; exact z_ne (by omega) (by omega) (by omega) (by omega) e)]
        rw [if_neg e] at this
        exact this
    · rw [if_pos rfl]
      rw [if_neg (by omega)] at rf
      exact rf
  · rw [if_pos rfl]
    rw [if_neg (by omega)] at rf
    exact rf
theorem xq_whose {Q : Int32 → PH → Prop} (N : NX h w a) (hp : -2147483648 ≤ p ∧ p < 2147483648) (hm : -2147483648 ≤ m ∧ m < 2147483648) (hq : ∀ g, (∀ c k, ¬ airR w c k → At h g c k) → NX g w a → Q (z (a_whose a p m)) g) : w_X9_whose (z p) (z m) h Q := by
  obtain ⟨p1, p2, p3⟩ := N.p
  have n3 := N.2.2.1
  have n6 := N.2.2.2.1.1.1
  unfold w_X9_whose
  rw [p3]
  refine ⟨p1, oX_w N.1, ?_⟩
  have rf := hq h (fun c k _ => At.rf h c k) N
  unfold a_whose at hq rf
  refine x_has (n3.rw 0 (by decide)) rfl hp.1 hp.2 (fun c1 c2 => ?_) (fun c1 => ?_)
  · rw [if_neg (by decide)]
    refine z_isMin' hm (fun c3 c4 => ?_) (fun c3 => ?_)
    · rw [if_neg (by decide)]
      refine x_freshAir N (fun g f1 N1 A1 => ?_)
      refine ⟨rfl, ?_⟩
      unfold w_X0_holder
      refine x_isSpot (by omega) ⟨c3, c4⟩ ?_
      rw [if_neg (by decide), zn_48, z_mul, z_add, z_iN (by omega) (by omega), A1.2.2.2.2 p m c1 c2 c3 c4]
      refine ⟨z_in (by omega) (by omega) (by omega), ?_⟩
      have := hq g f1 N1
      rw [if_pos ⟨⟨c1, c2⟩, c3, c4⟩] at this
      exact this
    · rw [if_pos rfl]
      rw [if_neg (by omega)] at rf
      exact rf
  · rw [if_pos rfl]
    rw [if_neg (by omega)] at rf
    exact rf
end QX
/-! ===== the same by the reference ===== -/
def MW (h : PH) (a : Wd) : Prop := MT h a ∧ MD h 0 a ∧ Now a
/-- cells of the reference that hold nothing from one call to the next -/
def scrM (c k : Nat) : Prop := c = 32 ∨ c = 33 ∨ (45 ≤ c ∧ c ≤ 66) ∨ c = 71 ∨ (c = 0 ∧ (k = 0 ∨ k = 48 ∨ k = 62 ∨ k = 70 ∨ k = 76 ∨ k = 77 ∨ (82 ≤ k ∧ k ≤ 86) ∨ k = 92 ∨ (101 ≤ k ∧ k ≤ 104)))
theorem MW.at' {h g : PH} {a : Wd} (M : MW h a) (e : ∀ c k, ¬ scrM c k → At h g c k) : MW g a := ⟨M.1.at' (fun c k b1 b2 => e c k (by unfold scrM; omega)), M.2.1.at' (fun c k b1 b2 => e c k (by unfold scrM; omega)), M.2.2⟩
theorem fr0 (h : PH) (x : Int32) : ∀ c k, ¬ scrM c k → At h (sI h 0 0 x) c k := fun c k hc => (At.rf h c k).sI (by unfold scrM at hc; omega)
section QM
variable {h : PH} {a : Wd} {p q m : Int}
theorem m_isPlace {Q : Int32 → PH → Prop} (M : MW h a) (hp : -2147483648 ≤ p ∧ p < 2147483648) (hT : 0 ≤ p → p < a.n 0 → Q 1 h) (hF : ¬ (0 ≤ p ∧ p < a.n 0) → Q 0 h) : w_X10_isPlace (z p) h Q := by
  have n6 := M.2.2.1.1
  unfold w_X10_isPlace
  by_cases c : p < 0
  · rw [if_pos (by rw [zn_0, z_lt (by omega) (by omega) (by omega) (by omega)]; exact c)]
    exact hF (by omega)
  · rw [if_neg (by rw [zn_0, z_lt (by omega) (by omega) (by omega) (by omega)]; exact c), iN_0, M.1.1.1]
    by_cases c2 : a.n 0 ≤ p
    · rw [if_pos (by rw [z_le (by omega) (by omega) (by omega) (by omega)]; omega)]
      exact hF (by omega)
    · rw [if_neg (by rw [z_le (by omega) (by omega) (by omega) (by omega)]; omega)]
      exact hT (by omega) (by omega)
theorem m_isMin {Q : Int32 → PH → Prop} (hm : -2147483648 ≤ m ∧ m < 2147483648) (hT : 0 ≤ m → m < 48 → Q 1 h) (hF : ¬ (0 ≤ m ∧ m < 48) → Q 0 h) : w_X10_isMinute (z m) h Q := z_isMin' hm hT hF
theorem mq_far {Q : Int32 → PH → Prop} (M : MW h a) (hp : -2147483648 ≤ p ∧ p < 2147483648) (hq1 : -2147483648 ≤ q ∧ q < 2147483648) (hq : ∀ g, (∀ c k, ¬ scrM c k → At h g c k) → Q (z (a_far a p q)) g) : w_X10_far (z p) (z q) h Q := by
  unfold w_X10_far
  rintro _ rfl
  have M1 := M.at' (fr0 h 0)
  have rf := hq _ (fr0 h 0)
  have n6 := M.2.2.1.1
  unfold a_far at hq rf
  refine m_isPlace M1 hp (fun c1 c2 => ?_) (fun c1 => ?_)
  · rw [if_neg (by decide)]
    refine m_isPlace M1 hq1 (fun c3 c4 => ?_) (fun c3 => ?_)
    · rw [if_neg (by decide), iN_0]
      refine m_far (g := -1) M1.1 M.2.2.1 (WB.of M1.2.1 M.2.2.1) rfl (by omega) (fun g f1 F1 => ?_)
      have b := (far_gd (-1) M.2.2.1).2.2.1 p q
      rw [zn_6, z_mul, z_add, z_iN (by omega) (by omega), F1 p q c1 (by omega) c3 (by omega)]
      refine ⟨z_in (by omega) (by omega) (by omega), ?_⟩
      rintro _ rfl
      have := hq g (fun c k hc => (fr0 h 0 c k hc).tr (f1 c k (by unfold scrM at hc; omega)))
      rw [if_pos ⟨⟨c1, c2⟩, c3, c4⟩] at this
      by_cases e : far a (-1) p q < 100000
      · rw [if_pos (by rw [zn_100000, z_lt (by omega) (by omega) (by omega) (by omega)]; exact e)]
        rw [if_pos e] at this
        exact this
      · rw [if_neg (by rw [zn_100000, z_lt (by omega) (by omega) (by omega) (by omega)]; exact e)]
        rw [if_neg e] at this
        exact this
    · rw [if_pos rfl]
      rw [if_neg (by omega)] at rf
      exact rf
  · rw [if_pos rfl]
    rw [if_neg (by omega)] at rf
    exact rf
theorem frD {h h1 g : PH} (e0 : ∀ c k, ¬ scrM c k → At h h1 c k) (e : ∀ c k, ¬ dayR c k → At h1 g c k) : ∀ c k, ¬ scrM c k → At h g c k := fun c k hc => (e0 c k hc).tr (e c k (by unfold scrM at hc; unfold dayR; omega))
theorem mq_heard {Q : Int32 → PH → Prop} (M : MW h a) (hp : -2147483648 ≤ p ∧ p < 2147483648) (hm : -2147483648 ≤ m ∧ m < 2147483648) (hq : ∀ g, (∀ c k, ¬ scrM c k → At h g c k) → Q (z (a_heard a p m)) g) : w_X10_heard (z p) (z m) h Q := by
  unfold w_X10_heard
  rintro _ rfl
  have M1 := M.at' (fr0 h 0)
  have rf := hq _ (fr0 h 0)
  have n6 := M.2.2.1.1
  have n13 := M.2.2.2.1.1
  unfold a_heard at hq rf
  refine m_isPlace M1 hp (fun c1 c2 => ?_) (fun c1 => ?_)
  · rw [if_neg (by decide)]
    refine m_isMin hm (fun c3 c4 => ?_) (fun c3 => ?_)
    · rw [if_neg (by decide)]
      refine m_layDay M1.1 M1.2.1 M.2.2 (fun g f1 D1 => ?_)
      have b := fst_rg M.2.2.2.1 (far a (-1)) p m
      rw [zn_48, z_mul, z_add, z_iN (by omega) (by omega), D1.2.2.2.2.1 p m c1 c2 c3 c4]
      refine ⟨z_in (by omega) (by omega) (by omega), ?_⟩
      rintro _ rfl
      have := hq g (frD (fr0 h 0) f1)
      rw [if_pos ⟨⟨c1, c2⟩, c3, c4⟩] at this
      by_cases e : fst a (far a (-1)) p m = -1
      · rw [if_pos (by rw [e]; rfl)]
        rw [if_pos e] at this
        exact this
      · rw [if_neg (by rw [z_m1]; exact z_ne (by omega) (by omega) (by omega) (by omega) e)]
        rw [if_neg e] at this
        exact this
    · rw [if_pos rfl]
      rw [if_neg (by omega)] at rf
      exact rf
  · rw [if_pos rfl]
    rw [if_neg (by omega)] at rf
    exact rf
theorem mq_whose {Q : Int32 → PH → Prop} (M : MW h a) (hp : -2147483648 ≤ p ∧ p < 2147483648) (hm : -2147483648 ≤ m ∧ m < 2147483648) (hq : ∀ g, (∀ c k, ¬ scrM c k → At h g c k) → Q (z (a_whose a p m)) g) : w_X10_whose (z p) (z m) h Q := by
  unfold w_X10_whose
  rintro _ rfl
  have M1 := M.at' (fr0 h 0)
  have rf := hq _ (fr0 h 0)
  have n6 := M.2.2.1.1
  unfold a_whose at hq rf
  refine m_isPlace M1 hp (fun c1 c2 => ?_) (fun c1 => ?_)
  · rw [if_neg (by decide)]
    refine m_isMin hm (fun c3 c4 => ?_) (fun c3 => ?_)
    · rw [if_neg (by decide)]
      refine m_layDay M1.1 M1.2.1 M.2.2 (fun g f1 D1 => ?_)
      rw [zn_48, z_mul, z_add, z_iN (by omega) (by omega), D1.2.2.2.2.2.2 p m c1 c2 c3 c4]
      refine ⟨z_in (by omega) (by omega) (by omega), ?_⟩
      have := hq g (frD (fr0 h 0) f1)
      rw [if_pos ⟨⟨c1, c2⟩, c3, c4⟩] at this
      exact this
    · rw [if_pos rfl]
      rw [if_neg (by omega)] at rf
      exact rf
  · rw [if_pos rfl]
    rw [if_neg (by omega)] at rf
    exact rf
end QM
