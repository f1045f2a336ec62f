/-! ===== the reader of the class: steps ===== -/
def RdS (h : PH) (v : Nat) (T : Int → Int) (L : Int) (s : PS) : Prop := (v = 8 ∨ v = 31) ∧ gP h 2 7 = v + 1 ∧ ScX h T L ∧ WX h v s.a ∧ (∀ i, i < 3 → gI h 6 i = z (s.on i)) ∧ gI h 2 6 = z s.kc
/-- what reading may change -/
def rdC (v c k : Nat) : Prop := (v ≤ c ∧ c < v + 23) ∨ (c = 2 ∧ 4 ≤ k ∧ k ≤ 6) ∨ (c = 3 ∧ 3 ≤ k ∧ k ≤ 6) ∨ c = 5 ∨ c = 6 ∨ c = 7
def Fr (v : Nat) (h g : PH) : Prop := ∀ c k, ¬ rdC v c k → At h g c k
def Fb (v : Nat) (h g : PH) : Prop := ∀ c k, ¬ (rdC v c k ∨ (c = 2 ∧ 8 ≤ k ∧ k ≤ 9)) → At h g c k
def Fa (v : Nat) (h g : PH) (k u : Int) : Prop := gI g 2 8 = z k ∧ gI g 2 9 = z u ∧ WS g v ∧ Fb v h g
theorem Fr.rf (v : Nat) (h : PH) : Fr v h h := fun c k _ => At.rf h c k
theorem Fr.tr {v : Nat} {h g f : PH} (a : Fr v h g) (b : Fr v g f) : Fr v h f := fun c k hc => (a c k hc).tr (b c k hc)
theorem Fa.tr {v : Nat} {h g f : PH} {k u : Int} (a : Fr v h g) (b : Fa v g f k u) : Fa v h f k u := ⟨b.1, b.2.1, b.2.2.1, fun c k hc => (a c k (fun x => hc (Or.inl x))).tr (b.2.2.2 c k hc)⟩
/-- what a step changes -/
def stC (c k : Nat) : Prop := (c = 3 ∧ 3 ≤ k ∧ k ≤ 6) ∨ c = 5 ∨ c = 7 ∨ (c = 2 ∧ (k = 4 ∨ k = 5))
section RDS
variable {h g : PH} {v : Nat} {T : Int → Int} {L p : Int} {s : PS}
theorem RdS.hv (R : RdS h v T L s) : v = 8 ∨ v = 31 := R.1
theorem RdS.o1 (R : RdS h v T L s) : gP h 2 7 ≠ 0 := by rw [R.2.1]; omega
theorem RdS.w (R : RdS h v T L s) : gP h 2 7 - 1 = v := by rw [R.2.1]; omega
theorem RdS.o2 (R : RdS h v T L s) : oX (gP h 2 7 - 1) 8 := by
  rw [R.w]
  rcases R.1 with e | e <;> rw [e] <;> exact ⟨by decide, rfl⟩
theorem RdS.at' (R : RdS h v T L s) (e : ∀ c k, ¬ stC c k → At h g c k) : RdS g v T L s := by
  have hv := R.1
  obtain ⟨r1, r2, r3, r4, r5, r6⟩ := R
  refine ⟨r1, ?_, r3.at' (fun c k hc => e c k (by unfold stC; omega)), r4.at' (fun c k b1 b2 _ _ _ _ => e c k (by unfold stC; omega)), fun i hi => ?_, ?_⟩
  · rw [(e 2 7 (by unfold stC; omega)).2.2]; exact r2
  · rw [(e 6 i (by unfold stC; omega)).1]; exact r5 i hi
  · rw [(e 2 6 (by unfold stC; omega)).1]; exact r6
theorem st_fr (hv : v = 8 ∨ v = 31) (e : ∀ c k, ¬ stC c k → At h g c k) : Fr v h g := fun c k hc => e c k (by unfold rdC at hc; unfold stC; omega)
theorem x_refuse {Q : Int32 → PH → Prop} {k : Int} {x : Int32} (R : RdS h v T L s) (ex : x = z k) (e5 : gI h 3 5 = z (tS T L p)) (hq : ∀ g, Fa v h g k (tS T L p) → Q 0 g) : w_X5_refuse x h Q := by
  have hv := R.1
  subst ex
  unfold w_X5_refuse
  rintro _ rfl _ rfl
  rw [gI_out (by omega), e5]
  exact hq _ ⟨by rw [gI_out (by omega), gI_in rfl rfl], gI_in rfl rfl, R.2.2.2.1.ws.at' (fun r hr => ⟨by rw [gI_out (by omega), gI_out (by omega)], by rw [gI_out (by omega), gI_out (by omega)]⟩), fun c k hc => ((At.rf h c k).sI (by unfold rdC at hc; omega)).sI (by unfold rdC at hc; omega)⟩
theorem x_hasRoom {Q : Int32 → PH → Prop} {r t : Nat} {m : Int} {x2 : Int32} (R : RdS h v T L s) (hr : r < 7) (ht : t = v + 1 + 2 * r) (ex : x2 = z m) (hm : 0 ≤ m ∧ m < 100) (e5 : gI h 3 5 = z (tS T L p)) (hT : s.a.n r < m → Q 1 h) (hF : ¬ s.a.n r < m → ∀ g, Fa v h g 2 (tS T L p) → Q 0 g) : w_X5_hasRoom t x2 h Q := by
  subst ht ex
  have n0 := R.2.2.2.1.n0 r hr
  have cm : cM r ≤ 16 := by
    have : r = 0 ∨ r = 1 ∨ r = 2 ∨ r = 3 ∨ r = 4 ∨ r = 5 ∨ r = 6 := by omega
    rcases this with rfl | rfl | rfl | rfl | rfl | rfl | rfl <;> decide
  unfold w_X5_hasRoom
  rw [n0.1]
  by_cases c : s.a.n r < m
  · rw [if_pos (by rw [z_lt (by omega) (by omega) (by omega) (by omega)]; omega)]; exact hT c
  · rw [if_neg (by rw [z_lt (by omega) (by omega) (by omega) (by omega)]; omega)]
    refine x_refuse (k := 2) R rfl e5 (fun g F => ?_)
    rw [if_pos rfl]
    exact hF c g F
theorem x_adv {Q : PH → Prop} (R : RdS h v T L s) (hp : 0 ≤ p ∧ p ≤ L) (e : gI h 3 3 = z p) (hq : ∀ g, RdS g v T L s → Fr v h g → (∀ j, gI g 5 j = gI h 5 j) → (∀ j, j < 3 → gI g 6 j = gI h 6 j) → TcX g T L p → (∀ c k, ¬ (c = 3 ∧ 3 ≤ k ∧ k ≤ 6) → At h g c k) → Q g) : w_X7_advance h Q := by
  have hv := R.1
  refine x_advance R.2.2.1 hp e (fun g f t => ?_)
  have e' : ∀ c k, ¬ stC c k → At h g c k := fun c k hc => f c k (by unfold stC at hc; omega)
  exact hq g (R.at' e') (st_fr hv e') (fun j => (f 5 j (by omega)).1) (fun j _ => (f 6 j (by omega)).1) t f
theorem x_nam {Q : Int32 → PH → Prop} {r t : Nat} {n : Int} (R : RdS h v T L s) (hr : r = 0 ∨ r = 2) (ht : t = v + 1 + 2 * r) (hb : ∀ k, 0 ≤ k → k < s.a.n r → 0 ≤ s.a.f r 0 k ∧ s.a.f r 0 k < 1073741824) (hn : 0 ≤ n ∧ n < 1073741824) (hq : Q (z (fnd s.a r n)) h) : w_X6_find t 0 (z n) h Q := by
  subst ht
  have w := R.2.2.2.1
  refine x_find (c := 0) (v := n) (f := s.a.f r 0) (w.rw r (by omega)) rfl rfl (by omega) (by omega) (by rcases hr with rfl | rfl <;> decide) (fun k k0 k1 => ?_) hq
  have := (w.1 r (by omega)).2 k 0 k0 k1 (by rcases hr with rfl | rfl <;> decide)
  have b := hb k k0 k1
  rw [show v + 1 + 2 * r + 1 = v + 2 + 2 * r by omega]
  exact ⟨this, by omega, by omega⟩
theorem fnd_rg {a : Wd} {r : Nat} {n : Int} (h : 0 ≤ a.n r) : -1 ≤ fnd a r n ∧ fnd a r n < a.n r := ff_rg _ h
theorem x_takeTold {Q : Int32 → PH → Prop} {r t j : Nat} {x2 : Int32} {K : Int → Int → PR} (R : RdS h v T L s) (hp : 0 ≤ p ∧ p ≤ L) (e : gI h 3 3 = z p) (hr : r = 0 ∨ r = 2) (ht : t = v + 1 + 2 * r) (ex : x2 = z j) (hj : j < 5) (hb : ∀ k, 0 ≤ k → k < s.a.n r → 0 ≤ s.a.f r 0 k ∧ s.a.f r 0 k < 1073741824)
    (hF : ∀ g k, pTold T L s.a r K p = .inl (k, tS T L p) → Fa v h g k (tS T L p) → Q 0 g)
    (hT : ∀ g i, pTold T L s.a r K p = K i p → 0 ≤ i → i < s.a.n r → tK T L p = 3 → RdS g v T L s → Fr v h g → TcX g T L p → gI g 5 j = z i → (∀ k, k ≠ j → gI g 5 k = gI h 5 k) → Q 1 g) : w_X5_takeTold t x2 h Q := by
  have hv := R.1
  subst ex
  have n0 := (R.2.2.2.1.n0 r (by omega)).2
  have cm : cM r ≤ 16 := by rcases hr with rfl | rfl <;> decide
  unfold pTold pF at hF hT
  unfold w_X5_takeTold
  refine x_adv R hp e (fun g R1 f1 c5 c6 t1 ff1 => ?_)
  obtain ⟨t2, t3, t4, n, t5, t6⟩ := t1
  have tr := tok_rg (T := T) R.2.2.1.2.2.2.2.1 hp
  rw [t4]
  by_cases k3 : tK T L p = 3
  · rw [if_pos (by rw [k3]; rfl), t5]
    have en : n = tV T L p := t6.2 (by omega)
    have tv := tr.2.2.2.2.2.2.1 k3
    rw [← en] at tv hT hF
    refine x_nam R1 hr ht hb tv ?_
    have fr := fnd_rg (n := n) n0.1
    rw [if_pos k3] at hF hT
    refine ⟨z_in (by omega) (by omega) (by omega), ?_⟩
    rintro _ rfl
    refine ⟨z_in (by omega) (by omega) (by omega), ?_⟩
    rw [z_iN (a := ((j : Nat) : Int)) (by omega) (by omega), gI_in rfl (by omega)]
    have fs : ∀ c k, ¬ stC c k → At h (sI g 5 ((j : Int)).toNat (z (fnd s.a r n))) c k := fun c k hc => (ff1 c k (by unfold stC at hc; omega)).sI (by unfold stC at hc; omega)
    by_cases c : fnd s.a r n = -1
    · rw [if_pos (by rw [c]; rfl)]
      rw [if_pos c] at hF
      refine x_refuse (k := 4) (R.at' fs) rfl (by rw [gI_out (by omega)]; exact t3) (fun g2 F => ?_)
      rw [if_pos rfl]
      exact hF g2 4 rfl (Fa.tr (st_fr hv fs) F)
    · rw [if_neg (show ¬ z (fnd s.a r n) = -1 from z_ne (by omega) (by omega) (by decide) (by decide) c)]
      rw [if_neg c] at hT
      refine hT _ _ rfl (by omega) fr.2 k3 (R.at' fs) (st_fr hv fs) ⟨?_, ?_, ?_, n, ?_, t6⟩ ?_ (fun k hk => ?_)
      · rw [gI_out (by omega)]; exact t2
      · rw [gI_out (by omega)]; exact t3
      · rw [gI_out (by omega)]; exact t4
      · rw [gI_out (by omega)]; exact t5
      · rw [gI_in rfl (by omega)]
      · rw [gI_out (by omega)]; exact c5 k
  · rw [if_neg (show ¬ z (tK T L p) = 3 from z_ne (by omega) (by omega) (by decide) (by decide) k3)]
    rw [if_neg k3] at hF
    refine x_refuse (k := 1) R1 rfl t3 (fun g2 F => ?_)
    exact ⟨Or.inl rfl, hF g2 1 rfl (Fa.tr f1 F)⟩
theorem x_takeNewName {Q : Int32 → PH → Prop} {r t : Nat} {K : Int → Int → PR} (R : RdS h v T L s) (hp : 0 ≤ p ∧ p ≤ L) (e : gI h 3 3 = z p) (hr : r = 0 ∨ r = 2) (ht : t = v + 1 + 2 * r) (hb : ∀ k, 0 ≤ k → k < s.a.n r → 0 ≤ s.a.f r 0 k ∧ s.a.f r 0 k < 1073741824)
    (hF : ∀ g k, pNew T L s.a r K p = .inl (k, tS T L p) → Fa v h g k (tS T L p) → Q 0 g)
    (hT : ∀ g i, pNew T L s.a r K p = K i p → tK T L p = 3 → RdS g v T L s → Fr v h g → TcX g T L p → gI g 5 0 = z i → (∀ k, k ≠ 0 → gI g 5 k = gI h 5 k) → Q 1 g) : w_X5_takeNewName t h Q := by
  have hv := R.1
  have n0 := (R.2.2.2.1.n0 r (by omega)).2
  have cm : cM r ≤ 16 := by rcases hr with rfl | rfl <;> decide
  unfold pNew pF at hF hT
  unfold w_X5_takeNewName
  refine x_adv R hp e (fun g R1 f1 c5 c6 t1 ff1 => ?_)
  obtain ⟨t2, t3, t4, n, t5, t6⟩ := t1
  have tr := tok_rg (T := T) R.2.2.1.2.2.2.2.1 hp
  rw [t4]
  by_cases k3 : tK T L p = 3
  · rw [if_pos (by rw [k3]; rfl), t5]
    have en : n = tV T L p := t6.2 (by omega)
    have tv := tr.2.2.2.2.2.2.1 k3
    rw [← en] at tv hT hF
    rintro _ rfl
    rw [show iN 0 = 0 from rfl, gI_out (by omega), t5]
    have fs : ∀ c k, ¬ stC c k → At h (sI g 5 0 (z n)) c k := fun c k hc => (ff1 c k (by unfold stC at hc; omega)).sI (by unfold stC at hc; omega)
    have R2 := R.at' fs
    refine x_nam R2 hr ht hb tv ?_
    have fr := fnd_rg (n := n) n0.1
    rw [if_pos k3] at hF hT
    by_cases c : fnd s.a r n = -1
    · rw [if_pos (by rw [c]; rfl)]
      rw [if_pos c] at hT
      refine hT _ _ rfl k3 R2 (st_fr hv fs) ⟨?_, ?_, ?_, n, ?_, t6⟩ ?_ (fun k hk => ?_)
      · rw [gI_out (by omega)]; exact t2
      · rw [gI_out (by omega)]; exact t3
      · rw [gI_out (by omega)]; exact t4
      · rw [gI_out (by omega)]; exact t5
      · rw [gI_in rfl rfl]
      · rw [gI_out (by omega)]; exact c5 k
    · rw [if_neg (show ¬ z (fnd s.a r n) = -1 from z_ne (by omega) (by omega) (by decide) (by decide) c)]
      rw [if_neg c] at hF
      refine x_refuse (k := 3) R2 rfl (by rw [gI_out (by omega)]; exact t3) (fun g2 F => ?_)
      rw [if_pos rfl]
      exact hF g2 3 rfl (Fa.tr (st_fr hv fs) F)
  · rw [if_neg (show ¬ z (tK T L p) = 3 from z_ne (by omega) (by omega) (by decide) (by decide) k3)]
    rw [if_neg k3] at hF
    refine x_refuse (k := 1) R1 rfl t3 (fun g2 F => ?_)
    exact ⟨Or.inl rfl, hF g2 1 rfl (Fa.tr f1 F)⟩
theorem x_takeNum {Q : Int32 → PH → Prop} {j : Nat} {lo hi : Int} {x1 x2 x3 : Int32} {K : Int → Int → PR} (R : RdS h v T L s) (hp : 0 ≤ p ∧ p ≤ L) (e : gI h 3 3 = z p) (ex : x1 = z j) (hj : j < 5) (e2 : x2 = z lo) (e3 : x3 = z hi) (hl : 0 ≤ lo ∧ lo ≤ 99999) (hh : 0 ≤ hi ∧ hi ≤ 99999)
    (hF : ∀ g k, pNum T L lo hi K p = .inl (k, tS T L p) → Fa v h g k (tS T L p) → Q 0 g)
    (hT : ∀ g i, pNum T L lo hi K p = K i p → lo ≤ i → i ≤ hi → tK T L p = 2 → RdS g v T L s → Fr v h g → TcX g T L p → gI g 5 j = z i → (∀ k, k ≠ j → gI g 5 k = gI h 5 k) → Q 1 g) : w_X5_takeNumber x1 x2 x3 h Q := by
  have hv := R.1
  subst ex e2 e3
  unfold pNum pF at hF hT
  unfold w_X5_takeNumber
  refine x_adv R hp e (fun g R1 f1 c5 c6 t1 ff1 => ?_)
  obtain ⟨t2, t3, t4, n, t5, t6⟩ := t1
  have tr := tok_rg (T := T) R.2.2.1.2.2.2.2.1 hp
  rw [t4]
  by_cases k3 : tK T L p = 2
  · rw [if_pos (by rw [k3]; rfl), t5]
    have en := t6.1 k3
    have tv := tr.2.2.2.2.2.1 k3
    rw [if_pos k3] at hF hT
    refine ⟨z_in (by omega) (by omega) (by omega), ?_⟩
    rintro _ rfl
    rw [z_iN (a := ((j : Nat) : Int)) (by omega) (by omega), gI_out (by omega), t5]
    have fs : ∀ c k, ¬ stC c k → At h (sI g 5 ((j : Int)).toNat (z n)) c k := fun c k hc => (ff1 c k (by unfold stC at hc; omega)).sI (by unfold stC at hc; omega)
    have bad : ¬ (lo ≤ tV T L p ∧ tV T L p ≤ hi) → w_X5_takeNumber_59 Q (sI g 5 ((j : Int)).toNat (z n)) := fun c => by
      rw [if_neg c] at hF
      unfold w_X5_takeNumber_59
      refine x_refuse (k := 2) (R.at' fs) rfl (by rw [gI_out (by omega)]; exact t3) (fun g2 F => ?_)
      rw [if_pos rfl]
      exact hF g2 2 rfl (Fa.tr (st_fr hv fs) F)
    by_cases c1 : n < lo
    · rw [if_pos (by rw [z_lt (by omega) (by omega) (by omega) (by omega)]; omega)]; exact bad (by omega)
    · rw [if_neg (by rw [z_lt (by omega) (by omega) (by omega) (by omega)]; omega)]
      by_cases c2 : n ≤ hi
      · rw [if_pos (by rw [z_le (by omega) (by omega) (by omega) (by omega)]; omega)]
        have nt : n = tV T L p := by omega
        rw [if_pos (by omega), ← nt] at hT
        refine hT _ _ rfl (by omega) c2 k3 (R.at' fs) (st_fr hv fs) ⟨?_, ?_, ?_, n, ?_, t6⟩ ?_ (fun k hk => ?_)
        · rw [gI_out (by omega)]; exact t2
        · rw [gI_out (by omega)]; exact t3
        · rw [gI_out (by omega)]; exact t4
        · rw [gI_out (by omega)]; exact t5
        · rw [gI_in rfl (by omega)]
        · rw [gI_out (by omega)]; exact c5 k
      · rw [if_neg (by rw [z_le (by omega) (by omega) (by omega) (by omega)]; omega)]; exact bad (by omega)
  · rw [if_neg (show ¬ z (tK T L p) = 2 from z_ne (by omega) (by omega) (by decide) (by decide) k3)]
    rw [if_neg k3] at hF
    refine x_refuse (k := 1) R1 rfl t3 (fun g2 F => ?_)
    exact ⟨Or.inl rfl, hF g2 1 rfl (Fa.tr f1 F)⟩
theorem x_isSgn {Q : Int32 → PH → Prop} {n : Int} {x : Int32} (t : TcX h T L p) (ht : ∀ k, 0 ≤ T k ∧ T k < 256) (hp : 0 ≤ p ∧ p ≤ L) (ex : x = z n) (hn : 0 ≤ n ∧ n < 300) (hq : Q (z (bI (isS T L p n))) h) : w_X7_isSign x h Q := by
  subst ex
  obtain ⟨t2, t3, t4, m, t5, t6⟩ := t
  have tr := tok_rg (T := T) ht hp
  unfold isS at hq
  unfold w_X7_isSign
  rw [t4, t5]
  by_cases k5 : tK T L p = 5
  · rw [if_pos (by rw [k5]; rfl)]
    have em : m = tV T L p := t6.2 (by omega)
    have tv := tr.2.2.2.2.2.2.2.2 k5
    rw [decide_eq_true k5, ← em] at hq
    by_cases c : m = n
    · rw [if_pos (by rw [c])]
      rw [decide_eq_true c] at hq
      exact hq
    · rw [if_neg (z_ne (by omega) (by omega) (by omega) (by omega) c)]
      rw [decide_eq_false c] at hq
      exact hq
  · rw [if_neg (show ¬ z (tK T L p) = 5 from z_ne (by omega) (by omega) (by decide) (by decide) k5)]
    rw [decide_eq_false k5] at hq
    exact hq
theorem x_isWrd {Q : Int32 → PH → Prop} {n : Int} {x : Int32} (t : TcX h T L p) (ht : ∀ k, 0 ≤ T k ∧ T k < 256) (hp : 0 ≤ p ∧ p ≤ L) (ex : x = z n) (hn : 0 ≤ n ∧ n < 300) (hq : Q (z (bI (isWd T L p n))) h) : w_X7_isWord x h Q := by
  subst ex
  obtain ⟨t2, t3, t4, m, t5, t6⟩ := t
  have tr := tok_rg (T := T) ht hp
  unfold isWd at hq
  unfold w_X7_isWord
  rw [t4, t5]
  by_cases k5 : tK T L p = 4
  · rw [if_pos (by rw [k5]; rfl)]
    have em : m = tV T L p := t6.2 (by omega)
    have tv := tr.2.2.2.2.2.2.2.1 k5
    rw [decide_eq_true k5, ← em] at hq
    by_cases c : m = n
    · rw [if_pos (by rw [c])]
      rw [decide_eq_true c] at hq
      exact hq
    · rw [if_neg (z_ne (by omega) (by omega) (by omega) (by omega) c)]
      rw [decide_eq_false c] at hq
      exact hq
  · rw [if_neg (show ¬ z (tK T L p) = 4 from z_ne (by omega) (by omega) (by decide) (by decide) k5)]
    rw [decide_eq_false k5] at hq
    exact hq
theorem x_takeEnd {Q : Int32 → PH → Prop} {s' : PS} (R : RdS h v T L s) (hp : 0 ≤ p ∧ p ≤ L) (e : gI h 3 3 = z p)
    (hF : ∀ g k, pEnd T L s' p = .inl (k, tS T L p) → Fa v h g k (tS T L p) → Q 0 g)
    (hT : ∀ g, pEnd T L s' p = .inr (s', tE T L p) → RdS g v T L s → Fr v h g → gI g 3 3 = z (tE T L p) → (∀ k, gI g 5 k = gI h 5 k) → Q 1 g) : w_X5_takeEnd h Q := by
  have hv := R.1
  unfold pEnd pF at hF hT
  unfold w_X5_takeEnd
  refine x_adv R hp e (fun g R1 f1 c5 c6 t1 ff1 => ?_)
  have ht := R.2.2.1.2.2.2.2.1
  refine x_isSgn t1 ht hp (n := 59) rfl (by omega) ?_
  have t2 := t1.1
  have t3 := t1.2.1
  cases c : isS T L p 59 with
  | true =>
    rw [if_neg (show ¬ z (bI true) = 0 by decide)]
    rw [if_pos (isS_iff.mp c)] at hT
    exact hT g rfl R1 f1 t2 c5
  | false =>
    rw [if_pos (show z (bI false) = 0 from rfl)]
    have c' : ¬ (tK T L p = 5 ∧ tV T L p = 59) := fun x => by
      rw [isS_iff.mpr x] at c
      exact absurd c (by decide)
    rw [if_neg c'] at hF
    refine x_refuse (k := 1) R1 rfl t3 (fun g2 F => ?_)
    rw [if_pos rfl]
    exact hF g2 1 rfl (Fa.tr f1 F)
theorem x_addRow {Q : Int32 → PH → Prop} {r t : Nat} {f : Nat → Int} (R : RdS h v T L s) (hr : r < 7) (ht : t = v + 1 + 2 * r) (hn : s.a.n r < cM r) (hf : ∀ c : Nat, c < 5 → (c : Int) < cW r → gI h 5 c = z (f c)) (h5 : f 5 = 0)
    (hq : ∀ g, RdS g v T L (s.wd (adR s.a r f)) → Fr v h g → gI g 3 3 = gI h 3 3 → Q 1 g) : w_X5_addRow t h Q := by
  have hv := R.1
  unfold w_X5_addRow
  rw [show iN 0 = 0 from rfl, show iN 1 = 1 from rfl, show iN 2 = 2 from rfl, show iN 3 = 3 from rfl, show iN 4 = 4 from rfl]
  obtain ⟨r1, r2, r3, r4, r5, r6⟩ := R
  refine x_addW (f := f) r4 r hr ht hn (fun c hc => ?_) (fun g e W => ?_)
  · have cw : cW r ≤ 6 := by
      have : r = 0 ∨ r = 1 ∨ r = 2 ∨ r = 3 ∨ r = 4 ∨ r = 5 ∨ r = 6 := by omega
      rcases this with rfl | rfl | rfl | rfl | rfl | rfl | rfl <;> decide
    have : c = 0 ∨ c = 1 ∨ c = 2 ∨ c = 3 ∨ c = 4 ∨ c = 5 := by omega
    rcases this with rfl | rfl | rfl | rfl | rfl | rfl
    · exact hf 0 (by omega) hc
    · exact hf 1 (by omega) hc
    · exact hf 2 (by omega) hc
    · exact hf 3 (by omega) hc
    · exact hf 4 (by omega) hc
    · rw [h5]; rfl
  · refine hq g ⟨r1, by rw [(e 2 7 (by omega)).2.2]; exact r2, r3.at' (fun c k hc => e c k (by omega)), W, fun i hi => by rw [(e 6 i (by omega)).1]; exact r5 i hi, by rw [(e 2 6 (by omega)).1]; exact r6⟩ (fun c k hc => e c k (by unfold rdC at hc; omega)) (e 3 3 (by omega)).1
theorem x_putR {Q : PH → Prop} {r t c : Nat} {k u : Int} {x1 x2 x3 : Int32} (R : RdS h v T L s) (hr : r < 7) (ht : t = v + 1 + 2 * r) (hc : (c : Int) < cW r) (e1 : x1 = z k) (e2 : x2 = z c) (e3 : x3 = z u) (k0 : 0 ≤ k) (k1 : k < s.a.n r)
    (hq : ∀ g, RdS g v T L (s.wd (upF s.a r c (fun j => if j = k then u else s.a.f r c j))) → Fr v h g → gI g 3 3 = gI h 3 3 → Q g) : w_X6_put t x1 x2 x3 h Q := by
  have hv := R.1
  obtain ⟨r1, r2, r3, r4, r5, r6⟩ := R
  refine x_putW r4 r c hr ht hc e1 e2 e3 k0 k1 (fun g e W => ?_)
  refine hq g ⟨r1, by rw [(e 2 7 (by omega)).2.2]; exact r2, r3.at' (fun c k hc => e c k (by omega)), W, fun i hi => by rw [(e 6 i (by omega)).1]; exact r5 i hi, by rw [(e 2 6 (by omega)).1]; exact r6⟩ (fun c k hc => e c k (by unfold rdC at hc; omega)) (e 3 3 (by omega)).1
end RDS
