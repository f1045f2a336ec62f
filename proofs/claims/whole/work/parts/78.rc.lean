/-! ===== what is undone: records against kept days ===== -/
/-- one pays another -/
def py (a : Wd) (f t p : Int) : Wd := upF a 2 1 (fun j => if j = f then a.f 2 1 j - p else if j = t then a.f 2 1 j + p else a.f 2 1 j)
def chg (r c : Nat) : Prop := r = 3 ∨ (r = 4 ∧ c = 0) ∨ (r = 1 ∧ c = 3) ∨ (r = 2 ∧ c = 1) ∨ (r = 7 ∧ c = 2)
/-- two days of one told world -/
def Tld (a b : Wd) : Prop := (∀ r, r ≠ 3 → b.n r = a.n r) ∧ (∀ r c k, ¬ chg r c → b.f r c k = a.f r c k) ∧ b.fd = a.fd ∧ b.wo = a.wo
theorem Tld.rf (a : Wd) : Tld a a := ⟨fun _ _ => rfl, fun _ _ _ _ => rfl, rfl, rfl⟩
theorem Tld.sy {a b : Wd} (T : Tld a b) : Tld b a := ⟨fun r hr => (T.1 r hr).symm, fun r c k hc => (T.2.1 r c k hc).symm, T.2.2.1.symm, T.2.2.2.symm⟩
theorem Tld.tr {a b c : Wd} (T : Tld a b) (U : Tld b c) : Tld a c := ⟨fun r hr => (U.1 r hr).trans (T.1 r hr), fun r d k hc => (U.2.1 r d k hc).trans (T.2.1 r d k hc), U.2.2.1.trans T.2.2.1, U.2.2.2.trans T.2.2.2⟩
theorem Tld.up {a : Wd} {r c : Nat} {f : Int → Int} (h : chg r c) : Tld a (upF a r c f) := ⟨fun _ _ => rfl, fun r' c' k hc => upF_out (fun e => hc (by rw [e.1, e.2]; exact h)), rfl, rfl⟩
theorem Tld.ad {a : Wd} {f : Nat → Int} : Tld a (adR a 3 f) := ⟨fun r hr => adR_n' hr, fun r c k hc => adR_out (fun e => hc (Or.inl e.1)), rfl, rfl⟩
theorem MT.tld {h : PH} {a b : Wd} (M : MT h a) (T : Tld a b) : MT h b := by
  obtain ⟨tn, tf, t1, t2⟩ := T
  obtain ⟨⟨a0, a1, a2, a3, a4, a5, a6, a7⟩, m0, m1, m2, m4, m5, m6, K1, K2, kk⟩ := M
  have E : ∀ r c k, ¬ chg r c → a.f r c k = b.f r c k := fun r c k hc => (tf r c k hc).symm
  have En : ∀ r, r ≠ 3 → a.n r = b.n r := fun r hr => (tn r hr).symm
  refine ⟨⟨?_, ?_, ?_, ?_, ?_, ?_, ?_, ?_⟩, fun k b1 b2 => ?_, fun k b1 b2 => ?_, fun k b1 b2 => ?_, fun k b1 b2 => ?_, fun k b1 b2 => ?_, fun k b1 b2 => ?_, ?_, ?_, ?_⟩
  · rw [← En 0 (by decide)]; exact a0
  · rw [← En 1 (by decide)]; exact a1
  · rw [← En 2 (by decide)]; exact a2
  · rw [← En 4 (by decide)]; exact a3
  · rw [← En 5 (by decide)]; exact a4
  · rw [← En 6 (by decide)]; exact a5
  · rw [← E 7 0 0 (by unfold chg; omega)]; exact a6
  · rw [← E 7 1 0 (by unfold chg; omega)]; exact a7
  · rw [← En 0 (by decide)] at b2
    rw [← E 0 0 k (by unfold chg; omega), ← E 0 1 k (by unfold chg; omega)]; exact m0 k b1 b2
  · rw [← En 1 (by decide)] at b2
    rw [← E 1 0 k (by unfold chg; omega), ← E 1 1 k (by unfold chg; omega), ← E 1 2 k (by unfold chg; omega)]; exact m1 k b1 b2
  · rw [← En 2 (by decide)] at b2
    rw [← E 2 0 k (by unfold chg; omega), ← E 2 2 k (by unfold chg; omega)]; exact m2 k b1 b2
  · rw [← En 4 (by decide)] at b2
    rw [← E 4 1 k (by unfold chg; omega), ← E 4 2 k (by unfold chg; omega), ← E 4 3 k (by unfold chg; omega)]; exact m4 k b1 b2
  · rw [← En 5 (by decide)] at b2
    rw [← E 5 0 k (by unfold chg; omega), ← E 5 1 k (by unfold chg; omega), ← E 5 2 k (by unfold chg; omega), ← E 5 3 k (by unfold chg; omega)]; exact m5 k b1 b2
  · rw [← En 6 (by decide)] at b2
    rw [← E 6 0 k (by unfold chg; omega), ← E 6 1 k (by unfold chg; omega), ← E 6 2 k (by unfold chg; omega), ← E 6 3 k (by unfold chg; omega)]; exact m6 k b1 b2
  · rw [t1]; exact K1
  · rw [t2]; exact K2
  · rw [t1, t2]; exact kk
/-- a record of the log: from the day b to the day b' -/
def Rc (r0 r1 r2 r3 r4 : Int) (b b' : Wd) : Prop :=
  (r0 = 0 ∧ ∃ f, b' = adR b 3 f) ∨
  (r0 = 1 ∧ (0 ≤ r1 ∧ r1 < b.n 3) ∧ b.f 3 5 r1 = 0 ∧ b' = upF b 3 5 (fun j => if j = r1 then 1 else b.f 3 5 j)) ∨
  (r0 = 2 ∧ (0 ≤ r1 ∧ r1 < b.n 1) ∧ b.f 1 3 r1 = r2 ∧ b' = upF b 1 3 (fun j => if j = r1 then 1 - r2 else b.f 1 3 j)) ∨
  (r0 = 3 ∧ (0 ≤ r1 ∧ r1 < b.n 4) ∧ (0 ≤ r3 ∧ r3 < b.n 2) ∧ (0 ≤ r2 ∧ r2 < b.n 2) ∧ r2 ≠ r3 ∧ b.f 4 0 r1 = r2 ∧ b' = py (upF b 4 0 (fun j => if j = r1 then r3 else b.f 4 0 j)) r3 r2 r4)
theorem Rc.tld {r0 r1 r2 r3 r4 : Int} {b b' : Wd} (R : Rc r0 r1 r2 r3 r4 b b') : Tld b b' := by
  rcases R with ⟨_, f, rfl⟩ | ⟨_, _, _, rfl⟩ | ⟨_, _, _, rfl⟩ | ⟨_, _, _, _, _, _, rfl⟩
  · exact Tld.ad
  · exact Tld.up (Or.inl rfl)
  · exact Tld.up (by unfold chg; omega)
  · exact (Tld.up (by unfold chg; omega)).tr (Tld.up (by unfold chg; omega))
def LgX (h : PH) (un : Int) (u : Int → Wd) : Prop := Rw h 135 5 20 un ∧ ∃ r : Nat → Int → Int, ∀ k, 0 ≤ k → k < un → (∀ c : Nat, c < 5 → gI h 136 (k * 5 + c).toNat = z (r c k)) ∧ Rc (r 0 k) (r 1 k) (r 2 k) (r 3 k) (r 4 k) (u k) (u (k + 1))
theorem LgX.at' {h g : PH} {un : Int} {u : Int → Wd} (L : LgX h un u) (e : ∀ c k, c = 135 ∨ c = 136 → At h g c k) : LgX g un u := by
  obtain ⟨l1, r, l2⟩ := L
  refine ⟨l1.at' (fun k => e 135 k (Or.inl rfl)), r, fun k k0 k1 => ⟨fun c hc => ?_, (l2 k k0 k1).2⟩⟩
  rw [(e 136 _ (Or.inr rfl)).1]
  exact (l2 k k0 k1).1 c hc
theorem LgX.ext {h : PH} {un : Int} {u v : Int → Wd} (L : LgX h un u) (e : ∀ k, 0 ≤ k → k ≤ un → v k = u k) : LgX h un v := by
  obtain ⟨l1, r, l2⟩ := L
  exact ⟨l1, r, fun k k0 k1 => ⟨(l2 k k0 k1).1, by rw [e k k0 (by omega), e (k + 1) (by omega) (by omega)]; exact (l2 k k0 k1).2⟩⟩
def nun (un : Int) : Int := if un = 20 then 20 else un + 1
def nu (un : Int) (u : Int → Wd) (a' : Wd) : Int → Wd := fun k => if k = nun un then a' else if un = 20 then u (k + 1) else u k
theorem nun_rg {un : Int} (h : 0 ≤ un ∧ un ≤ 20) : 1 ≤ nun un ∧ nun un ≤ 20 := by unfold nun; split <;> omega
theorem nu_top (un : Int) (u : Int → Wd) (a' : Wd) : nu un u a' (nun un) = a' := if_pos rfl
theorem x_log17 {h : PH} {un : Int} {u : Int → Wd} {b : Wd} {r0 r1 r2 r3 r4 : Int} {Q : PH → Prop} (L : LgX h un u) (hu : un < 20) (R : Rc r0 r1 r2 r3 r4 (u un) b)
    (hq : ∀ g, (∀ c k, ¬ (c = 135 ∨ c = 136 ∨ (c = 0 ∧ (k = 9 ∨ k = 12))) → At h g c k) → gI g 0 9 = 0 → gI g 0 12 = 0 → LgX g (un + 1) (fun k => if k = un + 1 then b else u k) → Q g) : w_X9_logged_17 Q (z r0) (z r1) (z r2) (z r3) (z r4) h := by
  obtain ⟨l1, r, l2⟩ := L
  have b0 := l1.2.2.2.1
  unfold w_X9_logged_17
  refine x_add l1 hu (fun g R1 V1 E1 => ?_)
  unfold w_X9_changed
  rintro _ rfl _ rfl
  have F : ∀ c k, ¬ (c = 0 ∧ (k = 9 ∨ k = 12)) → At g (sI (sI g 0 9 0) 0 12 0) c k := fun c k hc => ((At.rf g c k).sI (by omega)).sI (by omega)
  refine hq _ (fun c k hc => (E1 c k (by omega) (by omega)).tr (F c k (by omega))) (by rw [gI_out (by omega), gI_in rfl rfl]) (gI_in rfl rfl) ⟨R1.at' (fun k => F 135 k (by omega)), fun c k => if k = un then (if c = 0 then r0 else if c = 1 then r1 else if c = 2 then r2 else if c = 3 then r3 else r4) else r c k, fun k k0 k1 => ⟨fun c hc => ?_, ?_⟩⟩
  · show gI _ 136 _ = z (if k = un then (if c = 0 then r0 else if c = 1 then r1 else if c = 2 then r2 else if c = 3 then r3 else r4) else r c k)
    rw [(F 136 _ (by omega)).1]
    by_cases e : k = un
    · rw [if_pos e, e]
      have := V1 c (by omega) (by omega)
      rw [this]
      unfold acol
      have hc' : c = 0 ∨ c = 1 ∨ c = 2 ∨ c = 3 ∨ c = 4 := by omega
      rcases hc' with rfl | rfl | rfl | rfl | rfl <;> rfl
    · rw [if_neg e, (E1 136 _ (by omega) (by omega)).1]
      exact (l2 k k0 (by omega)).1 c hc
  · by_cases e : k = un
    · subst e
      have e1 : (if k = k + 1 then b else u k) = u k := if_neg (by omega)
      have e2 : (if k + 1 = k + 1 then b else u (k + 1)) = b := if_pos rfl
      show Rc (if k = k then r0 else r 0 k) (if k = k then r1 else r 1 k) (if k = k then r2 else r 2 k) (if k = k then r3 else r 3 k) (if k = k then r4 else r 4 k) (if k = k + 1 then b else u k) (if k + 1 = k + 1 then b else u (k + 1))
      rw [e1, e2, if_pos rfl, if_pos rfl, if_pos rfl, if_pos rfl, if_pos rfl]
      exact R
    · have e1 : (if k = un + 1 then b else u k) = u k := if_neg (by omega)
      have e2 : (if k + 1 = un + 1 then b else u (k + 1)) = u (k + 1) := if_neg (by omega)
      show Rc (if k = un then r0 else r 0 k) (if k = un then r1 else r 1 k) (if k = un then r2 else r 2 k) (if k = un then r3 else r 3 k) (if k = un then r4 else r 4 k) (if k = un + 1 then b else u k) (if k + 1 = un + 1 then b else u (k + 1))
      rw [e1, e2, if_neg e, if_neg e, if_neg e, if_neg e, if_neg e]
      exact (l2 k k0 (by omega)).2
theorem x_logged {h : PH} {un : Int} {u : Int → Wd} {b : Wd} {r0 r1 r2 r3 r4 : Int} {Q : PH → Prop} (L : LgX h un u) (R : Rc r0 r1 r2 r3 r4 (u un) b)
    (hq : ∀ g, (∀ c k, ¬ (c = 135 ∨ c = 136 ∨ (c = 0 ∧ (k = 9 ∨ k = 12))) → At h g c k) → gI g 0 9 = 0 → gI g 0 12 = 0 → LgX g (nun un) (nu un u b) → Q g) : w_X9_logged (z r0) (z r1) (z r2) (z r3) (z r4) h Q := by
  obtain ⟨l1, r, l2⟩ := id L
  obtain ⟨a1, a2, a3, a4, a5, a6, a7, a8, a9⟩ := id l1
  unfold w_X9_logged w_X6_isFull
  rw [a2, a3]
  by_cases c : un < 20
  · rw [if_pos (by rw [z_lt (by omega) (by omega) (by omega) (by omega)]; omega)]
    dsimp only
    rw [if_pos rfl]
    refine x_log17 L c R (fun g f1 e1 e2 L1 => hq g f1 e1 e2 ?_)
    rw [show nun un = un + 1 from if_neg (by omega)]
    refine L1.ext (fun k k0 k1 => ?_)
    unfold nu
    rw [show nun un = un + 1 from if_neg (by omega), if_neg (by omega : ¬ un = 20)]
  · rw [if_neg (by rw [z_lt (by omega) (by omega) (by omega) (by omega)]; omega)]
    dsimp only
    have e20 : un = 20 := by omega
    subst e20
    rw [if_neg (by decide)]
    unfold w_X6_removeFirst
    rw [a1, a3, if_neg (by decide)]
    refine ⟨by decide, by decide, by decide, by decide, by decide, ?_⟩
    rintro _ rfl _ rfl
    have e3 : gI (cpI h 136 136 (iN (z 5)) (iN 0) (iN ((z 20 - 1) * z 5))) 135 3 = z 20 := by rw [gI_cpI, if_neg (by omega)]; exact a3
    rw [e3, show z 20 - 1 = z 19 from rfl, show iN (z 5) = 5 from rfl, iN_0, show iN (z 19 * z 5) = 95 from rfl]
    have F : ∀ c k, ¬ (c = 135 ∧ k = 3) → c ≠ 136 → At h (sI (cpI h 136 136 5 0 95) 135 3 (z 19)) c k := fun c k h1 h2 => ((At.rf h c k).cpI h2).sI h1
    have L2 : LgX (sI (cpI h 136 136 5 0 95) 135 3 (z 19)) 19 (fun k => u (k + 1)) := by
      refine ⟨⟨?_, ?_, gI_in rfl rfl, by omega, by omega, a6, a7, a8, a9⟩, fun c k => r c (k + 1), fun k k0 k1 => ⟨fun c hc => ?_, (l2 (k + 1) (by omega) (by omega)).2⟩⟩
      · rw [gI_out (by omega), gI_cpI, if_neg (by omega)]; exact a1
      · rw [gI_out (by omega), gI_cpI, if_neg (by omega)]; exact a2
      · rw [gI_out (by omega), gI_cpI, if_pos rfl, if_pos (by omega)]
        have := (l2 (k + 1) (by omega) (by omega)).1 c hc
        rw [show 5 + ((k * 5 + c).toNat - 0) = ((k + 1) * 5 + c).toNat by omega]
        exact this
    refine x_log17 L2 (by omega) (b := b) R (fun g f1 e1 e2 L1 => hq g (fun c k hc => (F c k (by omega) (by omega)).tr (f1 c k hc)) e1 e2 ?_)
    refine L1.ext (fun k k0 k1 => ?_)
    unfold nu
    rw [show nun 20 = 20 from rfl, if_pos (rfl : (20 : Int) = 20)]
    rfl
