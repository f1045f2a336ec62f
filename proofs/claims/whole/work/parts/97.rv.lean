/-! ===== heirs ===== -/
/-- worlds alike but for claims -/
def CA (a b : Wd) : Prop := (∀ r, r ≠ 4 → b.n r = a.n r) ∧ (∀ r c k, r ≠ 4 → b.f r c k = a.f r c k) ∧ b.fd = a.fd ∧ b.wo = a.wo
section CAX
variable {a b : Wd}
theorem ca_ini (S : CA a b) (g : Int) : ∀ l : Nat, ini b g l = ini a g l
  | 0 => rfl
  | l + 1 => by
    funext p q
    show (if (l : Int) ≠ g ∧ ((p = b.f 1 0 l ∧ q = b.f 1 1 l) ∨ (p = b.f 1 1 l ∧ q = b.f 1 0 l)) then b.f 1 2 l + b.f 1 3 l * b.f 7 0 0 else ini b g l p q) = (if (l : Int) ≠ g ∧ ((p = a.f 1 0 l ∧ q = a.f 1 1 l) ∨ (p = a.f 1 1 l ∧ q = a.f 1 0 l)) then a.f 1 2 l + a.f 1 3 l * a.f 7 0 0 else ini a g l p q)
    rw [ca_ini S g l, S.2.1 1 0 l (by decide), S.2.1 1 1 l (by decide), S.2.1 1 2 l (by decide), S.2.1 1 3 l (by decide), S.2.1 7 0 0 (by decide)]
theorem ca_far (S : CA a b) (g : Int) : far b g = far a g := by unfold far; rw [S.1 1 (by decide), S.1 0 (by decide), ca_ini S]
theorem ca_fst (S : CA a b) (F : Int → Int → Int) (p m : Int) : fst b F p m = fst a F p m := by
  unfold fst
  rw [S.1 3 (by decide)]
  exact ff_cong (fun n _ _ => hr_cong (S.2.1 3 0 n (by decide)) (S.2.1 3 2 n (by decide)) (S.2.1 3 3 n (by decide)) (S.2.1 3 4 n (by decide)) (S.2.1 3 5 n (by decide)) S.2.2.1)
theorem ca_okL (S : CA a b) (O : OkL a) : OkL b := by
  obtain ⟨o1, o2, o3, o4, o5⟩ := O
  have e0 := S.1 0 (by decide)
  have e1 := S.1 1 (by decide)
  have e : ∀ c k, b.f 1 c k = a.f 1 c k := fun c k => S.2.1 1 c k (by decide)
  refine ⟨by rw [e0]; exact o1, by rw [e1]; exact o2, by rw [S.2.1 7 0 0 (by decide)]; exact o3, fun l l0 l1 => ?_, fun l m l0 l1 l2 => ?_⟩
  · rw [e, e, e, e, e0]; exact o4 l l0 (by rw [e1] at l1; exact l1)
  · rw [e, e, e, e]; exact o5 l m l0 l1 (by rw [e1] at l2; exact l2)
theorem ca_okN (S : CA a b) (O : OkN a) : OkN b := by
  have e0 := S.1 0 (by decide)
  have e3 := S.1 3 (by decide)
  have e : ∀ c k, b.f 3 c k = a.f 3 c k := fun c k => S.2.1 3 c k (by decide)
  refine ⟨by rw [e3]; exact O.1, fun n n0 n1 => ?_⟩
  rw [e, e, e, e, e, e, e0]
  exact O.2 n n0 (by rw [e3] at n1; exact n1)
theorem ca_okX (S : CA a b) (O : OkX a) : OkX b := fun n n0 n1 => by
  rw [S.2.1 3 4 n (by decide), S.2.1 3 5 n (by decide)]
  exact O n n0 (by rw [S.1 3 (by decide)] at n1; exact n1)
theorem ca_NM {h : PH} (S : CA a b) (N : NM h a) : NM h b := by
  have e3 := S.1 3 (by decide)
  have e : ∀ c k, b.f 3 c k = a.f 3 c k := fun c k => S.2.1 3 c k (by decide)
  refine ⟨by rw [e3]; exact N.1, fun n n0 n1 => ?_⟩
  rw [e3] at n1
  simp only [e]
  exact N.2 n n0 n1
theorem CA.add {f : Nat → Int} (S : CA a b) : CA a (adR b 4 f) := ⟨fun r hr => (adR_n' hr).trans (S.1 r hr), fun r c k hr => (adR_out (fun x => hr x.1)).trans (S.2.1 r c k hr), S.2.2.1, S.2.2.2⟩
end CAX
def cl4 (o p f t : Int) : Nat → Int := fun c => if c = 0 then o else if c = 1 then p else if c = 2 then f else if c = 3 then t else 0
def z4 (a : Wd) : Wd := (fun r => if r = 4 then 0 else a.n r, a.2)
def two (a : Wd) (o : Int) : Int := if a.f 2 2 (a.f 2 2 o) = -1 ∨ a.f 2 2 (a.f 2 2 o) = o then a.f 2 2 o else a.f 2 2 (a.f 2 2 o)
def cut (a : Wd) (c : Int) : Int := a.f 4 2 c + (a.f 4 3 c - a.f 4 2 c + 1) / 2
def hp (a : Wd) (o law c : Int) (b : Wd) : Wd := if a.f 4 0 c ≠ o then adR b 4 (cl4 (a.f 4 0 c) (a.f 4 1 c) (a.f 4 2 c) (a.f 4 3 c)) else if law = 0 ∧ a.f 2 2 o ≠ -1 then adR b 4 (cl4 (a.f 2 2 o) (a.f 4 1 c) (a.f 4 2 c) (a.f 4 3 c)) else if law = 1 ∧ a.f 2 2 o ≠ -1 then adR (if a.f 4 2 c < cut a c then adR b 4 (cl4 (a.f 2 2 o) (a.f 4 1 c) (a.f 4 2 c) (cut a c - 1)) else b) 4 (cl4 (two a o) (a.f 4 1 c) (cut a c) (a.f 4 3 c)) else b
def hpN (a : Wd) (o law : Int) : Nat → Wd
  | 0 => z4 a
  | c + 1 => hp a o law c (hpN a o law c)
theorem hpN_s {a : Wd} {o law c : Int} (h : 0 ≤ c) : hpN a o law (c + 1).toNat = hp a o law c (hpN a o law c.toNat) := by
  rw [show (c + 1).toNat = c.toNat + 1 by omega]
  show hp a o law ((c.toNat : Nat) : Int) _ = _
  rw [show ((c.toNat : Nat) : Int) = c by omega]
theorem hp_ca {a b : Wd} {o law c : Int} (S : CA a b) : CA a (hp a o law c b) := by
  unfold hp
  split
  · exact S.add
  · split
    · exact S.add
    · split
      · refine CA.add ?_
        split
        · exact S.add
        · exact S
      · exact S
theorem okC_add {b : Wd} {x p f t : Int} (O : OkC b) (h : b.n 4 < 16) (h1 : 0 ≤ x ∧ x < 4) (h2 : 0 ≤ p ∧ p < b.n 0) (h3 : 0 ≤ f ∧ f ≤ t ∧ t ≤ 47) : OkC (adR b 4 (cl4 x p f t)) := by
  have O1 := O.1
  refine ⟨by rw [adR_n]; omega, fun c c0 c1 => ?_⟩
  rw [adR_n] at c1
  by_cases e : c = b.n 4
  · subst e
    rw [adR_in, adR_in, adR_in, adR_in]
    exact ⟨h1, h2, h3⟩
  · rw [adR_out (by omega), adR_out (by omega), adR_out (by omega), adR_out (by omega)]
    exact O.2 c c0 (by omega)
section HEIRF
variable {a b : Wd} {o law c : Int}
theorem heir_rg (N : Now a) (ho : 0 ≤ o ∧ o < a.n 2) : -1 ≤ a.f 2 2 o ∧ a.f 2 2 o < a.n 2 ∧ (a.f 2 2 o ≠ -1 → (-1 ≤ a.f 2 2 (a.f 2 2 o) ∧ a.f 2 2 (a.f 2 2 o) < a.n 2) ∧ (0 ≤ two a o ∧ two a o < a.n 2)) := by
  have n11 := N.2.2.2.2.2.2.2.2.2.2.2.1
  have h1 := (n11 o ho.1 ho.2).2.2
  refine ⟨h1.1, h1.2, fun hne => ?_⟩
  have h2 := (n11 (a.f 2 2 o) (by omega) h1.2).2.2
  refine ⟨h2, ?_⟩
  unfold two
  split <;> omega
theorem cut_rg (N : Now a) (hc : 0 ≤ c ∧ c < a.n 4) : (0 ≤ a.f 4 2 c ∧ a.f 4 2 c ≤ cut a c ∧ cut a c ≤ a.f 4 3 c ∧ a.f 4 3 c ≤ 47) := by
  have h := (N.2.2.1.2 c hc.1 hc.2).2.2
  unfold cut
  omega
theorem hp_ok (N : Now a) (ho : 0 ≤ o ∧ o < a.n 2) (hc : 0 ≤ c ∧ c < a.n 4) (S : CA a b) (O : OkC b) (hb : b.n 4 ≤ 2 * c) : OkC (hp a o law c b) ∧ (hp a o law c b).n 4 ≤ 2 * (c + 1) := by
  have n8 := N.2.2.2.2.2.2.2.2.1
  have n10 := N.2.2.2.2.2.2.2.2.2.2.1
  have n9 := N.2.2.2.2.2.2.2.2.2.1 c hc.1 hc.2
  have hO := N.2.2.1.2 c hc.1 hc.2
  have hh := heir_rg N ho
  have hk := cut_rg N hc
  have e0 : b.n 0 = a.n 0 := S.1 0 (by decide)
  unfold hp
  split
  · exact ⟨okC_add O (by omega) hO.1 (by rw [e0]; exact hO.2.1) hO.2.2, by rw [adR_n]; omega⟩
  · split
    · exact ⟨okC_add O (by omega) (by omega) (by rw [e0]; exact hO.2.1) hO.2.2, by rw [adR_n]; omega⟩
    · split
      · rename_i h3
        have hh2 := (hh.2.2 h3.2).2
        split
        · refine ⟨okC_add (okC_add O (by omega) (by omega) (by rw [e0]; exact hO.2.1) (by omega)) (by rw [adR_n]; omega) (by omega) (by rw [adR_n' (by decide), e0]; exact hO.2.1) (by omega), by rw [adR_n, adR_n]; omega⟩
        · exact ⟨okC_add O (by omega) (by omega) (by rw [e0]; exact hO.2.1) (by omega), by rw [adR_n]; omega⟩
      · exact ⟨O, by omega⟩
end HEIRF
/-! rows of one owner's minutes -/
def rlN (b : Wd) (F : Int → Int → Int) (p : Int) : Nat → Int
  | 0 => 0
  | m + 1 => if whs b F p m < 0 then 0 else if 0 < m ∧ whs b F p (m - 1) = whs b F p m then rlN b F p m + 1 else 1
def mxN (b : Wd) (F : Int → Int → Int) (p : Int) : Nat → Int → Int
  | 0, x => x
  | m + 1, x => max (mxN b F p m x) (rlN b F p (m + 1))
def lngN (b : Wd) (F : Int → Int → Int) : Nat → Int
  | 0 => 0
  | p + 1 => mxN b F p 48 (lngN b F p)
def a_left (a : Wd) (o law : Int) : Int := if (0 ≤ o ∧ o < a.n 2) ∧ (0 ≤ law ∧ law ≤ 2) then lngN (hpN a o law (a.n 4).toNat) (far a (-1)) (a.n 0).toNat else -1
theorem rl_s {b : Wd} {F : Int → Int → Int} {p m : Int} (h : 0 ≤ m) : rlN b F p (m + 1).toNat = if whs b F p m < 0 then 0 else if 0 < m ∧ whs b F p (m - 1) = whs b F p m then rlN b F p m.toNat + 1 else 1 := by
  rw [show (m + 1).toNat = m.toNat + 1 by omega]
  show (if whs b F p (m.toNat : Int) < 0 then 0 else if 0 < m.toNat ∧ whs b F p ((m.toNat : Int) - 1) = whs b F p (m.toNat : Int) then rlN b F p m.toNat + 1 else 1) = _
  rw [show ((m.toNat : Nat) : Int) = m by omega]
  by_cases c : whs b F p m < 0
  · rw [if_pos c, if_pos c]
  · rw [if_neg c, if_neg c]
    by_cases d : 0 < m ∧ whs b F p (m - 1) = whs b F p m
    · rw [if_pos d, if_pos ⟨by omega, d.2⟩]
    · rw [if_neg d, if_neg (fun x => d ⟨by omega, x.2⟩)]
theorem mx_s {b : Wd} {F : Int → Int → Int} {p m x : Int} (h : 0 ≤ m) : mxN b F p (m + 1).toNat x = max (mxN b F p m.toNat x) (rlN b F p (m + 1).toNat) := by
  rw [show (m + 1).toNat = m.toNat + 1 by omega]; rfl
theorem rl_rg (b : Wd) (F : Int → Int → Int) (p : Int) : ∀ m : Nat, 0 ≤ rlN b F p m ∧ rlN b F p m ≤ m
  | 0 => ⟨Int.le_refl _, Int.le_refl _⟩
  | m + 1 => by
    have ih := rl_rg b F p m
    show 0 ≤ (if whs b F p m < 0 then 0 else if 0 < m ∧ whs b F p (m - 1) = whs b F p m then rlN b F p m + 1 else 1) ∧ (if whs b F p m < 0 then 0 else if 0 < m ∧ whs b F p (m - 1) = whs b F p m then rlN b F p m + 1 else 1) ≤ ((m + 1 : Nat) : Int)
    split
    · omega
    · split <;> omega
theorem mx_rg {b : Wd} {F : Int → Int → Int} {p x : Int} (hx : 0 ≤ x ∧ x ≤ 48) : ∀ m : Nat, m ≤ 48 → 0 ≤ mxN b F p m x ∧ mxN b F p m x ≤ 48
  | 0, _ => hx
  | m + 1, hm => by
    have ih := mx_rg (b := b) (F := F) (p := p) hx m (by omega)
    have r := rl_rg b F p (m + 1)
    show 0 ≤ max (mxN b F p m x) (rlN b F p (m + 1)) ∧ max (mxN b F p m x) (rlN b F p (m + 1)) ≤ 48
    omega
theorem lng_rg (b : Wd) (F : Int → Int → Int) : ∀ p : Nat, 0 ≤ lngN b F p ∧ lngN b F p ≤ 48
  | 0 => by show (0 : Int) ≤ 0 ∧ (0 : Int) ≤ 48; omega
  | p + 1 => mx_rg (lng_rg b F p) 48 (by omega)
section LEFTX
variable {h : PH} {w : Nat} {s : St} {b : Wd} {F : Int → Int → Int}
theorem x_longest {Q : Int32 → PH → Prop} (H : WX h 77 b) (A : AirX h 106 b F) (ON : OkN b) (OC : OkC b) (h6 : 0 ≤ b.n 0 ∧ b.n 0 ≤ 6) (hq : Q (z (lngN b F (b.n 0).toNat)) h) : w_X0_longestHeld 106 77 h Q := by
  unfold w_X0_longestHeld
  refine for21 (b.n 0) (fun p x g => h = g ∧ x = z (lngN b F p.toNat)) 0 rfl (by omega) (by omega) (by omega) ⟨rfl, rfl⟩ ?_ ?_
  · rintro kb p _ _ p0 p1 ⟨rfl, rfl⟩ hk
    unfold w_X0_longestHeld_4
    rw [show gI h (77 + 1) 3 = z (b.n 0) from (H.n0 0 (by decide)).1, if_neg (by rw [z_le (by omega) (by omega) (by omega) (by omega)]; omega), z_inc]
    have el : lngN b F (p + 1).toNat = mxN b F p 48 (lngN b F p.toNat) := by
      rw [show (p + 1).toNat = p.toNat + 1 by omega]
      show mxN b F ((p.toNat : Nat) : Int) 48 _ = _
      rw [show ((p.toNat : Nat) : Int) = p by omega]
    rw [el] at hk
    have lr := lng_rg b F p.toNat
    generalize lngN b F p.toNat = x0 at *
    refine for43 48 (fun m x r o g => h = g ∧ x = z (mxN b F p m.toNat x0) ∧ r = z (rlN b F p m.toNat) ∧ o = z (if m = 0 then -2 else whs b F p (m - 1))) 0 rfl (by omega) (by omega) (by omega) ⟨rfl, rfl, rfl, rfl⟩ ?_ ?_
    · rintro kb2 m _ _ _ _ m0 m1 ⟨rfl, rfl, rfl, rfl⟩ hk2
      have bw := whs_rg ON OC F p m
      have bw' := whs_rg ON OC F p (m - 1)
      have rr := rl_rg b F p m.toNat
      have mr := mx_rg (b := b) (F := F) (p := p) lr m.toNat (by omega)
      unfold w_X0_longestHeld_25 w_X0_holder
      rw [zn_48, if_neg (by rw [z_le (by omega) (by omega) (by omega) (by omega)]; omega)]
      refine x_isSpot (by omega) ⟨m0, m1⟩ ?_
      rw [if_neg (by decide), z_mul, z_add, z_iN (by omega) (by omega), A.2.2.2.2 p m p0 p1 m0 m1]
      refine ⟨z_in (by omega) (by omega) (by omega), ?_⟩
      have fin : ∀ v : Int, v = rlN b F p (m + 1).toNat → (0 ≤ v ∧ v ≤ 48) → w_X0_longestHeld_65 106 77 Q kb2 (z (mxN b F p m.toNat x0)) (z p) (z m) (z (whs b F p m)) (z v) h := by
        intro v ev hv
        unfold w_X0_longestHeld_65
        rintro _ rfl
        rw [z_mxI (by omega) (by omega) (by omega) (by omega), z_inc]
        refine hk2 _ _ _ _ ⟨rfl, by rw [mx_s m0, ev], by rw [ev], ?_⟩
        rw [if_neg (by omega), show m + 1 - 1 = m by omega]
      have es := rl_s (b := b) (F := F) (p := p) m0
      show (if (0 : Int32) ≤ z (whs b F p m) then (if z (whs b F p m) = z (if m = 0 then -2 else whs b F p (m - 1)) then _ else _) else _)
      rw [zn_0]
      by_cases c0 : whs b F p m < 0
      · rw [if_neg (by rw [z_le (by omega) (by omega) (by omega) (by omega)]; omega)]
        rw [if_pos c0] at es
        exact fin 0 es.symm (by omega)
      · rw [if_pos (by rw [z_le (by omega) (by omega) (by omega) (by omega)]; omega)]
        rw [if_neg c0] at es
        by_cases c1 : 0 < m ∧ whs b F p (m - 1) = whs b F p m
        · rw [if_pos (by rw [if_neg (by omega), c1.2]), z_inc]
          rw [if_pos c1] at es
          exact fin _ es.symm (by omega)
        · rw [if_neg (z_ne (by omega) (by omega) (by split <;> omega) (by split <;> omega) (by
            by_cases e : m = 0
            · rw [if_pos e]; omega
            · rw [if_neg e]; exact fun x => c1 ⟨by omega, x.symm⟩))]
          rw [if_neg c1] at es
          exact fin 1 es.symm (by omega)
    · rintro kb2 _ _ _ _ ⟨rfl, rfl, rfl, rfl⟩
      unfold w_X0_longestHeld_25
      rw [zn_48, if_pos (by rw [z_le (by omega) (by omega) (by omega) (by omega)]; omega)]
      exact hk _ _ ⟨rfl, rfl⟩
  · rintro kb _ _ ⟨rfl, rfl⟩
    unfold w_X0_longestHeld_4
    rw [show gI h (77 + 1) 3 = z (b.n 0) from (H.n0 0 (by decide)).1, if_pos (by rw [z_le (by omega) (by omega) (by omega) (by omega)]; omega)]
    exact hq
end LEFTX
