/-! ===== coins ===== -/
theorem sm_upd {f : Int → Int} {k d : Int} (hk : 0 ≤ k) : ∀ n : Nat, sm (fun j => if j = k then f j + d else f j) n = sm f n + (if k < n then d else 0)
  | 0 => by rw [if_neg (by omega)]; rfl
  | n + 1 => by
    have ih := sm_upd (f := f) (d := d) hk n
    have e1 : sm (fun j => if j = k then f j + d else f j) ((n : Int) + 1) = sm (fun j => if j = k then f j + d else f j) n + (if (n : Int) = k then f n + d else f n) := sm_s (by omega)
    have e2 : sm f ((n : Int) + 1) = sm f n + f n := sm_s (by omega)
    rw [show ((n + 1 : Nat) : Int) = (n : Int) + 1 by omega, e1, e2, ih]
    by_cases e : (n : Int) = k
    · rw [if_pos e, if_neg (by omega), if_pos (by omega)]; omega
    · rw [if_neg e]
      by_cases e2 : k < (n : Int)
      · rw [if_pos e2, if_pos (by omega)]; omega
      · rw [if_neg e2, if_neg (by omega)]; omega
theorem sm_mem {f : Int → Int} : ∀ {n : Nat} {k : Int}, (∀ j, 0 ≤ j → j < (n : Int) → 0 ≤ f j) → 0 ≤ k → k < n → 0 ≤ sm f n ∧ f k ≤ sm f n
  | 0, k, _, h0, h1 => by omega
  | n + 1, k, h, h0, h1 => by
    have e2 : sm f ((n : Int) + 1) = sm f n + f n := sm_s (by omega)
    rw [show ((n + 1 : Nat) : Int) = (n : Int) + 1 by omega, e2]
    have hn := h n (by omega) (by omega)
    have h' : ∀ j, 0 ≤ j → j < (n : Int) → 0 ≤ f j := fun j j0 j1 => h j j0 (by omega)
    have s0 : 0 ≤ sm f n := by
      by_cases c : n = 0
      · rw [c]; exact Int.le_refl 0
      · exact (sm_mem h' (by omega : (0 : Int) ≤ 0) (by omega)).1
    by_cases e : k = n
    · rw [e]; omega
    · have := (sm_mem h' h0 (by omega)).2
      omega
def okc (c : Int → Int) (n : Int) : Prop := (∀ j, 0 ≤ j → j < n → 0 ≤ c j) ∧ sm c n ≤ 3996
theorem okc.le {c : Int → Int} {n k : Int} (h : okc c n) (h0 : 0 ≤ k) (h1 : k < n) : 0 ≤ c k ∧ c k ≤ 3996 := by
  have := sm_mem (f := c) (n := n.toNat) (k := k) (fun j j0 j1 => h.1 j j0 (by omega)) h0 (by omega)
  rw [show ((n.toNat : Nat) : Int) = n by omega] at this
  exact ⟨h.1 k h0 h1, by have := h.2; omega⟩
def pyC (c : Int → Int) (f t p : Int) : Int → Int := fun j => if j = f then c j - p else if j = t then c j + p else c j
theorem pyC_ok {c : Int → Int} {f t p n : Int} (h : okc c n) (hf : 0 ≤ f ∧ f < n) (ht : 0 ≤ t ∧ t < n) (ne : f ≠ t) (hp : 0 ≤ p ∧ p ≤ c f) : okc (pyC c f t p) n := by
  refine ⟨fun j j0 j1 => ?_, ?_⟩
  · have := h.1 j j0 j1
    unfold pyC
    by_cases e : j = f
    · rw [if_pos e, e]; omega
    · rw [if_neg e]; split <;> omega
  · have s1 : sm (fun j => if j = f then c j + -p else c j) n.toNat = sm c n.toNat + (if f < n.toNat then -p else 0) := sm_upd hf.1 n.toNat
    have s2 : sm (fun j => if j = t then (if j = f then c j + -p else c j) + p else (if j = f then c j + -p else c j)) n.toNat = sm (fun j => if j = f then c j + -p else c j) n.toNat + (if t < n.toNat then p else 0) := sm_upd (f := fun j => if j = f then c j + -p else c j) ht.1 n.toNat
    have e : pyC c f t p = fun j => if j = t then (if j = f then c j + -p else c j) + p else (if j = f then c j + -p else c j) := by
      funext j
      unfold pyC
      by_cases e1 : j = f
      · rw [if_pos e1, if_neg (by omega), if_pos e1]; omega
      · rw [if_neg e1, if_neg e1]
    rw [show ((n.toNat : Nat) : Int) = n by omega] at s1 s2
    rw [if_pos hf.2] at s1
    rw [if_pos ht.2] at s2
    have := h.2
    rw [e, s2, s1]; omega
theorem Now.coins {a : Wd} (N : Now a) : okc (a.f 2 1) (a.n 2) := ⟨fun o o0 o1 => (N.2.2.2.2.2.2.2.2.2.2.2.1 o o0 o1).2.1.1, N.2.2.2.2.2.2.2.2.2.2.2.2.1⟩
theorem Now.coin {a : Wd} {c : Int → Int} (N : Now a) (h : okc c (a.n 2)) : Now (upF a 2 1 c) := by
  obtain ⟨OL, ON, OC, OR, W1, W2, n12, nl, n8, n9, n10, n11, nS, n13, n14, n15, n16, n17, n18⟩ := N
  exact ⟨OL, ON, OC, OR, W1, W2, n12, nl, n8, n9, n10, fun o o0 o1 => ⟨(n11 o o0 o1).1, h.le o0 o1, (n11 o o0 o1).2.2⟩, h.2, n13, n14, n15, n16, n17, n18⟩
theorem py_eq (a : Wd) (f t p : Int) : py a f t p = upF a 2 1 (pyC (a.f 2 1) f t p) := rfl
theorem x_pay {h : PH} {w : Nat} {a : Wd} {f t p : Int} {Q : PH → Prop} (H : WX h w a) (hf : 0 ≤ f ∧ f < a.n 2) (ht : 0 ≤ t ∧ t < a.n 2) (ne : f ≠ t) (hq : ∀ g, (∀ c k, c ≠ w + 6 → At h g c k) → WX g w (py a f t p) → Q g) : w_X8_pay w (z f) (z t) (z p) h Q := by
  unfold w_X8_pay
  refine H.at 2 1 (by decide) rfl (by decide) rfl rfl hf.1 hf.2 ?_
  rw [z_sub]
  refine x_putW (u := a.f 2 1 f - p) H 2 1 (by decide) rfl (by decide) rfl rfl rfl hf.1 hf.2 (fun g1 f1 W1 => ?_)
  refine W1.at 2 1 (by decide) rfl (by decide) rfl rfl ht.1 ht.2 ?_
  rw [upF_in, if_neg (by omega), z_add]
  refine x_putW (u := a.f 2 1 t + p) W1 2 1 (by decide) rfl (by decide) rfl rfl rfl ht.1 ht.2 (fun g2 f2 W2 => ?_)
  refine hq g2 (fun c k hc => (f1 c k (by omega)).tr (f2 c k (by omega))) (W2.ext (fun r hr => rfl) (fun r c k hr hc k0 k1 => ?_) (fun c => rfl) rfl rfl)
  unfold py
  by_cases er : r = 2 ∧ c = 1
  · obtain ⟨rfl, rfl⟩ := er
    rw [upF_in, upF_in, upF_in]
    by_cases e1 : k = f
    · rw [if_pos e1, if_neg (by omega), if_pos e1, e1]
    · rw [if_neg e1]
      by_cases e2 : k = t
      · rw [if_pos e2, if_pos e2, e2]
      · rw [if_neg e2, if_neg e2, if_neg e1]
  · rw [upF_out er, upF_out er, upF_out er]
/-! ===== a claim sold ===== -/
abbrev canS (a : Wd) (c o p : Int) : Prop := ((0 ≤ c ∧ c < a.n 4) ∧ (0 ≤ o ∧ o < a.n 2)) ∧ (0 ≤ p ∧ p ≤ 999) ∧ a.f 4 0 c ≠ o ∧ p ≤ a.f 2 1 o
def seW (a : Wd) (c o p : Int) : Wd := py (upF a 4 0 (fun j => if j = c then o else a.f 4 0 j)) o (a.f 4 0 c) p
def a_sell (s : St) (c o p : Int) : Int := if canS s.a c o p then 1 else 0
def t_sell (s : St) (c o p : Int) : St := if canS s.a c o p then chS s (seW s.a c o p) else s
theorem now_sell {a : Wd} {c o p : Int} (N : Now a) (h : canS a c o p) : Now (seW a c o p) := by
  obtain ⟨⟨h1, h2⟩, h3, h4, h5⟩ := h
  have N' : Now (upF a 4 0 (fun j => if j = c then o else a.f 4 0 j)) := by
    obtain ⟨OL, ON, OC, OR, W1, W2, n12, nl, n8, n9, n10, n11, nS, n13, n14, n15, n16, n17, n18⟩ := N
    refine ⟨OL, ON, ⟨OC.1, fun j j0 j1 => ⟨?_, (OC.2 j j0 j1).2⟩⟩, OR, W1, W2, n12, nl, n8, fun j j0 j1 => ?_, n10, n11, nS, n13, n14, n15, n16, n17, n18⟩
    · show 0 ≤ (if j = c then o else a.f 4 0 j) ∧ (if j = c then o else a.f 4 0 j) < 4
      have := (OC.2 j j0 j1).1
      split <;> omega
    · show (if j = c then o else a.f 4 0 j) < a.n 2
      have := n9 j j0 j1
      split <;> omega
  have OC := (N.2.2.1.2 c h1.1 h1.2).1
  have n9 := N.2.2.2.2.2.2.2.2.2.1 c h1.1 h1.2
  unfold seW
  rw [py_eq]
  exact N'.coin (pyC_ok N'.coins h2 ⟨OC.1, n9⟩ (fun e => h4 e.symm) ⟨h3.1, h5⟩)
theorem tld_sell {a : Wd} {c o p : Int} : Tld a (seW a c o p) := (Tld.up (by unfold chg; omega)).tr (Tld.up (by unfold chg; omega))
section SELL
variable {h : PH} {w : Nat} {s : St} {c o p : Int}
theorem xs_sell {Q : Int32 → PH → Prop} (I : IX h w s) (hc : i32 c) (ho : i32 o) (hp : i32 p) (hq : ∀ g, IX g w (t_sell s c o p) → KpS h g s.a (t_sell s c o p).a → Q (z (a_sell s c o p)) g) : w_X9_sell (z c) (z o) (z p) h Q := by
  obtain ⟨p1, p2, p3⟩ := I.1.p
  have n1 := I.1.1
  have n3 := I.1.2.2.1
  have n4 := I.1.2.2.2.1
  have hp1 := hp.1
  have hp2 := hp.2
  have n10 := n4.2.2.2.2.2.2.2.2.2.2.1
  have ref : ¬ canS s.a c o p → Q 0 h := fun c' => by
    have e1 : t_sell s c o p = s := if_neg c'
    have e2 : a_sell s c o p = 0 := if_neg c'
    have := hq h
    rw [e1, e2] at this
    exact this I (KpS.rf h s.a)
  unfold w_X9_sell
  rw [p3]
  refine ⟨p1, oX_w n1, ?_⟩
  refine x_has (n3.rw 4 (by decide)) rfl hc.1 hc.2 (fun c1 c2 => ?_) (fun c1 => ?_)
  · rw [if_neg (by decide), p3]
    refine ⟨p1, oX_w n1, ?_⟩
    refine x_has (n3.rw 2 (by decide)) rfl ho.1 ho.2 (fun c3 c4 => ?_) (fun c3 => ?_)
    · rw [if_neg (by decide), zn_0]
      by_cases c5 : p < 0
      · rw [if_pos (by rw [z_lt (by omega) (by omega) (by omega) (by omega)]; omega)]
        exact ref (fun x => by have := x.2.1; omega)
      · rw [if_neg (by rw [z_lt (by omega) (by omega) (by omega) (by omega)]; omega), zn_999]
        by_cases c6 : p ≤ 999
        · rw [if_pos (by rw [z_le (by omega) (by omega) (by omega) (by omega)]; omega), p3]
          refine ⟨p1, oX_w n1, ?_⟩
          refine n3.at 4 0 (by decide) rfl (by decide) rfl rfl c1 c2 ?_
          have OC := (n4.2.2.1.2 c c1 c2).1
          have n9 := n4.2.2.2.2.2.2.2.2.2.1 c c1 c2
          by_cases c7 : s.a.f 4 0 c = o
          · rw [if_pos (congrArg z c7)]
            exact ref (fun x => x.2.2.1 c7)
          · rw [if_neg (z_ne (by omega) (by omega) (by omega) (by omega) c7), p3]
            refine ⟨p1, oX_w n1, ?_⟩
            refine n3.at 2 1 (by decide) rfl (by decide) rfl rfl c3 c4 ?_
            have bo := n4.coins.le c3 c4
            by_cases c8 : p ≤ s.a.f 2 1 o
            · rw [if_pos (by rw [z_le (by omega) (by omega) (by omega) (by omega)]; omega), p3]
              refine ⟨p1, oX_w n1, ?_⟩
              have cc : canS s.a c o p := ⟨⟨⟨c1, c2⟩, c3, c4⟩, ⟨by omega, c6⟩, c7, c8⟩
              refine x_putW (u := o) n3 4 0 (by decide) rfl (by decide) rfl rfl rfl c1 c2 (fun g1 f1 W1 => ?_)
              have e3 : gP g1 0 3 = w + 1 := by rw [(f1 0 3 (by omega)).2.2]; exact I.1.2.1
              rw [e3]
              refine ⟨by omega, oX_w n1, ?_⟩
              refine x_pay W1 ⟨c3, c4⟩ ⟨OC.1, n9⟩ (fun e => c7 e.symm) (fun g2 f2 W2 => ?_)
              have e1 : t_sell s c o p = chS s (seW s.a c o p) := if_pos cc
              have e2 : a_sell s c o p = 1 := if_pos cc
              rw [e1, e2] at hq
              exact I.logged (r0 := 3) (b := seW s.a c o p) W2 (now_sell n4 cc) tld_sell (Or.inr (Or.inr (Or.inr ⟨rfl, ⟨c1, c2⟩, ⟨c3, c4⟩, ⟨OC.1, n9⟩, c7, rfl, rfl⟩))) (fun c k hc => (f1 c k (by omega)).tr (f2 c k (by omega))) (fun g' I' e12 => hq g' I' (Or.inl e12))
            · rw [if_neg (by rw [z_le (by omega) (by omega) (by omega) (by omega)]; omega)]
              exact ref (fun x => c8 x.2.2.2)
        · rw [if_neg (by rw [z_le (by omega) (by omega) (by omega) (by omega)]; omega)]
          exact ref (fun x => c6 x.2.1.2)
    · rw [if_pos rfl]
      exact ref (fun x => c3 x.1.2)
  · rw [if_pos rfl]
    exact ref (fun x => c1 x.1.1)
theorem ms_sell {Q : Int32 → PH → Prop} (J : IM h s) (hc : i32 c) (ho : i32 o) (hp : i32 p) (hq : ∀ g, IM g (t_sell s c o p) → Q (z (a_sell s c o p)) g) : w_X10_sell (z c) (z o) (z p) h Q := by
  unfold w_X10_sell
  rintro _ rfl
  have J1 := J.fr (fr0 h 0)
  generalize sI h 0 0 0 = h1 at J1
  have n4 := J1.1.2.2
  have hp1 := hp.1
  have hp2 := hp.2
  have hc1 := hc.1
  have hc2 := hc.2
  have n8 := n4.2.2.2.2.2.2.2.2.1
  have n10 := n4.2.2.2.2.2.2.2.2.2.2.1
  have ref : ¬ canS s.a c o p → Q 0 h1 := fun c' => by
    have e1 : t_sell s c o p = s := if_neg c'
    have e2 : a_sell s c o p = 0 := if_neg c'
    rw [e1, e2] at hq
    exact hq h1 J1
  have m24 : gI h1 2 4 = z (s.a.n 4) := J1.1.1.1.2.2.2.1
  have OC0 := n4.2.2.1.1
  rw [iN_4, m24, zn_0]
  by_cases c1 : c < 0
  · rw [if_pos (by rw [z_lt (by omega) (by omega) (by omega) (by omega)]; omega)]
    exact ref (fun x => by have := x.1.1.1; omega)
  · rw [if_neg (by rw [z_lt (by omega) (by omega) (by omega) (by omega)]; omega)]
    by_cases c2 : s.a.n 4 ≤ c
    · rw [if_pos (by rw [z_le (by omega) (by omega) (by omega) (by omega)]; omega)]
      exact ref (fun x => by have := x.1.1.2; omega)
    · rw [if_neg (by rw [z_le (by omega) (by omega) (by omega) (by omega)]; omega)]
      refine m_isOwner J1.1 ho (fun c3 c4 => ?_) (fun c3 => ?_)
      · rw [if_neg (by decide)]
        by_cases c5 : p < 0
        · rw [if_pos (by rw [z_lt (by omega) (by omega) (by omega) (by omega)]; omega)]
          exact ref (fun x => by have := x.2.1; omega)
        · rw [if_neg (by rw [z_lt (by omega) (by omega) (by omega) (by omega)]; omega), zn_999]
          by_cases c6 : 999 < p
          · rw [if_pos (by rw [z_lt (by omega) (by omega) (by omega) (by omega)]; omega)]
            exact ref (fun x => by have := x.2.1; omega)
          · rw [if_neg (by rw [z_lt (by omega) (by omega) (by omega) (by omega)]; omega), z_iN (a := c) (by omega) (by omega)]
            refine ⟨z_in (by omega) (by omega) (by omega), ?_⟩
            have OC := (n4.2.2.1.2 c (by omega) (by omega)).1
            have n9 := n4.2.2.2.2.2.2.2.2.2.1 c (by omega) (by omega)
            have e41 : gI h1 41 c.toNat = z (s.a.f 4 0 c) := by
              have := J1.1.2.1.2.2.2.1 c (by omega) (by omega)
              rw [show (8 * 0 + c) = c by omega] at this; exact this
            rw [e41]
            by_cases c7 : s.a.f 4 0 c = o
            · rw [if_pos (congrArg z c7)]
              exact ref (fun x => x.2.2.1 c7)
            · rw [if_neg (z_ne (by omega) (by omega) (by omega) (by omega) c7)]
              refine ⟨z_in (by omega) (by omega) (by omega), ?_⟩
              have bo := n4.coins.le c3 c4
              have e43 : gI h1 43 o.toNat = z (s.a.f 2 1 o) := by
                have := J1.1.2.1.2.2.2.2.2.1 o c3 c4
                rw [show (4 * 0 + o) = o by omega] at this; exact this
              rw [z_iN (a := o) (by omega) (by omega), e43]
              by_cases c8 : p ≤ s.a.f 2 1 o
              · rw [if_pos (by rw [z_le (by omega) (by omega) (by omega) (by omega)]; omega)]
                have cc : canS s.a c o p := ⟨⟨⟨by omega, by omega⟩, c3, c4⟩, ⟨by omega, by omega⟩, c7, c8⟩
                have e1 : t_sell s c o p = chS s (seW s.a c o p) := if_pos cc
                have e2 : a_sell s c o p = 1 := if_pos cc
                rw [e1, e2] at hq
                refine J1.keep (b := seW s.a c o p) (fun g f1 U D M => ?_)
                refine ⟨z_in (by omega) (by omega) (by omega), z_in (by omega) (by omega) (by omega), ?_⟩
                rintro _ rfl
                have d41 : ∀ k, 0 ≤ k → k < s.a.n 4 → gI g 41 k.toNat = z (s.a.f 4 0 k) := fun k k0 k1 => by
                  have := D.2.2.2.1 k k0 k1
                  rw [show (8 * 0 + k) = k by omega] at this; exact this
                have d43 : ∀ k, 0 ≤ k → k < s.a.n 2 → gI g 43 k.toNat = z (s.a.f 2 1 k) := fun k k0 k1 => by
                  have := D.2.2.2.2.2.1 k k0 k1
                  rw [show (4 * 0 + k) = k by omega] at this; exact this
                refine ⟨z_in (by omega) (by omega) (by omega), ?_⟩
                rw [gI_out (by omega), d41 c (by omega) (by omega), z_iN (a := s.a.f 4 0 c) (by omega) (by omega)]
                refine ⟨z_in (by omega) (by omega) (by omega), z_in (by omega) (by omega) (by omega), ?_⟩
                rintro _ rfl
                refine ⟨z_in (by omega) (by omega) (by omega), ?_⟩
                rintro _ rfl
                rw [gI_out (by omega), d43 o c3 c4, d43 _ OC.1 n9, z_sub, z_add]
                refine hq _ (J1.ch (now_sell n4 cc) tld_sell f1 U (fun c k hc => (((At.rf g c k).sI (by unfold dyC at hc; omega)).sI (by unfold dyC at hc; omega)).sI (by unfold dyC at hc; omega)) ⟨?_, fun n k0 k1 => ?_, fun n k0 k1 => ?_, fun n k0 k1 => ?_, fun n k0 k1 => ?_, fun n k0 k1 => ?_, ?_⟩)
                · repeat rw [gI_out (by omega)]
                  exact D.1
                · repeat rw [gI_out (by omega)]
                  exact D.2.1 n k0 k1
                · repeat rw [gI_out (by omega)]
                  exact D.2.2.1 n k0 k1
                · rw [show (8 * 0 + n) = n by omega]
                  show _ = z (if n = c then o else s.a.f 4 0 n)
                  by_cases e : n = c
                  · rw [if_pos e, e, gI_in rfl rfl]
                  · rw [if_neg e]
                    repeat rw [gI_out (by omega)]
                    exact d41 n k0 k1
                · repeat rw [gI_out (by omega)]
                  exact D.2.2.2.2.1 n k0 k1
                · rw [show (4 * 0 + n) = n by omega]
                  show _ = z (if n = o then s.a.f 2 1 n - p else if n = s.a.f 4 0 c then s.a.f 2 1 n + p else s.a.f 2 1 n)
                  rw [gI_out (by omega)]
                  by_cases e : n = o
                  · rw [if_pos e, gI_out (by omega), gI_in rfl (by rw [e]), e]
                  · rw [if_neg e]
                    by_cases e' : n = s.a.f 4 0 c
                    · rw [if_pos e', gI_in rfl (by rw [e']), e']
                    · rw [if_neg e', gI_out (by omega), gI_out (by omega)]
                      exact d43 n k0 k1
                · repeat rw [gI_out (by omega)]
                  exact D.2.2.2.2.2.2
              · rw [if_neg (by rw [z_le (by omega) (by omega) (by omega) (by omega)]; omega)]
                exact ref (fun x => c8 x.2.2.2)
      · rw [if_pos (show (0 : Int32) = z 0 from rfl)]
        exact ref (fun x => c3 x.1.2)
end SELL
