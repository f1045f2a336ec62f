/-! ===== a noise stopped, a wall ===== -/
abbrev canP (a : Wd) (n : Int) : Prop := (0 ≤ n ∧ n < a.n 3) ∧ a.f 3 5 n = 0
def stW (a : Wd) (n : Int) : Wd := upF a 3 5 (fun j => if j = n then 1 else a.f 3 5 j)
def a_stop (s : St) (n : Int) : Int := if canP s.a n then 1 else 0
def t_stop (s : St) (n : Int) : St := if canP s.a n then chS s (stW s.a n) else s
theorem now_stop {a : Wd} {n : Int} (N : Now a) : Now (stW a n) := by
  obtain ⟨OL, ON, OC, OR, W1, W2, n12, nl, n8, n9, n10, n11, nS, n13, n14, n15, n16, n17, n18⟩ := N
  refine ⟨OL, okN5 ON (fun k k0 k1 => ?_), OC, OR, W1, W2, n12, nl, n8, n9, n10, n11, nS, n13, n14, n15, n16, n17, n18⟩
  have := (ON.2 k k0 k1).2.2.2.2
  split
  · exact Or.inr rfl
  · exact this
section STOP
variable {h : PH} {w : Nat} {s : St} {n : Int}
theorem m_isNoise {a : Wd} {Q : Int32 → PH → Prop} (M : MW h a) (hn : i32 n) (hT : 0 ≤ n → n < a.n 3 → Q 1 h) (hF : ¬ (0 ≤ n ∧ n < a.n 3) → Q 0 h) : w_X10_isNoise (z n) h Q := by
  unfold w_X10_isNoise
  rw [iN_0]
  have b := M.2.2.2.1.1
  exact m_lt (n := a.n 3) M.2.1.1 (by omega) hn hT hF
theorem m_isLink {a : Wd} {Q : Int32 → PH → Prop} (M : MW h a) (hn : i32 n) (hT : 0 ≤ n → n < a.n 1 → Q 1 h) (hF : ¬ (0 ≤ n ∧ n < a.n 1) → Q 0 h) : w_X10_isLink (z n) h Q := by
  unfold w_X10_isLink
  rw [iN_1]
  have b := M.2.2.1.2.1
  exact m_lt (n := a.n 1) M.1.1.2.1 (by omega) hn hT hF
theorem xs_stop {Q : Int32 → PH → Prop} (I : IX h w s) (hn : i32 n) (hq : ∀ g, IX g w (t_stop s n) → KpS h g s.a (t_stop s n).a → Q (z (a_stop s n)) g) : w_X9_stop (z n) h Q := by
  obtain ⟨p1, p2, p3⟩ := I.1.p
  have n1 := I.1.1
  have n3 := I.1.2.2.1
  have n4 := I.1.2.2.2.1
  have O1 := n4.2.1.1
  have ref : ¬ canP s.a n → Q 0 h := fun c => by
    have e1 : t_stop s n = s := if_neg c
    have e2 : a_stop s n = 0 := if_neg c
    have := hq h
    rw [e1, e2] at this
    exact this I (KpS.rf h s.a)
  unfold w_X9_stop
  rw [p3]
  refine ⟨p1, oX_w n1, ?_⟩
  refine x_has (n3.rw 3 (by decide)) rfl hn.1 hn.2 (fun c1 c2 => ?_) (fun c1 => ?_)
  · rw [if_neg (by decide), p3]
    refine ⟨p1, oX_w n1, ?_⟩
    refine n3.at 3 5 (by decide) rfl (by decide) rfl rfl c1 c2 ?_
    have o5 := (n4.2.1.2 n c1 c2).2.2.2.2
    by_cases c3 : s.a.f 3 5 n = 0
    · rw [if_pos (show z (s.a.f 3 5 n) = 0 by rw [c3]; rfl), p3]
      refine ⟨p1, oX_w n1, ?_⟩
      refine x_putW (u := 1) n3 3 5 (by decide) rfl (by decide) rfl rfl rfl c1 c2 (fun g1 f1 W1 => ?_)
      have c : canP s.a n := ⟨⟨c1, c2⟩, c3⟩
      have e1 : t_stop s n = chS s (stW s.a n) := if_pos c
      have e2 : a_stop s n = 1 := if_pos c
      rw [e1, e2] at hq
      exact I.logged (r0 := 1) (r1 := n) (r2 := 0) (r3 := 0) (r4 := 0) (b := stW s.a n) W1 (now_stop n4) (Tld.up (Or.inl rfl)) (Or.inr (Or.inl ⟨rfl, ⟨c1, c2⟩, c3, rfl⟩)) (fun c k hc => f1 c k (by omega)) (fun g' I' e12 => hq g' I' (Or.inl e12))
    · rw [if_neg (show ¬ z (s.a.f 3 5 n) = 0 from z_ne (by omega) (by omega) (by decide) (by decide) c3)]
      exact ref (fun x => c3 x.2)
  · rw [if_pos rfl]
    exact ref (fun x => c1 x.1)
theorem ms_stop {Q : Int32 → PH → Prop} (J : IM h s) (hn : i32 n) (hq : ∀ g, IM g (t_stop s n) → Q (z (a_stop s n)) g) : w_X10_stop (z n) h Q := by
  unfold w_X10_stop
  rintro _ rfl
  have J1 := J.fr (fr0 h 0)
  generalize sI h 0 0 0 = h1 at J1
  have n4 := J1.1.2.2
  have O1 := n4.2.1.1
  have ref : ¬ canP s.a n → Q 0 h1 := fun c => by
    have e1 : t_stop s n = s := if_neg c
    have e2 : a_stop s n = 0 := if_neg c
    rw [e1, e2] at hq
    exact hq h1 J1
  refine m_isNoise J1.1 hn (fun c1 c2 => ?_) (fun c1 => ?_)
  · have o5 := (n4.2.1.2 n c1 c2).2.2.2.2
    have b40 := J1.1.2.1.2.2.1 n c1 (by omega)
    rw [if_neg (by decide), iN_0, bitI c1 (by omega)]
    by_cases c3 : s.a.f 3 5 n = 0
    · have e0 : bt (gI h1 40 0) n.toNat = false := by
        cases hb : bt (gI h1 40 0) n.toNat with
        | false => rfl
        | true => have := b40.mp hb; omega
      rw [e0, if_neg (by decide)]
      have c : canP s.a n := ⟨⟨c1, c2⟩, c3⟩
      have e1 : t_stop s n = chS s (stW s.a n) := if_pos c
      have e2 : a_stop s n = 1 := if_pos c
      rw [e1, e2] at hq
      refine J1.keep (b := stW s.a n) (fun g f1 U D M => ?_)
      rintro _ rfl
      refine hq _ (J1.ch (now_stop n4) (Tld.up (Or.inl rfl)) f1 U (fun c k hc => (At.rf g c k).sI (by unfold dyC at hc; omega)) ⟨?_, fun n k0 k1 => ?_, fun j k0 k1 => ?_, fun n k0 k1 => ?_, fun n k0 k1 => ?_, fun n k0 k1 => ?_, ?_⟩)
      · rw [gI_out (by omega)]; exact D.1
      · rw [gI_out (by omega), gI_out (by omega), gI_out (by omega), gI_out (by omega), gI_out (by omega)]; exact D.2.1 n k0 k1
      · rw [show Int.toNat 0 = 0 from rfl, gI_in rfl rfl, bt_on c1 (by omega) (by omega)]
        have q := D.2.2.1 j k0 k1
        show _ ↔ j < s.a.n 3 ∧ (if j = n then (1 : Int) else s.a.f 3 5 j) = 1
        by_cases e : j = n
        · rw [if_pos e, e, decide_eq_true (rfl : n.toNat = n.toNat), Bool.or_true]
          exact ⟨fun _ => ⟨c2, rfl⟩, fun _ => rfl⟩
        · rw [if_neg e, decide_eq_false (by omega : ¬ j.toNat = n.toNat), Bool.or_false]
          exact q
      · rw [gI_out (by omega)]; exact D.2.2.2.1 n k0 k1
      · rw [gI_out (by omega)]; exact D.2.2.2.2.1 n k0 k1
      · rw [gI_out (by omega)]; exact D.2.2.2.2.2.1 n k0 k1
      · rw [gI_out (by omega)]; exact D.2.2.2.2.2.2
    · have e0 : bt (gI h1 40 0) n.toNat = true := b40.mpr ⟨c2, by omega⟩
      rw [e0, if_pos (by decide)]
      exact ref (fun x => c3 x.2)
  · rw [if_pos rfl]
    exact ref (fun x => c1 x.1)
end STOP
abbrev canW (a : Wd) (l v : Int) : Prop := (0 ≤ l ∧ l < a.n 1) ∧ a.f 1 3 l ≠ v
def waW (a : Wd) (l v : Int) : Wd := upF a 1 3 (fun j => if j = l then v else a.f 1 3 j)
def b01 (x : Int) : Int := if x = 0 then 0 else 1
def a_wall (s : St) (l x : Int) : Int := if canW s.a l (b01 x) then 1 else 0
def t_wall (s : St) (l x : Int) : St := if canW s.a l (b01 x) then chS s (waW s.a l (b01 x)) else s
theorem now_wall {a : Wd} {l v : Int} (N : Now a) (hv : v = 0 ∨ v = 1) : Now (waW a l v) := by
  obtain ⟨OL, ON, OC, OR, W1, W2, n12, nl, n8, n9, n10, n11, nS, n13, n14, n15, n16, n17, n18⟩ := N
  obtain ⟨o1, o2, o3, o4, o5⟩ := OL
  refine ⟨⟨o1, o2, o3, fun j j0 j1 => ⟨(o4 j j0 j1).1, (o4 j j0 j1).2.1, (o4 j j0 j1).2.2.1, (o4 j j0 j1).2.2.2.1, ?_⟩, o5⟩, ON, OC, OR, W1, W2, n12, nl, n8, n9, n10, n11, nS, n13, n14, n15, n16, n17, n18⟩
  show (if j = l then v else a.f 1 3 j) = 0 ∨ (if j = l then v else a.f 1 3 j) = 1
  have := (o4 j j0 j1).2.2.2.2
  split
  · exact hv
  · exact this
section WALL
variable {h : PH} {w : Nat} {s : St} {l x v : Int}
theorem x_wall9 {Q : Int32 → PH → Prop} (I : IX h w s) (hl : i32 l) (hv : v = 0 ∨ v = 1) (hT : canW s.a l v → ∀ g, IX g w (chS s (waW s.a l v)) → gI g 0 12 = 0 → Q 1 g) (hF : ¬ canW s.a l v → Q 0 h) : w_X9_wall_9 Q (z l) (z v) h := by
  obtain ⟨p1, p2, p3⟩ := I.1.p
  have n1 := I.1.1
  have n3 := I.1.2.2.1
  have n4 := I.1.2.2.2.1
  unfold w_X9_wall_9
  rw [p3]
  refine ⟨p1, oX_w n1, ?_⟩
  refine x_has (n3.rw 1 (by decide)) rfl hl.1 hl.2 (fun c1 c2 => ?_) (fun c1 => ?_)
  · rw [if_neg (by decide), p3]
    refine ⟨p1, oX_w n1, ?_⟩
    refine n3.at 1 3 (by decide) rfl (by decide) rfl rfl c1 c2 ?_
    have o5 := (n4.1.2.2.2.1 l c1 c2).2.2.2.2
    by_cases c3 : s.a.f 1 3 l = v
    · rw [if_pos (congrArg z c3)]
      exact hF (fun x => x.2 c3)
    · rw [if_neg (z_ne (by omega) (by omega) (by omega) (by omega) c3), p3]
      refine ⟨p1, oX_w n1, ?_⟩
      refine x_putW (u := v) n3 1 3 (by decide) rfl (by decide) rfl rfl rfl c1 c2 (fun g1 f1 W1 => ?_)
      have c : canW s.a l v := ⟨⟨c1, c2⟩, c3⟩
      rw [zn_1, z_sub]
      refine I.logged (r0 := 2) (r1 := l) (r2 := 1 - v) (r3 := 0) (r4 := 0) (b := waW s.a l v) W1 (now_wall n4 hv) (Tld.up (by unfold chg; omega)) (Or.inr (Or.inr (Or.inl ⟨rfl, ⟨c1, c2⟩, by omega, ?_⟩))) (fun c k hc => f1 c k (by omega)) (fun g' I' e12 => hT c g' I' e12)
      rw [show 1 - (1 - v) = v by omega]; rfl
  · rw [if_pos rfl]
    exact hF (fun x => c1 x.1)
theorem xs_wall {Q : Int32 → PH → Prop} (I : IX h w s) (hl : i32 l) (hx : i32 x) (hq : ∀ g, IX g w (t_wall s l x) → KpS h g s.a (t_wall s l x).a → Q (z (a_wall s l x)) g) : w_X9_wall (z l) (z x) h Q := by
  have hb : b01 x = 0 ∨ b01 x = 1 := by unfold b01; split; exact Or.inl rfl; exact Or.inr rfl
  have go : w_X9_wall_9 Q (z l) (z (b01 x)) h := by
    refine x_wall9 I hl hb (fun c g I' e12 => ?_) (fun c => ?_)
    · have e1 : t_wall s l x = chS s (waW s.a l (b01 x)) := if_pos c
      have e2 : a_wall s l x = 1 := if_pos c
      rw [e1, e2] at hq
      exact hq g I' (Or.inl e12)
    · have e1 : t_wall s l x = s := if_neg c
      have e2 : a_wall s l x = 0 := if_neg c
      rw [e1, e2] at hq
      exact hq h I (KpS.rf h s.a)
  unfold w_X9_wall
  by_cases c : x = 0
  · rw [if_pos (by rw [c]; rfl)]
    rw [show b01 x = 0 from if_pos c] at go
    exact go
  · rw [if_neg (show ¬ z x = 0 from z_ne hx.1 hx.2 (by decide) (by decide) c)]
    rw [show b01 x = 1 from if_neg c] at go
    exact go
theorem m_wall32 {Q : Int32 → PH → Prop} {v' : Int} (J : IM h s) (c1 : 0 ≤ l) (c2 : l < s.a.n 1) (hv : v = 0 ∨ v = 1) (e : s.a.f 1 3 l = v') (hT : canW s.a l v → ∀ g, IM g (chS s (waW s.a l v)) → Q 1 g) (hF : ¬ canW s.a l v → Q 0 h) : w_X10_wall_32 Q (z l) (z v) (z v') h := by
  have n4 := J.1.2.2
  have o5 := (n4.1.2.2.2.1 l c1 c2).2.2.2.2
  have l9 := n4.1.2.1
  unfold w_X10_wall_32
  by_cases c3 : s.a.f 1 3 l = v
  · rw [if_pos (by rw [← e, c3])]
    exact hF (fun x => x.2 c3)
  · rw [if_neg (z_ne (by omega) (by omega) (by omega) (by omega) (by omega))]
    refine J.keep (b := waW s.a l v) (fun g f1 U D M => ?_)
    rintro _ rfl
    rw [iN_0]
    refine hT ⟨⟨c1, c2⟩, c3⟩ _ (J.ch (now_wall n4 hv) (Tld.up (by unfold chg; omega)) f1 U (fun c k hc => (At.rf g c k).sI (by unfold dyC at hc; omega)) ⟨?_, fun n k0 k1 => ?_, fun j k0 k1 => ?_, fun n k0 k1 => ?_, fun j k0 k1 => ?_, fun n k0 k1 => ?_, ?_⟩)
    · rw [gI_out (by omega)]; exact D.1
    · rw [gI_out (by omega), gI_out (by omega), gI_out (by omega), gI_out (by omega), gI_out (by omega)]; exact D.2.1 n k0 k1
    · rw [gI_out (by omega)]; exact D.2.2.1 j k0 k1
    · rw [gI_out (by omega)]; exact D.2.2.2.1 n k0 k1
    · rw [show Int.toNat 0 = 0 from rfl, gI_in rfl rfl, bt_flip c1 (by omega) (by omega)]
      have q : bt (gI g 42 0) j.toNat = true ↔ j < s.a.n 1 ∧ s.a.f 1 3 j = 1 := D.2.2.2.2.1 j k0 k1
      show _ ↔ j < s.a.n 1 ∧ (if j = l then v else s.a.f 1 3 j) = 1
      by_cases e : j = l
      · rw [if_pos e]
        rw [e] at q ⊢
        rw [decide_eq_true (rfl : l.toNat = l.toNat), Bool.xor_true]
        cases hb : bt (gI g 42 0) l.toNat with
        | false =>
          have : ¬ (l < s.a.n 1 ∧ s.a.f 1 3 l = 1) := fun x => by rw [q.mpr x] at hb; exact absurd hb (by decide)
          exact ⟨fun _ => ⟨c2, by omega⟩, fun _ => rfl⟩
        | true =>
          have := q.mp hb
          exact ⟨fun x => absurd x (by decide), fun x => by omega⟩
      · rw [if_neg e, decide_eq_false (by omega : ¬ j.toNat = l.toNat), Bool.xor_false]
        exact q
    · rw [gI_out (by omega)]; exact D.2.2.2.2.2.1 n k0 k1
    · rw [gI_out (by omega)]; exact D.2.2.2.2.2.2
theorem ms_wall {Q : Int32 → PH → Prop} (J : IM h s) (hl : i32 l) (hx : x = 0 ∨ x = 1) (hq : ∀ g, IM g (t_wall s l x) → Q (z (a_wall s l x)) g) : w_X10_wall (z l) (z x) h Q := by
  have hb : b01 x = x := by unfold b01; rcases hx with rfl | rfl <;> rfl
  unfold w_X10_wall
  rintro _ rfl
  have J1 := J.fr (fr0 h 0)
  generalize sI h 0 0 0 = h1 at J1
  have n4 := J1.1.2.2
  have l9 := n4.1.2.1
  have hT : canW s.a l x → ∀ g, IM g (chS s (waW s.a l x)) → Q 1 g := fun c g J' => by
    have e1 : t_wall s l x = chS s (waW s.a l x) := by unfold t_wall; rw [hb]; exact if_pos c
    have e2 : a_wall s l x = 1 := by unfold a_wall; rw [hb]; exact if_pos c
    rw [e1, e2] at hq
    exact hq g J'
  have hF : ¬ canW s.a l x → Q 0 h1 := fun c => by
    have e1 : t_wall s l x = s := by unfold t_wall; rw [hb]; exact if_neg c
    have e2 : a_wall s l x = 0 := by unfold a_wall; rw [hb]; exact if_neg c
    rw [e1, e2] at hq
    exact hq h1 J1
  refine m_isLink J1.1 hl (fun c1 c2 => ?_) (fun c1 => ?_)
  · have o5 := (n4.1.2.2.2.1 l c1 c2).2.2.2.2
    have b42 : bt (gI h1 42 0) l.toNat = true ↔ l < s.a.n 1 ∧ s.a.f 1 3 l = 1 := J1.1.2.1.2.2.2.2.1 l c1 (by omega)
    rw [if_neg (by decide), iN_0, bitI c1 (by omega)]
    cases h0 : bt (gI h1 42 0) l.toNat with
    | false =>
      rw [if_neg (by decide)]
      refine m_wall32 (v' := 0) J1 c1 c2 hx ?_ hT hF
      rcases o5 with e | e
      · exact e
      · rw [b42.mpr ⟨c2, e⟩] at h0; exact absurd h0 (by decide)
    | true =>
      rw [if_pos (by decide)]
      exact m_wall32 (v' := 1) J1 c1 c2 hx (b42.mp h0).2 hT hF
  · rw [if_pos rfl]
    exact hF (fun x => c1 x.1)
end WALL
