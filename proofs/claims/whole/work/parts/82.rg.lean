/-! ===== changes: from state to state ===== -/
def upS (s : St) (a : Wd) (un : Int) (u : Int → Wd) : St := (a, (un, u), s.2.2)
def chS (s : St) (b : Wd) : St := upS s b (nun s.un) (nu s.un s.u b)
theorem OkS.ch {s : St} {b : Wd} (O : OkS s) (N : Now b) (T : Tld s.a b) : OkS (chS s b) := by
  obtain ⟨o1, o2, o3, o4, o5, o6, o7⟩ := O
  have r := nun_rg o2
  have b9 : b.n 9 = 0 := (T.1 9 (by decide)).trans o1.2
  refine ⟨⟨N, b9⟩, ⟨?_, ?_⟩, nu_top _ _ _, fun k k0 k1 => ?_, fun e => ?_, ?_, o7⟩
  · show 0 ≤ nun s.un; omega
  · show nun s.un ≤ 20; omega
  · show Now (nu s.un s.u b k) ∧ (nu s.un s.u b k).n 9 = 0 ∧ Tld b (nu s.un s.u b k)
    have k1' : k ≤ nun s.un := k1
    by_cases e : k = nun s.un
    · rw [e, nu_top]; exact ⟨N, b9, Tld.rf b⟩
    · have e2 : nu s.un s.u b k = s.u (if s.un = 20 then k + 1 else k) := by
        unfold nu; rw [if_neg e]; split <;> rfl
      rw [e2]
      have q := o4 (if s.un = 20 then k + 1 else k) (by split <;> omega) (by unfold nun at e k1'; split <;> rename_i hh <;> simp only [hh, if_true, if_false] at e k1' <;> omega)
      exact ⟨q.1, q.2.1, T.sy.tr q.2.2⟩
  · have q := o5 e
    exact ⟨q.1, q.2.1, T.sy.tr q.2.2⟩
  · have e : b.n 0 = s.a.n 0 := T.1 0 (by decide)
    show OkNt (b.n 0) s.nn s.nt s.kb
    rw [e]; exact o6
def chX (w c k : Nat) : Prop := (w ≤ c ∧ c < w + 23) ∨ c = 135 ∨ c = 136 ∨ (c = 0 ∧ (k = 9 ∨ k = 12)) ∨ (101 ≤ c ∧ c ≤ 105)
theorem IX.to {h g : PH} {w : Nat} {s : St} {a' : Wd} {un' : Int} {u' : Int → Wd} (I : IX h w s) (N : NX g w a') (L : LgX g un' u') (O : OkS (upS s a' un' u')) (e : ∀ c k, ¬ chX w c k → At h g c k) : IX g w (upS s a' un' u') := by
  obtain ⟨i1, ⟨i2, i2'⟩, i3, ⟨i4, i5, i6⟩, i7, ⟨i8, i9, i10⟩, ⟨i11, i12⟩, ⟨i13, i14, i15⟩, ⟨⟨p1, i16⟩, ⟨p2, i17⟩⟩, i18⟩ := I
  have hw := N.1
  refine ⟨N, ⟨?_, ?_⟩, ?_, ⟨?_, ?_, fun b => ?_⟩, L, ⟨?_, fun k k0 k1 c hc => ?_, ?_⟩, ⟨?_, fun k k0 k1 => ?_⟩, ⟨fun k hk => ?_, ?_, ?_⟩, ⟨⟨p1, ?_⟩, ⟨p2, ?_⟩⟩, O⟩
  · rw [(e 0 4 (by unfold chX; omega)).2.2]; exact i2
  · exact i2'.fr (fun c k b1 b2 => e c k (by unfold chX; omega))
  · exact i3.fr (fun c k b1 b2 => e c k (by unfold chX; omega))
  · exact i4.fr (fun c k b1 b2 => e c k (by unfold chX; omega))
  · rw [(e 0 6 (by unfold chX; omega)).1]; exact i5
  · exact (i6 b).at' (fun c k b1 b2 b3 b4 b5 b6 => e c k (by unfold chX; omega))
  · exact i8.at' (fun k => e 130 k (by unfold chX; omega))
  · rw [(e 131 _ (by unfold chX; omega)).1]; exact i9 k k0 k1 c hc
  · rw [(e 129 4 (by unfold chX; omega)).1]; exact i10
  · rw [(e 0 1 (by unfold chX; omega)).1]; exact i11
  · rw [(e 1 _ (by unfold chX; omega)).1]; exact i12 k k0 k1
  · rw [(e 4 _ (by unfold chX; omega)).1]; exact i13 k hk
  · rw [(e 2 8 (by unfold chX; omega)).1]; exact i14
  · rw [(e 2 9 (by unfold chX; omega)).1]; exact i15
  · exact i16.at' (fun k => e 113 k (by unfold chX; omega))
  · exact i17.at' (fun k => e 115 k (by unfold chX; omega))
theorem NX.stale {g : PH} {w : Nat} {b : Wd} (h1 : w = 8 ∨ w = 31) (h2 : gP g 0 3 = w + 1) (W : WX g w b) (N : Now b) (b9 : b.n 9 = 0) (e9 : gI g 0 9 = 0) : NX g w b := ⟨h1, h2, W, N, Or.inl ⟨e9, by omega⟩, fun x => by rw [e9] at x; exact absurd x (by decide)⟩
def KpS (h g : PH) (a b : Wd) : Prop := gI g 0 12 = 0 ∨ (KpX h g ∧ SA a b)
theorem KpS.rf (h : PH) (a : Wd) : KpS h h a a := Or.inr ⟨KpX.rf h, SA.rf a⟩
theorem OkS.top {s : St} (O : OkS s) : s.u s.un = s.a := O.2.2.1
theorem IX.ok {h : PH} {w : Nat} {s : St} (I : IX h w s) : OkS s := I.2.2.2.2.2.2.2.2.2
/-- the end of a change: what is logged -/
theorem IX.logged {h g : PH} {w : Nat} {s : St} {b : Wd} {r0 r1 r2 r3 r4 : Int} {Q : PH → Prop} (I : IX h w s) (W : WX g w b) (N : Now b) (T : Tld s.a b) (R : Rc r0 r1 r2 r3 r4 s.a b) (f : ∀ c k, ¬ (w ≤ c ∧ c < w + 23) → At h g c k) (hq : ∀ g', IX g' w (chS s b) → gI g' 0 12 = 0 → Q g') : w_X9_logged (z r0) (z r1) (z r2) (z r3) (z r4) g Q := by
  have n1 := I.1.1
  have O := I.ok
  refine x_logged (u := s.u) (un := s.un) (b := b) (I.2.2.2.2.1.at' (fun c k hc => f c k (by omega))) (by rw [O.top]; exact R) (fun g' f' e9 e12 L => ?_)
  have b9 : b.n 9 = 0 := (T.1 9 (by decide)).trans O.1.2
  have e3 : gP g' 0 3 = w + 1 := by rw [(f' 0 3 (by omega)).2.2, (f 0 3 (by omega)).2.2]; exact I.1.2.1
  exact hq g' (I.to (NX.stale n1 e3 (W.at' (fun c k b1 b2 b3 b4 b5 b6 => f' c k (by omega))) N b9 e9) L (O.ch N T) (fun c k hc => (f c k (fun x => hc (Or.inl x))).tr (f' c k (fun x => hc (by unfold chX; omega))))) e12
/-! the reference -/
theorem dy0_ns {c k : Nat} (h : dyC 0 c k) : ¬ dysC c k := by
  have := dy_34 h
  rintro (x | x)
  · omega
  · exact x.2.2 (Or.inl h)
theorem dy1_ns {c k : Nat} (h : dyC 1 c k) : ¬ dysC c k := by
  have := dy_34 h
  rintro (x | x)
  · omega
  · exact x.2.2 (Or.inr h)
def chM (c k : Nat) : Prop := (34 ≤ c ∧ c ≤ 44 ∧ ¬ dyC 1 c k) ∨ (c = 0 ∧ k = 61) ∨ scrM c k
theorem IM.to {h g : PH} {s : St} {a' : Wd} {un' : Int} {u' : Int → Wd} (J : IM h s) (M : MW g a') (U : DyM g un' u') (O : OkS (upS s a' un' u')) (e : ∀ c k, ¬ chM c k → At h g c k) : IM g (upS s a' un' u') := by
  obtain ⟨j1, j2, ⟨j3, j4⟩, j5, ⟨j6, j7⟩, ⟨j8, j9⟩, j10⟩ := J
  refine ⟨M, U, ⟨?_, fun b => ?_⟩, j5.at' (fun k hk => e 0 k (by unfold chM scrM; omega)) (fun c k b1 b2 => e c k (by unfold chM scrM; omega)), ⟨?_, fun k k0 k1 => ?_⟩, ⟨?_, ?_⟩, O⟩
  · rw [(e 0 60 (by unfold chM scrM; omega)).1]; exact j3
  · exact (j4 b).of (j10.2.2.2.2.1 b).1.okd (by omega) (fun c k hc => (e c k (fun x => by
      have := dy_34 hc
      rcases x with x | x | x
      · exact x.2.2 hc
      · omega
      · unfold scrM at x; omega)).1)
  · rw [(e 0 2 (by unfold chM scrM; omega)).1]; exact j6
  · rw [(e 1 _ (by unfold chM scrM; omega)).1]; exact j7 k k0 k1
  · rw [(e 0 42 (by unfold chM scrM; omega)).1]; exact j8
  · rw [(e 0 43 (by unfold chM scrM; omega)).1]; exact j9
theorem IM.ch {h g1 g : PH} {s : St} {b : Wd} (J : IM h s) (N : Now b) (T : Tld s.a b) (f1 : ∀ c k, ¬ dysC c k → At h g1 c k) (U : DyM g1 (nun s.un) (nu s.un s.u b)) (f2 : ∀ c k, ¬ dyC 0 c k → At g1 g c k) (D : MD g 0 b) : IM g (chS s b) := by
  have O := J.2.2.2.2.2.2
  refine J.to ⟨?_, D, N⟩ ?_ (O.ch N T) (fun c k hc => (f1 c k (fun x => hc ?_)).tr (f2 c k (fun x => hc ?_)))
  · refine MT.tld (J.1.1.at' (fun c k b1 b2 => (f1 c k (fun x => ?_)).tr (f2 c k (fun x => ?_)))) T
    · rcases x with x | x <;> omega
    · have := dy_34 x; omega
  · obtain ⟨u1, u2, u3⟩ := U
    refine ⟨by rw [(f2 0 61 (by unfold dyC; omega)).1]; exact u1, u2, fun i i0 i1 => ⟨(u3 i i0 i1).1.off (u3 i i0 i1).2 (by omega) (by omega) (by omega) f2, (u3 i i0 i1).2⟩⟩
  · rcases x with x | x
    · exact Or.inr (Or.inl x)
    · exact Or.inl ⟨x.1, x.2.1, fun y => x.2.2 (Or.inr y)⟩
  · have := dy_34 x
    exact Or.inl ⟨this.1, this.2, fun y => by unfold dyC at x y; omega⟩
theorem IM.keep {h : PH} {s : St} {b : Wd} {Q : PH → Prop} (J : IM h s) (hq : ∀ g, (∀ c k, ¬ dysC c k → At h g c k) → DyM g (nun s.un) (nu s.un s.u b) → MD g 0 s.a → MT g s.a → Q g) : w_X10_keepNow h Q := by
  have O := J.2.2.2.2.2.2
  refine m_keepNow (b := b) J.1.2.1 O.1.1.okd J.2.1 O.top (fun g f U => hq g f U (J.1.2.1.of O.1.1.okd (by omega) (fun c k hc => (f c k (dy0_ns hc)).1)) (J.1.1.at' (fun c k b1 b2 => f c k (fun x => ?_))))
  rcases x with x | x <;> omega
/-! ===== one more noise ===== -/
abbrev canM (a : Wd) (p o f t l : Int) : Prop := ((0 ≤ p ∧ p < a.n 0) ∧ (0 ≤ o ∧ o < a.n 2)) ∧ a.n 3 < 12 ∧ ((0 ≤ f ∧ f < 48) ∧ (0 ≤ t ∧ t < 48)) ∧ f ≤ t ∧ 1 ≤ l ∧ l ≤ 20
def a_make (s : St) (p o f t l : Int) : Int := if canM s.a p o f t l then s.a.n 3 else -1
def t_make (s : St) (p o f t l : Int) : St := if canM s.a p o f t l then chS s (adR s.a 3 (nz0 p o f t l)) else s
theorem now_make {a : Wd} {p o f t l : Int} (N : Now a) (c : canM a p o f t l) : Now (adR a 3 (nz0 p o f t l)) := by
  obtain ⟨OL, ON, OC, OR, W1, W2, n12, nl, n8, n9, n10, n11, nS, n13, n14, n15, n16, n17, n18⟩ := N
  obtain ⟨⟨c1, c2⟩, c3, ⟨c4, c5⟩, c6, c7⟩ := c
  have ON1 := ON.1
  refine ⟨OL, ⟨by rw [adR_n]; omega, fun n k1 k2 => ?_⟩, OC, OR, W1, W2, by rw [adR_n]; omega, fun n k1 k2 => ?_, n8, n9, n10, n11, nS, n13, n14, n15, n16, n17, n18⟩
  · rw [adR_n] at k2
    by_cases en : n = a.n 3
    · subst en
      rw [adR_in, adR_in, adR_in, adR_in, adR_in, adR_in]
      show (0 ≤ p ∧ p < a.n 0) ∧ (-1 ≤ o ∧ o < 4) ∧ (0 ≤ f ∧ f ≤ t ∧ t ≤ 47) ∧ (-100 ≤ l ∧ l ≤ 20) ∧ ((0 : Int) = 0 ∨ (0 : Int) = 1)
      exact ⟨c1, by omega, by omega, by omega, Or.inl rfl⟩
    · rw [adR_out (by omega), adR_out (by omega), adR_out (by omega), adR_out (by omega), adR_out (by omega), adR_out (by omega)]
      exact ON.2 n k1 (by omega)
  · rw [adR_n] at k2
    by_cases en : n = a.n 3
    · subst en
      rw [adR_in, adR_in]
      show (0 ≤ o ∧ o < a.n 2) ∧ 1 ≤ l
      exact ⟨c2, c7.1⟩
    · rw [adR_out (by omega), adR_out (by omega)]
      exact nl n k1 (by omega)
section MAKE
variable {h : PH} {w : Nat} {s : St} {p o f t l : Int}
theorem xs_make {Q : Int32 → PH → Prop} (I : IX h w s) (hp : i32 p) (ho : i32 o) (hf : i32 f) (ht : i32 t) (hl : i32 l) (hq : ∀ g, IX g w (t_make s p o f t l) → KpS h g s.a (t_make s p o f t l).a → Q (z (a_make s p o f t l)) g) : w_X9_make (z p) (z o) (z f) (z t) (z l) h Q := by
  obtain ⟨p1, p2, p3⟩ := I.1.p
  have n1 := I.1.1
  have n3 := I.1.2.2.1
  have n4 := I.1.2.2.2.1
  have O1 := n4.2.1.1
  have ref : ¬ canM s.a p o f t l → Q (-1) h := fun c => by
    have e1 : t_make s p o f t l = s := if_neg c
    have e2 : a_make s p o f t l = -1 := if_neg c
    have := hq h
    rw [e1, e2] at this
    exact this I (KpS.rf h s.a)
  unfold w_X9_make
  rw [p3]
  refine ⟨p1, oX_w n1, ?_⟩
  refine x_has (n3.rw 0 (by decide)) rfl hp.1 hp.2 (fun c1 c2 => ?_) (fun c1 => ?_)
  · rw [if_neg (by decide), p3]
    refine ⟨p1, oX_w n1, ?_⟩
    refine x_has (n3.rw 2 (by decide)) rfl ho.1 ho.2 (fun c3 c4 => ?_) (fun c3 => ?_)
    · rw [if_neg (by decide), p3]
      refine ⟨p1, oX_w n1, ?_⟩
      rw [show gI h (w + 7) 3 = z (s.a.n 3) from (n3.n0 3 (by decide)).1, zn_12]
      by_cases c5 : s.a.n 3 < 12
      · rw [if_pos (by rw [z_lt (by omega) (by omega) (by omega) (by omega)]; omega)]
        refine z_isMin' hf (fun c6 c7 => ?_) (fun c6 => ?_)
        · rw [if_neg (by decide)]
          refine z_isMin' ht (fun c8 c9 => ?_) (fun c8 => ?_)
          · rw [if_neg (by decide)]
            by_cases c10 : t < f
            · rw [if_pos (by rw [z_lt (by omega) (by omega) (by omega) (by omega)]; omega)]
              exact ref (fun x => by have := x.2.2.2.1; omega)
            · rw [if_neg (by rw [z_lt (by omega) (by omega) (by omega) (by omega)]; omega), zn_1]
              have hl1 := hl.1
              have hl2 := hl.2
              by_cases c11 : l < 1
              · rw [if_pos (by rw [z_lt (by omega) (by omega) (by omega) (by omega)]; omega)]
                exact ref (fun x => by have := x.2.2.2.2; omega)
              · rw [if_neg (by rw [z_lt (by omega) (by omega) (by omega) (by omega)]; omega), zn_20]
                by_cases c12 : l ≤ 20
                · rw [if_pos (by rw [z_le (by omega) (by omega) (by omega) (by omega)]; omega), p3]
                  refine ⟨p1, oX_w n1, ?_⟩
                  have c : canM s.a p o f t l := ⟨⟨⟨c1, c2⟩, c3, c4⟩, c5, ⟨⟨c6, c7⟩, c8, c9⟩, by omega, by omega, c12⟩
                  refine x_addW (f := nz0 p o f t l) n3 3 (by decide) rfl (by show s.a.n 3 < (13 : Int); omega) (fun c hc => ?_) (fun g1 f1 W1 => ?_)
                  · have hc6 : c < 6 := by have : (c : Int) < (6 : Int) := hc; omega
                    have : c = 0 ∨ c = 1 ∨ c = 2 ∨ c = 3 ∨ c = 4 ∨ c = 5 := by omega
                    rcases this with rfl | rfl | rfl | rfl | rfl | rfl <;> rfl
                  refine I.logged (r0 := 0) (r1 := s.a.n 3) (r2 := 0) (r3 := 0) (r4 := 0) W1 (now_make n4 c) Tld.ad (Or.inl ⟨rfl, _, rfl⟩) (fun c k hc => f1 c k (by omega)) (fun g' I' e12 => ?_)
                  have e1 : t_make s p o f t l = chS s (adR s.a 3 (nz0 p o f t l)) := if_pos c
                  have e2 : a_make s p o f t l = s.a.n 3 := if_pos c
                  rw [e1, e2] at hq
                  exact hq g' I' (Or.inl e12)
                · rw [if_neg (by rw [z_le (by omega) (by omega) (by omega) (by omega)]; omega)]
                  exact ref (fun x => c12 x.2.2.2.2.2)
          · rw [if_pos rfl]
            exact ref (fun x => c8 x.2.2.1.2)
        · rw [if_pos rfl]
          exact ref (fun x => c6 x.2.2.1.1)
      · rw [if_neg (by rw [z_lt (by omega) (by omega) (by omega) (by omega)]; omega)]
        exact ref (fun x => c5 x.2.1)
    · rw [if_pos rfl]
      exact ref (fun x => c3 x.1.2)
  · rw [if_pos rfl]
    exact ref (fun x => c1 x.1.1)
theorem m_isLoud {l : Int} {h : PH} {Q : Int32 → PH → Prop} (hl : i32 l) (hT : 1 ≤ l → l ≤ 20 → Q 1 h) (hF : ¬ (1 ≤ l ∧ l ≤ 20) → Q 0 h) : w_X10_isLoud (z l) h Q := by
  have hl1 := hl.1
  have hl2 := hl.2
  unfold w_X10_isLoud
  rw [zn_1, zn_20]
  by_cases c11 : l < 1
  · rw [if_pos (by rw [z_lt (by omega) (by omega) (by omega) (by omega)]; omega)]
    exact hF (by omega)
  · rw [if_neg (by rw [z_lt (by omega) (by omega) (by omega) (by omega)]; omega)]
    by_cases c12 : 20 < l
    · rw [if_pos (by rw [z_lt (by omega) (by omega) (by omega) (by omega)]; omega)]
      exact hF (by omega)
    · rw [if_neg (by rw [z_lt (by omega) (by omega) (by omega) (by omega)]; omega)]
      exact hT (by omega) (by omega)
theorem ms_make {Q : Int32 → PH → Prop} (J : IM h s) (hp : i32 p) (ho : i32 o) (hf : i32 f) (ht : i32 t) (hl : i32 l) (hq : ∀ g, IM g (t_make s p o f t l) → Q (z (a_make s p o f t l)) g) : w_X10_make (z p) (z o) (z f) (z t) (z l) h Q := by
  unfold w_X10_make
  rintro _ rfl
  have J1 := J.fr (fr0 h 0)
  generalize sI h 0 0 0 = h1 at J1
  have n4 := J1.1.2.2
  have O1 := n4.2.1.1
  have ref : ¬ canM s.a p o f t l → Q (-1) h1 := fun c => by
    have e1 : t_make s p o f t l = s := if_neg c
    have e2 : a_make s p o f t l = -1 := if_neg c
    rw [e1, e2] at hq
    exact hq h1 J1
  refine m_isPlace J1.1 hp (fun c1 c2 => ?_) (fun c1 => ?_)
  · rw [if_neg (by decide)]
    refine m_isOwner J1.1 ho (fun c3 c4 => ?_) (fun c3 => ?_)
    · rw [if_neg (by decide)]
      refine m_isMin hf (fun c6 c7 => ?_) (fun c6 => ?_)
      · rw [if_neg (by decide)]
        refine m_isMin ht (fun c8 c9 => ?_) (fun c8 => ?_)
        · rw [if_neg (by decide)]
          by_cases c10 : t < f
          · rw [if_pos (by rw [z_lt (by omega) (by omega) (by omega) (by omega)]; omega)]
            exact ref (fun x => by have := x.2.2.2.1; omega)
          · rw [if_neg (by rw [z_lt (by omega) (by omega) (by omega) (by omega)]; omega)]
            refine m_isLoud hl (fun c11 c12 => ?_) (fun c11 => ?_)
            · rw [if_neg (by decide), iN_0]
              have e34 : gI h1 34 0 = z (s.a.n 3) := J1.1.2.1.1
              rw [e34, zn_12]
              by_cases c5 : s.a.n 3 = 12
              · rw [if_pos (congrArg z c5)]
                exact ref (fun x => by have := x.2.1; omega)
              · rw [if_neg (z_ne (by omega) (by omega) (by omega) (by omega) c5)]
                have c : canM s.a p o f t l := ⟨⟨⟨c1, c2⟩, c3, c4⟩, by have := n4.2.2.2.2.2.2.1; omega, ⟨⟨c6, c7⟩, c8, c9⟩, by omega, by omega, by omega⟩
                refine J1.keep (b := adR s.a 3 (nz0 p o f t l)) (fun g f1 U D M => ?_)
                unfold w_X10_makes
                rintro _ rfl
                have g34 : gI g 34 0 = z (s.a.n 3) := D.1
                rw [iN_0, g34, z_iN (a := s.a.n 3) (by omega) (by omega)]
                refine ⟨z_in (by omega) (by omega) (by omega), ?_⟩
                rintro _ rfl
                refine ⟨z_in (by omega) (by omega) (by omega), ?_⟩
                rintro _ rfl
                refine ⟨z_in (by omega) (by omega) (by omega), ?_⟩
                rintro _ rfl
                refine ⟨z_in (by omega) (by omega) (by omega), ?_⟩
                rintro _ rfl
                refine ⟨z_in (by omega) (by omega) (by omega), ?_⟩
                rintro _ rfl
                rintro _ rfl
                have e1 : t_make s p o f t l = chS s (adR s.a 3 (nz0 p o f t l)) := if_pos c
                have e2 : a_make s p o f t l = s.a.n 3 := if_pos c
                rw [e1, e2] at hq
                rw [gI_in rfl rfl, gI_out (by omega), gI_out (by omega), gI_out (by omega), gI_out (by omega), gI_out (by omega), g34, z_inc, zn_1, z_sub, show s.a.n 3 + 1 - 1 = s.a.n 3 by omega]
                refine hq _ (J1.ch (now_make n4 c) Tld.ad f1 U (fun c k hc => ?_) ⟨?_, fun n k0 k1 => ?_, fun n k0 k1 => ?_, fun n k0 k1 => ?_, fun n k0 k1 => ?_, fun n k0 k1 => ?_, ?_⟩)
                · exact ((((((At.rf g c k).sI (by unfold dyC at hc; omega)).sI (by unfold dyC at hc; omega)).sI (by unfold dyC at hc; omega)).sI (by unfold dyC at hc; omega)).sI (by unfold dyC at hc; omega)).sI (by unfold dyC at hc; omega)
                · exact gI_in rfl rfl
                · rw [adR_n] at k1
                  by_cases en : n = s.a.n 3
                  · subst en
                    rw [adR_in, adR_in, adR_in, adR_in, adR_in, show (12 * 0 + s.a.n 3).toNat = (s.a.n 3).toNat by omega]
                    refine ⟨?_, ?_, ?_, ?_, ?_⟩
                    · rw [gI_out (by omega), gI_out (by omega), gI_out (by omega), gI_out (by omega), gI_out (by omega), gI_in rfl rfl]; rfl
                    · rw [gI_out (by omega), gI_out (by omega), gI_out (by omega), gI_out (by omega), gI_in rfl rfl]; rfl
                    · rw [gI_out (by omega), gI_out (by omega), gI_out (by omega), gI_in rfl rfl]; rfl
                    · rw [gI_out (by omega), gI_out (by omega), gI_in rfl rfl]; rfl
                    · rw [gI_out (by omega), gI_in rfl rfl]; rfl
                  · rw [adR_out (by omega), adR_out (by omega), adR_out (by omega), adR_out (by omega), adR_out (by omega)]
                    have := D.2.1 n k0 (by omega)
                    obtain ⟨q1, q2, q3, q4, q5⟩ := this
                    refine ⟨?_, ?_, ?_, ?_, ?_⟩ <;> (repeat rw [gI_out (by omega)]) <;> assumption
                · rw [adR_n]
                  repeat rw [gI_out (by omega)]
                  have := D.2.2.1 n k0 k1
                  rw [this]
                  by_cases en : n = s.a.n 3
                  · subst en
                    rw [adR_in]
                    show _ ↔ s.a.n 3 < s.a.n 3 + 1 ∧ (0 : Int) = 1
                    constructor <;> intro x <;> exfalso <;> omega
                  · rw [adR_out (by omega)]
                    constructor
                    · intro x; exact ⟨by omega, x.2⟩
                    · intro x; exact ⟨by omega, x.2⟩
                · repeat rw [gI_out (by omega)]
                  exact D.2.2.2.1 n k0 k1
                · repeat rw [gI_out (by omega)]
                  exact D.2.2.2.2.1 n k0 k1
                · repeat rw [gI_out (by omega)]
                  exact D.2.2.2.2.2.1 n k0 k1
                · repeat rw [gI_out (by omega)]
                  exact D.2.2.2.2.2.2
            · rw [if_pos rfl]
              exact ref (fun x => c11 x.2.2.2.2)
        · rw [if_pos rfl]
          exact ref (fun x => c8 x.2.2.1.2)
      · rw [if_pos rfl]
        exact ref (fun x => c6 x.2.2.1.1)
    · rw [if_pos rfl]
      exact ref (fun x => c3 x.1.2)
  · rw [if_pos rfl]
    exact ref (fun x => c1 x.1.1)
end MAKE
