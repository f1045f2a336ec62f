/-! ===== notes ===== -/
def ntS (s : St) (nn : Int) (nt : Nat → Int → Int) (kb : Int) : St := (s.1, s.2.1, s.2.2.1, (nn, nt, kb), s.2.2.2.2)
def ntP (s : St) (k p m : Int) : St := ntS s (s.nn + 1) (fun r j => if j = s.nn then (if r = 0 then k else if r = 1 then p else if r = 2 then m else 0) else s.nt r j) s.kb
abbrev canN (s : St) (p m : Int) : Prop := ((0 ≤ p ∧ p < s.a.n 0) ∧ (0 ≤ m ∧ m < 48)) ∧ s.nn < 24
def a_note (s : St) (p m : Int) : Int := if canN s p m then s.nn else -1
def t_note (s : St) (p m b : Int) : St := if canN s p m then ntP s b p m else s
abbrev canK (s : St) (n : Int) : Prop := (0 ≤ n ∧ n < s.nn) ∧ s.nn < 24
def a_strike (s : St) (n : Int) : Int := if canK s n then s.nn else -1
def t_strike (s : St) (n : Int) : St := if canK s n then ntP s 2 n 0 else s
abbrev canKn (s : St) (n : Int) : Prop := -1 ≤ n ∧ n ≤ s.nn
def a_known (s : St) (n : Int) : Int := if canKn s n then 1 else 0
def tt_known (s : St) (n : Int) : St := if canKn s n then ntS s s.nn s.nt n else s
theorem OkS.nt {s : St} {nn : Int} {nt : Nat → Int → Int} {kb : Int} (O : OkS s) (h : OkNt (s.a.n 0) nn nt kb) : OkS (ntS s nn nt kb) := ⟨O.1, O.2.1, O.2.2.1, O.2.2.2.1, O.2.2.2.2.1, h, O.2.2.2.2.2.2⟩
theorem OkNt.add {p nn kb : Int} {nt : Nat → Int → Int} {k q m : Int} (O : OkNt p nn nt kb) (h : nn < 24) (hk : ((k = 0 ∨ k = 1) ∧ (0 ≤ q ∧ q < p) ∧ (0 ≤ m ∧ m < 48)) ∨ (k = 2 ∧ (0 ≤ q ∧ q < nn) ∧ m = 0)) : OkNt p (nn + 1) (fun r j => if j = nn then (if r = 0 then k else if r = 1 then q else if r = 2 then m else 0) else nt r j) kb := by
  obtain ⟨o1, o2, o3⟩ := O
  refine ⟨by omega, by omega, fun j j0 j1 => ?_⟩
  by_cases e : j = nn
  · have key : ∀ x y v : Int, x = k → y = q → v = m → (((x = 0 ∨ x = 1) ∧ (0 ≤ y ∧ y < p) ∧ (0 ≤ v ∧ v < 48)) ∨ (x = 2 ∧ (0 ≤ y ∧ y < j) ∧ v = 0)) := by
      rintro x y v ex ey ev
      rw [ex, ey, ev, e]
      exact hk
    exact key _ _ _ (if_pos e) (if_pos e) (if_pos e)
  · have key : ∀ x y v : Int, x = nt 0 j → y = nt 1 j → v = nt 2 j → (((x = 0 ∨ x = 1) ∧ (0 ≤ y ∧ y < p) ∧ (0 ≤ v ∧ v < 48)) ∨ (x = 2 ∧ (0 ≤ y ∧ y < j) ∧ v = 0)) := by
      rintro x y v ex ey ev
      rw [ex, ey, ev]
      exact o3 j j0 (by omega)
    exact key _ _ _ (if_neg e) (if_neg e) (if_neg e)
section NOTE
variable {h : PH} {w : Nat} {s : St} {p m n b : Int}
theorem IX.note {g : PH} {nn : Int} {nt : Nat → Int → Int} {kb : Int} (I : IX h w s) (N : NtX g (ntS s nn nt kb)) (O : OkNt (s.a.n 0) nn nt kb) (f : ∀ c k, ¬ (c = 130 ∨ c = 131 ∨ (c = 129 ∧ k = 4)) → At h g c k) : IX g w (ntS s nn nt kb) ∧ KpX h g := by
  obtain ⟨i1, ⟨i2, i2'⟩, i3, ⟨i4, i5, i6⟩, i7, _, ⟨i11, i12⟩, ⟨i13, i14, i15⟩, ⟨⟨q1, i16⟩, ⟨q2, i17⟩⟩, i18⟩ := I
  have hw := i1.1
  refine ⟨⟨i1.at' (fun k => f 0 k (by omega)) (fun c k b1 b2 _ => f c k (by omega)) (fun c k b1 b2 => f c k (by omega)), ⟨?_, ?_⟩, ?_, ⟨?_, ?_, fun b => ?_⟩, ?_, N, ⟨?_, fun k k0 k1 => ?_⟩, ⟨fun k hk => ?_, ?_, ?_⟩, ⟨⟨q1, ?_⟩, ⟨q2, ?_⟩⟩, i18.nt O⟩, Or.inr ⟨(f 0 12 (by omega)).1, fun x => by rw [(f 0 9 (by omega)).1]; exact x, fun c k c1 c2 => f c k (by omega)⟩⟩
  · rw [(f 0 4 (by omega)).2.2]; exact i2
  · exact i2'.fr (fun c k b1 b2 => f c k (by omega))
  · exact i3.fr (fun c k b1 b2 => f c k (by omega))
  · exact i4.fr (fun c k b1 b2 => f c k (by omega))
  · rw [(f 0 6 (by omega)).1]; exact i5
  · exact (i6 b).at' (fun c k b1 b2 b3 b4 b5 b6 => f c k (by omega))
  · exact i7.at' (fun c k hc => f c k (by omega))
  · rw [(f 0 1 (by omega)).1]; exact i11
  · rw [(f 1 _ (by omega)).1]; exact i12 k k0 k1
  · rw [(f 4 _ (by omega)).1]; exact i13 k hk
  · rw [(f 2 8 (by omega)).1]; exact i14
  · rw [(f 2 9 (by omega)).1]; exact i15
  · exact i16.at' (fun k => f 113 k (by omega))
  · exact i17.at' (fun k => f 115 k (by omega))
theorem x_addNote {Q : Int32 → PH → Prop} {k q : Int} (I : IX h w s) (hn : s.nn < 24) (hk : ((k = 0 ∨ k = 1) ∧ (0 ≤ q ∧ q < s.a.n 0) ∧ (0 ≤ m ∧ m < 48)) ∨ (k = 2 ∧ (0 ≤ q ∧ q < s.nn) ∧ m = 0)) (hq : ∀ g, IX g w (ntP s k q m) → KpX h g → Q (z s.nn) g) : w_X6_add 130 (z k) (z q) (z m) (z 0) (z 0) h Q := by
  obtain ⟨i8, i9, i10⟩ := I.2.2.2.2.2.1
  have O := I.ok
  refine x_add i8 hn (fun g R1 V1 E1 => ?_)
  have f : ∀ c k, ¬ (c = 130 ∨ c = 131 ∨ (c = 129 ∧ k = 4)) → At h g c k := fun c k hc => E1 c k (by omega) (by omega)
  have r := I.note (g := g) (nn := s.nn + 1) (nt := fun r j => if j = s.nn then (if r = 0 then k else if r = 1 then q else if r = 2 then m else 0) else s.nt r j) (kb := s.kb) ⟨R1, fun j j0 j1 c hc => ?_, ?_⟩ (O.2.2.2.2.2.1.add hn hk) f
  · exact hq g r.1 r.2
  · show gI g 131 (j * 3 + c).toNat = z (if j = s.nn then (if c = 0 then k else if c = 1 then q else if c = 2 then m else 0) else s.nt c j)
    have j1' : j < s.nn + 1 := j1
    by_cases e : j = s.nn
    · rw [if_pos e, e]
      have := V1 c (by omega) (by omega)
      rw [show (130 : Nat) + 1 = 131 by rfl] at this
      rw [this]
      have hc' : c = 0 ∨ c = 1 ∨ c = 2 := by omega
      rcases hc' with rfl | rfl | rfl <;> rfl
    · rw [if_neg e, (E1 131 _ (by omega) (by omega)).1]
      exact i9 j j0 (by omega) c hc
  · rw [(E1 129 4 (by omega) (by omega)).1]; exact i10
theorem xs_note {Q : Int32 → PH → Prop} (I : IX h w s) (hp : i32 p) (hm : i32 m) (hb : b = 0 ∨ b = 1) (hq : ∀ g, IX g w (t_note s p m b) → KpX h g → Q (z (a_note s p m)) g) : w_X9_note (z p) (z m) (z b) h Q := by
  obtain ⟨p1, p2, p3⟩ := I.1.p
  have n1 := I.1.1
  have n3 := I.1.2.2.1
  have O := I.ok
  obtain ⟨i8, i9, i10⟩ := I.2.2.2.2.2.1
  have ref : ¬ canN s p m → Q (-1) h := fun c => by
    have e1 : t_note s p m b = s := if_neg c
    have e2 : a_note s p m = -1 := if_neg c
    have := hq h
    rw [e1, e2] at this
    exact this I (KpX.rf h)
  unfold w_X9_note
  rw [p3]
  refine ⟨p1, oX_w n1, ?_⟩
  refine x_has (n3.rw 0 (by decide)) rfl hp.1 hp.2 (fun c1 c2 => ?_) (fun c1 => ?_)
  · rw [if_neg (by decide)]
    refine z_isMin' hm (fun c3 c4 => ?_) (fun c3 => ?_)
    · rw [if_neg (by decide)]
      have go : w_X9_note_39 Q (z p) (z m) (z b) h := by
        unfold w_X9_note_39
        by_cases c5 : s.nn < 24
        · have c : canN s p m := ⟨⟨⟨c1, c2⟩, c3, c4⟩, c5⟩
          refine x_addNote I c5 (Or.inl ⟨hb, ⟨c1, c2⟩, c3, c4⟩) (fun g I' K => ?_)
          have e1 : t_note s p m b = ntP s b p m := if_pos c
          have e2 : a_note s p m = s.nn := if_pos c
          rw [e1, e2] at hq
          exact hq g I' K
        · exact x_addN i8 (by omega) (ref (fun x => c5 x.2))
      rcases hb with rfl | rfl
      · rw [if_pos (show z 0 = 0 from rfl)]; exact go
      · rw [if_neg (show ¬ z 1 = 0 by decide)]; exact go
    · rw [if_pos rfl]
      exact ref (fun x => c3 x.1.2)
  · rw [if_pos rfl]
    exact ref (fun x => c1 x.1.1)
theorem xs_strike {Q : Int32 → PH → Prop} (I : IX h w s) (hn : i32 n) (hq : ∀ g, IX g w (t_strike s n) → KpX h g → Q (z (a_strike s n)) g) : w_X9_strike (z n) h Q := by
  obtain ⟨i8, i9, i10⟩ := I.2.2.2.2.2.1
  have ref : ¬ canK s n → Q (-1) h := fun c => by
    have e1 : t_strike s n = s := if_neg c
    have e2 : a_strike s n = -1 := if_neg c
    have := hq h
    rw [e1, e2] at this
    exact this I (KpX.rf h)
  unfold w_X9_strike
  refine x_has i8 rfl hn.1 hn.2 (fun c1 c2 => ?_) (fun c1 => ?_)
  · rw [if_neg (by decide)]
    by_cases c5 : s.nn < 24
    · have c : canK s n := ⟨⟨c1, c2⟩, c5⟩
      refine x_addNote (k := 2) (q := n) (m := 0) I c5 (Or.inr ⟨rfl, ⟨c1, c2⟩, rfl⟩) (fun g I' K => ?_)
      have e1 : t_strike s n = ntP s 2 n 0 := if_pos c
      have e2 : a_strike s n = s.nn := if_pos c
      rw [e1, e2] at hq
      exact hq g I' K
    · exact x_addN i8 (by omega) (ref (fun x => c5 x.2))
  · rw [if_pos rfl]
    exact ref (fun x => c1 x.1)
theorem xs_known {Q : Int32 → PH → Prop} (I : IX h w s) (hn : i32 n) (hq : ∀ g, IX g w (tt_known s n) → KpX h g → Q (z (a_known s n)) g) : w_X9_known (z n) h Q := by
  obtain ⟨i8, i9, i10⟩ := I.2.2.2.2.2.1
  have O := I.ok
  have o6 := O.2.2.2.2.2.1
  have hn1 := hn.1
  have hn2 := hn.2
  have b0 := o6.1
  have ref : ¬ canKn s n → Q 0 h := fun c => by
    have e1 : tt_known s n = s := if_neg c
    have e2 : a_known s n = 0 := if_neg c
    have := hq h
    rw [e1, e2] at this
    exact this I (KpX.rf h)
  unfold w_X9_known
  rw [i8.2.2.1, z_m1]
  by_cases c1 : n < -1
  · rw [if_pos (by rw [z_lt (by omega) (by omega) (by omega) (by omega)]; omega)]
    exact ref (fun x => by have := x.1; omega)
  · rw [if_neg (by rw [z_lt (by omega) (by omega) (by omega) (by omega)]; omega)]
    by_cases c2 : n ≤ s.nn
    · rw [if_pos (by rw [z_le (by omega) (by omega) (by omega) (by omega)]; omega)]
      rintro _ rfl
      have c : canKn s n := ⟨by omega, c2⟩
      have e1 : tt_known s n = ntS s s.nn s.nt n := if_pos c
      have e2 : a_known s n = 1 := if_pos c
      rw [e1, e2] at hq
      have f : ∀ c k, ¬ (c = 129 ∧ k = 4) → At h (sI h 129 4 (z n)) c k := fun c k hc => (At.rf h c k).sI hc
      have r := I.note (g := sI h 129 4 (z n)) (nn := s.nn) (nt := s.nt) (kb := n) ⟨i8.at' (fun k => f 130 k (by omega)), fun j j0 j1 c hc => by rw [(f 131 _ (by omega)).1]; exact i9 j j0 j1 c hc, gI_in rfl rfl⟩ ⟨o6.1, c, o6.2.2⟩ (fun c k hc => f c k (by omega))
      exact hq _ r.1 r.2
    · rw [if_neg (by rw [z_le (by omega) (by omega) (by omega) (by omega)]; omega)]
      exact ref (fun x => c2 x.2)
/-! the reference -/
def ntC (c k : Nat) : Prop := (67 ≤ c ∧ c ≤ 70) ∨ (c = 0 ∧ (k = 94 ∨ k = 95))
theorem IM.note {g : PH} {nn : Int} {nt : Nat → Int → Int} {kb : Int} (J : IM h s) (N : NtM g (ntS s nn nt kb)) (O : OkNt (s.a.n 0) nn nt kb) (f : ∀ c k, ¬ ntC c k → At h g c k) : IM g (ntS s nn nt kb) := by
  obtain ⟨j1, j2, ⟨j3, j4⟩, j5, ⟨j6, j7⟩, ⟨j8, j9⟩, j10⟩ := J
  refine ⟨⟨j1.1.at' (fun c k b1 b2 => f c k (by unfold ntC; omega)), j1.2.1.at' (fun c k b1 b2 => f c k (by unfold ntC; omega)), j1.2.2⟩, j2.at' (f 0 61 (by unfold ntC; omega)) (fun c k b1 b2 => f c k (by unfold ntC; omega)), ⟨?_, fun b => (j4 b).at' (fun c k b1 b2 => f c k (by unfold ntC; omega))⟩, N, ⟨?_, fun k k0 k1 => ?_⟩, ⟨?_, ?_⟩, j10.nt O⟩
  · rw [(f 0 60 (by unfold ntC; omega)).1]; exact j3
  · rw [(f 0 2 (by unfold ntC; omega)).1]; exact j6
  · rw [(f 1 _ (by unfold ntC; omega)).1]; exact j7 k k0 k1
  · rw [(f 0 42 (by unfold ntC; omega)).1]; exact j8
  · rw [(f 0 43 (by unfold ntC; omega)).1]; exact j9
theorem nar01 (hb : b = 0 ∨ b = 1) : vp_nar .boolean (z b) = z b := by rcases hb with rfl | rfl <;> rfl
theorem ms_note {Q : Int32 → PH → Prop} (J : IM h s) (hp : i32 p) (hm : i32 m) (hb : b = 0 ∨ b = 1) (hq : ∀ g, IM g (t_note s p m b) → Q (z (a_note s p m)) g) : w_X10_note (z p) (z m) (z b) h Q := by
  unfold w_X10_note
  rintro _ rfl
  have J1 := J.fr (fr0 h 0)
  generalize sI h 0 0 0 = h1 at J1
  have O := J1.2.2.2.2.2.2
  have o6 := O.2.2.2.2.2.1
  have b0 := o6.1
  obtain ⟨t1, t2, t3⟩ := J1.2.2.2.1
  have ref : ¬ canN s p m → Q (-1) h1 := fun c => by
    have e1 : t_note s p m b = s := if_neg c
    have e2 : a_note s p m = -1 := if_neg c
    rw [e1, e2] at hq
    exact hq h1 J1
  refine m_isPlace J1.1 hp (fun c1 c2 => ?_) (fun c1 => ?_)
  · rw [if_neg (by decide)]
    refine m_isMin hm (fun c3 c4 => ?_) (fun c3 => ?_)
    · rw [if_neg (by decide), t1]
      by_cases c5 : s.nn = 24
      · rw [if_pos (show z s.nn = 24 by rw [c5]; rfl)]
        exact ref (fun x => by have := x.2; omega)
      · rw [if_neg (show ¬ z s.nn = 24 from z_ne (by omega) (by omega) (by decide) (by decide) c5), z_iN (a := s.nn) (by omega) (by omega), nar01 hb]
        have c : canN s p m := ⟨⟨⟨c1, c2⟩, c3, c4⟩, by omega⟩
        have e1 : t_note s p m b = ntP s b p m := if_pos c
        have e2 : a_note s p m = s.nn := if_pos c
        rw [e1, e2] at hq
        refine ⟨z_in (by omega) (by omega) (by omega), ?_⟩
        rintro _ rfl
        rw [gI_out (by omega), t1, z_iN (a := s.nn) (by omega) (by omega)]
        refine ⟨z_in (by omega) (by omega) (by omega), ?_⟩
        rintro _ rfl
        rw [gI_out (by omega), gI_out (by omega), t1, z_iN (a := s.nn) (by omega) (by omega)]
        refine ⟨z_in (by omega) (by omega) (by omega), ?_⟩
        rintro _ rfl
        rw [gI_out (by omega), gI_out (by omega), gI_out (by omega), t1, z_iN (a := s.nn) (by omega) (by omega)]
        refine ⟨z_in (by omega) (by omega) (by omega), ?_⟩
        rintro _ rfl
        rintro _ rfl
        rw [gI_in rfl rfl, gI_out (by omega), gI_out (by omega), gI_out (by omega), gI_out (by omega), t1, z_inc, zn_1, z_sub, show s.nn + 1 - 1 = s.nn by omega]
        refine hq _ (J1.note (nn := s.nn + 1) (nt := fun r j => if j = s.nn then (if r = 0 then b else if r = 1 then p else if r = 2 then m else 0) else s.nt r j) (kb := s.kb) ⟨gI_in rfl rfl, ?_, fun j j0 j1 => ?_⟩ (o6.add (by omega) (Or.inl ⟨hb, ⟨c1, c2⟩, c3, c4⟩)) (fun c k hc => (((((At.rf h1 c k).sI (by unfold ntC at hc; omega)).sI (by unfold ntC at hc; omega)).sI (by unfold ntC at hc; omega)).sI (by unfold ntC at hc; omega)).sI (by unfold ntC at hc; omega)))
        · repeat rw [gI_out (by omega)]
          exact t2
        · have j1' : j < s.nn + 1 := j1
          show ((if j = s.nn then b else s.nt 0 j) ≤ 1 → _ = z (if j = s.nn then p else s.nt 1 j) ∧ _ = z (if j = s.nn then m else s.nt 2 j) ∧ _ = z (if j = s.nn then b else s.nt 0 j) ∧ _ = -1) ∧ ((if j = s.nn then b else s.nt 0 j) = 2 → _ = z (if j = s.nn then p else s.nt 1 j))
          by_cases e : j = s.nn
          · rw [if_pos e, if_pos e, if_pos e, e]
            refine ⟨fun _ => ⟨?_, ?_, ?_, ?_⟩, fun x => by omega⟩
            · rw [gI_out (by omega), gI_out (by omega), gI_out (by omega), gI_out (by omega), gI_in rfl rfl]
            · rw [gI_out (by omega), gI_out (by omega), gI_out (by omega), gI_in rfl rfl]
            · rw [gI_out (by omega), gI_out (by omega), gI_in rfl rfl]
            · rw [gI_out (by omega), gI_in rfl rfl]; rfl
          · rw [if_neg e, if_neg e, if_neg e]
            repeat rw [gI_out (by omega)]
            exact t3 j j0 (by omega)
    · rw [if_pos rfl]
      exact ref (fun x => c3 x.1.2)
  · rw [if_pos rfl]
    exact ref (fun x => c1 x.1.1)
theorem ms_strike {Q : Int32 → PH → Prop} (J : IM h s) (hn : i32 n) (hq : ∀ g, IM g (t_strike s n) → Q (z (a_strike s n)) g) : w_X10_strike (z n) h Q := by
  unfold w_X10_strike
  rintro _ rfl
  have J1 := J.fr (fr0 h 0)
  generalize sI h 0 0 0 = h1 at J1
  have O := J1.2.2.2.2.2.2
  have o6 := O.2.2.2.2.2.1
  have b0 := o6.1
  have hn1 := hn.1
  have hn2 := hn.2
  obtain ⟨t1, t2, t3⟩ := J1.2.2.2.1
  have ref : ¬ canK s n → Q (-1) h1 := fun c => by
    have e1 : t_strike s n = s := if_neg c
    have e2 : a_strike s n = -1 := if_neg c
    rw [e1, e2] at hq
    exact hq h1 J1
  rw [t1, zn_0]
  by_cases c1 : n < 0
  · rw [if_pos (by rw [z_lt (by omega) (by omega) (by omega) (by omega)]; omega)]
    exact ref (fun x => by have := x.1; omega)
  · rw [if_neg (by rw [z_lt (by omega) (by omega) (by omega) (by omega)]; omega)]
    by_cases c2 : s.nn ≤ n
    · rw [if_pos (by rw [z_le (by omega) (by omega) (by omega) (by omega)]; omega)]
      exact ref (fun x => by have := x.1; omega)
    · rw [if_neg (by rw [z_le (by omega) (by omega) (by omega) (by omega)]; omega)]
      by_cases c5 : s.nn = 24
      · rw [if_pos (show z s.nn = 24 by rw [c5]; rfl)]
        exact ref (fun x => by have := x.2; omega)
      · rw [if_neg (show ¬ z s.nn = 24 from z_ne (by omega) (by omega) (by decide) (by decide) c5), z_iN (a := s.nn) (by omega) (by omega)]
        have c : canK s n := ⟨⟨by omega, by omega⟩, by omega⟩
        have e1 : t_strike s n = ntP s 2 n 0 := if_pos c
        have e2 : a_strike s n = s.nn := if_pos c
        rw [e1, e2] at hq
        refine ⟨z_in (by omega) (by omega) (by omega), ?_⟩
        rintro _ rfl
        rintro _ rfl
        rw [gI_in rfl rfl, gI_out (by omega), t1, z_inc, zn_1, z_sub, show s.nn + 1 - 1 = s.nn by omega]
        refine hq _ (J1.note (nn := s.nn + 1) (nt := fun r j => if j = s.nn then (if r = 0 then 2 else if r = 1 then n else if r = 2 then 0 else 0) else s.nt r j) (kb := s.kb) ⟨gI_in rfl rfl, ?_, fun j j0 j1 => ?_⟩ (o6.add (by omega) (Or.inr ⟨rfl, ⟨by omega, by omega⟩, rfl⟩)) (fun c k hc => ((At.rf h1 c k).sI (by unfold ntC at hc; omega)).sI (by unfold ntC at hc; omega)))
        · repeat rw [gI_out (by omega)]
          exact t2
        · have j1' : j < s.nn + 1 := j1
          show ((if j = s.nn then 2 else s.nt 0 j) ≤ 1 → _ = z (if j = s.nn then n else s.nt 1 j) ∧ _ = z (if j = s.nn then 0 else s.nt 2 j) ∧ _ = z (if j = s.nn then 2 else s.nt 0 j) ∧ _ = -1) ∧ ((if j = s.nn then 2 else s.nt 0 j) = 2 → _ = z (if j = s.nn then n else s.nt 1 j))
          by_cases e : j = s.nn
          · rw [if_pos e, if_pos e, if_pos e, e]
            refine ⟨fun x => by omega, fun _ => ?_⟩
            rw [gI_out (by omega), gI_in rfl rfl]
          · rw [if_neg e, if_neg e, if_neg e]
            repeat rw [gI_out (by omega)]
            exact t3 j j0 (by omega)
theorem ms_known {Q : Int32 → PH → Prop} (J : IM h s) (hn : i32 n) (hq : ∀ g, IM g (tt_known s n) → Q (z (a_known s n)) g) : w_X10_known (z n) h Q := by
  unfold w_X10_known
  rintro _ rfl
  have J1 := J.fr (fr0 h 0)
  generalize sI h 0 0 0 = h1 at J1
  have O := J1.2.2.2.2.2.2
  have o6 := O.2.2.2.2.2.1
  have b0 := o6.1
  have hn1 := hn.1
  have hn2 := hn.2
  obtain ⟨t1, t2, t3⟩ := J1.2.2.2.1
  have ref : ¬ canKn s n → Q 0 h1 := fun c => by
    have e1 : tt_known s n = s := if_neg c
    have e2 : a_known s n = 0 := if_neg c
    rw [e1, e2] at hq
    exact hq h1 J1
  rw [t1, z_m1]
  by_cases c1 : n < -1
  · rw [if_pos (by rw [z_lt (by omega) (by omega) (by omega) (by omega)]; omega)]
    exact ref (fun x => by have := x.1; omega)
  · rw [if_neg (by rw [z_lt (by omega) (by omega) (by omega) (by omega)]; omega)]
    by_cases c2 : n ≤ s.nn
    · rw [if_pos (by rw [z_le (by omega) (by omega) (by omega) (by omega)]; omega)]
      rintro _ rfl
      have c : canKn s n := ⟨by omega, c2⟩
      have e1 : tt_known s n = ntS s s.nn s.nt n := if_pos c
      have e2 : a_known s n = 1 := if_pos c
      rw [e1, e2] at hq
      refine hq _ (J1.note (nn := s.nn) (nt := s.nt) (kb := n) ⟨by rw [gI_out (by omega)]; exact t1, gI_in rfl rfl, fun j j0 j1 => ?_⟩ ⟨o6.1, c, o6.2.2⟩ (fun c k hc => (At.rf h1 c k).sI (by unfold ntC at hc; omega)))
      rw [gI_out (by omega), gI_out (by omega), gI_out (by omega), gI_out (by omega)]
      exact t3 j j0 j1
    · rw [if_neg (by rw [z_le (by omega) (by omega) (by omega) (by omega)]; omega)]
      exact ref (fun x => c2 x.2)
end NOTE
