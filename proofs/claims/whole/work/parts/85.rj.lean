/-! ===== undone, kept, brought back ===== -/
def a_undo (s : St) : Int := if s.un = 0 then -1 else s.un - 1
def t_undo (s : St) : St := if s.un = 0 then s else upS s (s.u (s.un - 1)) (s.un - 1) s.u
theorem OkS.undo {s : St} (O : OkS s) (h : s.un ≠ 0) : OkS (upS s (s.u (s.un - 1)) (s.un - 1) s.u) := by
  obtain ⟨o1, o2, o3, o4, o5, o6, o7⟩ := O
  have q := o4 (s.un - 1) (by omega) (by omega)
  have e : (s.u (s.un - 1)).n 0 = s.a.n 0 := q.2.2.1 0 (by decide)
  refine ⟨⟨q.1, q.2.1⟩, ⟨?_, ?_⟩, rfl, fun k k0 k1 => ?_, fun e => ?_, ?_, o7⟩
  · show 0 ≤ s.un - 1; omega
  · show s.un - 1 ≤ 20; omega
  · have k1' : k ≤ s.un - 1 := k1
    have q' := o4 k k0 (by omega)
    exact ⟨q'.1, q'.2.1, q.2.2.sy.tr q'.2.2⟩
  · have q' := o5 e
    exact ⟨q'.1, q'.2.1, q.2.2.sy.tr q'.2.2⟩
  · show OkNt ((s.u (s.un - 1)).n 0) s.nn s.nt s.kb
    rw [e]; exact o6
theorem WX.drop {h : PH} {w : Nat} {b : Wd} {f : Nat → Int} (H : WX h w (adR b 3 f)) (h0 : 0 ≤ b.n 3) : WX (sI h (w + 7) 3 (z (b.n 3))) w b := by
  obtain ⟨h1, h2, h3, h4, h5, h6⟩ := H
  have e : ∀ c k, ¬ (c = w + 7 ∧ k = 3) → At h (sI h (w + 7) 3 (z (b.n 3))) c k := fun c k hc => (At.rf h c k).sI hc
  refine ⟨fun r hr => ⟨?_, fun k c b1 b2 b3 => ?_⟩, h2.at' (fun c k b1 b2 => e c k (by omega)), h3.at' (fun c k b1 b2 => e c k (by omega)), ?_, ?_, ?_⟩
  · by_cases er : r = 3
    · subst er
      obtain ⟨a1, a2, a3, a4, a5, a6, a7, a8, a9⟩ := (h1 3 hr).1
      rw [adR_n] at a5
      exact ⟨by rw [(e _ _ (by omega)).1]; exact a1, by rw [(e _ _ (by omega)).1]; exact a2, gI_in rfl rfl, h0, by omega, a6, a7, a8, a9⟩
    · have := (h1 r hr).1
      rw [adR_n' er] at this
      exact this.at' (fun k => e _ k (by omega))
  · rw [(e _ _ (by omega)).1]
    have old := (h1 r hr).2 k c b1 (by
      by_cases er : r = 3
      · subst er; rw [adR_n]; omega
      · rw [adR_n' er]; exact b2) b3
    rw [adR_out (by intro x; obtain ⟨rfl, x⟩ := x; omega)] at old
    exact old
  · rw [(e _ _ (by omega)).1]; exact h4
  · rw [(e _ _ (by omega)).1]; exact h5
  · rw [(e _ _ (by omega)).1]; exact h6
section UNDO
variable {h : PH} {w : Nat} {s : St}
theorem x_undo160 {g : PH} {Q : Int32 → PH → Prop} (I : IX h w s) (h0 : s.un ≠ 0) (W : WX g w (s.u (s.un - 1))) (f : ∀ c k, ¬ (w ≤ c ∧ c < w + 23) → At h g c k) (hq : ∀ g', IX g' w (upS s (s.u (s.un - 1)) (s.un - 1) s.u) → gI g' 0 12 = 0 → Q (z (s.un - 1)) g') : w_X9_undo_160 Q g := by
  have n1 := I.1.1
  have O := I.ok
  have O2 := O.2.1
  obtain ⟨l1, r, l2⟩ := id I.2.2.2.2.1
  obtain ⟨a1, a2, a3, a4, a5, a6, a7, a8, a9⟩ := id l1
  have g3 : gI g 135 3 = z s.un := by rw [(f 135 3 (by omega)).1]; exact a3
  unfold w_X9_undo_160 w_X6_removeLast w_X9_changed
  rw [g3, zn_0, if_neg (by rw [z_le (by omega) (by omega) (by omega) (by omega)]; omega), zn_1, z_sub]
  rintro _ rfl _ rfl _ rfl
  rw [gI_out (by omega), gI_out (by omega), gI_in rfl rfl]
  have F : ∀ c k, ¬ (c = 135 ∧ k = 3) → ¬ (c = 0 ∧ (k = 9 ∨ k = 12)) → At g (sI (sI (sI g 135 3 (z (s.un - 1))) 0 9 (z 0)) 0 12 (z 0)) c k := fun c k h1 h2 => (((At.rf g c k).sI h1).sI (by omega)).sI (by omega)
  have oq := O.2.2.2.1 (s.un - 1) (by omega) (by omega)
  refine hq _ (I.to (NX.stale n1 ?_ (W.at' (fun c k b1 b2 b3 b4 b5 b6 => F c k (by omega) (by omega))) oq.1 oq.2.1 ?_) ⟨⟨?_, ?_, ?_, by omega, by omega, a6, a7, a8, a9⟩, r, fun k k0 k1 => ⟨fun c hc => ?_, (l2 k k0 (by omega)).2⟩⟩ (O.undo h0) (fun c k hc => (f c k (fun x => hc (Or.inl x))).tr (F c k (fun x => hc (by unfold chX; omega)) (fun x => hc (by unfold chX; omega))))) (gI_in rfl rfl)
  · rw [(F 0 3 (by omega) (by omega)).2.2, (f 0 3 (by omega)).2.2]; exact I.1.2.1
  · rw [gI_out (by omega), gI_in rfl rfl]; rfl
  · rw [(F 135 0 (by omega) (by omega)).1, (f 135 0 (by omega)).1]; exact a1
  · rw [(F 135 1 (by omega) (by omega)).1, (f 135 1 (by omega)).1]; exact a2
  · rw [gI_out (by omega), gI_out (by omega), gI_in rfl rfl]
  · rw [(F 136 _ (by omega) (by omega)).1, (f 136 _ (by omega)).1]; exact (l2 k k0 (by omega)).1 c hc
theorem xs_undo {Q : Int32 → PH → Prop} (I : IX h w s) (hq : ∀ g, IX g w (t_undo s) → KpS h g s.a (t_undo s).a → Q (z (a_undo s)) g) : w_X9_undo h Q := by
  obtain ⟨p1, p2, p3⟩ := I.1.p
  have n1 := I.1.1
  have n3 := I.1.2.2.1
  have O := I.ok
  have O2 := O.2.1
  obtain ⟨l1, r, l2⟩ := id I.2.2.2.2.1
  have g3 : gI h 135 3 = z s.un := l1.2.2.1
  unfold w_X9_undo
  rw [g3]
  by_cases c0 : s.un = 0
  · rw [if_pos (by rw [c0]; rfl)]
    have e1 : t_undo s = s := if_pos c0
    have e2 : a_undo s = -1 := if_pos c0
    rw [e1, e2] at hq
    exact hq h I (KpS.rf h s.a)
  · rw [if_neg (show ¬ z s.un = 0 from z_ne (by omega) (by omega) (by decide) (by decide) c0), zn_1, z_sub]
    rintro _ rfl
    have e1 : t_undo s = upS s (s.u (s.un - 1)) (s.un - 1) s.u := if_neg c0
    have e2 : a_undo s = s.un - 1 := if_neg c0
    rw [e1, e2] at hq
    have hq' : ∀ g', IX g' w (upS s (s.u (s.un - 1)) (s.un - 1) s.u) → gI g' 0 12 = 0 → Q (z (s.un - 1)) g' := fun g' I' e => hq g' I' (Or.inl e)
    clear hq
    obtain ⟨lr, lc⟩ := l2 (s.un - 1) (by omega) (by omega)
    have q0 : gI h 136 ((s.un - 1) * 5 + 0).toNat = z (r 0 (s.un - 1)) := lr 0 (by decide)
    have q1 : gI h 136 ((s.un - 1) * 5 + 1).toNat = z (r 1 (s.un - 1)) := lr 1 (by decide)
    have q2 : gI h 136 ((s.un - 1) * 5 + 2).toNat = z (r 2 (s.un - 1)) := lr 2 (by decide)
    have q3 : gI h 136 ((s.un - 1) * 5 + 3).toNat = z (r 3 (s.un - 1)) := lr 3 (by decide)
    have q4 : gI h 136 ((s.un - 1) * 5 + 4).toNat = z (r 4 (s.un - 1)) := lr 4 (by decide)
    rw [show s.un - 1 + 1 = s.un by omega, O.top] at lc
    generalize r 0 (s.un - 1) = r0 at *
    generalize r 1 (s.un - 1) = r1 at *
    generalize r 2 (s.un - 1) = r2 at *
    generalize r 3 (s.un - 1) = r3 at *
    generalize r 4 (s.un - 1) = r4 at *
    have oq := O.2.2.2.1 (s.un - 1) (by omega) (by omega)
    have hb : s.u (s.un - 1) = s.u (s.un - 1) := rfl
    generalize hB : s.u (s.un - 1) = b at oq lc
    refine x_at l1 rfl (c := 1) rfl (by omega) (by omega) (by omega) (by omega) ?_
    rw [q1]
    refine x_at l1 rfl (c := 2) rfl (by omega) (by omega) (by omega) (by omega) ?_
    rw [q2]
    refine x_at l1 rfl (c := 0) rfl (by omega) (by omega) (by omega) (by omega) ?_
    rw [q0]
    rcases lc with ⟨rfl, f, ef⟩ | ⟨rfl, h1, h2, ef⟩ | ⟨rfl, h1, h2, ef⟩ | ⟨rfl, h1, h2, h3, h4, h5, ef⟩
    · rw [if_pos (show z 0 = 0 from rfl), p3]
      refine ⟨p1, oX_w n1, ?_⟩
      have e7 : gI h (w + 7) 3 = z (b.n 3 + 1) := by
        have := (n3.n0 3 (by decide)).1
        rw [ef, adR_n] at this; exact this
      have b3 := oq.1.2.1.1
      unfold w_X6_removeLast
      rw [e7, zn_0, if_neg (by rw [z_le (by omega) (by omega) (by omega) (by omega)]; omega), zn_1, z_sub, show b.n 3 + 1 - 1 = b.n 3 by omega]
      rintro _ rfl
      rw [ef] at n3
      exact x_undo160 I c0 (by rw [hB]; exact n3.drop b3.1) (fun c k hc => (At.rf h c k).sI (by omega)) hq'
    · rw [if_neg (show ¬ z 1 = 0 by decide), if_pos (show z 1 = z 1 from rfl), p3]
      refine ⟨p1, oX_w n1, ?_⟩
      rw [ef] at n3
      refine x_putW (u := 0) n3 3 5 (by decide) rfl (by decide) rfl rfl rfl h1.1 h1.2 (fun g1 f1 W1 => ?_)
      have W' : WX g1 w b := by
        refine W1.ext (fun r hr => rfl) (fun r c k hr hc k0 k1 => ?_) (fun c => rfl) rfl rfl
        by_cases er : r = 3 ∧ c = 5
        · obtain ⟨rfl, rfl⟩ := er
          rw [upF_in, upF_in]
          by_cases e : k = r1
          · rw [if_pos e, e, h2]
          · rw [if_neg e, if_neg e]
        · rw [upF_out er, upF_out er]
      exact x_undo160 I c0 (by rw [hB]; exact W') (fun c k hc => f1 c k (by omega)) hq'
    · rw [if_neg (show ¬ z 2 = 0 by decide), if_neg (show ¬ z 2 = z 1 by decide), if_pos (show z 2 = 2 from rfl), p3]
      refine ⟨p1, oX_w n1, ?_⟩
      rw [ef] at n3
      refine x_putW (u := r2) n3 1 3 (by decide) rfl (by decide) rfl rfl rfl h1.1 h1.2 (fun g1 f1 W1 => ?_)
      have W' : WX g1 w b := by
        refine W1.ext (fun r hr => rfl) (fun r c k hr hc k0 k1 => ?_) (fun c => rfl) rfl rfl
        by_cases er : r = 1 ∧ c = 3
        · obtain ⟨rfl, rfl⟩ := er
          rw [upF_in, upF_in]
          by_cases e : k = r1
          · rw [if_pos e, e, h2]
          · rw [if_neg e, if_neg e]
        · rw [upF_out er, upF_out er]
      exact x_undo160 I c0 (by rw [hB]; exact W') (fun c k hc => f1 c k (by omega)) hq'
    · rw [if_neg (show ¬ z 3 = 0 by decide), if_neg (show ¬ z 3 = z 1 by decide), if_neg (show ¬ z 3 = 2 by decide), p3]
      refine ⟨p1, oX_w n1, ?_⟩
      rw [ef] at n3
      refine x_putW (u := r2) n3 4 0 (by decide) rfl (by decide) rfl rfl rfl h1.1 h1.2 (fun g1 f1 W1 => ?_)
      have e3 : gP g1 0 3 = w + 1 := by rw [(f1 0 3 (by omega)).2.2]; exact I.1.2.1
      rw [e3]
      have l1' : Rw g1 135 5 20 s.un := l1.at' (fun k => f1 135 k (by omega))
      refine ⟨by omega, oX_w n1, ?_⟩
      refine x_at l1' rfl (c := 3) rfl (by omega) (by omega) (by omega) (by omega) ?_
      rw [(f1 136 _ (by omega)).1, q3]
      refine x_at l1' rfl (c := 4) rfl (by omega) (by omega) (by omega) (by omega) ?_
      rw [(f1 136 _ (by omega)).1, q4]
      refine x_pay W1 h3 h2 h4 (fun g2 f2 W2 => ?_)
      have W' : WX g2 w b := by
        refine W2.ext (fun r hr => rfl) (fun r c k hr hc k0 k1 => ?_) (fun c => rfl) rfl rfl
        unfold py
        by_cases er : r = 2 ∧ c = 1
        · obtain ⟨rfl, rfl⟩ := er
          rw [upF_in]
          show b.f 2 1 k = (if k = r2 then (if k = r3 then b.f 2 1 k - r4 else if k = r2 then b.f 2 1 k + r4 else b.f 2 1 k) - r4 else if k = r3 then (if k = r3 then b.f 2 1 k - r4 else if k = r2 then b.f 2 1 k + r4 else b.f 2 1 k) + r4 else (if k = r3 then b.f 2 1 k - r4 else if k = r2 then b.f 2 1 k + r4 else b.f 2 1 k))
          by_cases e : k = r2
          · rw [if_pos e, if_neg (by omega), if_pos e]; omega
          · rw [if_neg e]
            by_cases e' : k = r3
            · rw [if_pos e', if_pos e']; omega
            · rw [if_neg e', if_neg e', if_neg e]
        · rw [upF_out er]
          by_cases er' : r = 4 ∧ c = 0
          · obtain ⟨rfl, rfl⟩ := er'
            rw [upF_in, upF_out er, upF_in]
            by_cases e : k = r1
            · rw [if_pos e, e, h5]
            · rw [if_neg e, if_neg e]
          · rw [upF_out er', upF_out er, upF_out er']
      exact x_undo160 I c0 (by rw [hB]; exact W') (fun c k hc => (f1 c k (by omega)).tr (f2 c k (by omega))) hq'
theorem ms_undo {Q : Int32 → PH → Prop} (J : IM h s) (hq : ∀ g, IM g (t_undo s) → Q (z (a_undo s)) g) : w_X10_undo h Q := by
  unfold w_X10_undo
  rintro _ rfl
  have J1 := J.fr (fr0 h 0)
  generalize sI h 0 0 0 = h1 at J1
  have O := J1.2.2.2.2.2.2
  have O2 := O.2.1
  obtain ⟨u1, u2, u3⟩ := id J1.2.1
  rw [u1]
  by_cases c0 : s.un = 0
  · rw [if_pos (by rw [c0]; rfl)]
    have e1 : t_undo s = s := if_pos c0
    have e2 : a_undo s = -1 := if_pos c0
    rw [e1, e2] at hq
    exact hq h1 J1
  · rw [if_neg (show ¬ z s.un = 0 from z_ne (by omega) (by omega) (by decide) (by decide) c0), zn_1, z_sub]
    have e1 : t_undo s = upS s (s.u (s.un - 1)) (s.un - 1) s.u := if_neg c0
    have e2 : a_undo s = s.un - 1 := if_neg c0
    rw [e1, e2] at hq
    rintro _ rfl
    rw [gI_in rfl rfl, zn_2, z_add]
    obtain ⟨d1, d2⟩ := u3 (s.un - 1) (by omega) (by omega)
    have F : ∀ c k, ¬ (c = 0 ∧ k = 61) → At h1 (sI h1 0 61 (z (s.un - 1))) c k := fun c k hc => (At.rf h1 c k).sI hc
    have oq := O.2.2.2.1 (s.un - 1) (by omega) (by omega)
    refine m_copies (t := 0) (d1.at' (fun c k b1 b2 => F c k (by omega))) d2 rfl rfl (by omega) (by omega) (by omega) (fun g f D => ?_)
    have g61 : gI g 0 61 = z (s.un - 1) := by rw [(f 0 61 (by unfold dyC; omega)).1]; exact gI_in rfl rfl
    rw [g61]
    refine hq g (J1.to ⟨MT.tld (J1.1.1.at' (fun c k b1 b2 => (F c k (by omega)).tr (f c k (fun x => by have := dy_34 x; omega)))) oq.2.2, D, oq.1⟩ ⟨g61, by omega, fun i i0 i1 => ?_⟩ (O.undo c0) (fun c k hc => (F c k (fun x => hc (Or.inr (Or.inl x)))).tr (f c k (fun x => hc ?_))))
    · obtain ⟨v1, v2⟩ := u3 i i0 (by omega)
      exact ⟨(v1.at' (fun c k b1 b2 => F c k (by omega))).off v2 (by omega) (by omega) (by omega) f, v2⟩
    · have := dy_34 x
      exact Or.inl ⟨this.1, this.2, fun y => by unfold dyC at x y; omega⟩
end UNDO
def t_keep (s : St) : St := (s.a, s.2.1, (true, s.a), s.2.2.2)
theorem OkS.keep {s : St} (O : OkS s) : OkS (t_keep s) := by
  obtain ⟨o1, o2, o3, o4, o5, o6, o7⟩ := O
  exact ⟨o1, o2, o3, o4, fun _ => ⟨o1.1, o1.2, Tld.rf _⟩, o6, o7⟩
def t_back (s : St) : St := if s.ik = true then upS s s.im 0 (fun _ => s.im) else s
def a_back (s : St) : Int := if s.ik = true then s.im.f 7 2 0 else -1
theorem OkS.back {s : St} (O : OkS s) (h : s.ik = true) : OkS (upS s s.im 0 (fun _ => s.im)) := by
  obtain ⟨o1, o2, o3, o4, o5, o6, o7⟩ := O
  have q := o5 h
  have e : s.im.n 0 = s.a.n 0 := q.2.2.1 0 (by decide)
  refine ⟨⟨q.1, q.2.1⟩, ⟨?_, ?_⟩, rfl, fun k k0 k1 => ⟨q.1, q.2.1, Tld.rf _⟩, fun _ => ⟨q.1, q.2.1, Tld.rf _⟩, ?_, o7⟩
  · show (0 : Int) ≤ 0; omega
  · show (0 : Int) ≤ 20; omega
  · show OkNt (s.im.n 0) s.nn s.nt s.kb
    rw [e]; exact o6
section KEEP
variable {h : PH} {w : Nat} {s : St}
theorem xs_keep {Q : Int32 → PH → Prop} (I : IX h w s) (hq : ∀ g, IX g w (t_keep s) → KpS h g s.a (t_keep s).a → Q (z (s.a.f 7 2 0)) g) : w_X9_keep h Q := by
  obtain ⟨p1, p2, p3⟩ := I.1.p
  obtain ⟨i1, ⟨i2, i2'⟩, i3, ⟨i4, i5, i6⟩, i7, ⟨i8, i9, i10⟩, ⟨i11, i12⟩, ⟨i13, i14, i15⟩, ⟨⟨q1, i16⟩, ⟨q2, i17⟩⟩, i18⟩ := id I
  have n1 := I.1.1
  have n3 := I.1.2.2.1
  have n4 := I.1.2.2.2.1
  have ln := n4.2.2.2.2.2.2.2.2.2.2.2.2.2.2.2.2.2.2
  unfold w_X9_keep
  rw [p3]
  refine ⟨p1, oX_w n1, ?_⟩
  refine x_copyW n3 i4 (Or.inr (Or.inr (Or.inl rfl))) (by unfold isW; omega) (by omega) (by omega) (by omega) (fun g1 f1 W1 _ => ?_)
  rintro _ rfl
  have F : ∀ c k, ¬ (54 ≤ c ∧ c < 54 + 23) → ¬ (c = 0 ∧ k = 6) → At h (sI g1 0 6 1) c k := fun c k h1 h2 => (f1 c k h1).sI h2
  have e3 : gP (sI g1 0 6 1) 0 3 = w + 1 := by rw [(F 0 3 (by omega) (by omega)).2.2]; exact I.1.2.1
  rw [e3]
  refine ⟨by omega, oX_w n1, ?_⟩
  rw [show w + 1 - 1 = w by omega, (F w 11 (by omega) (by omega)).1, n3.2.2.2.2.2]
  refine hq _ ⟨⟨n1, e3, n3.at' (fun c k b1 b2 b3 b4 b5 b6 => F c k (by omega) (by omega)), n4, ?_, ?_⟩, ⟨?_, ?_⟩, ?_, ⟨?_, ?_, fun _ => ?_⟩, ?_, ⟨?_, fun k k0 k1 c hc => ?_, ?_⟩, ⟨?_, fun k k0 k1 => ?_⟩, ⟨fun k hk => ?_, ?_, ?_⟩, ⟨⟨q1, ?_⟩, ⟨q2, ?_⟩⟩, i18.keep⟩ (Or.inr ⟨Or.inr ⟨?_, fun x => ?_, fun c k c1 c2 => F c k (by omega) (by omega)⟩, SA.rf _⟩)
  · rw [(F 0 9 (by omega) (by omega)).1]; exact I.1.2.2.2.2.1
  · rw [(F 0 9 (by omega) (by omega)).1]
    exact fun x => (I.1.2.2.2.2.2 x).at' (fun c k b1 b2 => F c k (by omega) (by omega))
  · rw [(F 0 4 (by omega) (by omega)).2.2]; exact i2
  · exact i2'.fr (fun c k b1 b2 => F c k (by omega) (by omega))
  · exact i3.fr (fun c k b1 b2 => F c k (by omega) (by omega))
  · exact (W1.at' (fun c k b1 b2 b3 b4 b5 b6 => (At.rf g1 c k).sI (by omega))).ws
  · exact gI_in rfl rfl
  · exact W1.at' (fun c k b1 b2 b3 b4 b5 b6 => (At.rf g1 c k).sI (by omega))
  · exact i7.at' (fun c k hc => F c k (by omega) (by omega))
  · exact i8.at' (fun k => F 130 k (by omega) (by omega))
  · rw [(F 131 _ (by omega) (by omega)).1]; exact i9 k k0 k1 c hc
  · rw [(F 129 4 (by omega) (by omega)).1]; exact i10
  · rw [(F 0 1 (by omega) (by omega)).1]; exact i11
  · rw [(F 1 _ (by omega) (by omega)).1]; exact i12 k k0 k1
  · rw [(F 4 _ (by omega) (by omega)).1]; exact i13 k hk
  · rw [(F 2 8 (by omega) (by omega)).1]; exact i14
  · rw [(F 2 9 (by omega) (by omega)).1]; exact i15
  · exact i16.at' (fun k => F 113 k (by omega) (by omega))
  · exact i17.at' (fun k => F 115 k (by omega) (by omega))
  · exact (F 0 12 (by omega) (by omega)).1
  · rw [(F 0 9 (by omega) (by omega)).1]; exact x
theorem ms_keep {Q : Int32 → PH → Prop} (J : IM h s) (hq : ∀ g, IM g (t_keep s) → Q (z (s.a.f 7 2 0)) g) : w_X10_keep h Q := by
  unfold w_X10_keep
  rintro _ rfl
  have J1 := J.fr (fr0 h 0)
  generalize sI h 0 0 0 = h1 at J1
  obtain ⟨j1, ⟨u1, u2, u3⟩, ⟨j3, j4⟩, j5, ⟨j6, j7⟩, ⟨j8, j9⟩, j10⟩ := id J1
  refine m_copies (t := 1) (d := 0) j1.2.1 j10.1.1.okd rfl rfl (by omega) (by omega) (by omega) (fun g f D => ?_)
  rintro _ rfl
  have F : ∀ c k, ¬ dyC 1 c k → ¬ (c = 0 ∧ k = 60) → At h1 (sI g 0 60 1) c k := fun c k h1 h2 => (f c k h1).sI h2
  rw [iN_0, (F 44 0 (by unfold dyC; omega) (by omega)).1, show gI h1 44 0 = z (s.a.f 7 2 0) from j1.2.1.2.2.2.2.2.2]
  have D0 : MD (sI g 0 60 1) 0 s.a := j1.2.1.of j10.1.1.okd (by omega) (fun c k hc => (F c k (by unfold dyC at hc ⊢; omega) (by have := dy_34 hc; omega)).1)
  refine hq _ ⟨⟨j1.1.at' (fun c k b1 b2 => F c k (by unfold dyC; omega) (by omega)), D0, j1.2.2⟩, ⟨?_, u2, fun i i0 i1 => ⟨?_, (u3 i i0 i1).2⟩⟩, ⟨gI_in rfl rfl, fun _ => ?_⟩, j5.at' (fun k hk => F 0 k (by unfold dyC; omega) (by omega)) (fun c k b1 b2 => F c k (by unfold dyC; omega) (by omega)), ⟨?_, fun k k0 k1 => ?_⟩, ⟨?_, ?_⟩, j10.keep⟩
  · rw [(F 0 61 (by unfold dyC; omega) (by omega)).1]; exact u1
  · exact (u3 i i0 i1).1.of (u3 i i0 i1).2 (by omega) (fun c k hc => (F c k (by unfold dyC at hc ⊢; omega) (by have := dy_34 hc; omega)).1)
  · exact D.at' (fun c k b1 b2 => (At.rf g c k).sI (by omega))
  · rw [(F 0 2 (by unfold dyC; omega) (by omega)).1]; exact j6
  · rw [(F 1 _ (by unfold dyC; omega) (by omega)).1]; exact j7 k k0 k1
  · rw [(F 0 42 (by unfold dyC; omega) (by omega)).1]; exact j8
  · rw [(F 0 43 (by unfold dyC; omega) (by omega)).1]; exact j9
theorem bI_z (b : Bool) : (z (bI b) = 0) ↔ b = false := by cases b <;> decide
theorem xs_back {Q : Int32 → PH → Prop} (I : IX h w s) (hq : ∀ g, IX g w (t_back s) → KpS h g s.a (t_back s).a → Q (z (a_back s)) g) : w_X9_back h Q := by
  obtain ⟨p1, p2, p3⟩ := I.1.p
  have n1 := I.1.1
  have n3 := I.1.2.2.1
  have O := I.ok
  obtain ⟨i4, i5, i6⟩ := I.2.2.2.1
  unfold w_X9_back
  rw [i5]
  cases hk : s.ik with
  | false =>
    rw [if_pos (show z (bI false) = 0 from rfl)]
    have e1 : t_back s = s := if_neg (by rw [hk]; decide)
    have e2 : a_back s = -1 := if_neg (by rw [hk]; decide)
    rw [e1, e2] at hq
    exact hq h I (KpS.rf h s.a)
  | true =>
    rw [if_neg (show ¬ z (bI true) = 0 by decide), p3]
    have e1 : t_back s = upS s s.im 0 (fun _ => s.im) := if_pos hk
    have e2 : a_back s = s.im.f 7 2 0 := if_pos hk
    rw [e1, e2] at hq
    have oq := O.2.2.2.2.1 hk
    have ln := oq.1.2.2.2.2.2.2.2.2.2.2.2.2.2.2.2.2.2.2
    refine ⟨p1, oX_w n1, ?_⟩
    refine x_copyW (i6 hk) n3.ws (by unfold isW; omega) (by unfold isW; omega) (by omega) (by omega) (by omega) (fun g1 f1 W1 _ => ?_)
    unfold w_X6_clear w_X9_changed
    rintro _ rfl _ rfl _ rfl
    have F : ∀ c k, ¬ (c = 135 ∧ k = 3) → ¬ (c = 0 ∧ (k = 9 ∨ k = 12)) → At g1 (sI (sI (sI g1 135 3 0) 0 9 0) 0 12 0) c k := fun c k h1 h2 => (((At.rf g1 c k).sI h1).sI (by omega)).sI (by omega)
    have e3 : gP (sI (sI (sI g1 135 3 0) 0 9 0) 0 12 0) 0 3 = w + 1 := by rw [(F 0 3 (by omega) (by omega)).2.2, (f1 0 3 (by omega)).2.2]; exact I.1.2.1
    rw [e3]
    refine ⟨by omega, oX_w n1, ?_⟩
    have W2 : WX (sI (sI (sI g1 135 3 0) 0 9 0) 0 12 0) w s.im := W1.at' (fun c k b1 b2 b3 b4 b5 b6 => F c k (by omega) (by omega))
    obtain ⟨l1, r, l2⟩ := I.2.2.2.2.1
    obtain ⟨a1, a2, a3, a4, a5, a6, a7, a8, a9⟩ := l1
    rw [show w + 1 - 1 = w by omega, W2.2.2.2.2.2]
    refine hq _ (I.to (NX.stale n1 e3 W2 oq.1 oq.2.1 ?_) ⟨⟨?_, ?_, ?_, by omega, by omega, a6, a7, a8, a9⟩, r, fun k k0 k1 => by omega⟩ (O.back hk) (fun c k hc => (f1 c k (fun x => hc (Or.inl (by omega)))).tr (F c k (fun x => hc (by unfold chX; omega)) (fun x => hc (by unfold chX; omega))))) (Or.inl (gI_in rfl rfl))
    · rw [gI_out (by omega), gI_in rfl rfl]
    · rw [(F 135 0 (by omega) (by omega)).1, (f1 135 0 (by omega)).1]; exact a1
    · rw [(F 135 1 (by omega) (by omega)).1, (f1 135 1 (by omega)).1]; exact a2
    · rw [gI_out (by omega), gI_out (by omega), gI_in rfl rfl]; rfl
theorem ms_back {Q : Int32 → PH → Prop} (J : IM h s) (hq : ∀ g, IM g (t_back s) → Q (z (a_back s)) g) : w_X10_back h Q := by
  unfold w_X10_back
  rintro _ rfl
  have J1 := J.fr (fr0 h 0)
  generalize sI h 0 0 0 = h1 at J1
  have O := J1.2.2.2.2.2.2
  obtain ⟨j3, j4⟩ := J1.2.2.1
  rw [j3]
  cases hk : s.ik with
  | false =>
    rw [if_pos (show z (bI false) = 0 from rfl)]
    have e1 : t_back s = s := if_neg (by rw [hk]; decide)
    have e2 : a_back s = -1 := if_neg (by rw [hk]; decide)
    rw [e1, e2] at hq
    exact hq h1 J1
  | true =>
    rw [if_neg (show ¬ z (bI true) = 0 by decide)]
    have e1 : t_back s = upS s s.im 0 (fun _ => s.im) := if_pos hk
    have e2 : a_back s = s.im.f 7 2 0 := if_pos hk
    rw [e1, e2] at hq
    have oq := O.2.2.2.2.1 hk
    refine m_copies (t := 0) (d := 1) (j4 hk) oq.1.okd rfl rfl (by omega) (by omega) (by omega) (fun g f D => ?_)
    rintro _ rfl
    have F : ∀ c k, ¬ (c = 0 ∧ k = 61) → At g (sI g 0 61 0) c k := fun c k hc => (At.rf g c k).sI hc
    have D' : MD (sI g 0 61 0) 0 s.im := D.at' (fun c k b1 b2 => F c k (by omega))
    rw [iN_0, show gI (sI g 0 61 0) 44 0 = z (s.im.f 7 2 0) from D'.2.2.2.2.2.2]
    refine hq _ (J1.to ⟨MT.tld (J1.1.1.at' (fun c k b1 b2 => (f c k (fun x => by have := dy_34 x; omega)).tr (F c k (by omega)))) oq.2.2, D', oq.1⟩ ⟨gI_in rfl rfl, by omega, fun i i0 i1 => by omega⟩ (O.back hk) (fun c k hc => (f c k (fun x => hc ?_)).tr (F c k (fun x => hc (Or.inr (Or.inl x))))))
    have := dy_34 x
    exact Or.inl ⟨this.1, this.2, fun y => by unfold dyC at x y; omega⟩
end KEEP
