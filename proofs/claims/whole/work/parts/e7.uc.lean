/-! ===== text, by the class ===== -/
section XTEXT
variable {h : PH} {w : Nat} {s : St} {n : Int}
theorem xs_text {Q : Int32 → PH → Prop} (I : IX h w s) (P : PX h s.a) (hn : i32 n) (hq : ∀ g w', IX g w' (t_text s n) → PX g (t_text s n).a → Q (z (a_text s n)) g) : w_X9_text (z n) h Q := by
  have O := I.ok
  have OT := O.2.2.2.2.2.2
  have I0 := I
  obtain ⟨⟨n1, n2, n3, n4, n5, n6⟩, ⟨i2, i2'⟩, i3, ⟨i4, i5, i6⟩, i7, ⟨i8, i9, i10⟩, ⟨t1, t2⟩, ⟨i13, i14, i15⟩, ⟨⟨q1, i16⟩, ⟨q2, i17⟩⟩, i18⟩ := I
  have h1 := hn.1
  have h2 := hn.2
  have o1 := OT.1
  unfold t_text a_text at hq
  unfold w_X9_text
  by_cases c0 : n < 0
  · rw [zn_0, if_pos (by rw [z_lt (by omega) (by omega) (by omega) (by omega)]; omega)]
    rw [if_pos (Or.inl c0), if_pos (Or.inl c0)] at hq
    exact hq h w I0 P
  rw [zn_0, if_neg (by rw [z_lt (by omega) (by omega) (by omega) (by omega)]; omega), t1]
  by_cases c1 : n ≤ s.tn
  rotate_left
  · rw [if_neg (by rw [z_le (by omega) (by omega) (by omega) (by omega)]; omega)]
    rw [if_pos (Or.inr (by omega)), if_pos (Or.inr (by omega))] at hq
    exact hq h w I0 P
  rw [if_pos (by rw [z_le (by omega) (by omega) (by omega) (by omega)]; omega)]
  rw [if_neg (by omega), if_neg (by omega)] at hq
  rintro _ rfl
  have f0 : ∀ c k, ¬ (c = 0 ∧ k = 1) → At h (sI h 0 1 (z 0)) c k := fun c k hc => (At.rf h c k).sI hc
  have e1 : gI (sI h 0 1 (z 0)) 0 1 = z 0 := gI_in rfl rfl
  generalize sI h 0 1 (z 0) = g0 at *
  have v1 : 39 - w = 8 ∨ 39 - w = 31 := by omega
  have p4 : gP g0 0 4 = 40 - w := by rw [(f0 0 4 (by omega)).2.2]; exact i2
  have ox : oX (40 - w - 1) 8 := by rcases n1 with e | e <;> rw [e] <;> exact ⟨by decide, rfl⟩
  have ox2 : oX (w + 1 - 1) 8 := by rcases n1 with e | e <;> rw [e] <;> exact ⟨by decide, rfl⟩
  rw [p4]
  refine ⟨by omega, ox, ?_⟩
  rw [show 40 - w - 1 = 39 - w by omega] at ox ⊢
  refine x_readAll (T := s.tp) v1 (i2'.fr (fun c k b1 b2 => f0 c k (by omega))) rfl rfl (by omega) (fun k k0 k1 => by rw [(f0 1 _ (by omega)).1]; exact t2 k k0 (by omega)) OT.2 (fun k hk => by rw [(f0 4 k (by omega)).1]; exact i13 k hk) (show pText s.tp n 701 0 ps0 0 = rT s n from rfl) (fun g kk u er e8 e9 WSv fr => ?_) (fun g s' l er OP e8 e9 WV e12 fr => ?_)
  · rw [if_pos (show (0 : Int32) = z 0 from rfl)]
    rw [er] at hq
    have f : ∀ c k, ¬ (rdD (39 - w) c ∨ (c = 0 ∧ k = 1)) → At h g c k := fun c k hc => (f0 c k (fun x => hc (Or.inr x))).tr (fr c k (fun x => hc (Or.inl x)))
    have e9' : gI g 0 9 = gI h 0 9 := (f 0 9 (by unfold rdD; omega)).1
    have N : NX g w s.a := ⟨n1, by rw [(f 0 3 (by unfold rdD; omega)).2.2]; exact n2, n3.at' (fun c k b1 b2 _ _ _ _ => f c k (by unfold rdD; omega)), n4, by rw [e9']; exact n5, fun e => (n6 (by rw [← e9']; exact e)).at' (fun c k b1 b2 => f c k (by unfold rdD; omega))⟩
    refine hq g w ⟨N, ⟨?_, WSv⟩, ?_, ⟨?_, ?_, fun b => ?_⟩, ?_, ⟨?_, fun k k0 k1 c hc => ?_, ?_⟩, ⟨?_, fun k k0 k1 => absurd k1 (by show ¬ k < 0; omega)⟩, ⟨fun k hk => ?_, e8, e9⟩, ⟨⟨q1, ?_⟩, ⟨q2, ?_⟩⟩, i18.fS⟩ (P.kp (Or.inr ⟨(f 0 12 (by unfold rdD; omega)).1, fun x => by rw [e9']; exact x, fun c k c1 c2 => f c k (by unfold rdD; omega)⟩))
    · rw [(f 0 4 (by unfold rdD; omega)).2.2]; exact i2
    · exact i3.fr (fun c k b1 b2 => f c k (by unfold rdD; omega))
    · exact i4.fr (fun c k b1 b2 => f c k (by unfold rdD; omega))
    · rw [(f 0 6 (by unfold rdD; omega)).1]; exact i5
    · exact (i6 b).at' (fun c k b1 b2 b3 b4 b5 b6 => f c k (by unfold rdD; omega))
    · exact i7.at' (fun c k hc => f c k (by unfold rdD; omega))
    · exact i8.at' (fun k => f 130 k (by unfold rdD; omega))
    · rw [(f 131 _ (by unfold rdD; omega)).1]; exact i9 k k0 k1 c hc
    · rw [(f 129 4 (by unfold rdD; omega)).1]; exact i10
    · rw [(fr 0 1 (by unfold rdD; omega)).1]; exact e1
    · rw [(f 4 _ (by unfold rdD; omega)).1]; exact i13 k hk
    · exact i16.at' (fun k => f 113 k (by unfold rdD; omega))
    · exact i17.at' (fun k => f 115 k (by unfold rdD; omega))
  · rw [if_neg (by decide)]
    rw [er] at hq
    have f : ∀ c k, ¬ (rdD (39 - w) c ∨ (c = 0 ∧ k = 1)) → At h g c k := fun c k hc => (f0 c k (fun x => hc (Or.inr x))).tr (fr c k (fun x => hc (Or.inl x)))
    have p3' : gP g 0 3 = w + 1 := by rw [(f 0 3 (by unfold rdD; omega)).2.2]; exact n2
    have p4' : gP g 0 4 = 40 - w := by rw [(f 0 4 (by unfold rdD; omega)).2.2]; exact i2
    have NW := OP.now
    rw [p3', p4']
    refine ⟨by omega, ox2, by omega, by rw [show 40 - w - 1 = 39 - w by omega]; exact ox, ?_⟩
    rintro _ rfl _ rfl _ rfl
    unfold w_X2_clear w_X6_clear
    rintro _ rfl _ rfl _ rfl
    unfold w_X9_changed
    rintro _ rfl _ rfl
    rw [show w + 1 - 1 + 1 = w + 1 by omega, show 40 - w - 1 + 1 = 40 - w by omega]
    have fl : ∀ c k, ¬ ((c = 0 ∧ (k = 3 ∨ k = 4 ∨ k = 6 ∨ k = 9 ∨ k = 12)) ∨ (c = 130 ∧ k = 3) ∨ (c = 129 ∧ k = 4) ∨ (c = 135 ∧ k = 3)) → At g (sI (sI (sI (sI (sI (sI (sP (sP g 0 3 (40 - w)) 0 4 (w + 1)) 0 6 (z 0)) 130 3 0) 129 4 (-1)) 135 3 0) 0 9 0) 0 12 0) c k := fun c k hc => ((((((((At.rf g c k).sP (by omega)).sP (by omega)).sI (by omega)).sI (by omega)).sI (by omega)).sI (by omega)).sI (by omega)).sI (by omega)
    have r3 : gP (sI (sI (sI (sI (sI (sI (sP (sP g 0 3 (40 - w)) 0 4 (w + 1)) 0 6 (z 0)) 130 3 0) 129 4 (-1)) 135 3 0) 0 9 0) 0 12 0) 0 3 = 40 - w := by
      repeat rw [gP_sI]
      rw [gP_sP, if_neg (by omega), gP_sP, if_pos ⟨rfl, rfl⟩]
    have r4 : gP (sI (sI (sI (sI (sI (sI (sP (sP g 0 3 (40 - w)) 0 4 (w + 1)) 0 6 (z 0)) 130 3 0) 129 4 (-1)) 135 3 0) 0 9 0) 0 12 0) 0 4 = w + 1 := by
      repeat rw [gP_sI]
      rw [gP_sP, if_pos ⟨rfl, rfl⟩]
    have r6 : gI (sI (sI (sI (sI (sI (sI (sP (sP g 0 3 (40 - w)) 0 4 (w + 1)) 0 6 (z 0)) 130 3 0) 129 4 (-1)) 135 3 0) 0 9 0) 0 12 0) 0 6 = z 0 := by
      repeat rw [gI_out (by omega)]
      exact gI_in rfl rfl
    have r9 : gI (sI (sI (sI (sI (sI (sI (sP (sP g 0 3 (40 - w)) 0 4 (w + 1)) 0 6 (z 0)) 130 3 0) 129 4 (-1)) 135 3 0) 0 9 0) 0 12 0) 0 9 = z 0 := by
      rw [gI_out (by omega), gI_in rfl rfl]
      rfl
    have r12 : gI (sI (sI (sI (sI (sI (sI (sP (sP g 0 3 (40 - w)) 0 4 (w + 1)) 0 6 (z 0)) 130 3 0) 129 4 (-1)) 135 3 0) 0 9 0) 0 12 0) 0 12 = z 0 := gI_in rfl rfl
    have r130 : gI (sI (sI (sI (sI (sI (sI (sP (sP g 0 3 (40 - w)) 0 4 (w + 1)) 0 6 (z 0)) 130 3 0) 129 4 (-1)) 135 3 0) 0 9 0) 0 12 0) 130 3 = z 0 := by
      repeat rw [gI_out (by omega)]
      exact gI_in rfl rfl
    have r129 : gI (sI (sI (sI (sI (sI (sI (sP (sP g 0 3 (40 - w)) 0 4 (w + 1)) 0 6 (z 0)) 130 3 0) 129 4 (-1)) 135 3 0) 0 9 0) 0 12 0) 129 4 = z (-1) := by
      repeat rw [gI_out (by omega)]
      exact gI_in rfl rfl
    have r135 : gI (sI (sI (sI (sI (sI (sI (sP (sP g 0 3 (40 - w)) 0 4 (w + 1)) 0 6 (z 0)) 130 3 0) 129 4 (-1)) 135 3 0) 0 9 0) 0 12 0) 135 3 = z 0 := by
      repeat rw [gI_out (by omega)]
      exact gI_in rfl rfl
    generalize sI (sI (sI (sI (sI (sI (sP (sP g 0 3 (40 - w)) 0 4 (w + 1)) 0 6 (z 0)) 130 3 0) 129 4 (-1)) 135 3 0) 0 9 0) 0 12 0 = g2 at *
    have fA : ∀ c k, ¬ (rdD (39 - w) c ∨ (c = 0 ∧ k = 1)) → ¬ ((c = 0 ∧ (k = 3 ∨ k = 4 ∨ k = 6 ∨ k = 9 ∨ k = 12)) ∨ (c = 130 ∧ k = 3) ∨ (c = 129 ∧ k = 4) ∨ (c = 135 ∧ k = 3)) → At h g2 c k := fun c k x y => (f c k x).tr (fl c k y)
    rw [r3]
    refine ⟨by omega, by rw [show 40 - w - 1 = 39 - w by omega]; exact ox, ?_⟩
    rw [show 40 - w - 1 = 39 - w by omega, (fl (39 - w) 12 (by omega)).1, e12]
    obtain ⟨L1, L2⟩ := i7
    obtain ⟨a8, b8, c8, d8⟩ := i8
    obtain ⟨aL, bL, cL, dL⟩ := L1
    refine hq g2 (39 - w) ⟨⟨v1, by rw [r3]; omega, WV.at' (fun c k b1 b2 _ _ _ _ => fl c k (by omega)), NW.1, Or.inl ⟨r9, by show s'.fin.n 9 ≠ 1; rw [NW.2]; decide⟩, fun e => absurd (r9.symm.trans e) (by decide)⟩, ⟨by rw [r4]; omega, ?_⟩, ?_, ⟨?_, r6, fun b => absurd b (by show ¬ false = true; decide)⟩, ⟨⟨?_, ?_, r135, (Int.le_refl 0 : (0 : Int) ≤ 0), by show (0 : Int) ≤ 20; decide, dL.2.2⟩, ⟨fun _ _ => 0, fun k k0 k1 => absurd k1 (by show ¬ k < 0; omega)⟩⟩, ⟨⟨?_, ?_, r130, (Int.le_refl 0 : (0 : Int) ≤ 0), by show (0 : Int) ≤ 24; decide, d8.2.2⟩, fun k k0 k1 => absurd k1 (by show ¬ k < 0; omega), r129⟩, ⟨?_, fun k k0 k1 => absurd k1 (by show ¬ k < 0; omega)⟩, ⟨fun k hk => ?_, ?_, ?_⟩, ⟨⟨q1, ?_⟩, ⟨q2, ?_⟩⟩, i18.gS NW.1 NW.2⟩ (Or.inl r12)
    · rw [show 39 - (39 - w) = w by omega]
      exact n3.ws.fr (fun c k b1 b2 => fA c k (by unfold rdD; omega) (by omega))
    · exact i3.fr (fun c k b1 b2 => fA c k (by unfold rdD; omega) (by omega))
    · exact i4.fr (fun c k b1 b2 => fA c k (by unfold rdD; omega) (by omega))
    · rw [(fA 135 0 (by unfold rdD; omega) (by omega)).1]; exact aL
    · rw [(fA 135 1 (by unfold rdD; omega) (by omega)).1]; exact bL
    · rw [(fA 130 0 (by unfold rdD; omega) (by omega)).1]; exact a8
    · rw [(fA 130 1 (by unfold rdD; omega) (by omega)).1]; exact b8
    · rw [(fl 0 1 (by omega)).1, (fr 0 1 (by unfold rdD; omega)).1]; exact e1
    · rw [(fA 4 _ (by unfold rdD; omega) (by omega)).1]; exact i13 k hk
    · rw [(fl 2 8 (by omega)).1]; exact e8
    · rw [(fl 2 9 (by omega)).1]; exact e9
    · exact i16.at' (fun k => fA 113 k (by unfold rdD; omega) (by omega))
    · exact i17.at' (fun k => fA 115 k (by unfold rdD; omega) (by omega))
end XTEXT
