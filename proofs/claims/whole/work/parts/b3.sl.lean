/-! ===== pieces of worlds alike ===== -/
section PSA
variable {a b : Wd}
theorem sl_sa (S : SA a b) : sl b = sl a := by
  funext p m
  unfold sl
  rw [far_sa S, fst_sa S]
theorem st_sa (S : SA a b) : st b = st a := by
  funext k
  unfold st
  rw [sl_sa S]
theorem spS_sa (S : SA a b) : spS b = spS a := by unfold spS; rw [st_sa S, S.1 0 (by decide)]
theorem spK_sa (S : SA a b) : spK b = spK a := by funext j; unfold spK; rw [st_sa S, S.1 0 (by decide)]
theorem spP_sa (S : SA a b) : spP b = spP a := by funext j; unfold spP; rw [spK_sa S]
theorem spF_sa (S : SA a b) : spF b = spF a := by funext j; unfold spF; rw [spK_sa S]
theorem enS_sa (S : SA a b) : enS b = enS a := by funext p f; unfold enS; rw [sl_sa S]
theorem spT_sa (S : SA a b) : spT b = spT a := by funext j; unfold spT; rw [enS_sa S, spP_sa S, spF_sa S]
theorem besB_sa (S : SA a b) : besB b = besB a := by
  funext p q
  unfold besB
  rw [S.1 1 (by decide), show b.f 1 0 = a.f 1 0 from funext (fun l => S.2.1 1 0 l (by decide) (by decide)), show b.f 1 1 = a.f 1 1 from funext (fun l => S.2.1 1 1 l (by decide) (by decide)), show b.f 1 3 = a.f 1 3 from funext (fun l => S.2.1 1 3 l (by decide) (by decide))]
theorem tch_sa (S : SA a b) : tch b = tch a := by
  funext i j
  unfold tch
  rw [spF_sa S, spT_sa S, spP_sa S, besB_sa S]
theorem plb_sa (S : SA a b) : plb b = plb a := by funext k; unfold plb; rw [tch_sa S, spS_sa S]
theorem pcN_sa (S : SA a b) : pcN b = pcN a := by unfold pcN; rw [tch_sa S, spS_sa S]
theorem wh_sa (S : SA a b) : wh b = wh a := by funext p m; unfold wh; rw [far_sa S, whs_sa S]
theorem itA_sa (S : SA a b) : itA b = itA a := by funext j i; unfold itA; rw [plb_sa S, spF_sa S, spT_sa S]
theorem itB_sa (S : SA a b) : itB b = itB a := by funext j ok i; unfold itB; rw [itA_sa S, wh_sa S, spP_sa S]
theorem itP_sa (S : SA a b) : itP b = itP a := by funext j ok p i; unfold itP; rw [itB_sa S, spP_sa S]
theorem pcM_sa (S : SA a b) : pcM b = pcM a := by funext j ok; unfold pcM; rw [itB_sa S, spS_sa S]
theorem pcF_sa (S : SA a b) : pcF b = pcF a := by funext j ok; unfold pcF; rw [itB_sa S, spS_sa S]
theorem pcP_sa (S : SA a b) : pcP b = pcP a := by funext j ok p; unfold pcP; rw [itP_sa S, spS_sa S]
theorem pcO_sa (S : SA a b) : pcO b = pcO a := by funext j o; unfold pcO; rw [itB_sa S, spS_sa S]
theorem pcS_sa (S : SA a b) : pcS b = pcS a := by funext j; unfold pcS; rw [plb_sa S, spS_sa S]
theorem hB_sa (S : SA a b) : hB b = hB a := by funext j; unfold hB; rw [pcO_sa S]
theorem pcQ_sa (S : SA a b) : pcQ b = pcQ a := by funext j ok; unfold pcQ; rw [pcP_sa S, S.1 0 (by decide)]
theorem wrt_sa (S : SA a b) : wrt b = wrt a := by funext x1 x2 x3 x4; unfold wrt; rw [S.2.2.2]
theorem pcol_sa (S : SA a b) : pcol b = pcol a := by funext j c; unfold pcol; rw [pcM_sa S, pcQ_sa S, hB_sa S, wrt_sa S, pcF_sa S, pcS_sa S]
theorem PcX.sa {h : PH} (S : SA a b) (P : PcX h a) : PcX h b := by
  unfold PcX PcA SpA PcV at *
  rw [pcN_sa S, spS_sa S, tch_sa S, spP_sa S, spF_sa S, spT_sa S, pcol_sa S]
  exact P
end PSA
/-- the pieces kept are those of now, or stale -/
def PX (h : PH) (a : Wd) : Prop := gI h 0 12 = 0 ∨ (gI h 0 12 = 1 ∧ gI h 0 9 = 1 ∧ PcX h a)
theorem PcX.at' {h g : PH} {a : Wd} (P : PcX h a) (e : ∀ c k, 113 ≤ c → c ≤ 116 → At h g c k) : PcX g a := ⟨P.1.at' (fun c k c1 c2 => e c k c1 (by omega)), P.2.at' (fun k => e 116 k (by omega) (by omega))⟩
theorem PX.kp {h g : PH} {a : Wd} (P : PX h a) (K : KpX h g) : PX g a := by
  rcases K with k | ⟨k1, k2, k3⟩
  · exact Or.inl k
  · rcases P with p | ⟨p1, p2, p3⟩
    · exact Or.inl (by rw [k1]; exact p)
    · exact Or.inr ⟨by rw [k1]; exact p1, k2 p2, p3.at' k3⟩
theorem PX.ks {h g : PH} {a b : Wd} (P : PX h a) (K : KpS h g a b) : PX g b := by
  rcases K with k | ⟨k, S⟩
  · exact Or.inl k
  · rcases P.kp k with p | ⟨p1, p2, p3⟩
    · exact Or.inl p
    · exact Or.inr ⟨p1, p2, p3.sa S⟩
noncomputable def a_spans (a : Wd) : Int := spS a
noncomputable def spcol (a : Wd) (k c : Int) : Int := if c = 0 then spP a k else if c = 1 then spF a k else if c = 2 then spT a k else plb a k
noncomputable def a_span (a : Wd) (k c : Int) : Int := if 0 ≤ k ∧ (0 ≤ c ∧ c ≤ 3) then (if k < spS a then spcol a k c else -2) else -1
noncomputable def a_pieces (a : Wd) : Int := pcN a
noncomputable def a_piece (a : Wd) (k c : Int) : Int := if 0 ≤ k ∧ (0 ≤ c ∧ c ≤ 5) then (if k < pcN a then pcol a k c else -2) else -1
noncomputable def a_share (a : Wd) (k o : Int) : Int := if 0 ≤ k ∧ (0 ≤ o ∧ o < a.n 2) then (if k < pcN a then pcM a k (okS ((2 ^ o.toNat : Nat) : Int)) else -2) else -1
noncomputable def a_part (a : Wd) (k o : Int) : Int := if 0 ≤ k ∧ (0 ≤ o ∧ o < a.n 2) then (if k < pcN a then prt a k o else -2) else -1
noncomputable def a_leaves (a : Wd) (k : Int) : Int := if 0 ≤ k then (if k < pcN a then lvs a k else -2) else -1
section PCALL
variable {h : PH} {w : Nat} {s : St}
def scrP (w c k : Nat) : Prop := scrX w c k ∨ (113 ≤ c ∧ c ≤ 117) ∨ (c = 0 ∧ k = 12)
theorem IX.pc {g : PH} (I : IX h w s) (N : NX g w s.a) (S : WS g 77) (R : PcR g) (e : ∀ c k, ¬ scrP w c k → At h g c k) : IX g w s := by
  obtain ⟨i1, ⟨i2, i2'⟩, i3, ⟨i4, i5, i6⟩, i7, ⟨i8, i9, i10⟩, ⟨i11, i12⟩, ⟨i13, i14, i15⟩, _, i18⟩ := I
  have hw := N.1
  refine ⟨N, ⟨?_, ?_⟩, S, ⟨?_, ?_, fun b => ?_⟩, ?_, ⟨?_, fun k k0 k1 c hc => ?_, ?_⟩, ⟨?_, fun k k0 k1 => ?_⟩, ⟨fun k hk => ?_, ?_, ?_⟩, R, i18⟩
  · rw [(e 0 4 (by unfold scrP scrX; omega)).2.2]; exact i2
  · exact i2'.fr (fun c k b1 b2 => e c k (by unfold scrP scrX; omega))
  · exact i4.fr (fun c k b1 b2 => e c k (by unfold scrP scrX; omega))
  · rw [(e 0 6 (by unfold scrP scrX; omega)).1]; exact i5
  · exact (i6 b).at' (fun c k b1 b2 b3 b4 b5 b6 => e c k (by unfold scrP scrX; omega))
  · exact i7.at' (fun c k hc => e c k (by unfold scrP scrX; omega))
  · exact i8.at' (fun k => e 130 k (by unfold scrP scrX; omega))
  · rw [(e 131 _ (by unfold scrP scrX; omega)).1]; exact i9 k k0 k1 c hc
  · rw [(e 129 4 (by unfold scrP scrX; omega)).1]; exact i10
  · rw [(e 0 1 (by unfold scrP scrX; omega)).1]; exact i11
  · rw [(e 1 _ (by unfold scrP scrX; omega)).1]; exact i12 k k0 k1
  · rw [(e 4 _ (by unfold scrP scrX; omega)).1]; exact i13 k hk
  · rw [(e 2 8 (by unfold scrP scrX; omega)).1]; exact i14
  · rw [(e 2 9 (by unfold scrP scrX; omega)).1]; exact i15
theorem x_freshAir1 {a : Wd} {Q : Nat → PH → Prop} (N : NX h w a) (hq : ∀ g, (∀ c k, ¬ airR w c k → At h g c k) → NX g w a → gI g 0 9 = 1 → AirX g 100 a (far a (-1)) → Q 100 g) : w_X9_freshAir h Q := by
  obtain ⟨p1, p2, p3⟩ := N.p
  obtain ⟨n1, n2, n3, n4, n5, n6⟩ := id N
  have OL := n4.1
  have F3 := (far_gd (-1) OL).2.2.1
  unfold w_X9_freshAir
  rcases n5 with ⟨e, _⟩ | e
  · rw [if_pos e, p3]
    refine ⟨p1, oX_w n1, ?_⟩
    refine x_ways (g := -1) n3 OL rfl (by omega) (by omega) (fun g1 f1 X1 => ?_)
    have e1 : gP g1 0 3 = w + 1 := by rw [(f1 0 3 (by omega)).2.2]; exact n2
    rw [e1]
    refine ⟨by omega, oX_w n1, ?_⟩
    have W1 : WX g1 w a := n3.at' (fun c k b1 b2 b3 b4 b5 b6 => f1 c k (by omega))
    refine x_listen W1 n4.2.2.2.2.1 X1 (by omega) F3 OL.1 n4.2.1 n4.okx (fun g2 f2 H2 S2 => ?_)
    have e2 : gP g2 0 3 = w + 1 := by rw [(f2 0 3 (by omega)).2.2]; exact e1
    rw [e2]
    refine ⟨by omega, oX_w n1, ?_⟩
    have W2 : WX g2 w a := W1.at' (fun c k b1 b2 b3 b4 b5 b6 => f2 c k (by omega))
    refine x_settle W2 H2 S2 (by omega) OL.1 n4.2.1 n4.2.2.1 (fun g3 f3 C3 Ho3 => ?_)
    rintro _ rfl
    have A3 : AirX g3 100 a (far a (-1)) := ⟨fun p q c1 c2 c3 c4 => by rw [(f3 101 _ (by omega)).1, (f2 101 _ (by omega)).1]; exact X1 p q c1 c2 c3 c4, fun n p c1 c2 c3 c4 => by rw [(f3 102 _ (by omega)).2.1]; exact H2 n p c1 c2 c3 c4, fun p c1 c2 => by rw [(f3 103 _ (by omega)).2.1]; exact S2 p c1 c2, C3, Ho3⟩
    have A4 : AirX (sI g3 0 9 1) 100 a (far a (-1)) := A3.at' (fun c k b1 b2 => (At.rf g3 c k).sI (by omega))
    refine hq _ (fun c k hc => ?_) ⟨n1, ?_, ?_, n4, Or.inr (gI_in rfl rfl), fun _ => A4⟩ (gI_in rfl rfl) A4
    · unfold airR at hc
      exact (((f1 c k (by omega)).tr (f2 c k (by omega))).tr (f3 c k (by omega))).sI (by omega)
    · show gP g3 0 3 = _
      rw [(f3 0 3 (by omega)).2.2]; exact e2
    · exact W2.at' (fun c k b1 b2 b3 b4 b5 b6 => (f3 c k (by omega)).sI (by omega))
  · rw [if_neg (by rw [e]; decide)]
    exact hq h (fun c k _ => At.rf h c k) N e (n6 e)
theorem x_freshPieces {Q : Nat → PH → Prop} (I : IX h w s) (P : PX h s.a) (hq : ∀ g, IX g w s → gI g 0 12 = 1 → gI g 0 9 = 1 → PcX g s.a → HoX g 100 s.a (far s.a (-1)) → Q 112 g) : w_X9_freshPieces h Q := by
  have hw := I.w
  unfold w_X9_freshPieces
  rcases P with p | ⟨p1, p2, p3⟩
  · rw [if_pos p]
    refine x_freshAir1 I.1 (fun g1 f1 N1 e9 A1 => ?_)
    have Nw := N1.2.2.2.1
    have h6 := Nw.1.1
    obtain ⟨q1, q2, q3⟩ := N1.p
    refine ⟨rfl, q1, q2, ?_⟩
    rw [q3]
    have R1 : PcR g1 := by
      obtain ⟨⟨n1, r1⟩, ⟨n2, r2⟩⟩ := I.2.2.2.2.2.2.2.2.1
      exact ⟨⟨n1, r1.at' (fun k => f1 113 k (by unfold airR; omega))⟩, ⟨n2, r2.at' (fun k => f1 115 k (by unfold airR; omega))⟩⟩
    refine x_findSpans N1.2.2.1 A1.2.2.1 h6 hw R1.1 (fun g2 f2 S2 => ?_)
    have e2 : gP g2 0 3 = w + 1 := by rw [(f2 0 3 (by omega)).2.2]; exact N1.2.1
    have W2 : WX g2 w s.a := N1.2.2.1.at' (fun c k b1 b2 b3 b4 b5 b6 => f2 c k (by omega))
    rw [e2]
    refine ⟨by omega, by rw [show w + 1 - 1 = w by omega]; exact oX_w hw, ?_⟩
    rw [show w + 1 - 1 = w by omega]
    refine x_joinSpans W2 Nw.1 hw S2 (by
      obtain ⟨n2, r2⟩ := R1.2
      exact ⟨n2, r2.at' (fun k => f2 115 k (by omega))⟩) (fun g3 f3 P3 => ?_)
    have e3 : gP g3 0 3 = w + 1 := by rw [(f3 0 3 (by omega)).2.2]; exact e2
    have W3 : WX g3 w s.a := W2.at' (fun c k b1 b2 b3 b4 b5 b6 => f3 c k (by omega))
    have Ho3 : HoX g3 100 s.a (far s.a (-1)) := fun p m c1 c2 c3 c4 => by rw [(f3 (100 + 5) _ (by omega)).1, (f2 (100 + 5) _ (by omega)).1]; exact A1.2.2.2.2 p m c1 c2 c3 c4
    rw [e3]
    refine ⟨by omega, by rw [show w + 1 - 1 = w by omega]; exact oX_w hw, ?_⟩
    rw [show w + 1 - 1 = w by omega]
    refine x_weigh W3 Nw.2.2.2.2.2.1 hw Ho3 Nw.2.1 Nw.2.2.1 h6 P3 (fun g4 f4 P4 => ?_)
    rintro _ rfl
    have F : ∀ c k, ¬ ((113 ≤ c ∧ c ≤ 121) ∨ c = w + 21 ∨ c = w + 22 ∨ (c = 0 ∧ k = 12)) → At g1 (sI g4 0 12 1) c k := fun c k hc => (((f2 c k (by omega)).tr (f3 c k (by omega))).tr (f4 c k (by omega))).sI (by omega)
    have P5 : PcX (sI g4 0 12 1) s.a := P4.at' (fun c k c1 c2 => (At.rf g4 c k).sI (by omega))
    have A5 : AirX (sI g4 0 12 1) 100 s.a (far s.a (-1)) := A1.at' (fun c k b1 b2 => F c k (by omega))
    have e95 : gI (sI g4 0 12 1) 0 9 = 1 := by rw [(F 0 9 (by omega)).1]; exact e9
    have N5 : NX (sI g4 0 12 1) w s.a := ⟨hw, by rw [(F 0 3 (by omega)).2.2]; exact N1.2.1, N1.2.2.1.at' (fun c k b1 b2 b3 b4 b5 b6 => F c k (by omega)), Nw, Or.inr e95, fun _ => A5⟩
    have FA : ∀ c k, ¬ scrP w c k → At h (sI g4 0 12 1) c k := fun c k hc => (f1 c k (by unfold scrP scrX at hc; unfold airR; omega)).tr (F c k (by unfold scrP scrX at hc; omega))
    exact hq _ (I.pc N5 (I.2.2.1.fr (fun c k b1 b2 => (f1 c k (by unfold airR; omega)).tr (F c k (by omega)))) ⟨⟨_, P5.1.1.1⟩, ⟨_, P5.1.2⟩⟩ FA) (gI_in rfl rfl) e95 P5 A5.2.2.2.2
  · rw [if_neg (by rw [p1]; decide)]
    exact hq h I p1 p2 p3 (I.1.2.2.2.2.2 p2).2.2.2.2
theorem px_of {g g' : PH} {a : Wd} (e1 : gI g 0 12 = 1) (e2 : gI g 0 9 = 1) (P : PcX g a) (f : ∀ c k, ¬ ((119 ≤ c ∧ c ≤ 121) ∨ c = w + 21 ∨ c = w + 22) → At g g' c k) (hw : w = 8 ∨ w = 31) : PX g' a := Or.inr ⟨by rw [(f 0 12 (by omega)).1]; exact e1, by rw [(f 0 9 (by omega)).1]; exact e2, P.at' (fun c k c1 c2 => f c k (by omega))⟩
theorem ix_of {g g' : PH} (I : IX g w s) (f : ∀ c k, ¬ ((119 ≤ c ∧ c ≤ 121) ∨ c = w + 21 ∨ c = w + 22) → At g g' c k) : IX g' w s := by
  have hw := I.w
  exact I.fr (I.1.at' (fun k => f 0 k (by omega)) (fun c k c1 c2 hc => f c k (by unfold lawR at hc; omega)) (fun c k c1 c2 => f c k (by omega))) (I.2.2.1.fr (fun c k b1 b2 => f c k (by omega))) (fun c k hc => f c k (by unfold scrX at hc; omega))
theorem xs_spans {Q : Int32 → PH → Prop} (I : IX h w s) (P : PX h s.a) (hq : ∀ g, IX g w s → PX g s.a → Q (z (a_spans s.a)) g) : w_X9_spans h Q := by
  unfold w_X9_spans
  refine x_freshPieces I P (fun g I1 e1 e2 P1 _ => ⟨rfl, ?_⟩)
  rw [P1.1.1.1.2.2.1]
  exact hq g I1 (Or.inr ⟨e1, e2, P1⟩)
theorem xs_pieces {Q : Int32 → PH → Prop} (I : IX h w s) (P : PX h s.a) (hq : ∀ g, IX g w s → PX g s.a → Q (z (a_pieces s.a)) g) : w_X9_pieces h Q := by
  unfold w_X9_pieces
  refine x_freshPieces I P (fun g I1 e1 e2 P1 _ => ⟨rfl, ?_⟩)
  rw [P1.1.2.2.2.1]
  exact hq g I1 (Or.inr ⟨e1, e2, P1⟩)
theorem xs_span {Q : Int32 → PH → Prop} {k c : Int} (hk : i32 k) (hc : i32 c) (I : IX h w s) (P : PX h s.a) (hq : ∀ g, IX g w s → PX g s.a → Q (z (a_span s.a k c)) g) : w_X9_span (z k) (z c) h Q := by
  have k1 := hk.1
  have k2 := hk.2
  have c1 := hc.1
  have c2 := hc.2
  have bad : ¬ (0 ≤ k ∧ (0 ≤ c ∧ c ≤ 3)) → Q (-1) h := fun e => by
    have := hq h I P
    unfold a_span at this
    rw [if_neg e] at this
    exact this
  unfold w_X9_span
  by_cases d1 : k < 0
  · rw [zn_0, if_pos (by rw [z_lt (by omega) (by omega) (by omega) (by omega)]; omega)]; exact bad (by omega)
  rw [zn_0, if_neg (by rw [z_lt (by omega) (by omega) (by omega) (by omega)]; omega)]
  by_cases d2 : c < 0
  · rw [if_pos (by rw [z_lt (by omega) (by omega) (by omega) (by omega)]; omega)]; exact bad (by omega)
  rw [if_neg (by rw [z_lt (by omega) (by omega) (by omega) (by omega)]; omega), zn_3]
  by_cases d3 : c ≤ 3
  · rw [if_pos (by rw [z_le (by omega) (by omega) (by omega) (by omega)]; omega)]
    refine x_freshPieces I P (fun g I1 e1 e2 P1 _ => ⟨rfl, ?_⟩)
    have q := hq g I1 (Or.inr ⟨e1, e2, P1⟩)
    unfold a_span at q
    rw [if_pos ⟨by omega, by omega, d3⟩] at q
    refine x_has P1.1.1.1 rfl k1 (by omega) (fun u0 u1 => ?_) (fun u => ?_)
    · rw [if_neg (by decide)]
      rw [if_pos u1] at q
      refine x_at P1.1.1.1 rfl (c := c) rfl u0 u1 (by omega) (by omega) ?_
      obtain ⟨v0, v1, v2, v3⟩ := P1.1.1.2 k u0 u1
      rw [labA_S u0 u1] at v3
      show Q (gI g (113 + 1) (k * 4 + c).toNat) g
      unfold spcol at q
      have : c = 0 ∨ c = 1 ∨ c = 2 ∨ c = 3 := by omega
      rcases this with rfl | rfl | rfl | rfl
      · rw [show gI g (113 + 1) (k * 4 + 0).toNat = _ from v0]; exact q
      · rw [show gI g (113 + 1) (k * 4 + 1).toNat = _ from v1]; exact q
      · rw [show gI g (113 + 1) (k * 4 + 2).toNat = _ from v2]; exact q
      · rw [show gI g (113 + 1) (k * 4 + 3).toNat = _ from v3]; exact q
    · rw [if_pos (show (0 : Int32) = z 0 from rfl)]
      rw [if_neg (by omega)] at q
      exact q
  · rw [if_neg (by rw [z_le (by omega) (by omega) (by omega) (by omega)]; omega)]; exact bad (by omega)
theorem xs_piece {Q : Int32 → PH → Prop} {k c : Int} (hk : i32 k) (hc : i32 c) (I : IX h w s) (P : PX h s.a) (hq : ∀ g, IX g w s → PX g s.a → Q (z (a_piece s.a k c)) g) : w_X9_piece (z k) (z c) h Q := by
  have k1 := hk.1
  have k2 := hk.2
  have c1 := hc.1
  have c2 := hc.2
  have bad : ¬ (0 ≤ k ∧ (0 ≤ c ∧ c ≤ 5)) → Q (-1) h := fun e => by
    have := hq h I P
    unfold a_piece at this
    rw [if_neg e] at this
    exact this
  unfold w_X9_piece
  by_cases d1 : k < 0
  · rw [zn_0, if_pos (by rw [z_lt (by omega) (by omega) (by omega) (by omega)]; omega)]; exact bad (by omega)
  rw [zn_0, if_neg (by rw [z_lt (by omega) (by omega) (by omega) (by omega)]; omega)]
  by_cases d2 : c < 0
  · rw [if_pos (by rw [z_lt (by omega) (by omega) (by omega) (by omega)]; omega)]; exact bad (by omega)
  rw [if_neg (by rw [z_lt (by omega) (by omega) (by omega) (by omega)]; omega), zn_5]
  by_cases d3 : c ≤ 5
  · rw [if_pos (by rw [z_le (by omega) (by omega) (by omega) (by omega)]; omega)]
    refine x_freshPieces I P (fun g I1 e1 e2 P1 _ => ⟨rfl, ?_⟩)
    have q := hq g I1 (Or.inr ⟨e1, e2, P1⟩)
    unfold a_piece at q
    rw [if_pos ⟨by omega, by omega, d3⟩] at q
    refine x_has P1.1.2 rfl k1 (by omega) (fun u0 u1 => ?_) (fun u => ?_)
    · rw [if_neg (by decide)]
      rw [if_pos u1] at q
      refine x_at P1.1.2 rfl (c := c) rfl u0 u1 (by omega) (by omega) ?_
      show Q (gI g (115 + 1) (k * 6 + c).toNat) g
      rw [show gI g (115 + 1) (k * 6 + c).toNat = _ from P1.2 k u0 u1 c (by omega) (by omega)]
      exact q
    · rw [if_pos (show (0 : Int32) = z 0 from rfl)]
      rw [if_neg (by omega)] at q
      exact q
  · rw [if_neg (by rw [z_le (by omega) (by omega) (by omega) (by omega)]; omega)]; exact bad (by omega)
theorem xs_share {Q : Int32 → PH → Prop} {k o : Int} (hk : i32 k) (ho : i32 o) (I : IX h w s) (P : PX h s.a) (hq : ∀ g, IX g w s → PX g s.a → Q (z (a_share s.a k o)) g) : w_X9_share (z k) (z o) h Q := by
  have k1 := hk.1
  have k2 := hk.2
  have o1 := ho.1
  have o2 := ho.2
  have hw := I.w
  have n2 := (I.1.2.2.1.n0 2 (by decide)).2
  have n4 : s.a.n 2 ≤ 4 := n2.2
  have bad : ¬ (0 ≤ k ∧ (0 ≤ o ∧ o < s.a.n 2)) → Q (-1) h := fun e => by
    have := hq h I P
    unfold a_share at this
    rw [if_neg e] at this
    exact this
  obtain ⟨p1, p2, p3⟩ := I.1.p
  unfold w_X9_share
  by_cases d1 : k < 0
  · rw [zn_0, if_pos (by rw [z_lt (by omega) (by omega) (by omega) (by omega)]; omega)]; exact bad (by omega)
  rw [zn_0, if_neg (by rw [z_lt (by omega) (by omega) (by omega) (by omega)]; omega), p3]
  refine ⟨p1, oX_w hw, ?_⟩
  refine x_has (I.1.2.2.1.rw 2 (by decide)) rfl o1 (by omega) (fun u0 u1 => ?_) (fun u => ?_)
  · rw [if_neg (by decide)]
    refine x_freshPieces I P (fun g I1 e1 e2 P1 Ho => ⟨rfl, ?_⟩)
    have Nw := I1.1.2.2.2.1
    refine x_has P1.1.2 rfl k1 (by omega) (fun v0 v1 => ?_) (fun v => ?_)
    · rw [if_neg (by decide)]
      refine x_shareOf Ho Nw.2.1 Nw.2.2.1 Nw.1.1 P1.1 ⟨v0, v1⟩ ⟨u0, by omega⟩ (fun g2 f2 => ?_)
      have f3 : ∀ c k, ¬ ((119 ≤ c ∧ c ≤ 121) ∨ c = w + 21 ∨ c = w + 22) → At g g2 c k := fun c k hc => f2 c k (by omega)
      have q := hq g2 (ix_of I1 f3) (px_of e1 e2 P1 f3 hw)
      unfold a_share at q
      rw [if_pos ⟨v0, u0, u1⟩, if_pos v1] at q
      exact q
    · rw [if_pos (show (0 : Int32) = z 0 from rfl)]
      have q := hq g I1 (Or.inr ⟨e1, e2, P1⟩)
      unfold a_share at q
      rw [if_pos ⟨by omega, u0, u1⟩, if_neg (by omega)] at q
      exact q
  · rw [if_pos (show (0 : Int32) = z 0 from rfl)]; exact bad (by omega)
theorem xs_part {Q : Int32 → PH → Prop} {k o : Int} (hk : i32 k) (ho : i32 o) (I : IX h w s) (P : PX h s.a) (hq : ∀ g, IX g w s → PX g s.a → Q (z (a_part s.a k o)) g) : w_X9_part (z k) (z o) h Q := by
  have k1 := hk.1
  have k2 := hk.2
  have o1 := ho.1
  have o2 := ho.2
  have hw := I.w
  have n2 := (I.1.2.2.1.n0 2 (by decide)).2
  have n4 : s.a.n 2 ≤ 4 := n2.2
  have bad : ¬ (0 ≤ k ∧ (0 ≤ o ∧ o < s.a.n 2)) → Q (-1) h := fun e => by
    have := hq h I P
    unfold a_part at this
    rw [if_neg e] at this
    exact this
  obtain ⟨p1, p2, p3⟩ := I.1.p
  unfold w_X9_part
  by_cases d1 : k < 0
  · rw [zn_0, if_pos (by rw [z_lt (by omega) (by omega) (by omega) (by omega)]; omega)]; exact bad (by omega)
  rw [zn_0, if_neg (by rw [z_lt (by omega) (by omega) (by omega) (by omega)]; omega), p3]
  refine ⟨p1, oX_w hw, ?_⟩
  refine x_has (I.1.2.2.1.rw 2 (by decide)) rfl o1 (by omega) (fun u0 u1 => ?_) (fun u => ?_)
  · rw [if_neg (by decide)]
    refine x_freshPieces I P (fun g I1 e1 e2 P1 Ho => ⟨rfl, ?_⟩)
    have Nw := I1.1.2.2.2.1
    refine x_has P1.1.2 rfl k1 (by omega) (fun v0 v1 => ?_) (fun v => ?_)
    · rw [if_neg (by decide)]
      obtain ⟨r1, r2, r3⟩ := I1.1.p
      rw [r3]
      refine ⟨r1, oX_w hw, ?_⟩
      refine x_partOf I1.1.2.2.1 Nw.2.2.2.2.2.1 hw Ho Nw.2.1 Nw.2.2.1 Nw.1.1 P1.1 ⟨v0, v1⟩ ⟨u0, by omega⟩ (fun g2 f3 => ?_)
      have q := hq g2 (ix_of I1 f3) (px_of e1 e2 P1 f3 hw)
      unfold a_part at q
      rw [if_pos ⟨v0, u0, u1⟩, if_pos v1] at q
      exact q
    · rw [if_pos (show (0 : Int32) = z 0 from rfl)]
      have q := hq g I1 (Or.inr ⟨e1, e2, P1⟩)
      unfold a_part at q
      rw [if_pos ⟨by omega, u0, u1⟩, if_neg (by omega)] at q
      exact q
  · rw [if_pos (show (0 : Int32) = z 0 from rfl)]; exact bad (by omega)
theorem xs_leaves {Q : Int32 → PH → Prop} {k : Int} (hk : i32 k) (I : IX h w s) (P : PX h s.a) (hq : ∀ g, IX g w s → PX g s.a → Q (z (a_leaves s.a k)) g) : w_X9_leaves (z k) h Q := by
  have k1 := hk.1
  have k2 := hk.2
  have hw := I.w
  unfold w_X9_leaves
  by_cases d1 : 0 ≤ k
  · rw [zn_0, if_pos (by rw [z_le (by omega) (by omega) (by omega) (by omega)]; omega)]
    refine x_freshPieces I P (fun g I1 e1 e2 P1 Ho => ⟨rfl, ?_⟩)
    have Nw := I1.1.2.2.2.1
    refine x_has P1.1.2 rfl k1 (by omega) (fun v0 v1 => ?_) (fun v => ?_)
    · rw [if_neg (by decide)]
      obtain ⟨r1, r2, r3⟩ := I1.1.p
      rw [r3]
      refine ⟨r1, oX_w hw, ?_⟩
      refine x_leaversOf I1.1.2.2.1 Nw.2.2.2.2.2.1 hw Ho Nw.2.1 Nw.2.2.1 Nw.1.1 P1 ⟨v0, v1⟩ (fun g2 f3 => ?_)
      have q := hq g2 (ix_of I1 f3) (px_of e1 e2 P1 f3 hw)
      unfold a_leaves at q
      rw [if_pos v0, if_pos v1] at q
      exact q
    · rw [if_pos (show (0 : Int32) = z 0 from rfl)]
      have q := hq g I1 (Or.inr ⟨e1, e2, P1⟩)
      unfold a_leaves at q
      rw [if_pos d1, if_neg (by omega)] at q
      exact q
  · rw [zn_0, if_neg (by rw [z_le (by omega) (by omega) (by omega) (by omega)]; omega)]
    have q := hq h I P
    unfold a_leaves at q
    rw [if_neg d1] at q
    exact q
end PCALL
