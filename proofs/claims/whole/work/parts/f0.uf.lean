/-! ===== the reference's reader: lines ===== -/
section MLN
variable {h : PH} {T : Int → Int} {L p : Int} {s : PS} {r0 : PR}
theorem m_preTok {Q : PH → Prop} {x : Int32} {B : Int → PR} (S : ScM h T L) (M : MF h s) (O : OkPs s) (t : TcM h T L p) (hp : 0 ≤ p ∧ p ≤ L) (e40 : gI h 0 40 = z 0) (er : r0 = B (tE T L p)) (hq : ∀ g, LnS h g T L s (gI h 0 33 ||| x) → Hm g T L r0 B → Q g) : w_X10_token (sI h 0 33 (gI h 0 33 ||| x)) Q := by
  have A : LnS h (sI h 0 33 (gI h 0 33 ||| x)) T L s (gI h 0 33 ||| x) := ⟨S.at' (fun c k hc => (At.rf h c k).sI (by omega)), M.c0 O (by omega), fun c k hc => (At.rf h c k).sI (fun y => hc (Or.inl ⟨y.1, by omega⟩)), gI_in rfl rfl, gI_out (by omega)⟩
  have t1 : TcM (sI h 0 33 (gI h 0 33 ||| x)) T L p := t.at' (fun k k0 k1 => (At.rf h 0 k).sI (by omega))
  have e1 : gI (sI h 0 33 (gI h 0 33 ||| x)) 0 40 = z 0 := by rw [gI_out (by omega)]; exact e40
  generalize sI h 0 33 (gI h 0 33 ||| x) = g at *
  refine m_tok A.1 hp t1 (fun g2 f n t' => ?_)
  exact hq g2 (A.ms O (fun c k hc => f c k (by omega))) (Or.inr ⟨by rw [(f 0 40 (by omega)).1]; exact e1, _, n, t', er⟩)
theorem ToldM.keep {x : Int32} {w : Int} (U : ToldM x s) (hw : 0 ≤ w ∧ w ≤ 12) (h9 : w ≠ 9 ∧ w ≠ 10 ∧ w ≠ 11) : ToldM (x ||| ((1 : Int32) <<< (z w &&& 31))) s := by
  obtain ⟨⟨u1, u2, u3⟩, u4, u5⟩ := U
  have b : ∀ i : Nat, i < 32 → i ≠ w.toNat → bt (x ||| ((1 : Int32) <<< (z w &&& 31))) i = bt x i := fun i hi hn => by
    rw [bt_on hw.1 (by omega) hi, decide_eq_false hn, Bool.or_false]
  exact ⟨⟨by rw [b 9 (by omega) (by omega)]; exact u1, by rw [b 10 (by omega) (by omega)]; exact u2, by rw [b 11 (by omega) (by omega)]; exact u3⟩, by rw [b 16 (by omega) (by omega)]; exact u4, by rw [b 17 (by omega) (by omega)]; exact u5⟩
/-- the row stands: its number, and the line's end -/
theorem m_rowEnd {Q : PH → Prop} {h0 g : PH} {tv : Int32} {r : Nat} {f : Nat → Int} (A : LnS h0 g T L s tv) (O : OkPs s) (U : ToldM tv s) (hr : r < 7) (hf : ∀ c, c < mw r → gI g (mc r c) (capT r + s.a.n r).toNat = z (mv r c (f c))) (H : Hm g T L r0 (pEnd T L (s.wd (adR s.a r f)))) (hq : ∀ g, LnP h0 g T L r0 → Q g) : w_X10_line_671 Q (sI g 2 (11 + r) (z (s.a.n r + 1))) := by
  refine m_lnEnd (s' := s.wd (adR s.a r f)) ⟨A.1.at' (fun c k hc => (At.rf g c k).sI (by omega)), A.2.1.add hr hf, fun c k hc => (A.2.2.1 c k hc).sI (fun y => hc (Or.inr ⟨by omega, by omega, by rw [y.1]; show 11 ≤ k; omega⟩)), by rw [gI_out (by omega)]; exact A.2.2.2.1, by rw [gI_out (by omega)]; exact A.2.2.2.2⟩ O.2.2.2.2.2 U (H.at' (fun k k0 k1 => (At.rf g 0 k).sI (by omega))) hq
theorem m_l5 {Q : PH → Prop} (S : ScM h T L) (M : MF h s) (O : OkPs s) (U : ToldM (gI h 0 33) s) (e40 : gI h 0 40 = z 0) (hp : 0 ≤ p ∧ p ≤ L) (t : TcM h T L p) (room : s.a.n 4 < 8) (er : r0 = lnHold T L s p 4 8) (hq : ∀ g, LnP h g T L r0 → Q g) : w_X10_line_72 Q 5 h := by
  have n0 := (O.1.1 4 (by omega)).1
  have c0 : capT 4 = 8 := rfl
  unfold lnHold at er
  rw [if_pos room] at er
  unfold w_X10_line_72
  rw [e40, if_pos (show z 0 = 0 from rfl)]
  rintro _ rfl
  refine m_preTok S M O t hp e40 er (fun g1 A1 H1 => ?_)
  rw [if_neg (by decide), if_neg (by decide), if_neg (by decide), if_neg (by decide), if_neg (by decide), if_pos rfl]
  refine m_frs (r := 4) A1.2.1 (by omega) rfl ?_
  rintro _ rfl
  rw [show (8 : Int32) = z 8 from rfl, z_add, z_iN (a := 8 + s.a.n 4) (by omega) (by omega)]
  refine m_own A1 O H1 (fun g2 o f2 A2 ho H2 => ?_)
  refine ⟨z_in (by omega) (by omega) (by omega), ?_⟩
  rintro _ rfl
  have A3 : LnS h (sI g2 15 (8 + s.a.n 4).toNat (z (o))) T L s _ := A2.row (r := 4) (c := 0) O (by omega) (by decide) (by omega)
  have H3 : Hm (sI g2 15 (8 + s.a.n 4).toNat (z (o))) T L r0 _ := H2.row (r := 4) (c := 0) (by omega) (by decide)
  have w_0 : gI (sI g2 15 (8 + s.a.n 4).toNat (z (o))) 15 (8 + s.a.n 4).toNat = z (o) := gI_in rfl rfl
  generalize hg3 : sI g2 15 (8 + s.a.n 4).toNat (z (o)) = g3 at *
  refine m_plc A3 O H3 (fun g4 x f4 A4 hx H4 => ?_)
  replace w_0 := (f4 15 _ (by omega)).1.trans w_0
  refine ⟨z_in (by omega) (by omega) (by omega), ?_⟩
  rintro _ rfl
  have A5 : LnS h (sI g4 16 (8 + s.a.n 4).toNat (z (x))) T L s _ := A4.row (r := 4) (c := 1) O (by omega) (by decide) (by omega)
  have H5 : Hm (sI g4 16 (8 + s.a.n 4).toNat (z (x))) T L r0 _ := H4.row (r := 4) (c := 1) (by omega) (by decide)
  replace w_0 : gI (sI g4 16 (8 + s.a.n 4).toNat (z (x))) 15 (8 + s.a.n 4).toNat = z (o) := (gI_out (by omega)).trans w_0
  have w_1 : gI (sI g4 16 (8 + s.a.n 4).toNat (z (x))) 16 (8 + s.a.n 4).toNat = z (x) := gI_in rfl rfl
  generalize hg5 : sI g4 16 (8 + s.a.n 4).toNat (z (x)) = g5 at *
  refine m_num A5 O (lo := 0) (hi := 47) rfl rfl (by omega) H5 (fun g6 f f6 A6 lf mf H6 => ?_)
  replace w_0 := (f6 15 _ (by omega)).1.trans w_0
  replace w_1 := (f6 16 _ (by omega)).1.trans w_1
  refine ⟨z_in (by omega) (by omega) (by omega), ?_⟩
  rintro _ rfl
  have A7 : LnS h (sI g6 17 (8 + s.a.n 4).toNat (z (f))) T L s _ := A6.row (r := 4) (c := 2) O (by omega) (by decide) (by omega)
  have H7 : Hm (sI g6 17 (8 + s.a.n 4).toNat (z (f))) T L r0 _ := H6.row (r := 4) (c := 2) (by omega) (by decide)
  replace w_0 : gI (sI g6 17 (8 + s.a.n 4).toNat (z (f))) 15 (8 + s.a.n 4).toNat = z (o) := (gI_out (by omega)).trans w_0
  replace w_1 : gI (sI g6 17 (8 + s.a.n 4).toNat (z (f))) 16 (8 + s.a.n 4).toNat = z (x) := (gI_out (by omega)).trans w_1
  have w_2 : gI (sI g6 17 (8 + s.a.n 4).toNat (z (f))) 17 (8 + s.a.n 4).toNat = z (f) := gI_in rfl rfl
  generalize hg7 : sI g6 17 (8 + s.a.n 4).toNat (z (f)) = g7 at *
  refine ⟨z_in (by omega) (by omega) (by omega), ?_⟩
  rw [w_2]
  refine m_num A7 O (lo := f) (hi := 47) rfl rfl (by omega) H7 (fun g8 u f8 A8 lu mu H8 => ?_)
  replace w_0 := (f8 15 _ (by omega)).1.trans w_0
  replace w_1 := (f8 16 _ (by omega)).1.trans w_1
  replace w_2 := (f8 17 _ (by omega)).1.trans w_2
  refine ⟨z_in (by omega) (by omega) (by omega), ?_⟩
  rintro _ rfl
  have A9 : LnS h (sI g8 18 (8 + s.a.n 4).toNat (z (u))) T L s _ := A8.row (r := 4) (c := 3) O (by omega) (by decide) (by omega)
  have H9 : Hm (sI g8 18 (8 + s.a.n 4).toNat (z (u))) T L r0 _ := H8.row (r := 4) (c := 3) (by omega) (by decide)
  replace w_0 : gI (sI g8 18 (8 + s.a.n 4).toNat (z (u))) 15 (8 + s.a.n 4).toNat = z (o) := (gI_out (by omega)).trans w_0
  replace w_1 : gI (sI g8 18 (8 + s.a.n 4).toNat (z (u))) 16 (8 + s.a.n 4).toNat = z (x) := (gI_out (by omega)).trans w_1
  replace w_2 : gI (sI g8 18 (8 + s.a.n 4).toNat (z (u))) 17 (8 + s.a.n 4).toNat = z (f) := (gI_out (by omega)).trans w_2
  have w_3 : gI (sI g8 18 (8 + s.a.n 4).toNat (z (u))) 18 (8 + s.a.n 4).toNat = z (u) := gI_in rfl rfl
  generalize hg9 : sI g8 18 (8 + s.a.n 4).toNat (z (u)) = g9 at *
  refine m_frs (r := 4) A9.2.1 (by omega) rfl ?_
  rw [z_inc]
  refine m_rds (r := 4) (by omega) rfl ?_
  refine m_rowEnd (f := rowf o x f u 0) A9 O (U.keep (w := 5) (by omega) (by omega)) (by omega) (fun c hc => ?_) H9 hq
  have : c = 0 ∨ c = 1 ∨ c = 2 ∨ c = 3 := by
    have : mw 4 = 4 := rfl
    omega
  rcases this with rfl | rfl | rfl | rfl
  · exact w_0
  · exact w_1
  · exact w_2
  · exact w_3
theorem m_l6 {Q : PH → Prop} (S : ScM h T L) (M : MF h s) (O : OkPs s) (U : ToldM (gI h 0 33) s) (e40 : gI h 0 40 = z 0) (hp : 0 ≤ p ∧ p ≤ L) (t : TcM h T L p) (room : s.a.n 5 < 6) (er : r0 = lnHold T L s p 5 6) (hq : ∀ g, LnP h g T L r0 → Q g) : w_X10_line_72 Q 6 h := by
  have n0 := (O.1.1 5 (by omega)).1
  have c0 : capT 5 = 6 := rfl
  unfold lnHold at er
  rw [if_pos room] at er
  unfold w_X10_line_72
  rw [e40, if_pos (show z 0 = 0 from rfl)]
  rintro _ rfl
  refine m_preTok S M O t hp e40 er (fun g1 A1 H1 => ?_)
  rw [if_neg (by decide), if_neg (by decide), if_neg (by decide), if_neg (by decide), if_neg (by decide), if_neg (by decide), if_pos rfl]
  refine m_frs (r := 5) A1.2.1 (by omega) rfl ?_
  rintro _ rfl
  rw [show (6 : Int32) = z 6 from rfl, z_add, z_iN (a := 6 + s.a.n 5) (by omega) (by omega)]
  refine m_own A1 O H1 (fun g2 o f2 A2 ho H2 => ?_)
  refine ⟨z_in (by omega) (by omega) (by omega), ?_⟩
  rintro _ rfl
  have A3 : LnS h (sI g2 19 (6 + s.a.n 5).toNat (z (o))) T L s _ := A2.row (r := 5) (c := 0) O (by omega) (by decide) (by omega)
  have H3 : Hm (sI g2 19 (6 + s.a.n 5).toNat (z (o))) T L r0 _ := H2.row (r := 5) (c := 0) (by omega) (by decide)
  have w_0 : gI (sI g2 19 (6 + s.a.n 5).toNat (z (o))) 19 (6 + s.a.n 5).toNat = z (o) := gI_in rfl rfl
  generalize hg3 : sI g2 19 (6 + s.a.n 5).toNat (z (o)) = g3 at *
  refine m_plc A3 O H3 (fun g4 x f4 A4 hx H4 => ?_)
  replace w_0 := (f4 19 _ (by omega)).1.trans w_0
  refine ⟨z_in (by omega) (by omega) (by omega), ?_⟩
  rintro _ rfl
  have A5 : LnS h (sI g4 20 (6 + s.a.n 5).toNat (z (x))) T L s _ := A4.row (r := 5) (c := 1) O (by omega) (by decide) (by omega)
  have H5 : Hm (sI g4 20 (6 + s.a.n 5).toNat (z (x))) T L r0 _ := H4.row (r := 5) (c := 1) (by omega) (by decide)
  replace w_0 : gI (sI g4 20 (6 + s.a.n 5).toNat (z (x))) 19 (6 + s.a.n 5).toNat = z (o) := (gI_out (by omega)).trans w_0
  have w_1 : gI (sI g4 20 (6 + s.a.n 5).toNat (z (x))) 20 (6 + s.a.n 5).toNat = z (x) := gI_in rfl rfl
  generalize hg5 : sI g4 20 (6 + s.a.n 5).toNat (z (x)) = g5 at *
  refine m_num A5 O (lo := 0) (hi := 47) rfl rfl (by omega) H5 (fun g6 f f6 A6 lf mf H6 => ?_)
  replace w_0 := (f6 19 _ (by omega)).1.trans w_0
  replace w_1 := (f6 20 _ (by omega)).1.trans w_1
  refine ⟨z_in (by omega) (by omega) (by omega), ?_⟩
  rintro _ rfl
  have A7 : LnS h (sI g6 21 (6 + s.a.n 5).toNat (z (f))) T L s _ := A6.row (r := 5) (c := 2) O (by omega) (by decide) (by omega)
  have H7 : Hm (sI g6 21 (6 + s.a.n 5).toNat (z (f))) T L r0 _ := H6.row (r := 5) (c := 2) (by omega) (by decide)
  replace w_0 : gI (sI g6 21 (6 + s.a.n 5).toNat (z (f))) 19 (6 + s.a.n 5).toNat = z (o) := (gI_out (by omega)).trans w_0
  replace w_1 : gI (sI g6 21 (6 + s.a.n 5).toNat (z (f))) 20 (6 + s.a.n 5).toNat = z (x) := (gI_out (by omega)).trans w_1
  have w_2 : gI (sI g6 21 (6 + s.a.n 5).toNat (z (f))) 21 (6 + s.a.n 5).toNat = z (f) := gI_in rfl rfl
  generalize hg7 : sI g6 21 (6 + s.a.n 5).toNat (z (f)) = g7 at *
  refine ⟨z_in (by omega) (by omega) (by omega), ?_⟩
  rw [w_2]
  refine m_num A7 O (lo := f) (hi := 47) rfl rfl (by omega) H7 (fun g8 u f8 A8 lu mu H8 => ?_)
  replace w_0 := (f8 19 _ (by omega)).1.trans w_0
  replace w_1 := (f8 20 _ (by omega)).1.trans w_1
  replace w_2 := (f8 21 _ (by omega)).1.trans w_2
  refine ⟨z_in (by omega) (by omega) (by omega), ?_⟩
  rintro _ rfl
  have A9 : LnS h (sI g8 22 (6 + s.a.n 5).toNat (z (u))) T L s _ := A8.row (r := 5) (c := 3) O (by omega) (by decide) (by omega)
  have H9 : Hm (sI g8 22 (6 + s.a.n 5).toNat (z (u))) T L r0 _ := H8.row (r := 5) (c := 3) (by omega) (by decide)
  replace w_0 : gI (sI g8 22 (6 + s.a.n 5).toNat (z (u))) 19 (6 + s.a.n 5).toNat = z (o) := (gI_out (by omega)).trans w_0
  replace w_1 : gI (sI g8 22 (6 + s.a.n 5).toNat (z (u))) 20 (6 + s.a.n 5).toNat = z (x) := (gI_out (by omega)).trans w_1
  replace w_2 : gI (sI g8 22 (6 + s.a.n 5).toNat (z (u))) 21 (6 + s.a.n 5).toNat = z (f) := (gI_out (by omega)).trans w_2
  have w_3 : gI (sI g8 22 (6 + s.a.n 5).toNat (z (u))) 22 (6 + s.a.n 5).toNat = z (u) := gI_in rfl rfl
  generalize hg9 : sI g8 22 (6 + s.a.n 5).toNat (z (u)) = g9 at *
  refine m_frs (r := 5) A9.2.1 (by omega) rfl ?_
  rw [z_inc]
  refine m_rds (r := 5) (by omega) rfl ?_
  refine m_rowEnd (f := rowf o x f u 0) A9 O (U.keep (w := 6) (by omega) (by omega)) (by omega) (fun c hc => ?_) H9 hq
  have : c = 0 ∨ c = 1 ∨ c = 2 ∨ c = 3 := by
    have : mw 5 = 4 := rfl
    omega
  rcases this with rfl | rfl | rfl | rfl
  · exact w_0
  · exact w_1
  · exact w_2
  · exact w_3
theorem m_l7 {Q : PH → Prop} (S : ScM h T L) (M : MF h s) (O : OkPs s) (U : ToldM (gI h 0 33) s) (e40 : gI h 0 40 = z 0) (hp : 0 ≤ p ∧ p ≤ L) (t : TcM h T L p) (room : s.a.n 6 < 4) (er : r0 = lnTask T L s p) (hq : ∀ g, LnP h g T L r0 → Q g) : w_X10_line_72 Q 7 h := by
  have n0 := (O.1.1 6 (by omega)).1
  have c0 : capT 6 = 4 := rfl
  unfold lnTask at er
  rw [if_pos room] at er
  unfold w_X10_line_72
  rw [e40, if_pos (show z 0 = 0 from rfl)]
  rintro _ rfl
  refine m_preTok S M O t hp e40 er (fun g1 A1 H1 => ?_)
  rw [if_neg (by decide), if_neg (by decide), if_neg (by decide), if_neg (by decide), if_neg (by decide), if_neg (by decide), if_neg (by decide), if_pos rfl]
  refine m_frs (r := 6) A1.2.1 (by omega) rfl ?_
  rintro _ rfl
  rw [show (4 : Int32) = z 4 from rfl, z_add, z_iN (a := 4 + s.a.n 6) (by omega) (by omega)]
  refine m_own A1 O H1 (fun g2 o f2 A2 ho H2 => ?_)
  refine ⟨z_in (by omega) (by omega) (by omega), ?_⟩
  rintro _ rfl
  have A3 : LnS h (sI g2 23 (4 + s.a.n 6).toNat (z (o))) T L s _ := A2.row (r := 6) (c := 0) O (by omega) (by decide) (by omega)
  have H3 : Hm (sI g2 23 (4 + s.a.n 6).toNat (z (o))) T L r0 _ := H2.row (r := 6) (c := 0) (by omega) (by decide)
  have w_0 : gI (sI g2 23 (4 + s.a.n 6).toNat (z (o))) 23 (4 + s.a.n 6).toNat = z (o) := gI_in rfl rfl
  generalize hg3 : sI g2 23 (4 + s.a.n 6).toNat (z (o)) = g3 at *
  refine m_plc A3 O H3 (fun g4 x f4 A4 hx H4 => ?_)
  replace w_0 := (f4 23 _ (by omega)).1.trans w_0
  refine ⟨z_in (by omega) (by omega) (by omega), ?_⟩
  rintro _ rfl
  have A5 : LnS h (sI g4 24 (4 + s.a.n 6).toNat (z (x))) T L s _ := A4.row (r := 6) (c := 1) O (by omega) (by decide) (by omega)
  have H5 : Hm (sI g4 24 (4 + s.a.n 6).toNat (z (x))) T L r0 _ := H4.row (r := 6) (c := 1) (by omega) (by decide)
  replace w_0 : gI (sI g4 24 (4 + s.a.n 6).toNat (z (x))) 23 (4 + s.a.n 6).toNat = z (o) := (gI_out (by omega)).trans w_0
  have w_1 : gI (sI g4 24 (4 + s.a.n 6).toNat (z (x))) 24 (4 + s.a.n 6).toNat = z (x) := gI_in rfl rfl
  generalize hg5 : sI g4 24 (4 + s.a.n 6).toNat (z (x)) = g5 at *
  refine m_num A5 O (lo := 1) (hi := 12) rfl rfl (by omega) H5 (fun g6 d f6 A6 ld md H6 => ?_)
  replace w_0 := (f6 23 _ (by omega)).1.trans w_0
  replace w_1 := (f6 24 _ (by omega)).1.trans w_1
  refine ⟨z_in (by omega) (by omega) (by omega), ?_⟩
  rintro _ rfl
  have A7 : LnS h (sI g6 25 (4 + s.a.n 6).toNat (z (d))) T L s _ := A6.row (r := 6) (c := 2) O (by omega) (by decide) (by omega)
  have H7 : Hm (sI g6 25 (4 + s.a.n 6).toNat (z (d))) T L r0 _ := H6.row (r := 6) (c := 2) (by omega) (by decide)
  replace w_0 : gI (sI g6 25 (4 + s.a.n 6).toNat (z (d))) 23 (4 + s.a.n 6).toNat = z (o) := (gI_out (by omega)).trans w_0
  replace w_1 : gI (sI g6 25 (4 + s.a.n 6).toNat (z (d))) 24 (4 + s.a.n 6).toNat = z (x) := (gI_out (by omega)).trans w_1
  have w_2 : gI (sI g6 25 (4 + s.a.n 6).toNat (z (d))) 25 (4 + s.a.n 6).toNat = z (d) := gI_in rfl rfl
  generalize hg7 : sI g6 25 (4 + s.a.n 6).toNat (z (d)) = g7 at *
  refine m_num A7 O (lo := 1) (hi := 20) rfl rfl (by omega) H7 (fun g8 l f8 A8 ll ml H8 => ?_)
  replace w_0 := (f8 23 _ (by omega)).1.trans w_0
  replace w_1 := (f8 24 _ (by omega)).1.trans w_1
  replace w_2 := (f8 25 _ (by omega)).1.trans w_2
  refine ⟨z_in (by omega) (by omega) (by omega), ?_⟩
  rintro _ rfl
  have A9 : LnS h (sI g8 26 (4 + s.a.n 6).toNat (z (l))) T L s _ := A8.row (r := 6) (c := 3) O (by omega) (by decide) (by omega)
  have H9 : Hm (sI g8 26 (4 + s.a.n 6).toNat (z (l))) T L r0 _ := H8.row (r := 6) (c := 3) (by omega) (by decide)
  replace w_0 : gI (sI g8 26 (4 + s.a.n 6).toNat (z (l))) 23 (4 + s.a.n 6).toNat = z (o) := (gI_out (by omega)).trans w_0
  replace w_1 : gI (sI g8 26 (4 + s.a.n 6).toNat (z (l))) 24 (4 + s.a.n 6).toNat = z (x) := (gI_out (by omega)).trans w_1
  replace w_2 : gI (sI g8 26 (4 + s.a.n 6).toNat (z (l))) 25 (4 + s.a.n 6).toNat = z (d) := (gI_out (by omega)).trans w_2
  have w_3 : gI (sI g8 26 (4 + s.a.n 6).toNat (z (l))) 26 (4 + s.a.n 6).toNat = z (l) := gI_in rfl rfl
  generalize hg9 : sI g8 26 (4 + s.a.n 6).toNat (z (l)) = g9 at *
  refine m_frs (r := 6) A9.2.1 (by omega) rfl ?_
  rw [z_inc]
  refine m_rds (r := 6) (by omega) rfl ?_
  refine m_rowEnd (f := rowf o x d l 0) A9 O (U.keep (w := 7) (by omega) (by omega)) (by omega) (fun c hc => ?_) H9 hq
  have : c = 0 ∨ c = 1 ∨ c = 2 ∨ c = 3 := by
    have : mw 6 = 4 := rfl
    omega
  rcases this with rfl | rfl | rfl | rfl
  · exact w_0
  · exact w_1
  · exact w_2
  · exact w_3
theorem m_l4 {Q : PH → Prop} (S : ScM h T L) (M : MF h s) (O : OkPs s) (U : ToldM (gI h 0 33) s) (e40 : gI h 0 40 = z 0) (hp : 0 ≤ p ∧ p ≤ L) (t : TcM h T L p) (room : s.a.n 3 < 8) (er : r0 = lnNoise T L s p) (hq : ∀ g, LnP h g T L r0 → Q g) : w_X10_line_72 Q 4 h := by
  have n0 := (O.1.1 3 (by omega)).1
  have c0 : capT 3 = 8 := rfl
  unfold lnNoise at er
  rw [if_pos room] at er
  unfold w_X10_line_72
  rw [e40, if_pos (show z 0 = 0 from rfl)]
  rintro _ rfl
  refine m_preTok S M O t hp e40 er (fun g1 A1 H1 => ?_)
  rw [if_neg (by decide), if_neg (by decide), if_neg (by decide), if_neg (by decide), if_pos rfl]
  refine m_frs (r := 3) A1.2.1 (by omega) rfl ?_
  unfold w_X10_noiseLine
  rw [show (8 : Int32) = z 8 from rfl, z_add, z_iN (a := 8 + s.a.n 3) (by omega) (by omega)]
  refine m_plc A1 O H1 (fun g2 x f2 A2 hx H2 => ?_)
  refine ⟨z_in (by omega) (by omega) (by omega), ?_⟩
  rintro _ rfl
  have A3 : LnS h (sI g2 10 (8 + s.a.n 3).toNat (z (x))) T L s _ := A2.row (r := 3) (c := 0) O (by omega) (by decide) (by omega)
  have H3 : Hm (sI g2 10 (8 + s.a.n 3).toNat (z (x))) T L r0 _ := H2.row (r := 3) (c := 0) (by omega) (by decide)
  have w_0 : gI (sI g2 10 (8 + s.a.n 3).toNat (z (x))) 10 (8 + s.a.n 3).toNat = z (x) := gI_in rfl rfl
  generalize hg3 : sI g2 10 (8 + s.a.n 3).toNat (z (x)) = g3 at *
  refine m_own A3 O H3 (fun g4 o f4 A4 ho H4 => ?_)
  replace w_0 := (f4 10 _ (by omega)).1.trans w_0
  refine ⟨z_in (by omega) (by omega) (by omega), ?_⟩
  rintro _ rfl
  have A5 : LnS h (sI g4 11 (8 + s.a.n 3).toNat (z (o))) T L s _ := A4.row (r := 3) (c := 1) O (by omega) (by decide) (by omega)
  have H5 : Hm (sI g4 11 (8 + s.a.n 3).toNat (z (o))) T L r0 _ := H4.row (r := 3) (c := 1) (by omega) (by decide)
  replace w_0 : gI (sI g4 11 (8 + s.a.n 3).toNat (z (o))) 10 (8 + s.a.n 3).toNat = z (x) := (gI_out (by omega)).trans w_0
  have w_1 : gI (sI g4 11 (8 + s.a.n 3).toNat (z (o))) 11 (8 + s.a.n 3).toNat = z (o) := gI_in rfl rfl
  generalize hg5 : sI g4 11 (8 + s.a.n 3).toNat (z (o)) = g5 at *
  refine m_num A5 O (lo := 0) (hi := 47) rfl rfl (by omega) H5 (fun g6 f f6 A6 lf mf H6 => ?_)
  replace w_0 := (f6 10 _ (by omega)).1.trans w_0
  replace w_1 := (f6 11 _ (by omega)).1.trans w_1
  refine ⟨z_in (by omega) (by omega) (by omega), ?_⟩
  rintro _ rfl
  have A7 : LnS h (sI g6 12 (8 + s.a.n 3).toNat (z (f))) T L s _ := A6.row (r := 3) (c := 2) O (by omega) (by decide) (by omega)
  have H7 : Hm (sI g6 12 (8 + s.a.n 3).toNat (z (f))) T L r0 _ := H6.row (r := 3) (c := 2) (by omega) (by decide)
  replace w_0 : gI (sI g6 12 (8 + s.a.n 3).toNat (z (f))) 10 (8 + s.a.n 3).toNat = z (x) := (gI_out (by omega)).trans w_0
  replace w_1 : gI (sI g6 12 (8 + s.a.n 3).toNat (z (f))) 11 (8 + s.a.n 3).toNat = z (o) := (gI_out (by omega)).trans w_1
  have w_2 : gI (sI g6 12 (8 + s.a.n 3).toNat (z (f))) 12 (8 + s.a.n 3).toNat = z (f) := gI_in rfl rfl
  generalize hg7 : sI g6 12 (8 + s.a.n 3).toNat (z (f)) = g7 at *
  refine ⟨z_in (by omega) (by omega) (by omega), ?_⟩
  rw [w_2]
  refine m_num A7 O (lo := f) (hi := 47) rfl rfl (by omega) H7 (fun g8 u f8 A8 lu mu H8 => ?_)
  replace w_0 := (f8 10 _ (by omega)).1.trans w_0
  replace w_1 := (f8 11 _ (by omega)).1.trans w_1
  replace w_2 := (f8 12 _ (by omega)).1.trans w_2
  refine ⟨z_in (by omega) (by omega) (by omega), ?_⟩
  rintro _ rfl
  have A9 : LnS h (sI g8 13 (8 + s.a.n 3).toNat (z (u))) T L s _ := A8.row (r := 3) (c := 3) O (by omega) (by decide) (by omega)
  have H9 : Hm (sI g8 13 (8 + s.a.n 3).toNat (z (u))) T L r0 _ := H8.row (r := 3) (c := 3) (by omega) (by decide)
  replace w_0 : gI (sI g8 13 (8 + s.a.n 3).toNat (z (u))) 10 (8 + s.a.n 3).toNat = z (x) := (gI_out (by omega)).trans w_0
  replace w_1 : gI (sI g8 13 (8 + s.a.n 3).toNat (z (u))) 11 (8 + s.a.n 3).toNat = z (o) := (gI_out (by omega)).trans w_1
  replace w_2 : gI (sI g8 13 (8 + s.a.n 3).toNat (z (u))) 12 (8 + s.a.n 3).toNat = z (f) := (gI_out (by omega)).trans w_2
  have w_3 : gI (sI g8 13 (8 + s.a.n 3).toNat (z (u))) 13 (8 + s.a.n 3).toNat = z (u) := gI_in rfl rfl
  generalize hg9 : sI g8 13 (8 + s.a.n 3).toNat (z (u)) = g9 at *
  refine m_num A9 O (lo := 1) (hi := 20) rfl rfl (by omega) H9 (fun g10 l f10 A10 ll ml H10 => ?_)
  replace w_0 := (f10 10 _ (by omega)).1.trans w_0
  replace w_1 := (f10 11 _ (by omega)).1.trans w_1
  replace w_2 := (f10 12 _ (by omega)).1.trans w_2
  replace w_3 := (f10 13 _ (by omega)).1.trans w_3
  refine ⟨z_in (by omega) (by omega) (by omega), ?_⟩
  rintro _ rfl
  have A11 : LnS h (sI g10 14 (8 + s.a.n 3).toNat (z (l))) T L s _ := A10.row (r := 3) (c := 4) O (by omega) (by decide) (by omega)
  have H11 : Hm (sI g10 14 (8 + s.a.n 3).toNat (z (l))) T L r0 _ := H10.row (r := 3) (c := 4) (by omega) (by decide)
  replace w_0 : gI (sI g10 14 (8 + s.a.n 3).toNat (z (l))) 10 (8 + s.a.n 3).toNat = z (x) := (gI_out (by omega)).trans w_0
  replace w_1 : gI (sI g10 14 (8 + s.a.n 3).toNat (z (l))) 11 (8 + s.a.n 3).toNat = z (o) := (gI_out (by omega)).trans w_1
  replace w_2 : gI (sI g10 14 (8 + s.a.n 3).toNat (z (l))) 12 (8 + s.a.n 3).toNat = z (f) := (gI_out (by omega)).trans w_2
  replace w_3 : gI (sI g10 14 (8 + s.a.n 3).toNat (z (l))) 13 (8 + s.a.n 3).toNat = z (u) := (gI_out (by omega)).trans w_3
  have w_4 : gI (sI g10 14 (8 + s.a.n 3).toNat (z (l))) 14 (8 + s.a.n 3).toNat = z (l) := gI_in rfl rfl
  generalize hg11 : sI g10 14 (8 + s.a.n 3).toNat (z (l)) = g11 at *
  refine m_frs (r := 3) A11.2.1 (by omega) rfl ?_
  rw [z_inc]
  refine m_rds (r := 3) (by omega) rfl ?_
  refine m_rowEnd (f := rowf x o f u l) A11 O (U.keep (w := 4) (by omega) (by omega)) (by omega) (fun c hc => ?_) H11 hq
  have : c = 0 ∨ c = 1 ∨ c = 2 ∨ c = 3 ∨ c = 4 := by
    have : mw 3 = 5 := rfl
    omega
  rcases this with rfl | rfl | rfl | rfl | rfl
  · exact w_0
  · exact w_1
  · exact w_2
  · exact w_3
  · exact w_4
theorem m_l0 {Q : PH → Prop} (S : ScM h T L) (M : MF h s) (O : OkPs s) (U : ToldM (gI h 0 33) s) (e40 : gI h 0 40 = z 0) (hp : 0 ≤ p ∧ p ≤ L) (t : TcM h T L p) (room : s.a.n 0 < 6) (er : r0 = lnPlace T L s p) (hq : ∀ g, LnP h g T L r0 → Q g) : w_X10_line_72 Q 0 h := by
  have n0 := (O.1.1 0 (by omega)).1
  have c0 : capT 0 = 6 := rfl
  unfold lnPlace at er
  rw [if_pos room] at er
  unfold w_X10_line_72
  rw [e40, if_pos (show z 0 = 0 from rfl)]
  rintro _ rfl
  refine m_preTok S M O t hp e40 er (fun g1 A1 H1 => ?_)
  rw [if_pos rfl]
  refine m_frs (r := 0) A1.2.1 (by omega) rfl ?_
  rintro _ rfl
  rw [show (6 : Int32) = z 6 from rfl, z_add, z_iN (a := 6 + s.a.n 0) (by omega) (by omega)]
  refine m_frs (r := 0) A1.2.1 (by omega) rfl ?_
  refine m_fresh A1.1 (by decide) (nm_pl A1.2.1 O) rfl rfl H1 (fun g2 x f2 H2 => ?_)
  have A2 := A1.ms O f2
  refine ⟨z_in (by omega) (by omega) (by omega), ?_⟩
  rintro _ rfl
  have A3 : LnS h (sI g2 3 (6 + s.a.n 0).toNat (z (x))) T L s _ := A2.row (r := 0) (c := 0) O (by omega) (by decide) (by omega)
  have H3 : Hm (sI g2 3 (6 + s.a.n 0).toNat (z (x))) T L r0 _ := H2.row (r := 0) (c := 0) (by omega) (by decide)
  have w_0 : gI (sI g2 3 (6 + s.a.n 0).toNat (z (x))) 3 (6 + s.a.n 0).toNat = z (x) := gI_in rfl rfl
  generalize hg3 : sI g2 3 (6 + s.a.n 0).toNat (z (x)) = g3 at *
  rw [zn_0]
  refine ⟨z_in (by omega) (by omega) (by omega), ?_⟩
  rintro _ rfl
  have A4 : LnS h (sI g3 27 (6 + s.a.n 0).toNat (z (0))) T L s _ := A3.row (r := 0) (c := 1) O (by omega) (by decide) (by omega)
  have H4 : Hm (sI g3 27 (6 + s.a.n 0).toNat (z (0))) T L r0 _ := H3.row (r := 0) (c := 1) (by omega) (by decide)
  replace w_0 : gI (sI g3 27 (6 + s.a.n 0).toNat (z (0))) 3 (6 + s.a.n 0).toNat = z (x) := (gI_out (by omega)).trans w_0
  have w_1 : gI (sI g3 27 (6 + s.a.n 0).toNat (z (0))) 27 (6 + s.a.n 0).toNat = z (0) := gI_in rfl rfl
  generalize hg4 : sI g3 27 (6 + s.a.n 0).toNat (z (0)) = g4 at *
  refine m_frs (r := 0) A4.2.1 (by omega) rfl ?_
  rw [z_inc]
  refine m_rds (r := 0) (by omega) rfl ?_
  refine m_rowEnd (f := rowf x 0 0 0 0) A4 O (U.keep (w := 0) (by omega) (by omega)) (by omega) (fun c hc => ?_) H4 hq
  have : c = 0 ∨ c = 1 := by
    have : mw 0 = 2 := rfl
    omega
  rcases this with rfl | rfl
  · exact w_0
  · exact w_1
theorem m_l2 {Q : PH → Prop} (S : ScM h T L) (M : MF h s) (O : OkPs s) (U : ToldM (gI h 0 33) s) (e40 : gI h 0 40 = z 0) (hp : 0 ≤ p ∧ p ≤ L) (t : TcM h T L p) (room : s.a.n 2 < 4) (er : r0 = lnOwner T L s p) (hq : ∀ g, LnP h g T L r0 → Q g) : w_X10_line_72 Q 2 h := by
  have n0 := (O.1.1 2 (by omega)).1
  have c0 : capT 2 = 4 := rfl
  unfold lnOwner at er
  rw [if_pos room] at er
  unfold w_X10_line_72
  rw [e40, if_pos (show z 0 = 0 from rfl)]
  rintro _ rfl
  refine m_preTok S M O t hp e40 er (fun g1 A1 H1 => ?_)
  rw [if_neg (by decide), if_neg (by decide), if_pos rfl]
  refine m_frs (r := 2) A1.2.1 (by omega) rfl ?_
  rintro _ rfl
  rw [show (4 : Int32) = z 4 from rfl, z_add, z_iN (a := 4 + s.a.n 2) (by omega) (by omega)]
  refine m_frs (r := 2) A1.2.1 (by omega) rfl ?_
  refine m_fresh A1.1 (by decide) (nm_ow A1.2.1 O) rfl rfl H1 (fun g2 x f2 H2 => ?_)
  have A2 := A1.ms O f2
  refine ⟨z_in (by omega) (by omega) (by omega), ?_⟩
  rintro _ rfl
  have A3 : LnS h (sI g2 7 (4 + s.a.n 2).toNat (z (x))) T L s _ := A2.row (r := 2) (c := 0) O (by omega) (by decide) (by omega)
  have H3 : Hm (sI g2 7 (4 + s.a.n 2).toNat (z (x))) T L r0 _ := H2.row (r := 2) (c := 0) (by omega) (by decide)
  have w_0 : gI (sI g2 7 (4 + s.a.n 2).toNat (z (x))) 7 (4 + s.a.n 2).toNat = z (x) := gI_in rfl rfl
  generalize hg3 : sI g2 7 (4 + s.a.n 2).toNat (z (x)) = g3 at *
  refine m_num A3 O (lo := 0) (hi := 999) rfl rfl (by omega) H3 (fun g4 c f4 A4 lc mc H4 => ?_)
  replace w_0 := (f4 7 _ (by omega)).1.trans w_0
  refine ⟨z_in (by omega) (by omega) (by omega), ?_⟩
  rintro _ rfl
  have A5 : LnS h (sI g4 8 (4 + s.a.n 2).toNat (z (c))) T L s _ := A4.row (r := 2) (c := 1) O (by omega) (by decide) (by omega)
  have H5 : Hm (sI g4 8 (4 + s.a.n 2).toNat (z (c))) T L r0 _ := H4.row (r := 2) (c := 1) (by omega) (by decide)
  replace w_0 : gI (sI g4 8 (4 + s.a.n 2).toNat (z (c))) 7 (4 + s.a.n 2).toNat = z (x) := (gI_out (by omega)).trans w_0
  have w_1 : gI (sI g4 8 (4 + s.a.n 2).toNat (z (c))) 8 (4 + s.a.n 2).toNat = z (c) := gI_in rfl rfl
  generalize hg5 : sI g4 8 (4 + s.a.n 2).toNat (z (c)) = g5 at *
  rw [zn_0]
  refine ⟨z_in (by omega) (by omega) (by omega), ?_⟩
  rintro _ rfl
  have A6 : LnS h (sI g5 9 (4 + s.a.n 2).toNat (z (0))) T L s _ := A5.row (r := 2) (c := 2) O (by omega) (by decide) (by omega)
  have H6 : Hm (sI g5 9 (4 + s.a.n 2).toNat (z (0))) T L r0 _ := H5.row (r := 2) (c := 2) (by omega) (by decide)
  replace w_0 : gI (sI g5 9 (4 + s.a.n 2).toNat (z (0))) 7 (4 + s.a.n 2).toNat = z (x) := (gI_out (by omega)).trans w_0
  replace w_1 : gI (sI g5 9 (4 + s.a.n 2).toNat (z (0))) 8 (4 + s.a.n 2).toNat = z (c) := (gI_out (by omega)).trans w_1
  have w_2 : gI (sI g5 9 (4 + s.a.n 2).toNat (z (0))) 9 (4 + s.a.n 2).toNat = z (0) := gI_in rfl rfl
  generalize hg6 : sI g5 9 (4 + s.a.n 2).toNat (z (0)) = g6 at *
  refine m_frs (r := 2) A6.2.1 (by omega) rfl ?_
  rw [z_inc]
  refine m_rds (r := 2) (by omega) rfl ?_
  refine m_rowEnd (f := rowf x c (-1) 0 0) A6 O (U.keep (w := 2) (by omega) (by omega)) (by omega) (fun c hc => ?_) H6 hq
  have : c = 0 ∨ c = 1 ∨ c = 2 := by
    have : mw 2 = 3 := rfl
    omega
  rcases this with rfl | rfl | rfl
  · exact w_0
  · exact w_1
  · exact w_2
end MLN
