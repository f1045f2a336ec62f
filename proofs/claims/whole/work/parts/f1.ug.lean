/-! ===== the reference's reader: links, heirs, dogs, what is told once ===== -/
section MLN2
variable {h : PH} {T : Int → Int} {L p : Int} {s : PS} {r0 : PR}
theorem m_lnF {Q : PH → Prop} {h0 g : PH} {tv : Int32} (A : LnS h0 g T L s tv) (O : OkPs s) (F : FtF g r0) (hq : ∀ g, LnP h0 g T L r0 → Q g) : w_X10_line_671 Q g := by
  refine m_671 (s' := s) A.1 (Or.inl F) (fun g2 f x => ?_)
  refine hq g2 ⟨A.2.2.1.tr (fun c k hc => f c k (fun x => hc (Or.inl ⟨x.1, by omega⟩))), A.1.at' (fun c k hc => f c k (by omega)), Or.inl ?_⟩
  rcases x with x | ⟨e, q, a, b, c, d⟩
  · exact x
  · exfalso
    obtain ⟨k, u, k1, k2, k3, k4⟩ := F
    rw [k4] at c
    cases c
theorem m_l1 {Q : PH → Prop} (S : ScM h T L) (M : MF h s) (O : OkPs s) (U : ToldM (gI h 0 33) s) (e40 : gI h 0 40 = z 0) (hp : 0 ≤ p ∧ p ≤ L) (t : TcM h T L p) (room : s.a.n 1 < 9) (er : r0 = lnLink T L s p) (hq : ∀ g, LnP h g T L r0 → Q g) : w_X10_line_72 Q 1 h := by
  have n0 := (O.1.1 1 (by omega)).1
  have c0 : capT 1 = 9 := rfl
  have rows := (O.1.1 1 (by omega)).2
  have np := (O.1.1 0 (by omega)).1
  have cp : capT 0 = 6 := rfl
  unfold lnLink at er
  rw [if_pos room] at er
  unfold w_X10_line_72
  rw [e40, if_pos (show z 0 = 0 from rfl)]
  rintro _ rfl
  refine m_preTok S M O t hp e40 er (fun g1 A1 H1 => ?_)
  rw [if_neg (by decide), if_pos rfl]
  refine m_frs (r := 1) A1.2.1 (by omega) rfl ?_
  rw [show (9 : Int32) = z 9 from rfl, z_add]
  unfold w_X10_linkLine
  refine m_plc A1 O H1 (fun g2 x f2 A2 hx H2 => ?_)
  refine m_plcAt A2 O H2 (fun g3 y f3 A3 hy H3 hyl => ?_)
  -- what comes behind the two places
  have tail : ∀ g B, LnS h g T L s B → B = (gI h 0 33 ||| ((1 : Int32) <<< ((1 : Int32) &&& 31))) → Hm g T L r0 (fun p2 => pNum T L 1 9 (fun l p3 => pEnd T L (s.wd (adR s.a 1 (rowf x y l 0 0))) (tE T L p3)) (tE T L p2)) → w_X10_linkLine_99 (fun h29 => w_X10_line_671 Q h29) (z (9 + s.a.n 1)) (z x) (z y) g := fun g B A eB H => by
    unfold w_X10_linkLine_99
    refine m_goOn A.1 H (fun g4 f4 H4 => ?_)
    have A4 := A.ms O f4
    rw [z_iN (a := 9 + s.a.n 1) (by omega) (by omega)]
    refine ⟨z_in (by omega) (by omega) (by omega), ?_⟩
    rintro _ rfl
    have A5 : LnS h (sI g4 4 (9 + s.a.n 1).toNat (z x)) T L s _ := A4.row (r := 1) (c := 0) O (by omega) (by decide) (by omega)
    have H5 : Hm (sI g4 4 (9 + s.a.n 1).toNat (z x)) T L r0 _ := H4.row (r := 1) (c := 0) (by omega) (by decide)
    have w_0 : gI (sI g4 4 (9 + s.a.n 1).toNat (z x)) 4 (9 + s.a.n 1).toNat = z x := gI_in rfl rfl
    generalize sI g4 4 (9 + s.a.n 1).toNat (z x) = g5 at *
    refine ⟨z_in (by omega) (by omega) (by omega), ?_⟩
    rintro _ rfl
    have A6 : LnS h (sI g5 5 (9 + s.a.n 1).toNat (z y)) T L s _ := A5.row (r := 1) (c := 1) O (by omega) (by decide) (by omega)
    have H6 : Hm (sI g5 5 (9 + s.a.n 1).toNat (z y)) T L r0 _ := H5.row (r := 1) (c := 1) (by omega) (by decide)
    replace w_0 : gI (sI g5 5 (9 + s.a.n 1).toNat (z y)) 4 (9 + s.a.n 1).toNat = z x := (gI_out (by omega)).trans w_0
    have w_1 : gI (sI g5 5 (9 + s.a.n 1).toNat (z y)) 5 (9 + s.a.n 1).toNat = z y := gI_in rfl rfl
    generalize sI g5 5 (9 + s.a.n 1).toNat (z y) = g6 at *
    refine m_num A6 O (lo := 1) (hi := 9) rfl rfl (by omega) H6 (fun g7 l f7 A7 l1 l2 H7 => ?_)
    replace w_0 := (f7 4 _ (by omega)).1.trans w_0
    replace w_1 := (f7 5 _ (by omega)).1.trans w_1
    refine ⟨z_in (by omega) (by omega) (by omega), ?_⟩
    rintro _ rfl
    have A8 : LnS h (sI g7 6 (9 + s.a.n 1).toNat (z l)) T L s _ := A7.row (r := 1) (c := 2) O (by omega) (by decide) (by omega)
    have H8 : Hm (sI g7 6 (9 + s.a.n 1).toNat (z l)) T L r0 _ := H7.row (r := 1) (c := 2) (by omega) (by decide)
    replace w_0 : gI (sI g7 6 (9 + s.a.n 1).toNat (z l)) 4 (9 + s.a.n 1).toNat = z x := (gI_out (by omega)).trans w_0
    replace w_1 : gI (sI g7 6 (9 + s.a.n 1).toNat (z l)) 5 (9 + s.a.n 1).toNat = z y := (gI_out (by omega)).trans w_1
    have w_2 : gI (sI g7 6 (9 + s.a.n 1).toNat (z l)) 6 (9 + s.a.n 1).toNat = z l := gI_in rfl rfl
    generalize sI g7 6 (9 + s.a.n 1).toNat (z l) = g8 at *
    refine m_frs (r := 1) A8.2.1 (by omega) rfl ?_
    rw [z_inc]
    refine m_rds (r := 1) (by omega) rfl ?_
    refine m_rowEnd (f := rowf x y l 0 0) A8 O (by rw [eB]; exact U.keep (w := 1) (by omega) (by omega)) (by omega) (fun c hc => ?_) H8 hq
    have : c = 0 ∨ c = 1 ∨ c = 2 := by
      have : mw 1 = 3 := rfl
      omega
    rcases this with rfl | rfl | rfl
    · exact w_0
    · exact w_1
    · exact w_2
  have tailF : ∀ g B, LnS h g T L s B → B = (gI h 0 33 ||| ((1 : Int32) <<< ((1 : Int32) &&& 31))) → FtF g r0 → w_X10_linkLine_99 (fun h29 => w_X10_line_671 Q h29) (z (9 + s.a.n 1)) (z x) (z y) g := fun g B A eB F => tail g B A eB (Or.inl F)
  have exF : ∀ g B, LnS h g T L s B → B = (gI h 0 33 ||| ((1 : Int32) <<< ((1 : Int32) &&& 31))) → FtF g r0 → w_X10_linkLine_82 (fun h29 => w_X10_line_671 Q h29) (z (9 + s.a.n 1)) (z x) (z y) g := fun g B A eB F => by
    unfold w_X10_linkLine_82
    rw [if_neg F.ne]
    exact tailF g B A eB F
  have lk : ∀ k : Int, 0 ≤ k → k < s.a.n 1 → gI g3 4 (9 + k).toNat = z (s.a.f 1 0 k) ∧ gI g3 5 (9 + k).toNat = z (s.a.f 1 1 k) ∧ (0 ≤ s.a.f 1 0 k ∧ s.a.f 1 0 k < 6) ∧ (0 ≤ s.a.f 1 1 k ∧ s.a.f 1 1 k < 6) ∧ s.a.f 1 0 k ≠ s.a.f 1 1 k := fun k k0 k1 => by
    have b := rows k k0 k1
    unfold OkRw at b
    rw [if_neg (by decide), if_pos rfl] at b
    have b1 := b.1
    have b2 := b.2.1
    replace b1 : 0 ≤ s.a.f 1 0 k ∧ s.a.f 1 0 k < s.a.n 0 := b1
    replace b2 : 0 ≤ s.a.f 1 1 k ∧ s.a.f 1 1 k < s.a.n 0 := b2
    exact ⟨A3.2.1.2.2.1 1 0 (by omega) (by decide) k k0 k1, A3.2.1.2.2.1 1 1 (by omega) (by decide) k k0 k1, by omega, by omega, b.2.2.1⟩
  rcases H3 with F | ⟨e, p2, hp2, t3, er3⟩
  · refine for10 (9 + s.a.n 1) (fun i g => g = g3) 9 rfl (by omega) (by omega) (by omega) rfl ?_ ?_
    · rintro kb i g i0 i1 rfl hn
      unfold w_X10_linkLine_14
      rw [if_neg (by rw [z_le (by omega) (by omega) (by omega) (by omega)]; omega), if_neg F.ne]
      exact exF g _ A3 rfl F
    · rintro kb g rfl
      unfold w_X10_linkLine_14
      rw [if_pos (by rw [z_le (by omega) (by omega) (by omega) (by omega)]; omega)]
      exact exF g _ A3 rfl F
  · dsimp only at er3
    refine for10 (9 + s.a.n 1) (fun i g => (FtF g r0 ∧ msF g3 g) ∨ (g = g3 ∧ ∀ j : Int, 0 ≤ j → j < i - 9 → ((decide (s.a.f 1 0 j = x) && decide (s.a.f 1 1 j = y)) || (decide (s.a.f 1 0 j = y) && decide (s.a.f 1 1 j = x))) = false)) 9 rfl (by omega) (by omega) (by omega) (Or.inr ⟨rfl, fun j j0 j1 => by omega⟩) ?_ ?_
    · rintro kb i g i0 i1 hJ hn
      unfold w_X10_linkLine_14
      rw [if_neg (by rw [z_le (by omega) (by omega) (by omega) (by omega)]; omega)]
      rcases hJ with ⟨F, f⟩ | ⟨rfl, hJ⟩
      · rw [if_neg F.ne]
        exact exF g _ (A3.ms O f) rfl F
      · obtain ⟨q1, q2, q3, q4, q5⟩ := lk (i - 9) (by omega) (by omega)
        rw [show 9 + (i - 9) = i by omega] at q1 q2
        rw [e, if_pos (show z 0 = 0 from rfl), z_iN (a := i) (by omega) (by omega), q1]
        have hit : ((decide (s.a.f 1 0 (i - 9) = x) && decide (s.a.f 1 1 (i - 9) = y)) || (decide (s.a.f 1 0 (i - 9) = y) && decide (s.a.f 1 1 (i - 9) = x))) = true → x ≠ y → w_X10_linkLine_71 (fun h29 => w_X10_line_671 Q h29) kb (z (9 + s.a.n 1)) (z x) (z y) (z i) g := fun hh hxy => by
          have l1 : lkd s.a x y = true := by
            unfold lkd
            rw [decide_eq_true_eq, ff_ne]
            exact ⟨i - 9, by omega, hh⟩
          rw [if_neg hxy, if_pos l1] at er3
          unfold w_X10_linkLine_71
          refine m_wrongN (k := 3) e t3 rfl (by omega) er3 (fun g' f' F' => ?_)
          rw [z_inc]
          exact hn g' (Or.inl ⟨F', f'⟩)
        have miss : ¬ (s.a.f 1 0 (i - 9) = x ∧ s.a.f 1 1 (i - 9) = y) → ¬ (s.a.f 1 0 (i - 9) = y ∧ s.a.f 1 1 (i - 9) = x) → kb (z i + 1) g := fun m1 m2 => by
          rw [z_inc]
          refine hn g (Or.inr ⟨rfl, fun j j0 j1 => ?_⟩)
          by_cases ej : j = i - 9
          · rw [ej]
            rw [Bool.or_eq_false_iff, Bool.and_eq_false_iff, Bool.and_eq_false_iff, decide_eq_false_iff_not, decide_eq_false_iff_not, decide_eq_false_iff_not, decide_eq_false_iff_not]
            omega
          · exact hJ j j0 (by omega)
        have second : ¬ (s.a.f 1 0 (i - 9) = x ∧ s.a.f 1 1 (i - 9) = y) → w_X10_linkLine_49 (fun h29 => w_X10_line_671 Q h29) kb (z (9 + s.a.n 1)) (z x) (z y) (z i) g := fun m1 => by
          unfold w_X10_linkLine_49
          rw [z_iN (a := i) (by omega) (by omega), q1]
          refine ⟨z_in (by omega) (by omega) (by omega), ?_⟩
          by_cases b1 : s.a.f 1 0 (i - 9) = y
          · rw [if_pos (by rw [b1]), q2]
            refine ⟨z_in (by omega) (by omega) (by omega), ?_⟩
            by_cases b2 : s.a.f 1 1 (i - 9) = x
            · rw [if_pos (by rw [b2])]
              exact hit (by rw [Bool.or_eq_true, Bool.and_eq_true, Bool.and_eq_true, decide_eq_true_eq, decide_eq_true_eq, decide_eq_true_eq, decide_eq_true_eq]; exact Or.inr ⟨b1, b2⟩) (fun w => q5 (by rw [b1, b2, w]))
            · rw [if_neg (z_ne (by omega) (by omega) (by omega) (by omega) b2)]
              exact miss m1 (fun w => b2 w.2)
          · rw [if_neg (z_ne (by omega) (by omega) (by omega) (by omega) b1)]
            exact miss m1 (fun w => b1 w.1)
        refine ⟨z_in (by omega) (by omega) (by omega), ?_⟩
        by_cases a1 : s.a.f 1 0 (i - 9) = x
        · rw [if_pos (by rw [a1]), q2]
          refine ⟨z_in (by omega) (by omega) (by omega), ?_⟩
          by_cases a2 : s.a.f 1 1 (i - 9) = y
          · rw [if_pos (by rw [a2])]
            exact hit (by rw [Bool.or_eq_true, Bool.and_eq_true, Bool.and_eq_true, decide_eq_true_eq, decide_eq_true_eq, decide_eq_true_eq, decide_eq_true_eq]; exact Or.inl ⟨a1, a2⟩) (fun w => q5 (by rw [a1, a2, w]))
          · rw [if_neg (z_ne (by omega) (by omega) (by omega) (by omega) a2)]
            exact second (fun w => a2 w.2)
        · rw [if_neg (z_ne (by omega) (by omega) (by omega) (by omega) a1)]
          exact second (fun w => a1 w.1)
    · rintro kb g hJ
      unfold w_X10_linkLine_14
      rw [if_pos (by rw [z_le (by omega) (by omega) (by omega) (by omega)]; omega)]
      rcases hJ with ⟨F, f⟩ | ⟨rfl, hJ⟩
      · exact exF g _ (A3.ms O f) rfl F
      · have l0 : ¬ lkd s.a x y = true := fun w => by
          unfold lkd at w
          rw [decide_eq_true_eq, ff_ne] at w
          obtain ⟨k, hk, w⟩ := w
          rw [hJ k hk.1 (by omega)] at w
          exact absurd w (by decide)
        show w_X10_linkLine_82 (fun h29 => w_X10_line_671 Q h29) (z (9 + s.a.n 1)) (z x) (z y) g
        unfold w_X10_linkLine_82
        rw [e, if_pos (show z 0 = 0 from rfl)]
        by_cases c : x = y
        · rw [if_pos (by rw [c])]
          rw [if_pos c] at er3
          exact m_wrongN (k := 5) e t3 rfl (by omega) er3 (fun g' f' F' => tailF g' _ (A3.ms O f') rfl F')
        · rw [if_neg (z_ne (by omega) (by omega) (by omega) (by omega) c)]
          rw [if_neg c, if_neg l0] at er3
          exact tail g _ A3 rfl (Or.inr ⟨e, p2, hp2, t3, er3⟩)
theorem m_l3 {Q : PH → Prop} (S : ScM h T L) (M : MF h s) (O : OkPs s) (U : ToldM (gI h 0 33) s) (e40 : gI h 0 40 = z 0) (hp : 0 ≤ p ∧ p ≤ L) (t : TcM h T L p) (er : r0 = lnHeir T L s p) (hq : ∀ g, LnP h g T L r0 → Q g) : w_X10_line_72 Q 3 h := by
  have n0 := (O.1.1 2 (by omega)).1
  have c0 : capT 2 = 4 := rfl
  have rows := (O.1.1 2 (by omega)).2
  unfold lnHeir at er
  unfold w_X10_line_72
  rw [e40, if_pos (show z 0 = 0 from rfl)]
  rintro _ rfl
  refine m_preTok S M O t hp e40 er (fun g1 A1 H1 => ?_)
  rw [if_neg (by decide), if_neg (by decide), if_neg (by decide), if_pos rfl]
  unfold w_X10_heirLine
  refine m_ownAt A1 O H1 (fun g2 x f2 A2 hx H2 hxl => ?_)
  have ex : (4 : Int32) + z x = z (4 + x) := by rw [show (4 : Int32) = z 4 from rfl, z_add]
  -- behind the first owner
  have tail : ∀ g, LnS h g T L s (gI h 0 33 ||| ((1 : Int32) <<< ((3 : Int32) &&& 31))) → Hm g T L r0 (fun p1 => pTold T L s.a 2 (fun v p2 => if x = v then pF T L 5 p2 else pEnd T L (s.wd (upF s.a 2 2 (fun j => if j = x then v else s.a.f 2 2 j))) (tE T L p2)) (tE T L p1)) → w_X10_heirLine_28 (fun h50 => w_X10_line_671 Q h50) (z x) g := fun g A H => by
    unfold w_X10_heirLine_28
    refine m_goOn A.1 H (fun g4 f4 H4 => ?_)
    have A4 := A.ms O f4
    refine m_ownAt A4 O H4 (fun g5 y f5 A5 hy H5 hyl => ?_)
    have fin : ∀ g', msF g5 g' → FtF g' r0 → w_X10_heirLine_54 (fun h50 => w_X10_line_671 Q h50) (z x) (z y) g' := fun g' f' F' => by
      unfold w_X10_heirLine_54
      rw [if_neg F'.ne]
      exact m_lnF (A5.ms O f') O F' hq
    rcases H5 with F | ⟨e, p2, hp2, t5, er5⟩
    · rw [if_neg F.ne]
      exact fin g5 (msF.rf g5) F
    · dsimp only at er5
      rw [e, if_pos (show z 0 = 0 from rfl)]
      by_cases c : x = y
      · rw [if_pos (by rw [c])]
        rw [if_pos c] at er5
        exact m_wrongN (k := 5) e t5 rfl (by omega) er5 (fun g' f' F' => fin g' f' F')
      · rw [if_neg (z_ne (by omega) (by omega) (by omega) (by omega) c)]
        rw [if_neg c] at er5
        unfold w_X10_heirLine_54
        rw [e, if_pos (show z 0 = 0 from rfl), ex, z_iN (a := 4 + x) (by omega) (by omega), z_inc]
        refine ⟨z_in (by omega) (by omega) (by omega), ?_⟩
        rintro _ rfl
        have MU : MF (sI g5 9 (4 + x).toNat (z (y + 1))) (s.wd (upF s.a 2 2 (fun j => if j = x then y else s.a.f 2 2 j))) := A5.2.1.up (r := 2) (c := 2) (k := x) (v := y) (by omega) (by decide) hx.1
        have A6 : LnS h (sI g5 9 (4 + x).toNat (z (y + 1))) T L (s.wd (upF s.a 2 2 (fun j => if j = x then y else s.a.f 2 2 j))) (gI h 0 33 ||| ((1 : Int32) <<< ((3 : Int32) &&& 31))) := ⟨A5.1.at' (fun c k hc => (At.rf g5 c k).sI (by omega)), MU, fun c k hc => (A5.2.2.1 c k hc).sI (fun w => hc (Or.inr ⟨by omega, by omega, by rw [w.1]; show 4 ≤ k; omega⟩)), by rw [gI_out (by omega)]; exact A5.2.2.2.1, by rw [gI_out (by omega)]; exact A5.2.2.2.2⟩
        have t6 : TcM (sI g5 9 (4 + x).toNat (z (y + 1))) T L p2 := t5.at' (fun k _ _ => (At.rf g5 0 k).sI (by omega))
        have e6 : gI (sI g5 9 (4 + x).toNat (z (y + 1))) 0 40 = z 0 := by rw [gI_out (by omega)]; exact e
        clear MU
        generalize sI g5 9 (4 + x).toNat (z (y + 1)) = g6 at *
        refine m_tok A6.1 hp2 t6 (fun g7 f7 n7 t7 => ?_)
        have f7' : msF g6 g7 := fun c k hc => f7 c k (by omega)
        have A7 : LnS h g7 T L (s.wd (upF s.a 2 2 (fun j => if j = x then y else s.a.f 2 2 j))) (gI h 0 33 ||| ((1 : Int32) <<< ((3 : Int32) &&& 31))) := ⟨A6.1.ms f7', A6.2.1.at2 O.2.2.2.2.2 (fun c k n => (f7 c k (fun w => by have := nF_0 n w.1; omega)).1), A6.2.2.1.tr f7'.fz, by rw [(f7 0 33 (by omega)).1]; exact A6.2.2.2.1, by rw [(f7 0 34 (by omega)).1]; exact A6.2.2.2.2⟩
        exact m_lnEnd A7 O.2.2.2.2.2 (U.keep (w := 3) (by omega) (by omega)) (Or.inr ⟨by rw [(f7 0 40 (by omega)).1]; exact e6, _, n7, t7, er5⟩) hq
  rcases H2 with F | ⟨e, p1, hp1, t2, er2⟩
  · rw [if_neg F.ne]
    exact tail g2 A2 (Or.inl F)
  · dsimp only at er2
    have hxn := hxl e
    have b := rows x hx.1 hxn
    unfold OkRw at b
    rw [if_neg (by decide), if_neg (by decide), if_pos rfl] at b
    have b3 := b.2.2
    replace b3 : -1 ≤ s.a.f 2 2 x ∧ s.a.f 2 2 x < s.a.n 2 := b3
    have e9 : gI g2 9 (4 + x).toNat = z (s.a.f 2 2 x + 1) := A2.2.1.2.2.1 2 2 (by omega) (by decide) x hx.1 hxn
    rw [e, if_pos (show z 0 = 0 from rfl), ex, z_iN (a := 4 + x) (by omega) (by omega), e9]
    refine ⟨z_in (by omega) (by omega) (by omega), ?_⟩
    have z0 : (z 0 : Int32) = 0 := rfl
    rw [← z0]
    by_cases c : s.a.f 2 2 x = -1
    · rw [if_pos (by rw [z_le (by omega) (by omega) (by omega) (by omega)]; omega)]
      rw [if_pos c] at er2
      exact tail g2 A2 (Or.inr ⟨e, p1, hp1, t2, er2⟩)
    · rw [if_neg (by rw [z_le (by omega) (by omega) (by omega) (by omega)]; omega)]
      rw [if_neg c] at er2
      exact m_wrongN (k := 3) e t2 rfl (by omega) er2 (fun g' f' F' => tail g' (A2.ms O f') (Or.inl F'))
theorem m_l8 {Q : PH → Prop} (S : ScM h T L) (M : MF h s) (O : OkPs s) (U : ToldM (gI h 0 33) s) (e40 : gI h 0 40 = z 0) (hp : 0 ≤ p ∧ p ≤ L) (t : TcM h T L p) (er : r0 = lnDog T L s p) (hq : ∀ g, LnP h g T L r0 → Q g) : w_X10_line_72 Q 8 h := by
  have n0 := (O.1.1 0 (by omega)).1
  have c0 : capT 0 = 6 := rfl
  have rows := (O.1.1 0 (by omega)).2
  unfold lnDog at er
  unfold w_X10_line_72
  rw [e40, if_pos (show z 0 = 0 from rfl)]
  rintro _ rfl
  refine m_preTok S M O t hp e40 er (fun g1 A1 H1 => ?_)
  rw [if_neg (by decide), if_neg (by decide), if_neg (by decide), if_neg (by decide), if_neg (by decide), if_neg (by decide), if_neg (by decide), if_neg (by decide), if_pos rfl]
  refine m_plcAt A1 O H1 (fun g2 x f2 A2 hx H2 hxl => ?_)
  have ex : (6 : Int32) + z x = z (6 + x) := by rw [show (6 : Int32) = z 6 from rfl, z_add]
  have tail : ∀ g, LnS h g T L s (gI h 0 33 ||| ((1 : Int32) <<< ((8 : Int32) &&& 31))) → Hm g T L r0 (fun p1 => pNum T L 1 20 (fun e p2 => pEnd T L (s.wd (upF s.a 0 1 (fun j => if j = x then e else s.a.f 0 1 j))) (tE T L p2)) (tE T L p1)) → w_X10_line_583 Q (z x) g := fun g A H => by
    unfold w_X10_line_583
    refine m_goOn A.1 H (fun g4 f4 H4 => ?_)
    have A4 := A.ms O f4
    refine m_num A4 O (lo := 1) (hi := 20) rfl rfl (by omega) H4 (fun g5 v f5 A5 v1 v2 H5 => ?_)
    rcases H5 with F | ⟨e, p2, hp2, t5, er5⟩
    · rw [if_neg F.ne]
      exact m_lnF A5 O F hq
    · rw [e, if_pos (show z 0 = 0 from rfl), ex, z_iN (a := 6 + x) (by omega) (by omega)]
      refine ⟨z_in (by omega) (by omega) (by omega), ?_⟩
      rintro _ rfl
      have MU : MF (sI g5 27 (6 + x).toNat (z v)) (s.wd (upF s.a 0 1 (fun j => if j = x then v else s.a.f 0 1 j))) := A5.2.1.up (r := 0) (c := 1) (k := x) (v := v) (by omega) (by decide) hx.1
      have A6 : LnS h (sI g5 27 (6 + x).toNat (z v)) T L (s.wd (upF s.a 0 1 (fun j => if j = x then v else s.a.f 0 1 j))) (gI h 0 33 ||| ((1 : Int32) <<< ((8 : Int32) &&& 31))) := ⟨A5.1.at' (fun c k hc => (At.rf g5 c k).sI (by omega)), MU, fun c k hc => (A5.2.2.1 c k hc).sI (fun w => hc (Or.inr ⟨by omega, by omega, by rw [w.1]; show 6 ≤ k; omega⟩)), by rw [gI_out (by omega)]; exact A5.2.2.2.1, by rw [gI_out (by omega)]; exact A5.2.2.2.2⟩
      exact m_lnEnd A6 O.2.2.2.2.2 (U.keep (w := 8) (by omega) (by omega)) (Or.inr ⟨by rw [gI_out (by omega)]; exact e, p2, hp2, t5.at' (fun k _ _ => (At.rf g5 0 k).sI (by omega)), er5⟩) hq
  rcases H2 with F | ⟨e, p1, hp1, t2, er2⟩
  · rw [if_neg F.ne]
    exact tail g2 A2 (Or.inl F)
  · dsimp only at er2
    have hxn := hxl e
    have b := rows x hx.1 hxn
    unfold OkRw at b
    rw [if_pos rfl] at b
    have b3 := b.2
    replace b3 : 0 ≤ s.a.f 0 1 x ∧ s.a.f 0 1 x ≤ 20 := b3
    have e9 : gI g2 27 (6 + x).toNat = z (s.a.f 0 1 x) := A2.2.1.2.2.1 0 1 (by omega) (by decide) x hx.1 hxn
    rw [e, if_pos (show z 0 = 0 from rfl), ex, z_iN (a := 6 + x) (by omega) (by omega), e9]
    refine ⟨z_in (by omega) (by omega) (by omega), ?_⟩
    have z0 : (z 0 : Int32) = 0 := rfl
    rw [← z0]
    by_cases c : s.a.f 0 1 x ≤ 0
    · rw [if_pos (by rw [z_le (by omega) (by omega) (by omega) (by omega)]; omega)]
      rw [if_pos c] at er2
      exact tail g2 A2 (Or.inr ⟨e, p1, hp1, t2, er2⟩)
    · rw [if_neg (by rw [z_le (by omega) (by omega) (by omega) (by omega)]; omega)]
      rw [if_neg c] at er2
      exact m_wrongN (k := 3) e t2 rfl (by omega) er2 (fun g' f' F' => tail g' (A2.ms O f') (Or.inl F'))
theorem ToldM.once {x : Int32} {w : Int} {i : Nat} {v : Int} (U : ToldM x s) (hw : w = 9 + i) (hi : i < 3) (hv : v ≠ -1) : ToldM (x ||| ((1 : Int32) <<< (z w &&& 31))) (s.put i v) := by
  obtain ⟨⟨u1, u2, u3⟩, u4, u5⟩ := U
  have b : ∀ j : Nat, j < 32 → bt (x ||| ((1 : Int32) <<< (z w &&& 31))) j = (bt x j || decide (j = w.toNat)) := fun j hj => bt_on (by omega) (by omega) hj
  have on : ∀ (j m : Nat), m = 9 + j → j < 3 → (bt x m = true ↔ s.on j ≠ -1) → (bt (x ||| ((1 : Int32) <<< (z w &&& 31))) m = true ↔ (s.put i v).on j ≠ -1) := fun j m em hj u => by
    rw [b m (by omega)]
    show _ ↔ (if j = i then v else s.on j) ≠ -1
    by_cases e : j = i
    · rw [if_pos e, decide_eq_true (by omega), Bool.or_true]
      exact ⟨fun _ => hv, fun _ => rfl⟩
    · rw [if_neg e, decide_eq_false (by omega), Bool.or_false]
      exact u
  refine ⟨⟨on 0 9 rfl (by omega) u1, on 1 10 rfl (by omega) u2, on 2 11 rfl (by omega) u3⟩, ?_, ?_⟩
  · rw [b 16 (by omega), decide_eq_false (by omega), Bool.or_false]; exact u4
  · rw [b 17 (by omega), decide_eq_false (by omega), Bool.or_false]; exact u5
theorem MF.once {g : PH} {i : Nat} {v : Int} (M : MF g s) (hi : i < 3) (hv : 0 ≤ v) : MF (sI g 2 (11 + (7 + i)) (z v)) (s.put i v) := by
  obtain ⟨m1, ⟨m2, m3, m4⟩, m5, ⟨⟨f1, m6⟩, ⟨f2, m7⟩⟩, m8, m9⟩ := M
  refine ⟨fun r hr => by rw [gI_out (by omega)]; exact m1 r hr, ⟨?_, ?_, by rw [gI_out (by omega)]; exact m4⟩, fun r c hr hc k k0 k1 => ?_, ⟨⟨f1, ?_⟩, ⟨f2, ?_⟩⟩, by rw [gI_out (by omega)]; exact m8, by rw [gI_out (by omega)]; exact m9⟩
  · show _ = z (if (if 0 = i then v else s.on 0) = -1 then 5 else (if 0 = i then v else s.on 0))
    by_cases e : i = 0
    · subst e
      rw [if_pos rfl, if_neg (by omega), gI_in rfl rfl]
    · rw [if_neg (fun x : 0 = i => e x.symm), gI_out (by omega)]; exact m2
  · show _ = z (if (if 1 = i then v else s.on 1) = -1 then 1 else (if 1 = i then v else s.on 1))
    by_cases e : i = 1
    · subst e
      rw [if_pos rfl, if_neg (by omega), gI_in rfl rfl]
    · rw [if_neg (fun x : 1 = i => e x.symm), gI_out (by omega)]; exact m3
  · have mr := mc_rg hr hc
    rw [gI_out (by omega)]; exact m5 r c hr hc k k0 k1
  · obtain ⟨k1, k2, k3, k4, k5⟩ := m6
    exact ⟨by rw [gI_out (by omega)]; exact k1, by rw [gI_out (by omega)]; exact k2, k3, k4, fun j hj => ⟨by rw [gI_out (by omega)]; exact (k5 j hj).1, by rw [gI_out (by omega)]; exact (k5 j hj).2⟩⟩
  · obtain ⟨k1, k2, k3, k4, k5⟩ := m7
    exact ⟨by rw [gI_out (by omega)]; exact k1, by rw [gI_out (by omega)]; exact k2, k3, k4, fun j hj => ⟨by rw [gI_out (by omega)]; exact (k5 j hj).1, by rw [gI_out (by omega)]; exact (k5 j hj).2⟩⟩
/-- behind the number that is told once -/
theorem m_onceEnd {Q : PH → Prop} {g : PH} {i : Nat} {v w : Int} (A : LnS h g T L s (gI h 0 33 ||| ((1 : Int32) <<< (z w &&& 31)))) (O : OkPs s) (U : ToldM (gI h 0 33) s) (hw : w = 9 + i) (hi : i < 3) (hv : 0 ≤ v) (H : Hm g T L r0 (pEnd T L (s.put i v))) (hq : ∀ g, LnP h g T L r0 → Q g) : w_X10_line_671 Q (sI g 2 (11 + (7 + i)) (z v)) := by
  refine m_lnEnd (s' := s.put i v) ⟨A.1.at' (fun c k hc => (At.rf g c k).sI (by omega)), A.2.1.once hi hv, fun c k hc => (A.2.2.1 c k hc).sI (fun y => hc (Or.inr ⟨by omega, by omega, by rw [y.1]; show 11 ≤ k; omega⟩)), by rw [gI_out (by omega)]; exact A.2.2.2.1, by rw [gI_out (by omega)]; exact A.2.2.2.2⟩ O.2.2.2.2.2 (U.once hw hi (by omega)) (H.at' (fun k k0 k1 => (At.rf g 0 k).sI (by omega))) hq
theorem m_l9 {Q : PH → Prop} (S : ScM h T L) (M : MF h s) (O : OkPs s) (U : ToldM (gI h 0 33) s) (e40 : gI h 0 40 = z 0) (hp : 0 ≤ p ∧ p ≤ L) (t : TcM h T L p) (hon : s.on 0 = -1) (er : r0 = lnOnce T L s p 0 1 9) (hq : ∀ g, LnP h g T L r0 → Q g) : w_X10_line_72 Q 9 h := by
  unfold lnOnce at er
  rw [if_pos hon] at er
  unfold w_X10_line_72
  rw [e40, if_pos (show z 0 = 0 from rfl)]
  rintro _ rfl
  refine m_preTok S M O t hp e40 er (fun g1 A1 H1 => ?_)
  rw [if_neg (by decide), if_neg (by decide), if_neg (by decide), if_neg (by decide), if_neg (by decide), if_neg (by decide), if_neg (by decide), if_neg (by decide), if_neg (by decide), if_pos rfl]
  refine m_num A1 O (lo := 1) (hi := 9) rfl rfl (by omega) H1 (fun g2 v f2 A2 v1 v2 H2 => ?_)
  refine m_rds (r := 7) (by omega) rfl ?_
  exact m_onceEnd (i := 0) (w := 9) A2 O U rfl (by omega) (by omega) H2 hq
theorem m_l10 {Q : PH → Prop} (S : ScM h T L) (M : MF h s) (O : OkPs s) (U : ToldM (gI h 0 33) s) (e40 : gI h 0 40 = z 0) (hp : 0 ≤ p ∧ p ≤ L) (t : TcM h T L p) (hon : s.on 1 = -1) (er : r0 = lnOnce T L s p 1 0 9) (hq : ∀ g, LnP h g T L r0 → Q g) : w_X10_line_72 Q 10 h := by
  unfold lnOnce at er
  rw [if_pos hon] at er
  unfold w_X10_line_72
  rw [e40, if_pos (show z 0 = 0 from rfl)]
  rintro _ rfl
  refine m_preTok S M O t hp e40 er (fun g1 A1 H1 => ?_)
  rw [if_neg (by decide), if_neg (by decide), if_neg (by decide), if_neg (by decide), if_neg (by decide), if_neg (by decide), if_neg (by decide), if_neg (by decide), if_neg (by decide), if_neg (by decide), if_pos rfl]
  refine m_num A1 O (lo := 0) (hi := 9) rfl rfl (by omega) H1 (fun g2 v f2 A2 v1 v2 H2 => ?_)
  refine m_rds (r := 8) (by omega) rfl ?_
  exact m_onceEnd (i := 1) (w := 10) A2 O U rfl (by omega) (by omega) H2 hq
theorem m_l11 {Q : PH → Prop} (S : ScM h T L) (M : MF h s) (O : OkPs s) (U : ToldM (gI h 0 33) s) (e40 : gI h 0 40 = z 0) (hp : 0 ≤ p ∧ p ≤ L) (t : TcM h T L p) (hon : s.on 2 = -1) (er : r0 = lnOnce T L s p 2 0 99999) (hq : ∀ g, LnP h g T L r0 → Q g) : w_X10_line_72 Q 11 h := by
  unfold lnOnce at er
  rw [if_pos hon] at er
  unfold w_X10_line_72
  rw [e40, if_pos (show z 0 = 0 from rfl)]
  rintro _ rfl
  refine m_preTok S M O t hp e40 er (fun g1 A1 H1 => ?_)
  rw [if_neg (by decide), if_neg (by decide), if_neg (by decide), if_neg (by decide), if_neg (by decide), if_neg (by decide), if_neg (by decide), if_neg (by decide), if_neg (by decide), if_neg (by decide), if_neg (by decide), if_pos rfl]
  refine m_num A1 O (lo := 0) (hi := 99999) rfl rfl (by omega) H1 (fun g2 v f2 A2 v1 v2 H2 => ?_)
  refine m_rds (r := 9) (by omega) rfl ?_
  exact m_onceEnd (i := 2) (w := 11) A2 O U rfl (by omega) (by omega) H2 hq
end MLN2
