/-! ===== the reference's reader: any line ===== -/
section MLINE
variable {h : PH} {T : Int → Int} {L p : Int} {s : PS} {r0 : PR}
theorem m_72F {Q : PH → Prop} {h0 g : PH} {x : Int32} (S : ScM g T L) (f0 : fzF h0 g) (F : FtF g r0) (hq : ∀ g, LnP h0 g T L r0 → Q g) : w_X10_line_72 Q x g := by
  unfold w_X10_line_72
  rw [if_neg F.ne]
  exact hq g ⟨f0, S, Or.inl F⟩
theorem m_w0 {Q : PH → Prop} (hL : L ≤ 700) (S : ScM h T L) (M : MF h s) (O : OkPs s) (U : ToldM (gI h 0 33) s) (e40 : gI h 0 40 = z 0) (hp : 0 ≤ p ∧ p ≤ L) (t : TcM h T L p) (er : r0 = lnPlace T L s p) (hq : ∀ g, LnP h g T L r0 → Q g) : w_X10_isFull 0 h (fun z4 h3 => if z4 = 0 then (if (0 : Int32) < 9 then (w_X10_line_72 Q 0 h3) else (if (11 : Int32) < 0 then (w_X10_line_72 Q 0 h3) else (if ((((gI h3 0 33) : Int32) >>> ((0 : Int32) &&& 31)) &&& 1) = 1 then (w_X10_wrong 3 h3 (fun h150 => w_X10_line_72 Q 0 h150)) else (w_X10_line_72 Q 0 h3)))) else (w_X10_wrong 2 h3 (fun h151 => w_X10_line_72 Q 0 h151))) := by
  unfold w_X10_isFull
  have n0 := (O.1.1 0 (by omega)).1
  have c0 : capT 0 = 6 := rfl
  rw [if_pos rfl]
  refine m_frs (r := 0) M (by omega) rfl ?_
  by_cases c : s.a.n 0 = 6
  · rw [if_pos (by rw [c]; rfl)]
    dsimp only
    rw [if_neg (by decide)]
    unfold lnPlace at er
    rw [if_neg (by omega)] at er
    exact m_wrongN (k := 2) e40 t rfl (by omega) er (fun g f F => m_72F (S.ms f) f.fz F hq)
  · rw [if_neg (show ¬ z (s.a.n 0) = 6 from z_ne (by omega) (by omega) (by decide) (by decide) c)]
    dsimp only
    rw [if_pos rfl, if_pos (by decide)]
    exact m_l0 S M O U e40 hp t (by omega) er hq
theorem m_w1 {Q : PH → Prop} (hL : L ≤ 700) (S : ScM h T L) (M : MF h s) (O : OkPs s) (U : ToldM (gI h 0 33) s) (e40 : gI h 0 40 = z 0) (hp : 0 ≤ p ∧ p ≤ L) (t : TcM h T L p) (er : r0 = lnLink T L s p) (hq : ∀ g, LnP h g T L r0 → Q g) : w_X10_isFull 1 h (fun z4 h3 => if z4 = 0 then (if (1 : Int32) < 9 then (w_X10_line_72 Q 1 h3) else (if (11 : Int32) < 1 then (w_X10_line_72 Q 1 h3) else (if ((((gI h3 0 33) : Int32) >>> ((1 : Int32) &&& 31)) &&& 1) = 1 then (w_X10_wrong 3 h3 (fun h150 => w_X10_line_72 Q 1 h150)) else (w_X10_line_72 Q 1 h3)))) else (w_X10_wrong 2 h3 (fun h151 => w_X10_line_72 Q 1 h151))) := by
  unfold w_X10_isFull
  have n0 := (O.1.1 1 (by omega)).1
  have c0 : capT 1 = 9 := rfl
  rw [if_neg (by decide), if_pos rfl]
  refine m_frs (r := 1) M (by omega) rfl ?_
  by_cases c : s.a.n 1 = 9
  · rw [if_pos (by rw [c]; rfl)]
    dsimp only
    rw [if_neg (by decide)]
    unfold lnLink at er
    rw [if_neg (by omega)] at er
    exact m_wrongN (k := 2) e40 t rfl (by omega) er (fun g f F => m_72F (S.ms f) f.fz F hq)
  · rw [if_neg (show ¬ z (s.a.n 1) = 9 from z_ne (by omega) (by omega) (by decide) (by decide) c)]
    dsimp only
    rw [if_pos rfl, if_pos (by decide)]
    exact m_l1 S M O U e40 hp t (by omega) er hq
theorem m_w2 {Q : PH → Prop} (hL : L ≤ 700) (S : ScM h T L) (M : MF h s) (O : OkPs s) (U : ToldM (gI h 0 33) s) (e40 : gI h 0 40 = z 0) (hp : 0 ≤ p ∧ p ≤ L) (t : TcM h T L p) (er : r0 = lnOwner T L s p) (hq : ∀ g, LnP h g T L r0 → Q g) : w_X10_isFull 2 h (fun z4 h3 => if z4 = 0 then (if (2 : Int32) < 9 then (w_X10_line_72 Q 2 h3) else (if (11 : Int32) < 2 then (w_X10_line_72 Q 2 h3) else (if ((((gI h3 0 33) : Int32) >>> ((2 : Int32) &&& 31)) &&& 1) = 1 then (w_X10_wrong 3 h3 (fun h150 => w_X10_line_72 Q 2 h150)) else (w_X10_line_72 Q 2 h3)))) else (w_X10_wrong 2 h3 (fun h151 => w_X10_line_72 Q 2 h151))) := by
  unfold w_X10_isFull
  have n0 := (O.1.1 2 (by omega)).1
  have c0 : capT 2 = 4 := rfl
  rw [if_neg (by decide), if_neg (by decide), if_pos rfl]
  refine m_frs (r := 2) M (by omega) rfl ?_
  by_cases c : s.a.n 2 = 4
  · rw [if_pos (by rw [c]; rfl)]
    dsimp only
    rw [if_neg (by decide)]
    unfold lnOwner at er
    rw [if_neg (by omega)] at er
    exact m_wrongN (k := 2) e40 t rfl (by omega) er (fun g f F => m_72F (S.ms f) f.fz F hq)
  · rw [if_neg (show ¬ z (s.a.n 2) = 4 from z_ne (by omega) (by omega) (by decide) (by decide) c)]
    dsimp only
    rw [if_pos rfl, if_pos (by decide)]
    exact m_l2 S M O U e40 hp t (by omega) er hq
theorem m_w3 {Q : PH → Prop} (hL : L ≤ 700) (S : ScM h T L) (M : MF h s) (O : OkPs s) (U : ToldM (gI h 0 33) s) (e40 : gI h 0 40 = z 0) (hp : 0 ≤ p ∧ p ≤ L) (t : TcM h T L p) (er : r0 = lnHeir T L s p) (hq : ∀ g, LnP h g T L r0 → Q g) : w_X10_isFull 3 h (fun z4 h3 => if z4 = 0 then (if (3 : Int32) < 9 then (w_X10_line_72 Q 3 h3) else (if (11 : Int32) < 3 then (w_X10_line_72 Q 3 h3) else (if ((((gI h3 0 33) : Int32) >>> ((3 : Int32) &&& 31)) &&& 1) = 1 then (w_X10_wrong 3 h3 (fun h150 => w_X10_line_72 Q 3 h150)) else (w_X10_line_72 Q 3 h3)))) else (w_X10_wrong 2 h3 (fun h151 => w_X10_line_72 Q 3 h151))) := by
  unfold w_X10_isFull
  rw [if_neg (by decide), if_neg (by decide), if_neg (by decide), if_neg (by decide), if_neg (by decide), if_neg (by decide), if_neg (by decide)]
  dsimp only
  rw [if_pos rfl]
  rw [if_pos (by decide)]
  exact m_l3 S M O U e40 hp t er hq
theorem m_w4 {Q : PH → Prop} (hL : L ≤ 700) (S : ScM h T L) (M : MF h s) (O : OkPs s) (U : ToldM (gI h 0 33) s) (e40 : gI h 0 40 = z 0) (hp : 0 ≤ p ∧ p ≤ L) (t : TcM h T L p) (er : r0 = lnNoise T L s p) (hq : ∀ g, LnP h g T L r0 → Q g) : w_X10_isFull 4 h (fun z4 h3 => if z4 = 0 then (if (4 : Int32) < 9 then (w_X10_line_72 Q 4 h3) else (if (11 : Int32) < 4 then (w_X10_line_72 Q 4 h3) else (if ((((gI h3 0 33) : Int32) >>> ((4 : Int32) &&& 31)) &&& 1) = 1 then (w_X10_wrong 3 h3 (fun h150 => w_X10_line_72 Q 4 h150)) else (w_X10_line_72 Q 4 h3)))) else (w_X10_wrong 2 h3 (fun h151 => w_X10_line_72 Q 4 h151))) := by
  unfold w_X10_isFull
  have n0 := (O.1.1 3 (by omega)).1
  have c0 : capT 3 = 8 := rfl
  rw [if_neg (by decide), if_neg (by decide), if_neg (by decide), if_pos rfl]
  refine m_frs (r := 3) M (by omega) rfl ?_
  by_cases c : s.a.n 3 = 8
  · rw [if_pos (by rw [c]; rfl)]
    dsimp only
    rw [if_neg (by decide)]
    unfold lnNoise at er
    rw [if_neg (by omega)] at er
    exact m_wrongN (k := 2) e40 t rfl (by omega) er (fun g f F => m_72F (S.ms f) f.fz F hq)
  · rw [if_neg (show ¬ z (s.a.n 3) = 8 from z_ne (by omega) (by omega) (by decide) (by decide) c)]
    dsimp only
    rw [if_pos rfl, if_pos (by decide)]
    exact m_l4 S M O U e40 hp t (by omega) er hq
theorem m_w5 {Q : PH → Prop} (hL : L ≤ 700) (S : ScM h T L) (M : MF h s) (O : OkPs s) (U : ToldM (gI h 0 33) s) (e40 : gI h 0 40 = z 0) (hp : 0 ≤ p ∧ p ≤ L) (t : TcM h T L p) (er : r0 = lnHold T L s p 4 8) (hq : ∀ g, LnP h g T L r0 → Q g) : w_X10_isFull 5 h (fun z4 h3 => if z4 = 0 then (if (5 : Int32) < 9 then (w_X10_line_72 Q 5 h3) else (if (11 : Int32) < 5 then (w_X10_line_72 Q 5 h3) else (if ((((gI h3 0 33) : Int32) >>> ((5 : Int32) &&& 31)) &&& 1) = 1 then (w_X10_wrong 3 h3 (fun h150 => w_X10_line_72 Q 5 h150)) else (w_X10_line_72 Q 5 h3)))) else (w_X10_wrong 2 h3 (fun h151 => w_X10_line_72 Q 5 h151))) := by
  unfold w_X10_isFull
  have n0 := (O.1.1 4 (by omega)).1
  have c0 : capT 4 = 8 := rfl
  rw [if_neg (by decide), if_neg (by decide), if_neg (by decide), if_neg (by decide), if_pos rfl]
  refine m_frs (r := 4) M (by omega) rfl ?_
  by_cases c : s.a.n 4 = 8
  · rw [if_pos (by rw [c]; rfl)]
    dsimp only
    rw [if_neg (by decide)]
    unfold lnHold at er
    rw [if_neg (by omega)] at er
    exact m_wrongN (k := 2) e40 t rfl (by omega) er (fun g f F => m_72F (S.ms f) f.fz F hq)
  · rw [if_neg (show ¬ z (s.a.n 4) = 8 from z_ne (by omega) (by omega) (by decide) (by decide) c)]
    dsimp only
    rw [if_pos rfl, if_pos (by decide)]
    exact m_l5 S M O U e40 hp t (by omega) er hq
theorem m_w6 {Q : PH → Prop} (hL : L ≤ 700) (S : ScM h T L) (M : MF h s) (O : OkPs s) (U : ToldM (gI h 0 33) s) (e40 : gI h 0 40 = z 0) (hp : 0 ≤ p ∧ p ≤ L) (t : TcM h T L p) (er : r0 = lnHold T L s p 5 6) (hq : ∀ g, LnP h g T L r0 → Q g) : w_X10_isFull 6 h (fun z4 h3 => if z4 = 0 then (if (6 : Int32) < 9 then (w_X10_line_72 Q 6 h3) else (if (11 : Int32) < 6 then (w_X10_line_72 Q 6 h3) else (if ((((gI h3 0 33) : Int32) >>> ((6 : Int32) &&& 31)) &&& 1) = 1 then (w_X10_wrong 3 h3 (fun h150 => w_X10_line_72 Q 6 h150)) else (w_X10_line_72 Q 6 h3)))) else (w_X10_wrong 2 h3 (fun h151 => w_X10_line_72 Q 6 h151))) := by
  unfold w_X10_isFull
  have n0 := (O.1.1 5 (by omega)).1
  have c0 : capT 5 = 6 := rfl
  rw [if_neg (by decide), if_neg (by decide), if_neg (by decide), if_neg (by decide), if_neg (by decide), if_pos rfl]
  refine m_frs (r := 5) M (by omega) rfl ?_
  by_cases c : s.a.n 5 = 6
  · rw [if_pos (by rw [c]; rfl)]
    dsimp only
    rw [if_neg (by decide)]
    unfold lnHold at er
    rw [if_neg (by omega)] at er
    exact m_wrongN (k := 2) e40 t rfl (by omega) er (fun g f F => m_72F (S.ms f) f.fz F hq)
  · rw [if_neg (show ¬ z (s.a.n 5) = 6 from z_ne (by omega) (by omega) (by decide) (by decide) c)]
    dsimp only
    rw [if_pos rfl, if_pos (by decide)]
    exact m_l6 S M O U e40 hp t (by omega) er hq
theorem m_w7 {Q : PH → Prop} (hL : L ≤ 700) (S : ScM h T L) (M : MF h s) (O : OkPs s) (U : ToldM (gI h 0 33) s) (e40 : gI h 0 40 = z 0) (hp : 0 ≤ p ∧ p ≤ L) (t : TcM h T L p) (er : r0 = lnTask T L s p) (hq : ∀ g, LnP h g T L r0 → Q g) : w_X10_isFull 7 h (fun z4 h3 => if z4 = 0 then (if (7 : Int32) < 9 then (w_X10_line_72 Q 7 h3) else (if (11 : Int32) < 7 then (w_X10_line_72 Q 7 h3) else (if ((((gI h3 0 33) : Int32) >>> ((7 : Int32) &&& 31)) &&& 1) = 1 then (w_X10_wrong 3 h3 (fun h150 => w_X10_line_72 Q 7 h150)) else (w_X10_line_72 Q 7 h3)))) else (w_X10_wrong 2 h3 (fun h151 => w_X10_line_72 Q 7 h151))) := by
  unfold w_X10_isFull
  have n0 := (O.1.1 6 (by omega)).1
  have c0 : capT 6 = 4 := rfl
  rw [if_neg (by decide), if_neg (by decide), if_neg (by decide), if_neg (by decide), if_neg (by decide), if_neg (by decide), if_pos rfl]
  refine m_frs (r := 6) M (by omega) rfl ?_
  by_cases c : s.a.n 6 = 4
  · rw [if_pos (by rw [c]; rfl)]
    dsimp only
    rw [if_neg (by decide)]
    unfold lnTask at er
    rw [if_neg (by omega)] at er
    exact m_wrongN (k := 2) e40 t rfl (by omega) er (fun g f F => m_72F (S.ms f) f.fz F hq)
  · rw [if_neg (show ¬ z (s.a.n 6) = 4 from z_ne (by omega) (by omega) (by decide) (by decide) c)]
    dsimp only
    rw [if_pos rfl, if_pos (by decide)]
    exact m_l7 S M O U e40 hp t (by omega) er hq
theorem m_w8 {Q : PH → Prop} (hL : L ≤ 700) (S : ScM h T L) (M : MF h s) (O : OkPs s) (U : ToldM (gI h 0 33) s) (e40 : gI h 0 40 = z 0) (hp : 0 ≤ p ∧ p ≤ L) (t : TcM h T L p) (er : r0 = lnDog T L s p) (hq : ∀ g, LnP h g T L r0 → Q g) : w_X10_isFull 8 h (fun z4 h3 => if z4 = 0 then (if (8 : Int32) < 9 then (w_X10_line_72 Q 8 h3) else (if (11 : Int32) < 8 then (w_X10_line_72 Q 8 h3) else (if ((((gI h3 0 33) : Int32) >>> ((8 : Int32) &&& 31)) &&& 1) = 1 then (w_X10_wrong 3 h3 (fun h150 => w_X10_line_72 Q 8 h150)) else (w_X10_line_72 Q 8 h3)))) else (w_X10_wrong 2 h3 (fun h151 => w_X10_line_72 Q 8 h151))) := by
  unfold w_X10_isFull
  rw [if_neg (by decide), if_neg (by decide), if_neg (by decide), if_neg (by decide), if_neg (by decide), if_neg (by decide), if_neg (by decide)]
  dsimp only
  rw [if_pos rfl]
  rw [if_pos (by decide)]
  exact m_l8 S M O U e40 hp t er hq
theorem m_w9 {Q : PH → Prop} (hL : L ≤ 700) (S : ScM h T L) (M : MF h s) (O : OkPs s) (U : ToldM (gI h 0 33) s) (e40 : gI h 0 40 = z 0) (hp : 0 ≤ p ∧ p ≤ L) (t : TcM h T L p) (er : r0 = lnOnce T L s p 0 1 9) (hq : ∀ g, LnP h g T L r0 → Q g) : w_X10_isFull 9 h (fun z4 h3 => if z4 = 0 then (if (9 : Int32) < 9 then (w_X10_line_72 Q 9 h3) else (if (11 : Int32) < 9 then (w_X10_line_72 Q 9 h3) else (if ((((gI h3 0 33) : Int32) >>> ((9 : Int32) &&& 31)) &&& 1) = 1 then (w_X10_wrong 3 h3 (fun h150 => w_X10_line_72 Q 9 h150)) else (w_X10_line_72 Q 9 h3)))) else (w_X10_wrong 2 h3 (fun h151 => w_X10_line_72 Q 9 h151))) := by
  unfold w_X10_isFull
  rw [if_neg (by decide), if_neg (by decide), if_neg (by decide), if_neg (by decide), if_neg (by decide), if_neg (by decide), if_neg (by decide)]
  dsimp only
  rw [if_pos rfl]
  rw [if_neg (by decide), if_neg (by decide), show (9 : Int32) = z 9 from rfl, bitI (by omega) (by omega)]
  have b : bt (gI h 0 33) (9 : Int).toNat = true ↔ s.on 0 ≠ -1 := U.1.1
  by_cases c : s.on 0 = -1
  · rw [if_neg (fun x => (b.mp x) c), if_neg (show ¬ z 0 = 1 by decide)]
    exact m_l9 S M O U e40 hp t c er hq
  · rw [if_pos (b.mpr c), if_pos (show z 1 = 1 from rfl)]
    unfold lnOnce at er
    rw [if_neg c] at er
    exact m_wrongN (k := 3) e40 t rfl (by omega) er (fun g f F => m_72F (S.ms f) f.fz F hq)
theorem m_w10 {Q : PH → Prop} (hL : L ≤ 700) (S : ScM h T L) (M : MF h s) (O : OkPs s) (U : ToldM (gI h 0 33) s) (e40 : gI h 0 40 = z 0) (hp : 0 ≤ p ∧ p ≤ L) (t : TcM h T L p) (er : r0 = lnOnce T L s p 1 0 9) (hq : ∀ g, LnP h g T L r0 → Q g) : w_X10_isFull 10 h (fun z4 h3 => if z4 = 0 then (if (10 : Int32) < 9 then (w_X10_line_72 Q 10 h3) else (if (11 : Int32) < 10 then (w_X10_line_72 Q 10 h3) else (if ((((gI h3 0 33) : Int32) >>> ((10 : Int32) &&& 31)) &&& 1) = 1 then (w_X10_wrong 3 h3 (fun h150 => w_X10_line_72 Q 10 h150)) else (w_X10_line_72 Q 10 h3)))) else (w_X10_wrong 2 h3 (fun h151 => w_X10_line_72 Q 10 h151))) := by
  unfold w_X10_isFull
  rw [if_neg (by decide), if_neg (by decide), if_neg (by decide), if_neg (by decide), if_neg (by decide), if_neg (by decide), if_neg (by decide)]
  dsimp only
  rw [if_pos rfl]
  rw [if_neg (by decide), if_neg (by decide), show (10 : Int32) = z 10 from rfl, bitI (by omega) (by omega)]
  have b : bt (gI h 0 33) (10 : Int).toNat = true ↔ s.on 1 ≠ -1 := U.1.2.1
  by_cases c : s.on 1 = -1
  · rw [if_neg (fun x => (b.mp x) c), if_neg (show ¬ z 0 = 1 by decide)]
    exact m_l10 S M O U e40 hp t c er hq
  · rw [if_pos (b.mpr c), if_pos (show z 1 = 1 from rfl)]
    unfold lnOnce at er
    rw [if_neg c] at er
    exact m_wrongN (k := 3) e40 t rfl (by omega) er (fun g f F => m_72F (S.ms f) f.fz F hq)
theorem m_w11 {Q : PH → Prop} (hL : L ≤ 700) (S : ScM h T L) (M : MF h s) (O : OkPs s) (U : ToldM (gI h 0 33) s) (e40 : gI h 0 40 = z 0) (hp : 0 ≤ p ∧ p ≤ L) (t : TcM h T L p) (er : r0 = lnOnce T L s p 2 0 99999) (hq : ∀ g, LnP h g T L r0 → Q g) : w_X10_isFull 11 h (fun z4 h3 => if z4 = 0 then (if (11 : Int32) < 9 then (w_X10_line_72 Q 11 h3) else (if (11 : Int32) < 11 then (w_X10_line_72 Q 11 h3) else (if ((((gI h3 0 33) : Int32) >>> ((11 : Int32) &&& 31)) &&& 1) = 1 then (w_X10_wrong 3 h3 (fun h150 => w_X10_line_72 Q 11 h150)) else (w_X10_line_72 Q 11 h3)))) else (w_X10_wrong 2 h3 (fun h151 => w_X10_line_72 Q 11 h151))) := by
  unfold w_X10_isFull
  rw [if_neg (by decide), if_neg (by decide), if_neg (by decide), if_neg (by decide), if_neg (by decide), if_neg (by decide), if_neg (by decide)]
  dsimp only
  rw [if_pos rfl]
  rw [if_neg (by decide), if_neg (by decide), show (11 : Int32) = z 11 from rfl, bitI (by omega) (by omega)]
  have b : bt (gI h 0 33) (11 : Int).toNat = true ↔ s.on 2 ≠ -1 := U.1.2.2
  by_cases c : s.on 2 = -1
  · rw [if_neg (fun x => (b.mp x) c), if_neg (show ¬ z 0 = 1 by decide)]
    exact m_l11 S M O U e40 hp t c er hq
  · rw [if_pos (b.mpr c), if_pos (show z 1 = 1 from rfl)]
    unfold lnOnce at er
    rw [if_neg c] at er
    exact m_wrongN (k := 3) e40 t rfl (by omega) er (fun g f F => m_72F (S.ms f) f.fz F hq)
theorem m_w12 {Q : PH → Prop} (hL : L ≤ 700) (S : ScM h T L) (M : MF h s) (O : OkPs s) (U : ToldM (gI h 0 33) s) (e40 : gI h 0 40 = z 0) (hp : 0 ≤ p ∧ p ≤ L) (t : TcM h T L p) (er : r0 = lnLaw T L s p) (hq : ∀ g, LnP h g T L r0 → Q g) : w_X10_isFull 12 h (fun z4 h3 => if z4 = 0 then (if (12 : Int32) < 9 then (w_X10_line_72 Q 12 h3) else (if (11 : Int32) < 12 then (w_X10_line_72 Q 12 h3) else (if ((((gI h3 0 33) : Int32) >>> ((12 : Int32) &&& 31)) &&& 1) = 1 then (w_X10_wrong 3 h3 (fun h150 => w_X10_line_72 Q 12 h150)) else (w_X10_line_72 Q 12 h3)))) else (w_X10_wrong 2 h3 (fun h151 => w_X10_line_72 Q 12 h151))) := by
  unfold w_X10_isFull
  rw [if_neg (by decide), if_neg (by decide), if_neg (by decide), if_neg (by decide), if_neg (by decide), if_neg (by decide), if_neg (by decide)]
  dsimp only
  rw [if_pos rfl]
  rw [if_neg (by decide), if_pos (by decide)]
  exact m_l12 hL S M O U e40 hp t er hq
theorem m_line {Q : PH → Prop} (hL : L ≤ 700) (S : ScM h T L) (M : MF h s) (O : OkPs s) (U : ToldM (gI h 0 33) s) (e40 : gI h 0 40 = z 0) (hp : 0 ≤ p ∧ p ≤ L) (t : TcM h T L p) (er : r0 = pLine T L s p) (hq : ∀ g, LnP h g T L r0 → Q g) : w_X10_line h Q := by
  have tr := tok_rg (T := T) S.2.2.2 hp
  have mi := mk_iff tr.2.2.2.2.1
  obtain ⟨u1, u2, u3, mm, u4, u5⟩ := id t
  have l16 : r0 = pF T L 1 p → w_X10_line_16 Q h := fun er1 => by
    unfold w_X10_line_16
    exact m_wrongN (k := 1) e40 t rfl (by omega) er1 (fun g f F => hq g ⟨f.fz, S.ms f, Or.inl F⟩)
  unfold pLine at er
  unfold w_X10_line
  rw [u3]
  by_cases k4 : tK T L p = 4
  · rw [if_pos (by rw [mi.1.mpr k4]; rfl), u4]
    rw [if_pos k4] at er
    have em : mm = tV T L p := u5.2 (by omega)
    have tv := tr.2.2.2.2.2.2.2.1 k4
    rw [em, show (12 : Int32) = z 12 from rfl]
    generalize tV T L p = w at *
    by_cases w13 : w ≤ 12
    · rw [if_pos (by rw [z_le (by omega) (by omega) (by omega) (by omega)]; omega)]
      rintro _ rfl
      have cs : w = 0 ∨ w = 1 ∨ w = 2 ∨ w = 3 ∨ w = 4 ∨ w = 5 ∨ w = 6 ∨ w = 7 ∨ w = 8 ∨ w = 9 ∨ w = 10 ∨ w = 11 ∨ w = 12 := by omega
      rcases cs with rfl | rfl | rfl | rfl | rfl | rfl | rfl | rfl | rfl | rfl | rfl | rfl | rfl
      · rw [if_pos rfl] at er
        exact m_w0 hL S M O U e40 hp t er hq
      · rw [if_neg (by decide), if_pos rfl] at er
        exact m_w1 hL S M O U e40 hp t er hq
      · rw [if_neg (by decide), if_neg (by decide), if_pos rfl] at er
        exact m_w2 hL S M O U e40 hp t er hq
      · rw [if_neg (by decide), if_neg (by decide), if_neg (by decide), if_pos rfl] at er
        exact m_w3 hL S M O U e40 hp t er hq
      · rw [if_neg (by decide), if_neg (by decide), if_neg (by decide), if_neg (by decide), if_pos rfl] at er
        exact m_w4 hL S M O U e40 hp t er hq
      · rw [if_neg (by decide), if_neg (by decide), if_neg (by decide), if_neg (by decide), if_neg (by decide), if_pos rfl] at er
        exact m_w5 hL S M O U e40 hp t er hq
      · rw [if_neg (by decide), if_neg (by decide), if_neg (by decide), if_neg (by decide), if_neg (by decide), if_neg (by decide), if_pos rfl] at er
        exact m_w6 hL S M O U e40 hp t er hq
      · rw [if_neg (by decide), if_neg (by decide), if_neg (by decide), if_neg (by decide), if_neg (by decide), if_neg (by decide), if_neg (by decide), if_pos rfl] at er
        exact m_w7 hL S M O U e40 hp t er hq
      · rw [if_neg (by decide), if_neg (by decide), if_neg (by decide), if_neg (by decide), if_neg (by decide), if_neg (by decide), if_neg (by decide), if_neg (by decide), if_pos rfl] at er
        exact m_w8 hL S M O U e40 hp t er hq
      · rw [if_neg (by decide), if_neg (by decide), if_neg (by decide), if_neg (by decide), if_neg (by decide), if_neg (by decide), if_neg (by decide), if_neg (by decide), if_neg (by decide), if_pos rfl] at er
        exact m_w9 hL S M O U e40 hp t er hq
      · rw [if_neg (by decide), if_neg (by decide), if_neg (by decide), if_neg (by decide), if_neg (by decide), if_neg (by decide), if_neg (by decide), if_neg (by decide), if_neg (by decide), if_neg (by decide), if_pos rfl] at er
        exact m_w10 hL S M O U e40 hp t er hq
      · rw [if_neg (by decide), if_neg (by decide), if_neg (by decide), if_neg (by decide), if_neg (by decide), if_neg (by decide), if_neg (by decide), if_neg (by decide), if_neg (by decide), if_neg (by decide), if_neg (by decide), if_pos rfl] at er
        exact m_w11 hL S M O U e40 hp t er hq
      · rw [if_neg (by decide), if_neg (by decide), if_neg (by decide), if_neg (by decide), if_neg (by decide), if_neg (by decide), if_neg (by decide), if_neg (by decide), if_neg (by decide), if_neg (by decide), if_neg (by decide), if_neg (by decide), if_pos rfl] at er
        exact m_w12 hL S M O U e40 hp t er hq
    · rw [if_neg (by rw [z_le (by omega) (by omega) (by omega) (by omega)]; omega)]
      refine l16 ?_
      rw [if_neg (by omega), if_neg (by omega), if_neg (by omega), if_neg (by omega), if_neg (by omega), if_neg (by omega), if_neg (by omega), if_neg (by omega), if_neg (by omega), if_neg (by omega), if_neg (by omega), if_neg (by omega), if_neg (by omega)] at er
      exact er
  · rw [if_neg (show ¬ z (mk (tK T L p)) = 0 from z_ne (by omega) (by omega) (by decide) (by decide) (fun x => k4 (mi.1.mp x)))]
    rw [if_neg k4] at er
    exact l16 er
/-- all lines -/
theorem m_lines {Q : Int32 → PH → Prop} {h0 : PH} {rt : (Int × Int) ⊕ (PS × Int)} {k158 : PH → Prop} (hL : L ≤ 700) (S : ScM h T L) (M : MF h ps0) (U : ToldM (gI h 0 33) ps0) (e40 : gI h 0 40 = z 0) (t : TcM h T L 0) (hL0 : 0 ≤ L) (f0 : fzF h0 h) (e34 : gI h 0 34 = z 0) (er : rt = pText T L 701 0 ps0 0)
    (hq : ∀ g, fzF h0 g → (FtF g rt ∨ (gI g 0 40 = z 0 ∧ gI g 0 41 = z (-1) ∧ ∃ s l, rt = .inr (s, l) ∧ OkPs s ∧ MF g s ∧ gI g 0 34 = z l)) → k158 g) : ∃ n, Lp0 (w_X10_text_136 k158 Q) n h := by
  have hT := S.2.2.2
  refine lp0_i (fun g => ScM g T L ∧ fzF h0 g ∧ (FtF g rt ∨ (gI g 0 40 = z 0 ∧ ∃ s p l, ∃ n : Nat, (0 ≤ p ∧ p ≤ L) ∧ TcM g T L p ∧ OkPs s ∧ MF g s ∧ ToldM (gI g 0 33) s ∧ gI g 0 34 = z l ∧ L - p < n ∧ rt = pText T L n l s p))) muE ?_ h ⟨S, f0, Or.inr ⟨e40, ps0, 0, 0, 701, by omega, t, ps0_ok, M, U, e34, by omega, er⟩⟩
  clear S M U e40 t f0 e34 er
  rintro kb g ⟨S, f, P⟩ hn
  unfold w_X10_text_136
  rcases P with F | ⟨e, s, p, l, n, hp, t, O, M, U, e34, hlt, er⟩
  · rw [if_neg F.ne]
    exact hq g f (Or.inl F)
  · have tr := tok_rg (T := T) hT hp
    have mi := mk_iff tr.2.2.2.2.1
    obtain ⟨n', en⟩ : ∃ n', n = n' + 1 := ⟨n - 1, by omega⟩
    rw [en] at er
    unfold pText at er
    rw [e, if_pos (show z 0 = 0 from rfl), t.2.2.1]
    by_cases k0 : tK T L p = 0
    · rw [if_pos (by rw [mi.2.2.2.2.1.mpr k0]; rfl)]
      rw [if_pos k0] at er
      exact hq g f (Or.inr ⟨e, t.1.2, s, l, er, O, M, e34⟩)
    · rw [if_neg (show ¬ z (mk (tK T L p)) = 4 from z_ne (by omega) (by omega) (by decide) (by decide) (fun x => k0 (mi.2.2.2.2.1.mp x)))]
      rw [if_neg k0] at er
      refine m_line (r0 := pLine T L s p) hL S M O U e hp t rfl (fun g2 P2 => ?_)
      obtain ⟨f2, S2, P2⟩ := P2
      have mu1 : muE g = (2000 - tS T L p).toNat + 1 := by
        unfold muE
        rw [e, if_pos (show z 0 = 0 from rfl), t.2.1, z_ti (by omega) (by omega)]
      rcases P2 with F | ⟨e2, s2, q, hq2, t2, er2, M2, U2, e342⟩
      · refine hn g2 ⟨S2, f.tr f2, Or.inl ?_⟩ ?_
        · obtain ⟨k, u, a1, a2, a3, a4⟩ := F
          refine ⟨k, u, a1, a2, a3, ?_⟩
          rw [er, a4]
        · rw [mu1]
          unfold muE
          rw [if_neg F.ne]
          omega
      · have lo := line_ok hT O hp er2
        have b := lo.1
        unfold bh at b
        rw [er2] at er
        refine hn g2 ⟨S2, f.tr f2, Or.inr ⟨e2, s2, q, l + 1, n', hq2, t2, lo.2, M2, U2, by rw [e342, e34, z_inc], by omega, er⟩⟩ ?_
        have tr2 := tok_rg (T := T) hT hq2
        have sp : tE T L p ≤ q := by omega
        rw [mu1]
        unfold muE
        rw [e2, if_pos (show z 0 = 0 from rfl), t2.2.1, z_ti (by omega) (by omega)]
        have := tr.2.2.2.1 k0
        omega
end MLINE
