def thR2 (w c k : Nat) : Prop := c = w + 17 ∨ c = w + 18 ∨ (c = 129 ∧ 5 ≤ k ∧ k ≤ 7)
theorem thR2.th {w c k : Nat} (h : thR2 w c k) : thR w c k := by unfold thR2 at h; unfold thR; omega
def FdX (g : PH) (s : St) (k : Int) : Prop := k ≤ 5760 ∧ ∃ j, (0 ≤ j ∧ j < 960 * s.a.n 0) ∧ okI s j = true ∧ cn (okI s) j = k ∧ gI g 129 5 = z (j / 960) ∧ gI g 129 6 = z (j / 20 % 48) ∧ gI g 129 7 = z (j % 20 + 1)
section SEEK
variable {h : PH} {w : Nat} {s : St}
theorem x_seekAt {Q : Int32 → PH → Prop} {S b k : Int} (H : WX h w s.a) (X : FX h 100 (far s.a (-1))) (N : Now s.a) (hw : w = 8 ∨ w = 31) (O : OkNt (s.a.n 0) s.nn s.nt s.kb) (D : NdX h s (knm s)) (hS : ∀ k, 0 ≤ k → k < knm s → stk1 s k = false → s.nt 0 k = 0 → fst s.a (far s.a (-1)) (s.nt 1 k) (s.nt 2 k) = -1) (hO : ∀ m' q, 0 ≤ m' → m' < 48 → nd s (knm s) m' q → m' = S % 48) (hs : 0 ≤ S ∧ S < 48 * s.a.n 0) (hk0 : 0 ≤ k ∧ k < 2147483648) (eb : b = cn (okI s) (20 * S)) (bk : b ≤ k) (hq1 : ∀ g, (∀ c k, ¬ thR2 w c k → At h g c k) → cn (okI s) (20 * (S + 1)) ≤ k → Q (z (cn (okI s) (20 * (S + 1)))) g) (hq2 : ∀ g, (∀ c k, ¬ thR2 w c k → At h g c k) → FdX g s k → Q (z (k + 1)) g) : w_X2_seekAt w 100 (z S) (z b) (z k) h Q := by
  have h6 := N.1.1
  have cr : ∀ i : Int, 0 ≤ i → 0 ≤ cn (okI s) i ∧ cn (okI s) i ≤ i * 1 := fun i i0 => cn_rg (okI s) i0
  unfold w_X2_seekAt
  refine for21 21 (fun i x g => (∀ c k, ¬ thR2 w c k → At h g c k) ∧ ((x = z (cn (okI s) (20 * S + (i - 1))) ∧ cn (okI s) (20 * S + (i - 1)) ≤ k) ∨ (x = z (k + 1) ∧ FdX g s k))) 1 rfl (by omega) (by omega) (by omega) ⟨fun c k _ => At.rf h c k, Or.inl ⟨by rw [eb, show 20 * S + (1 - 1) = 20 * S by omega], by rw [show 20 * S + (1 - 1) = 20 * S by omega, ← eb]; exact bk⟩⟩ ?_ ?_
  · rintro kb i x g i0 i1 ⟨hf, hx⟩ hk
    unfold w_X2_seekAt_7
    rw [zn_20, if_neg (by rw [z_lt (by omega) (by omega) (by omega) (by omega)]; omega)]
    rcases hx with ⟨rfl, hx⟩ | ⟨rfl, hx⟩
    · have c1 := cr (20 * S + (i - 1)) (by omega)
      rw [if_neg (by rw [z_lt (by omega) (by omega) (by omega) (by omega)]; omega), zn_48, z_div (by omega) (by omega) (by omega) (by omega), z_mul, z_sub, show S - S / 48 * 48 = S % 48 by omega]
      have Wg : WX g w s.a := H.at' (fun c k b1 b2 b3 b4 b5 b6 => hf c k (by unfold thR2; omega))
      have Xg : FX g 100 (far s.a (-1)) := fun p q c1 c2 c3 c4 => by rw [(hf 101 _ (by unfold thR2; omega)).1]; exact X p q c1 c2 c3 c4
      have Dg : NdX g s (knm s) := fun m m0 m1 l hl => by rw [(hf 133 _ (by unfold thR2; omega)).1, (hf 134 _ (by unfold thR2; omega)).1]; exact D m m0 m1 l hl
      have eo : okI s (20 * S + (i - 1)) = aso s (S / 48) (S % 48) i := by
        rw [show 20 * S + (i - 1) = 960 * (S / 48) + 20 * (S % 48) + (i - 1) by omega]
        exact okI_at (by omega) (by omega)
      have eq := aso_fit (p := S / 48) (m := S % 48) (l := i) O hS hO
      refine x_fits Wg Xg N hw Dg (by omega) (by omega) (by omega) (fun g2 f2 ft => ?_) (fun g2 f2 ft => ?_)
      · rw [if_neg (by decide)]
        have e1 : okI s (20 * S + (i - 1)) = true := by rw [eo]; exact aso_T (eq.mpr ft)
        have es : cn (okI s) (20 * S + (i + 1 - 1)) = cn (okI s) (20 * S + (i - 1)) + 1 := by
          rw [show 20 * S + (i + 1 - 1) = 20 * S + (i - 1) + 1 by omega, cn_s (by omega), e1]; rfl
        rintro _ rfl _ rfl _ rfl
        rw [z_inc, z_inc]
        refine hk _ _ ⟨fun c k hc => ((((hf c k hc).tr (f2 c k (by unfold thR2 at hc; omega))).sI (by unfold thR2 at hc; omega)).sI (by unfold thR2 at hc; omega)).sI (by unfold thR2 at hc; omega), ?_⟩
        by_cases c2 : cn (okI s) (20 * S + (i - 1)) + 1 ≤ k
        · exact Or.inl ⟨by rw [es], by rw [es]; exact c2⟩
        · have ek : cn (okI s) (20 * S + (i - 1)) = k := by omega
          refine Or.inr ⟨by rw [ek], by omega, 20 * S + (i - 1), by omega, e1, ek, ?_, ?_, ?_⟩
          · rw [gI_out (by omega), gI_out (by omega), gI_in rfl rfl]; congr 1; omega
          · rw [gI_out (by omega), gI_in rfl rfl]; congr 1; omega
          · rw [gI_in rfl rfl]; congr 1; omega
      · rw [if_pos rfl, z_inc]
        have e1 : okI s (20 * S + (i - 1)) = false := by rw [eo]; exact aso_F (fun x => ft (eq.mp x))
        have es : cn (okI s) (20 * S + (i + 1 - 1)) = cn (okI s) (20 * S + (i - 1)) := by
          rw [show 20 * S + (i + 1 - 1) = 20 * S + (i - 1) + 1 by omega, cn_s (by omega), e1, if_neg (by decide), Int.add_zero]
        exact hk _ _ ⟨fun c k hc => (hf c k hc).tr (f2 c k (by unfold thR2 at hc; omega)), Or.inl ⟨by rw [es], by rw [es]; exact hx⟩⟩
    · have := hx.1
      rw [if_pos (by rw [z_lt (by omega) (by omega) (by omega) (by omega)]; omega)]
      exact hq2 g hf hx
  · rintro kb x g ⟨hf, hx⟩
    unfold w_X2_seekAt_7
    rw [zn_20, if_pos (by rw [z_lt (by omega) (by omega) (by omega) (by omega)]; omega)]
    rcases hx with ⟨rfl, hx⟩ | ⟨rfl, hx⟩
    · rw [show 20 * S + ((21 : Int) - 1) = 20 * (S + 1) by omega] at hx ⊢
      exact hq1 g hf hx
    · exact hq2 g hf hx
theorem ndx_some {g : PH} {i m : Int} (D : NdX g s i) (O : OkNt (s.a.n 0) s.nn s.nt s.kb) (h6 : s.a.n 0 ≤ 6) (hi : i ≤ s.nn) (m0 : 0 ≤ m) (m1 : m < 48) : gI g 133 m.toNat = 0 ↔ ∀ q, ¬ nd s i m q := by
  constructor
  · intro e q hq
    obtain ⟨k, x1, x2, x3, x4, x5, x6⟩ := id hq
    have on := O.2.2 k x1.1 (by omega)
    have oq : 0 ≤ q ∧ q < 32 := by
      rcases on with y | y
      · omega
      · omega
    have d := (D m m0 m1 q.toNat (by omega)).1
    rw [show ((q.toNat : Nat) : Int) = q by omega] at d
    have := d.mpr hq
    rw [e, show (0 : Int32) = z 0 from rfl, bt_z0 q.toNat (by omega)] at this
    exact absurd this (by decide)
  · intro hn
    refine bt_none (fun l hl => ?_)
    cases hb : bt (gI g 133 m.toNat) l with
    | false => rfl
    | true => exact absurd ((D m m0 m1 l hl).1.mp hb) (hn l)
theorem x_seek {Q : Int32 → PH → Prop} {k : Int} (I : IX h w s) (A : AirX h 100 s.a (far s.a (-1))) (hk0 : 0 ≤ k ∧ k < 2147483648) (hq1 : ∀ g, (∀ c k, ¬ thR w c k → At h g c k) → cn (okI s) (960 * s.a.n 0) ≤ k → Q (z (cn (okI s) (960 * s.a.n 0))) g) (hq2 : ∀ g, (∀ c k, ¬ thR w c k → At h g c k) → FdX g s k → Q (z (k + 1)) g) : w_X2_seek w 100 (z k) h Q := by
  have n4 := I.1.2.2.2.1
  have n3 := I.1.2.2.1
  have h6 := n4.1.1
  have hw := I.w
  have O := I.ok.2.2.2.2.2.1
  have kr := knm_rg O
  have none : ∀ g, (∀ c k, ¬ thR w c k → At h g c k) → (∀ p m l, ¬ asoP s p m l) → Q 0 g := by
    intro g hf hn
    have e : cn (okI s) (960 * s.a.n 0) = 0 := cn_none (by omega) (fun j j0 j1 => aso_F (hn _ _ _))
    have := hq1 g hf (by omega)
    rw [e] at this
    exact this
  unfold w_X2_seek
  refine x_sort I A (fun g hf hex => ?_) (fun g hf hS D => ?_)
  · rw [if_pos rfl]
    refine none g hf (fun p m l hA => ?_)
    obtain ⟨k, x1, x2, x3, x4⟩ := hex
    exact x4 ((hA k x1.1 x1.2 x2).2 x3).1
  · rw [if_neg (by decide)]
    refine for21 48 (fun i x g' => g = g' ∧ ∃ om : Int, x = z om ∧ ((om = -1 ∧ ∀ m q, 0 ≤ m → m < i → ¬ nd s (knm s) m q) ∨ ((0 ≤ om ∧ om < i) ∧ (∃ q, nd s (knm s) om q) ∧ ∀ m q, 0 ≤ m → m < i → m ≠ om → ¬ nd s (knm s) m q))) 0 rfl (by omega) (by omega) (by omega) ⟨rfl, -1, rfl, Or.inl ⟨rfl, fun m q m0 m1 => by omega⟩⟩ ?_ ?_
    · rintro kb i _ _ i0 i1 ⟨rfl, om, rfl, hom⟩ hk
      have ds := ndx_some (i := knm s) (m := i) D O h6.2 kr.2.1 i0 i1
      unfold w_X2_seek_16
      rw [zn_48, if_neg (by rw [z_le (by omega) (by omega) (by omega) (by omega)]; omega), z_iN (by omega) (by omega)]
      refine ⟨z_in (by omega) (by omega) (by omega), ?_⟩
      by_cases c0 : gI g 133 i.toNat = 0
      · rw [if_pos c0]
        unfold w_X2_seek_41
        rw [z_iN (by omega) (by omega), if_pos c0, z_inc]
        refine ⟨z_in (by omega) (by omega) (by omega), ?_⟩
        have dn := ds.mp c0
        refine hk _ _ ⟨rfl, om, rfl, ?_⟩
        rcases hom with ⟨e, hn⟩ | ⟨e1, e2, hn⟩
        · refine Or.inl ⟨e, fun m q m0 m1 => ?_⟩
          by_cases em : m = i
          · rw [em]; exact dn q
          · exact hn m q m0 (by omega)
        · refine Or.inr ⟨⟨e1.1, by omega⟩, e2, fun m q m0 m1 hne => ?_⟩
          by_cases em : m = i
          · rw [em]; exact dn q
          · exact hn m q m0 (by omega) hne
      · rw [if_neg c0]
        have dn : ∃ q, nd s (knm s) i q := Classical.byContradiction (fun x => c0 (ds.mpr (fun q hq => x ⟨q, hq⟩)))
        rcases hom with ⟨e, hn⟩ | ⟨e1, e2, hn⟩
        · rw [if_pos (show z om = -1 by rw [e]; rfl)]
          unfold w_X2_seek_41
          rw [z_iN (by omega) (by omega), if_neg c0, z_inc]
          refine ⟨z_in (by omega) (by omega) (by omega), ?_⟩
          refine hk _ _ ⟨rfl, i, rfl, Or.inr ⟨⟨i0, by omega⟩, dn, fun m q m0 m1 hne => hn m q m0 (by omega)⟩⟩
        · rw [if_neg (show ¬ z om = -1 from z_ne (by omega) (by omega) (by decide) (by decide) (show om ≠ -1 by omega))]
          refine none g hf (fun p m l hA => ?_)
          obtain ⟨q1, k1, x1, x2, x3, x4, x5, x6⟩ := e2
          obtain ⟨q2, k2, y1, y2, y3, y4, y5, y6⟩ := dn
          have a1 := ((hA k1 x1.1 x1.2 x2).1 x3 (by rw [x5, x4]; exact x6)).1
          have a2 := ((hA k2 y1.1 y1.2 y2).1 y3 (by rw [y5, y4]; exact y6)).1
          omega
    · rintro kb _ _ ⟨rfl, om, rfl, hom⟩
      unfold w_X2_seek_16
      rw [zn_48, if_pos (by rw [z_le (by omega) (by omega) (by omega) (by omega)]; omega)]
      have cr : ∀ i : Int, 0 ≤ i → 0 ≤ cn (okI s) i ∧ cn (okI s) i ≤ i * 1 := fun i i0 => cn_rg (okI s) i0
      have bom : -1 ≤ om ∧ om < 48 := by rcases hom with ⟨e, _⟩ | ⟨e, _⟩ <;> omega
      refine for21 (48 * s.a.n 0) (fun S x g' => (∀ c k, ¬ thR2 w c k → At g g' c k) ∧ ((x = z (cn (okI s) (20 * S)) ∧ cn (okI s) (20 * S) ≤ k) ∨ (x = z (k + 1) ∧ FdX g' s k))) 0 rfl (by omega) (by omega) (by omega) ⟨fun c k _ => At.rf g c k, Or.inl ⟨rfl, hk0.1⟩⟩ ?_ ?_
      · rintro kb S x g' S0 S1 ⟨hf', hx⟩ hk
        have ht : ∀ c k, ¬ thR w c k → At h g' c k := fun c k hc => (hf c k hc).tr (hf' c k (fun x => hc x.th))
        have Wg : WX g' w s.a := n3.at' (fun c k b1 b2 b3 b4 b5 b6 => ht c k (by unfold thR; omega))
        have Xg : FX g' 100 (far s.a (-1)) := fun p q c1 c2 c3 c4 => by rw [(ht 101 _ (by unfold thR; omega)).1]; exact A.1 p q c1 c2 c3 c4
        have Dg : NdX g' s (knm s) := fun m m0 m1 l hl => by rw [(hf' 133 _ (by unfold thR2; omega)).1, (hf' 134 _ (by unfold thR2; omega)).1]; exact D m m0 m1 l hl
        unfold w_X2_seek_72
        rw [show gI g' (w + 1) 3 = z (s.a.n 0) from (Wg.n0 0 (by decide)).1, zn_48, z_mul, if_neg (by rw [z_le (by omega) (by omega) (by omega) (by omega)]; omega)]
        rcases hx with ⟨rfl, hx⟩ | ⟨rfl, hx⟩
        · have c1 := cr (20 * S) (by omega)
          rw [if_neg (by rw [z_lt (by omega) (by omega) (by omega) (by omega)]; omega), z_div (by omega) (by omega) (by omega) (by omega), z_mul, z_sub, show S - S / 48 * 48 = S % 48 by omega]
          have go : (∀ m' q, 0 ≤ m' → m' < 48 → nd s (knm s) m' q → m' = S % 48) → w_X2_seek_109 w 100 Q kb (z k) (z om) (z (cn (okI s) (20 * S))) (z S) g' := by
            intro hO
            unfold w_X2_seek_109
            rw [z_inc]
            exact x_seekAt Wg Xg n4 hw O Dg hS hO ⟨S0, S1⟩ hk0 rfl hx (fun g2 f2 c2 => hk _ _ ⟨fun c k hc => (hf' c k hc).tr (f2 c k hc), Or.inl ⟨rfl, c2⟩⟩) (fun g2 f2 F2 => hk _ _ ⟨fun c k hc => (hf' c k hc).tr (f2 c k hc), Or.inr ⟨rfl, F2⟩⟩)
          by_cases c2 : om = -1
          · rw [if_pos (show z om = -1 by rw [c2]; rfl)]
            refine go (fun m' q m0 m1 hn => ?_)
            rcases hom with ⟨_, h2⟩ | ⟨h2, _⟩
            · exact absurd hn (h2 m' q m0 m1)
            · omega
          · rw [if_neg (show ¬ z om = -1 from z_ne (by omega) (by omega) (by decide) (by decide) c2)]
            rcases hom with ⟨h2, _⟩ | ⟨h2, ⟨q0, h3⟩, h4⟩
            · exact absurd h2 c2
            by_cases c3 : om = S % 48
            · rw [if_pos (congrArg z c3)]
              refine go (fun m' q m0 m1 hn => ?_)
              by_cases em : m' = om
              · omega
              · exact absurd hn (h4 m' q m0 m1 em)
            · rw [if_neg (z_ne (by omega) (by omega) (by omega) (by omega) c3), z_inc]
              have es : cn (okI s) (20 * (S + 1)) = cn (okI s) (20 * S) := by
                rw [show 20 * (S + 1) = 20 * S + ((20 : Nat) : Int) by omega]
                refine cn_skip (by omega) 20 (fun j j0 j1 => aso_F (fun hA => ?_))
                obtain ⟨k1, x1, x2, x3, x4, x5, x6⟩ := h3
                have a1 := ((hA k1 x1.1 x1.2 x2).1 x3 (by rw [x5, x4]; exact x6)).1
                omega
              exact hk _ _ ⟨hf', Or.inl ⟨by rw [es], by rw [es]; exact hx⟩⟩
        · have := hx.1
          rw [if_pos (by rw [z_lt (by omega) (by omega) (by omega) (by omega)]; omega)]
          exact hq2 g' ht hx
      · rintro kb x g' ⟨hf', hx⟩
        have ht : ∀ c k, ¬ thR w c k → At h g' c k := fun c k hc => (hf c k hc).tr (hf' c k (fun x => hc x.th))
        have Wg : WX g' w s.a := n3.at' (fun c k b1 b2 b3 b4 b5 b6 => ht c k (by unfold thR; omega))
        unfold w_X2_seek_72
        rw [show gI g' (w + 1) 3 = z (s.a.n 0) from (Wg.n0 0 (by decide)).1, zn_48, z_mul, if_pos (by rw [z_le (by omega) (by omega) (by omega) (by omega)]; omega)]
        rcases hx with ⟨rfl, hx⟩ | ⟨rfl, hx⟩
        · rw [show 20 * (48 * s.a.n 0) = 960 * s.a.n 0 by omega] at hx ⊢
          exact hq1 g' ht hx
        · exact hq2 g' ht hx
theorem IX.th {g g1 : PH} (I : IX h w s) (N : NX g w (mkd (fl h) s.a)) (f : ∀ c k, ¬ airR w c k → At h g c k) (f1 : ∀ c k, ¬ thR w c k → At g g1 c k) : IX g1 w s ∧ KpX h g1 := by
  have hw := I.w
  have ff : ∀ c k, ¬ scrX w c k → At h g1 c k := fun c k hc => (f c k (by unfold scrX at hc; unfold airR; omega)).tr (f1 c k (by unfold scrX at hc; unfold thR; omega))
  have N1 : NX g1 w (mkd (fl h) s.a) := N.at' (fun k => f1 0 k (by unfold thR; omega)) (fun c k b1 b2 b3 => f1 c k (by unfold lawR at b3; unfold thR; omega)) (fun c k b1 b2 => f1 c k (by unfold thR; omega))
  exact I.fin N1 (I.2.2.1.fr (fun c k b1 b2 => (f c k (by unfold airR; omega)).tr (f1 c k (by unfold thR; omega)))) ff
theorem xs_thieves {Q : Int32 → PH → Prop} (I : IX h w s) (hq : ∀ g, IX g w s → KpX h g → Q (z (a_thieves s)) g) : w_X9_thieves h Q := by
  obtain ⟨p1, p2, p3⟩ := I.1.p
  have n1 := I.1.1
  have h6 := I.1.2.2.2.1.1.1
  unfold w_X9_thieves
  rw [p3]
  refine ⟨p1, oX_w n1, ?_⟩
  refine x_freshAir I.gh (fun g f N A => ?_)
  have r := I.air N f
  rw [far_sa (mkd_sa _ _)] at A
  have A' := A.sa (mkd_sa _ _).sy
  refine ⟨rfl, ?_⟩
  refine x_seek (k := 2147483647) r.1 A' (by omega) (fun g1 f1 _ => ?_) (fun g1 f1 F1 => ?_)
  · have q := I.th N f f1
    exact hq g1 q.1 q.2
  · have := F1.1
    omega
theorem xs_thief {Q : Int32 → PH → Prop} {k v : Int} (I : IX h w s) (hk : i32 k) (hv : i32 v) (hq : ∀ g, IX g w s → KpX h g → Q (z (a_thief s k v)) g) : w_X9_thief (z k) (z v) h Q := by
  obtain ⟨p1, p2, p3⟩ := I.1.p
  have n1 := I.1.1
  have h6 := I.1.2.2.2.1.1.1
  have hk1 := hk.1
  have hk2 := hk.2
  have hv1 := hv.1
  have hv2 := hv.2
  have ref : ¬ (0 ≤ k ∧ (0 ≤ v ∧ v ≤ 2)) → Q (-1) h := fun c => by
    have e : a_thief s k v = -1 := if_neg c
    rw [e] at hq
    exact hq h I (KpX.rf h)
  unfold w_X9_thief
  rw [zn_0]
  by_cases c1 : k < 0
  · rw [if_pos (by rw [z_lt (by omega) (by omega) (by omega) (by omega)]; omega)]; exact ref (by omega)
  · rw [if_neg (by rw [z_lt (by omega) (by omega) (by omega) (by omega)]; omega)]
    by_cases c2 : v < 0
    · rw [if_pos (by rw [z_lt (by omega) (by omega) (by omega) (by omega)]; omega)]; exact ref (by omega)
    · rw [if_neg (by rw [z_lt (by omega) (by omega) (by omega) (by omega)]; omega), zn_2]
      by_cases c3 : v ≤ 2
      · rw [if_pos (by rw [z_le (by omega) (by omega) (by omega) (by omega)]; omega), p3]
        refine ⟨p1, oX_w n1, ?_⟩
        refine x_freshAir I.gh (fun g f N A => ?_)
        have r := I.air N f
        rw [far_sa (mkd_sa _ _)] at A
        have A' := A.sa (mkd_sa _ _).sy
        have hc : 0 ≤ k ∧ (0 ≤ v ∧ v ≤ 2) := by omega
        refine ⟨rfl, ?_⟩
        refine x_seek (k := k) r.1 A' (by omega) (fun g1 f1 c => ?_) (fun g1 f1 F1 => ?_)
        · have cr := cn_rg (okI s) (n := 960 * s.a.n 0) (by omega)
          have q := I.th N f f1
          have e : a_thief s k v = -2 := by unfold a_thief; rw [if_pos hc, if_pos c]
          rw [e] at hq
          rw [if_neg (by rw [z_lt (by omega) (by omega) (by omega) (by omega)]; omega)]
          exact hq g1 q.1 q.2
        · have q := I.th N f f1
          obtain ⟨k5, j, j0, oj, ej, e5, e6, e7⟩ := F1
          rw [if_pos (by rw [z_lt (by omega) (by omega) (by omega) (by omega)]; omega)]
          have ekt : kth (okI s) (960 * s.a.n 0) k = j := by rw [← ej]; exact kth_at j0.1 j0.2 oj
          have c4 : ¬ cn (okI s) (960 * s.a.n 0) ≤ k := by
            have e1 : cn (okI s) (j + 1) = cn (okI s) j + 1 := by rw [cn_s j0.1, oj]; rfl
            have := cn_le (f := okI s) (i := j + 1) (j := 960 * s.a.n 0) (by omega) (by omega)
            omega
          have e : a_thief s k v = (if v = 0 then j / 960 else if v = 1 then j / 20 % 48 else j % 20 + 1) := by unfold a_thief; rw [if_pos hc, if_neg c4, ekt]
          rw [e] at hq
          have h' := hq g1 q.1 q.2
          by_cases v0 : v = 0
          · rw [if_pos (congrArg z v0), e5]
            rw [if_pos v0] at h'; exact h'
          · rw [if_neg (z_ne (by omega) (by omega) (by omega) (by omega) v0), zn_1]
            rw [if_neg v0] at h'
            by_cases v1 : v = 1
            · rw [if_pos (congrArg z v1), e6]
              rw [if_pos v1] at h'; exact h'
            · rw [if_neg (z_ne (by omega) (by omega) (by omega) (by omega) v1), e7]
              rw [if_neg v1] at h'; exact h'
      · rw [if_neg (by rw [z_le (by omega) (by omega) (by omega) (by omega)]; omega)]; exact ref (by omega)
end SEEK
