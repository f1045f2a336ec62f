/-! ===== pieces weighed ===== -/
section SPANS
variable {a : Wd} {j : Int}
theorem cn_run {f : Int → Bool} {i : Int} (h : 0 ≤ i) : ∀ d : Nat, (∀ q, i ≤ q → q < i + d → f q = true) → cn f (i + d) = cn f i + d
  | 0, _ => by rw [show i + ((0 : Nat) : Int) = i by omega]; omega
  | d + 1, hf => by
    rw [show i + ((d + 1 : Nat) : Int) = (i + d) + 1 by omega, cn_s (by omega), cn_run h d (fun q q0 q1 => hf q q0 (by omega)), hf (i + d) (by omega) (by omega), if_pos rfl]; omega
theorem cn_run' {f : Int → Bool} {i d : Int} (h : 0 ≤ i) (h2 : i ≤ d) (hf : ∀ q, i ≤ q → q < d → f q = true) : cn f d = cn f i + (d - i) := by
  have := cn_run (f := f) h (d - i).toNat (fun q q0 q1 => hf q q0 (by omega))
  rw [show i + ((d - i).toNat : Int) = d by omega] at this
  omega
theorem mi_run {f : Int → Bool} {k F : Int} (h : 0 ≤ k) (hF : 0 ≤ F) : ∀ d : Nat, F + d < 48 → (∀ q, 48 * k + F ≤ q → q < 48 * k + F + (d + 1) → f q = true) → mi f (48 * k + F + (d + 1)) = min (mi f (48 * k + F)) F
  | 0, h4, hf => by
    rw [show 48 * k + F + (((0 : Nat) : Int) + 1) = 48 * k + F + 1 by omega, mi_s (by omega), hf _ (by omega) (by omega), if_pos rfl, show (48 * k + F) % 48 = F by omega]
  | d + 1, h4, hf => by
    rw [show 48 * k + F + (((d + 1 : Nat) : Int) + 1) = 48 * k + F + (d + 1) + 1 by omega, mi_s (by omega), mi_run h hF d (by omega) (fun q q0 q1 => hf q q0 (by omega)), hf _ (by omega) (by omega), if_pos rfl, show (48 * k + F + ((d : Int) + 1)) % 48 = F + (d + 1) by omega]
    omega
theorem ex_run {f : Int → Bool} {i d : Int} (h : 0 ≤ i) (h2 : i < d) (hf : ∀ q, i ≤ q → q < d → f q = true) : ex f d = true := by
  unfold ex
  rw [cn_run' h (by omega) hf]
  have := cn_rg f h
  exact decide_eq_true (by omega)
theorem al_in {k m : Int} (hj : plb a k = j) (hm : 0 ≤ m ∧ m < 48) (h : spF a k ≤ m ∧ m ≤ spT a k) : itB a j al (48 * k + m) = true := by
  rw [itB_at hm.1 hm.2, decide_eq_true hj, decide_eq_true h.1, decide_eq_true h.2]; rfl
theorem al_out {ok : Int → Bool} {k m : Int} (hm : 0 ≤ m ∧ m < 48) (h : ¬ (plb a k = j ∧ spF a k ≤ m ∧ m ≤ spT a k)) : itB a j ok (48 * k + m) = false := by
  rw [itB_at hm.1 hm.2]
  by_cases c : plb a k = j
  · by_cases c2 : spF a k ≤ m
    · rw [decide_eq_false (by omega : ¬ m ≤ spT a k)]; simp
    · rw [decide_eq_false c2]; simp
  · rw [decide_eq_false c]; simp
theorem al_off {ok : Int → Bool} {k : Int} (hj : plb a k ≠ j) : ∀ i, 48 * k ≤ i → i < 48 * (k + 1) → itB a j ok i = false := fun i i0 i1 => by
  rw [show i = 48 * k + (i - 48 * k) by omega]
  exact al_out (by omega) (fun x => hj x.1)
theorem al_run {k : Int} (hj : plb a k = j) (hr : 0 ≤ spF a k ∧ spT a k ≤ 47) : ∀ q, 48 * k + spF a k ≤ q → q < 48 * k + (spT a k + 1) → itB a j al q = true := fun q q0 q1 => by
  rw [show q = 48 * k + (q - 48 * k) by omega]
  exact al_in hj (by omega) (by omega)
theorem al_lo {ok : Int → Bool} {k : Int} : ∀ q, 48 * k ≤ q → q < 48 * k + spF a k → spF a k ≤ 47 → itB a j ok q = false := fun q q0 q1 h => by
  rw [show q = 48 * k + (q - 48 * k) by omega]
  exact al_out (by omega) (by omega)
theorem al_hi {ok : Int → Bool} {k : Int} (h : 0 ≤ spT a k) : ∀ q, 48 * k + (spT a k + 1) ≤ q → q < 48 * (k + 1) → itB a j ok q = false := fun q q0 q1 => by
  rw [show q = 48 * k + (q - 48 * k) by omega]
  exact al_out (by omega) (by omega)
theorem span_cn {k : Int} (hk : 0 ≤ k) (hj : plb a k = j) (hr : 0 ≤ spF a k ∧ spF a k ≤ spT a k ∧ spT a k ≤ 47) : cn (itB a j al) (48 * (k + 1)) = cn (itB a j al) (48 * k) + (spT a k - spF a k + 1) := by
  rw [cn_skip' (i := 48 * k + (spT a k + 1)) (by omega) (by omega) (al_hi (by omega)), cn_run' (i := 48 * k + spF a k) (by omega) (by omega) (al_run hj (by omega)), cn_skip' (f := itB a j al) (i := 48 * k) (d := 48 * k + spF a k) (by omega) (by omega) (fun q q0 q1 => al_lo q q0 q1 (by omega))]
  omega
theorem span_mi {k : Int} (hk : 0 ≤ k) (hj : plb a k = j) (hr : 0 ≤ spF a k ∧ spF a k ≤ spT a k ∧ spT a k ≤ 47) : mi (itB a j al) (48 * (k + 1)) = min (mi (itB a j al) (48 * k)) (spF a k) := by
  rw [mi_skip (i := 48 * k + (spT a k + 1)) (by omega) (by omega) (al_hi (by omega))]
  have := mi_run (f := itB a j al) hk hr.1 (spT a k - spF a k).toNat (by omega) (fun q q0 q1 => al_run hj (by omega) q q0 (by omega))
  rw [show 48 * k + spF a k + (((spT a k - spF a k).toNat : Int) + 1) = 48 * k + (spT a k + 1) by omega] at this
  rw [this, mi_skip (i := 48 * k) (d := 48 * k + spF a k) (by omega) (by omega) (fun q q0 q1 => al_lo q q0 q1 (by omega))]
theorem span_ex {k p : Int} (hk : 0 ≤ k) (hj : plb a k = j) (hr : 0 ≤ spF a k ∧ spF a k ≤ spT a k ∧ spT a k ≤ 47) : ex (itP a j al p) (48 * (k + 1)) = (ex (itP a j al p) (48 * k) || decide (spP a k = p)) := by
  have run : spP a k = p → ∀ q, 48 * k + spF a k ≤ q → q < 48 * k + (spT a k + 1) → itP a j al p q = true := fun e q q0 q1 => by
    unfold itP
    rw [al_run hj (by omega) q q0 q1, show q / 48 = k by omega, decide_eq_true e]; rfl
  rw [ex_skip (i := 48 * k + (spT a k + 1)) (by omega) (by omega) (fun q q0 q1 => itP_no (al_hi (by omega) q q0 q1))]
  by_cases e : spP a k = p
  · rw [decide_eq_true e, Bool.or_true]
    unfold ex
    rw [cn_run' (i := 48 * k + spF a k) (by omega) (by omega) (run e)]
    have := cn_rg (itP a j al p) (n := 48 * k + spF a k) (by omega)
    exact decide_eq_true (by omega)
  · rw [decide_eq_false e, Bool.or_false, ex_skip (i := 48 * k) (by omega) (by omega) (fun q q0 q1 => ?_)]
    unfold itP
    rw [show q / 48 = k by omega, decide_eq_false e, Bool.and_false]
theorem labA_S {k : Int} (h0 : 0 ≤ k) (h1 : k < spS a) : labA (tch a) (spS a) (spS a) k = plb a k := by
  have := fsp_at (t := tch a) h0 h1
  unfold labA plb
  rw [if_pos (by omega)]
theorem pcN_rg (h6 : 0 ≤ a.n 0 ∧ a.n 0 ≤ 6) : 0 ≤ pcN a ∧ pcN a ≤ 144 := by
  have sr := spS_rg h6
  have := cn_rg (isF (tch a) (spS a)) sr.1
  unfold pcN; omega
/-- the columns of a piece's row -/
noncomputable def pcol (a : Wd) (j c : Int) : Int := if c = 0 then pcM a j al else if c = 1 then pcQ a j al else if c = 2 then hB a j else if c = 3 then wrt a (pcM a j al) (pcQ a j al) (pc (hB a j)) (pcF a j al) else if c = 4 then pcF a j al else pcS a j
end SPANS
def PcV (h : PH) (a : Wd) (n : Int) : Prop := ∀ j : Int, 0 ≤ j → j < n → ∀ c : Int, 0 ≤ c → c < 6 → gI h 116 (j * 6 + c).toNat = z (pcol a j c)
section WEIGH
variable {h : PH} {w : Nat} {a : Wd} {j : Int}
theorem PcA.at' {g : PH} (P : PcA h a) (e : ∀ c k, 113 ≤ c → c ≤ 115 → At h g c k) : PcA g a := ⟨P.1.at' (fun c k hc => e c k (by omega) (by omega)), P.2.at' (fun k => e 115 k (by omega) (by omega))⟩
theorem PcV.at' {g : PH} {n : Int} (P : PcV h a n) (e : ∀ k, At h g 116 k) : PcV g a n := fun j j0 j1 c c0 c1 => by rw [(e _).1]; exact P j j0 j1 c c0 c1
theorem x_put6 {Q : PH → Prop} {y0 y2 y3 y4 y5 n : Int} {f : Int → Bool} {x : Int32} (n0 : 0 ≤ n) (n9 : n ≤ 9) (ex : x = nI (wdN f n.toNat)) (R : Rw h 115 6 144 (pcN a)) (hj : 0 ≤ j ∧ j < pcN a) (hv : ∀ c, 0 ≤ c → c < 6 → pcol a j c = if c = 0 then y0 else if c = 1 then cn f n else if c = 2 then y2 else if c = 3 then y3 else if c = 4 then y4 else y5) (V : PcV h a j) (hq : ∀ g, (∀ c k, ¬ (c = 116) → At h g c k) → PcV g a (j + 1) → Q g) : w_X6_put 115 (z j) 0 (z y0) h (fun h1 => w_J6_bitCount_0f7a4 x h1 (fun z30 h1 => w_X6_put 115 (z j) 1 z30 h1 (fun h2 => w_X6_put 115 (z j) 2 (z y2) h2 (fun h3 => w_X6_put 115 (z j) 3 (z y3) h3 (fun h4 => w_X6_put 115 (z j) 4 (z y4) h4 (fun h5 => w_X6_put 115 (z j) 5 (z y5) h5 Q)))))) := by
  refine x_put R rfl (c := 0) rfl hj.1 hj.2 (by omega) (by omega) ?_
  refine x_bits n0 n9 ex ?_
  refine x_put (R.at' (fun k => (At.rf h 115 k).sI (by omega))) rfl (c := 1) rfl hj.1 hj.2 (by omega) (by omega) ?_
  refine x_put (R.at' (fun k => ((At.rf h 115 k).sI (by omega)).sI (by omega))) rfl (c := 2) rfl hj.1 hj.2 (by omega) (by omega) ?_
  refine x_put (R.at' (fun k => (((At.rf h 115 k).sI (by omega)).sI (by omega)).sI (by omega))) rfl (c := 3) rfl hj.1 hj.2 (by omega) (by omega) ?_
  refine x_put (R.at' (fun k => ((((At.rf h 115 k).sI (by omega)).sI (by omega)).sI (by omega)).sI (by omega))) rfl (c := 4) rfl hj.1 hj.2 (by omega) (by omega) ?_
  refine x_put (R.at' (fun k => (((((At.rf h 115 k).sI (by omega)).sI (by omega)).sI (by omega)).sI (by omega)).sI (by omega))) rfl (c := 5) rfl hj.1 hj.2 (by omega) (by omega) ?_
  refine hq _ (fun c k hc => ((((((At.rf h c k).sI (by omega)).sI (by omega)).sI (by omega)).sI (by omega)).sI (by omega)).sI (by omega)) (fun i i0 i1 c c0 c1 => ?_)
  show gI _ 116 _ = _
  by_cases e : i = j
  · subst e
    have v := hv c c0 c1
    have : c = 0 ∨ c = 1 ∨ c = 2 ∨ c = 3 ∨ c = 4 ∨ c = 5 := by omega
    rcases this with rfl | rfl | rfl | rfl | rfl | rfl
    · rw [gI_out (by omega), gI_out (by omega), gI_out (by omega), gI_out (by omega), gI_out (by omega), gI_in rfl rfl, v]; rfl
    · rw [gI_out (by omega), gI_out (by omega), gI_out (by omega), gI_out (by omega), gI_in rfl rfl, v]; rfl
    · rw [gI_out (by omega), gI_out (by omega), gI_out (by omega), gI_in rfl rfl, v]; rfl
    · rw [gI_out (by omega), gI_out (by omega), gI_in rfl rfl, v]; rfl
    · rw [gI_out (by omega), gI_in rfl rfl, v]; rfl
    · rw [gI_in rfl rfl, v]; rfl
  · rw [gI_out (by omega), gI_out (by omega), gI_out (by omega), gI_out (by omega), gI_out (by omega), gI_out (by omega)]
    exact V i i0 (by omega) c c0 c1
def PcX (h : PH) (a : Wd) : Prop := PcA h a ∧ PcV h a (pcN a)
theorem x_weigh {Q : PH → Prop} (H : WX h w a) (W : Wf a.wo) (hw : w = 8 ∨ w = 31) (O : HoX h 100 a (far a (-1))) (ON : OkN a) (OC : OkC a) (h6 : 0 ≤ a.n 0 ∧ a.n 0 ≤ 6) (P : PcA h a) (hq : ∀ g, (∀ c k, ¬ (c = 116 ∨ (119 ≤ c ∧ c ≤ 121) ∨ c = w + 21 ∨ c = w + 22) → At h g c k) → PcX g a → Q g) : w_X3_weigh w 100 h Q := by
  have sr := spS_rg h6
  have pr := pcN_rg h6
  unfold w_X3_weigh
  refine for10 (pcN a) (fun j g => (∀ c k, ¬ (c = 116 ∨ (119 ≤ c ∧ c ≤ 121) ∨ c = w + 21 ∨ c = w + 22) → At h g c k) ∧ PcV g a j) 0 rfl (by omega) (by omega) (by omega) ⟨fun c k _ => At.rf h c k, fun j j0 j1 => by omega⟩ ?_ ?_
  · rintro kb j g j0 j1 ⟨hf, hV⟩ hn
    have Pg : PcA g a := P.at' (fun c k _ _ => hf c k (by omega))
    have Og : HoX g 100 a (far a (-1)) := fun p m p0 p1 m0 m1 => by rw [(hf (100 + 5) _ (by omega)).1]; exact O p m p0 p1 m0 m1
    have Hg : WX g w a := H.at' (fun c k b1 b2 b3 b4 b5 b6 => hf c k (by omega))
    unfold w_X3_weigh_2
    rw [Pg.2.2.2.1, if_neg (by rw [z_le (by omega) (by omega) (by omega) (by omega)]; omega), z_inc]
    refine x_survey Pg.1 (fun k k0 k1 => labA_S k0 k1) Og ON OC h6 (by omega) (fun g1 f1 V1 => ?_)
    have P1 : PcA g1 a := Pg.at' (fun c k _ _ => f1 c k (by omega))
    refine for54 (spS a) (fun k x4 x5 x6 x7 g2 => g2 = g1 ∧ x4 = z (cn (itB a j al) (48 * k)) ∧ (∀ l : Nat, l < 32 → bt x5 l = ex (itP a j al l) (48 * k)) ∧ x6 = z (mi (itB a j al) (48 * k)) ∧ x7 = z (cn (fun k => decide (plb a k = j)) k)) 0 rfl (by omega) (by omega) (by omega) ⟨rfl, rfl, fun l hl => by rw [bt_0 l hl]; rfl, rfl, rfl⟩ ?_ ?_
    · rintro kb2 k _ x5 _ _ g2 k0 k1 ⟨e2, rfl, hx, rfl, rfl⟩ hn2
      subst e2
      obtain ⟨⟨i1, i2⟩, i3, i4, i5⟩ := sp_rg h6.1 k0 k1
      have lr := lab_rg (t := tch a) k0 k1
      obtain ⟨q0, q1, q2, q3⟩ := P1.1.2 k k0 k1
      rw [labA_S k0 k1] at q3
      have mr := mi_rg (itB a j al) (48 * k)
      have cs := cn_s (f := fun k => decide (plb a k = j)) k0
      unfold w_X3_weigh_35
      rw [P1.1.1.2.2.1, if_neg (by rw [z_le (by omega) (by omega) (by omega) (by omega)]; omega), z_inc, z_inc]
      refine x_at P1.1.1 rfl (c := 3) rfl k0 k1 (by omega) (by omega) ?_
      show (if gI g2 (113 + 1) (k * 4 + 3).toNat = z j then _ else _)
      rw [show gI g2 (113 + 1) (k * 4 + 3).toNat = z (plb a k) from q3]
      have pr2 : 0 ≤ plb a k ∧ plb a k < 1000 := by unfold plb; omega
      by_cases c : plb a k = j
      · rw [if_pos (by rw [c])]
        refine x_at P1.1.1 rfl (c := 2) rfl k0 k1 (by omega) (by omega) ?_
        rw [q2]
        refine x_at P1.1.1 rfl (c := 1) rfl k0 k1 (by omega) (by omega) ?_
        rw [q1]
        rintro _ rfl
        refine x_at P1.1.1 rfl (c := 0) rfl k0 k1 (by omega) (by omega) ?_
        rw [q0]
        rintro _ rfl
        refine x_at P1.1.1 rfl (c := 1) rfl k0 k1 (by omega) (by omega) ?_
        rw [q1]
        rintro _ rfl
        rw [decide_eq_true c, if_pos rfl] at cs
        refine hn2 _ _ _ _ _ ⟨rfl, ?_, fun l hl => ?_, ?_, by rw [cs]⟩
        · rw [zn_1, z_sub, z_add, z_add, span_cn k0 c ⟨i3, i4, i5⟩]
        · rw [bt_on i1 (by omega) hl, hx l hl, span_ex k0 c ⟨i3, i4, i5⟩]
          by_cases e : spP a k = (l : Int)
          · rw [decide_eq_true e, decide_eq_true (by omega : l = (spP a k).toNat)]
          · rw [decide_eq_false e, decide_eq_false (by omega : ¬ l = (spP a k).toNat)]
        · rw [z_mnI (by omega) (by omega) (by omega) (by omega), span_mi k0 c ⟨i3, i4, i5⟩]
      · rw [if_neg (show ¬ z (plb a k) = z j from z_ne (by omega) (by omega) (by omega) (by omega) c)]
        rw [decide_eq_false c, if_neg (by decide), Int.add_zero] at cs
        refine hn2 _ _ _ _ _ ⟨rfl, ?_, fun l hl => ?_, ?_, by rw [cs]⟩
        · rw [cn_skip' (by omega) (by omega) (al_off c)]
        · rw [hx l hl, ex_skip (i := 48 * k) (d := 48 * (k + 1)) (by omega) (by omega) (fun q q0 q1 => itP_no (al_off c q q0 q1))]
        · rw [mi_skip (i := 48 * k) (d := 48 * (k + 1)) (by omega) (by omega) (al_off c)]
    · rintro kb2 _ x5 _ _ g2 ⟨e2, rfl, hx, rfl, rfl⟩
      subst e2
      have m1 := pcM_rg h6 al (j := j)
      have m2 := pcQ_rg h6 al (j := j)
      have m3 : 0 ≤ pcF a j al ∧ pcF a j al ≤ 48 := mi_rg _ _
      have m4 := hB_rg a j
      have m5 := pc_rg (hB a j)
      have wx := pcQ_wd (a := a) (j := j) h6 (ok := al) hx
      unfold w_X3_weigh_35
      rw [P1.1.1.2.2.1, if_pos (by rw [z_le (by omega) (by omega) (by omega) (by omega)]; omega)]
      refine x_holders h6 V1 ?_
      refine x_bits (f := fun l => pcP a j al l) h6.1 (by omega) (wd_ext wx) ?_
      refine x_pc m4.1 (by omega) (fun h9 => ?_)
      have H1 : WX g2 w a := Hg.at' (fun c k b1 b2 b3 b4 b5 b6 => f1 c k (by omega))
      show w_X3_worth w (z (pcM a j al)) (z (pcQ a j al)) (z (pc (hB a j))) (z (pcF a j al)) g2 _
      refine x_worth H1 W (by omega) (by omega) (by omega) (by omega) (fun g3 f3 => ?_)
      have P3 : PcA g3 a := P1.at' (fun c k _ _ => f3 c k (by omega))
      have V3 : PcV g3 a j := hV.at' (fun k => (f1 116 k (by omega)).tr (f3 116 k (by omega)))
      refine x_put6 (f := fun l => pcP a j al l) h6.1 (by omega) (wd_ext wx) P3.2 ⟨j0, j1⟩ (fun c c0 c1 => ?_) V3 (fun g4 f4 V4 => hn g4 ⟨fun c k hc => (((hf c k hc).tr (f1 c k (by omega))).tr (f3 c k (by omega))).tr (f4 c k (by omega)), V4⟩)
      unfold pcol
      rfl
  · rintro kb g ⟨hf, hV⟩
    have Pg : PcA g a := P.at' (fun c k _ _ => hf c k (by omega))
    unfold w_X3_weigh_2
    rw [Pg.2.2.2.1, if_pos (by rw [z_le (by omega) (by omega) (by omega) (by omega)]; omega)]
    exact hq g hf ⟨Pg, hV⟩
end WEIGH
