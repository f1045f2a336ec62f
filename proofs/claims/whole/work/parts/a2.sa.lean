/-! ===== dogs that answer ===== -/
def anyH (a : Wd) (v p : Int) : Bool := decide (ff (fun q => tb v q && decide (far a (-1) q p ≤ a.f 0 1 p)) (a.n 0) ≠ -1)
def nbF (a : Wd) (v : Int) : Int → Bool := fun p => dg a p && !tb v p && anyH a v p
def nb (a : Wd) (v : Int) : Int := ((wdN (nbF a v) (a.n 0).toNat : Nat) : Int)
theorem nb_rg {a : Wd} (h : 0 ≤ a.n 0 ∧ a.n 0 ≤ 6) (v : Int) : 0 ≤ nb a v ∧ nb a v < 64 := by
  have := wdN_lt (nbF a v) (a.n 0).toNat
  have h2 : 2 ^ (a.n 0).toNat ≤ 2 ^ 6 := Nat.pow_le_pow_right (by decide) (by omega)
  unfold nb
  omega
def bk (a : Wd) : Nat → Int → Int → Int → (Int → Int) → Int × Int × Int × (Int → Int)
  | 0, c, m, x, A => (c, m, x, A)
  | f + 1, c, m, x, A => if c ≠ 0 ∧ A c = -1 then bk a f (nb a c) (m + 1) (max x (pc c)) (fun v => if v = c then m else A v) else (c, m, x, A)
def unv (A : Int → Int) : Int := cn (fun v => decide (A v = -1)) 64
theorem unv_rg (A : Int → Int) : 0 ≤ unv A ∧ unv A ≤ 64 := by
  have := cn_rg (fun v => decide (A v = -1)) (n := 64) (by omega)
  unfold unv; omega
theorem unv_s {A : Int → Int} {c m : Int} (h0 : 0 ≤ c) (h1 : c < 64) (hA : A c = -1) (hm : 0 ≤ m) : unv A = unv (fun v => if v = c then m else A v) + 1 := by
  have s := sm_upd (f := fun v => if decide ((if v = c then m else A v) = -1) = true then 1 else 0) (d := 1) h0 64
  unfold unv cn
  rw [if_pos (show c < ((64 : Nat) : Int) by omega)] at s
  rw [show ((64 : Nat) : Int) = 64 by omega] at s
  rw [← s]
  refine sm_cong (fun v v0 v1 => ?_)
  show (if decide (A v = -1) = true then (1 : Int) else 0) = (if v = c then (if decide ((if v = c then m else A v) = -1) = true then 1 else 0) + 1 else if decide ((if v = c then m else A v) = -1) = true then 1 else 0)
  by_cases e : v = c
  · rw [if_pos e, if_pos e, e, hA, if_pos (by decide), if_neg (by rw [decide_eq_false (by omega : ¬ m = -1)]; decide)]; rfl
  · rw [if_neg e, if_neg e]
theorem unv_1 : unv (fun _ => -1) = 64 := by decide +kernel
theorem bk_stop {a : Wd} {c m x : Int} {A : Int → Int} (h : ¬ (c ≠ 0 ∧ A c = -1)) : ∀ f, bk a f c m x A = (c, m, x, A)
  | 0 => rfl
  | f + 1 => if_neg h
def okB (a : Wd) (d : Int) : Bool := decide (ff (fun p => tb d p && !(decide (p < a.n 0) && dg a p)) 6 = -1)
def bkR (a : Wd) (d : Int) : Int × Int × Int × (Int → Int) := bk a 64 d 0 0 (fun _ => -1)
def bkA (r : Int × Int × Int × (Int → Int)) (w : Int) : Int := if w = 2 then r.2.2.1 else if w = 1 then (if r.1 = 0 then 0 else r.2.1 - r.2.2.2 r.1) else (if r.1 = 0 then r.2.1 else -2)
def a_bark (a : Wd) (d w : Int) : Int := if (0 ≤ d ∧ d < 64) ∧ okB a d = true ∧ (0 ≤ w ∧ w ≤ 2) then bkA (bkR a d) w else -1
theorem okB_iff {a : Wd} {d : Int} : okB a d = true ↔ ∀ p, 0 ≤ p → p < 6 → tb d p = true → p < a.n 0 ∧ dg a p = true := by
  unfold okB
  rw [decide_eq_true_eq]
  rcases ff_ca (fun p => tb d p && !(decide (p < a.n 0) && dg a p)) 6 with ⟨e, hn⟩ | ⟨h1, h2, h3, h4⟩
  · refine ⟨fun _ p p0 p1 hp => ?_, fun _ => e⟩
    have := hn p p0 p1
    rw [hp, Bool.true_and, Bool.not_eq_false', Bool.and_eq_true, decide_eq_true_eq] at this
    exact this
  · refine ⟨fun x => by omega, fun h => ?_⟩
    exfalso
    rw [Bool.and_eq_true, Bool.not_eq_true'] at h3
    have := h _ h1 h2 h3.1
    rw [decide_eq_true this.1, this.2] at h3
    exact absurd h3.2 (by decide)
theorem anyH_iff {a : Wd} {v p : Int} : anyH a v p = true ↔ ∃ q, 0 ≤ q ∧ q < a.n 0 ∧ tb v q = true ∧ far a (-1) q p ≤ a.f 0 1 p := by
  unfold anyH
  rw [decide_eq_true_eq]
  rcases ff_ca (fun q => tb v q && decide (far a (-1) q p ≤ a.f 0 1 p)) (a.n 0) with ⟨e, hn⟩ | ⟨h1, h2, h3, h4⟩
  · refine ⟨fun x => absurd e x, fun ⟨q, q0, q1, q2, q3⟩ => ?_⟩
    have := hn q q0 q1
    rw [q2, decide_eq_true q3] at this
    exact absurd this (by decide)
  · rw [Bool.and_eq_true, decide_eq_true_eq] at h3
    exact ⟨fun _ => ⟨_, h1, h2, h3.1, h3.2⟩, fun _ => by omega⟩
def muB (c : Nat) (h : PH) : Nat := (cn (fun v => decide (gI h c v.toNat = z (-1))) 64).toNat
def ArB (h : PH) (c : Nat) (A : Int → Int) : Prop := ∀ v : Int, 0 ≤ v → v < 64 → gI h c v.toNat = z (A v) ∧ -1 ≤ A v ∧ A v ≤ 64
theorem muB_eq {h : PH} {c : Nat} {A : Int → Int} (H : ArB h c A) : muB c h = (unv A).toNat := by
  unfold muB unv
  congr 1
  refine sm_cong (fun v v0 v1 => ?_)
  obtain ⟨e, b1, b2⟩ := H v v0 v1
  show (if decide (gI h c v.toNat = z (-1)) = true then (1 : Int) else 0) = if decide (A v = -1) = true then 1 else 0
  rw [e]
  by_cases c1 : A v = -1
  · rw [decide_eq_true c1, decide_eq_true (congrArg z c1)]
  · rw [decide_eq_false c1, decide_eq_false (z_ne (by omega) (by omega) (by omega) (by omega) c1)]
section BARKX
variable {h : PH} {w : Nat} {s : St} {a : Wd}
theorem x_hearsAny {Q : Int32 → PH → Prop} {p v : Int} (H : WX h w a) (X : FX h 100 (far a (-1))) (N : Now a) (hw : w = 8 ∨ w = 31) (eP : gP h 0 3 = w + 1) (hp : 0 ≤ p ∧ p < a.n 0) (hv : 0 ≤ v ∧ v < 64) (hq : Q (z (bI (anyH a v p))) h) : w_X9_hearsAny 100 (z p) (z (a.f 0 1 p)) (z v) h Q := by
  have h6 := N.1.1
  have F3 := (far_gd (-1) N.1).2.2.1
  have n7 := (N.2.2.2.2.2.2.2.2.2.2.2.2.2.2.2.1 p hp.1 hp.2).2
  unfold w_X9_hearsAny
  refine for10 (a.n 0) (fun q g => h = g ∧ ∀ q', 0 ≤ q' → q' < q → ¬ (tb v q' = true ∧ far a (-1) q' p ≤ a.f 0 1 p)) 0 rfl (by omega) (by omega) (by omega) ⟨rfl, fun q' d0 d1 => by omega⟩ ?_ ?_
  · rintro kb q _ q0 q1 ⟨rfl, hJ⟩ hk
    unfold w_X9_hearsAny_3
    rw [eP, show w + 1 - 1 = w by omega, show gI h (w + 1) 3 = z (a.n 0) from (H.n0 0 (by decide)).1]
    refine ⟨by omega, oX_w hw, ?_⟩
    rw [if_neg (by rw [z_le (by omega) (by omega) (by omega) (by omega)]; omega)]
    have f3 := F3 q p
    refine x_way X (by omega) (by omega) f3 ?_
    rw [bitI q0 (by omega), bt_tb hv.1 (by omega), show ((q.toNat : Nat) : Int) = q by omega, z_inc]
    have nx : ¬ (tb v q = true ∧ far a (-1) q p ≤ a.f 0 1 p) → kb (z (q + 1)) h := fun hn => hk h ⟨rfl, fun q' d0 d1 => by
      by_cases e : q' = q
      · rw [e]; exact hn
      · exact hJ q' d0 (by omega)⟩
    cases hb : tb v q with
    | false =>
      rw [if_neg (show ¬ z (if false = true then (1 : Int) else 0) = 1 by decide)]
      exact nx (fun x => by rw [hb] at x; exact absurd x.1 (by decide))
    | true =>
      rw [if_pos (show z (if true = true then (1 : Int) else 0) = 1 from rfl)]
      by_cases c : far a (-1) q p < 100000
      · rw [if_pos c, if_neg (show ¬ z (far a (-1) q p) = -2 from z_ne (by omega) (by omega) (by decide) (by decide) (show far a (-1) q p ≠ -2 by omega))]
        by_cases d : a.f 0 1 p < far a (-1) q p
        · rw [if_pos (by rw [z_lt (by omega) (by omega) (by omega) (by omega)]; omega)]
          exact nx (fun x => by omega)
        · rw [if_neg (by rw [z_lt (by omega) (by omega) (by omega) (by omega)]; omega)]
          have e : anyH a v p = true := anyH_iff.mpr ⟨q, q0, q1, hb, by omega⟩
          rw [e] at hq
          exact hq
      · rw [if_neg c, if_pos (show z (-2) = -2 from rfl)]
        exact nx (fun x => by omega)
  · rintro kb _ ⟨rfl, hJ⟩
    unfold w_X9_hearsAny_3
    rw [eP, show w + 1 - 1 = w by omega, show gI h (w + 1) 3 = z (a.n 0) from (H.n0 0 (by decide)).1]
    refine ⟨by omega, oX_w hw, ?_⟩
    rw [if_pos (by rw [z_le (by omega) (by omega) (by omega) (by omega)]; omega)]
    have e : anyH a v p = false := by
      cases hb : anyH a v p with
      | false => rfl
      | true =>
        obtain ⟨q, q0, q1, q2, q3⟩ := anyH_iff.mp hb
        exact absurd ⟨q2, q3⟩ (hJ q q0 q1)
    rw [e] at hq
    exact hq
theorem x_answer {Q : Int32 → PH → Prop} {v : Int} (H : WX h w a) (X : FX h 100 (far a (-1))) (N : Now a) (hw : w = 8 ∨ w = 31) (eP : gP h 0 3 = w + 1) (hv : 0 ≤ v ∧ v < 64) (hq : Q (z (nb a v)) h) : w_X9_answering 100 (z v) h Q := by
  have h6 := N.1.1
  unfold w_X9_answering
  refine for21 (a.n 0) (fun p x g => h = g ∧ x = nI (wdN (nbF a v) p.toNat)) 0 rfl (by omega) (by omega) (by omega) ⟨rfl, rfl⟩ ?_ ?_
  · rintro kb p _ _ p0 p1 ⟨rfl, rfl⟩ hk
    have n7 := (N.2.2.2.2.2.2.2.2.2.2.2.2.2.2.2.1 p p0 p1).2
    unfold w_X9_answering_5
    rw [eP, show w + 1 - 1 = w by omega, show gI h (w + 1) 3 = z (a.n 0) from (H.n0 0 (by decide)).1]
    refine ⟨by omega, oX_w hw, ?_⟩
    rw [if_neg (by rw [z_le (by omega) (by omega) (by omega) (by omega)]; omega), z_inc]
    refine ⟨by omega, oX_w hw, ?_⟩
    refine H.at 0 1 (by decide) rfl (by decide) rfl rfl p0 p1 ?_
    rw [zn_0]
    have off : nbF a v p = false → kb (nI (wdN (nbF a v) p.toNat)) (z (p + 1)) h := fun e => hk _ _ ⟨rfl, by rw [wd_off p0 e]⟩
    by_cases c : a.f 0 1 p ≤ 0
    · rw [if_pos (by rw [z_le (by omega) (by omega) (by omega) (by omega)]; omega)]
      exact off (by unfold nbF dg; rw [decide_eq_false (by omega)]; rfl)
    · rw [if_neg (by rw [z_le (by omega) (by omega) (by omega) (by omega)]; omega), bitI p0 (by omega), bt_tb hv.1 (by omega), show ((p.toNat : Nat) : Int) = p by omega]
      have ed : dg a p = true := by unfold dg; exact decide_eq_true (by omega)
      cases hb : tb v p with
      | true =>
        rw [if_neg (show ¬ z (if true = true then (1 : Int) else 0) = z 0 by decide)]
        exact off (by unfold nbF; rw [ed, hb]; rfl)
      | false =>
        rw [if_pos (show z (if false = true then (1 : Int) else 0) = z 0 from rfl)]
        refine x_hearsAny H X N hw eP ⟨p0, p1⟩ hv ?_
        cases hc : anyH a v p with
        | false =>
          rw [if_pos (show z (bI false) = z 0 from rfl)]
          exact off (by unfold nbF; rw [ed, hb, hc]; rfl)
        | true =>
          rw [if_neg (show ¬ z (bI true) = z 0 by decide)]
          rintro _ rfl
          rw [wd_on p0 (by omega) (show nbF a v p = true by unfold nbF; rw [ed, hb, hc]; rfl)]
          exact hk _ _ ⟨rfl, rfl⟩
  · rintro kb _ _ ⟨rfl, rfl⟩
    unfold w_X9_answering_5
    rw [eP, show w + 1 - 1 = w by omega, show gI h (w + 1) 3 = z (a.n 0) from (H.n0 0 (by decide)).1]
    refine ⟨by omega, oX_w hw, ?_⟩
    rw [if_pos (by rw [z_le (by omega) (by omega) (by omega) (by omega)]; omega)]
    have e : nI (wdN (nbF a v) (a.n 0).toNat) = z (nb a v) := by unfold nb; rw [z_nI]
    rw [e]
    exact hq
theorem dogs_iff {d : Int} (h6 : 0 ≤ a.n 0 ∧ a.n 0 ≤ 6) (hd : 0 ≤ d ∧ d < 2147483648) : (z d &&& (nI (wdN (dg a) (a.n 0).toNat) ^^^ (-1))) = 0 ↔ (d < 64 ∧ okB a d = true) := by
  have bits : ∀ l : Nat, l < 32 → bt (z d &&& (nI (wdN (dg a) (a.n 0).toNat) ^^^ (-1))) l = (tb d l && !(decide (l < (a.n 0).toNat) && dg a l)) := fun l hl => by
    rw [b_and, b_xor, b_m1 l hl, bt_tb hd.1 hl, bt_wd hl, Bool.xor_true]
  constructor
  · intro e
    have z0 : ∀ l : Nat, l < 32 → tb d l = true → l < (a.n 0).toNat ∧ dg a l = true := by
      intro l hl ht
      have b := bits l hl
      rw [e, show (0 : Int32) = z 0 from rfl, bt_z0 l hl, ht, Bool.true_and] at b
      have := b.symm
      rw [Bool.not_eq_false', Bool.and_eq_true, decide_eq_true_eq] at this
      exact this
    constructor
    · have : d.toNat < 2 ^ 6 := by
        refine Nat.lt_pow_two_of_testBit _ (fun i hi => ?_)
        by_cases h32 : i < 32
        · cases ht : d.toNat.testBit i with
          | false => rfl
          | true =>
            have := z0 i h32 (by unfold tb; rw [show ((i : Nat) : Int).toNat = i by omega]; exact ht)
            omega
        · exact Nat.testBit_lt_two_pow (Nat.lt_of_lt_of_le (by omega : d.toNat < 2 ^ 31) (Nat.pow_le_pow_right (by decide) (by omega)))
      omega
    · refine okB_iff.mpr (fun p p0 p1 hp => ?_)
      have := z0 p.toNat (by omega) (by rw [show ((p.toNat : Nat) : Int) = p by omega]; exact hp)
      rw [show ((p.toNat : Nat) : Int) = p by omega] at this
      exact ⟨by omega, this.2⟩
  · rintro ⟨h64, ok⟩
    refine bt_none (fun l hl => ?_)
    rw [bits l hl]
    cases ht : tb d l with
    | false => rfl
    | true =>
      have l6 : l < 6 := by
        by_cases c : l < 6
        · exact c
        · exfalso
          unfold tb at ht
          rw [Nat.testBit_lt_two_pow (Nat.lt_of_lt_of_le (by omega : d.toNat < 2 ^ 6) (Nat.pow_le_pow_right (by decide) (by omega)))] at ht
          exact absurd ht (by decide)
      have := okB_iff.mp ok l (by omega) (by omega) ht
      rw [decide_eq_true (by omega : l < (a.n 0).toNat), this.2]; rfl
theorem x_isState {c : Int} {h : PH} {Q : Int32 → PH → Prop} (hc : 0 ≤ c ∧ c < 64) (h0 : c = 0 → Q 0 h) (h1 : c ≠ 0 → Q 1 h) : w_X9_isState (z c) h Q := by
  unfold w_X9_isState
  rw [zn_0, zn_64]
  by_cases c0 : c = 0
  · rw [if_pos (by rw [z_le (by omega) (by omega) (by omega) (by omega)]; omega)]; exact h0 c0
  · rw [if_neg (by rw [z_le (by omega) (by omega) (by omega) (by omega)]; omega), if_neg (by rw [z_le (by omega) (by omega) (by omega) (by omega)]; omega)]; exact h1 c0
theorem xs_bark {Q : Int32 → PH → Prop} {d v : Int} (I : IX h w s) (hd : i32 d) (hv : i32 v) (hq : ∀ g, IX g w s → KpX h g → Q (z (a_bark s.a d v)) g) : w_X9_bark (z d) (z v) h Q := by
  obtain ⟨p1, p2, p3⟩ := I.1.p
  have n1 := I.1.1
  have n3 := I.1.2.2.1
  have n4 := I.1.2.2.2.1
  have hw := I.w
  have h6 := n4.1.1
  have hd1 := hd.1
  have hd2 := hd.2
  have hv1 := hv.1
  have hv2 := hv.2
  have ref : ¬ ((0 ≤ d ∧ d < 64) ∧ okB s.a d = true ∧ (0 ≤ v ∧ v ≤ 2)) → Q (-1) h := fun c => by
    have e : a_bark s.a d v = -1 := if_neg c
    rw [e] at hq
    exact hq h I (KpX.rf h)
  unfold w_X9_bark
  rw [zn_0]
  by_cases c1 : d < 0
  · rw [if_pos (by rw [z_lt (by omega) (by omega) (by omega) (by omega)]; omega)]; exact ref (by omega)
  · rw [if_neg (by rw [z_lt (by omega) (by omega) (by omega) (by omega)]; omega)]
    by_cases c2 : v < 0
    · rw [if_pos (by rw [z_lt (by omega) (by omega) (by omega) (by omega)]; omega)]; exact ref (by omega)
    · rw [if_neg (by rw [z_lt (by omega) (by omega) (by omega) (by omega)]; omega), zn_2]
      by_cases c3 : 2 < v
      · rw [if_pos (by rw [z_lt (by omega) (by omega) (by omega) (by omega)]; omega)]; exact ref (by omega)
      · rw [if_neg (by rw [z_lt (by omega) (by omega) (by omega) (by omega)]; omega), p3]
        refine ⟨p1, oX_w n1, ?_⟩
        refine x_dogs n3 n4 ?_
        have di := dogs_iff (a := s.a) (d := d) h6 ⟨by omega, hd2⟩
        by_cases c4 : d < 64 ∧ okB s.a d = true
        · rw [if_pos (show (z d &&& (nI (wdN (dg s.a) (s.a.n 0).toNat) ^^^ (-1))) = z 0 from di.mpr c4)]
          have ea : a_bark s.a d v = bkA (bkR s.a d) v := if_pos ⟨⟨by omega, c4.1⟩, c4.2, by omega⟩
          rw [ea] at hq
          refine for10 64 (fun i g => (∀ c k, ¬ (c = 137) → At h g c k) ∧ ∀ v : Int, 0 ≤ v → v < i → gI g 137 v.toNat = z (-1)) 0 rfl (by omega) (by omega) (by omega) ⟨fun c k _ => At.rf h c k, fun v d0 d1 => by omega⟩ ?_ ?_
          · rintro kb i g i0 i1 ⟨hf, hJ⟩ hk
            unfold w_X9_bark_31
            rw [zn_64, if_neg (by rw [z_le (by omega) (by omega) (by omega) (by omega)]; omega), z_iN (by omega) (by omega), z_inc]
            refine ⟨z_in (by omega) (by omega) (by omega), ?_⟩
            rintro _ rfl
            refine hk _ ⟨fun c k hc => (hf c k hc).sI (by omega), fun v v0 v1 => ?_⟩
            by_cases e : v = i
            · rw [e, gI_in rfl rfl]; rfl
            · rw [gI_out (by omega)]; exact hJ v v0 (by omega)
          · rintro kb g ⟨hf, hJ⟩
            unfold w_X9_bark_31
            rw [zn_64, if_pos (by rw [z_le (by omega) (by omega) (by omega) (by omega)]; omega)]
            have Ng : NX g w (mkd (fl h) s.a) := I.gh.at' (fun k => hf 0 k (by omega)) (fun c k b1 b2 b3 => hf c k (by omega)) (fun c k b1 b2 => hf c k (by omega))
            refine x_freshAir Ng (fun g1 f1 N1 A1 => ?_)
            rw [far_sa (mkd_sa _ _)] at A1
            have A' := A1.sa (mkd_sa _ _).sy
            have W1 : WX g1 w s.a := N1.2.2.1.ext (fun r hr => (mkd_n (by omega)).symm) (fun r c k _ _ _ _ => rfl) (fun c => rfl) rfl rfl
            have Ar1 : ArB g1 137 (fun _ => -1) := fun v v0 v1 => ⟨by rw [(f1 137 _ (by unfold airR; omega)).1]; exact hJ v v0 v1, by show (-1 : Int) ≤ -1; omega, by show (-1 : Int) ≤ 64; omega⟩
            refine ⟨rfl, ?_⟩
            generalize hR : bkR s.a d = R at *
            unfold bkR at hR
            refine lp3_i (fun x4 x5 x6 g => ∃ (fu : Nat) (c m x : Int) (A : Int → Int), x4 = z c ∧ x5 = z x ∧ x6 = z m ∧ (0 ≤ c ∧ c < 64) ∧ (0 ≤ x ∧ x ≤ 10) ∧ 0 ≤ m ∧ m + unv A = 64 ∧ unv A ≤ fu ∧ ArB g 137 A ∧ (∀ c k, ¬ (c = 137) → At g1 g c k) ∧ bk s.a fu c m x A = R) (fun _ _ _ g => muB 137 g) ?_ _ _ _ _ ⟨64, d, 0, 0, fun _ => -1, rfl, rfl, rfl, ⟨by omega, c4.1⟩, by omega, by omega, by rw [unv_1]; omega, by rw [unv_1]; omega, Ar1, fun c k _ => At.rf g1 c k, hR⟩
            rintro kb2 x4 x5 x6 g' ⟨fu, c, m, x, A, rfl, rfl, rfl, hc, hx, hm, hmu, hfu, hA, hf', hB⟩ hk
            have ur := unv_rg A
            have fin : ¬ (c ≠ 0 ∧ A c = -1) → w_X9_bark_126 Q (z v) (z c) (z x) (z m) g' := by
              intro hn
              rw [bk_stop hn fu] at hB
              subst hB
              have ff : ∀ c k, ¬ scrX w c k → At h g' c k := fun c k hc => ((hf c k (by unfold scrX at hc; omega)).tr (f1 c k (by unfold scrX at hc; unfold airR; omega))).tr (hf' c k (by unfold scrX at hc; omega))
              have N3 : NX g' w (mkd (fl h) s.a) := N1.at' (fun k => hf' 0 k (by omega)) (fun c k b1 b2 b3 => hf' c k (by omega)) (fun c k b1 b2 => hf' c k (by omega))
              have r := I.fin N3 (I.2.2.1.fr (fun c k b1 b2 => ((hf c k (by omega)).tr (f1 c k (by unfold airR; omega))).tr (hf' c k (by omega)))) ff
              have h' := hq g' r.1 r.2
              unfold bkA at h'
              unfold w_X9_bark_126
              by_cases v2 : v = 2
              · rw [if_pos (show z v = 2 by rw [v2]; rfl)]
                rw [if_pos v2] at h'; exact h'
              · rw [if_neg (show ¬ z v = 2 from z_ne (by omega) (by omega) (by decide) (by decide) v2)]
                rw [if_neg v2] at h'
                refine x_isState hc (fun c0 => ?_) (fun c0 => ?_)
                · rw [if_pos rfl]
                  by_cases v0 : v = 0
                  · rw [if_pos (show z v = 0 by rw [v0]; rfl)]
                    rw [if_neg (show ¬ v = 1 by omega), if_pos c0] at h'; exact h'
                  · rw [if_neg (show ¬ z v = 0 from z_ne (by omega) (by omega) (by decide) (by decide) v0)]
                    rw [if_pos (show v = 1 by omega), if_pos c0] at h'; exact h'
                · rw [if_neg (by decide)]
                  by_cases v0 : v = 0
                  · rw [if_pos (show z v = 0 by rw [v0]; rfl)]
                    rw [if_neg (show ¬ v = 1 by omega), if_neg c0] at h'; exact h'
                  · rw [if_neg (show ¬ z v = 0 from z_ne (by omega) (by omega) (by decide) (by decide) v0), z_iN (by omega) (by omega), (hA c hc.1 hc.2).1, z_sub]
                    rw [if_pos (show v = 1 by omega), if_neg c0] at h'
                    exact ⟨z_in (by omega) (by omega) (by omega), h'⟩
            unfold w_X9_bark_64
            rw [zn_64, if_neg (by rw [z_lt (by omega) (by omega) (by omega) (by omega)]; omega)]
            refine x_isState hc (fun c0 => ?_) (fun c0 => ?_)
            · rw [if_pos rfl]
              exact fin (fun x => x.1 c0)
            · rw [if_neg (by decide), z_iN (a := c) (by omega) (by omega), (hA c hc.1 hc.2).1]
              refine ⟨z_in (by omega) (by omega) (by omega), ?_⟩
              have bA := (hA c hc.1 hc.2).2
              by_cases cA : A c = -1
              · rw [if_pos (show z (A c) = -1 by rw [cA]; rfl)]
                refine ⟨z_in (by omega) (by omega) (by omega), ?_⟩
                rintro _ rfl
                have F5 : ∀ i k, ¬ (i = 137 ∧ k = c.toNat) → At g' (sI g' 137 c.toNat (z m)) i k := fun i k hc => (At.rf g' i k).sI hc
                have us := unv_s (m := m) hc.1 hc.2 cA hm
                refine x_pc hc.1 (by omega) (fun p9 => ?_)
                rintro _ rfl
                have pr := pc_rg c
                rw [z_mxI (by omega) (by omega) (by omega) (by omega)]
                have ur2 := unv_rg (fun v => if v = c then m else A v)
                have f6 : ∀ i k, ¬ (i = 137) → At g1 (sI g' 137 c.toNat (z m)) i k := fun i k hc => (hf' i k hc).tr (F5 i k (by omega))
                refine x_answer (W1.at' (fun i k b1 b2 b3 b4 b5 b6 => f6 i k (by omega))) (fun p q c1 c2 c3 c4 => by rw [(f6 101 _ (by omega)).1]; exact A'.1 p q c1 c2 c3 c4) n4 hw (by rw [(f6 0 3 (by omega)).2.2]; exact N1.2.1) hc ?_
                have HA' : ArB (sI g' 137 c.toNat (z m)) 137 (fun v => if v = c then m else A v) := fun v v0 v1 => by
                  show gI (sI g' 137 c.toNat (z m)) 137 v.toNat = z (if v = c then m else A v) ∧ -1 ≤ (if v = c then m else A v) ∧ (if v = c then m else A v) ≤ 64
                  by_cases e : v = c
                  · rw [if_pos e, e, gI_in rfl rfl]; exact ⟨rfl, by omega, by omega⟩
                  · rw [if_neg e, gI_out (by omega)]; exact hA v v0 v1
                have fu1 : fu = (fu - 1) + 1 := by omega
                rw [fu1] at hB
                have hB' : bk s.a (fu - 1) (nb s.a c) (m + 1) (max x (pc c)) (fun v => if v = c then m else A v) = R := by
                  rw [← hB]
                  exact (if_pos ⟨c0, cA⟩).symm
                rw [z_inc]
                refine hk _ _ _ _ ⟨fu - 1, nb s.a c, m + 1, max x (pc c), _, rfl, rfl, rfl, nb_rg h6 c, by omega, by omega, by omega, by omega, HA', f6, hB'⟩ ?_
                rw [muB_eq HA', muB_eq hA]
                omega
              · rw [if_neg (show ¬ z (A c) = -1 from z_ne (by omega) (by omega) (by decide) (by decide) cA)]
                exact fin (fun x => cA x.2)
        · rw [if_neg (show ¬ (z d &&& (nI (wdN (dg s.a) (s.a.n 0).toNat) ^^^ (-1))) = z 0 from fun x => c4 (di.mp x))]
          exact ref (fun x => c4 ⟨x.1.2, x.2.1⟩)
end BARKX
