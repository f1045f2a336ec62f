/-! ===== sets of owners ===== -/
def okP (B o : Int) : Int → Bool := fun x => decide (0 ≤ x) && decide (x < o) && tb B x
theorem tb_hi {B l : Int} (h : 0 ≤ B ∧ B < 16) (hl : 4 ≤ l) : tb B l = false := by
  unfold tb
  refine Nat.testBit_lt_two_pow ?_
  have : 2 ^ 4 ≤ 2 ^ l.toNat := Nat.pow_le_pow_right (by decide) (by omega)
  omega
theorem okP_4 {B : Int} (h : 0 ≤ B ∧ B < 16) : okP B 4 = okS B := by
  funext x
  unfold okP okS
  by_cases c : x < 4
  · rw [decide_eq_true c, Bool.and_true]
  · rw [decide_eq_false c, tb_hi h (by omega)]; simp
theorem okP_0 {B : Int} : okP B 0 = fun _ => false := by
  funext x
  unfold okP
  by_cases c : 0 ≤ x
  · rw [decide_eq_false (by omega : ¬ x < 0)]; simp
  · rw [decide_eq_false c]; rfl
theorem okP_f {B o : Int} (h : tb B o = false) : okP B (o + 1) = okP B o := by
  funext x
  unfold okP
  by_cases c : x = o
  · rw [c, h]; simp
  · by_cases c2 : x < o
    · rw [decide_eq_true c2, decide_eq_true (by omega : x < o + 1)]
    · rw [decide_eq_false c2, decide_eq_false (by omega : ¬ x < o + 1)]
theorem okP_t {B o : Int} (h0 : 0 ≤ o) (h : tb B o = true) (x : Int) : okP B (o + 1) x = (okP B o x || eqI o x) := by
  unfold okP eqI
  by_cases c : x = o
  · rw [c, h, decide_eq_true h0, decide_eq_true (by omega : o < o + 1), decide_eq_true rfl]; simp
  · rw [decide_eq_false c, Bool.or_false]
    by_cases c2 : x < o
    · rw [decide_eq_true c2, decide_eq_true (by omega : x < o + 1)]
    · rw [decide_eq_false c2, decide_eq_false (by omega : ¬ x < o + 1)]
section SETX
variable {a : Wd} {j : Int}
theorem itB_or {B o : Int} (h0 : 0 ≤ o) (h : tb B o = true) (i : Int) : itB a j (okP B (o + 1)) i = (itB a j (okP B o) i || itB a j (eqI o) i) := by
  unfold itB
  rw [okP_t h0 h]
  cases itA a j i <;> simp
theorem itB_dj {B o : Int} (i : Int) : (itB a j (okP B o) i && itB a j (eqI o) i) = false := by
  unfold itB okP eqI
  by_cases c : wh a (spP a (i / 48)) (i % 48) = o
  · rw [c, decide_eq_false (by omega : ¬ o < o)]; simp
  · rw [decide_eq_false c]; simp
theorem itP_or {B o p : Int} (h0 : 0 ≤ o) (h : tb B o = true) (i : Int) : itP a j (okP B (o + 1)) p i = (itP a j (okP B o) p i || itP a j (eqI o) p i) := by
  unfold itP
  rw [itB_or h0 h]
  cases itB a j (okP B o) i <;> cases itB a j (eqI o) i <;> simp
theorem itB_none {i : Int} : itB a j (fun _ => false) i = false := by unfold itB; simp
theorem sd {n : Int} (P : Nat → Prop) (h0 : 0 ≤ n) (h : P n.toNat) : P n.toNat := h
noncomputable def setM (a : Wd) (j B o : Int) : Int := cn (itB a j (okP B o)) (48 * spS a)
noncomputable def setF (a : Wd) (j B o : Int) : Int := mi (itB a j (okP B o)) (48 * spS a)
noncomputable def setP (a : Wd) (j B o p : Int) : Bool := ex (itP a j (okP B o) p) (48 * spS a)
theorem setM_s (h6 : 0 ≤ a.n 0 ∧ a.n 0 ≤ 6) {B o : Int} (h0 : 0 ≤ o) : setM a j B (o + 1) = setM a j B o + (if tb B o = true then 1 else 0) * cn (itB a j (eqI o)) (48 * spS a) := by
  have sr := spS_rg h6
  unfold setM
  cases h : tb B o with
  | false => rw [okP_f h, if_neg (by decide)]; omega
  | true =>
    have := cn_or (itB_or (a := a) (j := j) h0 h) (fun i => itB_dj i) (48 * spS a).toNat
    rw [show (((48 * spS a).toNat : Nat) : Int) = 48 * spS a by omega] at this
    rw [this, if_pos rfl]; omega
theorem setF_s (h6 : 0 ≤ a.n 0 ∧ a.n 0 ≤ 6) {B o : Int} (h0 : 0 ≤ o) : setF a j B (o + 1) = if tb B o = true then min (setF a j B o) (mi (itB a j (eqI o)) (48 * spS a)) else setF a j B o := by
  have sr := spS_rg h6
  unfold setF
  cases h : tb B o with
  | false => rw [okP_f h, if_neg (by decide)]
  | true =>
    have := mi_or (itB_or (a := a) (j := j) h0 h) (48 * spS a).toNat
    rw [show (((48 * spS a).toNat : Nat) : Int) = 48 * spS a by omega] at this
    rw [this, if_pos rfl]
theorem setP_s (h6 : 0 ≤ a.n 0 ∧ a.n 0 ≤ 6) {B o p : Int} (h0 : 0 ≤ o) : setP a j B (o + 1) p = if tb B o = true then setP a j B o p || ex (itP a j (eqI o) p) (48 * spS a) else setP a j B o p := by
  have sr := spS_rg h6
  unfold setP
  cases h : tb B o with
  | false => rw [okP_f h, if_neg (by decide)]
  | true =>
    have := ex_or (itP_or (a := a) (j := j) (p := p) h0 h) (48 * spS a).toNat
    rw [show (((48 * spS a).toNat : Nat) : Int) = 48 * spS a by omega] at this
    rw [this, if_pos rfl]
theorem setM_0 (h6 : 0 ≤ a.n 0 ∧ a.n 0 ≤ 6) {B : Int} : setM a j B 0 = 0 := by
  have sr := spS_rg h6
  unfold setM
  rw [okP_0]
  exact cn_none (by omega) (fun i _ _ => itB_none)
theorem setF_0 (h6 : 0 ≤ a.n 0 ∧ a.n 0 ≤ 6) {B : Int} : setF a j B 0 = 48 := by
  have sr := spS_rg h6
  unfold setF
  rw [okP_0, mi_skip (i := 0) (by omega) (by omega) (fun i _ _ => itB_none)]
  rfl
theorem setP_0 (h6 : 0 ≤ a.n 0 ∧ a.n 0 ≤ 6) {B p : Int} : setP a j B 0 p = false := by
  have sr := spS_rg h6
  unfold setP
  rw [okP_0, ex_skip (i := 0) (by omega) (by omega) (fun i _ _ => itP_no itB_none)]
  rfl
theorem pcP_out (h6 : 0 ≤ a.n 0 ∧ a.n 0 ≤ 6) {ok : Int → Bool} {p : Int} (h : ¬ (0 ≤ p ∧ p < a.n 0)) : pcP a j ok p = false := by
  have sr := spS_rg h6
  unfold pcP ex
  rw [cn_none (by omega) (fun i i0 i1 => ?_)]
  · rfl
  · have := sp_rg h6.1 (j := i / 48) (by omega) (by omega)
    unfold itP
    rw [decide_eq_false (by omega : ¬ spP a (i / 48) = p), Bool.and_false]
noncomputable def hB (a : Wd) (j : Int) : Int := ((wdN (pcO a j) 4 : Nat) : Int)
theorem hB_rg (a : Wd) (j : Int) : 0 ≤ hB a j ∧ hB a j < 16 := by
  have := wdN_lt (pcO a j) 4
  unfold hB
  omega
theorem hB_tb {l : Int} (h : 0 ≤ l) : tb (hB a j) l = (decide (l < 4) && pcO a j l) := by
  unfold hB tb
  rw [show (((wdN (pcO a j) 4 : Nat) : Int)).toNat = wdN (pcO a j) 4 by omega, wdN_bit, show ((l.toNat : Nat) : Int) = l by omega]
  by_cases c : l < 4
  · rw [decide_eq_true c, decide_eq_true (by omega : l.toNat < 4)]
  · rw [decide_eq_false c, decide_eq_false (by omega : ¬ l.toNat < 4)]
noncomputable def pcQ (a : Wd) (j : Int) (ok : Int → Bool) : Int := cn (pcP a j ok) (a.n 0)
theorem pcQ_rg (h6 : 0 ≤ a.n 0 ∧ a.n 0 ≤ 6) (ok : Int → Bool) : 0 ≤ pcQ a j ok ∧ pcQ a j ok ≤ 6 := by
  have := cn_rg (pcP a j ok) h6.1
  unfold pcQ; omega
theorem pcQ_wd (h6 : 0 ≤ a.n 0 ∧ a.n 0 ≤ 6) {ok : Int → Bool} {x : Int32} (h : ∀ l : Nat, l < 32 → bt x l = pcP a j ok l) : ∀ l : Nat, l < 32 → bt x l = (decide (l < (a.n 0).toNat) && pcP a j ok l) := fun l hl => by
  rw [h l hl]
  by_cases c : l < (a.n 0).toNat
  · rw [decide_eq_true c, Bool.true_and]
  · rw [decide_eq_false c, pcP_out h6 (by omega)]; rfl
/-- what a set of owners would have of a piece -/
noncomputable def wos (a : Wd) (j B : Int) : Int := if B = 0 then 0 else wrt a (pcM a j (okS B)) (pcQ a j (okS B)) (pc B) (pcF a j (okS B))
end SETX
section SETH
variable {h : PH} {w : Nat} {a : Wd} {j : Int}
theorem x_holders {Q : Int32 → PH → Prop} (h6 : 0 ≤ a.n 0 ∧ a.n 0 ≤ 6) (V : Sv h a j (48 * spS a)) (hq : Q (z (hB a j)) h) : w_X3_holdersSurveyed h Q := by
  have sr := spS_rg h6
  unfold w_X3_holdersSurveyed
  refine for21 4 (fun o v g => h = g ∧ v = nI (wdN (pcO a j) o.toNat)) 0 rfl (by omega) (by omega) (by omega) ⟨rfl, rfl⟩ ?_ ?_
  · rintro kb o _ _ o0 o1 ⟨rfl, rfl⟩ hn
    obtain ⟨e1, _, _⟩ := V o o0 o1
    have cr := cn_rg (itB a j (eqI o)) (n := 48 * spS a) (by omega)
    unfold w_X3_holdersSurveyed_4
    rw [zn_4, if_neg (by rw [z_le (by omega) (by omega) (by omega) (by omega)]; omega), z_iN (a := o) (by omega) (by omega), e1, z_inc, zn_0]
    refine ⟨z_in (by omega) (by omega) (by omega), ?_⟩
    have ep : pcO a j o = decide (0 < cn (itB a j (eqI o)) (48 * spS a)) := rfl
    by_cases c : cn (itB a j (eqI o)) (48 * spS a) ≤ 0
    · rw [if_pos (by rw [z_le (by omega) (by omega) (by omega) (by omega)]; omega)]
      refine hn _ _ ⟨rfl, ?_⟩
      rw [wd_off o0 (by rw [ep]; exact decide_eq_false (by omega))]
    · rw [if_neg (by rw [z_le (by omega) (by omega) (by omega) (by omega)]; omega)]
      rintro _ rfl
      refine hn _ _ ⟨rfl, ?_⟩
      rw [wd_on o0 (by omega) (by rw [ep]; exact decide_eq_true (by omega))]
  · rintro kb _ _ ⟨rfl, rfl⟩
    unfold w_X3_holdersSurveyed_4
    rw [zn_4, if_pos (by rw [z_le (by omega) (by omega) (by omega) (by omega)]; omega)]
    have : z (hB a j) = nI (wdN (pcO a j) (4 : Int).toNat) := by unfold hB; rw [z_nI]; rfl
    rw [← this]
    exact hq
theorem x_minutesOfSet {Q : Int32 → PH → Prop} {B : Int} (h6 : 0 ≤ a.n 0 ∧ a.n 0 ≤ 6) (hb : 0 ≤ B ∧ B < 16) (V : Sv h a j (48 * spS a)) (hq : Q (z (pcM a j (okS B))) h) : w_X3_minutesOfSet (z B) h Q := by
  have sr := spS_rg h6
  unfold w_X3_minutesOfSet
  refine for21 4 (fun o v g => h = g ∧ v = z (setM a j B o)) 0 rfl (by omega) (by omega) (by omega) ⟨rfl, by rw [setM_0 h6]; rfl⟩ ?_ ?_
  · rintro kb o _ _ o0 o1 ⟨rfl, rfl⟩ hn
    obtain ⟨e1, _, _⟩ := V o o0 o1
    unfold w_X3_minutesOfSet_4
    rw [zn_4, if_neg (by rw [z_le (by omega) (by omega) (by omega) (by omega)]; omega), z_iN (a := o) (by omega) (by omega), e1, z_inc]
    refine ⟨z_in (by omega) (by omega) (by omega), ?_⟩
    rintro _ rfl
    refine hn _ _ ⟨rfl, ?_⟩
    rw [bitI o0 (by omega), bt_tb hb.1 (by omega), show ((o.toNat : Nat) : Int) = o by omega, z_mul, z_add, setM_s h6 o0]
  · rintro kb _ _ ⟨rfl, rfl⟩
    unfold w_X3_minutesOfSet_4
    rw [zn_4, if_pos (by rw [z_le (by omega) (by omega) (by omega) (by omega)]; omega)]
    unfold setM
    rw [okP_4 hb]
    exact hq
theorem x_worthOfSet {Q : Int32 → PH → Prop} {B : Int} (H : WX h w a) (W : Wf a.wo) (hw : w = 8 ∨ w = 31) (h6 : 0 ≤ a.n 0 ∧ a.n 0 ≤ 6) (hb : 0 ≤ B ∧ B < 16) (V : Sv h a j (48 * spS a)) (hq : ∀ g, (∀ c k, ¬ (c = w + 21 ∨ c = w + 22) → At h g c k) → Q (z (wos a j B)) g) : w_X3_worthOfSet w (z B) h Q := by
  have sr := spS_rg h6
  unfold w_X3_worthOfSet
  by_cases c : B = 0
  · rw [if_pos (show z B = 0 by rw [c]; rfl)]
    have q := hq h (fun c k _ => At.rf h c k)
    unfold wos at q
    rw [if_pos c] at q
    exact q
  rw [if_neg (show ¬ z B = 0 from z_ne (by omega) (by omega) (by decide) (by decide) c)]
  unfold wos at hq
  rw [if_neg c] at hq
  refine for32 4 (fun o x y g => h = g ∧ (∀ l : Nat, l < 32 → bt x l = setP a j B o l) ∧ y = z (setF a j B o)) 0 rfl (by omega) (by omega) (by omega) ⟨rfl, fun l hl => by rw [bt_0 l hl, setP_0 h6], by rw [setF_0 h6]; rfl⟩ ?_ ?_
  · rintro kb o x _ _ o0 o1 ⟨rfl, hx, rfl⟩ hn
    obtain ⟨_, e2, e3⟩ := V o o0 o1
    have m1 := mi_rg (itB a j (eqI o)) (48 * spS a)
    have m2 : 0 ≤ setF a j B o ∧ setF a j B o ≤ 48 := mi_rg _ _
    unfold w_X3_worthOfSet_15
    rw [zn_4, if_neg (by rw [z_le (by omega) (by omega) (by omega) (by omega)]; omega), bitI o0 (by omega), bt_tb hb.1 (by omega), show ((o.toNat : Nat) : Int) = o by omega, z_inc]
    cases hc : tb B o with
    | false =>
      rw [if_neg (show ¬ z (if false = true then (1 : Int) else 0) = 1 by decide)]
      exact hn _ _ _ ⟨rfl, fun l hl => by rw [hx l hl, setP_s h6 o0, hc, if_neg (by decide)], by rw [setF_s h6 o0, hc, if_neg (by decide)]⟩
    | true =>
      rw [if_pos (show z (if true = true then (1 : Int) else 0) = 1 from rfl), z_iN (a := o) (by omega) (by omega)]
      refine ⟨z_in (by omega) (by omega) (by omega), ?_⟩
      rintro _ rfl
      refine ⟨z_in (by omega) (by omega) (by omega), ?_⟩
      rintro _ rfl
      refine hn _ _ _ ⟨rfl, fun l hl => ?_, ?_⟩
      · rw [b_or, hx l hl, e2 l hl, setP_s h6 o0, hc, if_pos rfl]
      · rw [e3, z_mnI (by omega) (by omega) (by omega) (by omega), setF_s h6 o0, hc, if_pos rfl]
  · rintro kb x _ _ ⟨rfl, hx, rfl⟩
    have hx' : ∀ l : Nat, l < 32 → bt x l = pcP a j (okS B) l := fun l hl => by
      rw [hx l hl]
      unfold setP pcP
      rw [okP_4 hb]
    unfold w_X3_worthOfSet_15
    rw [zn_4, if_pos (by rw [z_le (by omega) (by omega) (by omega) (by omega)]; omega)]
    refine x_minutesOfSet h6 hb V ?_
    refine x_bits (f := fun l => pcP a j (okS B) l) h6.1 (by omega) (wd_ext (pcQ_wd h6 hx')) ?_
    refine x_pc hb.1 (by omega) (fun h9 => ?_)
    have pr := pc_rg B
    have m1 := pcM_rg h6 (okS B) (j := j)
    have m2 := pcQ_rg h6 (okS B) (j := j)
    have m3 : 0 ≤ setF a j B 4 ∧ setF a j B 4 ≤ 48 := mi_rg _ _
    show w_X3_worth w (z (pcM a j (okS B))) (z (pcQ a j (okS B))) (z (pc B)) (z (setF a j B 4)) h _
    refine x_worth H W (by omega) (by omega) (by omega) (by omega) (fun g f => ?_)
    have q := hq g f
    have e : setF a j B 4 = pcF a j (okS B) := by unfold setF pcF; rw [okP_4 hb]
    rw [e]
    exact q
end SETH
