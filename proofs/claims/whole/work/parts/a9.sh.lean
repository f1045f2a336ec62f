/-! ===== what belongs to a piece ===== -/
noncomputable def plb (a : Wd) (k : Int) : Int := lab (tch a) (spS a) k
def wh (a : Wd) (p m : Int) : Int := whs a (far a (-1)) p m
noncomputable def itA (a : Wd) (j i : Int) : Bool := decide (plb a (i / 48) = j) && decide (spF a (i / 48) ≤ i % 48) && decide (i % 48 ≤ spT a (i / 48))
noncomputable def itB (a : Wd) (j : Int) (ok : Int → Bool) (i : Int) : Bool := itA a j i && ok (wh a (spP a (i / 48)) (i % 48))
noncomputable def itP (a : Wd) (j : Int) (ok : Int → Bool) (p i : Int) : Bool := itB a j ok i && decide (spP a (i / 48) = p)
def al : Int → Bool := fun _ => true
def eqI (o : Int) : Int → Bool := fun x => decide (x = o)
def okS (B : Int) : Int → Bool := fun o => decide (0 ≤ o) && tb B o
noncomputable def pcM (a : Wd) (j : Int) (ok : Int → Bool) : Int := cn (itB a j ok) (48 * spS a)
noncomputable def pcF (a : Wd) (j : Int) (ok : Int → Bool) : Int := mi (itB a j ok) (48 * spS a)
noncomputable def pcP (a : Wd) (j : Int) (ok : Int → Bool) (p : Int) : Bool := ex (itP a j ok p) (48 * spS a)
noncomputable def pcO (a : Wd) (j o : Int) : Bool := ex (itB a j (eqI o)) (48 * spS a)
noncomputable def pcS (a : Wd) (j : Int) : Int := cn (fun k => decide (plb a k = j)) (spS a)
section ITS
variable {a : Wd} {j : Int}
theorem itA_at {k m : Int} (h0 : 0 ≤ m) (h1 : m < 48) : itA a j (48 * k + m) = (decide (plb a k = j) && decide (spF a k ≤ m) && decide (m ≤ spT a k)) := by
  unfold itA
  rw [show (48 * k + m) / 48 = k by omega, show (48 * k + m) % 48 = m by omega]
theorem itB_at {ok : Int → Bool} {k m : Int} (h0 : 0 ≤ m) (h1 : m < 48) : itB a j ok (48 * k + m) = ((decide (plb a k = j) && decide (spF a k ≤ m) && decide (m ≤ spT a k)) && ok (wh a (spP a k) m)) := by
  unfold itB
  rw [itA_at h0 h1, show (48 * k + m) / 48 = k by omega, show (48 * k + m) % 48 = m by omega]
theorem itP_at {ok : Int → Bool} {p k m : Int} (h0 : 0 ≤ m) (h1 : m < 48) : itP a j ok p (48 * k + m) = (((decide (plb a k = j) && decide (spF a k ≤ m) && decide (m ≤ spT a k)) && ok (wh a (spP a k) m)) && decide (spP a k = p)) := by
  unfold itP
  rw [itB_at h0 h1, show (48 * k + m) / 48 = k by omega]
theorem itB_no {ok : Int → Bool} {i : Int} (h : itA a j i = false) : itB a j ok i = false := by unfold itB; rw [h]; rfl
theorem itP_no {ok : Int → Bool} {p i : Int} (h : itB a j ok i = false) : itP a j ok p i = false := by unfold itP; rw [h]; rfl
theorem pcM_rg (h6 : 0 ≤ a.n 0 ∧ a.n 0 ≤ 6) (ok : Int → Bool) : 0 ≤ pcM a j ok ∧ pcM a j ok ≤ 6912 := by
  have sr := spS_rg h6
  have := cn_rg (itB a j ok) (n := 48 * spS a) (by omega)
  unfold pcM; omega
end ITS
/-- survey of a piece by the class: minutes, places and the first minute of each owner, over the first n -/
def Sv (h : PH) (a : Wd) (j n : Int) : Prop := ∀ o : Int, 0 ≤ o → o < 4 → gI h 119 o.toNat = z (cn (itB a j (eqI o)) n) ∧ (∀ l : Nat, l < 32 → bt (gI h 120 o.toNat) l = ex (itP a j (eqI o) l) n) ∧ gI h 121 o.toNat = z (mi (itB a j (eqI o)) n)
section SVX
variable {h : PH} {w : Nat} {a : Wd} {j : Int}
theorem Sv.at' {g : PH} {n : Int} (S : Sv h a j n) (e : ∀ c k, 119 ≤ c → c ≤ 121 → At h g c k) : Sv g a j n := fun o o0 o1 => by
  rw [(e 119 _ (by omega) (by omega)).1, (e 120 _ (by omega) (by omega)).1, (e 121 _ (by omega) (by omega)).1]
  exact S o o0 o1
theorem Sv.skip {n m : Int} (S : Sv h a j n) (h0 : 0 ≤ n) (h1 : n ≤ m) (hf : ∀ i, n ≤ i → i < m → ∀ o, 0 ≤ o → o < 4 → itB a j (eqI o) i = false) : Sv h a j m := fun o o0 o1 => by
  rw [cn_skip' h0 h1 (fun i i0 i1 => hf i i0 i1 o o0 o1), mi_skip h0 h1 (fun i i0 i1 => hf i i0 i1 o o0 o1)]
  refine ⟨(S o o0 o1).1, fun l hl => ?_, (S o o0 o1).2.2⟩
  rw [ex_skip h0 h1 (fun i i0 i1 => itP_no (hf i i0 i1 o o0 o1))]
  exact (S o o0 o1).2.1 l hl
theorem x_holder {Q : Int32 → PH → Prop} {p m : Int} (A : HoX h 100 a (far a (-1))) (h6 : a.n 0 ≤ 6) (hp : 0 ≤ p ∧ p < a.n 0) (hm : 0 ≤ m ∧ m < 48) (hq : Q (z (wh a p m)) h) : w_X0_holder 100 (z p) (z m) h Q := by
  unfold w_X0_holder
  refine x_isSpot ⟨hp.1, by omega⟩ hm ?_
  rw [if_neg (by decide), zn_48, z_mul, z_add, z_iN (by omega) (by omega)]
  refine ⟨z_in (by omega) (by omega) (by omega), ?_⟩
  have := A p m hp.1 hp.2 hm.1 hm.2
  show Q (gI h (100 + 5) (p * 48 + m).toNat) h
  rw [this]
  exact hq
theorem Sv.on {k m o : Int} (S : Sv h a j (48 * k + m)) (hk : 0 ≤ k) (hm : 0 ≤ m ∧ m < 48) (hi : (decide (plb a k = j) && decide (spF a k ≤ m) && decide (m ≤ spT a k)) = true) (ho : wh a (spP a k) m = o) (o0 : 0 ≤ o ∧ o < 4) (hp : 0 ≤ spP a k ∧ spP a k < 6) : Sv (sI (sI (sI h 119 o.toNat (gI h 119 o.toNat + 1)) 120 o.toNat (gI h 120 o.toNat ||| ((1 : Int32) <<< (z (spP a k) &&& 31)))) 121 o.toNat (mnI (gI h 121 o.toNat) (z m))) a j (48 * k + (m + 1)) := by
  intro o' p0 p1
  obtain ⟨s1, s2, s3⟩ := S o' p0 p1
  rw [show 48 * k + (m + 1) = 48 * k + m + 1 by omega, cn_s (by omega), mi_s (by omega), itB_at hm.1 hm.2, hi, ho, Bool.true_and]
  unfold eqI
  by_cases e : o' = o
  · subst e
    rw [decide_eq_true rfl, if_pos rfl, if_pos rfl, gI_out (by omega), gI_out (by omega), gI_in rfl rfl, s1, z_inc, gI_out (by omega), gI_in rfl rfl, gI_in rfl rfl, s3]
    have mr := mi_rg (itB a j (eqI o')) (48 * k + m)
    refine ⟨rfl, fun l hl => ?_, ?_⟩
    · rw [bt_on hp.1 (by omega) hl, s2 l hl, ex_s (by omega), itP_at hm.1 hm.2, hi, ho, Bool.true_and]
      unfold eqI
      rw [decide_eq_true rfl, Bool.true_and]
      by_cases e2 : spP a k = (l : Int)
      · rw [decide_eq_true e2, decide_eq_true (by omega : l = (spP a k).toNat)]
      · rw [decide_eq_false e2, decide_eq_false (by omega : ¬ l = (spP a k).toNat)]
    · show mnI (z (mi (itB a j (eqI o')) (48 * k + m))) (z m) = _
      rw [z_mnI (by omega) (by omega) (by omega) (by omega), show (48 * k + m) % 48 = m by omega]
      rfl
  · rw [decide_eq_false (fun x => e x.symm : ¬ o = o'), if_neg (by decide), if_neg (by decide), Int.add_zero, gI_out (by omega), gI_out (by omega), gI_out (by omega), gI_out (by omega), gI_out (by omega), gI_out (by omega)]
    refine ⟨s1, fun l hl => ?_, ?_⟩
    · rw [ex_s (by omega), itP_at hm.1 hm.2, hi, ho, Bool.true_and]
      rw [decide_eq_false (fun x => e x.symm : ¬ o = o'), Bool.false_and, Bool.or_false]
      exact s2 l hl
    · rw [gI_out (by omega), gI_out (by omega), gI_out (by omega)]
      exact s3
theorem x_surveySpan {Q : PH → Prop} {A : Int → Int} {k : Int} (S : SpA h a A) (O : HoX h 100 a (far a (-1))) (ON : OkN a) (OC : OkC a) (h6 : 0 ≤ a.n 0 ∧ a.n 0 ≤ 6) (hk : 0 ≤ k ∧ k < spS a) (hj : plb a k = j) (V : Sv h a j (48 * k + spF a k)) (hq : ∀ g, (∀ c k, ¬ (119 ≤ c ∧ c ≤ 121) → At h g c k) → Sv g a j (48 * k + (spT a k + 1)) → Q g) : w_X3_surveySpan 100 (z k) h Q := by
  obtain ⟨⟨i1, i2⟩, i3, i4, i5⟩ := sp_rg h6.1 hk.1 hk.2
  obtain ⟨a0, a1, a2, _⟩ := S.2 k hk.1 hk.2
  unfold w_X3_surveySpan
  refine x_at S.1 rfl (c := 0) rfl hk.1 hk.2 (by omega) (by omega) ?_
  rw [a0]
  refine x_at S.1 rfl (c := 2) rfl hk.1 hk.2 (by omega) (by omega) ?_
  rw [a2]
  refine x_at S.1 rfl (c := 1) rfl hk.1 hk.2 (by omega) (by omega) ?_
  rw [a1]
  refine for10 (spT a k + 1) (fun m g => (∀ c k, ¬ (119 ≤ c ∧ c ≤ 121) → At h g c k) ∧ Sv g a j (48 * k + m)) (spF a k) rfl (by omega) (by omega) (by omega) ⟨fun c k _ => At.rf h c k, V⟩ ?_ ?_
  · rintro kb m g m0 m1 ⟨hf, hV⟩ hn
    have hi : (decide (plb a k = j) && decide (spF a k ≤ m) && decide (m ≤ spT a k)) = true := by rw [decide_eq_true hj, decide_eq_true (by omega), decide_eq_true (by omega)]; rfl
    have Og : HoX g 100 a (far a (-1)) := fun p m p0 p1 m0 m1 => by rw [(hf (100 + 5) _ (by omega)).1]; exact O p m p0 p1 m0 m1
    unfold w_X3_surveySpan_32
    rw [if_neg (by rw [z_lt (by omega) (by omega) (by omega) (by omega)]; omega), z_inc]
    refine x_holder Og h6.2 ⟨i1, i2⟩ ⟨by omega, by omega⟩ ?_
    have wr : -3 ≤ wh a (spP a k) m ∧ wh a (spP a k) m < 4 := whs_rg ON OC _ _ _
    have no : ¬ (0 ≤ wh a (spP a k) m ∧ wh a (spP a k) m < 4) → kb (z (m + 1)) g := fun c => hn g ⟨hf, hV.skip (by omega) (by omega) (fun i d0 d1 o o0 o1 => by
      rw [show i = 48 * k + m by omega, itB_at (by omega) (by omega)]
      unfold eqI
      rw [decide_eq_false (by omega : ¬ wh a (spP a k) m = o), Bool.and_false])⟩
    by_cases c1 : wh a (spP a k) m < 0
    · rw [zn_0, if_pos (by rw [z_lt (by omega) (by omega) (by omega) (by omega)]; omega)]
      exact no (by omega)
    · rw [zn_0, if_neg (by rw [z_lt (by omega) (by omega) (by omega) (by omega)]; omega)]
      by_cases c2 : 4 ≤ wh a (spP a k) m
      · rw [zn_4, if_pos (by rw [z_le (by omega) (by omega) (by omega) (by omega)]; omega)]
        exact no (by omega)
      · rw [zn_4, if_neg (by rw [z_le (by omega) (by omega) (by omega) (by omega)]; omega)]
        refine ⟨z_in (by omega) (by omega) (by omega), z_in (by omega) (by omega) (by omega), ?_⟩
        rintro _ rfl
        refine ⟨z_in (by omega) (by omega) (by omega), z_in (by omega) (by omega) (by omega), ?_⟩
        rintro _ rfl
        refine ⟨z_in (by omega) (by omega) (by omega), z_in (by omega) (by omega) (by omega), ?_⟩
        rintro _ rfl
        have so := hV.on hk.1 ⟨by omega, by omega⟩ hi rfl (by omega) ⟨i1, by omega⟩
        rw [z_iN (a := wh a (spP a k) m) (by omega) (by omega), gI_out (by omega), gI_out (by omega), gI_out (by omega)]
        refine hn _ ⟨fun c k hc => (((hf c k hc).sI (by omega)).sI (by omega)).sI (by omega), so⟩
  · rintro kb g ⟨hf, hV⟩
    unfold w_X3_surveySpan_32
    rw [if_pos (by rw [z_lt (by omega) (by omega) (by omega) (by omega)]; omega)]
    exact hq g hf hV
theorem x_survey {Q : PH → Prop} {A : Int → Int} (S : SpA h a A) (eA : ∀ k, 0 ≤ k → k < spS a → A k = plb a k) (O : HoX h 100 a (far a (-1))) (ON : OkN a) (OC : OkC a) (h6 : 0 ≤ a.n 0 ∧ a.n 0 ≤ 6) (hj : 0 ≤ j ∧ j < 1000) (hq : ∀ g, (∀ c k, ¬ (119 ≤ c ∧ c ≤ 121) → At h g c k) → Sv g a j (48 * spS a) → Q g) : w_X3_survey 100 (z j) h Q := by
  have sr := spS_rg h6
  unfold w_X3_survey
  refine for10 4 (fun o g => (∀ c k, ¬ (119 ≤ c ∧ c ≤ 121) → At h g c k) ∧ ∀ o' : Int, 0 ≤ o' → o' < o → gI g 119 o'.toNat = 0 ∧ gI g 120 o'.toNat = 0 ∧ gI g 121 o'.toNat = 48) 0 rfl (by omega) (by omega) (by omega) ⟨fun c k _ => At.rf h c k, fun o o0 o1 => by omega⟩ ?_ ?_
  · rintro kb o g o0 o1 ⟨hf, hV⟩ hn
    unfold w_X3_survey_2
    rw [zn_4, if_neg (by rw [z_le (by omega) (by omega) (by omega) (by omega)]; omega)]
    refine ⟨z_in (by omega) (by omega) (by omega), ?_⟩
    rintro _ rfl
    refine ⟨z_in (by omega) (by omega) (by omega), ?_⟩
    rintro _ rfl
    refine ⟨z_in (by omega) (by omega) (by omega), ?_⟩
    rintro _ rfl
    rw [z_inc, z_iN (a := o) (by omega) (by omega)]
    refine hn _ ⟨fun c k hc => (((hf c k hc).sI (by omega)).sI (by omega)).sI (by omega), fun o' p0 p1 => ?_⟩
    by_cases e : o' = o
    · rw [e, gI_in rfl rfl, gI_out (by omega), gI_out (by omega), gI_in rfl rfl, gI_out (by omega), gI_in rfl rfl]
      exact ⟨rfl, rfl, rfl⟩
    · rw [gI_out (by omega), gI_out (by omega), gI_out (by omega), gI_out (by omega), gI_out (by omega), gI_out (by omega), gI_out (by omega), gI_out (by omega), gI_out (by omega)]
      exact hV o' p0 (by omega)
  · rintro kb g ⟨hf, hV⟩
    unfold w_X3_survey_2
    rw [zn_4, if_pos (by rw [z_le (by omega) (by omega) (by omega) (by omega)]; omega)]
    have V0 : Sv g a j (48 * 0) := fun o o0 o1 => by
      obtain ⟨e1, e2, e3⟩ := hV o o0 o1
      rw [e1, e2, e3]
      exact ⟨rfl, fun l hl => by rw [bt_0 l hl]; rfl, rfl⟩
    refine for10 (spS a) (fun k g => (∀ c k, ¬ (119 ≤ c ∧ c ≤ 121) → At h g c k) ∧ Sv g a j (48 * k)) 0 rfl (by omega) (by omega) (by omega) ⟨hf, V0⟩ ?_ ?_
    · clear hf hV V0 g
      rintro kb k g k0 k1 ⟨hf, hV⟩ hn
      have Sg : SpA g a A := S.at' (fun c k hc => hf c k (by omega))
      have Og : HoX g 100 a (far a (-1)) := fun p m p0 p1 m0 m1 => by rw [(hf (100 + 5) _ (by omega)).1]; exact O p m p0 p1 m0 m1
      obtain ⟨⟨i1, i2⟩, i3, i4, i5⟩ := sp_rg h6.1 k0 k1
      have lr := lab_rg (t := tch a) k0 k1
      unfold w_X3_survey_37
      rw [Sg.1.2.2.1, if_neg (by rw [z_le (by omega) (by omega) (by omega) (by omega)]; omega), z_inc]
      refine x_at Sg.1 rfl (c := 3) rfl k0 k1 (by omega) (by omega) ?_
      obtain ⟨_, _, _, q3⟩ := Sg.2 k k0 k1
      rw [eA k k0 k1] at q3
      show (if gI g (113 + 1) (k * 4 + 3).toNat = z j then _ else _)
      rw [show gI g (113 + 1) (k * 4 + 3).toNat = z (plb a k) from q3]
      have pr : 0 ≤ plb a k ∧ plb a k < 1000 := by unfold plb; omega
      by_cases c : plb a k = j
      · rw [if_pos (by rw [c])]
        have V1 : Sv g a j (48 * k + spF a k) := hV.skip (by omega) (by omega) (fun i d0 d1 o o0 o1 => by
          rw [show i = 48 * k + (i - 48 * k) by omega, itB_at (by omega) (by omega), decide_eq_false (by omega : ¬ spF a k ≤ i - 48 * k)]; simp)
        refine x_surveySpan Sg Og ON OC h6 ⟨k0, k1⟩ c V1 (fun g2 f2 V2 => ?_)
        refine hn g2 ⟨fun c k hc => (hf c k hc).tr (f2 c k hc), V2.skip (by omega) (by omega) (fun i d0 d1 o o0 o1 => by
          rw [show i = 48 * k + (i - 48 * k) by omega, itB_at (by omega) (by omega), decide_eq_false (by omega : ¬ i - 48 * k ≤ spT a k)]; simp)⟩
      · rw [if_neg (show ¬ z (plb a k) = z j from z_ne (by omega) (by omega) (by omega) (by omega) c)]
        refine hn g ⟨hf, hV.skip (by omega) (by omega) (fun i d0 d1 o o0 o1 => by
          rw [show i = 48 * k + (i - 48 * k) by omega, itB_at (by omega) (by omega), decide_eq_false c]; simp)⟩
    · rintro kb g ⟨hf, hV⟩
      have Sg : SpA g a A := S.at' (fun c k hc => hf c k (by omega))
      unfold w_X3_survey_37
      rw [Sg.1.2.2.1, if_pos (by rw [z_le (by omega) (by omega) (by omega) (by omega)]; omega)]
      exact hq g hf hV
end SVX
