/-! ===== pieces laid, by the reference ===== -/
noncomputable def itO (a : Wd) (j : Int) (ok : Int → Bool) (o i : Int) : Bool := itB a j ok i && decide (wh a (spP a (i / 48)) (i % 48) = o)
def ItS (h : PH) (a : Wd) (j : Int) (ok : Int → Bool) (n : Int) (x3 : Int32) : Prop := gI h 0 82 = z (cn (itB a j ok) n) ∧ gI h 0 84 = z (mi (itB a j ok) n) ∧ (∀ l : Nat, l < 32 → bt (gI h 0 85) l = ex (itO a j ok l) n) ∧ ∀ l : Nat, l < 32 → bt x3 l = ex (itP a j ok l) n
def PcM (h : PH) (a : Wd) : Prop := SpM h a (spS a) (spS a) ∧ (∀ k : Int, 0 ≤ k → k < spS a → gI h 60 k.toNat = z (plb a k)) ∧ gI h 0 77 = z (pcN a) ∧ WM h a (far a (-1)) ∧ MT h a
def itC (c k : Nat) : Prop := c = 0 ∧ 82 ≤ k ∧ k ≤ 86
section LAYP
variable {h : PH} {a : Wd} {j : Int}
theorem ItS.skip {ok : Int → Bool} {n m : Int} {x3 : Int32} (S : ItS h a j ok n x3) (h0 : 0 ≤ n) (h1 : n ≤ m) (hf : ∀ i, n ≤ i → i < m → itB a j ok i = false) : ItS h a j ok m x3 := by
  obtain ⟨s1, s2, s3, s4⟩ := S
  refine ⟨by rw [cn_skip' h0 h1 hf]; exact s1, by rw [mi_skip h0 h1 hf]; exact s2, fun l hl => ?_, fun l hl => ?_⟩
  · rw [ex_skip h0 h1 (fun i i0 i1 => by unfold itO; rw [hf i i0 i1]; rfl)]; exact s3 l hl
  · rw [ex_skip h0 h1 (fun i i0 i1 => itP_no (hf i i0 i1))]; exact s4 l hl
theorem ItS.at' {g : PH} {ok : Int → Bool} {n : Int} {x3 : Int32} (S : ItS h a j ok n x3) (e : ∀ k, 82 ≤ k → k ≤ 85 → At h g 0 k) : ItS g a j ok n x3 := by
  obtain ⟨s1, s2, s3, s4⟩ := S
  exact ⟨by rw [(e 82 (by omega) (by omega)).1]; exact s1, by rw [(e 84 (by omega) (by omega)).1]; exact s2, by rw [(e 85 (by omega) (by omega)).1]; exact s3, s4⟩
theorem PcM.at' {g : PH} (P : PcM h a) (e : ∀ c k, ¬ (c = 32 ∨ c = 33 ∨ (c = 0 ∧ k = 48) ∨ itC c k) → At h g c k) : PcM g a := by
  obtain ⟨p1, p2, p3, p4, p5⟩ := P
  refine ⟨p1.at' (fun c k hc => e c k (by unfold spC at hc; unfold itC; omega)), fun k k0 k1 => by rw [(e 60 _ (by unfold itC; omega)).1]; exact p2 k k0 k1, by rw [(e 0 77 (by unfold itC; omega)).1]; exact p3, fun p m c0 c1 c2 c3 => by rw [(e 56 _ (by unfold itC; omega)).1]; exact p4 p m c0 c1 c2 c3, p5.at' (fun c k b1 b2 => e c k (by unfold itC; omega))⟩
theorem m_its122 {Q : PH → Prop} {kb : Int32 → Int32 → PH → Prop} {ok : Int → Bool} {x1 x2 x3 : Int32} {k m : Int} (S : ItS h a j ok (48 * k + m) x3) (h6 : 0 ≤ a.n 0 ∧ a.n 0 ≤ 6) (e57 : gI h 57 k.toNat = z (spP a k)) (hk : 0 ≤ k ∧ k < spS a) (hm : 0 ≤ m ∧ m < 48) (hi : ((decide (plb a k = j) && decide (spF a k ≤ m) && decide (m ≤ spT a k)) && ok (wh a (spP a k) m)) = true) (wr : -3 ≤ wh a (spP a k) m ∧ wh a (spP a k) m < 4) (hn : ∀ g y, (∀ c k, ¬ itC c k → At h g c k) → gI g 0 86 = gI h 0 86 → ItS g a j ok (48 * k + (m + 1)) y → kb y (z (m + 1)) g) : w_X10_layIts_122 Q kb x1 x2 x3 (z k) (z m) (z (wh a (spP a k) m)) h := by
  have sr := spS_rg h6
  obtain ⟨⟨i1, i2⟩, i3, i4, i5⟩ := sp_rg h6.1 hk.1 hk.2
  obtain ⟨s1, s2, s3, s4⟩ := S
  have mr := mi_rg (itB a j ok) (48 * k + m)
  have eB : itB a j ok (48 * k + m) = true := by rw [itB_at hm.1 hm.2]; exact hi
  unfold w_X10_layIts_122
  rintro _ rfl _ rfl
  rw [z_iN (a := k) (by omega) (by omega), gI_out (by omega), gI_out (by omega), gI_out (by omega), e57, s1, s2, z_inc, z_inc, z_mnI (by omega) (by omega) (by omega) (by omega)]
  refine ⟨z_in (by omega) (by omega) (by omega), ?_⟩
  rintro _ rfl
  have F : ∀ c q, ¬ itC c q → At h (sI (sI h 0 82 (z (cn (itB a j ok) (48 * k + m) + 1))) 0 84 (z (min (mi (itB a j ok) (48 * k + m)) m))) c q := fun c q hc => ((At.rf h c q).sI (by unfold itC at hc; omega)).sI (by unfold itC at hc; omega)
  have e82 : z (cn (itB a j ok) (48 * k + m) + 1) = z (cn (itB a j ok) (48 * k + (m + 1))) := by
    rw [show 48 * k + (m + 1) = 48 * k + m + 1 by omega, cn_s (by omega), eB, if_pos rfl]
  have e84 : z (min (mi (itB a j ok) (48 * k + m)) m) = z (mi (itB a j ok) (48 * k + (m + 1))) := by
    rw [show 48 * k + (m + 1) = 48 * k + m + 1 by omega, mi_s (by omega), eB, if_pos rfl, show (48 * k + m) % 48 = m by omega]
  have e3 : ∀ l : Nat, l < 32 → bt (x3 ||| ((1 : Int32) <<< (z (spP a k) &&& 31))) l = ex (itP a j ok l) (48 * k + (m + 1)) := fun l hl => by
    rw [bt_on i1 (by omega) hl, s4 l hl, show 48 * k + (m + 1) = 48 * k + m + 1 by omega, ex_s (by omega), itP_at hm.1 hm.2, hi, Bool.true_and]
    by_cases e : spP a k = (l : Int)
    · rw [decide_eq_true e, decide_eq_true (by omega : l = (spP a k).toNat)]
    · rw [decide_eq_false e, decide_eq_false (by omega : ¬ l = (spP a k).toNat)]
  have eO : ∀ l : Nat, ex (itO a j ok l) (48 * k + (m + 1)) = (ex (itO a j ok l) (48 * k + m) || decide (wh a (spP a k) m = (l : Int))) := fun l => by
    rw [show 48 * k + (m + 1) = 48 * k + m + 1 by omega, ex_s (by omega)]
    congr 1
    unfold itO
    rw [eB, Bool.true_and, show (48 * k + m) / 48 = k by omega, show (48 * k + m) % 48 = m by omega]
  by_cases c : wh a (spP a k) m < 0
  · rw [zn_0, if_pos (by rw [z_lt (by omega) (by omega) (by omega) (by omega)]; omega)]
    refine hn _ _ F (by rw [gI_out (by omega), gI_out (by omega)]) ⟨by rw [gI_out (by omega), gI_in rfl rfl]; exact e82, by rw [gI_in rfl rfl]; exact e84, fun l hl => ?_, e3⟩
    rw [gI_out (by omega), gI_out (by omega), s3 l hl, eO l, decide_eq_false (by omega), Bool.or_false]
  · rw [zn_0, if_neg (by rw [z_lt (by omega) (by omega) (by omega) (by omega)]; omega)]
    rintro _ rfl
    refine hn _ _ (fun c q hc => (F c q hc).sI (by unfold itC at hc; omega)) (by rw [gI_out (by omega), gI_out (by omega), gI_out (by omega)]) ⟨by rw [gI_out (by omega), gI_out (by omega), gI_in rfl rfl]; exact e82, by rw [gI_out (by omega), gI_in rfl rfl]; exact e84, fun l hl => ?_, e3⟩
    rw [gI_in rfl rfl, bt_on (by omega) (by omega) hl, gI_out (by omega), gI_out (by omega), s3 l hl, eO l]
    congr 1
    by_cases e : wh a (spP a k) m = (l : Int)
    · rw [decide_eq_true e, decide_eq_true (by omega)]
    · rw [decide_eq_false e, decide_eq_false (by omega)]
theorem m_layIts {Q : PH → Prop} {ok : Int → Bool} {x2 : Int32} (P : PcM h a) (ON : OkN a) (OC : OkC a) (h6 : 0 ≤ a.n 0 ∧ a.n 0 ≤ 6) (hj : 0 ≤ j ∧ j < 1000) (hx : (x2 = -1 ∧ ok = al) ∨ ∃ B, x2 = z B ∧ (0 ≤ B ∧ B < 16) ∧ ok = okS B) (hq : ∀ g, (∀ c k, ¬ itC c k → At h g c k) → gI g 0 82 = z (pcM a j ok) → gI g 0 83 = z (pcQ a j ok) → gI g 0 84 = z (pcF a j ok) → gI g 0 86 = z (pcS a j) → (ok = al → gI g 0 85 = z (hB a j)) → Q g) : w_X10_layIts (z j) x2 h Q := by
  have sr := spS_rg h6
  unfold w_X10_layIts
  rintro _ rfl _ rfl _ rfl _ rfl
  have F0 : ∀ c k, ¬ itC c k → At h (sI (sI (sI (sI h 0 82 0) 0 84 48) 0 85 0) 0 86 0) c k := fun c k hc => ((((At.rf h c k).sI (by unfold itC at hc; omega)).sI (by unfold itC at hc; omega)).sI (by unfold itC at hc; omega)).sI (by unfold itC at hc; omega)
  have S0 : ItS (sI (sI (sI (sI h 0 82 0) 0 84 48) 0 85 0) 0 86 0) a j ok (48 * 0) 0 := ⟨by rw [gI_out (by omega), gI_out (by omega), gI_out (by omega), gI_in rfl rfl]; rfl, by rw [gI_out (by omega), gI_out (by omega), gI_in rfl rfl]; rfl, fun l hl => by rw [gI_out (by omega), gI_in rfl rfl, bt_0 l hl]; rfl, fun l hl => by rw [bt_0 l hl]; rfl⟩
  refine for21 (spS a) (fun k x g => (∀ c k, ¬ itC c k → At h g c k) ∧ gI g 0 86 = z (cn (fun k => decide (plb a k = j)) k) ∧ ItS g a j ok (48 * k) x) 0 rfl (by omega) (by omega) (by omega) ⟨F0, gI_in rfl rfl, S0⟩ ?_ ?_
  · rintro kb k x g k0 k1 ⟨hf, h86, hS⟩ hn
    obtain ⟨⟨i1, i2⟩, i3, i4, i5⟩ := sp_rg h6.1 k0 k1
    have lr := lab_rg (t := tch a) k0 k1
    have pr : 0 ≤ plb a k ∧ plb a k < 1000 := by unfold plb; omega
    have cs := cn_s (f := fun k => decide (plb a k = j)) k0
    have Pg := P.at' (fun c k hc => hf c k (fun x => hc (Or.inr (Or.inr (Or.inr x)))))
    have e60 := Pg.2.1 k k0 k1
    obtain ⟨e57, e58⟩ := Pg.1.2.1 k k0 k1
    have e59 := Pg.1.2.2 k k0 k1
    unfold w_X10_layIts_26
    rw [Pg.1.1, if_neg (by rw [z_le (by omega) (by omega) (by omega) (by omega)]; omega), z_iN (a := k) (by omega) (by omega), e60, z_inc]
    refine ⟨z_in (by omega) (by omega) (by omega), ?_⟩
    by_cases c : plb a k = j
    · rw [if_pos (by rw [c])]
      rintro _ rfl
      refine ⟨z_in (by omega) (by omega) (by omega), ?_⟩
      rintro _ rfl
      rw [gI_out (by omega), e58, h86, z_inc]
      rw [decide_eq_true c, if_pos rfl] at cs
      have lo : ∀ i, 48 * k ≤ i → i < 48 * k + spF a k → itB a j ok i = false := fun q q0 q1 => al_lo q q0 q1 (by omega)
      have S1 : ItS (sI g 0 86 (z (cn (fun k => decide (plb a k = j)) k + 1))) a j ok (48 * k + spF a k) x := (hS.skip (by omega) (by omega) lo).at' (fun q q0 q1 => (At.rf g 0 q).sI (by omega))
      refine for21 (spT a k + 1) (fun m x g2 => (∀ c k, ¬ itC c k → At g g2 c k) ∧ gI g2 0 86 = z (cn (fun k => decide (plb a k = j)) (k + 1)) ∧ ItS g2 a j ok (48 * k + m) x) (spF a k) rfl (by omega) (by omega) (by omega) ⟨fun c k hc => (At.rf g c k).sI (by unfold itC at hc; omega), by rw [gI_in rfl rfl, cs], S1⟩ ?_ ?_
      · rintro kb2 m x' g2 m0 m1 ⟨hf2, h862, hS2⟩ hn2
        have Pg2 := Pg.at' (fun c k hc => hf2 c k (fun x => hc (Or.inr (Or.inr (Or.inr x)))))
        obtain ⟨b57, b58⟩ := Pg2.1.2.1 k k0 k1
        have b59 := Pg2.1.2.2 k k0 k1
        have ew : gI g2 56 (48 * spP a k + m).toNat = z (wh a (spP a k) m) := Pg2.2.2.2.1 (spP a k) m i1 i2 (by omega) (by omega)
        have wr : -3 ≤ wh a (spP a k) m ∧ wh a (spP a k) m < 4 := whs_rg ON OC _ _ _
        have hi : (decide (plb a k = j) && decide (spF a k ≤ m) && decide (m ≤ spT a k)) = true := by rw [decide_eq_true c, decide_eq_true (by omega), decide_eq_true (by omega)]; rfl
        have yes : ok (wh a (spP a k) m) = true → w_X10_layIts_122 Q kb2 (z j) x2 x' (z k) (z m) (z (wh a (spP a k) m)) g2 := fun e => m_its122 hS2 h6 b57 ⟨k0, k1⟩ ⟨by omega, by omega⟩ (by rw [hi, e]; rfl) wr (fun g3 y f3 e86 S3 => hn2 y g3 ⟨fun c k hc => (hf2 c k hc).tr (f3 c k hc), by rw [e86]; exact h862, S3⟩)
        have no : ok (wh a (spP a k) m) = false → kb2 x' (z (m + 1)) g2 := fun e => hn2 x' g2 ⟨hf2, h862, hS2.skip (by omega) (by omega) (fun i q0 q1 => by rw [show i = 48 * k + m by omega, itB_at (by omega) (by omega), e, Bool.and_false])⟩
        unfold w_X10_layIts_68
        rw [z_iN (a := k) (by omega) (by omega), b57, b59, if_neg (by rw [z_lt (by omega) (by omega) (by omega) (by omega)]; omega), zn_48, z_mul, z_add, z_iN (a := 48 * spP a k + m) (by omega) (by omega), ew, z_inc]
        refine ⟨z_in (by omega) (by omega) (by omega), z_in (by omega) (by omega) (by omega), z_in (by omega) (by omega) (by omega), ?_⟩
        rintro _ rfl
        rcases hx with ⟨rfl, rfl⟩ | ⟨B, rfl, hb, rfl⟩
        · rw [if_pos rfl]
          exact yes rfl
        · rw [if_neg (show ¬ z B = -1 from z_ne (by omega) (by omega) (by decide) (by decide) (show B ≠ -1 by omega))]
          by_cases d1 : wh a (spP a k) m < 0
          · rw [zn_0, if_pos (by rw [z_lt (by omega) (by omega) (by omega) (by omega)]; omega)]
            exact no (by unfold okS; rw [decide_eq_false (by omega)]; rfl)
          · rw [zn_0, if_neg (by rw [z_lt (by omega) (by omega) (by omega) (by omega)]; omega)]
            have eo : okS B (wh a (spP a k) m) = tb B (wh a (spP a k) m) := by unfold okS; rw [decide_eq_true (by omega), Bool.true_and]
            rw [bitI (by omega) (by omega), bt_tb hb.1 (by omega), show (((wh a (spP a k) m).toNat : Nat) : Int) = wh a (spP a k) m by omega, ← eo]
            cases ho : okS B (wh a (spP a k) m) with
            | false =>
              rw [if_pos (show z (if false = true then (1 : Int) else 0) = z 0 from rfl)]
              exact no ho
            | true =>
              rw [if_neg (show ¬ z (if true = true then (1 : Int) else 0) = z 0 by decide)]
              exact yes ho
      · rintro kb2 x' g2 ⟨hf2, h862, hS2⟩
        have Pg2 := Pg.at' (fun c k hc => hf2 c k (fun x => hc (Or.inr (Or.inr (Or.inr x)))))
        have b59 := Pg2.1.2.2 k k0 k1
        unfold w_X10_layIts_68
        rw [z_iN (a := k) (by omega) (by omega), b59, if_pos (by rw [z_lt (by omega) (by omega) (by omega) (by omega)]; omega)]
        refine ⟨z_in (by omega) (by omega) (by omega), ?_⟩
        refine hn _ g2 ⟨fun c k hc => (hf c k hc).tr (hf2 c k hc), h862, hS2.skip (by omega) (by omega) (al_hi (by omega))⟩
    · rw [if_neg (z_ne (by omega) (by omega) (by omega) (by omega) c)]
      rw [decide_eq_false c, if_neg (by decide), Int.add_zero] at cs
      exact hn _ g ⟨hf, by rw [cs]; exact h86, hS.skip (by omega) (by omega) (al_off c)⟩
  · rintro kb x g ⟨hf, h86, hS⟩
    have Pg := P.at' (fun c k hc => hf c k (fun x => hc (Or.inr (Or.inr (Or.inr x)))))
    obtain ⟨s1, s2, s3, s4⟩ := hS
    unfold w_X10_layIts_26
    rw [Pg.1.1, if_pos (by rw [z_le (by omega) (by omega) (by omega) (by omega)]; omega)]
    refine m_bits (f := fun l => pcP a j ok l) h6.1 (by omega) (pcQ_wd h6 s4) ?_
    rintro _ rfl
    refine hq _ (fun c k hc => (hf c k hc).sI (by unfold itC at hc; omega)) (by rw [gI_out (by omega)]; exact s1) (gI_in rfl rfl) (by rw [gI_out (by omega)]; exact s2) (by rw [gI_out (by omega)]; exact h86) (fun e => ?_)
    subst e
    rw [gI_out (by omega)]
    refine b_ext (fun l hl => ?_)
    rw [s3 l hl, bt_tb (hB_rg a j).1 hl, hB_tb (by omega)]
    have e1 : itO a j al l = itB a j (eqI l) := by
      funext i
      unfold itO itB al eqI
      rw [Bool.and_true]
    rw [e1]
    by_cases c4 : (l : Int) < 4
    · rw [decide_eq_true c4, Bool.true_and]; rfl
    · rw [decide_eq_false c4, Bool.false_and]
      unfold ex
      rw [cn_none (by omega) (fun i i0 i1 => ?_)]
      · rfl
      · have wr : -3 ≤ wh a (spP a (i / 48)) (i % 48) ∧ wh a (spP a (i / 48)) (i % 48) < 4 := whs_rg ON OC _ _ _
        unfold itB eqI
        rw [decide_eq_false (by omega), Bool.and_false]
end LAYP
