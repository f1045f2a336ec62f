/-! ===== pieces by the reference ===== -/
section PCM
variable {h : PH} {a : Wd}
theorem m_areBeside {Q : Int32 → PH → Prop} {p q : Int} (M : MT h a) (B : WB (gI h 42 0) a) (OL : OkL a) (hp : -1000 ≤ p ∧ p ≤ 1000) (hq1 : -1000 ≤ q ∧ q ≤ 1000) (hq : Q (z (bI (besB a p q))) h) : w_X10_areBeside (z p) (z q) h Q := by
  have h6 := OL.1
  have h9 := OL.2.1
  obtain ⟨⟨a0, a1, a2, a3, a4, a5, a6, a7⟩, m0, m1, m2, _⟩ := M
  unfold w_X10_areBeside
  have eB : besB a p q = besN a (a.n 1) p q := besN_e.symm
  refine for10 (a.n 1) (fun l g => h = g ∧ besN a l p q = false) 0 rfl (by omega) (by omega) (by omega) ⟨rfl, besN_0⟩ ?_ ?_
  · rintro kb l _ l0 l1 ⟨rfl, hJ⟩ hn
    obtain ⟨o1, o2, o3, o4, o5⟩ := OL.2.2.2.1 l l0 l1
    obtain ⟨c1, c2, c3⟩ := m1 l l0 l1
    have bs := besN_s (a := a) (p := p) (q := q) l0
    have yes : lkB a p q l = true → Q 1 h := fun e => by
      have : besB a p q = true := by
        unfold lkB at e
        simp only [Bool.and_eq_true, Bool.or_eq_true, decide_eq_true_eq] at e
        exact bes_iff.mpr ⟨l, ⟨l0, l1⟩, e⟩
      rw [this] at hq
      exact hq
    have no : lkB a p q l = false → kb (z (l + 1)) h := fun e => hn h ⟨rfl, by rw [bs, hJ, e]; rfl⟩
    unfold w_X10_areBeside_2
    rw [iN_1, iN_0, a1, if_neg (by rw [z_le (by omega) (by omega) (by omega) (by omega)]; omega), bitI l0 (by omega), z_iN (a := l) (by omega) (by omega), c1, c2, z_inc]
    have wb := B l l0 l1
    rw [← wb]
    by_cases c : a.f 1 3 l = 0
    · rw [if_pos (show z (a.f 1 3 l) = 0 by rw [c]; rfl)]
      refine ⟨z_in (by omega) (by omega) (by omega), ?_⟩
      have nolk : ¬ (a.f 1 0 l = p ∧ a.f 1 1 l = q) → ¬ (a.f 1 0 l = q ∧ a.f 1 1 l = p) → lkB a p q l = false := fun nf nb => by
        cases hh : lkB a p q l with
        | false => rfl
        | true =>
          exfalso
          unfold lkB at hh
          simp only [Bool.and_eq_true, Bool.or_eq_true, decide_eq_true_eq] at hh
          rcases hh.2 with x | x
          · exact nf x
          · exact nb x
      have back : ¬ (a.f 1 0 l = p ∧ a.f 1 1 l = q) → w_X10_areBeside_45 (fun h5 => Q 1 h5) Q kb (z p) (z q) (z l) h := fun nf => by
        unfold w_X10_areBeside_45
        rw [z_iN (a := l) (by omega) (by omega), c1, c2, z_inc]
        refine ⟨z_in (by omega) (by omega) (by omega), ?_⟩
        by_cases e1 : a.f 1 0 l = q
        · rw [if_pos (by rw [e1])]
          refine ⟨z_in (by omega) (by omega) (by omega), ?_⟩
          by_cases e2 : a.f 1 1 l = p
          · rw [if_pos (by rw [e2])]
            exact yes (by unfold lkB; rw [decide_eq_true c, decide_eq_true e1, decide_eq_true e2]; simp)
          · rw [if_neg (z_ne (by omega) (by omega) (by omega) (by omega) e2)]
            exact no (nolk nf (fun x => e2 x.2))
        · rw [if_neg (z_ne (by omega) (by omega) (by omega) (by omega) e1)]
          exact no (nolk nf (fun x => e1 x.1))
      by_cases e1 : a.f 1 0 l = p
      · rw [if_pos (by rw [e1])]
        refine ⟨z_in (by omega) (by omega) (by omega), ?_⟩
        by_cases e2 : a.f 1 1 l = q
        · rw [if_pos (by rw [e2])]
          exact yes (by unfold lkB; rw [decide_eq_true c, decide_eq_true e1, decide_eq_true e2]; simp)
        · rw [if_neg (z_ne (by omega) (by omega) (by omega) (by omega) e2)]
          exact back (fun x => e2 x.2)
      · rw [if_neg (z_ne (by omega) (by omega) (by omega) (by omega) e1)]
        exact back (fun x => e1 x.1)
    · rw [if_neg (show ¬ z (a.f 1 3 l) = 0 from z_ne (by omega) (by omega) (by decide) (by decide) c)]
      exact no (by unfold lkB; rw [decide_eq_false c]; rfl)
  · rintro kb _ ⟨rfl, hJ⟩
    unfold w_X10_areBeside_2
    rw [iN_1, a1, if_pos (by rw [z_le (by omega) (by omega) (by omega) (by omega)]; omega)]
    rw [eB, hJ] at hq
    exact hq
theorem m_doTouch {Q : Int32 → PH → Prop} {i j : Int} (M : MT h a) (B : WB (gI h 42 0) a) (OL : OkL a) (S : SpM h a (spS a) (spS a)) (hi : 0 ≤ i ∧ i < spS a) (hj : 0 ≤ j ∧ j < spS a) (hq : Q (z (bI (tch a i j))) h) : w_X10_doTouch (z i) (z j) h Q := by
  have sr := spS_rg OL.1
  obtain ⟨⟨i1, i2⟩, i3, i4, i5⟩ := sp_rg OL.1.1 hi.1 hi.2
  obtain ⟨⟨j1, j2⟩, j3, j4, j5⟩ := sp_rg OL.1.1 hj.1 hj.2
  have h6 := OL.1
  obtain ⟨a0, a1⟩ := S.2.1 i hi.1 hi.2
  obtain ⟨b0, b1⟩ := S.2.1 j hj.1 hj.2
  have a2 := S.2.2 i hi.1 hi.2
  have b2 := S.2.2 j hj.1 hj.2
  have no : tch a i j = false → Q 0 h := fun e => by rw [e] at hq; exact hq
  unfold w_X10_doTouch
  rw [z_iN (a := i) (by omega) (by omega), z_iN (a := j) (by omega) (by omega), a0, a1, a2, b0, b1, b2]
  refine ⟨z_in (by omega) (by omega) (by omega), z_in (by omega) (by omega) (by omega), ?_⟩
  by_cases c1 : spT a j < spF a i
  · rw [if_pos (by rw [z_lt (by omega) (by omega) (by omega) (by omega)]; omega)]
    exact no (by unfold tch; rw [decide_eq_false (by omega)]; rfl)
  · rw [if_neg (by rw [z_lt (by omega) (by omega) (by omega) (by omega)]; omega)]
    refine ⟨z_in (by omega) (by omega) (by omega), z_in (by omega) (by omega) (by omega), ?_⟩
    by_cases c2 : spT a i < spF a j
    · rw [if_pos (by rw [z_lt (by omega) (by omega) (by omega) (by omega)]; omega)]
      exact no (by unfold tch; rw [decide_eq_false (by omega : ¬ spF a j ≤ spT a i)]; simp)
    · rw [if_neg (by rw [z_lt (by omega) (by omega) (by omega) (by omega)]; omega)]
      refine ⟨z_in (by omega) (by omega) (by omega), z_in (by omega) (by omega) (by omega), ?_⟩
      refine m_areBeside M B OL (by omega) (by omega) ?_
      have e : tch a i j = besB a (spP a i) (spP a j) := by unfold tch; rw [decide_eq_true (by omega), decide_eq_true (by omega)]; simp
      rw [← e]
      cases hb : tch a i j with
      | false =>
        rw [if_pos (show z (bI false) = 0 from rfl)]
        exact no hb
      | true =>
        rw [if_neg (show ¬ z (bI true) = 0 by decide)]
        rw [hb] at hq
        exact hq
noncomputable def muM (a : Wd) (h : PH) : Int := cn (fun k => decide (gI h 60 k.toNat = -1)) (spS a)
def PmM (h : PH) (a : Wd) (i : Int) (M : Int → Bool) : Prop := (∀ k : Int, 0 ≤ k → k < spS a → gI h 60 k.toNat = z (mrk (tch a) (spS a) i M k)) ∧ MkO (tch a) (spS a) i M
theorem mrk_rg {i k : Int} {M : Int → Bool} (h6 : 0 ≤ a.n 0 ∧ a.n 0 ≤ 6) (hi : 0 ≤ i ∧ i < spS a) (hk : 0 ≤ k ∧ k < spS a) : -1 ≤ mrk (tch a) (spS a) i M k ∧ mrk (tch a) (spS a) i M k ≤ 144 := by
  have sr := spS_rg h6
  have l1 := lab_rg (t := tch a) hk.1 hk.2
  have l2 := lab_rg (t := tch a) hi.1 hi.2
  unfold mrk labA
  split
  · omega
  · split <;> omega
theorem mu_e {i : Int} {M : Int → Bool} (h6 : 0 ≤ a.n 0 ∧ a.n 0 ≤ 6) (hi : 0 ≤ i ∧ i < spS a) (P : PmM h a i M) : muM a h = una (tch a) (spS a) i M := by
  unfold muM una
  refine sm_cong (fun k k0 k1 => ?_)
  have r := mrk_rg (M := M) h6 hi ⟨k0, k1⟩
  show (if decide (gI h 60 k.toNat = -1) = true then (1 : Int) else 0) = if decide (mrk (tch a) (spS a) i M k = -1) = true then 1 else 0
  rw [P.1 k k0 k1]
  by_cases c : mrk (tch a) (spS a) i M k = -1
  · rw [c, decide_eq_true (show z (-1) = -1 from rfl), decide_eq_true rfl]
  · rw [decide_eq_false c, decide_eq_false (show ¬ z (mrk (tch a) (spS a) i M k) = -1 from z_ne (by omega) (by omega) (by decide) (by decide) c)]
theorem mrk_v {i k : Int} {M : Int → Bool} (h6 : 0 ≤ a.n 0 ∧ a.n 0 ≤ 6) (hi : 0 ≤ i ∧ i < spS a) (hF : fsp (tch a) (spS a) i = i) (hk : 0 ≤ k ∧ k < spS a) : mrk (tch a) (spS a) i M k = lab (tch a) (spS a) i ↔ M k = true := by
  have l2 := lab_rg (t := tch a) hi.1 hi.2
  constructor
  · intro e
    cases hb : M k with
    | true => rfl
    | false =>
      exfalso
      unfold mrk labA at e
      rw [hb, if_neg (by decide)] at e
      by_cases c : fsp (tch a) (spS a) k < i
      · rw [if_pos c] at e
        have := lab_lt (t := tch a) hk c hi.1 hF
        omega
      · rw [if_neg c] at e
        omega
  · intro e
    unfold mrk
    rw [if_pos e]
theorem m_spreads {Q : PH → Prop} {i : Int} (M : MT h a) (B : WB (gI h 42 0) a) (OL : OkL a) (S : SpM h a (spS a) (spS a)) (hi : 0 ≤ i ∧ i < spS a) (hF : fsp (tch a) (spS a) i = i) (P : PmM h a i (fun j => decide (j = i))) (hq : ∀ g, (∀ c k, ¬ (c = 60) → At h g c k) → (∀ k : Int, 0 ≤ k → k < spS a → gI g 60 k.toNat = z (labA (tch a) (spS a) (i + 1) k)) → Q g) : w_X10_spreads (z (lab (tch a) (spS a) i)) h Q := by
  have h6 := OL.1
  have sr := spS_rg h6
  have sy : ∀ i j, tch a i j = tch a j i := fun i j => tch_sy
  have vr := lab_rg (t := tch a) hi.1 hi.2
  unfold w_X10_spreads
  refine lp1_i (fun x g => ∃ fl Mk, x = z fl ∧ (fl = 0 ∨ fl = 1) ∧ (∀ c k, ¬ (c = 60) → At h g c k) ∧ PmM g a i Mk ∧ (fl = 0 → ∀ c k, Mk c = true → 0 ≤ k → k < spS a → tch a c k = true → mrk (tch a) (spS a) i Mk k ≠ -1)) (fun x g => if x = 0 then 0 else (1 + muM a g).toNat) ?_ 1 h ⟨1, _, rfl, Or.inr rfl, fun c k _ => At.rf h c k, P, fun e => by omega⟩
  rintro kb _ g ⟨fl, Mk, rfl, hfl, hf, hP, hcl⟩ hk
  unfold w_X10_spreads_2
  by_cases c0 : fl = 0
  · rw [if_pos (show z fl = 0 by rw [c0]; rfl)]
    refine hq g hf (fun k k0 k1 => ?_)
    rw [hP.1 k k0 k1, mk_all sy hi hF hP.2 (hcl c0) k k0 k1]
  · rw [if_neg (show ¬ z fl = 0 from z_ne (by omega) (by omega) (by decide) (by decide) c0)]
    have mu0 := mu_e h6 hi hP
    have ur0 := una_rg (t := tch a) (S := spS a) (i := i) (M := Mk) sr.1
    have hk' : ∀ (fl2 : Int) (M2 : Int → Bool) g2, (fl2 = 0 ∨ fl2 = 1) → (∀ c k, ¬ (c = 60) → At h g2 c k) → PmM g2 a i M2 → (fl2 = 0 → ∀ c k, M2 c = true → 0 ≤ k → k < spS a → tch a c k = true → mrk (tch a) (spS a) i M2 k ≠ -1) → (fl2 = 1 → una (tch a) (spS a) i M2 < una (tch a) (spS a) i Mk) → kb (z fl2) g2 := fun fl2 M2 g2 d1 d2 d3 d4 d5 => hk (z fl2) g2 ⟨fl2, M2, rfl, d1, d2, d3, d4⟩ (by
      have mu2 := mu_e h6 hi d3
      have ur2 := una_rg (t := tch a) (S := spS a) (i := i) (M := M2) sr.1
      rw [if_neg (show ¬ z fl = 0 from z_ne (by omega) (by omega) (by decide) (by decide) c0), mu0, mu2]
      rcases d1 with e | e
      · rw [if_pos (show z fl2 = 0 by rw [e]; rfl)]; omega
      · rw [if_neg (show ¬ z fl2 = 0 by rw [e]; decide)]
        have := d5 e
        omega)
    clear hk
    refine for21 (spS a) (fun c x g => ∃ fl2 M2, x = z fl2 ∧ (fl2 = 0 ∨ fl2 = 1) ∧ (∀ c k, ¬ (c = 60) → At h g c k) ∧ PmM g a i M2 ∧ (fl2 = 0 → ∀ c', 0 ≤ c' → c' < c → ∀ k, M2 c' = true → 0 ≤ k → k < spS a → tch a c' k = true → mrk (tch a) (spS a) i M2 k ≠ -1) ∧ (fl2 = 1 → una (tch a) (spS a) i M2 < una (tch a) (spS a) i Mk) ∧ una (tch a) (spS a) i M2 ≤ una (tch a) (spS a) i Mk) 0 rfl (by omega) (by omega) (by omega) ⟨0, Mk, rfl, Or.inl rfl, hf, hP, fun _ c' d0 d1 => by omega, fun e => by omega, Int.le_refl _⟩ ?_ ?_
    · clear hf hP hcl mu0 g
      rintro kb2 c _ g c0' c1 ⟨fl2, M2, rfl, d1, hf, hP, hcl, hd, hle⟩ hn
      have e76 : gI g 0 76 = z (spS a) := by rw [(hf 0 76 (by omega)).1]; exact S.1
      unfold w_X10_spreads_10
      rw [e76, if_neg (by rw [z_le (by omega) (by omega) (by omega) (by omega)]; omega), z_inc]
      refine for21 (spS a) (fun k x g => ∃ fl2 M2, x = z fl2 ∧ (fl2 = 0 ∨ fl2 = 1) ∧ (∀ c k, ¬ (c = 60) → At h g c k) ∧ PmM g a i M2 ∧ (fl2 = 0 → (∀ c', 0 ≤ c' → c' < c → ∀ k, M2 c' = true → 0 ≤ k → k < spS a → tch a c' k = true → mrk (tch a) (spS a) i M2 k ≠ -1) ∧ (∀ k', 0 ≤ k' → k' < k → M2 c = true → tch a c k' = true → mrk (tch a) (spS a) i M2 k' ≠ -1)) ∧ (fl2 = 1 → una (tch a) (spS a) i M2 < una (tch a) (spS a) i Mk) ∧ una (tch a) (spS a) i M2 ≤ una (tch a) (spS a) i Mk) 0 rfl (by omega) (by omega) (by omega) ⟨fl2, M2, rfl, d1, hf, hP, fun e => ⟨hcl e, fun k' e0 e1 => by omega⟩, hd, hle⟩ ?_ ?_
      · clear hf hP hcl e76 hd hle d1 g M2 fl2
        rintro kb3 k _ g k0 k1 ⟨fl2, M2, rfl, d1, hf, hP, hcl, hd, hle⟩ hn2
        have e76 : gI g 0 76 = z (spS a) := by rw [(hf 0 76 (by omega)).1]; exact S.1
        have ec := hP.1 c c0' c1
        have ek := hP.1 k k0 k1
        have rc := mrk_rg (M := M2) h6 hi ⟨c0', c1⟩
        have rk := mrk_rg (M := M2) h6 hi ⟨k0, k1⟩
        unfold w_X10_spreads_21
        rw [e76, if_neg (by rw [z_le (by omega) (by omega) (by omega) (by omega)]; omega), z_iN (a := c) (by omega) (by omega), z_iN (a := k) (by omega) (by omega), ec, ek, z_inc]
        refine ⟨z_in (by omega) (by omega) (by omega), ?_⟩
        by_cases cm : M2 c = true
        · rw [if_pos (by rw [(mrk_v h6 hi hF ⟨c0', c1⟩).mpr cm])]
          refine ⟨z_in (by omega) (by omega) (by omega), ?_⟩
          have stay : (tch a c k = true → mrk (tch a) (spS a) i M2 k ≠ -1) → kb3 (z fl2) (z (k + 1)) g := fun hh => hn2 _ g ⟨fl2, M2, rfl, d1, hf, hP, fun e => ⟨(hcl e).1, fun k' e0 e1 e2 e3 => by
            by_cases ee : k' = k
            · rw [ee] at e3 ⊢; exact hh e3
            · exact (hcl e).2 k' e0 (by omega) e2 e3⟩, hd, hle⟩
          by_cases cu : mrk (tch a) (spS a) i M2 k = -1
          · rw [if_pos (show z (mrk (tch a) (spS a) i M2 k) = -1 by rw [cu]; rfl)]
            have Mg : MT g a := M.at' (fun c k e0 e1 => hf c k (by omega))
            have Bg : WB (gI g 42 0) a := by rw [(hf 42 0 (by omega)).1]; exact B
            have Sg : SpM g a (spS a) (spS a) := S.at' (fun c k hc => hf c k (by unfold spC at hc; omega))
            refine m_doTouch Mg Bg OL Sg ⟨c0', c1⟩ ⟨k0, k1⟩ ?_
            cases hb : tch a c k with
            | false =>
              rw [if_pos (show z (bI false) = 0 from rfl)]
              exact stay (fun e => by rw [hb] at e; exact absurd e (by decide))
            | true =>
              rw [if_neg (show ¬ z (bI true) = 0 by decide)]
              refine ⟨z_in (by omega) (by omega) (by omega), ?_⟩
              rintro _ rfl
              have us := una_s (t := tch a) (S := spS a) (M := M2) hi ⟨k0, k1⟩ cu
              refine hn2 1 _ ⟨1, fun j => M2 j || decide (j = k), rfl, Or.inr rfl, fun c k hc => (hf c k hc).sI (by omega), ⟨fun j j0 j1 => ?_, mk_add hP.2 cm ⟨k0, k1⟩ hb⟩, fun e => by omega, fun _ => by omega, by omega⟩
              by_cases ee : j = k
              · rw [ee, gI_in rfl rfl, mk_v]
              · rw [gI_out (by omega), mk_o ee]; exact hP.1 j j0 j1
          · rw [if_neg (show ¬ z (mrk (tch a) (spS a) i M2 k) = -1 from z_ne (by omega) (by omega) (by decide) (by decide) cu)]
            exact stay (fun _ => cu)
        · rw [if_neg (z_ne (by omega) (by omega) (by omega) (by omega) (fun x => cm ((mrk_v h6 hi hF ⟨c0', c1⟩).mp x)))]
          refine hn _ g ⟨fl2, M2, rfl, d1, hf, hP, fun e c' e0 e1 k' e2 e3 e4 e5 => ?_, hd, hle⟩
          by_cases ee : c' = c
          · rw [ee] at e2; exact absurd e2 cm
          · exact (hcl e).1 c' e0 (by omega) k' e2 e3 e4 e5
      · clear hf hP hcl e76 hd hle d1 g M2 fl2
        rintro kb3 _ g ⟨fl2, M2, rfl, d1, hf, hP, hcl, hd, hle⟩
        have e76 : gI g 0 76 = z (spS a) := by rw [(hf 0 76 (by omega)).1]; exact S.1
        unfold w_X10_spreads_21
        rw [e76, if_pos (by rw [z_le (by omega) (by omega) (by omega) (by omega)]; omega)]
        refine hn _ g ⟨fl2, M2, rfl, d1, hf, hP, fun e c' e0 e1 k' e2 e3 e4 e5 => ?_, hd, hle⟩
        by_cases ee : c' = c
        · rw [ee] at e2 e5; exact (hcl e).2 k' e3 e4 e2 e5
        · exact (hcl e).1 c' e0 (by omega) k' e2 e3 e4 e5
    · clear hf hP hcl mu0 g
      rintro kb2 _ g ⟨fl2, M2, rfl, d1, hf, hP, hcl, hd, hle⟩
      have e76 : gI g 0 76 = z (spS a) := by rw [(hf 0 76 (by omega)).1]; exact S.1
      unfold w_X10_spreads_10
      rw [e76, if_pos (by rw [z_le (by omega) (by omega) (by omega) (by omega)]; omega)]
      refine hk' fl2 M2 g d1 hf hP (fun e c k e1 e2 e3 e4 => ?_) hd
      have mr := (hP.2.2 c e1).1
      exact hcl e c mr.1 mr.2 k e1 e2 e3 e4
end PCM
