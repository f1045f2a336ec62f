section WALLM
variable {h : PH} {s : St} {a : Wd}
def hbF (a : Wd) (n p : Int) (F : Int → Int → Int) : Bool := decide (a.f 3 5 n = 0) && decide (F (a.f 3 0 n) p < 100000) && hdB a n (F (a.f 3 0 n) p)
theorem m_heardBy {Q : Int32 → PH → Prop} {n p i : Int} {x : Int32} (M : MT h a) (D : MD h 0 a) (NN : NM h a) (N : Now a) (hn : 0 ≤ n ∧ n < a.n 3) (hp : 0 ≤ p ∧ p < a.n 0) (hx : ∀ l : Nat, l < 32 → (bt x l = true ↔ (l : Int) < a.n 1 ∧ (a.f 1 3 l = 1 ∨ tb i l = true))) (hq : ∀ g, (∀ c k, ¬ (c = 50 ∨ lawC c k) → At h g c k) → Q (z (bI (hbB a n p i))) g) : w_X10_isHeardBy (z n) (z p) x h Q := by
  have OL := wS_ok (i := i) N.1
  have h6 := N.1.1
  have n12 := N.2.2.2.2.2.2.1
  obtain ⟨o1, o2, o3, o4, o5⟩ := N.2.1.2 n hn.1 hn.2
  have nl := (N.2.2.2.2.2.2.2.1 n hn.1 hn.2).2
  have F3 := (far_gd (-1) OL).2.2.1
  have eb : hbB a n p i = hbF a n p (far (wS a i) (-1)) := rfl
  rw [eb] at hq
  clear eb
  have B : WB x (wS a i) := by
    intro l l0 l1
    have l9 := N.1.2.1
    have l1' : l < a.n 1 := l1
    have b := hx l.toNat (by omega)
    rw [show ((l.toNat : Nat) : Int) = l by omega] at b
    show z (if a.f 1 3 l = 1 ∨ tb i l = true then 1 else 0) = _
    by_cases c : a.f 1 3 l = 1 ∨ tb i l = true
    · rw [if_pos c, if_pos (b.mpr ⟨l1', c⟩)]
    · rw [if_neg c, if_neg (fun y => c (b.mp y).2)]
  have Mw : MT h (wS a i) := M
  unfold w_X10_isHeardBy
  rw [z_m1]
  refine m_far (g := -1) Mw OL B rfl (by omega) (fun g f FF => ?_)
  generalize far (wS a i) (-1) = F at *
  have e37 : ∀ g', (∀ c k, ¬ lawC c k → At g g' c k) → gI g' 37 n.toNat = z (a.f 3 2 n) ∧ gI g' 38 n.toNat = z (a.f 3 3 n) := fun g' f' => by
    have d := D.2.1 n hn.1 hn.2
    rw [show (12 * 0 + n) = n by omega] at d
    rw [(f' 37 _ (by unfold lawC; omega)).1, (f' 38 _ (by unfold lawC; omega)).1, (f 37 _ (by omega)).1, (f 38 _ (by omega)).1]
    exact ⟨d.2.2.1, d.2.2.2.1⟩
  have ex : hbF a n p F = true ↔ ∃ m, a.f 3 2 n ≤ m ∧ m ≤ a.f 3 3 n ∧ hr a F n p m = true := by
    have e := hd_ex (a := a) (n := n) (d := F (a.f 3 0 n) p) ⟨o3.1, o3.2.2⟩
    unfold hbF
    simp only [Bool.and_eq_true, decide_eq_true_eq]
    rw [e]
    constructor
    · rintro ⟨⟨h1, h2⟩, m, m1, m2, m3⟩
      refine ⟨m, m1, m2, ?_⟩
      unfold hr car
      rw [decide_eq_true m1, decide_eq_true m2, decide_eq_true h1, decide_eq_true h2, decide_eq_true nl, decide_eq_true m3]; rfl
    · rintro ⟨m, m1, m2, m3⟩
      unfold hr car at m3
      simp only [Bool.and_eq_true, decide_eq_true_eq] at m3
      exact ⟨⟨m3.1.2, m3.2.1.1⟩, m, m1, m2, m3.2.2⟩
  rw [z_iN (a := n) (by omega) (by omega), (e37 g (fun c k _ => At.rf g c k)).1]
  refine ⟨z_in (by omega) (by omega) (by omega), ?_⟩
  rintro _ rfl
  refine for10 (a.f 3 3 n + 1) (fun m g' => (∀ c k, ¬ lawC c k → At g g' c k) ∧ ∀ m', a.f 3 2 n ≤ m' → m' < m → hr a F n p m' = false) (a.f 3 2 n) rfl (by omega) (by omega) (by omega) ⟨fun c k _ => At.rf g c k, fun m' d0 d1 => by omega⟩ ?_ ?_
  · rintro kb m g' m0 m1 ⟨hf, hJ⟩ hk
    unfold w_X10_isHeardBy_14
    rw [z_iN (a := n) (by omega) (by omega), (e37 g' hf).2]
    refine ⟨z_in (by omega) (by omega) (by omega), ?_⟩
    rw [if_neg (by rw [z_lt (by omega) (by omega) (by omega) (by omega)]; omega), z_inc]
    obtain ⟨fr, K⟩ := M.2.2.2.2.2.2.2.1
    have ff : ∀ c k, ¬ (c = 50 ∨ lawC c k) → At h g' c k := fun c k hc => (f c k (fun x => hc (Or.inl x))).tr (hf c k (fun x => hc (Or.inr x)))
    refine m_hears (K.at' (fun c k b1 b2 => ff c k (by unfold lawC; omega))) N.2.2.2.2.1 (FF.at' (fun k => hf 50 k (by unfold lawC; omega))) (NN.at' (ff 0 62 (by unfold lawC; omega)) (fun c k b1 b2 => ff c k (by unfold lawC; omega))) N.2.1 F3 h6.2 hn (by omega) (by omega) (fun g2 f2 => ?_)
    cases hb : hr a F n p m with
    | true =>
      rw [if_neg (show ¬ z (if true = true then (1 : Int) else 0) = 0 by decide)]
      have := hq g2 (fun c k hc => (ff c k hc).tr (f2 c k (fun x => hc (Or.inr x))))
      rw [ex.mpr ⟨m, m0, by omega, hb⟩] at this
      exact this
    | false =>
      rw [if_pos (show z (if false = true then (1 : Int) else 0) = 0 from rfl)]
      refine hk g2 ⟨fun c k hc => (hf c k hc).tr (f2 c k hc), fun m' d0 d1 => ?_⟩
      by_cases e : m' = m
      · rw [e]; exact hb
      · exact hJ m' d0 (by omega)
  · rintro kb g' ⟨hf, hJ⟩
    unfold w_X10_isHeardBy_14
    rw [z_iN (a := n) (by omega) (by omega), (e37 g' hf).2]
    refine ⟨z_in (by omega) (by omega) (by omega), ?_⟩
    rw [if_pos (by rw [z_lt (by omega) (by omega) (by omega) (by omega)]; omega)]
    have := hq g' (fun c k hc => (f c k (fun x => hc (Or.inl x))).tr (hf c k (fun x => hc (Or.inr x))))
    have e : hbF a n p F = false := by
      cases hb : hbF a n p F with
      | false => rfl
      | true =>
        obtain ⟨m, m1, m2, m3⟩ := ex.mp hb
        rw [hJ m m1 (by omega)] at m3
        exact absurd m3 (by decide)
    rw [e] at this
    exact this
theorem ms_walls {Q : Int32 → PH → Prop} {n p : Int} (J : IM h s) (hn : i32 n) (hp : i32 p) (hq : ∀ g, IM g s → Q (z (a_walls s.a n p)) g) : w_X10_walls (z n) (z p) h Q := by
  unfold w_X10_walls
  rintro _ rfl
  have J1 := J.fr (fr0 h 0)
  generalize sI h 0 0 0 = h1 at J1
  have n4 := J1.1.2.2
  have l9 := n4.1.2.1
  have P5 := pw_512 l9.1 l9.2
  have ref : ¬ ((0 ≤ n ∧ n < s.a.n 3) ∧ (0 ≤ p ∧ p < s.a.n 0)) → Q (-1) h1 := fun c => by
    have e : a_walls s.a n p = -1 := if_neg c
    rw [e] at hq
    exact hq h1 J1
  refine m_isNoise J1.1 hn (fun c1 c2 => ?_) (fun c1 => ?_)
  · rw [if_neg (by decide)]
    refine m_isPlace J1.1 hp (fun c3 c4 => ?_) (fun c3 => ?_)
    · rw [if_neg (by decide)]
      have ea : a_walls s.a n p = wbN s.a n p (2 ^ (s.a.n 1).toNat) := if_pos ⟨⟨c1, c2⟩, c3, c4⟩
      rw [ea] at hq
      refine m_layNoises J1.1.2.1 n4.2.1 n4.2.2.2.2.2.2.1 (fun n c1 c2 => (n4.2.2.2.2.2.2.2.1 n c1 c2).2) (fun g f NN => ?_)
      refine for21 ((2 ^ (s.a.n 1).toNat : Nat) : Int) (fun i x g' => (∀ c k, ¬ (c = 50 ∨ lawC c k) → At g g' c k) ∧ x = z (wbN s.a n p i.toNat)) 0 rfl (by omega) (by omega) (by omega) ⟨fun c k _ => At.rf g c k, rfl⟩ ?_ ?_
      · rintro kb i _ g' i0 i1 ⟨hf, rfl⟩ hk
        have M' : MT g' s.a := (J1.1.1.at' (fun c k b1 b2 => f c k (by omega) (by omega))).at' (fun c k b1 b2 => hf c k (by unfold lawC; omega))
        have D' : MD g' 0 s.a := (J1.1.2.1.at' (fun c k b1 b2 => f c k (by omega) (by omega))).at' (fun c k b1 b2 => hf c k (by unfold lawC; omega))
        have N' : NM g' s.a := NN.at' (hf 0 62 (by unfold lawC; omega)) (fun c k b1 b2 => hf c k (by unfold lawC; omega))
        have rb := wbN_rg s.a n p i.toNat
        rw [wbN_s i0] at hk
        generalize wbN s.a n p i.toNat = B at *
        have rp := pc_rg B
        have ri := pc_rg i
        have e21 : gI g' 2 1 = z (s.a.n 1) := M'.1.2.1
        have b42 : ∀ l : Nat, l < 32 → (bt (gI g' 42 0) l = true ↔ (l : Int) < s.a.n 1 ∧ s.a.f 1 3 l = 1) := fun l hl => by
          have := D'.2.2.2.2.1 l (by omega) (by omega)
          rw [show ((l : Nat) : Int).toNat = l by omega] at this
          exact this
        have iL : ∀ l : Nat, tb i l = true → (l : Int) < s.a.n 1 := by
          intro l hl
          by_cases c : (l : Int) < s.a.n 1
          · exact c
          · exfalso
            unfold tb at hl
            rw [Nat.testBit_lt_two_pow (Nat.lt_of_lt_of_le (by omega : i.toNat < 2 ^ (s.a.n 1).toNat) (Nat.pow_le_pow_right (by decide) (by omega)))] at hl
            exact absurd hl (by decide)
        have same : wb s.a n p i B = B → ∀ g2, (∀ c k, ¬ (c = 50 ∨ lawC c k) → At g g2 c k) → kb (z B) (z i + 1) g2 := by
          intro e g2 f2
          rw [z_inc]
          rw [e] at hk
          exact hk _ g2 ⟨f2, rfl⟩
        unfold w_X10_walls_33
        rw [iN_0, iN_1, e21, shl_pw l9.1 l9.2, if_neg (by rw [z_le (by omega) (by omega) (by omega) (by omega)]; omega)]
        by_cases cd : dj s.a i = true
        · have dn : ∀ l : Int, 0 ≤ l → l < s.a.n 1 → ¬ (tb i l = true ∧ s.a.f 1 3 l = 1) := by
            intro l l0 l1 ⟨x1, x2⟩
            unfold dj at cd
            rw [decide_eq_true_eq] at cd
            rcases ff_ca (fun l => tb i l && decide (s.a.f 1 3 l = 1)) (s.a.n 1) with ⟨_, hn⟩ | ⟨h1, _⟩
            · have := hn l l0 l1
              rw [x1, decide_eq_true x2] at this
              exact absurd this (by decide)
            · omega
          have ez : (z i &&& gI g' 42 0) = 0 := by
            refine bt_none (fun l hl => ?_)
            rw [b_and, bt_tb i0 hl]
            cases hx : tb i l with
            | false => rfl
            | true =>
              cases hy : bt (gI g' 42 0) l with
              | false => rfl
              | true => exact absurd ⟨hx, ((b42 l hl).mp hy).2⟩ (dn l (by omega) (iL l hx))
          rw [if_pos ez]
          have go : (B < 0 ∨ pc i < pc B) → ∀ g2, (∀ c k, ¬ (c = 50 ∨ lawC c k) → At g g2 c k) → MT g2 s.a → MD g2 0 s.a → NM g2 s.a → w_X10_walls_77 Q kb (z n) (z p) (z B) (z i) g2 := by
            intro hc g2 f2 M2 D2 N2
            unfold w_X10_walls_77
            have b42' : ∀ l : Nat, l < 32 → (bt (gI g2 42 0) l = true ↔ (l : Int) < s.a.n 1 ∧ s.a.f 1 3 l = 1) := fun l hl => by
              have := D2.2.2.2.2.1 l (by omega) (by omega)
              rw [show ((l : Nat) : Int).toNat = l by omega] at this
              exact this
            refine m_heardBy (i := i) M2 D2 N2 n4 ⟨c1, c2⟩ ⟨c3, c4⟩ (fun l hl => ?_) (fun g3 f3 => ?_)
            · rw [iN_0, b_or, Bool.or_eq_true, b42' l hl, bt_tb i0 hl]
              constructor
              · rintro (⟨x1, x2⟩ | x)
                · exact ⟨x1, Or.inl x2⟩
                · exact ⟨iL l x, Or.inr x⟩
              · rintro ⟨x1, x2 | x2⟩
                · exact Or.inl ⟨x1, x2⟩
                · exact Or.inr x2
            · have f4 : ∀ c k, ¬ (c = 50 ∨ lawC c k) → At g g3 c k := fun c k hc => (f2 c k hc).tr (f3 c k hc)
              cases hb : hbB s.a n p i with
              | false =>
                rw [if_pos (show z (bI false) = 0 from rfl), z_inc]
                have e : wb s.a n p i B = i := by unfold wb; rw [if_pos ⟨cd, hc, hb⟩]
                rw [e] at hk
                exact hk _ g3 ⟨f4, rfl⟩
              | true =>
                rw [if_neg (show ¬ z (bI true) = 0 by decide)]
                exact same (by unfold wb; rw [if_neg (fun x => by rw [hb] at x; exact absurd x.2.2 (by decide))]) g3 f4
          by_cases cB : B < 0
          · rw [if_pos (show z B < 0 by rw [zn_0, z_lt (by omega) (by omega) (by omega) (by omega)]; exact cB)]
            exact go (Or.inl cB) g' hf M' D' N'
          · rw [if_neg (show ¬ z B < 0 by rw [zn_0, z_lt (by omega) (by omega) (by omega) (by omega)]; exact cB)]
            refine m_pc i0 ?_
            refine m_pc (by omega) ?_
            by_cases c7 : pc i < pc B
            · rw [if_pos (by rw [z_lt (by omega) (by omega) (by omega) (by omega)]; omega)]
              exact go (Or.inr c7) g' hf M' D' N'
            · rw [if_neg (by rw [z_lt (by omega) (by omega) (by omega) (by omega)]; omega)]
              exact same (by unfold wb; rw [if_neg (fun x => by rcases x.2.1 with y | y; exact cB y; exact c7 y)]) g' hf
        · have ez : ¬ (z i &&& gI g' 42 0) = 0 := by
            intro hz
            apply cd
            unfold dj
            rw [decide_eq_true_eq]
            refine ff_no (fun l l0 l1 => ?_)
            cases hx : tb i l with
            | false => rfl
            | true =>
              rw [Bool.true_and]
              refine decide_eq_false (fun hy => ?_)
              have e1 : bt (z i &&& gI g' 42 0) l.toNat = true := by
                rw [b_and, bt_tb i0 (by omega), show ((l.toNat : Nat) : Int) = l by omega, hx, Bool.true_and]
                exact (b42 l.toNat (by omega)).mpr (by rw [show ((l.toNat : Nat) : Int) = l by omega]; exact ⟨l1, hy⟩)
              rw [hz, show (0 : Int32) = z 0 from rfl, bt_z0 l.toNat (by omega)] at e1
              exact absurd e1 (by decide)
          rw [if_neg ez]
          exact same (by unfold wb; rw [if_neg (fun x => cd x.1)]) g' hf
      · rintro kb _ g' ⟨hf, rfl⟩
        have M' : MT g' s.a := (J1.1.1.at' (fun c k b1 b2 => f c k (by omega) (by omega))).at' (fun c k b1 b2 => hf c k (by unfold lawC; omega))
        have e21 : gI g' 2 1 = z (s.a.n 1) := M'.1.2.1
        unfold w_X10_walls_33
        rw [iN_1, e21, shl_pw l9.1 l9.2, if_pos (by rw [z_le (by omega) (by omega) (by omega) (by omega)]; omega)]
        exact hq g' (J1.fr (fun c k hc => (f c k (by unfold scrM at hc; omega) (by unfold scrM at hc; omega)).tr (hf c k (by unfold scrM at hc; unfold lawC; omega))))
    · rw [if_pos rfl]
      exact ref (fun x => c3 x.2)
  · rw [if_pos rfl]
    exact ref (fun x => c1 x.1)
end WALLM
