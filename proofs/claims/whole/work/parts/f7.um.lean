/-! ===== the reference: what is told comes down, the day begins ===== -/
def HT (h g : PH) (c : Nat) : Prop := ∀ a b, ((2 ≤ a ∧ a < c ∧ b < hf a) → gI g a b = gI h a (hf a + b)) ∧ (¬ (2 ≤ a ∧ a < c ∧ b < hf a) → At h g a b)
theorem hf_al : ∀ c : Fin 32, 2 ≤ c.val → alM c.val = 2 * hf c.val ∧ (1 ≤ hf c.val ∧ hf c.val ≤ 64) ∧ (Int32.ofNat (alM c.val)) / 2 = z ((hf c.val : Nat) : Int) := by decide +kernel
section HALF
variable {h g : PH}
theorem m_half {Q : PH → Prop} {c : Nat} (hc : 2 ≤ c ∧ c < 32) (H : HT h g c) (hq : ∀ g', HT h g' (c + 1) → Q g') : w_X10_half c g Q := by
  have t := hf_al ⟨c, hc.2⟩ hc.1
  simp only at t
  obtain ⟨t1, t2, t3⟩ := t
  unfold w_X10_half
  rintro _ rfl
  rw [t3]
  refine for10 (hf c) (fun i g' => (∀ a b : Nat, ¬ (a = c ∧ (b : Int) < i) → At g g' a b) ∧ ∀ b : Nat, (b : Int) < i → gI g' c b = gI g c (hf c + b)) 0 rfl (by omega) (by omega) (by omega) ⟨fun a b _ => At.rf g a b, fun b hb => by omega⟩ ?_ ?_
  · rintro kb i g' i0 i1 ⟨f, hJ⟩ hn
    unfold w_X10_half_7
    rw [if_neg (by rw [z_le (by omega) (by omega) (by omega) (by omega)]; omega), z_add, z_iN (a := i) i0 (by omega), z_iN (a := (hf c : Int) + i) (by omega) (by omega), z_inc]
    refine ⟨z_in (by omega) (by omega) (by omega), z_in (by omega) (by omega) (by omega), ?_⟩
    rintro _ rfl
    refine hn _ ⟨fun a b hab => (f a b (by omega)).sI (by omega), fun b hb => ?_⟩
    by_cases e : b = i.toNat
    · rw [e, gI_in rfl rfl, (f c _ (by omega)).1]
      congr 1
      omega
    · rw [gI_out (by omega)]; exact hJ b (by omega)
  · rintro kb g' ⟨f, hJ⟩
    unfold w_X10_half_7
    rw [if_pos (by rw [z_le (by omega) (by omega) (by omega) (by omega)]; omega)]
    refine hq g' (fun a b => ⟨fun hab => ?_, fun hab => ?_⟩)
    · by_cases e : a = c
      · rw [e] at hab ⊢
        rw [hJ b (by omega), ((H c (hf c + b)).2 (by omega)).1]
      · rw [(f a b (by omega)).1]
        exact (H a b).1 (by omega)
    · refine ((H a b).2 (by omega)).tr (f a b ?_)
      rintro ⟨rfl, e⟩
      exact hab (by omega)
theorem m_halves {Q : PH → Prop} (hq : ∀ g', HT h g' 32 → Q g') : w_X10_half 2 h (fun h23 => w_X10_half 3 h23 (fun h24 => w_X10_half 4 h24 (fun h25 => w_X10_half 5 h25 (fun h26 => w_X10_half 6 h26 (fun h27 => w_X10_half 7 h27 (fun h28 => w_X10_half 8 h28 (fun h29 => w_X10_half 9 h29 (fun h30 => w_X10_half 10 h30 (fun h31 => w_X10_half 11 h31 (fun h32 => w_X10_half 12 h32 (fun h33 => w_X10_half 13 h33 (fun h34 => w_X10_half 14 h34 (fun h35 => w_X10_half 15 h35 (fun h36 => w_X10_half 16 h36 (fun h37 => w_X10_half 17 h37 (fun h38 => w_X10_half 18 h38 (fun h39 => w_X10_half 19 h39 (fun h40 => w_X10_half 20 h40 (fun h41 => w_X10_half 21 h41 (fun h42 => w_X10_half 22 h42 (fun h43 => w_X10_half 23 h43 (fun h44 => w_X10_half 24 h44 (fun h45 => w_X10_half 25 h45 (fun h46 => w_X10_half 26 h46 (fun h47 => w_X10_half 27 h47 (fun h48 => w_X10_half 28 h48 (fun h49 => w_X10_half 29 h49 (fun h50 => w_X10_half 30 h50 (fun h51 => w_X10_half 31 h51 Q))))))))))))))))))))))))))))) := by
  refine m_half (by omega) (fun a b => ⟨fun x => by omega, fun _ => At.rf h a b⟩) (fun g2 H2 => ?_)
  refine m_half (by omega) H2 (fun g3 H3 => ?_)
  refine m_half (by omega) H3 (fun g4 H4 => ?_)
  refine m_half (by omega) H4 (fun g5 H5 => ?_)
  refine m_half (by omega) H5 (fun g6 H6 => ?_)
  refine m_half (by omega) H6 (fun g7 H7 => ?_)
  refine m_half (by omega) H7 (fun g8 H8 => ?_)
  refine m_half (by omega) H8 (fun g9 H9 => ?_)
  refine m_half (by omega) H9 (fun g10 H10 => ?_)
  refine m_half (by omega) H10 (fun g11 H11 => ?_)
  refine m_half (by omega) H11 (fun g12 H12 => ?_)
  refine m_half (by omega) H12 (fun g13 H13 => ?_)
  refine m_half (by omega) H13 (fun g14 H14 => ?_)
  refine m_half (by omega) H14 (fun g15 H15 => ?_)
  refine m_half (by omega) H15 (fun g16 H16 => ?_)
  refine m_half (by omega) H16 (fun g17 H17 => ?_)
  refine m_half (by omega) H17 (fun g18 H18 => ?_)
  refine m_half (by omega) H18 (fun g19 H19 => ?_)
  refine m_half (by omega) H19 (fun g20 H20 => ?_)
  refine m_half (by omega) H20 (fun g21 H21 => ?_)
  refine m_half (by omega) H21 (fun g22 H22 => ?_)
  refine m_half (by omega) H22 (fun g23 H23 => ?_)
  refine m_half (by omega) H23 (fun g24 H24 => ?_)
  refine m_half (by omega) H24 (fun g25 H25 => ?_)
  refine m_half (by omega) H25 (fun g26 H26 => ?_)
  refine m_half (by omega) H26 (fun g27 H27 => ?_)
  refine m_half (by omega) H27 (fun g28 H28 => ?_)
  refine m_half (by omega) H28 (fun g29 H29 => ?_)
  refine m_half (by omega) H29 (fun g30 H30 => ?_)
  exact m_half (by omega) H30 hq
theorem m_makes {Q : PH → Prop} {n v1 v2 v3 v4 v5 : Int} (hn : gI h 34 0 = z n) (h0 : 0 ≤ n ∧ n < 12) (hq : ∀ g', (∀ a b, ¬ ((35 ≤ a ∧ a ≤ 39 ∧ b = n.toNat) ∨ (a = 34 ∧ b = 0)) → At h g' a b) → gI g' 34 0 = z (n + 1) → gI g' 35 n.toNat = z v1 → gI g' 36 n.toNat = z v2 → gI g' 37 n.toNat = z v3 → gI g' 38 n.toNat = z v4 → gI g' 39 n.toNat = z v5 → Q g') : w_X10_makes (z v1) (z v2) (z v3) (z v4) (z v5) h Q := by
  unfold w_X10_makes
  rintro _ rfl
  rw [show iN 0 = 0 from rfl, hn, z_iN (a := n) h0.1 (by omega)]
  refine ⟨z_in (by omega) (by omega) (by omega), ?_⟩
  rintro _ rfl
  refine ⟨z_in (by omega) (by omega) (by omega), ?_⟩
  rintro _ rfl
  refine ⟨z_in (by omega) (by omega) (by omega), ?_⟩
  rintro _ rfl
  refine ⟨z_in (by omega) (by omega) (by omega), ?_⟩
  rintro _ rfl
  refine ⟨z_in (by omega) (by omega) (by omega), ?_⟩
  rintro _ rfl
  rintro _ rfl
  have e34 : gI (sI (sI (sI (sI (sI h 35 n.toNat (z v1)) 36 n.toNat (z v2)) 37 n.toNat (z v3)) 38 n.toNat (z v4)) 39 n.toNat (z v5)) 34 0 = z n := by
    repeat rw [gI_out (by omega)]
    exact hn
  rw [e34, z_inc]
  refine hq _ (fun a b hab => ((((((At.rf h a b).sI (by omega)).sI (by omega)).sI (by omega)).sI (by omega)).sI (by omega)).sI (by omega)) (gI_in rfl rfl) ?_ ?_ ?_ ?_ ?_
  all_goals (repeat rw [gI_out (by omega)])
  all_goals exact gI_in rfl rfl
/-- the day begins as it is told -/
theorem m_begins {Q : PH → Prop} {a : Wd} (ha : a.n 3 ≤ 8 ∧ 0 ≤ a.n 3) (h4 : 0 ≤ a.n 4 ∧ a.n 4 ≤ 8) (h2 : 0 ≤ a.n 2 ∧ a.n 2 ≤ 4) (n3 : gI h 2 3 = z (a.n 3)) (n4 : gI h 2 4 = z (a.n 4)) (n2 : gI h 2 2 = z (a.n 2)) (z5 : ∀ k, 0 ≤ k → k < a.n 3 → a.f 3 5 k = 0) (z3 : ∀ k, 0 ≤ k → k < a.n 1 → a.f 1 3 k = 0) (z7 : a.f 7 2 0 = 0)
    (r3 : ∀ k : Int, 0 ≤ k → k < a.n 3 → gI h 10 k.toNat = z (a.f 3 0 k) ∧ gI h 11 k.toNat = z (a.f 3 1 k) ∧ gI h 12 k.toNat = z (a.f 3 2 k) ∧ gI h 13 k.toNat = z (a.f 3 3 k) ∧ gI h 14 k.toNat = z (a.f 3 4 k))
    (r4 : ∀ k : Int, 0 ≤ k → k < a.n 4 → gI h 15 k.toNat = z (a.f 4 0 k)) (r2 : ∀ k : Int, 0 ≤ k → k < a.n 2 → gI h 8 k.toNat = z (a.f 2 1 k))
    (hq : ∀ g', (∀ c k, ¬ (34 ≤ c ∧ c ≤ 44) → At h g' c k) → MD g' 0 a → Q g') : w_X10_begins h Q := by
  unfold w_X10_begins
  rintro _ rfl
  rw [show iN 0 = 0 from rfl]
  refine for10 (a.n 3) (fun i g => (∀ c k, ¬ (34 ≤ c ∧ c ≤ 39) → At h g c k) ∧ gI g 34 0 = z i ∧ ∀ j : Int, 0 ≤ j → j < i → gI g 35 j.toNat = z (a.f 3 0 j) ∧ gI g 36 j.toNat = z (a.f 3 1 j) ∧ gI g 37 j.toNat = z (a.f 3 2 j) ∧ gI g 38 j.toNat = z (a.f 3 3 j) ∧ gI g 39 j.toNat = z (a.f 3 4 j)) 0 rfl (by omega) (by omega) (by omega) ⟨fun c k hc => (At.rf h c k).sI (by omega), gI_in rfl rfl, fun j j0 j1 => by omega⟩ ?_ ?_
  · rintro kb i g i0 i1 ⟨f, e, hJ⟩ hn
    obtain ⟨q1, q2, q3, q4, q5⟩ := r3 i i0 i1
    unfold w_X10_begins_9
    rw [show iN 3 = 3 from rfl, (f 2 3 (by omega)).1, n3, if_neg (by rw [z_le (by omega) (by omega) (by omega) (by omega)]; omega), z_iN (a := i) i0 (by omega), (f 10 _ (by omega)).1, (f 11 _ (by omega)).1, (f 12 _ (by omega)).1, (f 13 _ (by omega)).1, (f 14 _ (by omega)).1, q1, q2, q3, q4, q5]
    refine ⟨z_in (by omega) (by omega) (by omega), z_in (by omega) (by omega) (by omega), z_in (by omega) (by omega) (by omega), z_in (by omega) (by omega) (by omega), z_in (by omega) (by omega) (by omega), ?_⟩
    refine m_makes e (by omega) (fun g' f' e' w1 w2 w3 w4 w5 => ?_)
    rw [z_inc]
    refine hn g' ⟨fun c k hc => (f c k hc).tr (f' c k (by omega)), e', fun j j0 j1 => ?_⟩
    by_cases ej : j = i
    · rw [ej]; exact ⟨w1, w2, w3, w4, w5⟩
    · have := hJ j j0 (by omega)
      rw [(f' 35 _ (by omega)).1, (f' 36 _ (by omega)).1, (f' 37 _ (by omega)).1, (f' 38 _ (by omega)).1, (f' 39 _ (by omega)).1]
      exact this
  · rintro kb g ⟨f, e, hJ⟩
    unfold w_X10_begins_9
    rw [show iN 3 = 3 from rfl, (f 2 3 (by omega)).1, n3, if_pos (by rw [z_le (by omega) (by omega) (by omega) (by omega)]; omega)]
    dsimp only
    rintro _ rfl
    refine for10 8 (fun i g2 => (∀ c k, ¬ (c = 40 ∨ c = 41) → At g g2 c k) ∧ gI g2 40 0 = z 0 ∧ ∀ j : Int, 0 ≤ j → j < i → j < a.n 4 → gI g2 41 j.toNat = z (a.f 4 0 j)) 0 rfl (by omega) (by omega) (by omega) ⟨fun c k hc => (At.rf g c k).sI (by omega), gI_in rfl rfl, fun j j0 j1 => by omega⟩ ?_ ?_
    · rintro kb i g2 i0 i1 ⟨f2, e2, hJ2⟩ hn
      unfold w_X10_begins_68
      rw [zn_8, if_neg (by rw [z_le (by omega) (by omega) (by omega) (by omega)]; omega), show iN 4 = 4 from rfl, (f2 2 4 (by omega)).1, (f 2 4 (by omega)).1, n4, z_iN (a := i) i0 (by omega), z_inc]
      by_cases c : a.n 4 ≤ i
      · rw [if_pos (by rw [z_le (by omega) (by omega) (by omega) (by omega)]; omega)]
        refine ⟨z_in (by omega) (by omega) (by omega), ?_⟩
        rintro _ rfl
        refine hn _ ⟨fun c k hc => (f2 c k hc).sI (by omega), by rw [gI_out (by omega)]; exact e2, fun j j0 j1 j2 => ?_⟩
        rw [gI_out (by omega)]
        exact hJ2 j j0 (by omega) j2
      · rw [if_neg (by rw [z_le (by omega) (by omega) (by omega) (by omega)]; omega)]
        refine ⟨z_in (by omega) (by omega) (by omega), z_in (by omega) (by omega) (by omega), ?_⟩
        rintro _ rfl
        refine hn _ ⟨fun c k hc => (f2 c k hc).sI (by omega), by rw [gI_out (by omega)]; exact e2, fun j j0 j1 j2 => ?_⟩
        by_cases ej : j = i
        · rw [ej, gI_in rfl rfl, (f2 15 _ (by omega)).1, (f 15 _ (by omega)).1]
          exact r4 i i0 (by omega)
        · rw [gI_out (by omega)]
          exact hJ2 j j0 (by omega) j2
    · rintro kb g2 ⟨f2, e2, hJ2⟩
      unfold w_X10_begins_68
      rw [zn_8, if_pos (by rw [z_le (by omega) (by omega) (by omega) (by omega)]; omega)]
      dsimp only
      rintro _ rfl
      refine for10 4 (fun i g3 => (∀ c k, ¬ (c = 42 ∨ c = 43) → At g2 g3 c k) ∧ gI g3 42 0 = z 0 ∧ ∀ j : Int, 0 ≤ j → j < i → j < a.n 2 → gI g3 43 j.toNat = z (a.f 2 1 j)) 0 rfl (by omega) (by omega) (by omega) ⟨fun c k hc => (At.rf g2 c k).sI (by omega), gI_in rfl rfl, fun j j0 j1 => by omega⟩ ?_ ?_
      · rintro kb i g3 i0 i1 ⟨f3, e3, hJ3⟩ hn
        unfold w_X10_begins_115
        rw [zn_4, if_neg (by rw [z_le (by omega) (by omega) (by omega) (by omega)]; omega), show iN 2 = 2 from rfl, (f3 2 2 (by omega)).1, (f2 2 2 (by omega)).1, (f 2 2 (by omega)).1, n2, z_iN (a := i) i0 (by omega), z_inc]
        by_cases c : a.n 2 ≤ i
        · rw [if_pos (by rw [z_le (by omega) (by omega) (by omega) (by omega)]; omega)]
          refine ⟨z_in (by omega) (by omega) (by omega), ?_⟩
          rintro _ rfl
          refine hn _ ⟨fun c k hc => (f3 c k hc).sI (by omega), by rw [gI_out (by omega)]; exact e3, fun j j0 j1 j2 => ?_⟩
          rw [gI_out (by omega)]
          exact hJ3 j j0 (by omega) j2
        · rw [if_neg (by rw [z_le (by omega) (by omega) (by omega) (by omega)]; omega)]
          refine ⟨z_in (by omega) (by omega) (by omega), z_in (by omega) (by omega) (by omega), ?_⟩
          rintro _ rfl
          refine hn _ ⟨fun c k hc => (f3 c k hc).sI (by omega), by rw [gI_out (by omega)]; exact e3, fun j j0 j1 j2 => ?_⟩
          by_cases ej : j = i
          · rw [ej, gI_in rfl rfl, (f3 8 _ (by omega)).1, (f2 8 _ (by omega)).1, (f 8 _ (by omega)).1]
            exact r2 i i0 (by omega)
          · rw [gI_out (by omega)]
            exact hJ3 j j0 (by omega) j2
      · rintro kb g3 ⟨f3, e3, hJ3⟩
        unfold w_X10_begins_115
        rw [zn_4, if_pos (by rw [z_le (by omega) (by omega) (by omega) (by omega)]; omega)]
        dsimp only
        rintro _ rfl
        refine hq _ (fun c k hc => (((f c k (by omega)).tr (f2 c k (by omega))).tr (f3 c k (by omega))).sI (by omega)) ⟨?_, fun n n0 n1 => ?_, fun n n0 n1 => ?_, fun c c0 c1 => ?_, fun l l0 l1 => ?_, fun o o0 o1 => ?_, ?_⟩
        · show gI _ 34 0 = _
          rw [gI_out (by omega), (f3 34 0 (by omega)).1, (f2 34 0 (by omega)).1]; exact e
        · rw [show 12 * (0 : Int) + n = n by omega, gI_out (by omega), gI_out (by omega), gI_out (by omega), gI_out (by omega), gI_out (by omega), (f3 35 _ (by omega)).1, (f2 35 _ (by omega)).1, (f3 36 _ (by omega)).1, (f2 36 _ (by omega)).1, (f3 37 _ (by omega)).1, (f2 37 _ (by omega)).1, (f3 38 _ (by omega)).1, (f2 38 _ (by omega)).1, (f3 39 _ (by omega)).1, (f2 39 _ (by omega)).1]
          exact hJ n n0 n1
        · show bt (gI _ 40 0) n.toNat = true ↔ _
          rw [gI_out (by omega), (f3 40 0 (by omega)).1, e2, bt_z0 _ (by omega)]
          refine ⟨fun x => absurd x (by decide), fun x => ?_⟩
          have := z5 n n0 x.1
          omega
        · rw [show 8 * (0 : Int) + c = c by omega, gI_out (by omega), (f3 41 _ (by omega)).1]
          exact hJ2 c c0 (by omega) c1
        · show bt (gI _ 42 0) l.toNat = true ↔ _
          rw [gI_out (by omega), e3, bt_z0 _ (by omega)]
          refine ⟨fun x => absurd x (by decide), fun x => ?_⟩
          have := z3 l l0 x.1
          omega
        · rw [show 4 * (0 : Int) + o = o by omega, gI_out (by omega)]
          exact hJ3 o o0 (by omega) o1
        · show gI _ 44 0 = _
          rw [gI_in rfl rfl, z7]
          rfl
/-- what was read, come down -/
theorem MT.down {s : PS} (M : MF h s) (O : OkPs s) (H : ∀ a b, 2 ≤ a → a < 32 → b < hf a → gI g a b = gI h a (hf a + b)) : MT g s.fin := by
  obtain ⟨m1, ⟨m2, m3, m4⟩, m5, ⟨⟨f1, m6⟩, ⟨f2, m7⟩⟩, m8, m9⟩ := M
  have kc := O.2.2.2.2
  have e : ∀ r c k, r ≠ 7 → s.fin.f r c k = s.a.f r c k := fun r c k h => by
    unfold PS.fin
    rw [upF_out (by omega), upF_out (by omega)]
  have e70 : s.fin.f 7 0 0 = if s.on 0 = -1 then 5 else s.on 0 := by
    unfold PS.fin
    rw [upF_out (by omega), upF_in]
  have e71 : s.fin.f 7 1 0 = if s.on 1 = -1 then 1 else s.on 1 := by
    unfold PS.fin
    rw [upF_in]
  have en : ∀ r, s.fin.n r = s.a.n r := fun r => rfl
  have row : ∀ r c, r < 7 → c < mw r → ∀ k : Int, 0 ≤ k → k < s.fin.n r → gI g (mc r c) k.toNat = z (mv r c (s.fin.f r c k)) := fun r c hr hc k k0 k1 => by
    have mr := mc_rg hr hc
    have hm := hf_mc hr hc
    have cp := ((O.1.1 r hr).1).2
    have cr := capT_rg hr
    rw [en] at k1
    rw [H (mc r c) k.toNat (by omega) (by omega) (by omega), e r c k (by omega), ← m5 r c hr hc k k0 k1]
    congr 1
    omega
  have h2 : ∀ b, b < 11 → gI g 2 b = gI h 2 (11 + b) := fun b hb => H 2 b (by omega) (by omega) (by show b < 11; exact hb)
  have law : ∀ (i : Nat) fr ks, i < 2 → KF h i fr ks s.kc → KM g i fr ks := fun i fr ks hi K => by
    obtain ⟨k1, k2, k3, k4, k5⟩ := K
    refine ⟨?_, ?_, k3, by omega, fun j hj => ?_⟩
    · rw [H 28 i (by omega) (by omega) (by show i < 2; exact hi)]; exact k1
    · rw [H 29 i (by omega) (by omega) (by show i < 2; exact hi)]; exact k2
    · rw [H 30 _ (by omega) (by omega) (by show fr.toNat + j < 64; omega), H 31 _ (by omega) (by omega) (by show fr.toNat + j < 64; omega)]
      exact k5 j hj
  refine ⟨⟨?_, ?_, ?_, ?_, ?_, ?_, ?_, ?_⟩, fun k k0 k1 => ⟨row 0 0 (by omega) (by decide) k k0 k1, row 0 1 (by omega) (by decide) k k0 k1⟩, fun k k0 k1 => ⟨row 1 0 (by omega) (by decide) k k0 k1, row 1 1 (by omega) (by decide) k k0 k1, row 1 2 (by omega) (by decide) k k0 k1⟩, fun k k0 k1 => ⟨row 2 0 (by omega) (by decide) k k0 k1, row 2 2 (by omega) (by decide) k k0 k1⟩, fun k k0 k1 => ⟨row 4 1 (by omega) (by decide) k k0 k1, row 4 2 (by omega) (by decide) k k0 k1, row 4 3 (by omega) (by decide) k k0 k1⟩, fun k k0 k1 => ⟨row 5 0 (by omega) (by decide) k k0 k1, row 5 1 (by omega) (by decide) k k0 k1, row 5 2 (by omega) (by decide) k k0 k1, row 5 3 (by omega) (by decide) k k0 k1⟩, fun k k0 k1 => ⟨row 6 0 (by omega) (by decide) k k0 k1, row 6 1 (by omega) (by decide) k k0 k1, row 6 2 (by omega) (by decide) k k0 k1, row 6 3 (by omega) (by decide) k k0 k1⟩, ⟨f1, law 0 f1 _ (by omega) m6⟩, ⟨f2, law 1 f2 _ (by omega) m7⟩, ?_⟩
  · rw [h2 0 (by omega)]; exact m1 0 (by omega)
  · rw [h2 1 (by omega)]; exact m1 1 (by omega)
  · rw [h2 2 (by omega)]; exact m1 2 (by omega)
  · rw [h2 4 (by omega)]; exact m1 4 (by omega)
  · rw [h2 5 (by omega)]; exact m1 5 (by omega)
  · rw [h2 6 (by omega)]; exact m1 6 (by omega)
  · rw [h2 7 (by omega), e70]; exact m2
  · rw [h2 8 (by omega), e71]; exact m3
  · rw [h2 10 (by omega)]
    show _ = z (s.a.fd.length + s.a.wo.length)
    rw [← kc.1]
    exact m4
/-- what was told stays where the lower halves do -/
theorem MT.lo {a : Wd} (M : MT h a) (N : Now a) (e : ∀ c k, 2 ≤ c → c < 32 → k < hf c → gI g c k = gI h c k) : MT g a := by
  obtain ⟨⟨a0, a1, a2, a3, a4, a5, a6, a7⟩, m0, m1, m2, m4, m5, m6, ⟨f1, K1⟩, ⟨f2, K2⟩, kk⟩ := M
  have n0 := N.1.1
  have n1 := N.1.2.1
  have n4 := N.2.2.2.2.2.2.2.2.1
  have n5 := N.2.2.2.1.1
  have n2 := N.2.2.2.2.2.2.2.2.2.2.1
  have n6 := N.2.2.2.2.2.2.2.2.2.2.2.2.2.1
  have q : ∀ c k, 2 ≤ c → c < 32 → ∀ n, n = hf c → k < n → gI g c k = gI h c k := fun c k c0 c1 n en hk => e c k c0 c1 (by omega)
  have law : ∀ (i : Nat) fr ks, i < 2 → KM h i fr ks → KM g i fr ks := fun i fr ks hi K => by
    obtain ⟨k1, k2, k3, k4, k5⟩ := K
    refine ⟨?_, ?_, k3, k4, fun j hj => ?_⟩
    · rw [q 28 i (by omega) (by omega) 2 rfl hi]; exact k1
    · rw [q 29 i (by omega) (by omega) 2 rfl hi]; exact k2
    · rw [q 30 _ (by omega) (by omega) 64 rfl (by omega), q 31 _ (by omega) (by omega) 64 rfl (by omega)]
      exact k5 j hj
  refine ⟨⟨?_, ?_, ?_, ?_, ?_, ?_, ?_, ?_⟩, fun k b1 b2 => ?_, fun k b1 b2 => ?_, fun k b1 b2 => ?_, fun k b1 b2 => ?_, fun k b1 b2 => ?_, fun k b1 b2 => ?_, ⟨f1, law 0 f1 _ (by omega) K1⟩, ⟨f2, law 1 f2 _ (by omega) K2⟩, ?_⟩
  · rw [q 2 0 (by omega) (by omega) 11 rfl (by omega)]; exact a0
  · rw [q 2 1 (by omega) (by omega) 11 rfl (by omega)]; exact a1
  · rw [q 2 2 (by omega) (by omega) 11 rfl (by omega)]; exact a2
  · rw [q 2 4 (by omega) (by omega) 11 rfl (by omega)]; exact a3
  · rw [q 2 5 (by omega) (by omega) 11 rfl (by omega)]; exact a4
  · rw [q 2 6 (by omega) (by omega) 11 rfl (by omega)]; exact a5
  · rw [q 2 7 (by omega) (by omega) 11 rfl (by omega)]; exact a6
  · rw [q 2 8 (by omega) (by omega) 11 rfl (by omega)]; exact a7
  · rw [q 3 _ (by omega) (by omega) 6 rfl (by omega), q 27 _ (by omega) (by omega) 6 rfl (by omega)]; exact m0 k b1 b2
  · rw [q 4 _ (by omega) (by omega) 9 rfl (by omega), q 5 _ (by omega) (by omega) 9 rfl (by omega), q 6 _ (by omega) (by omega) 9 rfl (by omega)]; exact m1 k b1 b2
  · rw [q 7 _ (by omega) (by omega) 4 rfl (by omega), q 9 _ (by omega) (by omega) 4 rfl (by omega)]; exact m2 k b1 b2
  · rw [q 16 _ (by omega) (by omega) 8 rfl (by omega), q 17 _ (by omega) (by omega) 8 rfl (by omega), q 18 _ (by omega) (by omega) 8 rfl (by omega)]; exact m4 k b1 b2
  · rw [q 19 _ (by omega) (by omega) 6 rfl (by omega), q 20 _ (by omega) (by omega) 6 rfl (by omega), q 21 _ (by omega) (by omega) 6 rfl (by omega), q 22 _ (by omega) (by omega) 6 rfl (by omega)]; exact m5 k b1 b2
  · rw [q 23 _ (by omega) (by omega) 4 rfl (by omega), q 24 _ (by omega) (by omega) 4 rfl (by omega), q 25 _ (by omega) (by omega) 4 rfl (by omega), q 26 _ (by omega) (by omega) 4 rfl (by omega)]; exact m6 k b1 b2
  · rw [q 2 10 (by omega) (by omega) 11 rfl (by omega)]; exact kk
end HALF
