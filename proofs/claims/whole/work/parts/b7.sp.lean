section CALLR
variable {h : PH} {s : St}
theorem pc_frame {h g g2 : PH} (f : ∀ c k, ¬ scrM c k → At h g c k) (f2 : ∀ c k, ¬ psC c k → At g g2 c k) : ∀ c k, ¬ scrM c k → At h g2 c k := fun c k hc => (f c k hc).tr (f2 c k (fun x => hc (by unfold psC itC at x; unfold scrM; omega)))
theorem ps_it {g g2 : PH} (f2 : ∀ c k, ¬ itC c k → At g g2 c k) : ∀ c k, ¬ psC c k → At g g2 c k := fun c k hc => f2 c k (fun x => hc (Or.inr (Or.inr (Or.inr x))))
theorem ms_spans {Q : Int32 → PH → Prop} (J : IM h s) (hq : ∀ g, IM g s → Q (z (a_spans s.a)) g) : w_X10_spans h Q := by
  unfold w_X10_spans
  rintro _ rfl
  have J1 := J.fr (fr0 h 0)
  refine m_layPieces J1.1 (fun g f P => ?_)
  rw [P.1.1]
  exact hq g (J1.fr f)
theorem ms_pieces {Q : Int32 → PH → Prop} (J : IM h s) (hq : ∀ g, IM g s → Q (z (a_pieces s.a)) g) : w_X10_pieces h Q := by
  unfold w_X10_pieces
  rintro _ rfl
  have J1 := J.fr (fr0 h 0)
  refine m_layPieces J1.1 (fun g f P => ?_)
  rw [P.2.2.1]
  exact hq g (J1.fr f)
theorem ms_span {Q : Int32 → PH → Prop} {k c : Int} (hk : i32 k) (hc : i32 c) (J : IM h s) (hq : ∀ g, IM g s → Q (z (a_span s.a k c)) g) : w_X10_span (z k) (z c) h Q := by
  have k1 := hk.1
  have k2 := hk.2
  have c1 := hc.1
  have c2 := hc.2
  unfold w_X10_span
  rintro _ rfl
  have J1 := J.fr (fr0 h 0)
  generalize sI h 0 0 0 = h1 at *
  have sr := spS_rg J1.1.2.2.1.1
  have bad : ¬ (0 ≤ k ∧ (0 ≤ c ∧ c ≤ 3)) → Q (-1) h1 := fun e => by
    have := hq h1 J1
    unfold a_span at this
    rw [if_neg e] at this
    exact this
  by_cases d1 : k < 0
  · rw [zn_0, if_pos (by rw [z_lt (by omega) (by omega) (by omega) (by omega)]; omega)]; exact bad (by omega)
  rw [zn_0, if_neg (by rw [z_lt (by omega) (by omega) (by omega) (by omega)]; omega)]
  by_cases d2 : c < 0
  · rw [if_pos (by rw [z_lt (by omega) (by omega) (by omega) (by omega)]; omega)]; exact bad (by omega)
  rw [if_neg (by rw [z_lt (by omega) (by omega) (by omega) (by omega)]; omega), zn_3]
  by_cases d3 : c ≤ 3
  · rw [if_pos (by rw [z_le (by omega) (by omega) (by omega) (by omega)]; omega)]
    refine m_layPieces J1.1 (fun g f P => ?_)
    have q := hq g (J1.fr f)
    unfold a_span at q
    rw [if_pos ⟨by omega, by omega, d3⟩] at q
    rw [P.1.1]
    by_cases u : k < spS s.a
    · rw [if_pos (by rw [z_lt (by omega) (by omega) (by omega) (by omega)]; omega)]
      rw [if_pos u] at q
      obtain ⟨v0, v1⟩ := P.1.2.1 k (by omega) u
      have v2 := P.1.2.2 k (by omega) u
      have v3 := P.2.1 k (by omega) u
      rw [z_iN (a := k) (by omega) (by omega), v0, v1, v2, v3]
      unfold spcol at q
      by_cases e0 : c = 0
      · rw [if_pos (by rw [e0])]
        rw [if_pos e0] at q
        exact ⟨z_in (by omega) (by omega) (by omega), q⟩
      rw [if_neg (z_ne (by omega) (by omega) (by omega) (by omega) e0)]
      rw [if_neg e0] at q
      by_cases e1 : c = 1
      · rw [if_pos (show z c = 1 by rw [e1]; rfl)]
        rw [if_pos e1] at q
        exact ⟨z_in (by omega) (by omega) (by omega), q⟩
      rw [if_neg (show ¬ z c = 1 from z_ne (by omega) (by omega) (by decide) (by decide) e1)]
      rw [if_neg e1] at q
      by_cases e2 : c = 2
      · rw [if_pos (show z c = 2 by rw [e2]; rfl)]
        rw [if_pos e2] at q
        exact ⟨z_in (by omega) (by omega) (by omega), q⟩
      rw [if_neg (show ¬ z c = 2 from z_ne (by omega) (by omega) (by decide) (by decide) e2)]
      rw [if_neg e2] at q
      exact ⟨z_in (by omega) (by omega) (by omega), q⟩
    · rw [if_neg (by rw [z_lt (by omega) (by omega) (by omega) (by omega)]; omega)]
      rw [if_neg u] at q
      exact q
  · rw [if_neg (by rw [z_le (by omega) (by omega) (by omega) (by omega)]; omega)]; exact bad (by omega)
theorem ms_piece {Q : Int32 → PH → Prop} {k c : Int} (hk : i32 k) (hc : i32 c) (J : IM h s) (hq : ∀ g, IM g s → Q (z (a_piece s.a k c)) g) : w_X10_piece (z k) (z c) h Q := by
  have k1 := hk.1
  have k2 := hk.2
  have c1 := hc.1
  have c2 := hc.2
  unfold w_X10_piece
  rintro _ rfl
  have J1 := J.fr (fr0 h 0)
  generalize sI h 0 0 0 = h1 at *
  have N := J1.1.2.2
  have pr := pcN_rg N.1.1
  have bad : ¬ (0 ≤ k ∧ (0 ≤ c ∧ c ≤ 5)) → Q (-1) h1 := fun e => by
    have := hq h1 J1
    unfold a_piece at this
    rw [if_neg e] at this
    exact this
  by_cases d1 : k < 0
  · rw [zn_0, if_pos (by rw [z_lt (by omega) (by omega) (by omega) (by omega)]; omega)]; exact bad (by omega)
  rw [zn_0, if_neg (by rw [z_lt (by omega) (by omega) (by omega) (by omega)]; omega)]
  by_cases d2 : c < 0
  · rw [if_pos (by rw [z_lt (by omega) (by omega) (by omega) (by omega)]; omega)]; exact bad (by omega)
  rw [if_neg (by rw [z_lt (by omega) (by omega) (by omega) (by omega)]; omega), zn_5]
  by_cases d3 : c ≤ 5
  · rw [if_pos (by rw [z_le (by omega) (by omega) (by omega) (by omega)]; omega)]
    refine m_layPieces J1.1 (fun g f P => ?_)
    have q := fun g' (x : IM g' s) => hq g' x
    unfold a_piece at q
    rw [if_pos ⟨by omega, by omega, d3⟩] at q
    rw [P.2.2.1]
    by_cases u : k < pcN s.a
    · rw [if_pos (by rw [z_lt (by omega) (by omega) (by omega) (by omega)]; omega)]
      rw [if_pos u] at q
      unfold pcol at q
      by_cases e3 : c = 3
      · rw [if_pos (show z c = 3 by rw [e3]; rfl)]
        rw [if_neg (by omega), if_neg (by omega), if_neg (by omega), if_pos e3] at q
        exact m_worthOfPiece P N.2.2.2.2.2.1 N.2.1 N.2.2.1 N.1.1 (by omega) (fun g2 f2 _ => q g2 (J1.fr (pc_frame f f2)))
      rw [if_neg (show ¬ z c = 3 from z_ne (by omega) (by omega) (by decide) (by decide) e3)]
      refine m_layIts P N.2.1 N.2.2.1 N.1.1 (by omega) (Or.inl ⟨rfl, rfl⟩) (fun g2 f2 v0 v1 v4 v5 v2 => ?_)
      have q := q g2 (J1.fr (pc_frame f (ps_it f2)))
      rw [v0, v1, v4, v5, v2 rfl]
      by_cases e0 : c = 0
      · rw [if_pos (by rw [e0])]
        rw [if_pos e0] at q
        exact q
      rw [if_neg (z_ne (by omega) (by omega) (by omega) (by omega) e0)]
      rw [if_neg e0] at q
      by_cases e1 : c = 1
      · rw [if_pos (show z c = 1 by rw [e1]; rfl)]
        rw [if_pos e1] at q
        exact q
      rw [if_neg (show ¬ z c = 1 from z_ne (by omega) (by omega) (by decide) (by decide) e1)]
      rw [if_neg e1] at q
      by_cases e2 : c = 2
      · rw [if_pos (show z c = 2 by rw [e2]; rfl)]
        rw [if_pos e2] at q
        exact q
      rw [if_neg (show ¬ z c = 2 from z_ne (by omega) (by omega) (by decide) (by decide) e2)]
      rw [if_neg e2, if_neg e3] at q
      by_cases e4 : c = 4
      · rw [if_pos (show z c = 4 by rw [e4]; rfl)]
        rw [if_pos e4] at q
        exact q
      rw [if_neg (show ¬ z c = 4 from z_ne (by omega) (by omega) (by decide) (by decide) e4)]
      rw [if_neg e4] at q
      exact q
    · rw [if_neg (by rw [z_lt (by omega) (by omega) (by omega) (by omega)]; omega)]
      rw [if_neg u] at q
      exact q g (J1.fr f)
  · rw [if_neg (by rw [z_le (by omega) (by omega) (by omega) (by omega)]; omega)]; exact bad (by omega)
theorem ms_share {Q : Int32 → PH → Prop} {k o : Int} (hk : i32 k) (ho : i32 o) (J : IM h s) (hq : ∀ g, IM g s → Q (z (a_share s.a k o)) g) : w_X10_share (z k) (z o) h Q := by
  have k1 := hk.1
  have k2 := hk.2
  unfold w_X10_share
  rintro _ rfl
  have J1 := J.fr (fr0 h 0)
  generalize sI h 0 0 0 = h1 at *
  have N := J1.1.2.2
  have pr := pcN_rg N.1.1
  have n4 := N.2.2.2.2.2.2.2.2.2.2.1
  have bad : ¬ (0 ≤ k ∧ (0 ≤ o ∧ o < s.a.n 2)) → Q (-1) h1 := fun e => by
    have := hq h1 J1
    unfold a_share at this
    rw [if_neg e] at this
    exact this
  by_cases d1 : k < 0
  · rw [zn_0, if_pos (by rw [z_lt (by omega) (by omega) (by omega) (by omega)]; omega)]; exact bad (by omega)
  rw [zn_0, if_neg (by rw [z_lt (by omega) (by omega) (by omega) (by omega)]; omega)]
  refine m_isOwner J1.1 ho (fun u0 u1 => ?_) (fun u => ?_)
  · rw [if_neg (by decide)]
    refine m_layPieces J1.1 (fun g f P => ?_)
    rw [P.2.2.1]
    have q := fun g' (x : IM g' s) => hq g' x
    unfold a_share at q
    rw [if_pos ⟨by omega, u0, u1⟩] at q
    by_cases u : k < pcN s.a
    · rw [if_pos (by rw [z_lt (by omega) (by omega) (by omega) (by omega)]; omega)]
      rw [if_pos u] at q
      rw [shl_pw u0 (by omega)]
      have h2 : 2 ^ o.toNat < 2 ^ 4 := Nat.pow_lt_pow_right (by decide) (by omega)
      have h3 : (0 : Int) ≤ ((2 ^ o.toNat : Nat) : Int) ∧ ((2 ^ o.toNat : Nat) : Int) < 16 := by
        generalize 2 ^ o.toNat = n at h2
        omega
      refine m_layIts P N.2.1 N.2.2.1 N.1.1 (by omega) (Or.inr ⟨_, rfl, h3, rfl⟩) (fun g2 f2 v0 v1 v4 v5 v2 => ?_)
      rw [v0]
      exact q g2 (J1.fr (pc_frame f (ps_it f2)))
    · rw [if_neg (by rw [z_lt (by omega) (by omega) (by omega) (by omega)]; omega)]
      rw [if_neg u] at q
      exact q g (J1.fr f)
  · rw [if_pos (show (0 : Int32) = z 0 from rfl)]; exact bad (by omega)
theorem ms_part {Q : Int32 → PH → Prop} {k o : Int} (hk : i32 k) (ho : i32 o) (J : IM h s) (hq : ∀ g, IM g s → Q (z (a_part s.a k o)) g) : w_X10_part (z k) (z o) h Q := by
  have k1 := hk.1
  have k2 := hk.2
  unfold w_X10_part
  rintro _ rfl
  have J1 := J.fr (fr0 h 0)
  generalize sI h 0 0 0 = h1 at *
  have N := J1.1.2.2
  have pr := pcN_rg N.1.1
  have n4 := N.2.2.2.2.2.2.2.2.2.2.1
  have hb := hB_rg s.a k
  have bad : ¬ (0 ≤ k ∧ (0 ≤ o ∧ o < s.a.n 2)) → Q (-1) h1 := fun e => by
    have := hq h1 J1
    unfold a_part at this
    rw [if_neg e] at this
    exact this
  by_cases d1 : k < 0
  · rw [zn_0, if_pos (by rw [z_lt (by omega) (by omega) (by omega) (by omega)]; omega)]; exact bad (by omega)
  rw [zn_0, if_neg (by rw [z_lt (by omega) (by omega) (by omega) (by omega)]; omega)]
  refine m_isOwner J1.1 ho (fun u0 u1 => ?_) (fun u => ?_)
  · rw [if_neg (by decide)]
    refine m_layPieces J1.1 (fun g f P => ?_)
    rw [P.2.2.1]
    have q := fun g' (x : IM g' s) => hq g' x
    unfold a_part at q
    rw [if_pos ⟨by omega, u0, u1⟩] at q
    by_cases u : k < pcN s.a
    · rw [if_pos (by rw [z_lt (by omega) (by omega) (by omega) (by omega)]; omega)]
      rw [if_pos u] at q
      refine m_layIts P N.2.1 N.2.2.1 N.1.1 (by omega) (Or.inl ⟨rfl, rfl⟩) (fun g2 f2 v0 v1 v4 v5 v2 => ?_)
      have P2 := P.at' (fun c k hc => f2 c k (fun x => hc (Or.inr (Or.inr (Or.inr x)))))
      have F2 := pc_frame f (ps_it f2)
      rintro _ rfl
      rw [v2 rfl, bitI u0 (by omega), bt_tb hb.1 (by omega), show ((o.toNat : Nat) : Int) = o by omega]
      unfold prt at q
      cases ht : tb (hB s.a k) o with
      | false =>
        rw [ht, if_neg (by decide)] at q
        rw [if_pos (show z (if false = true then (1 : Int) else 0) = z 0 from rfl)]
        exact q g2 (J1.fr F2)
      | true =>
        rw [ht, if_pos rfl] at q
        rw [if_neg (show ¬ z (if true = true then (1 : Int) else 0) = z 0 by decide)]
        refine for21 16 (fun B v g => (∀ c k, ¬ psC c k → At g2 g c k) ∧ v = z (sm (ptB s.a k o) B)) 0 rfl (by omega) (by omega) (by omega) ⟨fun c k _ => At.rf g2 c k, rfl⟩ ?_ ?_
        · rintro kb B _ g3 b0 b1 ⟨hf, rfl⟩ hn
          have P3 := P2.at' (fun c k hc => hf c k hc)
          have pB := pc_rg B
          have pH := pc_rg (hB s.a k)
          have e3 := sub_pc ⟨B.toNat, by omega⟩ ⟨(hB s.a k).toNat, by omega⟩ ⟨o.toNat, by omega⟩
          simp only [show ((B.toNat : Nat) : Int) = B by omega, show (((hB s.a k).toNat : Nat) : Int) = hB s.a k by omega, show ((o.toNat : Nat) : Int) = o by omega] at e3
          have ss := sm_s (f := ptB s.a k o) (n := B) b0
          have skip : (subB B (hB s.a k) && !tb B o) = false → kb (z (sm (ptB s.a k o) B)) (z (B + 1)) g3 := fun hc => hn _ _ ⟨hf, by
            rw [ss]
            unfold ptB
            rw [hc, if_neg (by decide), Int.add_zero]⟩
          have sb : subB B (hB s.a k) = decide ((z B &&& (z (hB s.a k) ^^^ (-1))) = 0) := rfl
          unfold w_X10_part_61
          rw [zn_16, if_neg (by rw [z_le (by omega) (by omega) (by omega) (by omega)]; omega), z_inc]
          cases hc : subB B (hB s.a k) with
          | false =>
            rw [hc] at sb
            rw [if_neg (of_decide_eq_false sb.symm)]
            exact skip (by rw [hc]; rfl)
          | true =>
            rw [hc] at sb
            rw [if_pos (of_decide_eq_true sb.symm), bitI u0 (by omega), bt_tb b0 (by omega), show ((o.toNat : Nat) : Int) = o by omega]
            cases ht2 : tb B o with
            | true =>
              rw [if_pos (show z (if true = true then (1 : Int) else 0) = 1 from rfl)]
              exact skip (by rw [ht2]; simp)
            | false =>
              rw [if_neg (show ¬ z (if false = true then (1 : Int) else 0) = 1 by decide)]
              have hc2 : (subB B (hB s.a k) && !tb B o) = true := by rw [hc, ht2]; rfl
              obtain ⟨e4, e5⟩ := e3 hc2 ht
              refine m_pc b0 ?_
              refine m_fac (by omega) ?_
              refine m_pc hb.1 ?_
              refine m_pc b0 ?_
              rw [z_sub, show z (pc (hB s.a k) - pc B) - 1 = z (pc (hB s.a k) - 1 - pc B) from by rw [zn_1, z_sub]; congr 1; omega]
              refine m_fac (by omega) ?_
              rintro _ rfl
              obtain ⟨w1, w2⟩ := sU_z ⟨b0, b1⟩ ⟨u0, (by omega : o < 4)⟩
              rw [w1, z_mul]
              refine m_worthOfSet P3 N.2.2.2.2.2.1 N.2.1 N.2.2.1 N.1.1 (by omega) w2 (fun g4 f4 _ => ?_)
              have P4 := P3.at' (fun c k hc => f4 c k hc)
              refine m_worthOfSet P4 N.2.2.2.2.2.1 N.2.1 N.2.2.1 N.1.1 (by omega) ⟨b0, b1⟩ (fun g5 f5 _ => ?_)
              rintro _ rfl
              refine hn _ _ ⟨fun c k hc => ((hf c k hc).tr (f4 c k hc)).tr (f5 c k hc), ?_⟩
              rw [z_sub, z_mul, z_add, ss]
              unfold ptB
              rw [hc2, if_pos rfl]
        · rintro kb _ g3 ⟨hf, rfl⟩
          unfold w_X10_part_61
          rw [zn_16, if_pos (by rw [z_le (by omega) (by omega) (by omega) (by omega)]; omega)]
          exact q g3 (J1.fr (pc_frame F2 hf))
    · rw [if_neg (by rw [z_lt (by omega) (by omega) (by omega) (by omega)]; omega)]
      rw [if_neg u] at q
      exact q g (J1.fr f)
  · rw [if_pos (show (0 : Int32) = z 0 from rfl)]; exact bad (by omega)
theorem ms_leaves {Q : Int32 → PH → Prop} {k : Int} (hk : i32 k) (J : IM h s) (hq : ∀ g, IM g s → Q (z (a_leaves s.a k)) g) : w_X10_leaves (z k) h Q := by
  have k1 := hk.1
  have k2 := hk.2
  unfold w_X10_leaves
  rintro _ rfl
  have J1 := J.fr (fr0 h 0)
  generalize sI h 0 0 0 = h1 at *
  have N := J1.1.2.2
  have h6 := N.1.1
  have pr := pcN_rg h6
  have hb := hB_rg s.a k
  have m1 := pcM_rg h6 al (j := k)
  have m2 := pcM_rg h6 (okS (hB s.a k)) (j := k)
  have wr := wrt_rg (a := s.a) (x1 := pcM s.a k al) (x2 := pcQ s.a k al) (x3 := pc (hB s.a k)) (x4 := pcF s.a k al) (by omega)
  have q := fun g' (x : IM g' s) => hq g' x
  unfold a_leaves at q
  by_cases d1 : 0 ≤ k
  · rw [zn_0, if_pos (by rw [z_le (by omega) (by omega) (by omega) (by omega)]; omega)]
    rw [if_pos d1] at q
    refine m_layPieces J1.1 (fun g f P => ?_)
    rw [P.2.2.1]
    by_cases u : k < pcN s.a
    · rw [if_pos (by rw [z_lt (by omega) (by omega) (by omega) (by omega)]; omega)]
      rw [if_pos u] at q
      refine m_worthOfPiece P N.2.2.2.2.2.1 N.2.1 N.2.2.1 h6 (by omega) (fun g2 f2 e85 => ?_)
      have P2 := P.at' (fun c k hc => f2 c k hc)
      have F2 := pc_frame f f2
      rintro _ rfl _ rfl
      rw [e85]
      refine m_layIts P2 N.2.1 N.2.2.1 h6 (by omega) (Or.inr ⟨_, rfl, hb, rfl⟩) (fun g3 f3 v0 v1 v4 v5 v2 => ?_)
      have P3 := P2.at' (fun c k hc => f3 c k (fun x => hc (Or.inr (Or.inr (Or.inr x)))))
      have F3 := pc_frame F2 (ps_it f3)
      rintro _ rfl
      rw [v0, zl_of (by omega) (by omega), zl_of (by omega) (by omega)]
      unfold lvs at q
      refine for10 16 (fun B g => (∀ c k, ¬ psC c k → At g3 g c k) ∧ ∀ q, 0 ≤ q → q < B → lvB s.a k q = false) 1 rfl (by omega) (by omega) (by omega) ⟨fun c k _ => At.rf g3 c k, fun q q0 q1 => by unfold lvB; rw [decide_eq_false (by omega : ¬ 1 ≤ q)]; rfl⟩ ?_ ?_
      · rintro kb B g4 b0 b1 ⟨hf, hl⟩ hn
        have P4 := P3.at' (fun c k hc => hf c k hc)
        have skip : ∀ g5, (∀ c k, ¬ psC c k → At g3 g5 c k) → lvB s.a k B = false → kb (z (B + 1)) g5 := fun g5 a1 a3 => hn g5 ⟨a1, fun q q0 q1 => by
          by_cases e : q = B
          · rw [e]; exact a3
          · exact hl q q0 (by omega)⟩
        have lb : lvB s.a k B = (subB B (hB s.a k) && !decide (wos s.a k B * pcM s.a k (okS (hB s.a k)) ≤ wrt s.a (pcM s.a k al) (pcQ s.a k al) (pc (hB s.a k)) (pcF s.a k al) * pcM s.a k (okS B))) := by
          unfold lvB
          rw [decide_eq_true b0, Bool.true_and]
        have sb : subB B (hB s.a k) = decide ((z B &&& (z (hB s.a k) ^^^ (-1))) = 0) := rfl
        unfold w_X10_leaves_56
        rw [zn_16, if_neg (by rw [z_le (by omega) (by omega) (by omega) (by omega)]; omega), z_inc]
        cases hc : subB B (hB s.a k) with
        | false =>
          rw [hc] at sb lb
          rw [if_neg (of_decide_eq_false sb.symm)]
          exact skip g4 hf (by rw [lb]; rfl)
        | true =>
          rw [hc] at sb lb
          rw [if_pos (of_decide_eq_true sb.symm)]
          refine m_worthOfSet P4 N.2.2.2.2.2.1 N.2.1 N.2.2.1 h6 (by omega) ⟨by omega, b1⟩ (fun g5 f5 e82 => ?_)
          rintro _ rfl
          have w1 := wos_rg (j := k) h6 B
          have m3 := pcM_rg h6 (okS B) (j := k)
          have q1 : wos s.a k B * pcM s.a k (okS (hB s.a k)) ≤ 100000 * 6912 := Int.mul_le_mul w1.2 m2.2 m2.1 (by omega)
          have q2 := Int.mul_nonneg w1.1 m2.1
          have q3 : wrt s.a (pcM s.a k al) (pcQ s.a k al) (pc (hB s.a k)) (pcF s.a k al) * pcM s.a k (okS B) ≤ 100000 * 6912 := Int.mul_le_mul wr.2 m3.2 m3.1 (by omega)
          have q4 := Int.mul_nonneg wr.1 m3.1
          rw [e82 (by omega), zl_of (by omega) (by omega), zl_of (by omega) (by omega), zl_mul, zl_mul]
          by_cases c : wos s.a k B * pcM s.a k (okS (hB s.a k)) ≤ wrt s.a (pcM s.a k al) (pcQ s.a k al) (pc (hB s.a k)) (pcF s.a k al) * pcM s.a k (okS B)
          · rw [if_pos (by rw [lg_cmp_le, zl_le (by omega) (by omega) (by omega) (by omega)]; exact c)]
            exact skip g5 (fun c k hc => (hf c k hc).tr (f5 c k hc)) (by rw [lb, decide_eq_true c]; rfl)
          · rw [if_neg (by rw [lg_cmp_le, zl_le (by omega) (by omega) (by omega) (by omega)]; exact c)]
            have e : ff (lvB s.a k) 16 = B := ff_yes (by omega) b1 (by rw [lb, decide_eq_false c]; rfl) (fun q q0 q1 => hl q q0 q1)
            rw [e, if_neg (by omega)] at q
            exact q g5 (J1.fr (pc_frame F3 (fun c k hc => (hf c k hc).tr (f5 c k hc))))
      · rintro kb g4 ⟨hf, hl⟩
        unfold w_X10_leaves_56
        rw [zn_16, if_pos (by rw [z_le (by omega) (by omega) (by omega) (by omega)]; omega)]
        rw [ff_no hl, if_pos rfl] at q
        exact q g4 (J1.fr (pc_frame F3 hf))
    · rw [if_neg (by rw [z_lt (by omega) (by omega) (by omega) (by omega)]; omega)]
      rw [if_neg u] at q
      exact q g (J1.fr f)
  · rw [zn_0, if_neg (by rw [z_le (by omega) (by omega) (by omega) (by omega)]; omega)]
    rw [if_neg d1] at q
    exact q h1 J1
end CALLR
