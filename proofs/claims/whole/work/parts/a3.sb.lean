section BARKM
variable {h : PH} {s : St} {a : Wd}
theorem or_bit (x y : Int32) : (x ||| y) ||| y = x ||| y := b_ext (fun i _ => by rw [b_or, b_or, Bool.or_assoc, Bool.or_self])
theorem m_barks {Q : Int32 → PH → Prop} {v : Int} (M : MT h a) (FF : FM h (far a (-1))) (N : Now a) (hv : 0 ≤ v ∧ v < 64) (hq : Q (z (nb a v)) h) : w_X10_barksNext (z v) h Q := by
  have h6 := N.1.1
  have G := far_gd (-1) N.1
  have e20 : gI h 2 0 = z (a.n 0) := M.1.1
  unfold w_X10_barksNext
  refine for21 (a.n 0) (fun p x g => h = g ∧ x = nI (wdN (nbF a v) p.toNat)) 0 rfl (by omega) (by omega) (by omega) ⟨rfl, rfl⟩ ?_ ?_
  · rintro kb p _ _ p0 p1 ⟨rfl, rfl⟩ hk
    have n7 := (N.2.2.2.2.2.2.2.2.2.2.2.2.2.2.2.1 p p0 p1).2
    have e27 : gI h 27 p.toNat = z (a.f 0 1 p) := (M.2.1 p p0 p1).2
    unfold w_X10_barksNext_4
    rw [iN_0, e20, if_neg (by rw [z_le (by omega) (by omega) (by omega) (by omega)]; omega), z_inc, z_iN (a := p) (by omega) (by omega), e27]
    refine ⟨z_in (by omega) (by omega) (by omega), ?_⟩
    have off : nbF a v p = false → kb (nI (wdN (nbF a v) p.toNat)) (z (p + 1)) h := fun e => hk _ _ ⟨rfl, by rw [wd_off p0 e]⟩
    by_cases c : a.f 0 1 p = 0
    · rw [if_pos (show z (a.f 0 1 p) = 0 by rw [c]; rfl)]
      exact off (by unfold nbF dg; rw [decide_eq_false (by omega)]; rfl)
    · rw [if_neg (show ¬ z (a.f 0 1 p) = 0 from z_ne (by omega) (by omega) (by decide) (by decide) c), bitI p0 (by omega), bt_tb hv.1 (by omega), show ((p.toNat : Nat) : Int) = p by omega]
      have ed : dg a p = true := by unfold dg; exact decide_eq_true (by omega)
      cases hb : tb v p with
      | true =>
        rw [if_pos (show z (if true = true then (1 : Int) else 0) = 1 from rfl)]
        exact off (by unfold nbF; rw [ed, hb]; rfl)
      | false =>
        rw [if_neg (show ¬ z (if false = true then (1 : Int) else 0) = 1 by decide)]
        refine for21 (a.n 0) (fun q x g => h = g ∧ ((x = nI (wdN (nbF a v) p.toNat) ∧ ∀ q', 0 ≤ q' → q' < q → ¬ (tb v q' = true ∧ far a (-1) q' p ≤ a.f 0 1 p)) ∨ (x = (nI (wdN (nbF a v) p.toNat) ||| ((1 : Int32) <<< (z p &&& 31))) ∧ ∃ q', 0 ≤ q' ∧ q' < q ∧ tb v q' = true ∧ far a (-1) q' p ≤ a.f 0 1 p))) 0 rfl (by omega) (by omega) (by omega) ⟨rfl, Or.inl ⟨rfl, fun q' d0 d1 => by omega⟩⟩ ?_ ?_
        · rintro kb2 q x _ q0 q1 ⟨rfl, hx⟩ hk2
          unfold w_X10_barksNext_38
          rw [iN_0, e20, if_neg (by rw [z_le (by omega) (by omega) (by omega) (by omega)]; omega), z_inc, bitI q0 (by omega), bt_tb hv.1 (by omega), show ((q.toNat : Nat) : Int) = q by omega]
          have nx : ¬ (tb v q = true ∧ far a (-1) q p ≤ a.f 0 1 p) → kb2 x (z (q + 1)) h := fun hn => hk2 _ _ ⟨rfl, by
            rcases hx with ⟨e, hJ⟩ | ⟨e, q', x0, x1, x2⟩
            · exact Or.inl ⟨e, fun q' d0 d1 => by
                by_cases e : q' = q
                · rw [e]; exact hn
                · exact hJ q' d0 (by omega)⟩
            · exact Or.inr ⟨e, q', x0, by omega, x2⟩⟩
          cases hc : tb v q with
          | false =>
            rw [if_neg (show ¬ z (if false = true then (1 : Int) else 0) = 1 by decide)]
            exact nx (fun x => by rw [hc] at x; exact absurd x.1 (by decide))
          | true =>
            have f3 := G.2.2.1 q p
            have fs := G.2.1 p q
            rw [if_pos (show z (if true = true then (1 : Int) else 0) = 1 from rfl), zn_6, z_mul, z_add, z_iN (a := 6 * p + q) (by omega) (by omega), z_iN (a := p) (by omega) (by omega), e27, FF p q p0 (by omega) q0 (by omega), fs]
            refine ⟨z_in (by omega) (by omega) (by omega), z_in (by omega) (by omega) (by omega), ?_⟩
            by_cases d : a.f 0 1 p < far a (-1) q p
            · rw [if_pos (by rw [z_lt (by omega) (by omega) (by omega) (by omega)]; omega)]
              exact nx (fun x => by omega)
            · rw [if_neg (by rw [z_lt (by omega) (by omega) (by omega) (by omega)]; omega)]
              rintro _ rfl
              refine hk2 _ _ ⟨rfl, Or.inr ⟨?_, q, q0, by omega, hc, by omega⟩⟩
              rcases hx with ⟨e, hJ⟩ | ⟨e, _⟩
              · rw [e]
              · rw [e, or_bit]
        · rintro kb2 x _ ⟨rfl, hx⟩
          unfold w_X10_barksNext_38
          rw [iN_0, e20, if_pos (by rw [z_le (by omega) (by omega) (by omega) (by omega)]; omega)]
          rcases hx with ⟨rfl, hJ⟩ | ⟨rfl, q', x0, x1, x2, x3⟩
          · refine off ?_
            have e : anyH a v p = false := by
              cases hb2 : anyH a v p with
              | false => rfl
              | true =>
                obtain ⟨q, q0, q1, q2, q3⟩ := anyH_iff.mp hb2
                exact absurd ⟨q2, q3⟩ (hJ q q0 q1)
            unfold nbF; rw [ed, hb, e]; rfl
          · have e : nbF a v p = true := by unfold nbF; rw [ed, hb, anyH_iff.mpr ⟨q', x0, x1, x2, x3⟩]; rfl
            refine hk _ _ ⟨rfl, ?_⟩
            rw [wd_on p0 (by omega) e]
  · rintro kb _ _ ⟨rfl, rfl⟩
    unfold w_X10_barksNext_4
    rw [iN_0, e20, if_pos (by rw [z_le (by omega) (by omega) (by omega) (by omega)]; omega)]
    have e : nI (wdN (nbF a v) (a.n 0).toNat) = z (nb a v) := by unfold nb; rw [z_nI]
    rw [e]
    exact hq
theorem ms_bark {Q : Int32 → PH → Prop} {d v : Int} (J : IM h s) (hd : i32 d) (hv : i32 v) (hq : ∀ g, IM g s → Q (z (a_bark s.a d v)) g) : w_X10_bark (z d) (z v) h Q := by
  unfold w_X10_bark
  rintro _ rfl
  have J1 := J.fr (fr0 h 0)
  generalize sI h 0 0 0 = h1 at J1
  have n4 := J1.1.2.2
  have h6 := n4.1.1
  have hd1 := hd.1
  have hd2 := hd.2
  have hv1 := hv.1
  have hv2 := hv.2
  have ref : ¬ ((0 ≤ d ∧ d < 64) ∧ okB s.a d = true ∧ (0 ≤ v ∧ v ≤ 2)) → Q (-1) h1 := fun c => by
    have e : a_bark s.a d v = -1 := if_neg c
    rw [e] at hq
    exact hq h1 J1
  rw [zn_0, zn_64]
  by_cases c1 : d < 0
  · rw [if_pos (by rw [z_lt (by omega) (by omega) (by omega) (by omega)]; omega)]; exact ref (by omega)
  · rw [if_neg (by rw [z_lt (by omega) (by omega) (by omega) (by omega)]; omega)]
    by_cases c6 : 64 ≤ d
    · rw [if_pos (by rw [z_le (by omega) (by omega) (by omega) (by omega)]; omega)]; exact ref (by omega)
    · rw [if_neg (by rw [z_le (by omega) (by omega) (by omega) (by omega)]; omega)]
      by_cases c2 : v < 0
      · rw [if_pos (by rw [z_lt (by omega) (by omega) (by omega) (by omega)]; omega)]; exact ref (by omega)
      · rw [if_neg (by rw [z_lt (by omega) (by omega) (by omega) (by omega)]; omega), zn_2]
        by_cases c3 : v ≤ 2
        · rw [if_pos (by rw [z_le (by omega) (by omega) (by omega) (by omega)]; omega)]
          refine for10 6 (fun p g => h1 = g ∧ ∀ p', 0 ≤ p' → p' < p → tb d p' = true → p' < s.a.n 0 ∧ dg s.a p' = true) 0 rfl (by omega) (by omega) (by omega) ⟨rfl, fun p' d0 d1 => by omega⟩ ?_ ?_
          · rintro kb p _ p0 p1 ⟨rfl, hJ⟩ hk
            unfold w_X10_bark_28
            rw [zn_6, if_neg (by rw [z_le (by omega) (by omega) (by omega) (by omega)]; omega), bitI p0 (by omega), bt_tb (by omega) (by omega), show ((p.toNat : Nat) : Int) = p by omega, z_inc]
            have bad : tb d p = true → ¬ (p < s.a.n 0 ∧ dg s.a p = true) → Q (-1) h1 := fun ht hn => ref (fun x => hn (okB_iff.mp x.2.1 p p0 p1 ht))
            have good : (tb d p = true → p < s.a.n 0 ∧ dg s.a p = true) → kb (z (p + 1)) h1 := fun hh => hk _ ⟨rfl, fun p' d0 d1 ht => by
              by_cases e : p' = p
              · rw [e] at ht ⊢; exact hh ht
              · exact hJ p' d0 (by omega) ht⟩
            cases hb : tb d p with
            | false =>
              rw [if_neg (show ¬ z (if false = true then (1 : Int) else 0) = 1 by decide)]
              exact good (fun x => by rw [hb] at x; exact absurd x (by decide))
            | true =>
              rw [if_pos (show z (if true = true then (1 : Int) else 0) = 1 from rfl)]
              refine m_isPlace J1.1 ⟨by omega, by omega⟩ (fun q1 q2 => ?_) (fun q1 => ?_)
              · rw [if_neg (by decide), z_iN (a := p) (by omega) (by omega), (J1.1.1.2.1 p p0 q2).2]
                refine ⟨z_in (by omega) (by omega) (by omega), ?_⟩
                have n7 := (n4.2.2.2.2.2.2.2.2.2.2.2.2.2.2.2.1 p p0 q2).2
                by_cases c : s.a.f 0 1 p = 0
                · rw [if_pos (show z (s.a.f 0 1 p) = 0 by rw [c]; rfl)]
                  exact bad hb (fun x => by have := x.2; unfold dg at this; rw [decide_eq_false (by omega)] at this; exact absurd this (by decide))
                · rw [if_neg (show ¬ z (s.a.f 0 1 p) = 0 from z_ne (by omega) (by omega) (by decide) (by decide) c)]
                  exact good (fun _ => ⟨q2, by unfold dg; exact decide_eq_true (by omega)⟩)
              · rw [if_pos rfl]
                exact bad hb (fun x => q1 ⟨p0, x.1⟩)
          · rintro kb _ ⟨rfl, hJ⟩
            unfold w_X10_bark_28
            rw [zn_6, if_pos (by rw [z_le (by omega) (by omega) (by omega) (by omega)]; omega)]
            have ok : okB s.a d = true := okB_iff.mpr hJ
            have ea : a_bark s.a d v = bkA (bkR s.a d) v := if_pos ⟨⟨by omega, by omega⟩, ok, by omega⟩
            rw [ea] at hq
            refine m_far (g := -1) J1.1.1 n4.1 (WB.of J1.1.2.1 n4.1) rfl (by omega) (fun g f FF => ?_)
            refine for10 64 (fun i g' => (∀ c k, ¬ (c = 66) → At g g' c k) ∧ ∀ v : Int, 0 ≤ v → v < i → gI g' 66 v.toNat = z (-1)) 0 rfl (by omega) (by omega) (by omega) ⟨fun c k _ => At.rf g c k, fun v d0 d1 => by omega⟩ ?_ ?_
            · rintro kb i g' i0 i1 ⟨hf, hJ⟩ hk
              unfold w_X10_bark_81
              rw [zn_64, if_neg (by rw [z_le (by omega) (by omega) (by omega) (by omega)]; omega), z_iN (by omega) (by omega), z_inc]
              refine ⟨z_in (by omega) (by omega) (by omega), ?_⟩
              rintro _ rfl
              refine hk _ ⟨fun c k hc => (hf c k hc).sI (by omega), fun v v0 v1 => ?_⟩
              by_cases e : v = i
              · rw [e, gI_in rfl rfl]; rfl
              · rw [gI_out (by omega)]; exact hJ v v0 (by omega)
            · rintro kb g1 ⟨hf, hJ2⟩
              unfold w_X10_bark_81
              rw [zn_64, if_pos (by rw [z_le (by omega) (by omega) (by omega) (by omega)]; omega)]
              have Ar1 : ArB g1 66 (fun _ => -1) := fun v v0 v1 => ⟨hJ2 v v0 v1, by show (-1 : Int) ≤ -1; omega, by show (-1 : Int) ≤ 64; omega⟩
              have M1 : MT g1 s.a := (J1.1.1.at' (fun c k b1 b2 => f c k (by omega))).at' (fun c k b1 b2 => hf c k (by omega))
              have F1 : FM g1 (far s.a (-1)) := FF.at' (fun k => hf 50 k (by omega))
              generalize hR : bkR s.a d = R at *
              unfold bkR at hR
              refine lp3_i (fun x3 x4 x5 g => ∃ (fu : Nat) (c m x : Int) (A : Int → Int), x3 = z c ∧ x5 = z x ∧ x4 = z m ∧ (0 ≤ c ∧ c < 64) ∧ (0 ≤ x ∧ x ≤ 10) ∧ 0 ≤ m ∧ m + unv A = 64 ∧ unv A ≤ fu ∧ ArB g 66 A ∧ (∀ c k, ¬ (c = 66) → At g1 g c k) ∧ bk s.a fu c m x A = R) (fun _ _ _ g => muB 66 g) ?_ _ _ _ _ ⟨64, d, 0, 0, fun _ => -1, rfl, rfl, rfl, ⟨by omega, by omega⟩, by omega, by omega, by rw [unv_1]; omega, by rw [unv_1]; omega, Ar1, fun c k _ => At.rf g1 c k, hR⟩
              rintro kb2 x3 x4 x5 g' ⟨fu, c, m, x, A, rfl, rfl, rfl, hc, hx, hm, hmu, hfu, hA, hf', hB⟩ hk
              have ur := unv_rg A
              have fin : ¬ (c ≠ 0 ∧ A c = -1) → w_X10_bark_153 Q (z v) (z c) (z m) (z x) g' := by
                intro hn
                rw [bk_stop hn fu] at hB
                subst hB
                have h' := hq g' (J1.fr (fun c k hc => ((f c k (by unfold scrM at hc; omega)).tr (hf c k (by unfold scrM at hc; omega))).tr (hf' c k (by unfold scrM at hc; omega))))
                unfold bkA at h'
                unfold w_X10_bark_153
                by_cases v2 : v = 2
                · rw [if_pos (show z v = 2 by rw [v2]; rfl)]
                  rw [if_pos v2] at h'; exact h'
                · rw [if_neg (show ¬ z v = 2 from z_ne (by omega) (by omega) (by decide) (by decide) v2)]
                  rw [if_neg v2] at h'
                  by_cases c0 : c = 0
                  · rw [if_pos (show z c = 0 by rw [c0]; rfl)]
                    rw [if_pos c0, if_pos c0] at h'
                    by_cases v0 : v = 0
                    · rw [if_pos (show z v = 0 by rw [v0]; rfl)]
                      rw [if_neg (by omega)] at h'; exact h'
                    · rw [if_neg (show ¬ z v = 0 from z_ne (by omega) (by omega) (by decide) (by decide) v0)]
                      rw [if_pos (by omega)] at h'; exact h'
                  · rw [if_neg (show ¬ z c = 0 from z_ne (by omega) (by omega) (by decide) (by decide) c0)]
                    rw [if_neg c0, if_neg c0] at h'
                    by_cases v0 : v = 0
                    · rw [if_pos (show z v = 0 by rw [v0]; rfl)]
                      rw [if_neg (by omega)] at h'; exact h'
                    · rw [if_neg (show ¬ z v = 0 from z_ne (by omega) (by omega) (by decide) (by decide) v0), z_iN (by omega) (by omega), (hA c hc.1 hc.2).1, z_sub]
                      rw [if_pos (by omega)] at h'
                      exact ⟨z_in (by omega) (by omega) (by omega), h'⟩
              unfold w_X10_bark_108
              by_cases c0 : c = 0
              · rw [if_pos (show z c = 0 by rw [c0]; rfl)]
                exact fin (fun x => x.1 c0)
              · rw [if_neg (show ¬ z c = 0 from z_ne (by omega) (by omega) (by decide) (by decide) c0), z_iN (a := c) (by omega) (by omega), (hA c hc.1 hc.2).1]
                refine ⟨z_in (by omega) (by omega) (by omega), ?_⟩
                have bA := (hA c hc.1 hc.2).2
                by_cases cA : A c = -1
                · rw [if_pos (show z (A c) = -1 by rw [cA]; rfl)]
                  refine ⟨z_in (by omega) (by omega) (by omega), ?_⟩
                  rintro _ rfl
                  have F5 : ∀ i k, ¬ (i = 66 ∧ k = c.toNat) → At g' (sI g' 66 c.toNat (z m)) i k := fun i k hc => (At.rf g' i k).sI hc
                  have us := unv_s (m := m) hc.1 hc.2 cA hm
                  have ur2 := unv_rg (fun v => if v = c then m else A v)
                  refine m_pc hc.1 ?_
                  rintro _ rfl
                  have pr := pc_rg c
                  rw [z_mxI (by omega) (by omega) (by omega) (by omega)]
                  have f6 : ∀ i k, ¬ (i = 66) → At g1 (sI g' 66 c.toNat (z m)) i k := fun i k hc => (hf' i k hc).tr (F5 i k (by omega))
                  refine m_barks (M1.at' (fun i k b1 b2 => f6 i k (by omega))) (F1.at' (fun k => f6 50 k (by omega))) n4 hc ?_
                  have HA' : ArB (sI g' 66 c.toNat (z m)) 66 (fun v => if v = c then m else A v) := fun v v0 v1 => by
                    show gI (sI g' 66 c.toNat (z m)) 66 v.toNat = z (if v = c then m else A v) ∧ -1 ≤ (if v = c then m else A v) ∧ (if v = c then m else A v) ≤ 64
                    by_cases e : v = c
                    · rw [if_pos e, e, gI_in rfl rfl]; exact ⟨rfl, by omega, by omega⟩
                    · rw [if_neg e, gI_out (by omega)]; exact hA v v0 v1
                  have fu1 : fu = (fu - 1) + 1 := by omega
                  rw [fu1] at hB
                  have hB' : bk s.a (fu - 1) (nb s.a c) (m + 1) (max x (pc c)) (fun v => if v = c then m else A v) = R := by
                    rw [← hB]
                    exact (if_pos ⟨c0, cA⟩).symm
                  rw [z_inc]
                  refine hk _ _ _ _ ⟨fu - 1, nb s.a c, m + 1, max x (pc c), _, rfl, rfl, rfl, nb_rg h6 c, by omega, by omega, by omega, by omega, HA', f6, hB'⟩ ?_
                  rw [muB_eq HA', muB_eq hA]
                  omega
                · rw [if_neg (show ¬ z (A c) = -1 from z_ne (by omega) (by omega) (by decide) (by decide) cA)]
                  exact fin (fun x => cA x.2)
        · rw [if_neg (by rw [z_le (by omega) (by omega) (by omega) (by omega)]; omega)]; exact ref (by omega)
end BARKM
