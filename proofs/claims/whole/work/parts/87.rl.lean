abbrev canG (a : Wd) (n : Int) : Prop := 0 ≤ n ∧ n ≤ 48 - a.f 7 2 0
def a_go (s : St) (n : Int) : Int := if canG s.a n then s.a.f 7 2 0 + n else -1
def t_go (s : St) (n : Int) : St := if canG s.a n then (if n = 0 then s else upS s (goW s.a n.toNat) 0 (fun _ => goW s.a n.toNat)) else s
theorem goW_sa (a : Wd) (i : Nat) : SA a (goW a i) := SA.up.tr SA.up7
theorem goW_tld (a : Wd) (i : Nat) : Tld a (goW a i) := (Tld.up (by unfold chg; omega)).tr (Tld.up (by unfold chg; omega))
theorem now_go {a : Wd} (N : Now a) {i : Nat} (ok : okc (fcM a (far a (-1)) i) (a.n 2)) (h : a.f 7 2 0 + i ≤ 48) : Now (goW a i) := by
  obtain ⟨OL, ON, OC, OR, W1, W2, n12, nl, n8, n9, n10, n11, nS, n13, n14, n15, n16, n17, n18⟩ := N.coin ok
  have m0 : 0 ≤ a.f 7 2 0 := n16.1
  refine ⟨OL, ON, OC, OR, W1, W2, n12, nl, n8, n9, n10, n11, nS, n13, n14, n15, ⟨?_, ?_⟩, n17, n18⟩
  · show 0 ≤ a.f 7 2 0 + i; omega
  · show a.f 7 2 0 + i ≤ 48; exact h
theorem OkS.go {s : St} (O : OkS s) {i : Nat} (N : Now (goW s.a i)) : OkS (upS s (goW s.a i) 0 (fun _ => goW s.a i)) := by
  obtain ⟨o1, o2, o3, o4, o5, o6, o7⟩ := O
  have T := goW_tld s.a i
  have e9 : (goW s.a i).n 9 = 0 := o1.2
  refine ⟨⟨N, e9⟩, ⟨?_, ?_⟩, rfl, fun k k0 k1 => ⟨N, e9, Tld.rf _⟩, fun e => ?_, o6, o7⟩
  · show (0 : Int) ≤ 0; omega
  · show (0 : Int) ≤ 20; omega
  · have q := o5 e
    exact ⟨q.1, q.2.1, T.sy.tr q.2.2⟩
section GOS
variable {h : PH} {w : Nat} {s : St} {n : Int}
theorem xs_go {Q : Int32 → PH → Prop} (I : IX h w s) (hn : i32 n) (hq : ∀ g, IX g w (t_go s n) → KpS h g s.a (t_go s n).a → Q (z (a_go s n)) g) : w_X9_go (z n) h Q := by
  obtain ⟨p1, p2, p3⟩ := I.1.p
  have n1 := I.1.1
  have n3 := I.1.2.2.1
  have n4 := I.1.2.2.2.1
  have hn1 := hn.1
  have hn2 := hn.2
  have O := I.ok
  have n16 := n4.2.2.2.2.2.2.2.2.2.2.2.2.2.2.2.2.1
  have ref : ¬ canG s.a n → Q (-1) h := fun c' => by
    have e1 : t_go s n = s := if_neg c'
    have e2 : a_go s n = -1 := if_neg c'
    have := hq h
    rw [e1, e2] at this
    exact this I (KpS.rf h s.a)
  unfold w_X9_go
  rw [zn_0]
  by_cases c1 : n < 0
  · rw [if_pos (by rw [z_lt (by omega) (by omega) (by omega) (by omega)]; omega)]
    exact ref (fun x => by have := x.1; omega)
  · rw [if_neg (by rw [z_lt (by omega) (by omega) (by omega) (by omega)]; omega), p3]
    refine ⟨p1, oX_w n1, ?_⟩
    rw [n3.2.2.2.2.2, zn_48, z_sub]
    by_cases c2 : n ≤ 48 - s.a.f 7 2 0
    · rw [if_pos (by rw [z_le (by omega) (by omega) (by omega) (by omega)]; omega)]
      have cg : canG s.a n := ⟨by omega, c2⟩
      have e2 : a_go s n = s.a.f 7 2 0 + n := if_pos cg
      have e0 : s.a = goW s.a 0 ∨ True := Or.inr trivial
      have fin : ∀ g, NX g w (mkd (fl h) (goW s.a n.toNat)) → okc (fcM s.a (far s.a (-1)) n.toNat) (s.a.n 2) → (∀ c k, ¬ (airR w c k ∨ c = w + 6 ∨ (c = w ∧ k = 11)) → At h g c k) → 0 < n → w_X9_go_75 Q (sI g 135 3 0) := by
        intro g N ok f hpos
        have Ng := now_go n4 (i := n.toNat) ok (by omega)
        have e1 : t_go s n = upS s (goW s.a n.toNat) 0 (fun _ => goW s.a n.toNat) := by unfold t_go; rw [if_pos cg, if_neg (by omega)]
        rw [e1, e2] at hq
        have F : ∀ c k, ¬ (c = 135 ∧ k = 3) → At g (sI g 135 3 0) c k := fun c k hc => (At.rf g c k).sI hc
        obtain ⟨N0, fl1⟩ := N.ungh (show (goW s.a n.toNat).n 9 = 0 from O.1.2)
        have N1 : NX (sI g 135 3 0) w (goW s.a n.toNat) := N0.at' (fun k => F 0 k (by omega)) (fun c k b1 b2 _ => F c k (by omega)) (fun c k b1 b2 => F c k (by omega))
        obtain ⟨l1, r, l2⟩ := I.2.2.2.2.1
        obtain ⟨a1, a2, a3, a4, a5, a6, a7, a8, a9⟩ := l1
        obtain ⟨q1, q2, q3⟩ := N1.p
        unfold w_X9_go_75
        rw [q3]
        refine ⟨q1, oX_w n1, ?_⟩
        rw [N1.2.2.1.2.2.2.2.2, show (goW s.a n.toNat).f 7 2 0 = s.a.f 7 2 0 + (n.toNat : Int) from rfl, show s.a.f 7 2 0 + (n.toNat : Int) = s.a.f 7 2 0 + n by omega]
        refine hq _ (I.to N1 ⟨⟨?_, ?_, gI_in rfl rfl, by omega, by omega, a6, a7, a8, a9⟩, r, fun k k0 k1 => by omega⟩ (O.go Ng) (fun c k hc => (f c k (fun x => hc (by unfold chX; unfold airR at x; omega))).tr (F c k (fun x => hc (by unfold chX; omega))))) (Or.inr ⟨Or.inr ⟨?_, fun x => ?_, fun c k c1 c2 => (f c k (by unfold airR; omega)).tr (F c k (by omega))⟩, goW_sa _ _⟩)
        · rw [(F 135 0 (by omega)).1, (f 135 0 (by unfold airR; omega)).1]; exact a1
        · rw [(F 135 1 (by omega)).1, (f 135 1 (by unfold airR; omega)).1]; exact a2
        · rw [(F 0 12 (by omega)).1]; exact (f 0 12 (by unfold airR; omega)).1
        · rw [(F 0 9 (by omega)).1]; exact fl1 (by unfold fl; rw [if_pos x])
      refine for10 n (fun i g => (i = 0 → h = g) ∧ (0 < i → NX g w (mkd (fl h) (goW s.a i.toNat))) ∧ okc (fcM s.a (far s.a (-1)) i.toNat) (s.a.n 2) ∧ (∀ c k, ¬ (airR w c k ∨ c = w + 6 ∨ (c = w ∧ k = 11)) → At h g c k)) 0 rfl (by omega) (by omega) (by omega) ⟨fun _ => rfl, fun x => by omega, n4.coins, fun c k _ => At.rf h c k⟩ ?_ ?_
      · rintro kb i g i0 i1 ⟨eh, hN, ok, hf⟩ hk
        have Ni := now_go n4 (i := i.toNat) ok (by omega)
        have NG : NX g w (mkd (fl h) (goW s.a i.toNat)) := by
          by_cases ei : i = 0
          · have := eh ei
            subst this
            subst ei
            obtain ⟨m1, m2, m3, m4, m5, m6⟩ := I.gh
            have S0 : SA s.a (goW s.a (0 : Int).toNat) := goW_sa _ _
            have S1 : SA (mkd (fl h) s.a) (mkd (fl h) (goW s.a (0 : Int).toNat)) := ((mkd_sa _ _).sy.tr S0).tr (mkd_sa _ _)
            refine ⟨m1, m2, m3.ext (fun r hr => rfl) (fun r c k hr hc k0 k1 => ?_) (fun c => ?_) rfl rfl, Ni, m5, fun e => by rw [far_sa S1]; exact (m6 e).sa S1⟩
            · show (goW s.a (0 : Int).toNat).f r c k = s.a.f r c k
              unfold goW
              rw [upF_out (by omega)]
              by_cases er : r = 2 ∧ c = 1
              · obtain ⟨rfl, rfl⟩ := er
                rw [upF_in]; rfl
              · rw [upF_out er]
            · show (goW s.a (0 : Int).toNat).f 7 c 0 = s.a.f 7 c 0
              unfold goW
              by_cases ec : c = 2
              · subst ec
                rw [upF_in]
                show s.a.f 7 2 0 + 0 = _; omega
              · rw [upF_out (by omega), upF_out (by omega)]
          · exact hN (by omega)
        unfold w_X9_go_22
        rw [if_neg (by rw [z_le (by omega) (by omega) (by omega) (by omega)]; omega)]
        refine x_freshAir NG (fun g1 f1 N1 A1 => ?_)
        obtain ⟨q1, q2, q3⟩ := N1.p
        have S1 : SA s.a (mkd (fl h) (goW s.a i.toNat)) := (goW_sa _ _).tr (mkd_sa _ _)
        rw [q3]
        refine ⟨rfl, q1, oX_w n1, q1, oX_w n1, ?_⟩
        have W1 := N1.2.2.1
        have e11 : gI g1 w 11 = z (s.a.f 7 2 0 + i) := by
          have : (mkd (fl h) (goW s.a i.toNat)).f 7 2 0 = s.a.f 7 2 0 + i := by
            show s.a.f 7 2 0 + (i.toNat : Int) = _; omega
          rw [W1.2.2.2.2.2, this]
        rw [e11]
        rw [far_sa S1] at A1
        refine x_fine W1 A1.2.1 A1.2.2.2.1 N1.2.2.2.1 ⟨by omega, by omega⟩ (by omega) (fun g2 f2 W2 ok2 => ?_)
        have e3 : gP g2 0 3 = w + 1 := by rw [(f2 0 3 (by omega)).2.2]; exact N1.2.1
        rw [e3]
        refine ⟨by omega, oX_w n1, ?_⟩
        rintro _ rfl
        rw [show w + 1 - 1 = w by omega, (f2 w 11 (by omega)).1, e11, z_inc, z_inc]
        have ec : fcP (mkd (fl h) (goW s.a i.toNat)) (far s.a (-1)) (s.a.f 7 2 0 + i) ((mkd (fl h) (goW s.a i.toNat)).n 0).toNat ((mkd (fl h) (goW s.a i.toNat)).f 2 1) = fcM s.a (far s.a (-1)) (i + 1).toNat := by
          rw [show (i + 1).toNat = i.toNat + 1 by omega]
          show _ = fcP s.a (far s.a (-1)) (s.a.f 7 2 0 + ((i.toNat : Nat) : Int)) (s.a.n 0).toNat (fcM s.a (far s.a (-1)) i.toNat)
          rw [show ((i.toNat : Nat) : Int) = i by omega, fcP_sa S1]
          rfl
        rw [ec] at W2 ok2
        have F : ∀ c k, ¬ (c = w ∧ k = 11) → At g2 (sI g2 w 11 (z (s.a.f 7 2 0 + i + 1))) c k := fun c k hc => (At.rf g2 c k).sI hc
        have ok3 : okc (fcM s.a (far s.a (-1)) (i + 1).toNat) (s.a.n 2) := ok2
        refine hk _ ⟨fun x => by omega, fun _ => ?_, ok3, fun c k hc => ((hf c k hc).tr (f1 c k (fun x => hc (Or.inl x)))).tr ((f2 c k (fun x => hc (Or.inr (Or.inl x)))).tr (F c k (fun x => hc (Or.inr (Or.inr x)))))⟩
        have S2 : SA (mkd (fl h) (goW s.a i.toNat)) (mkd (fl h) (goW s.a (i + 1).toNat)) := S1.sy.tr ((goW_sa _ _).tr (mkd_sa _ _))
        refine ⟨n1, ?_, ?_, now_go n4 (i := (i + 1).toNat) ok3 (by omega), ?_, fun e => ?_⟩
        · rw [(F 0 3 (by omega)).2.2]; exact e3
        · obtain ⟨b1, b2, b3, b4, b5, b6⟩ := W2
          have W3 : WX (sI g2 w 11 (z (s.a.f 7 2 0 + i + 1))) w (upF (upF (mkd (fl h) (goW s.a i.toNat)) 2 1 (fcM s.a (far s.a (-1)) (i + 1).toNat)) 7 2 (fun _ => s.a.f 7 2 0 + i + 1)) := by
            refine ⟨fun r hr => ⟨(b1 r hr).1.at' (fun k => F _ k (by omega)), fun k c d1 d2 d3 => ?_⟩, b2.at' (fun c k d1 d2 => F c k (by omega)), b3.at' (fun c k d1 d2 => F c k (by omega)), ?_, ?_, ?_⟩
            · rw [(F _ _ (by omega)).1, upF_out (by omega)]
              exact (b1 r hr).2 k c d1 d2 d3
            · rw [(F _ _ (by omega)).1, upF_out (by omega)]; exact b4
            · rw [(F _ _ (by omega)).1, upF_out (by omega)]; exact b5
            · rw [gI_in rfl rfl, upF_in]
          refine W3.ext (fun r hr => rfl) (fun r c k hr hc k0 k1 => ?_) (fun c => ?_) rfl rfl
          · rw [upF_out (by omega)]
            show (goW s.a (i + 1).toNat).f r c k = _
            unfold goW
            rw [upF_out (by omega)]
            by_cases er : r = 2 ∧ c = 1
            · obtain ⟨rfl, rfl⟩ := er
              rw [upF_in, upF_in]
            · rw [upF_out er, upF_out er]
              show s.a.f r c k = (goW s.a i.toNat).f r c k
              unfold goW
              rw [upF_out (by omega), upF_out er]
          · show (goW s.a (i + 1).toNat).f 7 c 0 = _
            unfold goW
            by_cases ec : c = 2
            · subst ec
              rw [upF_in, upF_in]
              omega
            · rw [upF_out (by omega), upF_out (by omega), upF_out (by omega), upF_out (by omega)]
              show s.a.f 7 c 0 = (goW s.a i.toNat).f 7 c 0
              unfold goW
              rw [upF_out (by omega), upF_out (by omega)]
        · rw [(F 0 9 (by omega)).1, (f2 0 9 (by omega)).1]; exact N1.2.2.2.2.1
        · rw [(F 0 9 (by omega)).1, (f2 0 9 (by omega)).1] at e
          rw [far_sa S2]
          exact ((N1.2.2.2.2.2 e).at' (fun c k b1 b2 => (f2 c k (by omega)).tr (F c k (by omega)))).sa S2
      · rintro kb g ⟨eh, hN, ok, hf⟩
        unfold w_X9_go_22
        rw [if_pos (by rw [z_le (by omega) (by omega) (by omega) (by omega)]; omega)]
        show (if z n ≤ z 0 then w_X9_go_75 Q g else w_X6_clear 135 g (fun h17 => w_X9_go_75 Q h17))
        by_cases c3 : n ≤ 0
        · rw [if_pos (by rw [z_le (by omega) (by omega) (by omega) (by omega)]; omega)]
          have en : n = 0 := by omega
          have := eh en
          subst this
          have e1 : t_go s n = s := by unfold t_go; rw [if_pos cg, if_pos en]
          rw [e1, e2] at hq
          unfold w_X9_go_75
          rw [p3]
          refine ⟨p1, oX_w n1, ?_⟩
          have := hq h I (KpS.rf h s.a)
          rw [n3.2.2.2.2.2, show s.a.f 7 2 0 = s.a.f 7 2 0 + n by omega]
          exact this
        · rw [if_neg (by rw [z_le (by omega) (by omega) (by omega) (by omega)]; omega)]
          unfold w_X6_clear
          rintro _ rfl
          exact fin g (hN (by omega)) ok hf (by omega)
    · rw [if_neg (by rw [z_le (by omega) (by omega) (by omega) (by omega)]; omega)]
      exact ref (fun x => c2 x.2)
end GOS
theorem fcM_s {a : Wd} {F : Int → Int → Int} {i : Int} (h : 0 ≤ i) : fcM a F (i + 1).toNat = fcP a F (a.f 7 2 0 + i) (a.n 0).toNat (fcM a F i.toNat) := by
  rw [show (i + 1).toNat = i.toNat + 1 by omega]
  show fcP a F (a.f 7 2 0 + ((i.toNat : Nat) : Int)) _ _ = _
  rw [show ((i.toNat : Nat) : Int) = i by omega]
section GOM
variable {h : PH} {s : St} {n : Int}
theorem ms_go {Q : Int32 → PH → Prop} (J : IM h s) (hn : i32 n) (hq : ∀ g, IM g (t_go s n) → Q (z (a_go s n)) g) : w_X10_go (z n) h Q := by
  unfold w_X10_go
  rintro _ rfl
  have J1 := J.fr (fr0 h 0)
  generalize sI h 0 0 0 = h1 at J1
  have n4 := J1.1.2.2
  have O := J1.2.2.2.2.2.2
  have hn1 := hn.1
  have hn2 := hn.2
  have n16 := n4.2.2.2.2.2.2.2.2.2.2.2.2.2.2.2.2.1
  have n10 := n4.2.2.2.2.2.2.2.2.2.2.1
  have e44 : gI h1 44 0 = z (s.a.f 7 2 0) := J1.1.2.1.2.2.2.2.2.2
  have ref : ¬ canG s.a n → Q (-1) h1 := fun c' => by
    have e1 : t_go s n = s := if_neg c'
    have e2 : a_go s n = -1 := if_neg c'
    rw [e1, e2] at hq
    exact hq h1 J1
  have go : ∀ g0, (∀ c k, ¬ (c = 0 ∧ k = 61) → At h1 g0 c k) → gI g0 0 61 = z (if n = 0 then s.un else 0) → canG s.a n → w_X10_go_39 Q (z n) g0 := by
    intro g0 f0 e61 cg
    have c1 := cg.1
    have c2 := cg.2
    have M0 : MT g0 s.a := J1.1.1.at' (fun c k b1 b2 => f0 c k (by omega))
    have D0 : MD g0 0 s.a := J1.1.2.1.at' (fun c k b1 b2 => f0 c k (by omega))
    have F3 := (far_gd (-1) n4.1).2.2.1
    unfold w_X10_go_39
    refine m_layDay M0 D0 n4 (fun g f Dy => ?_)
    obtain ⟨dM, dD, dN, dF, dS, dH, dW⟩ := Dy
    refine for10 n (fun i g' => (∀ c k, ¬ lawC c k → ¬ (c = 43 ∧ k < 4) → ¬ (c = 44 ∧ k = 0) → At g g' c k) ∧ (∀ o, 0 ≤ o → o < s.a.n 2 → gI g' 43 o.toNat = z (fcM s.a (far s.a (-1)) i.toNat o)) ∧ okc (fcM s.a (far s.a (-1)) i.toNat) (s.a.n 2) ∧ gI g' 44 0 = z (s.a.f 7 2 0 + i)) 0 rfl (by omega) (by omega) (by omega) ⟨fun c k _ _ _ => At.rf g c k, fun o o0 o1 => ?_, n4.coins, by rw [Int.add_zero]; exact dD.2.2.2.2.2.2⟩ ?_ ?_
    · have := dD.2.2.2.2.2.1 o o0 o1
      rw [show (4 * 0 + o) = o by omega] at this
      exact this
    · rintro kb i g' i0 i1 ⟨hf, hc, ok, e44'⟩ hk
      unfold w_X10_go_45
      rw [if_neg (by rw [z_le (by omega) (by omega) (by omega) (by omega)]; omega), iN_0, e44']
      refine m_pays (dM.at' (fun c k b1 b2 => hf c k (by unfold lawC; omega) (by omega) (by omega))) (dN.at' (hf 0 62 (by unfold lawC; omega) (by omega) (by omega)) (fun c k b1 b2 => hf c k (by unfold lawC; omega) (by omega) (by omega))) (dF.at' (fun k => hf 50 k (by unfold lawC; omega) (by omega) (by omega))) (dH.at' (hf 0 70 (by unfold lawC; omega) (by omega) (by omega)) (fun c k b1 b2 => hf c k (by unfold lawC; omega) (by omega) (by omega))) n4 F3 hc ok ⟨by omega, by omega⟩ (fun g2 f2 hc2 ok2 => ?_)
      rintro _ rfl
      rw [(f2 44 0 (by unfold lawC; omega) (by omega)).1, e44', z_inc, z_inc]
      refine hk _ ⟨fun c k h1 h2 h3 => ((hf c k h1 h2 h3).tr (f2 c k h1 h2)).sI h3, fun o o0 o1 => ?_, by rw [fcM_s i0]; exact ok2, by rw [gI_in rfl rfl, show s.a.f 7 2 0 + i + 1 = s.a.f 7 2 0 + (i + 1) by omega]⟩
      rw [gI_out (by omega), fcM_s i0]
      exact hc2 o o0 o1
    · rintro kb g' ⟨hf, hc, ok, e44'⟩
      unfold w_X10_go_45
      rw [if_pos (by rw [z_le (by omega) (by omega) (by omega) (by omega)]; omega), iN_0]
      show Q (gI g' 44 0) g'
      rw [e44']
      have FF : ∀ c k, ¬ chM c k → At h1 g' c k := fun c k hc => ((f0 c k (fun x => hc (Or.inr (Or.inl x)))).tr (f c k (fun x => hc (Or.inr (Or.inr (by unfold dayR at x; unfold scrM; omega)))))).tr (hf c k (fun x => hc (Or.inr (Or.inr (by unfold lawC at x; unfold scrM; omega)))) (fun x => hc (Or.inl ⟨by omega, by omega, by unfold dyC; omega⟩)) (fun x => hc (Or.inl ⟨by omega, by omega, by unfold dyC; omega⟩)))
      have eM : MT g' s.a := dM.at' (fun c k b1 b2 => hf c k (by unfold lawC; omega) (by omega) (by omega))
      have eD : MD g' 0 (goW s.a n.toNat) := by
        refine ⟨?_, fun n k0 k1 => ?_, fun n k0 k1 => ?_, fun n k0 k1 => ?_, fun n k0 k1 => ?_, fun o k0 k1 => ?_, ?_⟩
        · rw [(hf 34 _ (by unfold lawC; omega) (by omega) (by omega)).1]; exact dD.1
        · rw [(hf 35 _ (by unfold lawC; omega) (by omega) (by omega)).1, (hf 36 _ (by unfold lawC; omega) (by omega) (by omega)).1, (hf 37 _ (by unfold lawC; omega) (by omega) (by omega)).1, (hf 38 _ (by unfold lawC; omega) (by omega) (by omega)).1, (hf 39 _ (by unfold lawC; omega) (by omega) (by omega)).1]; exact dD.2.1 n k0 k1
        · rw [(hf 40 _ (by unfold lawC; omega) (by omega) (by omega)).1]; exact dD.2.2.1 n k0 k1
        · rw [(hf 41 _ (by unfold lawC; omega) (by omega) (by omega)).1]; exact dD.2.2.2.1 n k0 k1
        · rw [(hf 42 _ (by unfold lawC; omega) (by omega) (by omega)).1]; exact dD.2.2.2.2.1 n k0 k1
        · rw [show (4 * 0 + o) = o by omega]
          exact hc o k0 k1
        · show gI g' 44 0 = z (s.a.f 7 2 0 + (n.toNat : Int))
          rw [e44', show ((n.toNat : Nat) : Int) = n by omega]
      have g61 : gI g' 0 61 = z (if n = 0 then s.un else 0) := by rw [(hf 0 61 (by unfold lawC; omega) (by omega) (by omega)).1, (f 0 61 (by unfold dayR; omega)).1]; exact e61
      have e2 : a_go s n = s.a.f 7 2 0 + n := if_pos cg
      by_cases en : n = 0
      · have e1 : t_go s n = s := by unfold t_go; rw [if_pos cg, if_pos en]
        rw [e1, e2] at hq
        refine hq g' ?_
        have : IM g' (upS s s.a s.un s.u) := by
          obtain ⟨u1, u2, u3⟩ := J1.2.1
          refine J1.to ⟨eM, ?_, n4⟩ ⟨?_, u2, fun i i0 i1 => ⟨(u3 i i0 i1).1.of (u3 i i0 i1).2 (by omega) (fun c k hc => ?_), (u3 i i0 i1).2⟩⟩ O FF
          · obtain ⟨d1, d2, d3, d4, d5, d6, d7⟩ := eD
            refine ⟨d1, d2, d3, d4, d5, fun o k0 k1 => ?_, ?_⟩
            · rw [d6 o k0 k1]
              show z (fcM s.a (far s.a (-1)) n.toNat o) = _
              rw [en]; rfl
            · rw [d7]
              show z (s.a.f 7 2 0 + (n.toNat : Int)) = _
              rw [show s.a.f 7 2 0 + (n.toNat : Int) = s.a.f 7 2 0 by omega]
          · rw [g61, if_pos en]
          · have d34 := dy_34 hc
            rw [(hf c k (by unfold lawC; omega) (by unfold dyC at hc; omega) (by unfold dyC at hc; omega)).1, (f c k (by unfold dayR; omega)).1, (f0 c k (by omega)).1]
        exact this
      · have e1 : t_go s n = upS s (goW s.a n.toNat) 0 (fun _ => goW s.a n.toNat) := by unfold t_go; rw [if_pos cg, if_neg en]
        rw [e1, e2] at hq
        have Ng := now_go n4 (i := n.toNat) ok (by omega)
        exact hq g' (J1.to ⟨eM.tld (goW_tld _ _), eD, Ng⟩ ⟨by rw [g61, if_neg en], by omega, fun i i0 i1 => by omega⟩ (O.go Ng) FF)
  rw [iN_0, e44, zn_0, zn_48]
  by_cases c1 : n < 0
  · rw [if_pos (by rw [z_lt (by omega) (by omega) (by omega) (by omega)]; omega)]
    exact ref (fun x => by have := x.1; omega)
  · rw [if_neg (by rw [z_lt (by omega) (by omega) (by omega) (by omega)]; omega)]
    by_cases c2 : 48 < n
    · rw [if_pos (by rw [z_lt (by omega) (by omega) (by omega) (by omega)]; omega)]
      exact ref (fun x => by have := x.2; omega)
    · rw [if_neg (by rw [z_lt (by omega) (by omega) (by omega) (by omega)]; omega), z_add]
      by_cases c3 : s.a.f 7 2 0 + n ≤ 48
      · have cg : canG s.a n := ⟨by omega, by omega⟩
        rw [if_pos (by rw [z_le (by omega) (by omega) (by omega) (by omega)]; omega)]
        by_cases c4 : n ≤ 0
        · rw [if_pos (by rw [z_le (by omega) (by omega) (by omega) (by omega)]; omega)]
          exact go h1 (fun c k _ => At.rf h1 c k) (by rw [if_pos (by omega)]; exact J1.2.1.1) cg
        · rw [if_neg (by rw [z_le (by omega) (by omega) (by omega) (by omega)]; omega)]
          rintro _ rfl
          exact go _ (fun c k hc => (At.rf h1 c k).sI hc) (by rw [gI_in rfl rfl, if_neg (by omega)]) cg
      · rw [if_neg (by rw [z_le (by omega) (by omega) (by omega) (by omega)]; omega)]
        exact ref (fun x => by have := x.2; omega)
end GOM
