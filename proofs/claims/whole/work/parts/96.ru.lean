/-! ===== a year by the reference ===== -/
section YM
variable {h : PH} {s : St} {a : Wd}
theorem m_draw {v : Int32} {b : Int} {Q : Int32 → PH → Prop} (hv : gI h 0 104 = v) (hb : 0 < b ∧ b ≤ 1000) (hq : ∀ g, (∀ c k, ¬ (c = 0 ∧ k = 104) → At h g c k) → gI g 0 104 = nxt v → Q (z (dr (nxt v) % b)) g) : w_X10_draw (z b) h Q := by
  have r1 := dr_rg v
  unfold w_X10_draw
  rintro _ rfl
  have e : gI (sI h 0 104 (((gI h 0 104) * 1103515245 + 12345) &&& 2147483647)) 0 104 = nxt v := by rw [gI_in rfl rfl, hv]; rfl
  have hq' := hq (sI h 0 104 (((gI h 0 104) * 1103515245 + 12345) &&& 2147483647)) (fun c k hc => (At.rf h c k).sI hc) e
  refine ⟨(show ¬ z b = 0 from z_ne (by omega) (by omega) (by decide) (by decide) (show b ≠ 0 by omega)), ?_⟩
  rw [e]
  clear hq e
  generalize dr (nxt v) = b1 at *
  rw [r1.1, z_rem r1.2 (by omega)]
  exact hq'
theorem quar_o {p o m : Int} {F : Int → Int → Int} : silAll (adR a 3 (nz0 p o m (m + 3) 10)) F = silAll (adR a 3 (nz0 p 0 m (m + 3) 10)) F := by
  refine silAll_cong rfl rfl (fun n c1 c2 => ?_) rfl
  have q : ∀ cc : Nat, cc ≠ 1 → (adR a 3 (nz0 p o m (m + 3) 10)).f 3 cc n = (adR a 3 (nz0 p 0 m (m + 3) 10)).f 3 cc n := by
    intro cc hcc
    by_cases en : n = a.n 3
    · subst en
      rw [adR_in, adR_in]
      unfold nz0
      rw [if_neg hcc, if_neg hcc]
    · rw [adR_out (by omega), adR_out (by omega)]
  exact ⟨q 0 (by decide), q 2 (by decide), q 3 (by decide), q 4 (by decide), q 5 (by decide)⟩
def yrG (nx : Int32 → Int32) (dd : Int32 → Int) (a : Wd) (t : Int32 × Int) : Int32 × Int := if dd (nx t.1) % 3 = 0 then (nx t.1, t.2 + silAll (soft a) (far a (-1))) else if dd (nx t.1) % 3 = 1 ∧ 0 < a.n 0 ∧ 0 < a.n 2 then (nx (nx (nx (nx t.1))), t.2 + quar a (dd (nx (nx t.1)) % a.n 0) (dd (nx (nx (nx (nx t.1)))) % 44)) else (nx t.1, t.2 + silAll a (far a (-1)))
def yrM (nx : Int32 → Int32) (dd : Int32 → Int) (a : Wd) (v : Int32) : Nat → Int32 × Int
  | 0 => (v, 0)
  | d + 1 => yrG nx dd a (yrM nx dd a v d)
theorem yrM_s {nx : Int32 → Int32} {dd : Int32 → Int} {a : Wd} {v : Int32} {d : Int} (h : 0 ≤ d) : yrM nx dd a v (d + 1).toNat = yrG nx dd a (yrM nx dd a v d.toNat) := by
  rw [show (d + 1).toNat = d.toNat + 1 by omega]; rfl
theorem yrM_N (a : Wd) (v : Int32) : ∀ d : Nat, yrM nxt dr a v d = yrN a v d
  | 0 => rfl
  | d + 1 => by
    show yrG nxt dr a (yrM nxt dr a v d) = yrD a (yrN a v d)
    rw [yrM_N a v d]; rfl
theorem m_yearC {Q : Int32 → PH → Prop} {v n : Int} {nx : Int32 → Int32} {dd : Int32 → Int} {FF : Int → Int → Int} {h2 g : PH} (hd : ∀ v, 0 ≤ dd (nx v) ∧ dd (nx v) ≤ 32767) (hw : ∀ (b : Int) (g3 : PH) (v : Int32) (Q' : Int32 → PH → Prop), gI g3 0 104 = v → (0 < b ∧ b ≤ 1000) → (∀ g, (∀ c k, ¬ (c = 0 ∧ k = 104) → At g3 g c k) → gI g 0 104 = nx v → Q' (z (dd (nx v) % b)) g) → w_X10_draw (z b) g3 Q') (J2 : IM h2 s) (f : ∀ c k, ¬ (c = 50) → At h2 g c k) (hFF : far s.a (-1) = FF) (F : FM g FF) (c2 : 0 ≤ n ∧ n ≤ 20) (e104' : gI g 0 104 = z v) (hq : ∀ g, IM g s → Q (z (yrM nx dd s.a (z v) n.toNat).2) g) : ∃ k, Lp2 (w_X10_year_42 (fun y19 h18 => Q y19 h18) Q (z n)) k (z 0) (z 0) g := by
  have n4 := J2.1.2.2
  have h6 := n4.1.1
  have n10 := n4.2.2.2.2.2.2.2.2.2.2.1
  have n12 := n4.2.2.2.2.2.2.1
  have ON := n4.2.1
  have ON1 := ON.1
  have hl := fun n c1 c2 => (n4.2.2.2.2.2.2.2.1 n c1 c2).2
  have F3 : ∀ p q, 0 ≤ FF p q ∧ FF p q ≤ 100000 := by rw [← hFF]; exact (far_gd (-1) n4.1).2.2.1
  have dk : ∀ g', (∀ c k, ¬ ((45 ≤ c ∧ c < 50) ∨ (c = 0 ∧ (k = 62 ∨ k = 104)) ∨ lawC c k ∨ c = 51) → At g g' c k) → MT g' s.a ∧ MD g' 0 s.a ∧ FM g' FF := fun g' hg => ⟨J2.1.1.at' (fun c k b1 b2 => (f c k (by omega)).tr (hg c k (by unfold lawC; omega))), J2.1.2.1.at' (fun c k b1 b2 => (f c k (by omega)).tr (hg c k (by unfold lawC; omega))), F.at' (fun k => hg 50 k (by unfold lawC; omega))⟩
  refine for21 n (fun d x g' => (x = z (yrM nx dd s.a (z v) d.toNat).2 ∧ gI g' 0 104 = (yrM nx dd s.a (z v) d.toNat).1) ∧ ∀ c k, ¬ ((45 ≤ c ∧ c < 50) ∨ (c = 0 ∧ (k = 62 ∨ k = 104)) ∨ lawC c k ∨ c = 51) → At g g' c k) 0 rfl (by omega) (by omega) (by omega) ⟨⟨rfl, e104'⟩, fun c k _ => At.rf g c k⟩ ?_ ?_
  · rintro kb d _ g' d0 d1 ⟨⟨rfl, e4⟩, hf⟩ hk
    obtain ⟨M', D', F'⟩ := dk g' hf
    rw [yrM_s d0] at hk
    generalize yrM nx dd s.a (z v) d.toNat = T at *
    have eD : yrG nx dd s.a T = (if dd (nx T.1) % 3 = 0 then (nx T.1, T.2 + silAll (soft s.a) (far s.a (-1))) else if dd (nx T.1) % 3 = 1 ∧ 0 < s.a.n 0 ∧ 0 < s.a.n 2 then (nx (nx (nx (nx T.1))), T.2 + quar s.a (dd (nx (nx T.1)) % s.a.n 0) (dd (nx (nx (nx (nx T.1)))) % 44)) else (nx T.1, T.2 + silAll s.a (far s.a (-1)))) := rfl
    unfold quar at eD
    rw [hFF] at eD
    rw [eD] at hk
    clear eD
    unfold w_X10_year_42
    rw [if_neg (by rw [z_le (by omega) (by omega) (by omega) (by omega)]; omega), zn_3]
    refine m_layNoises' D' ON n12 hl (fun g1 f1 N1 L1 => ?_)
    have a104 : gI g1 0 104 = T.1 := by rw [(f1 0 104 (by omega) (by omega)).1]; exact e4
    refine hw 3 g1 T.1 _ a104 (by omega) (fun g2 f2 e2 => ?_)
    have hf2 : ∀ c k, ¬ ((45 ≤ c ∧ c < 50) ∨ (c = 0 ∧ (k = 62 ∨ k = 104)) ∨ lawC c k ∨ c = 51) → At g g2 c k := fun c k hc => ((hf c k hc).tr (f1 c k (by omega) (by omega))).tr (f2 c k (by omega))
    have N2 : NM g2 s.a := N1.at' (f2 0 62 (by omega)) (fun c k b1 b2 => f2 c k (by omega))
    have L2 : ∀ j : Int, 0 ≤ j → j < s.a.n 3 → gI g2 49 j.toNat = z (if s.a.f 3 5 j = 1 then 0 else s.a.f 3 4 j) := fun j c1 c2 => by rw [(f2 49 _ (by omega)).1]; exact L1 j c1 c2
    have fin : ∀ (b : Wd) (g3 : PH), (∀ c k, ¬ ((45 ≤ c ∧ c < 50) ∨ (c = 0 ∧ (k = 62 ∨ k = 104)) ∨ lawC c k ∨ c = 51) → At g g3 c k) → MT g3 b → Wf b.fd → NM g3 b → OkN b → b.n 0 = s.a.n 0 → (∀ g4, gI g4 0 104 = gI g3 0 104 → (∀ c k, ¬ ((45 ≤ c ∧ c < 50) ∨ (c = 0 ∧ (k = 62 ∨ k = 104)) ∨ lawC c k ∨ c = 51) → At g g4 c k) → kb (z (T.2 + silAll b FF)) (z (d + 1)) g4) → w_X10_year_140 Q kb (z n) (z T.2) (z d) g3 := by
      intro b g3 f3 M3 W3 N3 O3 n0 hk3
      unfold w_X10_year_140
      refine m_silentAll M3 W3 (dk g3 f3).2.2 N3 O3 F3 (by rw [n0]; exact h6) (fun g4 f4 => ?_)
      rintro _ rfl
      rw [z_add, z_inc]
      exact hk3 g4 ((f4 0 104 (by unfold lawC; omega) (by omega)).1) (fun c k hc => (f3 c k hc).tr (f4 c k (fun x => hc (Or.inr (Or.inr (Or.inl x)))) (fun x => hc (Or.inr (Or.inr (Or.inr x))))))
    have e2' := e2
    have last : ¬ dd (nx T.1) % 3 = 0 → ¬ (dd (nx T.1) % 3 = 1 ∧ 0 < s.a.n 0 ∧ 0 < s.a.n 2) → w_X10_year_140 Q kb (z n) (z T.2) (z d) g2 := by
      intro d1 d2
      rw [if_neg d1, if_neg d2] at hk
      exact fin s.a g2 hf2 (dk g2 hf2).1 n4.2.2.2.2.1 N2 ON rfl (fun g4 h4 f4 => hk _ g4 ⟨⟨rfl, by rw [h4]; exact e2⟩, f4⟩)
    have r1 := hd T.1
    have r2 := hd (nx T.1)
    have r4 := hd (nx (nx (nx T.1)))
    have dw := hw
    have dw1 := fun (b : Int) (g3 : PH) (Q' : Int32 → PH → Prop) => dw b g3 (nx T.1) Q'
    have dw2 := fun (b : Int) (g3 : PH) (Q' : Int32 → PH → Prop) => dw b g3 (nx (nx T.1)) Q'
    have dw3 := fun (b : Int) (g3 : PH) (Q' : Int32 → PH → Prop) => dw b g3 (nx (nx (nx T.1))) Q'
    have r3 := hd (nx (nx T.1))
    clear dw hw
    generalize dd (nx T.1) = b1 at *
    generalize dd (nx (nx T.1)) = b2 at *
    generalize dd (nx (nx (nx T.1))) = b3 at *
    generalize dd (nx (nx (nx (nx T.1)))) = b4 at *
    generalize nx (nx (nx (nx T.1))) = v4 at *
    generalize nx (nx (nx T.1)) = v3 at *
    generalize nx (nx T.1) = v2 at *
    generalize nx T.1 = v1 at *
    by_cases e0 : b1 % 3 = 0
    · rw [if_pos (show z (b1 % 3) = 0 by rw [e0]; rfl)]
      rw [if_pos e0] at hk
      refine m_softens N2 ON L2 (fun g3 f3 N3 => ?_)
      have hf3 : ∀ c k, ¬ ((45 ≤ c ∧ c < 50) ∨ (c = 0 ∧ (k = 62 ∨ k = 104)) ∨ lawC c k ∨ c = 51) → At g g3 c k := fun c k hc => (hf2 c k hc).tr (f3 c k (by omega))
      unfold w_X10_year_68
      rw [if_neg (show ¬ z (b1 % 3) = 1 by rw [e0]; decide)]
      exact fin (soft s.a) g3 hf3 (dk g3 hf3).1 n4.2.2.2.2.1 N3 (okN_soft ON hl).1 rfl (fun g4 h4 f4 => hk _ g4 ⟨⟨rfl, by rw [h4, (f3 0 104 (by omega)).1]; exact e2⟩, f4⟩)
    · rw [if_neg (show ¬ z (b1 % 3) = 0 from z_ne (by omega) (by omega) (by decide) (by decide) e0)]
      unfold w_X10_year_68
      have e20 : gI g2 2 0 = z (s.a.n 0) := (dk g2 hf2).1.1.1
      have e22 : gI g2 2 2 = z (s.a.n 2) := (dk g2 hf2).1.1.2.2.1
      by_cases e1 : b1 % 3 = 1
      · rw [if_pos (show z (b1 % 3) = 1 by rw [e1]; rfl), iN_0, iN_2, e20, e22, zn_0]
        by_cases p0 : s.a.n 0 ≤ 0
        · rw [if_pos (by rw [z_le (by omega) (by omega) (by omega) (by omega)]; omega)]
          exact last e0 (fun x => by omega)
        · rw [if_neg (by rw [z_le (by omega) (by omega) (by omega) (by omega)]; omega)]
          by_cases p2 : s.a.n 2 ≤ 0
          · rw [if_pos (by rw [z_le (by omega) (by omega) (by omega) (by omega)]; omega)]
            exact last e0 (fun x => by omega)
          · rw [if_neg (by rw [z_le (by omega) (by omega) (by omega) (by omega)]; omega)]
            rw [if_neg e0, if_pos ⟨e1, by omega, by omega⟩] at hk
            refine dw1 _ g2 _ e2 (by omega) (fun g3 f3 e3 => ?_)
            rw [show gI g3 2 2 = z (s.a.n 2) by rw [(f3 2 2 (by omega)).1]; exact e22]
            refine dw2 _ g3 _ e3 (by omega) (fun g4 f4 e4' => ?_)
            rw [zn_44]
            refine dw3 _ g4 _ e4' (by omega) (fun g5 f5 e5 => ?_)
            have q2 := Int.emod_nonneg b2 (show s.a.n 0 ≠ 0 by omega)
            have q3 := Int.emod_lt_of_pos b2 (show 0 < s.a.n 0 by omega)
            have q5 := Int.emod_nonneg b3 (show s.a.n 2 ≠ 0 by omega)
            have q6 := Int.emod_lt_of_pos b3 (show 0 < s.a.n 2 by omega)
            have q4 : 0 ≤ b4 % 44 ∧ b4 % 44 < 44 := by omega
            clear dw1 dw2 dw3 r1 r2 r3 r4 last
            generalize b2 % s.a.n 0 = c2 at *
            generalize b3 % s.a.n 2 = c3 at *
            generalize b4 % 44 = c4 at *
            have hf5 : ∀ c k, ¬ ((45 ≤ c ∧ c < 50) ∨ (c = 0 ∧ (k = 62 ∨ k = 104)) ∨ lawC c k ∨ c = 51) → At g g5 c k := fun c k hc => (((hf2 c k hc).tr (f3 c k (by omega))).tr (f4 c k (by omega))).tr (f5 c k (by omega))
            have N5 : NM g5 s.a := N2.at' (((f3 0 62 (by omega)).tr (f4 0 62 (by omega))).tr (f5 0 62 (by omega))) (fun c k b1 b2 => ((f3 c k (by omega)).tr (f4 c k (by omega))).tr (f5 c k (by omega)))
            rw [zn_3, z_add, zn_10]
            refine m_adds (o := c3) (fr := c4) (to := c4 + 3) (l := 10) N5 ⟨ON1.1, n12⟩ (by omega) (fun g6 f6 N6 => ?_)
            have hf6 : ∀ c k, ¬ ((45 ≤ c ∧ c < 50) ∨ (c = 0 ∧ (k = 62 ∨ k = 104)) ∨ lawC c k ∨ c = 51) → At g g6 c k := fun c k hc => (hf5 c k hc).tr (f6 c k (by omega) (by omega))
            have Ob : OkN (adR s.a 3 (nz0 c2 c3 c4 (c4 + 3) 10)) := by
              refine ⟨by rw [adR_n]; omega, fun n c1 c2 => ?_⟩
              rw [adR_n] at c2
              by_cases en : n = s.a.n 3
              · subst en
                rw [adR_in, adR_in, adR_in, adR_in, adR_in, adR_in]
                refine ⟨⟨q2, q3⟩, ⟨?_, ?_⟩, ⟨?_, ?_, ?_⟩, ⟨?_, ?_⟩, Or.inl rfl⟩
                · show -1 ≤ c3; omega
                · show c3 < 4; omega
                · show 0 ≤ c4; omega
                · show c4 ≤ c4 + 3; omega
                · show c4 + 3 ≤ 47; omega
                · show (-100 : Int) ≤ 10; omega
                · show (10 : Int) ≤ 20; omega
              · rw [adR_out (by omega), adR_out (by omega), adR_out (by omega), adR_out (by omega), adR_out (by omega), adR_out (by omega)]
                exact ON.2 n c1 (by omega)
            refine fin (adR s.a 3 (nz0 c2 c3 c4 (c4 + 3) 10)) g6 hf6 (dk g6 hf6).1 n4.2.2.2.2.1 N6 Ob rfl (fun g7 h7 f7 => hk _ g7 ⟨⟨?_, by rw [h7, (f6 0 104 (by omega) (by omega)).1]; exact e5⟩, f7⟩)
            rw [quar_o]
      · rw [if_neg (show ¬ z (b1 % 3) = 1 from z_ne (by omega) (by omega) (by decide) (by decide) e1)]
        exact last e0 (fun x => e1 x.1)
  · rintro kb _ g' ⟨⟨rfl, e4⟩, hf⟩
    unfold w_X10_year_42
    rw [if_pos (by rw [z_le (by omega) (by omega) (by omega) (by omega)]; omega)]
    exact hq g' (J2.fr (fun c k hc => (f c k (by unfold scrM at hc; omega)).tr (hf c k (by unfold scrM at hc; unfold lawC; omega))))
theorem ms_year {Q : Int32 → PH → Prop} {v n : Int} (J : IM h s) (hv : i32 v) (hn : i32 n) (hq : ∀ g, IM g s → Q (z (a_year s.a v n)) g) : w_X10_year (z v) (z n) h Q := by
  unfold w_X10_year
  rintro _ rfl
  have J1 := J.fr (fr0 h 0)
  generalize sI h 0 0 0 = h1 at J1
  have n4 := J1.1.2.2
  have h6 := n4.1.1
  have n10 := n4.2.2.2.2.2.2.2.2.2.2.1
  have n12 := n4.2.2.2.2.2.2.1
  have ON := n4.2.1
  have ON1 := ON.1
  have hl := fun n c1 c2 => (n4.2.2.2.2.2.2.2.1 n c1 c2).2
  have hv1 := hv.1
  have hv2 := hv.2
  have hn1 := hn.1
  have hn2 := hn.2
  have F3 := (far_gd (-1) n4.1).2.2.1
  have ref : ¬ (0 ≤ v ∧ (0 ≤ n ∧ n ≤ 20)) → Q (-1) h1 := fun c => by
    have e : a_year s.a v n = -1 := if_neg c
    rw [e] at hq
    exact hq h1 J1
  rw [zn_0]
  by_cases c1 : v < 0
  · rw [if_pos (by rw [z_lt (by omega) (by omega) (by omega) (by omega)]; omega)]; exact ref (by omega)
  · rw [if_neg (by rw [z_lt (by omega) (by omega) (by omega) (by omega)]; omega)]
    by_cases c2 : n < 0
    · rw [if_pos (by rw [z_lt (by omega) (by omega) (by omega) (by omega)]; omega)]; exact ref (by omega)
    · rw [if_neg (by rw [z_lt (by omega) (by omega) (by omega) (by omega)]; omega), zn_20]
      by_cases c3 : n ≤ 20
      · rw [if_pos (by rw [z_le (by omega) (by omega) (by omega) (by omega)]; omega)]
        rintro _ rfl
        have f0 : ∀ c k, ¬ scrM c k → At h1 (sI h1 0 104 (z v)) c k := fun c k hc => (At.rf h1 c k).sI (by unfold scrM at hc; omega)
        have J2 := J1.fr f0
        have e104 : gI (sI h1 0 104 (z v)) 0 104 = z v := gI_in rfl rfl
        generalize sI h1 0 104 (z v) = h2 at *
        rw [show iN (z 0) = 0 from rfl, z_m1]
        refine m_far (g := -1) J2.1.1 n4.1 (WB.of J2.1.2.1 n4.1) rfl (by omega) (fun g f F => ?_)
        have e104' : gI g 0 104 = z v := by rw [(f 0 104 (by omega)).1]; exact e104
        have cg : 0 ≤ v ∧ (0 ≤ n ∧ n ≤ 20) := by omega
        have ea : a_year s.a v n = (yrN s.a (z v) n.toNat).2 := if_pos cg
        rw [ea] at hq
        exact m_yearC (nx := nxt) (dd := dr) (fun v => (dr_rg v).2) (fun b g3 v Q' h1 h2 h3 => m_draw h1 h2 h3) J2 f rfl F ⟨cg.2.1, cg.2.2⟩ e104' (fun g J => by rw [yrM_N]; exact hq g J)
      · rw [if_neg (by rw [z_le (by omega) (by omega) (by omega) (by omega)]; omega)]; exact ref (by omega)
end YM
