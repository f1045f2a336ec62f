section LEFTY
variable {h : PH} {w : Nat} {s : St} {b : Wd}
theorem cl4_v {x p f t : Int} {y1 y2 y3 y4 y5 : Int32} (e1 : y1 = z x) (e2 : y2 = z p) (e3 : y3 = z f) (e4 : y4 = z t) : ∀ c : Nat, (c : Int) < cW 4 → acol y1 y2 y3 y4 y5 c = z (cl4 x p f t c) := by
  intro c hc
  have hc4 : c < 4 := by have : (c : Int) < (4 : Int) := hc; omega
  have : c = 0 ∨ c = 1 ∨ c = 2 ∨ c = 3 := by omega
  subst e1 e2 e3 e4
  rcases this with rfl | rfl | rfl | rfl <;> rfl
theorem x_inherit {Q : PH → Prop} {o law c : Int} {a : Wd} (H : WX h w a) (T : WX h 77 b) (N : Now a) (hw : w = 8 ∨ w = 31) (eP : gP h 0 3 = w + 1) (ho : 0 ≤ o ∧ o < a.n 2) (hl : 0 ≤ law ∧ law ≤ 2) (hc : 0 ≤ c ∧ c < a.n 4) (hb : 0 ≤ b.n 4 ∧ b.n 4 ≤ 2 * c) (hq : ∀ g, (∀ c k, ¬ (c = 86 ∨ c = 87) → At h g c k) → WX g 77 (hp a o law c b) → Q g) : w_X9_inherit (z c) (z o) (z law) h Q := by
  have n8 := N.2.2.2.2.2.2.2.2.1
  have n10 := N.2.2.2.2.2.2.2.2.2.2.1
  have n9 := N.2.2.2.2.2.2.2.2.2.1 c hc.1 hc.2
  have hO := N.2.2.1.2 c hc.1 hc.2
  have hh := heir_rg N ho
  have hk := cut_rg N hc
  have p2 : gP h 0 3 ≠ 0 := by omega
  have p3 : gP h 0 3 - 1 = w := by omega
  unfold w_X9_inherit
  rw [p3]
  refine ⟨p2, oX_w hw, ?_⟩
  refine H.at 4 0 (by decide) rfl (by decide) rfl rfl hc.1 hc.2 ?_
  rw [p3]
  refine ⟨p2, oX_w hw, ?_⟩
  refine H.at 4 1 (by decide) rfl (by decide) rfl rfl hc.1 hc.2 ?_
  rw [p3]
  refine ⟨p2, oX_w hw, ?_⟩
  refine H.at 4 2 (by decide) rfl (by decide) rfl rfl hc.1 hc.2 ?_
  rw [p3]
  refine ⟨p2, oX_w hw, ?_⟩
  refine H.at 4 3 (by decide) rfl (by decide) rfl rfl hc.1 hc.2 ?_
  rw [p3]
  refine ⟨p2, oX_w hw, ?_⟩
  refine H.at 2 2 (by decide) rfl (by decide) rfl rfl ho.1 ho.2 ?_
  have add1 : ∀ {x p f t : Int} {Q' : Int32 → PH → Prop} {b' : Wd} {g0 : PH}, WX g0 77 b' → b'.n 4 < 16 → (∀ c k, ¬ (c = 86 ∨ c = 87) → At h g0 c k) → (∀ v g, (∀ c k, ¬ (c = 86 ∨ c = 87) → At h g c k) → WX g 77 (adR b' 4 (cl4 x p f t)) → Q' v g) → w_X6_add 86 (z x) (z p) (z f) (z t) 0 g0 Q' := by
    intro x p f t Q' b' g0 T' h16 f0 hq'
    exact x_addW (f := cl4 x p f t) T' 4 (by decide) rfl (by show b'.n 4 < (16 : Int); exact h16) (cl4_v rfl rfl rfl rfl) (fun g f1 W1 => hq' _ g (fun c k hc => (f0 c k hc).tr (f1 c k (by omega))) W1)
  by_cases c0 : a.f 4 0 c = o
  · rw [if_pos (congrArg z c0)]
    have n132 : ¬ (law = 0 ∧ a.f 2 2 o ≠ -1) → w_X9_inherit_132 Q (z o) (z law) (z (a.f 4 1 c)) (z (a.f 4 2 c)) (z (a.f 4 3 c)) (z (a.f 2 2 o)) h := by
      intro d0
      unfold w_X9_inherit_132
      by_cases d1 : law = 1
      · rw [if_pos (show z law = 1 by rw [d1]; rfl)]
        by_cases d2 : a.f 2 2 o = -1
        · rw [if_pos (show z (a.f 2 2 o) = -1 by rw [d2]; rfl)]
          have e : hp a o law c b = b := by unfold hp; rw [if_neg (fun x => x c0), if_neg d0, if_neg (fun x => x.2 d2)]
          exact hq h (fun c k _ => At.rf h c k) (by rw [e]; exact T)
        · rw [if_neg (show ¬ z (a.f 2 2 o) = -1 from z_ne (by omega) (by omega) (by decide) (by decide) d2), p3]
          have h2 := hh.2.2 d2
          have e : hp a o law c b = adR (if a.f 4 2 c < cut a c then adR b 4 (cl4 (a.f 2 2 o) (a.f 4 1 c) (a.f 4 2 c) (cut a c - 1)) else b) 4 (cl4 (two a o) (a.f 4 1 c) (cut a c) (a.f 4 3 c)) := by unfold hp; rw [if_neg (fun x => x c0), if_neg d0, if_pos ⟨d1, d2⟩]
          rw [e] at hq
          refine ⟨p2, oX_w hw, ?_⟩
          refine H.at 2 2 (by decide) rfl (by decide) rfl rfl (by omega) hh.2.1 ?_
          rintro _ rfl
          rw [z_sub, z_inc, zn_2, z_div (by omega) (by omega) (by omega) (by omega), z_add]
          have ec : a.f 4 2 c + (a.f 4 3 c - a.f 4 2 c + 1) / 2 = cut a c := rfl
          rw [ec]
          have n201 : ∀ (b' : Wd) (g0 : PH), WX g0 77 b' → b'.n 4 < 16 → (∀ c k, ¬ (c = 86 ∨ c = 87) → At h g0 c k) → (∀ g, (∀ c k, ¬ (c = 86 ∨ c = 87) → At h g c k) → WX g 77 (adR b' 4 (cl4 (two a o) (a.f 4 1 c) (cut a c) (a.f 4 3 c))) → Q g) → w_X9_inherit_201 Q (z o) (z (a.f 4 1 c)) (z (a.f 4 3 c)) (z (a.f 2 2 o)) (z (a.f 2 2 (a.f 2 2 o))) (z (cut a c)) g0 := by
            intro b' g0 T' h16 f0 hq'
            unfold w_X9_inherit_201 w_X9_inherit_220
            by_cases t1 : a.f 2 2 (a.f 2 2 o) = -1
            · rw [if_pos (show z (a.f 2 2 (a.f 2 2 o)) = -1 by rw [t1]; rfl)]
              have et : two a o = a.f 2 2 o := if_pos (Or.inl t1)
              rw [et] at hq'
              unfold w_X9_inherit_227
              exact add1 T' h16 f0 (fun v g f1 W1 => hq' g f1 W1)
            · rw [if_neg (show ¬ z (a.f 2 2 (a.f 2 2 o)) = -1 from z_ne (by omega) (by omega) (by decide) (by decide) t1)]
              by_cases t2 : a.f 2 2 (a.f 2 2 o) = o
              · rw [if_pos (congrArg z t2)]
                have et : two a o = a.f 2 2 o := if_pos (Or.inr t2)
                rw [et] at hq'
                unfold w_X9_inherit_227
                exact add1 T' h16 f0 (fun v g f1 W1 => hq' g f1 W1)
              · rw [if_neg (z_ne (by omega) (by omega) (by omega) (by omega) t2)]
                have et : two a o = a.f 2 2 (a.f 2 2 o) := if_neg (fun x => by rcases x with x | x; exact t1 x; exact t2 x)
                rw [et] at hq'
                unfold w_X9_inherit_227
                exact add1 T' h16 f0 (fun v g f1 W1 => hq' g f1 W1)
          by_cases d3 : cut a c ≤ a.f 4 2 c
          · rw [if_pos (by rw [z_le (by omega) (by omega) (by omega) (by omega)]; omega)]
            rw [if_neg (by omega)] at hq
            exact n201 b h T (by omega) (fun c k _ => At.rf h c k) hq
          · rw [if_neg (by rw [z_le (by omega) (by omega) (by omega) (by omega)]; omega), zn_1, z_sub]
            rw [if_pos (by omega)] at hq
            exact add1 T (by omega) (fun c k _ => At.rf h c k) (fun v g f1 W1 => n201 _ g W1 (by rw [adR_n]; omega) f1 hq)
      · rw [if_neg (show ¬ z law = 1 from z_ne (by omega) (by omega) (by decide) (by decide) d1)]
        have e : hp a o law c b = b := by unfold hp; rw [if_neg (fun x => x c0), if_neg d0, if_neg (fun x => d1 x.1)]
        exact hq h (fun c k _ => At.rf h c k) (by rw [e]; exact T)
    by_cases d0 : law = 0
    · rw [if_pos (show z law = 0 by rw [d0]; rfl)]
      by_cases d2 : a.f 2 2 o = -1
      · rw [if_pos (show z (a.f 2 2 o) = -1 by rw [d2]; rfl)]
        exact n132 (fun x => x.2 d2)
      · rw [if_neg (show ¬ z (a.f 2 2 o) = -1 from z_ne (by omega) (by omega) (by decide) (by decide) d2)]
        have e : hp a o law c b = adR b 4 (cl4 (a.f 2 2 o) (a.f 4 1 c) (a.f 4 2 c) (a.f 4 3 c)) := by unfold hp; rw [if_neg (fun x => x c0), if_pos ⟨d0, d2⟩]
        rw [e] at hq
        exact add1 T (by omega) (fun c k _ => At.rf h c k) (fun v g f1 W1 => hq g f1 W1)
    · rw [if_neg (show ¬ z law = 0 from z_ne (by omega) (by omega) (by decide) (by decide) d0)]
      exact n132 (fun x => d0 x.1)
  · rw [if_neg (z_ne (by omega) (by omega) (by omega) (by omega) c0)]
    have e : hp a o law c b = adR b 4 (cl4 (a.f 4 0 c) (a.f 4 1 c) (a.f 4 2 c) (a.f 4 3 c)) := by unfold hp; rw [if_pos c0]
    rw [e] at hq
    exact add1 T (by omega) (fun c k _ => At.rf h c k) (fun v g f1 W1 => hq g f1 W1)
theorem WX.clr4 {a : Wd} (H : WX h 77 a) : WX (sI h 86 3 (z 0)) 77 (z4 a) := by
  obtain ⟨h1, h2, h3, h4, h5, h6⟩ := H
  have e : ∀ c k, ¬ (c = 86 ∧ k = 3) → At h (sI h 86 3 (z 0)) c k := fun c k hc => (At.rf h c k).sI hc
  have en : ∀ r, r ≠ 4 → (z4 a).n r = a.n r := fun r hr => if_neg hr
  have e4 : (z4 a).n 4 = 0 := rfl
  refine ⟨fun r hr => ⟨?_, fun k c b1 b2 b3 => ?_⟩, h2.at' (fun c k b1 b2 => e c k (by omega)), h3.at' (fun c k b1 b2 => e c k (by omega)), ?_, ?_, ?_⟩
  · by_cases er : r = 4
    · subst er
      obtain ⟨a1, a2, a3, a4, a5, a6, a7, a8, a9⟩ := (h1 4 hr).1
      exact ⟨by rw [(e _ _ (by omega)).1]; exact a1, by rw [(e _ _ (by omega)).1]; exact a2, by rw [e4]; exact gI_in rfl rfl, by rw [e4]; omega, by rw [e4]; omega, a6, a7, a8, a9⟩
    · rw [en r er]
      exact (h1 r hr).1.at' (fun k => e _ k (by omega))
  · by_cases er : r = 4
    · subst er; rw [e4] at b2; omega
    · rw [en r er] at b2
      rw [(e _ _ (by omega)).1]
      exact (h1 r hr).2 k c b1 b2 b3
  · rw [(e _ _ (by omega)).1]; exact h4
  · rw [(e _ _ (by omega)).1]; exact h5
  · rw [(e _ _ (by omega)).1]; exact h6
theorem z4_ca (a : Wd) : CA a (z4 a) := ⟨fun r hr => if_neg hr, fun _ _ _ _ => rfl, rfl, rfl⟩
theorem z4_ok (a : Wd) : OkC (z4 a) ∧ (z4 a).n 4 ≤ 2 * 0 := by
  have e4 : (z4 a).n 4 = 0 := rfl
  exact ⟨⟨by rw [e4]; omega, fun c c0 c1 => by rw [e4] at c1; omega⟩, by rw [e4]; omega⟩
theorem xs_left {Q : Int32 → PH → Prop} {o law : Int} (I : IX h w s) (ho : i32 o) (hl : i32 law) (hq : ∀ g, IX g w s → KpX h g → Q (z (a_left s.a o law)) g) : w_X9_left (z o) (z law) h Q := by
  obtain ⟨p1, p2, p3⟩ := I.1.p
  have n1 := I.1.1
  have n3 := I.1.2.2.1
  have n4 := I.1.2.2.2.1
  have hw := I.w
  have h6 := n4.1.1
  have n8 := n4.2.2.2.2.2.2.2.2.1
  have OC1 := n4.2.2.1.1
  have ln := n4.2.2.2.2.2.2.2.2.2.2.2.2.2.2.2.2.2.2
  have hl1 := hl.1
  have hl2 := hl.2
  have ref : ¬ ((0 ≤ o ∧ o < s.a.n 2) ∧ (0 ≤ law ∧ law ≤ 2)) → Q (-1) h := fun c => by
    have e : a_left s.a o law = -1 := if_neg c
    rw [e] at hq
    exact hq h I (KpX.rf h)
  unfold w_X9_left
  rw [p3]
  refine ⟨p1, oX_w n1, ?_⟩
  refine x_has (n3.rw 2 (by decide)) rfl ho.1 ho.2 (fun c1 c2 => ?_) (fun c1 => ?_)
  · rw [if_neg (by decide), zn_0]
    by_cases c3 : law < 0
    · rw [if_pos (by rw [z_lt (by omega) (by omega) (by omega) (by omega)]; omega)]; exact ref (by omega)
    · rw [if_neg (by rw [z_lt (by omega) (by omega) (by omega) (by omega)]; omega), zn_2]
      by_cases c4 : law ≤ 2
      · rw [if_pos (by rw [z_le (by omega) (by omega) (by omega) (by omega)]; omega), p3]
        have ea : a_left s.a o law = lngN (hpN s.a o law (s.a.n 4).toNat) (far s.a (-1)) (s.a.n 0).toNat := if_pos ⟨⟨c1, c2⟩, by omega, c4⟩
        rw [ea] at hq
        refine ⟨p1, oX_w n1, ?_⟩
        refine x_copyW n3 I.2.2.1 (by unfold isW; omega) (by unfold isW; omega) (by omega) (by omega) (by omega) (fun g1 f1 W1 _ => ?_)
        unfold w_X6_clear
        rintro _ rfl
        have f2 : ∀ c k, ¬ (77 ≤ c ∧ c < 77 + 23) → At h (sI g1 86 3 0) c k := fun c k hc => (f1 c k hc).sI (by omega)
        have W2 : WX (sI g1 86 3 0) 77 (z4 s.a) := W1.clr4
        generalize sI g1 86 3 0 = g2 at *
        refine for10 (s.a.n 4) (fun c g => (∀ c k, ¬ (77 ≤ c ∧ c < 77 + 23) → At h g c k) ∧ WX g 77 (hpN s.a o law c.toNat) ∧ CA s.a (hpN s.a o law c.toNat) ∧ OkC (hpN s.a o law c.toNat) ∧ (hpN s.a o law c.toNat).n 4 ≤ 2 * c) 0 rfl (by omega) (by omega) (by omega) ⟨f2, W2, z4_ca _, z4_ok _⟩ ?_ ?_
        · rintro kb c g i0 i1 ⟨hf, hT, hCA, hO, hn⟩ hk
          have eg : gP g 0 3 = w + 1 := by rw [(hf 0 3 (by omega)).2.2]; exact I.1.2.1
          have Hg : WX g w s.a := n3.at' (fun c k b1 b2 b3 b4 b5 b6 => hf c k (by omega))
          have hok := hp_ok (law := law) n4 ⟨c1, c2⟩ ⟨i0, i1⟩ hCA hO hn
          have hca := hp_ca (o := o) (law := law) (c := c) hCA
          rw [hpN_s i0] at hk
          generalize hpN s.a o law c.toNat = b at *
          unfold w_X9_left_48
          rw [eg, show w + 1 - 1 = w by omega, show gI g (w + 9) 3 = z (s.a.n 4) from (Hg.n0 4 (by decide)).1]
          refine ⟨by omega, oX_w n1, ?_⟩
          rw [if_neg (by rw [z_le (by omega) (by omega) (by omega) (by omega)]; omega), z_inc]
          exact x_inherit Hg hT n4 hw eg ⟨c1, c2⟩ ⟨by omega, c4⟩ ⟨i0, i1⟩ ⟨hO.1.1, hn⟩ (fun g' f' W' => hk g' ⟨fun c k hc => (hf c k hc).tr (f' c k (by omega)), W', hca, hok.1, hok.2⟩)
        · rintro kb g ⟨hf, hT, hCA, hO, hn⟩
          have eg : gP g 0 3 = w + 1 := by rw [(hf 0 3 (by omega)).2.2]; exact I.1.2.1
          have Hg : WX g w s.a := n3.at' (fun c k b1 b2 b3 b4 b5 b6 => hf c k (by omega))
          generalize hpN s.a o law (s.a.n 4).toNat = b at *
          unfold w_X9_left_48
          rw [eg, show w + 1 - 1 = w by omega, show gI g (w + 9) 3 = z (s.a.n 4) from (Hg.n0 4 (by decide)).1]
          refine ⟨by omega, oX_w n1, ?_⟩
          rw [if_pos (by rw [z_le (by omega) (by omega) (by omega) (by omega)]; omega)]
          have ON := ca_okN hCA n4.2.1
          have OL := ca_okL hCA n4.1
          refine x_measureTrial (g := -1) hT OL ON (ca_okX hCA n4.okx) hO (by rw [hCA.2.2.1]; exact n4.2.2.2.2.1) rfl (by omega) (fun g3 f3 W3 A3 => ?_)
          rw [ca_far hCA] at A3
          refine x_longest W3 A3 ON hO OL.1 ?_
          rw [hCA.1 0 (by decide)]
          have ff : ∀ c k, ¬ scrX w c k → At h g3 c k := fun c k hc => (hf c k (by unfold scrX at hc; omega)).tr (f3 c k (by unfold scrX at hc; omega))
          have N3 : NX g3 w (mkd (fl h) s.a) := I.gh.at' (fun k => (hf 0 k (by omega)).tr (f3 0 k (by omega))) (fun c k b1 b2 b3 => (hf c k (by omega)).tr (f3 c k (by omega))) (fun c k b1 b2 => (hf c k (by omega)).tr (f3 c k (by omega)))
          have r := I.fin N3 W3.ws ff
          exact hq g3 r.1 r.2
      · rw [if_neg (by rw [z_le (by omega) (by omega) (by omega) (by omega)]; omega)]; exact ref (by omega)
  · rw [if_pos rfl]
    exact ref (fun x => c1 x.1)
end LEFTY
