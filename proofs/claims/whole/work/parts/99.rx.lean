section LEFTM
variable {h : PH} {s : St} {b a : Wd} {F : Int → Int → Int}
theorem m_holds {x p f t : Int} {Q : PH → Prop} (H : HM h b) (hn : 0 ≤ b.n 4 ∧ b.n 4 < 16) (hf : i32 f) (ht : i32 t) (hT : f ≤ t → ∀ g, (∀ c k, ¬ ((52 ≤ c ∧ c ≤ 55) ∨ (c = 0 ∧ k = 70)) → At h g c k) → HM g (adR b 4 (cl4 x p f t)) → Q g) (hF : ¬ f ≤ t → Q h) : w_X10_holds (z x) (z p) (z f) (z t) h Q := by
  have hf1 := hf.1
  have hf2 := hf.2
  have ht1 := ht.1
  have ht2 := ht.2
  unfold w_X10_holds
  by_cases c : f ≤ t
  · rw [if_pos (by rw [z_le (by omega) (by omega) (by omega) (by omega)]; omega), H.1, z_iN (a := b.n 4) (by omega) (by omega)]
    refine ⟨z_in (by omega) (by omega) (by omega), ?_⟩
    rintro _ rfl
    rw [gI_out (by omega), H.1, z_iN (a := b.n 4) (by omega) (by omega)]
    refine ⟨z_in (by omega) (by omega) (by omega), ?_⟩
    rintro _ rfl
    rw [gI_out (by omega), gI_out (by omega), H.1, z_iN (a := b.n 4) (by omega) (by omega)]
    refine ⟨z_in (by omega) (by omega) (by omega), ?_⟩
    rintro _ rfl
    rw [gI_out (by omega), gI_out (by omega), gI_out (by omega), H.1, z_iN (a := b.n 4) (by omega) (by omega)]
    refine ⟨z_in (by omega) (by omega) (by omega), ?_⟩
    rintro _ rfl _ rfl
    rw [gI_out (by omega), gI_out (by omega), gI_out (by omega), gI_out (by omega), H.1, z_inc]
    refine hT c _ (fun c k hc => (((((At.rf h c k).sI (by omega)).sI (by omega)).sI (by omega)).sI (by omega)).sI (by omega)) ⟨by rw [adR_n]; exact gI_in rfl rfl, fun k k0 k1 => ?_⟩
    rw [adR_n] at k1
    by_cases e : k = b.n 4
    · subst e
      rw [adR_in, adR_in, adR_in, adR_in]
      refine ⟨?_, ?_, ?_, ?_⟩
      · rw [gI_out (by omega), gI_out (by omega), gI_out (by omega), gI_out (by omega), gI_in rfl rfl]; rfl
      · rw [gI_out (by omega), gI_out (by omega), gI_out (by omega), gI_in rfl rfl]; rfl
      · rw [gI_out (by omega), gI_out (by omega), gI_in rfl rfl]; rfl
      · rw [gI_out (by omega), gI_in rfl rfl]; rfl
    · rw [adR_out (by omega), adR_out (by omega), adR_out (by omega), adR_out (by omega)]
      obtain ⟨q1, q2, q3, q4⟩ := H.2 k k0 (by omega)
      refine ⟨?_, ?_, ?_, ?_⟩ <;> (repeat rw [gI_out (by omega)]) <;> assumption
  · rw [if_neg (by rw [z_le (by omega) (by omega) (by omega) (by omega)]; omega)]
    exact hF c
theorem m_layHeirs {o law : Int} {Q : PH → Prop} (M : MT h a) (D : MD h 0 a) (N : Now a) (ho : 0 ≤ o ∧ o < a.n 2) (hl : 0 ≤ law ∧ law ≤ 2) (hq : ∀ g, (∀ c k, ¬ ((52 ≤ c ∧ c ≤ 55) ∨ (c = 0 ∧ k = 70)) → At h g c k) → HM g (hpN a o law (a.n 4).toNat) → CA a (hpN a o law (a.n 4).toNat) → OkC (hpN a o law (a.n 4).toNat) → Q g) : w_X10_layHeirs (z o) (z law) h Q := by
  have n8 := N.2.2.2.2.2.2.2.2.1
  have n10 := N.2.2.2.2.2.2.2.2.2.2.1
  have OC1 := N.2.2.1.1
  have hh := heir_rg N ho
  have e9 : ∀ k, 0 ≤ k → k < a.n 2 → gI h 9 k.toNat = z (a.f 2 2 k + 1) := fun k k0 k1 => (M.2.2.2.1 k k0 k1).2
  have e46 : ∀ v : Int, (a.f 2 2 o = -1 → v = -1) → (a.f 2 2 o ≠ -1 → v = two a o) → w_X10_layHeirs_46 Q (z o) (z law) (z (a.f 2 2 o)) (z v) h := by
    intro v hv1 hv2
    unfold w_X10_layHeirs_46
    rintro _ rfl
    have f0 : ∀ c k, ¬ ((52 ≤ c ∧ c ≤ 55) ∨ (c = 0 ∧ k = 70)) → At h (sI h 0 70 0) c k := fun c k hc => (At.rf h c k).sI (by omega)
    have H0 : HM (sI h 0 70 0) (z4 a) := ⟨gI_in rfl rfl, fun c c0 c1 => by have : (z4 a).n 4 = 0 := rfl; omega⟩
    generalize sI h 0 70 0 = h1 at *
    refine for10 (a.n 4) (fun c g => (∀ c k, ¬ ((52 ≤ c ∧ c ≤ 55) ∨ (c = 0 ∧ k = 70)) → At h g c k) ∧ HM g (hpN a o law c.toNat) ∧ CA a (hpN a o law c.toNat) ∧ OkC (hpN a o law c.toNat) ∧ (hpN a o law c.toNat).n 4 ≤ 2 * c) 0 rfl (by omega) (by omega) (by omega) ⟨f0, H0, z4_ca _, z4_ok _⟩ ?_ ?_
    · rintro kb c g i0 i1 ⟨hf, hT, hCA, hO, hn⟩ hk
      have n9 := N.2.2.2.2.2.2.2.2.2.1 c i0 i1
      have hOc := N.2.2.1.2 c i0 i1
      have hcut := cut_rg N ⟨i0, i1⟩
      have hok := hp_ok (law := law) N ho ⟨i0, i1⟩ hCA hO hn
      have hca := hp_ca (o := o) (law := law) (c := c) hCA
      rw [hpN_s i0] at hk
      generalize hpN a o law c.toNat = b at *
      have hO1 := hO.1
      have m4 := M.2.2.2.2.1 c i0 i1
      have e24 : gI g 2 4 = z (a.n 4) := by rw [(hf 2 4 (by omega)).1]; exact M.1.2.2.2.1
      have e41 : gI g 41 c.toNat = z (a.f 4 0 c) := by
        have := D.2.2.2.1 c i0 i1
        rw [show (8 * 0 + c) = c by omega] at this
        rw [(hf 41 _ (by omega)).1]; exact this
      have e16 : ∀ g', (∀ c k, ¬ ((52 ≤ c ∧ c ≤ 55) ∨ (c = 0 ∧ k = 70)) → At h g' c k) → gI g' 16 c.toNat = z (a.f 4 1 c) ∧ gI g' 17 c.toNat = z (a.f 4 2 c) ∧ gI g' 18 c.toNat = z (a.f 4 3 c) := fun g' f' => by rw [(f' 16 _ (by omega)).1, (f' 17 _ (by omega)).1, (f' 18 _ (by omega)).1]; exact m4
      obtain ⟨q16, q17, q18⟩ := e16 g hf
      have go : ∀ g', (∀ c k, ¬ ((52 ≤ c ∧ c ≤ 55) ∨ (c = 0 ∧ k = 70)) → At h g' c k) → HM g' (hp a o law c b) → kb (z c + 1) g' := fun g' f' H' => by
        rw [z_inc]
        exact hk g' ⟨f', H', hca, hok.1, hok.2⟩
      unfold w_X10_layHeirs_56
      rw [iN_4, e24, if_neg (by rw [z_le (by omega) (by omega) (by omega) (by omega)]; omega), z_iN (a := c) (by omega) (by omega), e41]
      refine ⟨z_in (by omega) (by omega) (by omega), ?_⟩
      by_cases c0 : a.f 4 0 c = o
      · rw [if_pos (congrArg z c0)]
        have n151 : ¬ (law = 0 ∧ a.f 2 2 o ≠ -1) → w_X10_layHeirs_151 Q kb (z o) (z law) (z (a.f 2 2 o)) (z v) (z c) g := by
          intro d0
          unfold w_X10_layHeirs_151
          by_cases d1 : law = 1
          · rw [if_pos (show z law = 1 by rw [d1]; rfl)]
            by_cases d2 : a.f 2 2 o = -1
            · rw [if_pos (show z (a.f 2 2 o) = -1 by rw [d2]; rfl)]
              have e : hp a o law c b = b := by unfold hp; rw [if_neg (fun x => x c0), if_neg d0, if_neg (fun x => x.2 d2)]
              exact go g hf (by rw [e]; exact hT)
            · rw [if_neg (show ¬ z (a.f 2 2 o) = -1 from z_ne (by omega) (by omega) (by decide) (by decide) d2), z_iN (a := c) (by omega) (by omega), q16, q17, q18]
              have h2 := hh.2.2 d2
              have ev := hv2 d2
              subst ev
              have e : hp a o law c b = adR (if a.f 4 2 c < cut a c then adR b 4 (cl4 (a.f 2 2 o) (a.f 4 1 c) (a.f 4 2 c) (cut a c - 1)) else b) 4 (cl4 (two a o) (a.f 4 1 c) (cut a c) (a.f 4 3 c)) := by unfold hp; rw [if_neg (fun x => x c0), if_neg d0, if_pos ⟨d1, d2⟩]
              rw [e] at go
              have ec : a.f 4 2 c + (a.f 4 3 c - a.f 4 2 c + 1) / 2 = cut a c := rfl
              refine ⟨z_in (by omega) (by omega) (by omega), z_in (by omega) (by omega) (by omega), ?_⟩
              rintro _ rfl
              refine ⟨z_in (by omega) (by omega) (by omega), z_in (by omega) (by omega) (by omega), z_in (by omega) (by omega) (by omega), ?_⟩
              rw [z_sub, z_inc, zn_2, z_div (by omega) (by omega) (by omega) (by omega), z_add, ec, zn_1, z_sub]
              have snd : ∀ (b' : Wd) (g' : PH), (∀ c k, ¬ ((52 ≤ c ∧ c ≤ 55) ∨ (c = 0 ∧ k = 70)) → At h g' c k) → HM g' b' → (0 ≤ b'.n 4 ∧ b'.n 4 < 16) → (∀ g', (∀ c k, ¬ ((52 ≤ c ∧ c ≤ 55) ∨ (c = 0 ∧ k = 70)) → At h g' c k) → HM g' (adR b' 4 (cl4 (two a o) (a.f 4 1 c) (cut a c) (a.f 4 3 c))) → kb (z c + 1) g') → vp_in (z c) 16 ∧ vp_in (z c) 16 ∧ vp_in (z c) 16 ∧ w_X10_holds (z (two a o)) (gI g' 16 c.toNat) (gI g' 17 c.toNat + z ((a.f 4 3 c - a.f 4 2 c + 1) / 2)) (gI g' 18 c.toNat) g' (fun h16 => kb (z c + 1) h16) := by
                intro b' g' f' H' hb' go'
                obtain ⟨r16, r17, r18⟩ := e16 g' f'
                rw [r16, r17, r18, z_add, ec]
                refine ⟨z_in (by omega) (by omega) (by omega), z_in (by omega) (by omega) (by omega), z_in (by omega) (by omega) (by omega), ?_⟩
                refine m_holds H' hb' ⟨by omega, by omega⟩ ⟨by omega, by omega⟩ (fun _ g2 f2 H2 => go' g2 (fun c k hc => (f' c k hc).tr (f2 c k hc)) H2) (fun x => by omega)
              refine m_holds hT (by omega) ⟨by omega, by omega⟩ ⟨by omega, by omega⟩ (fun d3 g2 f2 H2 => ?_) (fun d3 => ?_)
              · rw [if_pos (by omega)] at go
                exact snd _ g2 (fun c k hc => (hf c k hc).tr (f2 c k hc)) H2 (by rw [adR_n]; omega) go
              · rw [if_neg (by omega)] at go
                exact snd _ g hf hT (by omega) go
          · rw [if_neg (show ¬ z law = 1 from z_ne (by omega) (by omega) (by decide) (by decide) d1)]
            have e : hp a o law c b = b := by unfold hp; rw [if_neg (fun x => x c0), if_neg d0, if_neg (fun x => d1 x.1)]
            exact go g hf (by rw [e]; exact hT)
        by_cases d0 : law = 0
        · rw [if_pos (show z law = 0 by rw [d0]; rfl)]
          by_cases d2 : a.f 2 2 o = -1
          · rw [if_pos (show z (a.f 2 2 o) = -1 by rw [d2]; rfl)]
            exact n151 (fun x => x.2 d2)
          · rw [if_neg (show ¬ z (a.f 2 2 o) = -1 from z_ne (by omega) (by omega) (by decide) (by decide) d2), q16, q17, q18]
            have e : hp a o law c b = adR b 4 (cl4 (a.f 2 2 o) (a.f 4 1 c) (a.f 4 2 c) (a.f 4 3 c)) := by unfold hp; rw [if_neg (fun x => x c0), if_pos ⟨d0, d2⟩]
            rw [e] at go
            refine ⟨z_in (by omega) (by omega) (by omega), z_in (by omega) (by omega) (by omega), z_in (by omega) (by omega) (by omega), ?_⟩
            exact m_holds hT (by omega) ⟨by omega, by omega⟩ ⟨by omega, by omega⟩ (fun _ g2 f2 H2 => go g2 (fun c k hc => (hf c k hc).tr (f2 c k hc)) H2) (fun x => by omega)
        · rw [if_neg (show ¬ z law = 0 from z_ne (by omega) (by omega) (by decide) (by decide) d0)]
          exact n151 (fun x => d0 x.1)
      · rw [if_neg (z_ne (by omega) (by omega) (by omega) (by omega) c0), q16, q17, q18]
        have e : hp a o law c b = adR b 4 (cl4 (a.f 4 0 c) (a.f 4 1 c) (a.f 4 2 c) (a.f 4 3 c)) := by unfold hp; rw [if_pos c0]
        rw [e] at go
        refine ⟨z_in (by omega) (by omega) (by omega), z_in (by omega) (by omega) (by omega), z_in (by omega) (by omega) (by omega), z_in (by omega) (by omega) (by omega), ?_⟩
        exact m_holds hT (by omega) ⟨by omega, by omega⟩ ⟨by omega, by omega⟩ (fun _ g2 f2 H2 => go g2 (fun c k hc => (hf c k hc).tr (f2 c k hc)) H2) (fun x => by omega)
    · rintro kb g ⟨hf, hT, hCA, hO, hn⟩
      unfold w_X10_layHeirs_56
      rw [iN_4, show gI g 2 4 = z (a.n 4) by rw [(hf 2 4 (by omega)).1]; exact M.1.2.2.2.1, if_pos (by rw [z_le (by omega) (by omega) (by omega) (by omega)]; omega)]
      exact hq g hf hT hCA hO
  unfold w_X10_layHeirs
  rw [z_iN (a := o) (by omega) (by omega), e9 o ho.1 ho.2, zn_1, z_sub, show a.f 2 2 o + 1 - 1 = a.f 2 2 o by omega]
  refine ⟨z_in (by omega) (by omega) (by omega), ?_⟩
  rintro _ rfl
  by_cases d2 : a.f 2 2 o = -1
  · rw [if_pos (show z (a.f 2 2 o) = -z 1 by rw [d2]; rfl)]
    unfold w_X10_layHeirs_26 w_X10_layHeirs_40
    rw [if_pos (show -z 1 = -1 from rfl)]
    exact e46 (a.f 2 2 o) (fun x => x) (fun x => absurd d2 x)
  · rw [if_neg (show ¬ z (a.f 2 2 o) = -z 1 from z_ne (by omega) (by omega) (by decide) (by decide) d2), z_iN (a := a.f 2 2 o) (by omega) (by omega), e9 _ (by omega) hh.2.1, z_sub, show a.f 2 2 (a.f 2 2 o) + 1 - 1 = a.f 2 2 (a.f 2 2 o) by omega]
    refine ⟨z_in (by omega) (by omega) (by omega), ?_⟩
    have h2 := hh.2.2 d2
    unfold w_X10_layHeirs_26 w_X10_layHeirs_40
    by_cases t1 : a.f 2 2 (a.f 2 2 o) = -1
    · rw [if_pos (show z (a.f 2 2 (a.f 2 2 o)) = -1 by rw [t1]; rfl)]
      exact e46 (a.f 2 2 o) (fun x => x) (fun _ => (if_pos (Or.inl t1)).symm)
    · rw [if_neg (show ¬ z (a.f 2 2 (a.f 2 2 o)) = -1 from z_ne (by omega) (by omega) (by decide) (by decide) t1)]
      by_cases t2 : a.f 2 2 (a.f 2 2 o) = o
      · rw [if_pos (congrArg z t2)]
        exact e46 (a.f 2 2 o) (fun x => x) (fun _ => (if_pos (Or.inr t2)).symm)
      · rw [if_neg (z_ne (by omega) (by omega) (by omega) (by omega) t2)]
        exact e46 _ (fun x => absurd x d2) (fun _ => (if_neg (fun x => by rcases x with x | x; exact t1 x; exact t2 x)).symm)
theorem m_longest {Q : Int32 → PH → Prop} (e20 : gI h 2 0 = z (b.n 0)) (W : WM h b F) (ON : OkN b) (OC : OkC b) (h6 : 0 ≤ b.n 0 ∧ b.n 0 ≤ 6) (hq : Q (z (lngN b F (b.n 0).toNat)) h) (x1 x2 : Int32) : ∃ n, Lp2 (w_X10_left_43 (fun y14 h13 => Q y14 h13) Q) n (z 0) (z 0) h := by
  refine for21 (b.n 0) (fun p x g => h = g ∧ x = z (lngN b F p.toNat)) 0 rfl (by omega) (by omega) (by omega) ⟨rfl, rfl⟩ ?_ ?_
  · rintro kb p _ _ p0 p1 ⟨rfl, rfl⟩ hk
    unfold w_X10_left_43
    rw [iN_0, e20, if_neg (by rw [z_le (by omega) (by omega) (by omega) (by omega)]; omega), z_inc]
    have el : lngN b F (p + 1).toNat = mxN b F p 48 (lngN b F p.toNat) := by
      rw [show (p + 1).toNat = p.toNat + 1 by omega]
      show mxN b F ((p.toNat : Nat) : Int) 48 _ = _
      rw [show ((p.toNat : Nat) : Int) = p by omega]
    rw [el] at hk
    have lr := lng_rg b F p.toNat
    generalize lngN b F p.toNat = x0 at *
    refine for32 48 (fun m x r g => h = g ∧ x = z (mxN b F p m.toNat x0) ∧ r = z (rlN b F p m.toNat)) 0 rfl (by omega) (by omega) (by omega) ⟨rfl, rfl, rfl⟩ ?_ ?_
    · rintro kb2 m _ _ _ m0 m1 ⟨rfl, rfl, rfl⟩ hk2
      have bw := whs_rg ON OC F p m
      have bw' := whs_rg ON OC F p (m - 1)
      have rr := rl_rg b F p m.toNat
      have mr := mx_rg (b := b) (F := F) (p := p) lr m.toNat (by omega)
      unfold w_X10_left_60
      rw [zn_48, if_neg (by rw [z_le (by omega) (by omega) (by omega) (by omega)]; omega), z_mul, z_add, z_iN (a := 48 * p + m) (by omega) (by omega), W p m p0 p1 m0 m1]
      refine ⟨z_in (by omega) (by omega) (by omega), ?_⟩
      rintro _ rfl
      have fin : ∀ v : Int, v = rlN b F p (m + 1).toNat → (0 ≤ v ∧ v ≤ 48) → w_X10_left_124 Q kb2 (z (mxN b F p m.toNat x0)) (z p) (z m) (z v) h := by
        intro v ev hv
        unfold w_X10_left_124
        rintro _ rfl
        rw [z_mxI (by omega) (by omega) (by omega) (by omega), z_inc]
        exact hk2 _ _ _ ⟨rfl, by rw [mx_s m0, ev], by rw [ev]⟩
      have es := rl_s (b := b) (F := F) (p := p) m0
      rw [zn_0]
      by_cases c0 : whs b F p m < 0
      · rw [if_neg (by rw [z_le (by omega) (by omega) (by omega) (by omega)]; omega)]
        rw [if_pos c0] at es
        exact fin 0 es.symm (by omega)
      · rw [if_pos (by rw [z_le (by omega) (by omega) (by omega) (by omega)]; omega)]
        rw [if_neg c0] at es
        by_cases c1 : m ≤ 0
        · rw [if_pos (by rw [z_le (by omega) (by omega) (by omega) (by omega)]; omega)]
          rw [if_neg (by omega)] at es
          unfold w_X10_left_123
          exact fin 1 es.symm (by omega)
        · rw [if_neg (by rw [z_le (by omega) (by omega) (by omega) (by omega)]; omega), zn_1, z_sub, z_iN (a := 48 * p + m - 1) (by omega) (by omega), show 48 * p + m - 1 = 48 * p + (m - 1) by omega, W p (m - 1) p0 p1 (by omega) (by omega)]
          refine ⟨z_in (by omega) (by omega) (by omega), ?_⟩
          by_cases c2 : whs b F p (m - 1) = whs b F p m
          · rw [if_pos (congrArg z c2), z_add]
            rw [if_pos ⟨by omega, c2⟩] at es
            exact fin _ es.symm (by omega)
          · rw [if_neg (z_ne (by omega) (by omega) (by omega) (by omega) c2)]
            rw [if_neg (fun x => c2 x.2)] at es
            unfold w_X10_left_123
            exact fin 1 es.symm (by omega)
    · rintro kb2 _ _ _ ⟨rfl, rfl, rfl⟩
      unfold w_X10_left_60
      rw [zn_48, if_pos (by rw [z_le (by omega) (by omega) (by omega) (by omega)]; omega)]
      exact hk _ _ ⟨rfl, rfl⟩
  · rintro kb _ _ ⟨rfl, rfl⟩
    unfold w_X10_left_43
    rw [iN_0, e20, if_pos (by rw [z_le (by omega) (by omega) (by omega) (by omega)]; omega)]
    exact hq
theorem ms_left {Q : Int32 → PH → Prop} {o law : Int} (J : IM h s) (ho : i32 o) (hl : i32 law) (hq : ∀ g, IM g s → Q (z (a_left s.a o law)) g) : w_X10_left (z o) (z law) h Q := by
  unfold w_X10_left
  rintro _ rfl
  have J1 := J.fr (fr0 h 0)
  generalize sI h 0 0 0 = h1 at J1
  have n4 := J1.1.2.2
  have h6 := n4.1.1
  have hl1 := hl.1
  have hl2 := hl.2
  have ref : ¬ ((0 ≤ o ∧ o < s.a.n 2) ∧ (0 ≤ law ∧ law ≤ 2)) → Q (-1) h1 := fun c => by
    have e : a_left s.a o law = -1 := if_neg c
    rw [e] at hq
    exact hq h1 J1
  refine m_isOwner J1.1 ho (fun c1 c2 => ?_) (fun c1 => ?_)
  · rw [if_neg (by decide), zn_0]
    by_cases c3 : law < 0
    · rw [if_pos (by rw [z_lt (by omega) (by omega) (by omega) (by omega)]; omega)]; exact ref (by omega)
    · rw [if_neg (by rw [z_lt (by omega) (by omega) (by omega) (by omega)]; omega), zn_2]
      by_cases c4 : law ≤ 2
      · rw [if_pos (by rw [z_le (by omega) (by omega) (by omega) (by omega)]; omega)]
        have ea : a_left s.a o law = lngN (hpN s.a o law (s.a.n 4).toNat) (far s.a (-1)) (s.a.n 0).toNat := if_pos ⟨⟨c1, c2⟩, by omega, c4⟩
        rw [ea] at hq
        refine m_layDay J1.1.1 J1.1.2.1 n4 (fun g f Dy => ?_)
        obtain ⟨dM, dD, dN, dF, dS, dH, dW⟩ := Dy
        refine m_layHeirs (law := law) dM dD n4 ⟨c1, c2⟩ ⟨by omega, c4⟩ (fun g2 f2 H2 CA2 OC2 => ?_)
        generalize hpN s.a o law (s.a.n 4).toNat = b at *
        have e0 : b.n 0 = s.a.n 0 := CA2.1 0 (by decide)
        have ON := ca_okN CA2 n4.2.1
        have S2 : FS g2 b (far s.a (-1)) := fun p m p0 p1 m0 m1 => by
          rw [(f2 51 _ (by omega)).1, ca_fst CA2]
          exact dS p m p0 (by omega) m0 m1
        have N2 : NM g2 b := ca_NM CA2 (dN.at' (f2 0 62 (by omega)) (fun c k b1 b2 => f2 c k (by omega)))
        refine m_whose (by rw [e0, (f2 2 0 (by omega)).1]; exact dM.1.1) S2 N2 H2 ON OC2 (by omega) (fun g3 f3 W3 => ?_)
        refine m_longest (b := b) (by rw [e0, (f3 2 0 (by omega)).1, (f2 2 0 (by omega)).1]; exact dM.1.1) W3 ON OC2 (by omega) ?_ 0 0
        rw [e0]
        exact hq g3 (J1.fr (fun c k hc => ((f c k (by unfold scrM at hc; unfold dayR; omega)).tr (f2 c k (by unfold scrM at hc; omega))).tr (f3 c k (by unfold scrM at hc; omega))))
      · rw [if_neg (by rw [z_le (by omega) (by omega) (by omega) (by omega)]; omega)]; exact ref (by omega)
  · rw [if_pos rfl]
    exact ref (fun x => c1 x.1)
end LEFTM
