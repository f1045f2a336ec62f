section THY
variable {h : PH} {w : Nat} {s : St}
theorem x_sort {Q : Int32 → PH → Prop} (I : IX h w s) (A : AirX h 100 s.a (far s.a (-1))) (hF : ∀ g, (∀ c k, ¬ thR w c k → At h g c k) → (∃ k, (0 ≤ k ∧ k < knm s) ∧ stk1 s k = false ∧ s.nt 0 k = 0 ∧ fst s.a (far s.a (-1)) (s.nt 1 k) (s.nt 2 k) ≠ -1) → Q 0 g) (hT : ∀ g, (∀ c k, ¬ thR w c k → At h g c k) → (∀ k, 0 ≤ k → k < knm s → stk1 s k = false → s.nt 0 k = 0 → fst s.a (far s.a (-1)) (s.nt 1 k) (s.nt 2 k) = -1) → NdX g s (knm s) → Q 1 g) : w_X2_sortNotes 100 h Q := by
  have N := I.2.2.2.2.2.1
  have n4 := I.1.2.2.2.1
  have h6 := n4.1.1
  have hw := I.w
  have O := I.ok.2.2.2.2.2.1
  have kr := knm_rg O
  have ntx : ∀ g, (∀ c k, ¬ thR w c k → At h g c k) → NtX g s := fun g hf => ⟨N.1.at' (fun k => hf 130 k (by unfold thR; omega)), fun k k0 k1 c hc => by rw [(hf 131 _ (by unfold thR; omega)).1]; exact N.2.1 k k0 k1 c hc, by rw [(hf 129 4 (by unfold thR; omega)).1]; exact N.2.2⟩
  unfold w_X2_sortNotes
  refine for10 48 (fun i g => (∀ c k, ¬ thR w c k → At h g c k) ∧ ∀ m : Int, 0 ≤ m → m < i → gI g 133 m.toNat = z 0 ∧ gI g 134 m.toNat = z 0) 0 rfl (by omega) (by omega) (by omega) ⟨fun c k _ => At.rf h c k, fun t t0 t1 => by omega⟩ ?_ ?_
  · rintro kb i g i0 i1 ⟨hf, hJ⟩ hk
    unfold w_X2_sortNotes_2
    rw [zn_48, if_neg (by rw [z_le (by omega) (by omega) (by omega) (by omega)]; omega), z_iN (by omega) (by omega), z_inc]
    refine ⟨z_in (by omega) (by omega) (by omega), ?_⟩
    rintro _ rfl
    refine ⟨z_in (by omega) (by omega) (by omega), ?_⟩
    rintro _ rfl
    refine hk _ ⟨fun c k hc => ((hf c k hc).sI (by unfold thR at hc; omega)).sI (by unfold thR at hc; omega), fun m m0 m1 => ?_⟩
    by_cases e : m = i
    · rw [e, gI_out (by omega), gI_in rfl rfl, gI_in rfl rfl]; exact ⟨rfl, rfl⟩
    · rw [gI_out (by omega), gI_out (by omega), gI_out (by omega), gI_out (by omega)]; exact hJ m m0 (by omega)
  · rintro kb g ⟨hf, hJ⟩
    unfold w_X2_sortNotes_2
    rw [zn_48, if_pos (by rw [z_le (by omega) (by omega) (by omega) (by omega)]; omega)]
    refine x_mark (ntx g hf) O (fun g2 f2 M2 => ?_)
    have hf2 : ∀ c k, ¬ thR w c k → At h g2 c k := fun c k hc => (hf c k hc).tr (f2 c k (by unfold thR at hc; omega))
    have e0 : ∀ m : Int, 0 ≤ m → m < 48 → gI g2 133 m.toNat = z 0 ∧ gI g2 134 m.toNat = z 0 := fun m m0 m1 => by rw [(f2 133 _ (by omega)).1, (f2 134 _ (by omega)).1]; exact hJ m m0 m1
    refine for10 (knm s) (fun i g' => (∀ c k, ¬ thR w c k → At h g' c k) ∧ (∀ t : Int, 0 ≤ t → t < 24 → gI g' 132 t.toNat = z (bI (stk1 s t))) ∧ (∀ k, 0 ≤ k → k < i → stk1 s k = false → s.nt 0 k = 0 → fst s.a (far s.a (-1)) (s.nt 1 k) (s.nt 2 k) = -1) ∧ NdX g' s i) 0 rfl (by omega) (by omega) (by omega) ⟨hf2, M2, fun k k0 k1 => by omega, fun m m0 m1 l hl => ?_⟩ ?_ ?_
    · rw [(e0 m m0 m1).1, (e0 m m0 m1).2, bt_z0 l hl]
      exact ⟨⟨fun x => absurd x (by decide), fun ⟨k, x, _⟩ => by omega⟩, ⟨fun x => absurd x (by decide), fun ⟨k, x, _⟩ => by omega⟩⟩
    · clear hf hJ hf2 M2 f2 e0 g g2
      rintro kb i g i0 i1 ⟨hf, hM, hS, hN⟩ hk
      have Ng := ntx g hf
      obtain ⟨R, V, _⟩ := id Ng
      have q0 : gI g 131 (i * 3 + 0).toNat = z (s.nt 0 i) := V i i0 (by omega) 0 (by decide)
      have q1 : gI g 131 (i * 3 + 1).toNat = z (s.nt 1 i) := V i i0 (by omega) 1 (by decide)
      have q2 : gI g 131 (i * 3 + 2).toNat = z (s.nt 2 i) := V i i0 (by omega) 2 (by decide)
      have on := O.2.2 i i0 (by omega)
      have A' : AirX g 100 s.a (far s.a (-1)) := A.at' (fun c k b1 b2 => hf c k (by unfold thR; omega))
      have skip : (stk1 s i = true ∨ s.nt 0 i = 2) → kb (z (i + 1)) g := by
        intro hs
        refine hk g ⟨hf, hM, fun k k0 k1 c1 c2 => ?_, fun m m0 m1 l hl => ?_⟩
        · by_cases e : k = i
          · subst e
            rcases hs with x | x
            · rw [x] at c1; exact absurd c1 (by decide)
            · omega
          · exact hS k k0 (by omega) c1 c2
        · have hh := hN m m0 m1 l hl
          rw [hh.1, hh.2]
          have a1 : ∀ k, ((0 ≤ k ∧ k < i + 1) ∧ stk1 s k = false ∧ s.nt 0 k ≠ 2) → k < i := fun k x => by
            by_cases e : k = i
            · subst e
              rcases hs with y | y
              · rw [y] at x; exact absurd x.2.1 (by decide)
              · exact absurd y x.2.2
            · omega
          constructor
          · constructor
            · rintro ⟨k, x1, x2⟩; exact ⟨k, ⟨x1.1, by omega⟩, x2⟩
            · rintro ⟨k, x1, x2, x3, x4⟩; exact ⟨k, ⟨x1.1, a1 k ⟨x1, x2, by omega⟩⟩, x2, x3, x4⟩
          · constructor
            · rintro ⟨k, x1, x2⟩; exact ⟨k, ⟨x1.1, by omega⟩, x2⟩
            · rintro ⟨k, x1, x2, x3, x4⟩; exact ⟨k, ⟨x1.1, a1 k ⟨x1, x2, by omega⟩⟩, x2, x3, x4⟩
      unfold w_X2_sortNotes_34
      refine knX Ng O ?_
      have ek : (if s.kb = -1 then s.nn else s.kb) = knm s := rfl
      rw [ek, if_neg (by rw [z_le (by omega) (by omega) (by omega) (by omega)]; omega), zn_24, if_neg (by rw [z_le (by omega) (by omega) (by omega) (by omega)]; omega), z_inc]
      refine x_at R rfl (c := 0) rfl i0 (by omega) (by omega) (by omega) ?_
      rw [q0]
      refine x_at R rfl (c := 1) rfl i0 (by omega) (by omega) (by omega) ?_
      rw [q1]
      refine x_at R rfl (c := 2) rfl i0 (by omega) (by omega) (by omega) ?_
      rw [q2, z_iN (by omega) (by omega), hM i i0 (by omega)]
      refine ⟨z_in (by omega) (by omega) (by omega), ?_⟩
      cases hb : stk1 s i with
      | true =>
        rw [if_neg (show ¬ z (bI true) = 0 by decide)]
        exact skip (Or.inl hb)
      | false =>
        rw [if_pos (show z (bI false) = 0 from rfl)]
        by_cases c2 : s.nt 0 i = 2
        · rw [if_pos (show z (s.nt 0 i) = 2 by rw [c2]; rfl)]
          exact skip (Or.inr c2)
        · rw [if_neg (show ¬ z (s.nt 0 i) = 2 from z_ne (by omega) (by omega) (by decide) (by decide) c2), zn_0]
          have on' : (s.nt 0 i = 0 ∨ s.nt 0 i = 1) ∧ (0 ≤ s.nt 1 i ∧ s.nt 1 i < s.a.n 0) ∧ (0 ≤ s.nt 2 i ∧ s.nt 2 i < 48) := by
            rcases on with x | x
            · exact x
            · exact absurd x.1 c2
          obtain ⟨o1, o2, o3⟩ := on'
          rw [if_neg (by rw [z_lt (by omega) (by omega) (by omega) (by omega)]; omega), zn_48, if_pos (by rw [z_lt (by omega) (by omega) (by omega) (by omega)]; omega)]
          have i18 : ∀ l : Nat, l < 32 → ∀ m : Int, ¬ ((l : Int) = s.nt 1 i ∧ m = s.nt 2 i) → (nd s (i + 1) m l ↔ nd s i m l) ∧ (br s (i + 1) m l ↔ br s i m l) := by
            intro l hl m hn
            refine ⟨⟨?_, ?_⟩, ⟨?_, ?_⟩⟩
            · rintro ⟨k, x1, x2, x3, x4, x5, x6⟩
              exact ⟨k, ⟨x1.1, by by_cases e : k = i; (subst e; exact absurd ⟨x5.symm, x4.symm⟩ hn); omega⟩, x2, x3, x4, x5, x6⟩
            · rintro ⟨k, x1, x2⟩; exact ⟨k, ⟨x1.1, by omega⟩, x2⟩
            · rintro ⟨k, x1, x2, x3, x4, x5⟩
              exact ⟨k, ⟨x1.1, by by_cases e : k = i; (subst e; exact absurd ⟨x5.symm, x4.symm⟩ hn); omega⟩, x2, x3, x4, x5⟩
            · rintro ⟨k, x1, x2⟩; exact ⟨k, ⟨x1.1, by omega⟩, x2⟩
          have n130 : ∀ v : Int32, (s.nt 0 i = 0 → fst s.a (far s.a (-1)) (s.nt 1 i) (s.nt 2 i) = -1) → (v = z 0 ∧ fst s.a (far s.a (-1)) (s.nt 1 i) (s.nt 2 i) ≠ -1 ∨ v = z 1 ∧ fst s.a (far s.a (-1)) (s.nt 1 i) (s.nt 2 i) = -1) → w_X2_sortNotes_130 100 Q kb (z i) (z (s.nt 0 i)) (z (s.nt 1 i)) (z (s.nt 2 i)) v g := by
            intro v hz hv
            have hS' : ∀ k, 0 ≤ k → k < i + 1 → stk1 s k = false → s.nt 0 k = 0 → fst s.a (far s.a (-1)) (s.nt 1 k) (s.nt 2 k) = -1 := fun k k0 k1 d1 d2 => by
              by_cases e : k = i
              · subst e; exact hz d2
              · exact hS k k0 (by omega) d1 d2
            unfold w_X2_sortNotes_130
            rw [z_inc, zn_0]
            rcases o1 with c0 | c1
            · rw [if_pos (congrArg z c0), z_iN (a := s.nt 2 i) (by omega) (by omega)]
              refine ⟨z_in (by omega) (by omega) (by omega), z_in (by omega) (by omega) (by omega), ?_⟩
              rintro _ rfl
              refine hk _ ⟨fun c k hc => (hf c k hc).sI (by unfold thR at hc; omega), fun t t0 t1 => by rw [gI_out (by omega)]; exact hM t t0 t1, hS', fun m m0 m1 l hl => ?_⟩
              have hh := hN m m0 m1 l hl
              rw [gI_out (by omega)]
              by_cases em : m = s.nt 2 i
              · rw [em, gI_in rfl rfl, bt_on o2.1 (by omega) hl]
                rw [em] at hh
                by_cases el : l = (s.nt 1 i).toNat
                · rw [decide_eq_true el, Bool.or_true, hh.1]
                  refine ⟨⟨?_, ?_⟩, ⟨fun _ => ⟨i, ⟨i0, by omega⟩, hb, c0, rfl, by omega⟩, fun _ => rfl⟩⟩
                  · rintro ⟨k, x1, x2⟩; exact ⟨k, ⟨x1.1, by omega⟩, x2⟩
                  · rintro ⟨k, x1, x2, x3, x4⟩
                    exact ⟨k, ⟨x1.1, by by_cases e : k = i; (subst e; omega); omega⟩, x2, x3, x4⟩
                · have := i18 l hl (s.nt 2 i) (by omega)
                  rw [decide_eq_false el, Bool.or_false, this.1, this.2]
                  exact hh
              · have := i18 l hl m (by omega)
                rw [gI_out (by omega), this.1, this.2]
                exact hh
            · rw [if_neg (by rw [c1]; decide)]
              rcases hv with ⟨rfl, hv⟩ | ⟨rfl, hv⟩
              · rw [if_pos rfl]
                refine hk _ ⟨hf, hM, hS', fun m m0 m1 l hl => ?_⟩
                have hh := hN m m0 m1 l hl
                by_cases em : (l : Int) = s.nt 1 i ∧ m = s.nt 2 i
                · rw [hh.1, hh.2]
                  refine ⟨⟨?_, ?_⟩, ⟨?_, ?_⟩⟩
                  · rintro ⟨k, x1, x2⟩; exact ⟨k, ⟨x1.1, by omega⟩, x2⟩
                  · rintro ⟨k, x1, x2, x3, x4, x5, x6⟩
                    exact ⟨k, ⟨x1.1, by by_cases e : k = i; (subst e; rw [← x5, ← x4] at x6; exact absurd x6 hv); omega⟩, x2, x3, x4, x5, x6⟩
                  · rintro ⟨k, x1, x2⟩; exact ⟨k, ⟨x1.1, by omega⟩, x2⟩
                  · rintro ⟨k, x1, x2, x3, x4⟩
                    exact ⟨k, ⟨x1.1, by by_cases e : k = i; (subst e; omega); omega⟩, x2, x3, x4⟩
                · have := i18 l hl m em
                  rw [this.1, this.2]; exact hh
              · rw [if_neg (show ¬ z 1 = z 0 by decide), z_iN (a := s.nt 2 i) (by omega) (by omega)]
                refine ⟨z_in (by omega) (by omega) (by omega), z_in (by omega) (by omega) (by omega), ?_⟩
                rintro _ rfl
                refine hk _ ⟨fun c k hc => (hf c k hc).sI (by unfold thR at hc; omega), fun t t0 t1 => by rw [gI_out (by omega)]; exact hM t t0 t1, hS', fun m m0 m1 l hl => ?_⟩
                have hh := hN m m0 m1 l hl
                rw [show gI (sI g 133 (s.nt 2 i).toNat (gI g 133 (s.nt 2 i).toNat ||| 1 <<< (z (s.nt 1 i) &&& 31))) 134 m.toNat = gI g 134 m.toNat from gI_out (by omega)]
                by_cases em : m = s.nt 2 i
                · rw [em, gI_in rfl rfl, bt_on o2.1 (by omega) hl]
                  rw [em] at hh
                  by_cases el : l = (s.nt 1 i).toNat
                  · rw [decide_eq_true el, Bool.or_true, hh.2]
                    have el' : (l : Int) = s.nt 1 i := by omega
                    refine ⟨⟨fun _ => ⟨i, ⟨i0, by omega⟩, hb, c1, rfl, el'.symm, by rw [el']; exact hv⟩, fun _ => rfl⟩, ⟨?_, ?_⟩⟩
                    · rintro ⟨k, x1, x2⟩; exact ⟨k, ⟨x1.1, by omega⟩, x2⟩
                    · rintro ⟨k, x1, x2, x3, x4⟩
                      exact ⟨k, ⟨x1.1, by by_cases e : k = i; (subst e; omega); omega⟩, x2, x3, x4⟩
                  · have := i18 l hl (s.nt 2 i) (by omega)
                    rw [decide_eq_false el, Bool.or_false, this.1, this.2]
                    exact hh
                · have := i18 l hl m (by omega)
                  rw [gI_out (by omega), this.1, this.2]
                  exact hh
          refine x_isSilent A'.2.2.1 ⟨o2.1, by omega⟩ o3 (fun d1 d2 => ?_) (fun d1 => ?_)
          · rcases o1 with c0 | c1
            · rw [if_pos (congrArg z c0), if_neg (show ¬ (1 : Int32) = z 0 by decide)]
              exact n130 1 (fun _ => d2) (Or.inr ⟨rfl, d2⟩)
            · rw [if_neg (by rw [c1]; decide)]
              exact n130 1 (fun _ => d2) (Or.inr ⟨rfl, d2⟩)
          · have d2 : fst s.a (far s.a (-1)) (s.nt 1 i) (s.nt 2 i) ≠ -1 := fun x => d1 ⟨o2.2, x⟩
            rcases o1 with c0 | c1
            · rw [if_pos (congrArg z c0), if_pos (show (0 : Int32) = z 0 from rfl)]
              exact hF g hf ⟨i, ⟨i0, i1⟩, hb, c0, d2⟩
            · rw [if_neg (by rw [c1]; decide)]
              exact n130 0 (fun x => by omega) (Or.inl ⟨rfl, d2⟩)
    · clear hf hJ hf2 M2 f2 e0 g g2
      rintro kb g ⟨hf, hM, hS, hN⟩
      unfold w_X2_sortNotes_34
      refine knX (ntx g hf) O ?_
      have ek : (if s.kb = -1 then s.nn else s.kb) = knm s := rfl
      rw [ek, if_pos (by rw [z_le (by omega) (by omega) (by omega) (by omega)]; omega)]
      exact hT g hf hS hN
end THY
