/-! ===== FAR by the class ===== -/
def wy (v : Int) : Int := if v < 100000 then v else 1000000
def FX (h : PH) (t : Nat) (F : Int → Int → Int) : Prop := ∀ p q : Int, 0 ≤ p → p < 6 → 0 ≤ q → q < 6 → gI h (t + 1) (p * 6 + q).toNat = z (wy (F p q))
theorem wy_rg {v : Int} (h : 0 ≤ v ∧ v ≤ 100000) : 0 ≤ wy v ∧ wy v ≤ 1000000 := by unfold wy; split <;> omega
theorem x_ways {t w : Nat} {a : Wd} {g : Int} {x2 : Int32} {h : PH} {Q : PH → Prop} (H : WX h w a) (O : OkL a) (hx : x2 = z g) (hg : -1 ≤ g ∧ g ≤ 100) (ht : t + 1 < w ∨ w + 22 < t + 1) (hq : ∀ f, (∀ c k, ¬ (c = t + 1) → At h f c k) → FX f t (far a g) → Q f) : w_X0_measureWays t w x2 h Q := by
  subst hx
  have O1 := O.1
  have O2 := O.2.1
  have hw : ∀ f, (∀ c k, ¬ (c = t + 1) → At h f c k) → WX f w a := fun f hf => H.at' (fun c k b1 b2 _ _ _ _ => hf c k (by omega))
  unfold w_X0_measureWays
  refine for10 36 (fun i f => (∀ c k, ¬ (c = t + 1) → At h f c k) ∧ ∀ p q : Int, 0 ≤ p → p < 6 → 0 ≤ q → q < 6 → p * 6 + q < i → gI f (t + 1) (p * 6 + q).toNat = z (wy (ini a g 0 p q))) 0 rfl (by omega) (by omega) (by omega) ⟨fun c k _ => At.rf h c k, fun p q b1 b2 b3 b4 b5 => by omega⟩ ?_ ?_
  · rintro kb i f h0 h1 ⟨hf, hJ⟩ hk
    unfold w_X0_measureWays_2
    rw [zn_36, zn_6, if_neg (by rw [z_le (by omega) (by omega) (by omega) (by omega)]; omega), z_div (by omega) (by omega) (by omega) (by omega), z_mul, z_sub, z_iN (by omega) (by omega), zn_1, z_add]
    have fin : ∀ v : Int32, v = z (wy (if i / 6 = i - i / 6 * 6 then 0 else 100000)) → kb (z (i + 1)) (sI f (t + 1) i.toNat v) := by
      intro v hv
      refine hk _ ⟨fun c k hc => (hf c k hc).sI (by omega), fun p q b1 b2 b3 b4 b5 => ?_⟩
      by_cases e : p * 6 + q = i
      · rw [gI_in rfl (by omega), hv]
        show _ = z (wy (if p = q then 0 else 100000))
        have e1 : i / 6 = p := by omega
        have e2 : i - i / 6 * 6 = q := by omega
        rw [e2, e1]
      · rw [gI_out (by omega)]; exact hJ p q b1 b2 b3 b4 (by omega)
    by_cases e : i / 6 = i - i / 6 * 6
    · rw [if_pos (congrArg z e)]
      refine ⟨z_in (by omega) (by omega) (by omega), ?_⟩
      rintro _ rfl
      exact fin 0 (by rw [if_pos e]; rfl)
    · rw [if_neg (z_ne (by omega) (by omega) (by omega) (by omega) e)]
      refine ⟨z_in (by omega) (by omega) (by omega), ?_⟩
      rintro _ rfl
      exact fin 1000000 (by rw [if_neg e]; rfl)
  · rintro kb f ⟨hf, hJ⟩
    unfold w_X0_measureWays_2
    rw [if_pos (by rw [zn_36, z_le (by omega) (by omega) (by omega) (by omega)]; omega)]
    refine for10 (a.n 1) (fun i f => (∀ c k, ¬ (c = t + 1) → At h f c k) ∧ ∀ p q : Int, 0 ≤ p → p < 6 → 0 ≤ q → q < 6 → gI f (t + 1) (p * 6 + q).toNat = z (wy (ini a g i.toNat p q))) 0 rfl (by omega) (by omega) (by omega) ⟨hf, fun p q b1 b2 b3 b4 => hJ p q b1 b2 b3 b4 (by omega)⟩ ?_ ?_
    · clear hJ hf f kb
      rintro kb i f h0 h1 ⟨hf, hJ⟩ hk
      have W := hw f hf
      obtain ⟨q1, q2, q3, q4, q5⟩ := O.2.2.2.1 i h0 h1
      have ln := O.len h0 h1
      unfold w_X0_measureWays_48
      rw [show gI f (w + 3) 3 = z (a.n 1) from (W.n0 1 (by decide)).1, if_neg (by rw [z_le (by omega) (by omega) (by omega) (by omega)]; omega)]
      refine W.at 1 0 (by decide) rfl (by decide) rfl rfl h0 h1 ?_
      refine W.at 1 1 (by decide) rfl (by decide) rfl rfl h0 h1 ?_
      have ei : ∀ p q, ini a g (i + 1).toNat p q = if i ≠ g ∧ ((p = a.f 1 0 i ∧ q = a.f 1 1 i) ∨ (p = a.f 1 1 i ∧ q = a.f 1 0 i)) then a.f 1 2 i + a.f 1 3 i * a.f 7 0 0 else ini a g i.toNat p q := by
        intro p q
        rw [show (i + 1).toNat = i.toNat + 1 by omega]
        show (if ((i.toNat : Nat) : Int) ≠ g ∧ _ then _ else _) = _
        rw [show ((i.toNat : Nat) : Int) = i by omega]
      by_cases e : i = g
      · rw [if_pos (by rw [e]), zn_1, z_add]
        refine hk _ ⟨hf, fun p q b1 b2 b3 b4 => ?_⟩
        rw [ei, if_neg (by omega)]
        exact hJ p q b1 b2 b3 b4
      · rw [if_neg (z_ne (by omega) (by omega) (by omega) (by omega) e)]
        refine x_hasT (W.rw 0 (by decide)) rfl q1.1 q1.2 ?_
        rw [if_neg (by decide)]
        refine x_hasT (W.rw 0 (by decide)) rfl q2.1 q2.2 ?_
        rw [if_neg (by decide)]
        refine W.at 1 2 (by decide) rfl (by decide) rfl rfl h0 h1 ?_
        refine W.at 1 3 (by decide) rfl (by decide) rfl rfl h0 h1 ?_
        rw [W.2.2.2.1]
        rintro _ rfl
        rw [z_mul, z_add, zn_6, z_mul, z_add, z_mul, z_add, z_iN (by omega) (by omega), z_iN (by omega) (by omega), zn_1, z_add]
        refine ⟨z_in (by omega) (by omega) (by omega), ?_⟩
        rintro _ rfl
        refine ⟨z_in (by omega) (by omega) (by omega), ?_⟩
        rintro _ rfl
        refine hk _ ⟨fun c k hc => ((hf c k hc).sI (by omega)).sI (by omega), fun p q b1 b2 b3 b4 => ?_⟩
        rw [ei]
        by_cases c2 : p * 6 + q = a.f 1 1 i * 6 + a.f 1 0 i
        · rw [gI_in rfl (by omega), if_pos (by omega)]
          unfold wy; rw [if_pos (by omega)]
        · rw [gI_out (by omega)]
          by_cases c1 : p * 6 + q = a.f 1 0 i * 6 + a.f 1 1 i
          · rw [gI_in rfl (by omega), if_pos (by omega)]
            unfold wy; rw [if_pos (by omega)]
          · rw [gI_out (by omega), if_neg (by omega)]
            exact hJ p q b1 b2 b3 b4
    · clear hJ hf f kb
      rintro kb f ⟨hf, hJ⟩
      have W := hw f hf
      unfold w_X0_measureWays_48
      rw [show gI f (w + 3) 3 = z (a.n 1) from (W.n0 1 (by decide)).1, if_pos (by rw [z_le (by omega) (by omega) (by omega) (by omega)]; omega)]
      dsimp only
      rw [show gI f (w + 1) 3 = z (a.n 0) from (W.n0 0 (by decide)).1]
      rintro _ rfl
      rw [zn_6, z_mnI (by omega) (by omega) (by omega) (by omega), show min (a.n 0) 6 = a.n 0 by omega]
      have hgd := (ini_gd g O (a.n 1).toNat (by omega)).1
      have hsm := ini_sm g O (a.n 1).toNat (by omega)
      have hfa : far a g = fwN (ini a g (a.n 1).toNat) (a.n 0).toNat := rfl
      generalize ini a g (a.n 1).toNat = E at hJ hgd hsm hfa
      have hSm := fwN_sm hgd hsm
      refine for10 (a.n 0) (fun m f => (∀ c k, ¬ (c = t + 1) → At h f c k) ∧ ∀ p q : Int, 0 ≤ p → p < 6 → 0 ≤ q → q < 6 → gI f (t + 1) (p * 6 + q).toNat = z (wy (fwN E m.toNat p q))) 0 rfl (by omega) (by omega) (by omega) ⟨hf, hJ⟩ ?_ ?_
      · clear hJ hf W f kb
        rintro kb m f m0 m1 ⟨hf, hJ⟩ hk
        unfold w_X0_measureWays_180
        rw [if_neg (by rw [z_le (by omega) (by omega) (by omega) (by omega)]; omega)]
        have G := fwN_gd hgd m.toNat
        have eE : fwN E (m + 1).toNat = par m (fwN E m.toNat) := by
          rw [show (m + 1).toNat = m.toNat + 1 by omega]
          show par ((m.toNat : Nat) : Int) _ = _
          rw [show ((m.toNat : Nat) : Int) = m by omega]
        rw [zn_1, z_add]
        have hk' : ∀ g', (∀ c k, ¬ (c = t + 1) → At h g' c k) → (∀ p q : Int, 0 ≤ p → p < 6 → 0 ≤ q → q < 6 → gI g' (t + 1) (p * 6 + q).toNat = z (wy (par m (fwN E m.toNat) p q))) → kb (z (m + 1)) g' := fun g' a1 a2 => hk _ ⟨a1, by rw [eE]; exact a2⟩
        clear hk eE
        have Gs := hSm m.toNat
        have p6 := pow6 m0 (by omega : m < 6)
        clear hfa hSm
        generalize fwN E m.toNat = D at *
        obtain ⟨G1, G2, G3, G4⟩ := G
        have Gm : ∀ p, par m D p m = D p m := fun p => by have := G1 m; have := G3 p m; unfold par; omega
        have Gn : ∀ q, par m D m q = D m q := fun p => by have := G1 m; have := G3 m p; unfold par; omega
        have Gr : ∀ p q, 0 ≤ par m D p q ∧ par m D p q ≤ 100000 := fun p q => by have := G3 p q; have := G3 p m; have := G3 m q; unfold par; omega
        refine for10 (a.n 0) (fun i f => (∀ c k, ¬ (c = t + 1) → At h f c k) ∧ ∀ p q : Int, 0 ≤ p → p < 6 → 0 ≤ q → q < 6 → gI f (t + 1) (p * 6 + q).toNat = z (wy (if p < i ∧ q < a.n 0 then par m D p q else D p q))) 0 rfl (by omega) (by omega) (by omega) ⟨hf, fun p q b1 b2 b3 b4 => by rw [if_neg (by omega)]; exact hJ p q b1 b2 b3 b4⟩ ?_ ?_
        · clear hJ hf f
          rintro kb2 i f i0 i1 ⟨hf, hJ⟩ hk2
          unfold w_X0_measureWays_190
          rw [if_neg (by rw [z_le (by omega) (by omega) (by omega) (by omega)]; omega), zn_1, z_add]
          refine for10 (a.n 0) (fun j f => (∀ c k, ¬ (c = t + 1) → At h f c k) ∧ ∀ p q : Int, 0 ≤ p → p < 6 → 0 ≤ q → q < 6 → gI f (t + 1) (p * 6 + q).toNat = z (wy (if (p < i ∧ q < a.n 0) ∨ (p = i ∧ q < j) then par m D p q else D p q))) 0 rfl (by omega) (by omega) (by omega) ⟨hf, fun p q b1 b2 b3 b4 => by rw [hJ p q b1 b2 b3 b4]; congr 2; split <;> (first | rw [if_pos (by omega)] | rw [if_neg (by omega)])⟩ ?_ ?_
          · clear hJ hf f
            rintro kb3 j f j0 j1 ⟨hf, hJ⟩ hk3
            unfold w_X0_measureWays_200
            rw [if_neg (by rw [z_le (by omega) (by omega) (by omega) (by omega)]; omega), zn_6]
            simp only [zn_1, z_mul, z_add]
            rw [z_iN (by omega) (by omega), z_iN (by omega) (by omega), z_iN (by omega) (by omega)]
            refine ⟨z_in (by omega) (by omega) (by omega), z_in (by omega) (by omega) (by omega), ?_⟩
            have e1 : gI f (t + 1) (i * 6 + m).toNat = z (wy (D i m)) := by rw [hJ i m i0 (by omega) m0 (by omega)]; congr 2; split; exact Gm i; rfl
            have e2 : gI f (t + 1) (m * 6 + j).toNat = z (wy (D m j)) := by rw [hJ m j m0 (by omega) j0 (by omega)]; congr 2; split; exact Gn j; rfl
            have e3 : gI f (t + 1) (i * 6 + j).toNat = z (wy (D i j)) := by rw [hJ i j i0 (by omega) j0 (by omega)]; congr 2; rw [if_neg (by omega)]
            rw [e1, e2, e3, z_add]
            rintro _ rfl
            refine ⟨z_in (by omega) (by omega) (by omega), ?_⟩
            have r1 := wy_rg (G3 i m)
            have r2 := wy_rg (G3 m j)
            have r3 := wy_rg (G3 i j)
            have s1 := G3 i m
            have s2 := G3 m j
            have s3 := G3 i j
            have u1 := Gs i m
            have u2 := Gs m j
            have u3 := Gs i j
            have fin : ∀ v : Int32, v = z (wy (par m D i j)) → ∀ f', f' = sI f (t + 1) (i * 6 + j).toNat v → kb3 (z (j + 1)) f' := by
              rintro v rfl _ rfl
              refine hk3 _ ⟨fun c k hc => (hf c k hc).sI (by omega), fun p q b1 b2 b3 b4 => ?_⟩
              by_cases c : p * 6 + q = i * 6 + j
              · rw [gI_in rfl (by omega)]
                have cp : p = i := by omega
                have cq : q = j := by omega
                subst cp cq
                rw [if_pos (by omega)]
              · rw [gI_out (by omega), hJ p q b1 b2 b3 b4]
                congr 2
                by_cases c2 : (p < i ∧ q < a.n 0) ∨ (p = i ∧ q < j)
                · rw [if_pos c2, if_pos (by omega)]
                · rw [if_neg c2, if_neg (by omega)]
            have same : par m D i j = D i j → kb3 (z (j + 1)) f := by
              intro e
              refine hk3 _ ⟨hf, fun p q b1 b2 b3 b4 => ?_⟩
              rw [hJ p q b1 b2 b3 b4]
              congr 2
              by_cases c2 : (p < i ∧ q < a.n 0) ∨ (p = i ∧ q < j)
              · rw [if_pos c2, if_pos (by omega)]
              · rw [if_neg c2]
                by_cases c3 : p = i ∧ q = j
                · obtain ⟨rfl, rfl⟩ := c3
                  rw [if_pos (by omega)]; exact e.symm
                · rw [if_neg (by omega)]
            by_cases c : wy (D i j) ≤ wy (D i m) + wy (D m j)
            · rw [if_pos (by rw [z_le (by omega) (by omega) (by omega) (by omega)]; exact c)]
              refine same ?_
              unfold wy at c
              unfold par
              by_cases d1 : D i m < 100000 <;> by_cases d2 : D m j < 100000 <;> by_cases d3 : D i j < 100000 <;> simp only [d1, d2, d3, if_true, if_false] at c <;> omega
            · rw [if_neg (by rw [z_le (by omega) (by omega) (by omega) (by omega)]; exact c)]
              refine ⟨z_in (by omega) (by omega) (by omega), fin _ ?_⟩
              congr 1
              unfold wy at c ⊢
              unfold par
              by_cases d1 : D i m < 100000 <;> by_cases d2 : D m j < 100000 <;> by_cases d3 : D i j < 100000 <;> simp only [d1, d2, d3, if_true, if_false] at c ⊢ <;> first | omega | (rw [if_pos (by omega)]; omega)
          · clear hJ hf f
            rintro kb3 f ⟨hf, hJ⟩
            unfold w_X0_measureWays_200
            rw [if_pos (by rw [z_le (by omega) (by omega) (by omega) (by omega)]; omega)]
            refine hk2 _ ⟨hf, fun p q b1 b2 b3 b4 => ?_⟩
            rw [hJ p q b1 b2 b3 b4]
            congr 2
            by_cases c2 : (p < i ∧ q < a.n 0) ∨ (p = i ∧ q < a.n 0)
            · rw [if_pos c2, if_pos (by omega)]
            · rw [if_neg c2, if_neg (by omega)]
        · clear hJ hf f
          rintro kb2 f ⟨hf, hJ⟩
          unfold w_X0_measureWays_190
          rw [if_pos (by rw [z_le (by omega) (by omega) (by omega) (by omega)]; omega)]
          refine hk' f hf (fun p q b1 b2 b3 b4 => ?_)
          rw [hJ p q b1 b2 b3 b4]
          congr 2
          by_cases c2 : p < a.n 0 ∧ q < a.n 0
          · rw [if_pos c2]
          · rw [if_neg c2]
            by_cases e : p = q
            · subst e
              have := G1 p
              have := G3 p m
              have := G3 m p
              unfold par; omega
            · have := G4 p q (by omega) e
              have := G3 p m
              have := G3 m q
              by_cases e1 : p = m
              · have := G1 m
                subst e1; unfold par; omega
              · by_cases e2 : m = q
                · have := G1 m
                  subst e2; unfold par; omega
                · by_cases c3 : p < a.n 0
                  · have := G4 m q (by omega) e2; unfold par; omega
                  · have := G4 p m (by omega) e1; unfold par; omega
      · clear hJ hf W f kb
        rintro kb f ⟨hf, hJ⟩
        unfold w_X0_measureWays_180
        rw [if_pos (by rw [z_le (by omega) (by omega) (by omega) (by omega)]; omega)]
        exact hq f hf (by rw [hfa]; exact hJ)
