/-! ===== plans, by the reference ===== -/
def BdM (h : PH) (a : Wd) (n : Int) : Prop := ∀ i : Int, 0 ≤ i → i < n → gI h 61 i.toNat = z (bI (bad a (i / 48) (i % 48)))
def bdC (c k : Nat) : Prop := lawC c k ∨ c = 61
section PLM
variable {h : PH} {a : Wd}
theorem Day.law {h g : PH} (D : Day h a) (e : ∀ c k, ¬ bdC c k → At h g c k) : Day g a := by
  obtain ⟨d1, d2, d3, d4, d5, d6, d7⟩ := D
  refine ⟨d1.at' (fun c k b1 b2 => e c k (by unfold bdC lawC; omega)), d2.at' (fun c k b1 b2 => e c k (by unfold bdC lawC; omega)), d3.at' (e 0 62 (by unfold bdC lawC; omega)) (fun c k b1 b2 => e c k (by unfold bdC lawC; omega)), fun p q c1 c2 c3 c4 => by rw [(e 50 _ (by unfold bdC lawC; omega)).1]; exact d4 p q c1 c2 c3 c4, fun p m c1 c2 c3 c4 => by rw [(e 51 _ (by unfold bdC lawC; omega)).1]; exact d5 p m c1 c2 c3 c4, ?_, fun p m c1 c2 c3 c4 => by rw [(e 56 _ (by unfold bdC lawC; omega)).1]; exact d7 p m c1 c2 c3 c4⟩
  exact d6.at' (e 0 70 (by unfold bdC lawC; omega)) (fun c k b1 b2 => e c k (by unfold bdC lawC; omega))
set_option maxHeartbeats 2000000 in
theorem m_layBad {Q : PH → Prop} (M : MW h a) (hq : ∀ g, (∀ c k, ¬ scrM c k → At h g c k) → MT g a → BdM g a (48 * a.n 6) → Q g) : w_X10_layBad h Q := by
  have N := M.2.2
  have h6 := N.1.1
  have F3 := (far_gd (-1) N.1).2.2.1
  have n14 := N.2.2.2.2.2.2.2.2.2.2.2.2.2
  have n2 := N.2.2.2.2.2.2.2.2.2.2.1
  have nr := n14.1
  unfold w_X10_layBad
  refine m_layDay M.1 M.2.1 N (fun g1 f1 D1 => ?_)
  have e26 : gI g1 2 6 = z (a.n 6) := D1.1.1.2.2.2.2.2.1
  have e20 : gI g1 2 0 = z (a.n 0) := D1.1.1.1
  refine for10 (a.n 6) (fun t g => (∀ c k, ¬ bdC c k → At g1 g c k) ∧ BdM g a (48 * t)) 0 rfl (by omega) (by omega) (by omega) ⟨fun c k _ => At.rf g1 c k, fun i i0 i1 => by omega⟩ ?_ ?_
  · rintro kb t g t0 t1 ⟨hf, hB⟩ hn
    obtain ⟨o1, o2, o3, o4⟩ := n14.2.1 t t0 t1
    unfold w_X10_layBad_6
    rw [iN_6, (hf 2 6 (by unfold bdC lawC; omega)).1, e26, if_neg (by rw [z_le (by omega) (by omega) (by omega) (by omega)]; omega), z_inc]
    refine for10 48 (fun m g => (∀ c k, ¬ bdC c k → At g1 g c k) ∧ BdM g a (48 * t + m)) 0 rfl (by omega) (by omega) (by omega) ⟨hf, by rw [Int.add_zero]; exact hB⟩ ?_ ?_
    · clear hf hB g
      rintro kb2 m g m0 m1 ⟨hf, hB⟩ hn2
      unfold w_X10_layBad_19
      rw [zn_48, if_neg (by rw [z_le (by omega) (by omega) (by omega) (by omega)]; omega), z_inc, zn_0]
      refine for21 (a.n 0) (fun q x g2 => x = z (bI (ex (bdQ a t m) q)) ∧ (∀ c k, ¬ lawC c k → At g g2 c k)) 0 rfl (by omega) (by omega) (by omega) ⟨rfl, fun c k _ => At.rf g c k⟩ ?_ ?_
      · rintro kb3 q _ g2 q0 q1 ⟨rfl, hf2⟩ hn3
        have F : ∀ c k, ¬ bdC c k → At g1 g2 c k := fun c k hc => (hf c k hc).tr (hf2 c k (fun x => hc (Or.inl x)))
        have D2 : Day g2 a := D1.law F
        obtain ⟨fr, K⟩ := D2.1.2.2.2.2.2.2.2.1
        obtain ⟨t1', t2', t3', t4'⟩ := D2.1.2.2.2.2.2.2.1 t t0 t1
        have es := ex_s (f := bdQ a t m) q0
        unfold w_X10_layBad_30
        rw [iN_0, (F 2 0 (by unfold bdC lawC; omega)).1, e20, if_neg (by rw [z_le (by omega) (by omega) (by omega) (by omega)]; omega), z_iN (a := t) (by omega) (by omega), t2', t4', z_inc]
        refine ⟨z_in (by omega) (by omega) (by omega), z_in (by omega) (by omega) (by omega), ?_⟩
        refine m_carries K N.2.2.2.2.1 D2.2.2.2.1 (F3 _ _) (by omega) (by omega) (by omega) ⟨m0, m1⟩ (fun g3 f3 => ?_)
        have hf3 : ∀ c k, ¬ lawC c k → At g g3 c k := fun c k hc => (hf2 c k hc).tr (f3 c k hc)
        have D3 : Day g3 a := D2.law (fun c k hc => f3 c k (fun x => hc (Or.inl x)))
        have no : bdQ a t m q = false → kb3 (z (bI (ex (bdQ a t m) q))) (z (q + 1)) g3 := fun e => hn3 _ g3 ⟨by rw [es, e, Bool.or_false], hf3⟩
        cases hc : car a (far a (-1)) (a.f 6 1 t) (a.f 6 3 t) q m with
        | false =>
          rw [if_pos (show z (if false = true then (1 : Int) else 0) = 0 from rfl)]
          exact no (by unfold bdQ; rw [hc]; rfl)
        | true =>
          rw [if_neg (show ¬ z (if true = true then (1 : Int) else 0) = 0 by decide)]
          obtain ⟨u1, u2, u3, u4⟩ := D3.1.2.2.2.2.2.2.1 t t0 t1
          rw [u1]
          refine ⟨z_in (by omega) (by omega) (by omega), ?_⟩
          have ar : -1 ≤ agn a (a.f 6 0 t) q m ∧ agn a (a.f 6 0 t) q m < 4 := by
            have := clo_rg N.2.2.1 q m
            unfold agn
            split <;> omega
          refine m_against D3.1 D3.2.2.2.2.2.1 N.2.2.1 N.2.2.2.1 (by omega) (by omega) ⟨m0, m1⟩ h6.2 ?_
          by_cases c : agn a (a.f 6 0 t) q m = -1
          · rw [if_pos (show z (agn a (a.f 6 0 t) q m) = -1 by rw [c]; rfl)]
            exact no (by unfold bdQ; rw [decide_eq_false (by omega : ¬ agn a (a.f 6 0 t) q m ≠ -1), Bool.and_false])
          · rw [if_neg (show ¬ z (agn a (a.f 6 0 t) q m) = -1 from z_ne (by omega) (by omega) (by decide) (by decide) c)]
            exact hn3 _ g3 ⟨by rw [es]; unfold bdQ; rw [hc, decide_eq_true c]; simp; rfl, hf3⟩
      · rintro kb3 _ g2 ⟨rfl, hf2⟩
        have F : ∀ c k, ¬ bdC c k → At g1 g2 c k := fun c k hc => (hf c k hc).tr (hf2 c k (fun x => hc (Or.inl x)))
        unfold w_X10_layBad_30
        rw [iN_0, (F 2 0 (by unfold bdC lawC; omega)).1, e20, if_pos (by rw [z_le (by omega) (by omega) (by omega) (by omega)]; omega)]
        dsimp only
        rw [z_mul, z_add, z_iN (a := 48 * t + m) (by omega) (by omega)]
        refine ⟨z_in (by omega) (by omega) (by omega), ?_⟩
        rintro _ rfl
        have eb : vp_nar .boolean (z (bI (ex (bdQ a t m) (a.n 0)))) = z (bI (bad a t m)) := by
          show _ = z (bI (ex (bdQ a t m) (a.n 0)))
          cases ex (bdQ a t m) (a.n 0) <;> rfl
        rw [eb]
        refine hn2 _ ⟨fun c k hc => (F c k hc).sI (by unfold bdC at hc; omega), fun i i0 i1 => ?_⟩
        by_cases e : i = 48 * t + m
        · rw [e, gI_in rfl rfl, show (48 * t + m) / 48 = t by omega, show (48 * t + m) % 48 = m by omega]
        · rw [gI_out (by omega), (hf2 61 _ (by unfold lawC; omega)).1]; exact hB i i0 (by omega)
    · rintro kb2 g ⟨hf, hB⟩
      unfold w_X10_layBad_19
      rw [zn_48, if_pos (by rw [z_le (by omega) (by omega) (by omega) (by omega)]; omega)]
      exact hn g ⟨hf, by rw [show 48 * (t + 1) = 48 * t + 48 by omega]; exact hB⟩
  · rintro kb g ⟨hf, hB⟩
    unfold w_X10_layBad_6
    rw [iN_6, (hf 2 6 (by unfold bdC lawC; omega)).1, e26, if_pos (by rw [z_le (by omega) (by omega) (by omega) (by omega)]; omega)]
    exact hq g (fun c k hc => (f1 c k (by unfold scrM at hc; unfold dayR; omega)).tr (hf c k (by unfold scrM at hc; unfold bdC lawC; omega))) (D1.law hf).1 hB
end PLM
