section TR10
variable {h : PH} {a : Wd} {k i : Int}
theorem zf_no {b : Wd} {k i n : Int} (h1 : k ≠ 1) (h2 : k ≠ 2) : (zf b k i).f 3 5 n = b.f 3 5 n := by
  have e : (zf b k i).f 3 5 n = if (k = 1 ∧ n = i) ∨ (k = 2 ∧ b.f 3 1 n = i) then 1 else b.f 3 5 n := rfl
  rw [e, if_neg (by omega)]
theorem wb0 (a : Wd) : WB 0 (upF a 1 3 (fun _ => 0)) := by
  intro l l0 l1
  rw [upF_in, if_neg (by rw [b_0]; decide)]
theorem wb_tw {g : PH} (D : MD g 0 a) (OL : OkL a) (c : canT a k i = true) : WB (if k = 0 then 0 else gI g 42 0) (tw a k i) := by
  have B := WB.of D OL
  rcases canT_rg c with ⟨rfl, rfl⟩ | ⟨rfl, h1, h2⟩ | ⟨rfl, h1, h2⟩ | ⟨rfl, rfl⟩ | ⟨rfl, h1, h2⟩ | ⟨rfl, h1, h2⟩
  · exact wb0 a
  · exact B
  · exact B
  · exact B
  · exact B
  · exact B
set_option maxHeartbeats 2000000 in
theorem m_tried75 {Q : Int32 → PH → Prop} (M : MW h a) (hk : -2147483648 ≤ k ∧ k < 2147483648) (hi : -2147483648 ≤ i ∧ i < 2147483648) (c : canT a k i = true) (hq : ∀ g, (∀ c j, ¬ scrM c j → At h g c j) → Q (z (silAll (tw a k i) (far (tw a k i) (if k = 4 then i else -1)))) g) : w_X10_tried_75 Q (z k) (z i) 1 h := by
  have n4 := M.2.2
  have ON := n4.2.1
  have ON1 := ON.1
  have n12 := n4.2.2.2.2.2.2.1
  have hl := fun n c1 c2 => (n4.2.2.2.2.2.2.2.1 n c1 c2).2
  have rgc := canT_rg c
  have l9 := n4.1.2.1
  obtain ⟨OLt, ONt, OXt, OCt, efd⟩ := tw_ok n4 c
  have F3 := (far_gd (if k = 4 then i else -1) OLt).2.2.1
  unfold w_X10_tried_75
  rw [if_neg (by decide)]
  refine m_layNoises' M.2.1 ON n12 hl (fun g1 f1 N1 L1 => ?_)
  have M1 : MT g1 a := M.1.at' (fun c j b1 b2 => f1 c j (by omega) (by omega))
  have D1 : MD g1 0 a := M.2.1.at' (fun c j b1 b2 => f1 c j (by omega) (by omega))
  have B := wb_tw D1 n4.1 c
  have s111 : ∀ s2 : Int32, s2 = z (if k = 4 then i else -1) → w_X10_tried_111 Q (z k) (z i) (if k = 0 then 0 else gI g1 42 0) s2 g1 := by
    intro s2 e2
    unfold w_X10_tried_111
    refine m_far (a := tw a k i) (g := if k = 4 then i else -1) (mt_tw M1 c) OLt B e2 (by split <;> omega) (fun g2 f2 F2 => ?_)
    generalize far (tw a k i) (if k = 4 then i else -1) = F at *
    have M2 : MT g2 a := M1.at' (fun c j b1 b2 => f2 c j (by omega))
    have N2 : NM g2 a := N1.at' (f2 0 62 (by omega)) (fun c j b1 b2 => f2 c j (by omega))
    have L2 : ∀ n : Int, 0 ≤ n → n < a.n 3 → gI g2 49 n.toNat = z (if a.f 3 5 n = 1 then 0 else a.f 3 4 n) := fun n c1 c2 => by rw [(f2 49 _ (by omega)).1]; exact L1 n c1 c2
    have fr2 : ∀ c j, ¬ scrM c j → At h g2 c j := fun c j hc => (f1 c j (by unfold scrM at hc; omega) (by unfold scrM at hc; omega)).tr (f2 c j (by unfold scrM at hc; omega))
    have lw : ∀ c j, ¬ scrM c j → ¬ lawC c j ∧ ¬ (c = 51) ∧ ¬ (c = 49) := fun c j hc => by unfold scrM at hc; unfold lawC; omega
    have k5n : k ≠ 5 → ∀ (b : Wd) (g3 : PH), (∀ c j, ¬ scrM c j → At h g3 c j) → MT g3 b → b.fd = a.fd → FM g3 F → NM g3 b → OkN b → b.n 0 = a.n 0 → silAll (zf b k i) F = silAll (tw a k i) F → w_X10_tried_123 Q (z k) (z i) g3 := by
      intro h5 b g3 f3 M3 efb F3' N3 O3 n0 es
      unfold w_X10_tried_123
      rw [if_neg (show ¬ z k = 5 from z_ne hk.1 hk.2 (by decide) (by decide) h5)]
      refine m_triedEnd M3 (by rw [efb]; exact n4.2.2.2.2.1) F3' N3 O3 F3 (by rw [n0]; exact n4.1.1) hk hi (fun g4 f4 => ?_)
      rw [es]
      exact hq g4 (fun c j hc => (f3 c j hc).tr (f4 c j (lw c j hc).1 (lw c j hc).2.1 (lw c j hc).2.2))
    rcases rgc with ⟨rfl, rfl⟩ | ⟨rfl, h1, h2⟩ | ⟨rfl, h1, h2⟩ | ⟨rfl, rfl⟩ | ⟨rfl, h1, h2⟩ | ⟨rfl, h1, h2⟩
    · rw [if_neg (show ¬ z 0 = 3 by decide)]
      exact k5n (by decide) a g2 fr2 M2 rfl F2 N2 ON rfl (silAll_cong rfl rfl (fun n _ _ => ⟨rfl, rfl, rfl, rfl, (zf_no (b := a) (by decide) (by decide)).trans rfl⟩) rfl)
    · rw [if_neg (show ¬ z 1 = 3 by decide)]
      exact k5n (by decide) a g2 fr2 M2 rfl F2 N2 ON rfl (silAll_cong rfl rfl (fun n _ _ => ⟨rfl, rfl, rfl, rfl, by
        show (if (1 : Int) = 1 ∧ n = i ∨ (1 : Int) = 2 ∧ a.f 3 1 n = i then (1 : Int) else a.f 3 5 n) = if n = i then 1 else a.f 3 5 n
        by_cases e : n = i
        · rw [if_pos (by omega), if_pos e]
        · rw [if_neg (by omega), if_neg e]⟩) rfl)
    · rw [if_neg (show ¬ z 2 = 3 by decide)]
      exact k5n (by decide) a g2 fr2 M2 rfl F2 N2 ON rfl (silAll_cong rfl rfl (fun n _ _ => ⟨rfl, rfl, rfl, rfl, by
        show (if (2 : Int) = 1 ∧ n = i ∨ (2 : Int) = 2 ∧ a.f 3 1 n = i then (1 : Int) else a.f 3 5 n) = if a.f 3 1 n = i then 1 else a.f 3 5 n
        by_cases e : a.f 3 1 n = i
        · rw [if_pos (by omega), if_pos e]
        · rw [if_neg (by omega), if_neg e]⟩) rfl)
    · rw [if_pos (show z 3 = 3 from rfl)]
      refine m_softens N2 ON L2 (fun g3 f3 N3 => ?_)
      exact k5n (by decide) (soft a) g3 (fun c j hc => (fr2 c j hc).tr (f3 c j (lw c j hc).2.2)) (M2.at' (fun c j b1 b2 => f3 c j (by omega))) rfl (F2.at' (fun j => f3 50 j (by omega))) N3 ONt rfl (silAll_cong rfl rfl (fun n _ _ => ⟨rfl, rfl, rfl, rfl, (zf_no (b := soft a) (by decide) (by decide)).trans rfl⟩) rfl)
    · rw [if_neg (show ¬ z 4 = 3 by decide)]
      exact k5n (by decide) a g2 fr2 M2 rfl F2 N2 ON rfl (silAll_cong rfl rfl (fun n _ _ => ⟨rfl, rfl, rfl, rfl, (zf_no (b := a) (by decide) (by decide)).trans rfl⟩) rfl)
    · rw [if_neg (show ¬ z 5 = 3 by decide)]
      unfold w_X10_tried_123
      rw [if_pos (show z 5 = 5 from rfl)]
      refine m_adds (o := 0) (fr := 0) (to := 47) (l := 8) N2 ⟨ON1.1, n12⟩ (by omega) (fun g3 f3 N3 => ?_)
      have Ob : OkN (adR a 3 (nz0 i 0 0 47 8)) := by
        refine ⟨by rw [adR_n]; omega, fun n c1 c2 => ?_⟩
        rw [adR_n] at c2
        by_cases en : n = a.n 3
        · subst en
          rw [adR_in, adR_in, adR_in, adR_in, adR_in, adR_in]
          exact ⟨⟨h1, h2⟩, ⟨by show (-1 : Int) ≤ 0; omega, by show (0 : Int) < 4; omega⟩, ⟨by show (0 : Int) ≤ 0; omega, by show (0 : Int) ≤ 47; omega, by show (47 : Int) ≤ 47; omega⟩, ⟨by show (-100 : Int) ≤ 8; omega, by show (8 : Int) ≤ 20; omega⟩, Or.inl rfl⟩
        · rw [adR_out (by omega), adR_out (by omega), adR_out (by omega), adR_out (by omega), adR_out (by omega), adR_out (by omega)]
          exact ON.2 n c1 (by omega)
      have Mb : MT g3 (adR a 3 (nz0 i 0 0 47 8)) := M2.at' (fun c j b1 b2 => f3 c j (by omega) (by omega))
      refine m_triedEnd Mb n4.2.2.2.2.1 (F2.at' (fun j => f3 50 j (by omega) (by omega))) N3 Ob F3 n4.1.1 hk hi (fun g4 f4 => ?_)
      have es : silAll (zf (adR a 3 (nz0 i 0 0 47 8)) 5 i) F = silAll (tw a 5 i) F := silAll_cong rfl rfl (fun n c1 c2 => by
        have z5 : (zf (adR a 3 (nz0 i 0 0 47 8)) 5 i).f 3 5 n = (adR a 3 (nz0 i 0 0 47 8)).f 3 5 n := zf_no (by decide) (by decide)
        have q : ∀ cc : Nat, cc ≠ 1 → (adR a 3 (nz0 i 0 0 47 8)).f 3 cc n = (tw a 5 i).f 3 cc n := by
          intro cc hcc
          show (adR a 3 (nz0 i 0 0 47 8)).f 3 cc n = (adR a 3 (nz5 i)).f 3 cc n
          by_cases en : n = a.n 3
          · subst en
            rw [adR_in, adR_in]
            unfold nz0 nz5
            rw [if_neg hcc, if_neg hcc]
          · rw [adR_out (by omega), adR_out (by omega)]
        exact ⟨q 0 (by decide), q 2 (by decide), q 3 (by decide), q 4 (by decide), z5.trans (q 5 (by decide))⟩) rfl
      rw [es]
      exact hq g4 (fun c j hc => ((fr2 c j hc).tr (f3 c j (by unfold scrM at hc; omega) (by unfold scrM at hc; omega))).tr (f4 c j (lw c j hc).1 (lw c j hc).2.1 (lw c j hc).2.2))
  have s101 : w_X10_tried_101 Q (z k) (z i) (if k = 0 then 0 else gI g1 42 0) g1 := by
    unfold w_X10_tried_101
    by_cases k4 : k = 4
    · rw [if_pos (by rw [k4]; rfl)]
      exact s111 _ (by rw [if_pos k4])
    · rw [if_neg (show ¬ z k = 4 from z_ne hk.1 hk.2 (by decide) (by decide) k4)]
      exact s111 _ (by rw [if_neg k4]; rfl)
  by_cases k0 : k = 0
  · rw [if_pos (show z k = 0 by rw [k0]; rfl)]
    rw [if_pos k0] at s101
    exact s101
  · rw [if_neg (show ¬ z k = 0 from z_ne hk.1 hk.2 (by decide) (by decide) k0), iN_0]
    rw [if_neg k0] at s101
    exact s101
end TR10
