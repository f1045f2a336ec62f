section LAYQ
variable {h : PH} {a : Wd} {j : Int}
theorem m_layPieces {Q : PH → Prop} (M : MW h a) (hq : ∀ g, (∀ c k, ¬ scrM c k → At h g c k) → PcM g a → Q g) : w_X10_layPieces h Q := by
  have N := M.2.2
  have OL := N.1
  have h6 := OL.1
  have sr := spS_rg h6
  unfold w_X10_layPieces
  refine m_layDay M.1 M.2.1 M.2.2 (fun g1 f1 D1 => ?_)
  rintro _ rfl
  have F1 : ∀ c k, ¬ scrM c k → At h (sI g1 0 76 0) c k := fun c k hc => (f1 c k (by unfold scrM at hc; unfold dayR; omega)).sI (by unfold scrM at hc; omega)
  have M1 : MT (sI g1 0 76 0) a := D1.1.at' (fun c k b1 b2 => (At.rf g1 c k).sI (by omega))
  have B1 : WB (gI (sI g1 0 76 0) 42 0) a := by rw [gI_out (by omega)]; exact WB.of D1.2.1 OL
  have W1 : WM (sI g1 0 76 0) a (far a (-1)) := fun p m c0 c1 c2 c3 => by rw [gI_out (by omega)]; exact D1.2.2.2.2.2.2 p m c0 c1 c2 c3
  have FS1 : FS (sI g1 0 76 0) a (far a (-1)) := fun p m c0 c1 c2 c3 => by rw [gI_out (by omega)]; exact D1.2.2.2.2.1 p m c0 c1 c2 c3
  have e76 : gI (sI g1 0 76 0) 0 76 = 0 := gI_in rfl rfl
  clear D1 f1
  generalize sI g1 0 76 0 = h1 at *
  refine m_spans M1.1.1 FS1 N.2.1 h6 e76 (fun g2 f2 S2 => ?_)
  refine for10 (spS a) (fun i g => (∀ c k, ¬ (c = 60) → At g2 g c k) ∧ ∀ k : Int, 0 ≤ k → k < i → gI g 60 k.toNat = -1) 0 rfl (by omega) (by omega) (by omega) ⟨fun c k _ => At.rf g2 c k, fun k k0 k1 => by omega⟩ ?_ ?_
  · rintro kb i g i0 i1 ⟨hf, hJ⟩ hn
    unfold w_X10_layPieces_134
    rw [(hf 0 76 (by omega)).1, S2.1, if_neg (by rw [z_le (by omega) (by omega) (by omega) (by omega)]; omega), z_iN (a := i) (by omega) (by omega), z_inc]
    refine ⟨z_in (by omega) (by omega) (by omega), ?_⟩
    rintro _ rfl
    refine hn _ ⟨fun c k hc => (hf c k hc).sI (by omega), fun k k0 k1 => ?_⟩
    by_cases e : k = i
    · rw [e, gI_in rfl rfl]
    · rw [gI_out (by omega)]; exact hJ k k0 (by omega)
  · rintro kb g ⟨hf, hJ⟩
    unfold w_X10_layPieces_134
    rw [(hf 0 76 (by omega)).1, S2.1, if_pos (by rw [z_le (by omega) (by omega) (by omega) (by omega)]; omega)]
    rintro _ rfl
    have F3 : ∀ c k, ¬ (spC c k ∨ c = 60 ∨ (c = 0 ∧ k = 77)) → At h1 (sI g 0 77 0) c k := fun c k hc => ((f2 c k (fun x => hc (Or.inl x))).tr (hf c k (by omega))).sI (by omega)
    have S3 : SpM (sI g 0 77 0) a (spS a) (spS a) := S2.at' (fun c k hc => (hf c k (by unfold spC at hc; omega)).sI (by unfold spC at hc; omega))
    have J3 : ∀ k : Int, 0 ≤ k → k < spS a → gI (sI g 0 77 0) 60 k.toNat = z (labA (tch a) (spS a) 0 k) := fun k k0 k1 => by
      rw [gI_out (by omega), hJ k k0 k1]
      have := fsp_at (t := tch a) k0 k1
      unfold labA
      rw [if_neg (by omega)]; rfl
    have e77 : gI (sI g 0 77 0) 0 77 = z (cn (isF (tch a) (spS a)) 0) := gI_in rfl rfl
    clear hf hJ
    generalize sI g 0 77 0 = h3 at *
    refine for10 (spS a) (fun i g => (∀ c k, ¬ (c = 60 ∨ (c = 0 ∧ k = 77)) → At h3 g c k) ∧ (∀ k : Int, 0 ≤ k → k < spS a → gI g 60 k.toNat = z (labA (tch a) (spS a) i k)) ∧ gI g 0 77 = z (cn (isF (tch a) (spS a)) i)) 0 rfl (by omega) (by omega) (by omega) ⟨fun c k _ => At.rf h3 c k, J3, e77⟩ ?_ ?_
    · rintro kb2 i g4 i0 i1 ⟨hf, hJ, h77⟩ hn
      have fa := fsp_at (t := tch a) i0 i1
      have lr := lab_rg (t := tch a) i0 i1
      have cs := cn_s (f := isF (tch a) (spS a)) i0
      have cr := cn_rg (isF (tch a) (spS a)) i0
      unfold w_X10_layPieces_162
      rw [(hf 0 76 (by omega)).1, S3.1, if_neg (by rw [z_le (by omega) (by omega) (by omega) (by omega)]; omega), z_iN (a := i) (by omega) (by omega), hJ i i0 i1, z_inc]
      refine ⟨z_in (by omega) (by omega) (by omega), ?_⟩
      by_cases c : fsp (tch a) (spS a) i = i
      · have e1 : labA (tch a) (spS a) i i = -1 := by unfold labA; rw [if_neg (by omega)]
        have e2 : isF (tch a) (spS a) i = true := decide_eq_true c
        have e3 : cn (isF (tch a) (spS a)) i = lab (tch a) (spS a) i := by unfold lab; rw [c]
        rw [if_pos (show z (labA (tch a) (spS a) i i) = -1 by rw [e1]; rfl)]
        rw [e2, if_pos rfl] at cs
        refine ⟨z_in (by omega) (by omega) (by omega), ?_⟩
        rintro _ rfl
        rw [gI_out (by omega), h77, e3]
        have M4 : MT (sI g4 60 i.toNat (z (lab (tch a) (spS a) i))) a := M1.at' (fun c k b1 b2 => ((F3 c k (by unfold spC; omega)).tr (hf c k (by omega))).sI (by omega))
        have B4 : WB (gI (sI g4 60 i.toNat (z (lab (tch a) (spS a) i))) 42 0) a := by rw [gI_out (by omega), (hf 42 0 (by omega)).1, (F3 42 0 (by unfold spC; omega)).1]; exact B1
        have S4 : SpM (sI g4 60 i.toNat (z (lab (tch a) (spS a) i))) a (spS a) (spS a) := S3.at' (fun c k hc => (hf c k (by unfold spC at hc; omega)).sI (by unfold spC at hc; omega))
        have P4 : PmM (sI g4 60 i.toNat (z (lab (tch a) (spS a) i))) a i (fun j => decide (j = i)) := by
          refine ⟨fun k k0 k1 => ?_, decide_eq_true rfl, fun k hk => by rw [of_decide_eq_true hk]; exact ⟨⟨i0, i1⟩, con_rf i⟩⟩
          unfold mrk
          by_cases e : k = i
          · rw [if_pos (decide_eq_true e), e, gI_in rfl rfl]
          · rw [if_neg (show ¬ decide (k = i) = true by rw [decide_eq_false e]; decide), gI_out (by omega)]; exact hJ k k0 k1
        refine m_spreads M4 B4 OL S4 ⟨i0, i1⟩ c P4 (fun g5 f5 J5 => ?_)
        rintro _ rfl
        have e5 : gI g5 0 77 = z (lab (tch a) (spS a) i) := by rw [(f5 0 77 (by omega)).1, gI_out (by omega), h77, e3]
        rw [e5, z_inc]
        refine hn _ ⟨fun c k hc => ((((hf c k hc).sI (by omega)).tr (f5 c k (by omega))).sI (by omega)), fun k k0 k1 => by rw [gI_out (by omega)]; exact J5 k k0 k1, by rw [gI_in rfl rfl, cs, e3]⟩
      · have e1 : labA (tch a) (spS a) i i = lab (tch a) (spS a) i := by unfold labA; rw [if_pos (by omega)]
        have e2 : isF (tch a) (spS a) i = false := decide_eq_false c
        rw [e1, if_neg (show ¬ z (lab (tch a) (spS a) i) = -1 from z_ne (by omega) (by omega) (by decide) (by decide) (show lab (tch a) (spS a) i ≠ -1 by omega))]
        rw [e2, if_neg (by decide), Int.add_zero] at cs
        refine hn g4 ⟨hf, fun k k0 k1 => ?_, by rw [cs]; exact h77⟩
        rw [hJ k k0 k1]
        congr 1
        unfold labA
        by_cases d : fsp (tch a) (spS a) k < i
        · rw [if_pos d, if_pos (by omega)]
        · rw [if_neg d, if_neg]
          intro d2
          have e : fsp (tch a) (spS a) k = i := by omega
          have := fsp_self (t := tch a) k0 k1
          rw [e] at this
          exact c this
    · rintro kb2 g4 ⟨hf, hJ, h77⟩
      unfold w_X10_layPieces_162
      rw [(hf 0 76 (by omega)).1, S3.1, if_pos (by rw [z_le (by omega) (by omega) (by omega) (by omega)]; omega)]
      refine hq g4 (fun c k hc => ((F1 c k hc).tr (F3 c k (by unfold spC; unfold scrM at hc; omega))).tr (hf c k (by unfold scrM at hc; omega))) ⟨S3.at' (fun c k hc => hf c k (by unfold spC at hc; omega)), fun k k0 k1 => by rw [hJ k k0 k1, labA_S k0 k1], h77, fun p m c0 c1 c2 c3 => ?_, M1.at' (fun c k b1 b2 => (F3 c k (by unfold spC; omega)).tr (hf c k (by omega)))⟩
      rw [(hf 56 _ (by omega)).1, (F3 56 _ (by unfold spC; omega)).1]
      exact W1 p m c0 c1 c2 c3
def psC (c k : Nat) : Prop := c = 32 ∨ c = 33 ∨ (c = 0 ∧ k = 48) ∨ itC c k
theorem m_worthOfPiece {Q : Int32 → PH → Prop} (P : PcM h a) (W : Wf a.wo) (ON : OkN a) (OC : OkC a) (h6 : 0 ≤ a.n 0 ∧ a.n 0 ≤ 6) (hj : 0 ≤ j ∧ j < 1000) (hq : ∀ g, (∀ c k, ¬ psC c k → At h g c k) → gI g 0 85 = z (hB a j) → Q (z (wrt a (pcM a j al) (pcQ a j al) (pc (hB a j)) (pcF a j al))) g) : w_X10_worthOfPiece (z j) h Q := by
  have m1 := pcM_rg h6 al (j := j)
  have m2 := pcQ_rg h6 al (j := j)
  have m3 : 0 ≤ pcF a j al ∧ pcF a j al ≤ 48 := mi_rg _ _
  have m4 := hB_rg a j
  have m5 := pc_rg (hB a j)
  obtain ⟨fr, K⟩ := P.2.2.2.2.2.2.2.2.2.2.2.2.1
  unfold w_X10_worthOfPiece
  refine m_layIts P ON OC h6 hj (Or.inl ⟨rfl, rfl⟩) (fun g f e82 e83 e84 e86 e85 => ?_)
  rw [e85 rfl, e82, e83]
  refine m_pc m4.1 ?_
  show w_X10_worthOf _ _ _ (gI g 0 84) g _
  rw [e84]
  refine m_worthOf (K.at' (fun c k b1 b2 => f c k (by unfold itC; omega))) W (by omega) (by omega) (by omega) (by omega) (fun g2 f2 => ?_)
  exact hq g2 (fun c k hc => (f c k (fun x => hc (Or.inr (Or.inr (Or.inr x))))).tr (f2 c k (by unfold psC at hc; unfold lawC; omega))) (by rw [(f2 0 85 (by unfold lawC; omega)).1]; exact e85 rfl)
theorem m_worthOfSet {Q : Int32 → PH → Prop} {B : Int} (P : PcM h a) (W : Wf a.wo) (ON : OkN a) (OC : OkC a) (h6 : 0 ≤ a.n 0 ∧ a.n 0 ≤ 6) (hj : 0 ≤ j ∧ j < 1000) (hb : 0 ≤ B ∧ B < 16) (hq : ∀ g, (∀ c k, ¬ psC c k → At h g c k) → (B ≠ 0 → gI g 0 82 = z (pcM a j (okS B))) → Q (z (wos a j B)) g) : w_X10_worthOfSet (z j) (z B) h Q := by
  have m1 := pcM_rg h6 (okS B) (j := j)
  have m2 := pcQ_rg h6 (okS B) (j := j)
  have m3 : 0 ≤ pcF a j (okS B) ∧ pcF a j (okS B) ≤ 48 := mi_rg _ _
  have m5 := pc_rg B
  obtain ⟨fr, K⟩ := P.2.2.2.2.2.2.2.2.2.2.2.2.1
  unfold w_X10_worthOfSet
  unfold wos at hq
  by_cases c : B = 0
  · rw [if_pos (show z B = 0 by rw [c]; rfl)]
    rw [if_pos c] at hq
    exact hq h (fun c k _ => At.rf h c k) (fun x => absurd c x)
  rw [if_neg (show ¬ z B = 0 from z_ne (by omega) (by omega) (by decide) (by decide) c)]
  rw [if_neg c] at hq
  refine m_layIts P ON OC h6 hj (Or.inr ⟨B, rfl, hb, rfl⟩) (fun g f e82 e83 e84 e86 e85 => ?_)
  rw [e82, e83]
  refine m_pc hb.1 ?_
  show w_X10_worthOf _ _ _ (gI g 0 84) g _
  rw [e84]
  refine m_worthOf (K.at' (fun c k b1 b2 => f c k (by unfold itC; omega))) W (by omega) (by omega) (by omega) (by omega) (fun g2 f2 => ?_)
  exact hq g2 (fun c k hc => (f c k (fun x => hc (Or.inr (Or.inr (Or.inr x))))).tr (f2 c k (by unfold psC at hc; unfold lawC; omega))) (fun _ => by rw [(f2 0 82 (by unfold lawC; omega)).1]; exact e82)
theorem m_fac {n : Int} {Q : Int32 → PH → Prop} (h0 : 0 ≤ n ∧ n ≤ 10) (hq : Q (z (fac n)) h) : w_X10_factorial (z n) h Q := by
  unfold w_X10_factorial
  unfold fac at hq
  by_cases c : 2 ≤ n
  · rw [zn_2, if_pos (by rw [z_le (by omega) (by omega) (by omega) (by omega)]; omega)]
    rw [if_neg (by omega)] at hq
    by_cases c2 : n = 2
    · rw [if_pos (by rw [c2])]
      rw [if_pos c2] at hq
      exact hq
    · rw [if_neg (z_ne (by omega) (by omega) (by omega) (by omega) c2), zn_3]
      rw [if_neg c2] at hq
      by_cases c3 : n = 3
      · rw [if_pos (by rw [c3])]
        rw [if_pos c3] at hq
        exact hq
      · rw [if_neg (z_ne (by omega) (by omega) (by omega) (by omega) c3)]
        rw [if_neg c3] at hq
        exact hq
  · rw [zn_2, if_neg (by rw [z_le (by omega) (by omega) (by omega) (by omega)]; omega)]
    rw [if_pos (by omega)] at hq
    exact hq
end LAYQ
