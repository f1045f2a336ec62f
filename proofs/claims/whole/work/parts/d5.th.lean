/-! ===== signs ===== -/
def sgV (c d : Int) : Int := if c = 60 ∧ d = 61 then 256 else if c = 60 ∧ d = 62 then 257 else if c = 62 ∧ d = 61 then 258 else c
def tenS (c : Int) : Bool := decide (c = 59) || decide (c = 40) || decide (c = 41) || decide (c = 43) || decide (c = 45) || decide (c = 42) || decide (c = 47) || decide (c = 60) || decide (c = 61) || decide (c = 62)
def sgL : List Int := [59, 40, 41, 43, 45, 42, 47, 60, 61, 62]
theorem sg_tab : ∀ c : Fin 256, (((z ((c.val : Nat) : Int) : Int32).toUInt32 % 65536).toInt32 = z ((c.val : Nat) : Int)) ∧ ∀ i : Fin 10, decide (sByt 1 i.val = (z ((c.val : Nat) : Int) : Int32).toInt8.toInt32) = decide (sgL.getD i.val 0 = ((c.val : Nat) : Int)) := by decide +kernel
theorem ten_tab : ∀ i : Fin 10, tenS (sgL.getD i.val 0) = true := by decide
theorem ten_no {c : Int} (h : ∀ j : Int, 0 ≤ j → j < 10 → sgL.getD j.toNat 0 ≠ c) : tenS c = false := by
  have h0 := h 0 (by omega) (by omega)
  have h1 := h 1 (by omega) (by omega)
  have h2 := h 2 (by omega) (by omega)
  have h3 := h 3 (by omega) (by omega)
  have h4 := h 4 (by omega) (by omega)
  have h5 := h 5 (by omega) (by omega)
  have h6 := h 6 (by omega) (by omega)
  have h7 := h 7 (by omega) (by omega)
  have h8 := h 8 (by omega) (by omega)
  have h9 := h 9 (by omega) (by omega)
  replace h0 : (59 : Int) ≠ c := h0
  replace h1 : (40 : Int) ≠ c := h1
  replace h2 : (41 : Int) ≠ c := h2
  replace h3 : (43 : Int) ≠ c := h3
  replace h4 : (45 : Int) ≠ c := h4
  replace h5 : (42 : Int) ≠ c := h5
  replace h6 : (47 : Int) ≠ c := h6
  replace h7 : (60 : Int) ≠ c := h7
  replace h8 : (61 : Int) ≠ c := h8
  replace h9 : (62 : Int) ≠ c := h9
  unfold tenS
  rw [decide_eq_false (fun x => h0 x.symm), decide_eq_false (fun x => h1 x.symm), decide_eq_false (fun x => h2 x.symm), decide_eq_false (fun x => h3 x.symm), decide_eq_false (fun x => h4 x.symm), decide_eq_false (fun x => h5 x.symm), decide_eq_false (fun x => h6 x.symm), decide_eq_false (fun x => h7 x.symm), decide_eq_false (fun x => h8 x.symm), decide_eq_false (fun x => h9 x.symm)]
  rfl
theorem x_indexOf {h : PH} {c : Int} {Q : Int32 → PH → Prop} (hc : 0 ≤ c ∧ c < 256) (hq : ∀ r : Int, -1 ≤ r ∧ r < 10 → (0 ≤ r ↔ tenS c = true) → Q (z r) h) : w_J0_indexOf_0f7a4 1 (((z c : Int32).toUInt32 % 65536).toInt32) h Q := by
  have t := sg_tab ⟨c.toNat, by omega⟩
  simp only [show ((c.toNat : Nat) : Int) = c by omega] at t
  obtain ⟨t1, t2⟩ := t
  unfold w_J0_indexOf_0f7a4 w_J0_indexOf_7cf53 w_J0_isLatin1_aae02
  rw [if_neg (by decide), if_pos (by decide)]
  dsimp only
  rw [if_neg (by decide)]
  unfold w_J0_length_8abf5 w_J0_coder_7d493
  rw [if_neg (by decide)]
  dsimp only
  rw [t1]
  unfold w_J1_indexOf_4cfef w_J1_canEncode_9a6ad
  rw [zn_0, if_neg (by rw [z_lt (by omega) (by omega) (by omega) (by omega)]; omega), zn_255, if_neg (by rw [z_lt (by omega) (by omega) (by omega) (by omega)]; omega)]
  dsimp only
  rw [if_neg (by decide)]
  rintro _ rfl _ rfl
  rw [if_pos (by decide)]
  unfold w_J1_indexOfChar_4cfef
  rintro _ rfl
  refine for10 10 (fun i g => g = h ∧ ∀ j : Int, 0 ≤ j → j < i → sgL.getD j.toNat 0 ≠ c) 0 (by decide) (by omega) (by omega) (by omega) ⟨rfl, fun j j0 j1 => by omega⟩ ?_ ?_
  · rintro kb i g i0 i1 ⟨rfl, hJ⟩ hn
    have t3 := t2 ⟨i.toNat, by omega⟩
    simp only at t3
    unfold w_J1_indexOfChar_4cfef_7
    rw [show mnI (Int32.ofNat (sLen 1) >>> (z 0 &&& 31)) (Int32.ofNat (sLen 1)) = z 10 by decide, if_neg (by rw [z_le (by omega) (by omega) (by omega) (by omega)]; omega)]
    refine ⟨z_in i0 (by omega) (show i < ((10 : Nat) : Int) by omega), ?_⟩
    rw [z_iN (a := i) (by omega) (by omega)]
    by_cases e : sgL.getD i.toNat 0 = c
    · rw [decide_eq_true e, decide_eq_true_eq] at t3
      rw [if_pos t3]
      refine hq i (by omega) ⟨fun _ => ?_, fun _ => i0⟩
      have := ten_tab ⟨i.toNat, by omega⟩
      simp only at this
      rw [e] at this
      exact this
    · rw [decide_eq_false e, decide_eq_false_iff_not] at t3
      rw [if_neg t3, z_inc]
      refine hn _ ⟨rfl, fun j j0 j1 => ?_⟩
      by_cases x : j = i
      · rw [x]; exact e
      · exact hJ j j0 (by omega)
  · rintro kb g ⟨rfl, hJ⟩
    unfold w_J1_indexOfChar_4cfef_7
    rw [show mnI (Int32.ofNat (sLen 1) >>> (z 0 &&& 31)) (Int32.ofNat (sLen 1)) = z 10 by decide, if_pos (by rw [z_le (by omega) (by omega) (by omega) (by omega)]; omega)]
    refine hq (-1) (by omega) ⟨fun x => by omega, fun x => ?_⟩
    rw [ten_no hJ] at x
    exact absurd x (by decide)
section SIGN
variable {h : PH} {T : Int → Int} {L p : Int}
def sgE (T : Int → Int) (L p : Int) : Int := if 256 ≤ sgV (tat T L p) (tat T L (p + 1)) then p + 2 else p + 1
theorem sgV_hi {c d : Int} (h : c < 256) (hp : 256 ≤ sgV c d) : (c = 60 ∧ d = 61 ∧ sgV c d = 256) ∨ (c = 60 ∧ d = 62 ∧ sgV c d = 257) ∨ (c = 62 ∧ d = 61 ∧ sgV c d = 258) := by
  unfold sgV at *
  split at hp
  · rename_i e; exact Or.inl ⟨e.1, e.2, if_pos e⟩
  · split at hp
    · rename_i e1 e; exact Or.inr (Or.inl ⟨e.1, e.2, by rw [if_neg e1, if_pos e]⟩)
    · split at hp
      · rename_i e1 e2 e; exact Or.inr (Or.inr ⟨e.1, e.2, by rw [if_neg e1, if_neg e2, if_pos e]⟩)
      · omega
theorem x_takeSign {Q : PH → Prop} (S : ScX h T L) (hp : 0 ≤ p ∧ p < L) (e : gI h 3 3 = z p) (hq : ∀ g, (∀ c q, ¬ (c = 3 ∧ (q = 3 ∨ q = 4 ∨ q = 6)) → At h g c q) → gI g 3 3 = z (sgE T L p) → gI g 3 4 = z (if tenS (tat T L p) = true then 5 else 1) → gI g 3 6 = z (sgV (tat T L p) (tat T L (p + 1))) → Q g) : w_X7_takeSign (z (tat T L p)) h Q := by
  have s3 := S.2.2.1
  have tc : 0 ≤ tat T L p ∧ tat T L p < 256 := by
    have := S.2.2.2.2.1 p
    unfold tat
    rw [if_pos (by omega)]
    exact this
  have td := tat_rg (L := L) S.2.2.2.2.1 (p + 1)
  unfold sgE at hq
  unfold w_X7_takeSign
  rintro _ rfl _ rfl _ rfl
  rw [gI_in rfl rfl, gI_out (by omega), gI_out (by omega), e, z_inc]
  have f : ∀ c q, ¬ (c = 3 ∧ (q = 3 ∨ q = 4 ∨ q = 6)) → At h (sI (sI (sI h 3 4 5) 3 6 (z (tat T L p))) 3 3 (z (p + 1))) c q := fun c q hc => (((At.rf h c q).sI (by omega)).sI (by omega)).sI (by omega)
  have g3 : gI (sI (sI (sI h 3 4 5) 3 6 (z (tat T L p))) 3 3 (z (p + 1))) 3 3 = z (p + 1) := gI_in rfl rfl
  have g6 : gI (sI (sI (sI h 3 4 5) 3 6 (z (tat T L p))) 3 3 (z (p + 1))) 3 6 = z (tat T L p) := by rw [gI_out (by omega), gI_in rfl rfl]
  have g4 : gI (sI (sI (sI h 3 4 5) 3 6 (z (tat T L p))) 3 3 (z (p + 1))) 3 4 = z 5 := by rw [gI_out (by omega), gI_out (by omega), gI_in rfl rfl]; rfl
  generalize sI (sI (sI h 3 4 5) 3 6 (z (tat T L p))) 3 3 (z (p + 1)) = g at *
  have S1 : ScX g T L := S.at' (fun c k hc => f c k (by omega))
  refine x_signAt S1 ⟨by omega, by omega⟩ ?_
  generalize tat T L p = c at *
  generalize tat T L (p + 1) = d at *
  have pair : ∀ v : Int, tenS c = true → sgV c d = v → 256 ≤ v → (∀ h13, h13 = sI g 3 6 (z v) → ∀ h14, h14 = sI h13 3 3 ((gI h13 3 3) + 1) → Q h14) := fun v tn ev hv => by
    rintro _ rfl _ rfl
    rw [ev, if_pos hv, if_pos tn] at hq
    rw [gI_out (by omega), g3, z_inc]
    exact hq _ (fun c q hc => ((f c q hc).sI (by omega)).sI (by omega)) (by rw [gI_in rfl rfl]; congr 1; omega) (by rw [gI_out (by omega), gI_out (by omega)]; exact g4) (by rw [gI_out (by omega), gI_in rfl rfl])
  have one : sgV c d = c → w_X7_takeSign_125 Q (z c) g := fun ev => by
    rw [ev, if_neg (by omega)] at hq
    unfold w_X7_takeSign_125
    refine x_indexOf tc (fun r hr hi => ?_)
    by_cases b : 0 ≤ r
    · rw [zn_0, if_pos (by rw [z_le (by omega) (by omega) (by omega) (by omega)]; omega)]
      rw [if_pos (hi.mp b)] at hq
      exact hq g f g3 g4 g6
    · rw [zn_0, if_neg (by rw [z_le (by omega) (by omega) (by omega) (by omega)]; omega)]
      rw [if_neg (fun x => b (hi.mpr x))] at hq
      rintro _ rfl
      exact hq _ (fun c q hc => (f c q hc).sI (by omega)) (by rw [gI_out (by omega)]; exact g3) (gI_in rfl rfl) (by rw [gI_out (by omega)]; exact g6)
  have third : ¬ (c = 60 ∧ d = 61) → ¬ (c = 60 ∧ d = 62) → w_X7_takeSign_93 Q (z c) (z d) g := fun n1 n2 => by
    unfold w_X7_takeSign_93
    by_cases c3 : c = 62
    · rw [if_pos (by rw [c3]; rfl)]
      by_cases d3 : d = 61
      · rw [if_pos (by rw [d3]; rfl)]
        exact pair 258 (by rw [c3]; decide) (by unfold sgV; rw [if_neg n1, if_neg n2, if_pos ⟨c3, d3⟩]) (by omega)
      · rw [if_neg (show ¬ z d = 61 from z_ne (by omega) (by omega) (by decide) (by decide) d3)]
        exact one (by unfold sgV; rw [if_neg n1, if_neg n2, if_neg (fun x => d3 x.2)])
    · rw [if_neg (show ¬ z c = 62 from z_ne (by omega) (by omega) (by decide) (by decide) c3)]
      exact one (by unfold sgV; rw [if_neg n1, if_neg n2, if_neg (fun x => c3 x.1)])
  have second : ¬ (c = 60 ∧ d = 61) → w_X7_takeSign_61 Q (z c) (z d) g := fun n1 => by
    unfold w_X7_takeSign_61
    by_cases c2 : c = 60
    · rw [if_pos (by rw [c2]; rfl)]
      by_cases d2 : d = 62
      · rw [if_pos (by rw [d2]; rfl)]
        exact pair 257 (by rw [c2]; decide) (by unfold sgV; rw [if_neg n1, if_pos ⟨c2, d2⟩]) (by omega)
      · rw [if_neg (show ¬ z d = 62 from z_ne (by omega) (by omega) (by decide) (by decide) d2)]
        exact third n1 (fun x => d2 x.2)
    · rw [if_neg (show ¬ z c = 60 from z_ne (by omega) (by omega) (by decide) (by decide) c2)]
      exact third n1 (fun x => c2 x.1)
  by_cases c1 : c = 60
  · rw [if_pos (by rw [c1]; rfl)]
    by_cases d1 : d = 61
    · rw [if_pos (by rw [d1]; rfl)]
      exact pair 256 (by rw [c1]; decide) (by unfold sgV; rw [if_pos ⟨c1, d1⟩]) (by omega)
    · rw [if_neg (show ¬ z d = 61 from z_ne (by omega) (by omega) (by decide) (by decide) d1)]
      exact second (fun x => d1 x.2)
  · rw [if_neg (show ¬ z c = 60 from z_ne (by omega) (by omega) (by decide) (by decide) c1)]
    exact second (fun x => c1 x.1)
theorem m_sign {Q : PH → Prop} (S : ScM h T L) (hp : 0 ≤ p ∧ p < L) (e : gI h 0 36 = z p) (hq : ∀ g, (∀ c q, ¬ (c = 0 ∧ (q = 36 ∨ q = 38 ∨ q = 39)) → At h g c q) → gI g 0 36 = z (sgE T L p) → gI g 0 38 = z (if tenS (tat T L p) = true then 3 else 5) → gI g 0 39 = z (sgV (tat T L p) (tat T L (p + 1))) → Q g) : w_X10_sign (z (tat T L p)) h Q := by
  have s3 := S.2.1
  have tc : 0 ≤ tat T L p ∧ tat T L p < 256 := by
    have := S.2.2.2 p
    unfold tat
    rw [if_pos (by omega)]
    exact this
  have td := tat_rg (L := L) S.2.2.2 (p + 1)
  unfold sgE at hq
  unfold w_X10_sign
  rintro _ rfl
  rw [e, z_inc]
  have go : ∀ v : Int, v = (if tenS (tat T L p) = true then 3 else 5) → w_X10_sign_76 Q (z (tat T L p)) (z v) (sI h 0 36 (z (p + 1))) := fun v hv => by
    unfold w_X10_sign_76
    rintro _ rfl _ rfl
    have f : ∀ c q, ¬ (c = 0 ∧ (q = 36 ∨ q = 38 ∨ q = 39)) → At h (sI (sI (sI h 0 36 (z (p + 1))) 0 38 (z v)) 0 39 (z (tat T L p))) c q := fun c q hc => (((At.rf h c q).sI (by omega)).sI (by omega)).sI (by omega)
    have g3 : gI (sI (sI (sI h 0 36 (z (p + 1))) 0 38 (z v)) 0 39 (z (tat T L p))) 0 36 = z (p + 1) := by rw [gI_out (by omega), gI_out (by omega), gI_in rfl rfl]
    have g6 : gI (sI (sI (sI h 0 36 (z (p + 1))) 0 38 (z v)) 0 39 (z (tat T L p))) 0 39 = z (tat T L p) := gI_in rfl rfl
    have g4 : gI (sI (sI (sI h 0 36 (z (p + 1))) 0 38 (z v)) 0 39 (z (tat T L p))) 0 38 = z (if tenS (tat T L p) = true then 3 else 5) := by rw [gI_out (by omega), gI_in rfl rfl, hv]
    clear hv
    generalize sI (sI (sI h 0 36 (z (p + 1))) 0 38 (z v)) 0 39 (z (tat T L p)) = g at *
    have S1 : ScM g T L := S.at' (fun c k hc => f c k (by omega))
    have he : ∀ Q' : Int32 → PH → Prop, ∀ g', (∀ c k, ¬ (c = 0 ∧ k = 39) → At g g' c k) → Q' (z (tat T L (p + 1))) g' → w_X10_here g' Q' := fun Q' g' hf hQ => m_here (S1.at' (fun c k hc => hf c k (by omega))) (by omega) (by rw [(hf 0 36 (by omega)).1]; exact g3) hQ
    generalize tat T L p = c at *
    generalize tat T L (p + 1) = d at *
    have fin : ∀ g', (∀ c k, ¬ (c = 0 ∧ k = 39) → At g g' c k) → gI g' 0 39 = z (sgV c d) → w_X10_sign_150 Q g' := fun g' hf e9 => by
      unfold w_X10_sign_150
      have e6 : gI g' 0 36 = z (p + 1) := by rw [(hf 0 36 (by omega)).1]; exact g3
      have e8 : gI g' 0 38 = z (if tenS c = true then 3 else 5) := by rw [(hf 0 38 (by omega)).1]; exact g4
      have rv : 0 ≤ sgV c d ∧ sgV c d < 300 := by unfold sgV; split <;> (try split) <;> (try split) <;> omega
      rw [e9, zn_256]
      by_cases b : 256 ≤ sgV c d
      · rw [if_neg (by rw [z_lt (by omega) (by omega) (by omega) (by omega)]; omega)]
        rw [if_pos b] at hq
        rintro _ rfl
        rw [e6, z_inc]
        exact hq _ (fun c k hc => ((f c k hc).tr (hf c k (by omega))).sI (by omega)) (by rw [gI_in rfl rfl]; congr 1; omega) (by rw [gI_out (by omega)]; exact e8) (by rw [gI_out (by omega)]; exact e9)
      · rw [if_pos (by rw [z_lt (by omega) (by omega) (by omega) (by omega)]; omega)]
        rw [if_neg b] at hq
        exact hq _ (fun c k hc => (f c k hc).tr (hf c k (by omega))) e6 e8 e9
    have rf : ∀ c k, ¬ (c = 0 ∧ k = 39) → At g g c k := fun c k _ => At.rf g c k
    have s3 : ∀ g', (∀ c k, ¬ (c = 0 ∧ k = 39) → At g g' c k) → gI g' 0 39 = z (if c = 60 ∧ d = 61 then 256 else if c = 60 ∧ d = 62 then 257 else c) → w_X10_sign_128 Q (z c) g' := fun g' hf e9 => by
      unfold w_X10_sign_128
      by_cases c3 : c = 62
      · rw [if_pos (by rw [c3]; rfl)]
        refine he _ g' hf ?_
        by_cases d3 : d = 61
        · rw [if_pos (by rw [d3]; rfl)]
          rintro _ rfl
          have f2 : ∀ c k, ¬ (c = 0 ∧ k = 39) → At g (sI g' 0 39 258) c k := fun c k hc => (hf c k hc).sI (by omega)
          generalize hG : sI g' 0 39 258 = g2 at *
          refine fin g2 f2 ?_
          rw [← hG]
          rw [gI_in rfl rfl]
          unfold sgV
          rw [if_neg (by omega), if_neg (by omega), if_pos ⟨c3, d3⟩]
          rfl
        · rw [if_neg (show ¬ z d = 61 from z_ne (by omega) (by omega) (by decide) (by decide) d3)]
          refine fin g' hf ?_
          rw [e9]
          unfold sgV
          rw [if_neg (fun x : c = 62 ∧ d = 61 => d3 x.2)]
      · rw [if_neg (show ¬ z c = 62 from z_ne (by omega) (by omega) (by decide) (by decide) c3)]
        refine fin g' hf ?_
        rw [e9]
        unfold sgV
        rw [if_neg (fun x : c = 62 ∧ d = 61 => c3 x.1)]
    have s2 : ∀ g', (∀ c k, ¬ (c = 0 ∧ k = 39) → At g g' c k) → gI g' 0 39 = z (if c = 60 ∧ d = 61 then 256 else c) → w_X10_sign_106 Q (z c) g' := fun g' hf e9 => by
      unfold w_X10_sign_106
      by_cases c2 : c = 60
      · rw [if_pos (by rw [c2]; rfl)]
        refine he _ g' hf ?_
        by_cases d2 : d = 62
        · rw [if_pos (by rw [d2]; rfl)]
          rintro _ rfl
          refine s3 _ (fun c k hc => (hf c k hc).sI (by omega)) ?_
          rw [gI_in rfl rfl, if_neg (by omega), if_pos ⟨c2, d2⟩]
          rfl
        · rw [if_neg (show ¬ z d = 62 from z_ne (by omega) (by omega) (by decide) (by decide) d2)]
          refine s3 g' hf ?_
          rw [e9, if_neg (fun x : c = 60 ∧ d = 62 => d2 x.2)]
      · rw [if_neg (show ¬ z c = 60 from z_ne (by omega) (by omega) (by decide) (by decide) c2)]
        refine s3 g' hf ?_
        rw [e9, if_neg (fun x : c = 60 ∧ d = 62 => c2 x.1)]
    by_cases c1 : c = 60
    · rw [if_pos (by rw [c1]; rfl)]
      refine he _ g rf ?_
      by_cases d1 : d = 61
      · rw [if_pos (by rw [d1]; rfl)]
        rintro _ rfl
        refine s2 _ (fun c k hc => (At.rf g c k).sI (by omega)) ?_
        rw [gI_in rfl rfl, if_pos ⟨c1, d1⟩]
        rfl
      · rw [if_neg (show ¬ z d = 61 from z_ne (by omega) (by omega) (by decide) (by decide) d1)]
        exact s2 g rf (by rw [g6, if_neg (fun x : c = 60 ∧ d = 61 => d1 x.2)])
    · rw [if_neg (show ¬ z c = 60 from z_ne (by omega) (by omega) (by decide) (by decide) c1)]
      exact s2 g rf (by rw [g6, if_neg (fun x : c = 60 ∧ d = 61 => c1 x.1)])
  have yes : tenS (tat T L p) = true → w_X10_sign_71 Q (z (tat T L p)) (sI h 0 36 (z (p + 1))) := fun t => by
    unfold w_X10_sign_71
    exact go 3 (by rw [if_pos t])
  generalize tat T L p = c at *
  by_cases c0 : c = 59
  · rw [if_pos (by rw [c0]; rfl)]; exact yes (by rw [c0]; decide)
  rw [if_neg (show ¬ z c = 59 from z_ne (by omega) (by omega) (by decide) (by decide) c0)]
  by_cases c1 : c = 40
  · rw [if_pos (by rw [c1]; rfl)]; exact yes (by rw [c1]; decide)
  rw [if_neg (show ¬ z c = 40 from z_ne (by omega) (by omega) (by decide) (by decide) c1)]
  by_cases c2 : c = 41
  · rw [if_pos (by rw [c2]; rfl)]; exact yes (by rw [c2]; decide)
  rw [if_neg (show ¬ z c = 41 from z_ne (by omega) (by omega) (by decide) (by decide) c2)]
  by_cases c3 : c = 43
  · rw [if_pos (by rw [c3]; rfl)]; exact yes (by rw [c3]; decide)
  rw [if_neg (show ¬ z c = 43 from z_ne (by omega) (by omega) (by decide) (by decide) c3)]
  by_cases c4 : c = 45
  · rw [if_pos (by rw [c4]; rfl)]; exact yes (by rw [c4]; decide)
  rw [if_neg (show ¬ z c = 45 from z_ne (by omega) (by omega) (by decide) (by decide) c4)]
  by_cases c5 : c = 42
  · rw [if_pos (by rw [c5]; rfl)]; exact yes (by rw [c5]; decide)
  rw [if_neg (show ¬ z c = 42 from z_ne (by omega) (by omega) (by decide) (by decide) c5)]
  by_cases c6 : c = 47
  · rw [if_pos (by rw [c6]; rfl)]; exact yes (by rw [c6]; decide)
  rw [if_neg (show ¬ z c = 47 from z_ne (by omega) (by omega) (by decide) (by decide) c6)]
  by_cases c7 : c = 60
  · rw [if_pos (by rw [c7]; rfl)]; exact yes (by rw [c7]; decide)
  rw [if_neg (show ¬ z c = 60 from z_ne (by omega) (by omega) (by decide) (by decide) c7)]
  by_cases c8 : c = 61
  · rw [if_pos (by rw [c8]; rfl)]; exact yes (by rw [c8]; decide)
  rw [if_neg (show ¬ z c = 61 from z_ne (by omega) (by omega) (by decide) (by decide) c8)]
  by_cases c9 : c = 62
  · rw [if_pos (by rw [c9]; rfl)]; exact yes (by rw [c9]; decide)
  rw [if_neg (show ¬ z c = 62 from z_ne (by omega) (by omega) (by decide) (by decide) c9)]
  exact go 5 (by unfold tenS; rw [decide_eq_false c0, decide_eq_false c1, decide_eq_false c2, decide_eq_false c3, decide_eq_false c4, decide_eq_false c5, decide_eq_false c6, decide_eq_false c7, decide_eq_false c8, decide_eq_false c9]; rfl)
end SIGN
