section JOINY
variable {h : PH} {w : Nat} {a : Wd}
def lkB (a : Wd) (p q l : Int) : Bool := decide (a.f 1 3 l = 0) && ((decide (a.f 1 0 l = p) && decide (a.f 1 1 l = q)) || (decide (a.f 1 0 l = q) && decide (a.f 1 1 l = p)))
def besN (a : Wd) (i p q : Int) : Bool := !decide (ff (lkB a p q) i = -1)
theorem besN_s {i p q : Int} (h0 : 0 ≤ i) : besN a (i + 1) p q = (besN a i p q || lkB a p q i) := by
  unfold besN
  rw [ff_s h0]
  cases decide (ff (lkB a p q) i = -1) <;> cases lkB a p q i <;> rfl
theorem besN_0 {p q : Int} : besN a 0 p q = false := by
  unfold besN
  rw [ff_no (fun j j0 j1 => by omega), decide_eq_true rfl]; rfl
theorem besN_e {p q : Int} : besN a (a.n 1) p q = besB a p q := by
  unfold besN besB lkB
  rw [decide_not]
def BsN (h : PH) (a : Wd) (i : Int) : Prop := ∀ p : Int, 0 ≤ p → p < 6 → ∀ q : Nat, q < 32 → bt (gI h 117 p.toNat) q = besN a i p q
theorem bt_0 : ∀ i, i < 32 → bt 0 i = false := by decide +kernel
theorem fsp_self {t : Int → Int → Bool} {S k : Int} (h0 : 0 ≤ k) (h1 : k < S) : fsp t S (fsp t S k) = fsp t S k := by
  have a := fsp_at (t := t) h0 h1
  obtain ⟨b1, b2, b3, b4⟩ := fsp_at (t := t) a.1 (by omega : fsp t S k < S)
  have : ¬ fsp t S (fsp t S k) < fsp t S k := fun x => a.2.2.2 _ b1 x (con_tr b3 a.2.2.1)
  omega
def PcA (h : PH) (a : Wd) : Prop := SpA h a (labA (tch a) (spS a) (spS a)) ∧ Rw h 115 6 144 (pcN a)
theorem x_link117 {Q : PH → Prop} {i : Int} (B : BsN h a i) (h0 : 0 ≤ i) (hp : 0 ≤ a.f 1 0 i ∧ a.f 1 0 i < 6) (hr : 0 ≤ a.f 1 1 i ∧ a.f 1 1 i < 6) (h3 : a.f 1 3 i = 0) (hq : ∀ g, (∀ c k, ¬ (c = 117) → At h g c k) → BsN g a (i + 1) → Q g) : ∀ h16, h16 = sI h 117 (iN (z (a.f 1 0 i))) ((gI h 117 (iN (z (a.f 1 0 i)))) ||| ((1 : Int32) <<< ((z (a.f 1 1 i)) &&& 31))) → ∀ h19, h19 = sI h16 117 (iN (z (a.f 1 1 i))) ((gI h16 117 (iN (z (a.f 1 1 i)))) ||| ((1 : Int32) <<< ((z (a.f 1 0 i)) &&& 31))) → Q h19 := by
  rintro _ rfl _ rfl
  rw [z_iN (a := a.f 1 0 i) (by omega) (by omega), z_iN (a := a.f 1 1 i) (by omega) (by omega)]
  refine hq _ (fun c k hc => ((At.rf h c k).sI (by omega)).sI (by omega)) (fun p p0 p1 q hq => ?_)
  have b0 := B p p0 p1 q hq
  rw [besN_s h0, ← b0]
  unfold lkB
  rw [decide_eq_true h3, Bool.true_and]
  generalize a.f 1 0 i = A at *
  generalize a.f 1 1 i = C at *
  by_cases e1 : p = C
  · rw [e1, gI_in rfl rfl, bt_on (by omega) (by omega) hq]
    by_cases e2 : C = A
    · rw [e2, gI_in rfl rfl, bt_on (by omega) (by omega) hq, ← e2]
      by_cases e3 : C = q
      · rw [decide_eq_true (by omega : q = C.toNat), decide_eq_true e3, decide_eq_true rfl]; simp
      · rw [decide_eq_false (by omega : ¬ q = C.toNat), decide_eq_false e3]; simp
    · rw [gI_out (by omega), decide_eq_false (fun x => e2 x.symm : ¬ A = C)]
      by_cases e3 : A = q
      · rw [decide_eq_true (by omega : q = A.toNat), decide_eq_true e3, decide_eq_true rfl]; simp
      · rw [decide_eq_false (by omega : ¬ q = A.toNat), decide_eq_false e3]; simp
  · rw [gI_out (by omega), decide_eq_false (fun x => e1 x.symm : ¬ C = p)]
    by_cases e2 : p = A
    · rw [e2, gI_in rfl rfl, bt_on (by omega) (by omega) hq]
      by_cases e3 : C = q
      · rw [decide_eq_true (by omega : q = C.toNat), decide_eq_true e3, decide_eq_true rfl]; simp
      · rw [decide_eq_false (by omega : ¬ q = C.toNat), decide_eq_false e3]; simp
    · rw [gI_out (by omega), decide_eq_false (fun x => e2 x.symm : ¬ A = p)]; simp
theorem x_joinSpans {Q : PH → Prop} (H : WX h w a) (OL : OkL a) (hw : w = 8 ∨ w = 31) (S : SpX h a (spS a)) (R0 : ∃ n, Rw h 115 6 144 n) (hq : ∀ g, (∀ c k, ¬ (114 ≤ c ∧ c ≤ 118) → At h g c k) → PcA g a → Q g) : w_X3_joinSpans w h Q := by
  have h6 := OL.1
  have h9 := OL.2.1
  have sr := spS_rg h6
  unfold w_X3_joinSpans
  refine for10 6 (fun p g => (∀ c k, ¬ (c = 117) → At h g c k) ∧ ∀ j : Int, 0 ≤ j → j < p → gI g 117 j.toNat = 0) 0 rfl (by omega) (by omega) (by omega) ⟨fun c k _ => At.rf h c k, fun j j0 j1 => by omega⟩ ?_ ?_
  · rintro kb p g p0 p1 ⟨hf, hS⟩ hk
    unfold w_X3_joinSpans_2
    rw [zn_6, if_neg (by rw [z_le (by omega) (by omega) (by omega) (by omega)]; omega)]
    refine ⟨z_in (by omega) (by omega) (by omega), ?_⟩
    rintro _ rfl
    rw [z_iN (a := p) (by omega) (by omega), z_inc]
    refine hk _ ⟨fun c k hc => (hf c k hc).tr ((At.rf g c k).sI (by omega)), fun j j0 j1 => ?_⟩
    by_cases e : j = p
    · rw [e, gI_in rfl rfl]
    · rw [gI_out (by omega)]; exact hS j j0 (by omega)
  · rintro kb g ⟨hf, hS⟩
    unfold w_X3_joinSpans_2
    rw [zn_6, if_pos (by rw [z_le (by omega) (by omega) (by omega) (by omega)]; omega)]
    have B0 : BsN g a 0 := fun p p0 p1 q hq => by rw [hS p p0 p1, bt_0 q hq, besN_0]
    refine for10 (a.n 1) (fun l g => (∀ c k, ¬ (c = 117) → At h g c k) ∧ BsN g a l) 0 rfl (by omega) (by omega) (by omega) ⟨hf, B0⟩ ?_ ?_
    · clear hf hS B0 g
      rintro kb l g l0 l1 ⟨hf, hB⟩ hk
      have H' : WX g w a := H.at' (fun c k b1 b2 _ _ _ _ => hf c k (by omega))
      obtain ⟨o1, o2, o3, o4, o5⟩ := OL.2.2.2.1 l l0 l1
      unfold w_X3_joinSpans_23
      rw [(H'.n0 1 (by decide)).1, if_neg (by rw [z_le (by omega) (by omega) (by omega) (by omega)]; omega)]
      refine H'.at 1 0 (by decide) rfl (by decide) rfl rfl l0 l1 ?_
      refine H'.at 1 1 (by decide) rfl (by decide) rfl rfl l0 l1 ?_
      refine H'.at 1 3 (by decide) rfl (by decide) rfl rfl l0 l1 ?_
      by_cases c : a.f 1 3 l = 0
      · rw [if_pos (show z (a.f 1 3 l) = 0 by rw [c]; rfl)]
        refine x_hasT (H'.rw 0 (by decide)) rfl o1.1 o1.2 ?_
        rw [if_neg (by decide)]
        refine x_hasT (H'.rw 0 (by decide)) rfl o2.1 o2.2 ?_
        rw [if_neg (by decide)]
        refine ⟨z_in (by omega) (by omega) (by omega), z_in (by omega) (by omega) (by omega), ?_⟩
        intro h16 e16
        refine ⟨z_in (by omega) (by omega) (by omega), z_in (by omega) (by omega) (by omega), ?_⟩
        intro h19 e19
        rw [z_inc]
        exact x_link117 hB l0 (by omega) (by omega) c (fun g2 f2 B2 => hk g2 ⟨fun c k hc => (hf c k hc).tr (f2 c k hc), B2⟩) h16 e16 h19 e19
      · rw [if_neg (show ¬ z (a.f 1 3 l) = 0 from z_ne (by omega) (by omega) (by decide) (by decide) c), z_inc]
        refine hk g ⟨hf, fun p p0 p1 q hq => ?_⟩
        rw [besN_s l0, hB p p0 p1 q hq]
        unfold lkB
        rw [decide_eq_false c]; simp
    · clear hf hS B0 g
      rintro kb g ⟨hf, hB⟩
      have H' : WX g w a := H.at' (fun c k b1 b2 _ _ _ _ => hf c k (by omega))
      unfold w_X3_joinSpans_23 w_X6_clear
      rw [(H'.n0 1 (by decide)).1, if_pos (by rw [z_le (by omega) (by omega) (by omega) (by omega)]; omega)]
      rintro _ rfl
      have BX : BsX g a := fun p p0 p1 q hq => by rw [hB p p0 p1 q hq, besN_e]
      obtain ⟨n0, R0⟩ := R0
      obtain ⟨a1, a2, a3, a4, a5, a6, a7, a8, a9⟩ := R0.at' (fun k => hf 115 k (by omega))
      have F1 : ∀ c k, ¬ (114 ≤ c ∧ c ≤ 118) → At h (sI g 115 3 0) c k := fun c k hc => (hf c k (by omega)).tr ((At.rf g c k).sI (by omega))
      have R1 : Rw (sI g 115 3 0) 115 6 144 0 := ⟨by rw [gI_out (by omega)]; exact a1, by rw [gI_out (by omega)]; exact a2, gI_in rfl rfl, by omega, by omega, a6, a7, a8, a9⟩
      have S1 : SpA (sI g 115 3 0) a (labA (tch a) (spS a) 0) := by
        have S2 : SpX (sI g 115 3 0) a (spS a) := S.at' (fun c k hc => (hf c k (by omega)).tr ((At.rf g c k).sI (by omega)))
        refine ⟨S2.1, fun j j0 j1 => ?_⟩
        have e : labA (tch a) (spS a) 0 j = -1 := by
          have := fsp_at (t := tch a) j0 j1
          unfold labA
          rw [if_neg (by omega)]
        rw [e]
        exact S2.2 j j0 j1
      have B1 : BsX (sI g 115 3 0) a := fun p p0 p1 q hq => by rw [gI_out (by omega)]; exact BX p p0 p1 q hq
      clear BX hB hf H'
      generalize sI g 115 3 0 = g1 at *
      refine for10 (spS a) (fun i g => (∀ c k, ¬ (114 ≤ c ∧ c ≤ 118) → At h g c k) ∧ SpA g a (labA (tch a) (spS a) i) ∧ Rw g 115 6 144 (cn (isF (tch a) (spS a)) i) ∧ BsX g a) 0 rfl (by omega) (by omega) (by omega) ⟨F1, S1, R1, B1⟩ ?_ ?_
      · clear a1 a2 a3 a4 a5 a6 a7 a8 a9 F1 R1 S1 B1
        rintro kb i g2 i0 i1 ⟨hf, hS, hR, hB⟩ hk
        have fa := fsp_at (t := tch a) i0 i1
        have lr := lab_rg (t := tch a) i0 i1
        have cs := cn_s (f := isF (tch a) (spS a)) i0
        have cr := cn_rg (isF (tch a) (spS a)) i0
        unfold w_X3_joinSpans_131
        rw [hS.1.2.2.1, if_neg (by rw [z_le (by omega) (by omega) (by omega) (by omega)]; omega), z_inc]
        refine x_at hS.1 rfl (c := 3) rfl i0 i1 (by omega) (by omega) ?_
        obtain ⟨_, _, _, q3⟩ := hS.2 i i0 i1
        show (if gI g2 (113 + 1) (i * 4 + 3).toNat = -1 then _ else _)
        rw [show gI g2 (113 + 1) (i * 4 + 3).toNat = z (labA (tch a) (spS a) i i) from q3]
        by_cases c : fsp (tch a) (spS a) i = i
        · have e1 : labA (tch a) (spS a) i i = -1 := by unfold labA; rw [if_neg (by omega)]
          have e2 : isF (tch a) (spS a) i = true := decide_eq_true c
          have e3 : cn (isF (tch a) (spS a)) i = lab (tch a) (spS a) i := by unfold lab; rw [c]
          rw [if_pos (show z (labA (tch a) (spS a) i i) = -1 by rw [e1]; rfl)]
          rw [e2, if_pos rfl] at cs
          refine x_add hR (by omega) (fun g3 R3 V3 E3 => ?_)
          have f3 : ∀ c k, ¬ (c = 115 ∨ c = 116) → At g2 g3 c k := fun c k hc => E3 c k (by omega) (by omega)
          rw [e3]
          refine x_spread (hS.at' (fun c k hc => f3 c k (by omega))) (fun p p0 p1 q hq => by rw [(f3 117 _ (by omega)).1]; exact hB p p0 p1 q hq) h6 ⟨i0, i1⟩ c (fun g4 f4 S4 => ?_)
          refine hk g4 ⟨fun c k hc => ((hf c k hc).tr (f3 c k (by omega))).tr (f4 c k (by omega)), S4, ?_, fun p p0 p1 q hq => ?_⟩
          · rw [cs]; exact R3.at' (fun k => f4 115 k (by omega))
          · rw [(f4 117 _ (by omega)).1, (f3 117 _ (by omega)).1]; exact hB p p0 p1 q hq
        · have e1 : labA (tch a) (spS a) i i = lab (tch a) (spS a) i := by unfold labA; rw [if_pos (by omega)]
          have e2 : isF (tch a) (spS a) i = false := decide_eq_false c
          rw [e1, if_neg (show ¬ z (lab (tch a) (spS a) i) = -1 from z_ne (by omega) (by omega) (by decide) (by decide) (show lab (tch a) (spS a) i ≠ -1 by omega))]
          rw [e2, if_neg (by decide), Int.add_zero] at cs
          refine hk g2 ⟨hf, hS.ext (fun j j0 j1 => ?_), by rw [cs]; exact hR, hB⟩
          unfold labA
          by_cases d : fsp (tch a) (spS a) j < i
          · rw [if_pos d, if_pos (by omega)]
          · rw [if_neg d, if_neg]
            intro d2
            have e : fsp (tch a) (spS a) j = i := by omega
            have := fsp_self (t := tch a) j0 j1
            rw [e] at this
            exact c this
      · rintro kb g2 ⟨hf, hS, hR, hB⟩
        unfold w_X3_joinSpans_131
        rw [hS.1.2.2.1, if_pos (by rw [z_le (by omega) (by omega) (by omega) (by omega)]; omega)]
        exact hq g2 hf ⟨hS, hR⟩
end JOINY
