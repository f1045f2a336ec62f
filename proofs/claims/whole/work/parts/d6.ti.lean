/-! ===== a token: where it begins and ends, its kind (0 end, 1 none, 2 number, 3 name, 4 word, 5 sign), its value ===== -/
def tS (T : Int → Int) (L p : Int) : Int := run blk T L p
def tE (T : Int → Int) (L p : Int) : Int := if L ≤ tS T L p then tS T L p else if ltr (tat T L (tS T L p)) = true then run ltr T L (tS T L p) else if dgt (tat T L (tS T L p)) = true then run dgt T L (tS T L p) else sgE T L (tS T L p)
def tK (T : Int → Int) (L p : Int) : Int := if L ≤ tS T L p then 0 else if ltr (tat T L (tS T L p)) = true then kW T L (tS T L p) else if dgt (tat T L (tS T L p)) = true then 2 else if tenS (tat T L (tS T L p)) = true then 5 else 1
def tV (T : Int → Int) (L p : Int) : Int := if ltr (tat T L (tS T L p)) = true then vW T L (tS T L p) else if dgt (tat T L (tS T L p)) = true then min (vxN T L (tS T L p) (run dgt T L (tS T L p) - tS T L p).toNat) 100000 else sgV (tat T L (tS T L p)) (tat T L (tS T L p + 1))
/-- a number of 100000 or more is told apart by neither -/
def vr (k v t : Int) : Prop := (k = 2 → min v 100000 = t ∧ 0 ≤ v ∧ v ≤ 1000000) ∧ (3 ≤ k → v = t)
def mk (k : Int) : Int := if k = 0 then 4 else if k = 1 then 5 else if k = 2 then 2 else if k = 3 then 1 else if k = 4 then 0 else 3
def TcX (h : PH) (T : Int → Int) (L p : Int) : Prop := gI h 3 3 = z (tE T L p) ∧ gI h 3 5 = z (tS T L p) ∧ gI h 3 4 = z (tK T L p) ∧ ∃ v, gI h 3 6 = z v ∧ vr (tK T L p) v (tV T L p)
def TcM0 (h : PH) (T : Int → Int) (L p : Int) : Prop := gI h 0 36 = z (tE T L p) ∧ gI h 0 37 = z (tS T L p) ∧ gI h 0 38 = z (mk (tK T L p)) ∧ ∃ v, gI h 0 39 = z v ∧ vr (tK T L p) v (tV T L p)
section TOK
variable {h : PH} {T : Int → Int} {L p : Int}
theorem kW_rg (T : Int → Int) (L p : Int) : kW T L p = 1 ∨ kW T L p = 3 ∨ kW T L p = 4 := by
  unfold kW
  split
  · split <;> omega
  · omega
theorem tok_rg (hT : ∀ k, 0 ≤ T k ∧ T k < 256) (hp : 0 ≤ p ∧ p ≤ L) : p ≤ tS T L p ∧ tS T L p ≤ tE T L p ∧ tE T L p ≤ L ∧ (tK T L p ≠ 0 → tS T L p < tE T L p) ∧ (0 ≤ tK T L p ∧ tK T L p ≤ 5) ∧ (tK T L p = 2 → 0 ≤ tV T L p ∧ tV T L p ≤ 100000) ∧ (tK T L p = 3 → 0 ≤ tV T L p ∧ tV T L p < 1073741824) ∧ (tK T L p = 4 → 0 ≤ tV T L p ∧ tV T L p < 24) ∧ (tK T L p = 5 → 0 ≤ tV T L p ∧ tV T L p < 300) := by
  have r := run_rg (T := T) (f := blk) (by decide) hp.2
  unfold tV tE tK
  replace r : p ≤ tS T L p ∧ tS T L p ≤ L := ⟨r.1, r.2.1⟩
  generalize tS T L p = s at *
  by_cases c0 : L ≤ s
  · simp only [if_pos c0]
    exact ⟨by omega, by omega, by omega, fun x => absurd rfl x, by omega, fun x => by omega, fun x => by omega, fun x => by omega, fun x => by omega⟩
  · simp only [if_neg c0]
    by_cases c1 : ltr (tat T L s) = true
    · simp only [if_pos c1]
      obtain ⟨a1, a2, a3⟩ := run_ltr (T := T) (L := L) (p := s) (by omega) c1
      have w := wI_rg T L s (run ltr T L s - s)
      have pr := pv_6 (T := T) (L := L) (p := s) (n := run ltr T L s - s) (fun r r0 r1 => a3 r r0 (by omega)) (Nat.le_refl 6)
      refine ⟨by omega, by omega, by omega, fun x => by omega, ?_, ?_, ?_, ?_, ?_⟩
      · rcases kW_rg T L s with x | x | x <;> omega
      · rcases kW_rg T L s with x | x | x <;> intro y <;> omega
      · intro x
        unfold kW at x
        unfold vW
        by_cases c2 : wI T L s (run ltr T L s - s) = -1
        · rw [if_pos c2]; exact pr
        · rw [if_neg c2]; omega
      · intro x
        unfold kW at x
        unfold vW
        by_cases c2 : wI T L s (run ltr T L s - s) = -1
        · rw [if_pos c2] at x
          split at x <;> omega
        · rw [if_neg c2]; omega
      · rcases kW_rg T L s with x | x | x <;> intro y <;> omega
    · simp only [if_neg c1]
      by_cases c2 : dgt (tat T L s) = true
      · simp only [if_pos c2]
        obtain ⟨a1, a2, a3, a4⟩ := run_rg (T := T) (L := L) (p := s) (f := dgt) (by decide) (by omega)
        have lt : s < run dgt T L s := by
          rcases Int.lt_or_le s (run dgt T L s) with x | x
          · exact x
          · rw [show run dgt T L s = s by omega, c2] at a4
            exact absurd a4 (by decide)
        have nr := num_rel (T := T) (L := L) (p := s) (run dgt T L s - s).toNat (fun d d0 d1 => a3 (s + d) (by omega) (by omega))
        exact ⟨by omega, by omega, by omega, fun x => by omega, by omega, fun x => by omega, fun x => by omega, fun x => by omega, fun x => by omega⟩
      · simp only [if_neg c2]
        have tc := tat_rg (L := L) hT s
        have td := tat_rg (L := L) hT (s + 1)
        have rv : -1 ≤ sgV (tat T L s) (tat T L (s + 1)) ∧ sgV (tat T L s) (tat T L (s + 1)) < 300 := by unfold sgV; split <;> (try split) <;> (try split) <;> omega
        have ts : 0 ≤ tat T L s := by
          have := hT s
          unfold tat
          rw [if_pos (by omega)]
          omega
        have rv0 : 0 ≤ sgV (tat T L s) (tat T L (s + 1)) := by unfold sgV; split <;> (try split) <;> (try split) <;> omega
        have re : s < sgE T L s ∧ sgE T L s ≤ L := by
          unfold sgE
          by_cases b : 256 ≤ sgV (tat T L s) (tat T L (s + 1))
          · rw [if_pos b]
            have : s + 1 < L := by
              rcases Int.lt_or_le (s + 1) L with x | x
              · exact x
              · have e := tat_L (T := T) x
                rcases sgV_hi (by omega) b with y | y | y <;> omega
            omega
          · rw [if_neg b]; omega
        have kk : (if tenS (tat T L s) = true then (5 : Int) else 1) = 5 ∨ (if tenS (tat T L s) = true then (5 : Int) else 1) = 1 := by split <;> omega
        exact ⟨by omega, by omega, by omega, fun x => by omega, by omega, fun x => by omega, fun x => by omega, fun x => by omega, fun x => by omega⟩
theorem x_advance {Q : PH → Prop} (S : ScX h T L) (hp : 0 ≤ p ∧ p ≤ L) (e : gI h 3 3 = z p) (hq : ∀ g, (∀ c q, ¬ (c = 3 ∧ 3 ≤ q ∧ q ≤ 6) → At h g c q) → TcX g T L p → Q g) : w_X7_advance h Q := by
  have s3 := S.2.2.1
  unfold w_X7_advance
  refine x_skip S hp e (fun g f0 g3 r => ?_)
  unfold TcX tE tK tV at hq
  replace g3 : gI g 3 3 = z (tS T L p) := g3
  replace r : p ≤ tS T L p ∧ tS T L p ≤ L := r
  generalize tS T L p = s at *
  unfold w_X7_advance_50
  rintro _ rfl
  rw [gI_out (by omega), g3]
  have f : ∀ c q, ¬ (c = 3 ∧ (q = 3 ∨ q = 5)) → At h (sI g 3 5 (z s)) c q := fun c q hc => (f0 c q (by omega)).sI (by omega)
  have S1 : ScX (sI g 3 5 (z s)) T L := S.at' (fun c k hc => f c k (by omega))
  have h3 : gI (sI g 3 5 (z s)) 3 3 = z s := by rw [gI_out (by omega)]; exact g3
  have h5 : gI (sI g 3 5 (z s)) 3 5 = z s := gI_in rfl rfl
  clear f0 g3
  generalize sI g 3 5 (z s) = g1 at *
  refine x_signAt S1 ⟨by omega, by omega⟩ ?_
  have tr := tat_rg (L := L) S.2.2.2.2.1 s
  rw [h3, S1.2.1]
  by_cases c0 : L ≤ s
  · rw [if_neg (by rw [z_lt (by omega) (by omega) (by omega) (by omega)]; omega)]
    simp only [if_pos c0] at hq
    rintro _ rfl
    obtain ⟨v, -, -, ev⟩ := z_ex (gI g1 3 6)
    exact hq _ (fun c q hc => (f c q (by omega)).sI (by omega)) ⟨by rw [gI_out (by omega)]; exact h3, by rw [gI_out (by omega)]; exact h5, gI_in rfl rfl, v, by rw [gI_out (by omega)]; exact ev, fun x => by omega, fun x => by omega⟩
  · rw [if_pos (by rw [z_lt (by omega) (by omega) (by omega) (by omega)]; omega)]
    simp only [if_neg c0] at hq
    refine x_isLetter tr ?_
    cases c1 : ltr (tat T L s) with
    | true =>
      rw [if_neg (show ¬ z (bI true) = 0 by decide)]
      simp only [c1, if_true] at hq
      refine x_takeWord S1 (by omega) h3 h5 c1 (fun g2 f2 a3 a4 a6 => ?_)
      have w := kW_rg T L s
      by_cases k1 : kW T L s = 1
      · obtain ⟨v, -, -, ev⟩ := z_ex (gI g2 3 6)
        exact hq g2 (fun c q hc => (f c q (by omega)).tr (f2 c q (by omega))) ⟨a3, by rw [(f2 3 5 (by omega)).1]; exact h5, a4, v, ev, fun x => by omega, fun x => by omega⟩
      · exact hq g2 (fun c q hc => (f c q (by omega)).tr (f2 c q (by omega))) ⟨a3, by rw [(f2 3 5 (by omega)).1]; exact h5, a4, vW T L s, a6 k1, fun x => by omega, fun x => rfl⟩
    | false =>
      rw [if_pos (show z (bI false) = 0 from rfl)]
      simp only [c1, Bool.false_eq_true, if_false] at hq
      refine x_isDigit tr ?_
      cases c2 : dgt (tat T L s) with
      | true =>
        rw [if_neg (show ¬ z (bI true) = 0 by decide)]
        simp only [c2, if_true] at hq
        have a3' := (run_rg (T := T) (L := L) (p := s) (f := dgt) (by decide) (by omega))
        have nr := num_rel (T := T) (L := L) (p := s) (run dgt T L s - s).toNat (fun d d0 d1 => a3'.2.2.1 (s + d) (by omega) (by omega))
        refine x_takeNumber S1 (by omega) h3 (fun g2 f2 a4 a3 a6 => ?_)
        exact hq g2 (fun c q hc => (f c q (by omega)).tr (f2 c q (by omega))) ⟨a3, by rw [(f2 3 5 (by omega)).1]; exact h5, a4, _, a6, fun _ => ⟨rfl, by omega, by omega⟩, fun x => by omega⟩
      | false =>
        rw [if_pos (show z (bI false) = 0 from rfl)]
        simp only [c2, Bool.false_eq_true, if_false] at hq
        refine x_takeSign S1 (by omega) h3 (fun g2 f2 a3 a4 a6 => ?_)
        have kk : (if tenS (tat T L s) = true then (5 : Int) else 1) = 5 ∨ (if tenS (tat T L s) = true then (5 : Int) else 1) = 1 := by split <;> omega
        exact hq g2 (fun c q hc => (f c q (by omega)).tr (f2 c q (by omega))) ⟨a3, by rw [(f2 3 5 (by omega)).1]; exact h5, a4, _, a6, fun x => by omega, fun x => rfl⟩
theorem m_token {Q : PH → Prop} (S : ScM h T L) (hp : 0 ≤ p ∧ p ≤ L) (e : gI h 0 36 = z p) (hq : ∀ g, (∀ c q, ¬ (c = 0 ∧ 36 ≤ q ∧ q ≤ 39) → At h g c q) → TcM0 g T L p → Q g) : w_X10_token h Q := by
  have s3 := S.2.1
  unfold w_X10_token
  refine m_skip S hp e (fun g f0 g3 r => ?_)
  unfold TcM0 tE tK tV at hq
  replace g3 : gI g 0 36 = z (tS T L p) := g3
  replace r : p ≤ tS T L p ∧ tS T L p ≤ L := r
  generalize tS T L p = s at *
  rintro _ rfl
  rw [g3]
  have f : ∀ c q, ¬ (c = 0 ∧ (q = 36 ∨ q = 37)) → At h (sI g 0 37 (z s)) c q := fun c q hc => (f0 c q (by omega)).sI (by omega)
  have S1 : ScM (sI g 0 37 (z s)) T L := S.at' (fun c k hc => f c k (by omega))
  have h3 : gI (sI g 0 37 (z s)) 0 36 = z s := by rw [gI_out (by omega)]; exact g3
  have h5 : gI (sI g 0 37 (z s)) 0 37 = z s := gI_in rfl rfl
  clear f0 g3
  generalize sI g 0 37 (z s) = g1 at *
  refine m_here S1 (by omega) h3 ?_
  have tr := tat_rg (L := L) S.2.2.2 s
  by_cases c0 : L ≤ s
  · rw [tat_L c0, if_pos (show z (-1) = -1 from rfl)]
    simp only [if_pos c0] at hq
    rintro _ rfl
    obtain ⟨v, -, -, ev⟩ := z_ex (gI g1 0 39)
    exact hq _ (fun c q hc => (f c q (by omega)).sI (by omega)) ⟨by rw [gI_out (by omega)]; exact h3, by rw [gI_out (by omega)]; exact h5, gI_in rfl rfl, v, by rw [gI_out (by omega)]; exact ev, fun x => by omega, fun x => by omega⟩
  · have ts : 0 ≤ tat T L s := by
      have := S.2.2.2 s
      unfold tat
      rw [if_pos (by omega)]
      omega
    rw [if_neg (show ¬ z (tat T L s) = -1 from z_ne (b := -1) (by omega) (by omega) (by decide) (by decide) (by omega))]
    simp only [if_neg c0] at hq
    refine m_isSmall tr ?_
    cases c1 : ltr (tat T L s) with
    | true =>
      rw [if_neg (show ¬ z (bI true) = 0 by decide)]
      simp only [c1, if_true] at hq
      obtain ⟨a1, a2, a3⟩ := run_ltr (T := T) (L := L) (p := s) (by omega) c1
      refine m_letters S1 (by omega) h3 (fun g2 f2 e6 => ?_)
      have S2 : ScM g2 T L := S1.at' (fun c k hc => f2 c k (by omega))
      have e7 : gI g2 0 37 = z s := by rw [(f2 0 37 (by omega)).1]; exact h5
      refine m_word S2 e7 e6 (by omega) a3 ?_
      rintro _ rfl
      have w := wI_rg T L s (run ltr T L s - s)
      unfold kW vW at hq
      have fin : ∀ k v : Int, gI (sI g2 0 39 (z (wI T L s (run ltr T L s - s)))) 0 39 = z v → mk (if run ltr T L s - s ≤ 6 then (if wI T L s (run ltr T L s - s) = -1 then 3 else 4) else 1) = k → k ≠ 1 → (k = 0 → v = wI T L s (run ltr T L s - s)) → (k = 0 ∨ k = 5) → w_X10_token_127 Q (z k) (sI g2 0 39 (z (wI T L s (run ltr T L s - s)))) := fun k v ev ek k1 k0 kk => by
        unfold w_X10_token_127
        rintro _ rfl
        rw [gI_in rfl rfl, if_neg (show ¬ z k = 1 from z_ne (by omega) (by omega) (by decide) (by decide) k1)]
        refine hq _ (fun c q hc => (((f c q (by omega)).tr (f2 c q (by omega))).sI (by omega)).sI (by omega)) ⟨by rw [gI_out (by omega), gI_out (by omega)]; exact e6, by rw [gI_out (by omega), gI_out (by omega)]; exact e7, by rw [gI_in rfl rfl, ek], v, by rw [gI_out (by omega)]; exact ev, fun x => ?_, fun x => ?_⟩
        · exfalso
          split at x
          · split at x <;> omega
          · omega
        · rcases kk with y | y
          · rw [k0 y]
            by_cases c2 : wI T L s (run ltr T L s - s) = -1
            · exfalso
              simp only [if_pos c2] at ek
              unfold mk at ek
              split at ek
              · rw [y] at ek; exact absurd ek (by decide)
              · rw [y] at ek; exact absurd ek (by decide)
            · rw [if_neg c2]
          · exfalso
            rw [y] at ek
            split at ek
            · split at ek <;> exact absurd ek (by decide)
            · split at x
              · omega
              · omega
      rw [gI_in rfl rfl]
      by_cases c2 : wI T L s (run ltr T L s - s) = -1
      · rw [if_pos (by rw [c2]; rfl)]
        rw [gI_out (by omega), gI_out (by omega), e6, e7, z_sub, zn_6]
        by_cases c3 : run ltr T L s - s ≤ 6
        · rw [if_pos (by rw [z_le (by omega) (by omega) (by omega) (by omega)]; omega)]
          clear fin
          unfold w_X10_token_127
          rintro _ rfl
          rw [gI_in rfl rfl, if_pos rfl]
          rw [c2]
          have S3 : ScM (sI (sI g2 0 39 (z (-1))) 0 38 1) T L := S2.at' (fun c k hc => ((At.rf g2 c k).sI (by omega)).sI (by omega))
          refine m_name (p := s) (q := run ltr T L s) S3 (by rw [gI_out (by omega), gI_out (by omega)]; exact e7) (by rw [gI_out (by omega), gI_out (by omega)]; exact e6) (by omega) a3 (fun g3 f3 e9 => ?_)
          rw [if_pos c2, if_pos c3, if_pos c2] at hq
          exact hq g3 (fun c q hc => (((f c q (by omega)).tr (f2 c q (by omega))).tr (((At.rf g2 c q).sI (by omega)).sI (by omega))).tr (f3 c q (by omega))) ⟨by rw [(f3 0 36 (by omega)).1, gI_out (by omega), gI_out (by omega)]; exact e6, by rw [(f3 0 37 (by omega)).1, gI_out (by omega), gI_out (by omega)]; exact e7, by rw [(f3 0 38 (by omega)).1, gI_in rfl rfl]; rfl, _, e9, fun x => by omega, fun x => rfl⟩
        · rw [if_neg (by rw [z_le (by omega) (by omega) (by omega) (by omega)]; omega)]
          refine fin 5 (wI T L s (run ltr T L s - s)) (gI_in rfl rfl) ?_ (by omega) (fun x => by omega) (Or.inr rfl)
          rw [if_neg c3]
          rfl
      · rw [if_neg (show ¬ z (wI T L s (run ltr T L s - s)) = -1 from z_ne (by omega) (by omega) (by decide) (by decide) c2)]
        refine fin 0 (wI T L s (run ltr T L s - s)) (gI_in rfl rfl) ?_ (by omega) (fun x => rfl) (Or.inl rfl)
        have c6 : run ltr T L s - s ≤ 6 := by
          rcases Int.lt_or_le 6 (run ltr T L s - s) with x | x
          · exact absurd (by unfold wI; rw [if_neg (by omega)]) c2
          · exact x
        rw [if_pos c6, if_neg c2]
        rfl
    | false =>
      rw [if_pos (show z (bI false) = 0 from rfl)]
      simp only [c1, Bool.false_eq_true, if_false] at hq
      refine m_isDigit tr ?_
      cases c2 : dgt (tat T L s) with
      | true =>
        rw [if_neg (show ¬ z (bI true) = 0 by decide)]
        simp only [c2, if_true] at hq
        rintro _ rfl _ rfl
        have f' : ∀ c q, ¬ (c = 0 ∧ (q = 36 ∨ q = 37 ∨ q = 38 ∨ q = 39)) → At h (sI (sI g1 0 38 2) 0 39 0) c q := fun c q hc => ((f c q (by omega)).sI (by omega)).sI (by omega)
        have S2 : ScM (sI (sI g1 0 38 2) 0 39 0) T L := S.at' (fun c k hc => f' c k (by omega))
        have a3' := (run_rg (T := T) (L := L) (p := s) (f := dgt) (by decide) (by omega))
        have nr := num_rel (T := T) (L := L) (p := s) (run dgt T L s - s).toNat (fun d d0 d1 => a3'.2.2.1 (s + d) (by omega) (by omega))
        refine m_takeNumber (p := s) S2 (by omega) (by rw [gI_out (by omega), gI_out (by omega)]; exact h3) (gI_in rfl rfl) (fun g2 f2 e6 e9 => ?_)
        exact hq g2 (fun c q hc => (f' c q (by omega)).tr (f2 c q (by omega))) ⟨e6, by rw [(f2 0 37 (by omega)).1, gI_out (by omega), gI_out (by omega)]; exact h5, by rw [(f2 0 38 (by omega)).1, gI_out (by omega), gI_in rfl rfl]; rfl, _, e9, fun _ => ⟨by omega, by omega, by omega⟩, fun x => by omega⟩
      | false =>
        rw [if_pos (show z (bI false) = 0 from rfl)]
        simp only [c2, Bool.false_eq_true, if_false] at hq
        refine m_sign S1 (by omega) h3 (fun g2 f2 e6 e8 e9 => ?_)
        have kk : (if tenS (tat T L s) = true then (5 : Int) else 1) = 5 ∨ (if tenS (tat T L s) = true then (5 : Int) else 1) = 1 := by split <;> omega
        refine hq g2 (fun c q hc => (f c q (by omega)).tr (f2 c q (by omega))) ⟨e6, by rw [(f2 0 37 (by omega)).1]; exact h5, ?_, _, e9, fun x => by omega, fun x => rfl⟩
        rw [e8]
        split <;> rfl
end TOK
