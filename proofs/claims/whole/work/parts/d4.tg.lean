/-! ===== which word it is: the reference ===== -/
section MWORD
variable {h : PH} {T : Int → Int} {L p q : Int}
theorem m_word1 {k : Nat} {k99 : Int32 → PH → Prop} {Q : Int32 → PH → Prop} {kb : Int32 → Int32 → PH → Prop} (S : ScM h T L) (e7 : gI h 0 37 = z p) (e6 : gI h 0 36 = z q) (hp : 0 ≤ p ∧ p < q ∧ q ≤ L) (hk : k < 24) (hit : wmt T L p (q - p) k → k99 (z k) h) (mis : ¬ wmt T L p (q - p) k → kb (z (k + 1)) (z (wst (k + 1))) h) : ∃ n, Lp1 (w_X10_word_16 (fun y9 h8 => w_X10_word_72 k99 Q kb (z k) (z (wst k)) y9 h8) Q (z k) (z (wst k))) n 0 h := by
  have t := (wtab ⟨k, hk⟩).1
  simp only at t
  obtain ⟨t1, t2, t3, t4⟩ := t
  obtain ⟨s1, s2, s3, s4⟩ := S
  have skip : ¬ wmt T L p (q - p) k → ∃ n, Lp1 (w_X10_word_101 (fun y h16 => kb (z k + 1) (y + 1) h16) Q (z k)) n (z (wst k)) h := fun nm => by
    refine for10 (wst k + wln k) (fun i g => g = h) (wst k) rfl (by omega) (by omega) (by omega) rfl ?_ ?_
    · rintro kb' i g i0 i1 rfl hn
      have w := wl_ok hk (i := i - wst k) (by omega) (by omega)
      rw [show wst k + (i - wst k) = i by omega] at w
      unfold w_X10_word_101
      refine m_charAt (by omega) (by omega) ?_
      rw [if_neg (show ¬ z (wch i) = 32 from z_ne (b := 32) (by omega) (by omega) (by decide) (by decide) (by omega)), z_inc]
      exact hn _ rfl
    · rintro kb' g rfl
      unfold w_X10_word_101
      refine m_charAt (by omega) (by omega) ?_
      rw [t4, if_pos (show z 32 = 32 from rfl)]
      show kb (z k + 1) (z (wst k + wln k) + 1) g
      rw [z_inc, z_inc, ← t3]
      exact mis nm
  have ends : ∀ i : Int, 0 ≤ i → i ≤ wln k → (∀ j, 0 ≤ j → j < i → j < q - p ∧ tat T L (p + j) = wch (wst k + j)) → (i = wln k ∨ q - p ≤ i ∨ tat T L (p + i) ≠ wch (wst k + i)) → w_X10_word_72 k99 Q kb (z k) (z (wst k)) (z i) h := fun i i0 i1 hJ hr => by
    have no : ¬ (i = wln k ∧ q - p = i) → ¬ wmt T L p (q - p) k := fun c m => by
      have m1 := m.1
      rcases hr with x | x | x
      · exact c ⟨x, by omega⟩
      · exact c ⟨by omega, by omega⟩
      · rcases Int.lt_or_le i (q - p) with y | y
        · exact x (m.2 i i0 y)
        · exact c ⟨by omega, by omega⟩
    unfold w_X10_word_72
    rw [z_add]
    refine m_charAt (by omega) (by omega) ?_
    by_cases c : i = wln k
    · rw [c, t4, if_pos (show z 32 = 32 from rfl), e7, e6, z_add]
      by_cases c2 : q - p = i
      · rw [if_pos (by congr 1; omega)]
        exact hit ⟨by omega, fun j j0 j1 => (hJ j j0 (by omega)).2⟩
      · rw [if_neg (z_ne (by omega) (by omega) (by omega) (by omega) (by omega))]
        exact skip (no (fun x => c2 x.2))
    · have w := wl_ok hk (i := i) i0 (by omega)
      rw [if_neg (show ¬ z (wch (wst k + i)) = 32 from z_ne (b := 32) (by omega) (by omega) (by decide) (by decide) (by omega))]
      exact skip (no (fun x => c x.1))
  refine for10 (wln k) (fun i g => g = h ∧ ∀ j, 0 ≤ j → j < i → j < q - p ∧ tat T L (p + j) = wch (wst k + j)) 0 rfl (by omega) (by omega) (by omega) ⟨rfl, fun j j0 j1 => by omega⟩ ?_ ?_
  · rintro kb' i g i0 i1 ⟨rfl, hJ⟩ hn
    have w := wl_ok hk (i := i) i0 i1
    unfold w_X10_word_16
    rw [z_add]
    refine m_charAt (by omega) (by omega) ?_
    rw [if_neg (show ¬ z (wch (wst k + i)) = 32 from z_ne (b := 32) (by omega) (by omega) (by decide) (by decide) (by omega)), e7, e6, z_add]
    by_cases c : q - p ≤ i
    · rw [if_pos (by rw [z_le (by omega) (by omega) (by omega) (by omega)]; omega)]
      exact ends i i0 (by omega) hJ (Or.inr (Or.inl c))
    · rw [if_neg (by rw [z_le (by omega) (by omega) (by omega) (by omega)]; omega)]
      refine ⟨z_in (by omega) (by omega) (by omega), ?_⟩
      refine m_charAt (by omega) (by omega) ?_
      have ta : tat T L (p + i) = T (p + i) := by
        unfold tat
        rw [if_pos (by omega)]
      rw [z_iN (a := p + i) (by omega) (by omega), s3 (p + i) (by omega) (by omega), ← ta]
      by_cases c2 : tat T L (p + i) = wch (wst k + i)
      · rw [if_pos (by rw [c2]), z_inc]
        refine hn _ ⟨rfl, fun j j0 j1 => ?_⟩
        by_cases x : j = i
        · rw [x]; exact ⟨by omega, c2⟩
        · exact hJ j j0 (by omega)
      · have tr := tat_rg (L := L) s4 (p + i)
        rw [if_neg (z_ne (by omega) (by omega) (by omega) (by omega) c2)]
        exact ends i i0 (by omega) hJ (Or.inr (Or.inr c2))
  · rintro kb' g ⟨rfl, hJ⟩
    unfold w_X10_word_16
    rw [z_add]
    refine m_charAt (by omega) (by omega) ?_
    rw [t4, if_pos (show z 32 = 32 from rfl)]
    exact ends (wln k) (by omega) (by omega) hJ (Or.inl rfl)
theorem m_word {Q : Int32 → PH → Prop} (S : ScM h T L) (e7 : gI h 0 37 = z p) (e6 : gI h 0 36 = z q) (hp : 0 ≤ p ∧ p < q ∧ q ≤ L) (hl : ∀ r, p ≤ r → r < q → ltr (tat T L r) = true) (hq : Q (z (wI T L p (q - p))) h) : w_X10_word h Q := by
  have s3 := S.2.1
  have hl' : ∀ r, p ≤ r → r < p + (q - p) → ltr (tat T L r) = true := fun r r0 r1 => hl r r0 (by omega)
  unfold w_X10_word
  refine for20 24 (fun k x2 g => x2 = z (wst k.toNat) ∧ g = h ∧ ∀ j : Int, 0 ≤ j → j < k → ¬ wmt T L p (q - p) j.toNat) 0 rfl (by omega) (by omega) (by omega) ⟨rfl, rfl, fun j j0 j1 => by omega⟩ ?_ ?_
  · rintro kb k x2 g k0 k1 ⟨rfl, rfl, hJ⟩ hn
    have t := (wtab ⟨k.toNat, by omega⟩).1
    simp only at t
    unfold w_X10_word_4
    refine m_length ?_
    rw [if_neg (by rw [z_le (by omega) (by omega) (by omega) (by omega)]; omega)]
    have e : z k = z ((k.toNat : Nat) : Int) := by congr 1; omega
    rw [e]
    refine m_word1 S e7 e6 hp (by omega) (fun m => ?_) (fun m => ?_)
    · rw [wI_hit hl' (by omega) k0 k1 m hJ] at hq
      show Q (z ((k.toNat : Nat) : Int)) g
      rw [← e]
      exact hq
    · rw [show ((k.toNat : Nat) : Int) + 1 = k + 1 by omega]
      refine hn _ _ ⟨by rw [show (k + 1).toNat = k.toNat + 1 by omega], rfl, fun j j0 j1 => ?_⟩
      by_cases x : j = k
      · rw [x]; exact m
      · exact hJ j j0 (by omega)
  · rintro kb x2 g ⟨rfl, rfl, hJ⟩
    unfold w_X10_word_4
    refine m_length ?_
    rw [if_pos (show z 120 ≤ z (wst (24 : Int).toNat) by decide)]
    rw [wI_no hl' (by omega) hJ] at hq
    exact hq
theorem m_name {Q : PH → Prop} (S : ScM h T L) (e7 : gI h 0 37 = z p) (e6 : gI h 0 36 = z q) (hp : 0 ≤ p ∧ p < q ∧ q ≤ L) (hl : ∀ r, p ≤ r → r < q → ltr (tat T L r) = true) (hq : ∀ g, (∀ c k, ¬ (c = 0 ∧ k = 39) → At h g c k) → gI g 0 39 = z (pv T L p (q - p) 6) → Q g) : w_X10_name h Q := by
  have s3 := S.2.1
  have hl' : ∀ r, p ≤ r → r < p + (q - p) → ltr (tat T L r) = true := fun r r0 r1 => hl r r0 (by omega)
  unfold w_X10_name
  rintro _ rfl
  refine for10 6 (fun i g => (∀ c k, ¬ (c = 0 ∧ k = 39) → At h g c k) ∧ gI g 0 39 = z (pv T L p (q - p) i.toNat)) 0 rfl (by omega) (by omega) (by omega) ⟨fun c k hc => (At.rf h c k).sI hc, gI_in rfl rfl⟩ ?_ ?_
  · rintro kb i g i0 i1 ⟨hf, e9⟩ hn
    have pr := pvt_rg hl' i.toNat
    have es : pv T L p (q - p) (i + 1).toNat = pv T L p (q - p) i.toNat * 32 + (if i < q - p then tat T L (p + i) - 96 else 0) := by
      rw [show (i + 1).toNat = i.toNat + 1 by omega, pv_s, show ((i.toNat : Nat) : Int) = i by omega]
    unfold w_X10_name_7
    rw [zn_6, if_neg (by rw [z_le (by omega) (by omega) (by omega) (by omega)]; omega), (hf 0 36 (by omega)).1, (hf 0 37 (by omega)).1, e6, e7, z_add, e9]
    by_cases c : q - p ≤ i
    · rw [if_pos (by rw [z_le (by omega) (by omega) (by omega) (by omega)]; omega)]
      rintro _ rfl
      rw [zn_0, pk_or pr.1 (by omega), z_inc]
      rw [if_neg (by omega)] at es
      refine hn _ ⟨fun c k hc => (hf c k hc).sI hc, ?_⟩
      rw [gI_in rfl rfl, es]
    · rw [if_neg (by rw [z_le (by omega) (by omega) (by omega) (by omega)]; omega)]
      have ta : tat T L (p + i) = T (p + i) := by
        unfold tat
        rw [if_pos (by omega)]
      have tl := ltr_rg (hl (p + i) (by omega) (by omega))
      refine ⟨z_in (by omega) (by omega) (by omega), ?_⟩
      rintro _ rfl
      rw [z_iN (a := p + i) (by omega) (by omega), (hf 1 _ (by omega)).1, S.2.2.1 (p + i) (by omega) (by omega), ← ta, zn_97, z_sub, z_inc, z_inc, show tat T L (p + i) - 97 + 1 = tat T L (p + i) - 96 by omega, pk_or pr.1 (by omega)]
      rw [if_pos (by omega)] at es
      refine hn _ ⟨fun c k hc => (hf c k hc).sI hc, ?_⟩
      rw [gI_in rfl rfl, es]
  · rintro kb g ⟨hf, e9⟩
    unfold w_X10_name_7
    rw [zn_6, if_pos (by rw [z_le (by omega) (by omega) (by omega) (by omega)]; omega)]
    exact hq g hf e9
end MWORD
/-! ===== which word it is: the class ===== -/
def kW (T : Int → Int) (L p : Int) : Int := if run ltr T L p - p ≤ 6 then (if wI T L p (run ltr T L p - p) = -1 then 3 else 4) else 1
def vW (T : Int → Int) (L p : Int) : Int := if wI T L p (run ltr T L p - p) = -1 then pv T L p (run ltr T L p - p) 6 else wI T L p (run ltr T L p - p)
section XWORD
variable {h : PH} {T : Int → Int} {L p : Int}
theorem run_ltr (hp : 0 ≤ p ∧ p ≤ L) (hl : ltr (tat T L p) = true) : p < run ltr T L p ∧ run ltr T L p ≤ L ∧ ∀ r, p ≤ r → r < run ltr T L p → ltr (tat T L r) = true := by
  obtain ⟨r1, r2, r3, r4⟩ := run_rg (T := T) (f := ltr) (by decide) hp.2
  refine ⟨?_, r2, r3⟩
  rcases Int.lt_or_le p (run ltr T L p) with x | x
  · exact x
  · rw [show run ltr T L p = p by omega, hl] at r4
    exact absurd r4 (by decide)
theorem x_takeWord {Q : PH → Prop} (S : ScX h T L) (hp : 0 ≤ p ∧ p ≤ L) (e : gI h 3 3 = z p) (e5 : gI h 3 5 = z p) (hl : ltr (tat T L p) = true) (hq : ∀ g, (∀ c q, ¬ (c = 3 ∧ (q = 3 ∨ q = 4 ∨ q = 6)) → At h g c q) → gI g 3 3 = z (run ltr T L p) → gI g 3 4 = z (kW T L p) → (kW T L p ≠ 1 → gI g 3 6 = z (vW T L p)) → Q g) : w_X7_takeWord h Q := by
  have s3 := S.2.2.1
  obtain ⟨r1, r2, r3⟩ := run_ltr hp hl
  unfold kW vW at hq
  unfold w_X7_takeWord
  rintro _ rfl
  have S0 : ScX (sI h 3 6 0) T L := S.at' (fun c k hc => (At.rf h c k).sI (by omega))
  refine x_letters S0 hp (by rw [gI_out (by omega)]; exact e) (by rw [gI_out (by omega)]; exact e5) (gI_in rfl rfl) (fun g f0 g3 g6 => ?_)
  have f : ∀ c q, ¬ (c = 3 ∧ (q = 3 ∨ q = 6)) → At h g c q := fun c q hc => ((At.rf h c q).sI (by omega)).tr (f0 c q hc)
  clear f0 S0
  have S1 : ScX g T L := S.at' (fun c k hc => f c k (by omega))
  have g5 : gI g 3 5 = z p := by rw [(f 3 5 (by omega)).1]; exact e5
  generalize hn : run ltr T L p = q at *
  have hl' : ∀ r, p ≤ r → r < p + (q - p) → ltr (tat T L r) = true := fun r r0 r1 => r3 r r0 (by omega)
  unfold w_X7_takeWord_81
  rw [g3, g5, z_sub, zn_6]
  by_cases c : q - p ≤ 6
  · rw [if_pos (by rw [z_le (by omega) (by omega) (by omega) (by omega)]; omega)]
    rw [if_pos c] at hq
    rintro _ rfl _ rfl
    have ev : ((gI g 3 6 : Int32) <<< (((5 * (z 6 - z (q - p))) : Int32) &&& 31)) = z (pv T L p (q - p) 6) := by
      rw [g6, zn_5, z_sub, z_mul, z_nI' (by omega : (0 : Int) ≤ 5 * (6 - (q - p))), pkN_pv hl' _ (by omega), shl_z (pvt_rg hl' _).1 (by omega)]
      have := pv_pad (T := T) (L := L) (p := p) (n := q - p) (q - p).toNat (by omega) (6 - (q - p)).toNat
      rw [show (q - p).toNat + (6 - (q - p)).toNat = 6 by omega] at this
      rw [this, show (min (q - p) 6).toNat = (q - p).toNat by omega, show (5 * (6 - (q - p))).toNat = 5 * (6 - (q - p)).toNat by omega]
    rw [ev]
    have pr := pv_6 hl' (Nat.le_refl 6)
    have ew : wI T L p (q - p) = ff (fun k => decide (pv T L p (q - p) 6 = tg24 k.toNat)) 24 := by unfold wI; rw [if_pos c]
    rw [ew] at hq
    generalize pv T L p (q - p) 6 = P at *
    have fr2 : ∀ c k, ¬ (c = 3 ∧ (k = 3 ∨ k = 4 ∨ k = 6)) → At h (sI (sI g 3 6 (z P)) 3 4 3) c k := fun c k hc => ((f c k (by omega)).sI (by omega)).sI (by omega)
    have q3 : gI (sI (sI g 3 6 (z P)) 3 4 3) 3 3 = z q := by rw [gI_out (by omega), gI_out (by omega)]; exact g3
    refine for10 24 (fun i g' => (∀ c k, ¬ (c = 3 ∧ (k = 3 ∨ k = 4 ∨ k = 6)) → At h g' c k) ∧ gI g' 3 3 = z q ∧ ((gI g' 3 4 = z 3 ∧ gI g' 3 6 = z P ∧ ∀ j : Int, 0 ≤ j → j < i → decide (P = tg24 j.toNat) = false) ∨ (∃ r : Int, 0 ≤ r ∧ r < 24 ∧ gI g' 3 4 = z 4 ∧ gI g' 3 6 = z r ∧ P = tg24 r.toNat ∧ ∀ j : Int, 0 ≤ j → j < r → decide (P = tg24 j.toNat) = false))) 0 rfl (by omega) (by omega) (by omega) ⟨fr2, q3, Or.inl ⟨gI_in rfl rfl, by rw [gI_out (by omega), gI_in rfl rfl], fun j j0 j1 => by omega⟩⟩ ?_ ?_
    · rintro kb i g' i0 i1 ⟨hf, h3, hJ⟩ hn'
      unfold w_X7_takeWord_131
      rw [zn_24, if_neg (by rw [z_le (by omega) (by omega) (by omega) (by omega)]; omega)]
      rcases hJ with ⟨h4, h6, hno⟩ | ⟨r, a1, a2, a3, a4, a5, a6⟩
      · have tr := tg_rg ⟨i.toNat, by omega⟩
        simp only at tr
        rw [h4, if_pos (show z 3 = 3 from rfl)]
        refine ⟨z_in (by omega) (by omega) (by omega), ?_⟩
        rw [z_iN (a := i) (by omega) (by omega), (hf 4 _ (by omega)).1, S.2.2.2.2.2 _ (by omega), h6]
        by_cases c2 : P = tg24 i.toNat
        · rw [if_pos (by rw [c2])]
          rintro _ rfl _ rfl
          rw [z_inc]
          refine hn' _ ⟨fun c k hc => ((hf c k hc).sI (by omega)).sI (by omega), by rw [gI_out (by omega), gI_out (by omega)]; exact h3, Or.inr ⟨i, i0, by omega, by rw [gI_out (by omega), gI_in rfl rfl]; rfl, gI_in rfl rfl, c2, hno⟩⟩
        · rw [if_neg (z_ne (by omega) (by omega) (by omega) (by omega) (fun x => c2 x.symm)), z_inc]
          refine hn' _ ⟨hf, h3, Or.inl ⟨h4, h6, fun j j0 j1 => ?_⟩⟩
          by_cases x : j = i
          · rw [x]; exact decide_eq_false c2
          · exact hno j j0 (by omega)
      · rw [a3, if_neg (show ¬ z 4 = 3 by decide), z_inc]
        exact hn' _ ⟨hf, h3, Or.inr ⟨r, a1, a2, a3, a4, a5, a6⟩⟩
    · rintro kb g' ⟨hf, h3, hJ⟩
      unfold w_X7_takeWord_131
      rw [zn_24, if_pos (by rw [z_le (by omega) (by omega) (by omega) (by omega)]; omega)]
      rcases hJ with ⟨h4, h6, hno⟩ | ⟨r, a1, a2, a3, a4, a5, a6⟩
      · rw [ff_no hno, if_pos rfl, if_pos rfl] at hq
        exact hq g' hf h3 h4 (fun _ => h6)
      · rw [ff_yes a1 a2 (decide_eq_true a5) a6, if_neg (by omega), if_neg (by omega)] at hq
        exact hq g' hf h3 a3 (fun _ => a4)
  · rw [if_neg (by rw [z_le (by omega) (by omega) (by omega) (by omega)]; omega)]
    rw [if_neg c] at hq
    rintro _ rfl
    refine hq _ (fun c k hc => (f c k (by omega)).sI (by omega)) (by rw [gI_out (by omega)]; exact g3) (gI_in rfl rfl) (fun x => absurd rfl x)
end XWORD
