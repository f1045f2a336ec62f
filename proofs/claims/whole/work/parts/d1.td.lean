/-! ===== words of a text ===== -/
def pkN (T : Int → Int) (L p : Int) : Nat → Int32
  | 0 => 0
  | n + 1 => (pkN T L p n <<< ((5 : Int32) &&& 31)) ||| z (tat T L (p + n) - 97 + 1)
section WRD
variable {h : PH} {T : Int → Int} {L p : Int}
theorem x_letters {k : PH → Prop} {Q : PH → Prop} (S : ScX h T L) (hp : 0 ≤ p ∧ p ≤ L) (e : gI h 3 3 = z p) (e5 : gI h 3 5 = z p) (e0 : gI h 3 6 = 0) (hq : ∀ g, (∀ c q, ¬ (c = 3 ∧ (q = 3 ∨ q = 6)) → At h g c q) → gI g 3 3 = z (run ltr T L p) → gI g 3 6 = pkN T L p (min (run ltr T L p - p) 6).toNat → k g) : ∃ n, Lp0 (w_X7_takeWord_5 k Q) n h := by
  have s3 := S.2.2.1
  refine lp0_i (fun g => ∃ q, (p ≤ q ∧ q ≤ L) ∧ gI g 3 3 = z q ∧ gI g 3 6 = pkN T L p (min (q - p) 6).toNat ∧ (∀ c q, ¬ (c = 3 ∧ (q = 3 ∨ q = 6)) → At h g c q) ∧ ∀ r, p ≤ r → r < q → ltr (tat T L r) = true) (fun g => (1000 - (gI g 3 3).toInt).toNat) ?_ _ ⟨p, by omega, e, by rw [e0, show (min (p - p) 6).toNat = 0 by omega]; rfl, fun c q _ => At.rf h c q, fun r r0 r1 => by omega⟩
  rintro kb g ⟨q, hq1, eq, e6, hf, hb⟩ hn
  have Sg : ScX g T L := S.at' (fun c k hc => hf c k (by omega))
  have tr := tat_rg (L := L) Sg.2.2.2.2.1 q
  have g5 : gI g 3 5 = z p := by rw [(hf 3 5 (by omega)).1]; exact e5
  have fin : ltr (tat T L q) = false → k g := fun c => by
    have er := run_eq hq1.1 hq1.2 hb c
    exact hq g hf (by rw [er]; exact eq) (by rw [er]; exact e6)
  unfold w_X7_takeWord_5
  rw [Sg.2.1, eq]
  by_cases c0 : L ≤ q
  · rw [if_pos (by rw [z_le (by omega) (by omega) (by omega) (by omega)]; omega)]
    exact fin (by rw [tat_L c0]; decide)
  · rw [if_neg (by rw [z_le (by omega) (by omega) (by omega) (by omega)]; omega)]
    refine x_signAt Sg ⟨by omega, by omega⟩ ?_
    refine x_isLetter tr ?_
    cases hd : ltr (tat T L q) with
    | false =>
      rw [if_pos (show z (bI false) = 0 from rfl)]
      exact fin hd
    | true =>
      have more : ∀ r, p ≤ r → r < q + 1 → ltr (tat T L r) = true := fun r r0 r1 => by
        by_cases x : r = q
        · rw [x]; exact hd
        · exact hb r r0 (by omega)
      rw [if_neg (show ¬ z (bI true) = 0 by decide), eq, g5, z_sub, zn_6]
      by_cases c6 : 6 ≤ q - p
      · rw [if_pos (by rw [z_le (by omega) (by omega) (by omega) (by omega)]; omega)]
        unfold w_X7_takeWord_68
        rintro _ rfl
        rw [eq, z_inc]
        refine hn _ ⟨q + 1, by omega, gI_in rfl rfl, by rw [gI_out (by omega), e6]; congr 1; omega, fun c k hc => (hf c k hc).sI (by omega), more⟩ ?_
        rw [gI_in rfl rfl, eq, z_ti (by omega) (by omega), z_ti (by omega) (by omega)]
        omega
      · rw [if_neg (by rw [z_le (by omega) (by omega) (by omega) (by omega)]; omega)]
        refine x_signAt Sg ⟨by omega, by omega⟩ ?_
        rintro _ rfl
        unfold w_X7_takeWord_68
        rintro _ rfl
        have ev : pkN T L p (min (q + 1 - p) 6).toNat = (pkN T L p (min (q - p) 6).toNat <<< ((5 : Int32) &&& 31)) ||| z (tat T L q - 97 + 1) := by
          rw [show (min (q + 1 - p) 6).toNat = (min (q - p) 6).toNat + 1 by omega]
          show (pkN T L p (min (q - p) 6).toNat <<< ((5 : Int32) &&& 31)) ||| z (tat T L (p + (((min (q - p) 6).toNat : Nat) : Int)) - 97 + 1) = _
          rw [show p + (((min (q - p) 6).toNat : Nat) : Int) = q by omega]
        have ed : z (tat T L q) - 97 + 1 = z (tat T L q - 97 + 1) := by rw [zn_97, z_sub, z_inc]
        rw [ed, e6, ← ev, gI_out (by omega), eq, z_inc]
        refine hn _ ⟨q + 1, by omega, gI_in rfl rfl, by rw [gI_out (by omega), gI_in rfl rfl], fun c k hc => ((hf c k hc).sI (by omega)).sI (by omega), more⟩ ?_
        rw [gI_in rfl rfl, eq, z_ti (by omega) (by omega), z_ti (by omega) (by omega)]
        omega
theorem m_letters {k : PH → Prop} {Q : PH → Prop} (S : ScM h T L) (hp : 0 ≤ p ∧ p ≤ L) (e : gI h 0 36 = z p) (hq : ∀ g, (∀ c q, ¬ (c = 0 ∧ q = 36) → At h g c q) → gI g 0 36 = z (run ltr T L p) → k g) : ∃ n, Lp0 (w_X10_token_64 k Q) n h := by
  have s3 := S.2.1
  refine lp0_i (fun g => ∃ q, (p ≤ q ∧ q ≤ L) ∧ gI g 0 36 = z q ∧ (∀ c q, ¬ (c = 0 ∧ q = 36) → At h g c q) ∧ ∀ r, p ≤ r → r < q → ltr (tat T L r) = true) (fun g => (1000 - (gI g 0 36).toInt).toNat) ?_ _ ⟨p, by omega, e, fun c q _ => At.rf h c q, fun r r0 r1 => by omega⟩
  rintro kb g ⟨q, hq1, eq, hf, hb⟩ hn
  have Sg : ScM g T L := S.at' (fun c k hc => hf c k (by omega))
  have tr := tat_rg (L := L) Sg.2.2.2 q
  unfold w_X10_token_64
  refine m_here Sg (by omega) eq ?_
  refine m_isSmall tr ?_
  cases hd : ltr (tat T L q) with
  | false =>
    rw [if_pos (show z (bI false) = 0 from rfl)]
    have er := run_eq hq1.1 hq1.2 hb hd
    exact hq g hf (by rw [er]; exact eq)
  | true =>
    rw [if_neg (show ¬ z (bI true) = 0 by decide)]
    have ql : q < L := by
      rcases Int.lt_or_le q L with x | x
      · exact x
      · rw [tat_L x] at hd; exact absurd hd (by decide)
    rintro _ rfl
    rw [eq, z_inc]
    refine hn _ ⟨q + 1, by omega, gI_in rfl rfl, fun c k hc => (hf c k hc).sI (by omega), fun r r0 r1 => ?_⟩ ?_
    · by_cases x : r = q
      · rw [x]; exact hd
      · exact hb r r0 (by omega)
    · rw [gI_in rfl rfl, eq, z_ti (by omega) (by omega), z_ti (by omega) (by omega)]
      omega
end WRD
