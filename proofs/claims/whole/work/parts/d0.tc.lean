/-! ===== numbers of a text ===== -/
def vxN (T : Int → Int) (L p : Int) : Nat → Int
  | 0 => 0
  | n + 1 => min (vxN T L p n * 10 + (tat T L (p + n) - 48)) 1000000
def vmN (T : Int → Int) (L p : Int) : Nat → Int
  | 0 => 0
  | n + 1 => if vmN T L p n ≤ 99999 then 10 * vmN T L p n + (tat T L (p + n) - 48) else vmN T L p n
section NUM
variable {h : PH} {T : Int → Int} {L p : Int}
theorem dgt_rg {c : Int} (h : dgt c = true) : 48 ≤ c ∧ c ≤ 57 := by
  unfold dgt at h
  rw [Bool.and_eq_true, decide_eq_true_eq, decide_eq_true_eq] at h
  exact h
/-- both values: alike below 1000000, or both from 100000 on -/
theorem num_rel : ∀ n : Nat, (∀ d : Int, 0 ≤ d → d < n → dgt (tat T L (p + d)) = true) → (0 ≤ vxN T L p n ∧ vxN T L p n ≤ 1000000) ∧ (0 ≤ vmN T L p n ∧ vmN T L p n ≤ 999999) ∧ (vxN T L p n = vmN T L p n ∨ (100000 ≤ vxN T L p n ∧ 100000 ≤ vmN T L p n))
  | 0, _ => by
    show (0 ≤ (0 : Int) ∧ (0 : Int) ≤ 1000000) ∧ (0 ≤ (0 : Int) ∧ (0 : Int) ≤ 999999) ∧ ((0 : Int) = 0 ∨ _)
    exact ⟨by omega, by omega, Or.inl rfl⟩
  | n + 1, hd => by
    obtain ⟨a1, a2, a3⟩ := num_rel n (fun d d0 d1 => hd d d0 (by omega))
    have dr := dgt_rg (hd n (by omega) (by omega))
    have ex : vxN T L p (n + 1) = min (vxN T L p n * 10 + (tat T L (p + n) - 48)) 1000000 := rfl
    have em : vmN T L p (n + 1) = if vmN T L p n ≤ 99999 then 10 * vmN T L p n + (tat T L (p + n) - 48) else vmN T L p n := rfl
    rw [ex, em]
    by_cases c : vmN T L p n ≤ 99999
    · rw [if_pos c]
      refine ⟨by omega, by omega, ?_⟩
      omega
    · rw [if_neg c]
      refine ⟨by omega, by omega, ?_⟩
      omega
theorem run_rg {f : Int → Bool} (hf : f (-1) = false) (h1 : p ≤ L) : p ≤ run f T L p ∧ run f T L p ≤ L ∧ (∀ r, p ≤ r → r < run f T L p → f (tat T L r) = true) ∧ f (tat T L (run f T L p)) = false := by
  unfold run
  rcases ff_ca (fun d => !f (tat T L (p + d))) (L - p + 1) with ⟨e, hn⟩ | ⟨g1, g2, g3, g4⟩
  · have := hn (L - p) (by omega) (by omega)
    rw [show p + (L - p) = L by omega, tat_L (Int.le_refl L), hf] at this
    exact absurd this (by decide)
  · refine ⟨by omega, by omega, fun r r0 r1 => ?_, ?_⟩
    · have := g4 (r - p) (by omega) (by omega)
      rw [show p + (r - p) = r by omega] at this
      simpa using this
    · simpa using g3
theorem x_takeNumber {Q : PH → Prop} (S : ScX h T L) (hp : 0 ≤ p ∧ p ≤ L) (e : gI h 3 3 = z p) (hq : ∀ g, (∀ c q, ¬ (c = 3 ∧ (q = 3 ∨ q = 4 ∨ q = 6)) → At h g c q) → gI g 3 4 = z 2 → gI g 3 3 = z (run dgt T L p) → gI g 3 6 = z (vxN T L p (run dgt T L p - p).toNat) → Q g) : w_X7_takeNumber h Q := by
  have s3 := S.2.2.1
  unfold w_X7_takeNumber
  rintro _ rfl _ rfl
  refine lp0_i (fun g => ∃ q, (p ≤ q ∧ q ≤ L) ∧ gI g 3 3 = z q ∧ gI g 3 4 = z 2 ∧ gI g 3 6 = z (vxN T L p (q - p).toNat) ∧ (∀ c q, ¬ (c = 3 ∧ (q = 3 ∨ q = 4 ∨ q = 6)) → At h g c q) ∧ ∀ r, p ≤ r → r < q → dgt (tat T L r) = true) (fun g => (1000 - (gI g 3 3).toInt).toNat) ?_ _ ⟨p, by omega, by rw [gI_out (by omega), gI_out (by omega)]; exact e, by rw [gI_out (by omega), gI_in rfl rfl]; rfl, by rw [gI_in rfl rfl, show (p - p).toNat = 0 by omega]; rfl, fun c q hc => ((At.rf h c q).sI (by omega)).sI (by omega), fun r r0 r1 => by omega⟩
  rintro kb g ⟨q, hq1, eq, e4, e6, hf, hb⟩ hn
  have Sg : ScX g T L := S.at' (fun c k hc => hf c k (by omega))
  have tr := tat_rg (L := L) Sg.2.2.2.2.1 q
  have fin : dgt (tat T L q) = false → Q g := fun c => by
    have er := run_eq hq1.1 hq1.2 hb c
    exact hq g hf e4 (by rw [er]; exact eq) (by rw [er]; exact e6)
  unfold w_X7_takeNumber_10
  rw [Sg.2.1, eq]
  by_cases c0 : L ≤ q
  · rw [if_pos (by rw [z_le (by omega) (by omega) (by omega) (by omega)]; omega)]
    exact fin (by rw [tat_L c0]; decide)
  · rw [if_neg (by rw [z_le (by omega) (by omega) (by omega) (by omega)]; omega)]
    refine x_signAt Sg ⟨by omega, by omega⟩ ?_
    refine x_isDigit tr ?_
    cases hd : dgt (tat T L q) with
    | false =>
      rw [if_pos (show z (bI false) = 0 from rfl)]
      exact fin hd
    | true =>
      rw [if_neg (show ¬ z (bI true) = 0 by decide), eq]
      refine x_signAt Sg ⟨by omega, by omega⟩ ?_
      have dr := dgt_rg hd
      have nr := num_rel (T := T) (L := L) (p := p) (q - p).toNat (fun d d0 d1 => hb (p + d) (by omega) (by omega))
      have ev : vxN T L p (q + 1 - p).toNat = min (vxN T L p (q - p).toNat * 10 + (tat T L q - 48)) 1000000 := by
        rw [show (q + 1 - p).toNat = (q - p).toNat + 1 by omega]
        show min (vxN T L p (q - p).toNat * 10 + (tat T L (p + (((q - p).toNat : Nat) : Int)) - 48)) 1000000 = _
        rw [show p + (((q - p).toNat : Nat) : Int) = q by omega]
      rintro _ rfl _ rfl
      rw [e6, zn_10, z_mul, z_add, zn_48, z_sub, zn_1000000, z_mnI (by omega) (by omega) (by omega) (by omega), gI_out (by omega), eq, z_inc, show vxN T L p (q - p).toNat * 10 + tat T L q - 48 = vxN T L p (q - p).toNat * 10 + (tat T L q - 48) by omega, ← ev]
      refine hn _ ⟨q + 1, by omega, gI_in rfl rfl, by rw [gI_out (by omega), gI_out (by omega)]; exact e4, by rw [gI_out (by omega), gI_in rfl rfl], fun c k hc => ((hf c k hc).sI (by omega)).sI (by omega), fun r r0 r1 => ?_⟩ ?_
      · by_cases x : r = q
        · rw [x]; exact hd
        · exact hb r r0 (by omega)
      · rw [gI_in rfl rfl, eq, z_ti (by omega) (by omega), z_ti (by omega) (by omega)]
        omega
theorem m_takeNumber {k : PH → Prop} {Q : PH → Prop} (S : ScM h T L) (hp : 0 ≤ p ∧ p ≤ L) (e : gI h 0 36 = z p) (e9 : gI h 0 39 = z 0) (hq : ∀ g, (∀ c q, ¬ (c = 0 ∧ (q = 36 ∨ q = 39)) → At h g c q) → gI g 0 36 = z (run dgt T L p) → gI g 0 39 = z (vmN T L p (run dgt T L p - p).toNat) → k g) : ∃ n, Lp0 (w_X10_token_162 k Q) n h := by
  have s3 := S.2.1
  refine lp0_i (fun g => ∃ q, (p ≤ q ∧ q ≤ L) ∧ gI g 0 36 = z q ∧ gI g 0 39 = z (vmN T L p (q - p).toNat) ∧ (∀ c q, ¬ (c = 0 ∧ (q = 36 ∨ q = 39)) → At h g c q) ∧ ∀ r, p ≤ r → r < q → dgt (tat T L r) = true) (fun g => (1000 - (gI g 0 36).toInt).toNat) ?_ _ ⟨p, by omega, e, by rw [e9, show (p - p).toNat = 0 by omega]; rfl, fun c q _ => At.rf h c q, fun r r0 r1 => by omega⟩
  rintro kb g ⟨q, hq1, eq, e6, hf, hb⟩ hn
  have Sg : ScM g T L := S.at' (fun c k hc => hf c k (by omega))
  have tr := tat_rg (L := L) Sg.2.2.2 q
  unfold w_X10_token_162
  refine m_here Sg (by omega) eq ?_
  refine m_isDigit tr ?_
  cases hd : dgt (tat T L q) with
  | false =>
    rw [if_pos (show z (bI false) = 0 from rfl)]
    have er := run_eq hq1.1 hq1.2 hb hd
    exact hq g hf (by rw [er]; exact eq) (by rw [er]; exact e6)
  | true =>
    rw [if_neg (show ¬ z (bI true) = 0 by decide)]
    have ql : q < L := by
      rcases Int.lt_or_le q L with x | x
      · exact x
      · rw [tat_L x] at hd; exact absurd hd (by decide)
    have dr := dgt_rg hd
    have nr := num_rel (T := T) (L := L) (p := p) (q - p).toNat (fun d d0 d1 => hb (p + d) (by omega) (by omega))
    have ev : vmN T L p (q + 1 - p).toNat = if vmN T L p (q - p).toNat ≤ 99999 then 10 * vmN T L p (q - p).toNat + (tat T L q - 48) else vmN T L p (q - p).toNat := by
      rw [show (q + 1 - p).toNat = (q - p).toNat + 1 by omega]
      show (if vmN T L p (q - p).toNat ≤ 99999 then 10 * vmN T L p (q - p).toNat + (tat T L (p + (((q - p).toNat : Nat) : Int)) - 48) else vmN T L p (q - p).toNat) = _
      rw [show p + (((q - p).toNat : Nat) : Int) = q by omega]
    have put : ∀ y : Int32, y = z (vmN T L p (q + 1 - p).toNat) → w_X10_token_205 Q kb y g := fun y hy => by
      subst hy
      unfold w_X10_token_205
      rintro _ rfl _ rfl
      rw [gI_out (by omega), eq, z_inc]
      refine hn _ ⟨q + 1, by omega, gI_in rfl rfl, by rw [gI_out (by omega), gI_in rfl rfl], fun c k hc => ((hf c k hc).sI (by omega)).sI (by omega), fun r r0 r1 => ?_⟩ ?_
      · by_cases x : r = q
        · rw [x]; exact hd
        · exact hb r r0 (by omega)
      · rw [gI_in rfl rfl, eq, z_ti (by omega) (by omega), z_ti (by omega) (by omega)]
        omega
    rw [e6, zn_99999]
    by_cases c : vmN T L p (q - p).toNat ≤ 99999
    · rw [if_pos (by rw [z_le (by omega) (by omega) (by omega) (by omega)]; omega)]
      refine m_here Sg (by omega) eq ?_
      refine put _ ?_
      rw [ev, if_pos c, zn_10, z_mul, z_add, zn_48, z_sub]
      congr 1
      omega
    · rw [if_neg (by rw [z_le (by omega) (by omega) (by omega) (by omega)]; omega)]
      refine put _ ?_
      rw [ev, if_neg c]
end NUM
