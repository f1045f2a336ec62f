/-! ===== text: signs of the tape ===== -/
def tat (T : Int → Int) (L p : Int) : Int := if 0 ≤ p ∧ p < L then T p else -1
def ScX (h : PH) (T : Int → Int) (L : Int) : Prop := gP h 3 1 = 2 ∧ gI h 3 2 = z L ∧ (0 ≤ L ∧ L ≤ 700) ∧ (∀ k : Int, 0 ≤ k → k < L → gI h 1 k.toNat = z (sb (T k))) ∧ (∀ k, 0 ≤ T k ∧ T k < 256) ∧ ∀ k, k < 24 → gI h 4 k = z (tg24 k)
def ScM (h : PH) (T : Int → Int) (L : Int) : Prop := gI h 0 35 = z L ∧ (0 ≤ L ∧ L ≤ 700) ∧ (∀ k : Int, 0 ≤ k → k < L → gI h 1 k.toNat = z (T k)) ∧ ∀ k, 0 ≤ T k ∧ T k < 256
theorem sb_and : ∀ v : Fin 256, z (sb ((v.val : Nat) : Int)) &&& 255 = z ((v.val : Nat) : Int) := by decide +kernel
def blk (c : Int) : Bool := decide (c = 10) || decide (c = 32)
def ltr (c : Int) : Bool := decide (97 ≤ c) && decide (c ≤ 122)
def dgt (c : Int) : Bool := decide (48 ≤ c) && decide (c ≤ 57)
/-- the first place from p on where f does not hold -/
def run (f : Int → Bool) (T : Int → Int) (L p : Int) : Int := p + ff (fun d => !f (tat T L (p + d))) (L - p + 1)
section TXT
variable {h : PH} {T : Int → Int} {L : Int}
theorem tat_rg (hT : ∀ k, 0 ≤ T k ∧ T k < 256) (p : Int) : -1 ≤ tat T L p ∧ tat T L p < 256 := by
  have := hT p
  unfold tat
  split <;> omega
theorem run_eq {f : Int → Bool} {p q : Int} (hp : p ≤ q) (hq : q ≤ L) (h1 : ∀ r, p ≤ r → r < q → f (tat T L r) = true) (h2 : f (tat T L q) = false) : run f T L p = q := by
  unfold run
  rw [ff_yes (r := q - p) (by omega) (by omega) (by rw [show p + (q - p) = q by omega, h2]; rfl) (fun d d0 d1 => by rw [h1 (p + d) (by omega) (by omega)]; rfl)]
  omega
theorem tat_L {p : Int} (h : L ≤ p) : tat T L p = -1 := by unfold tat; rw [if_neg (by omega)]
theorem ScX.at' {g : PH} (S : ScX h T L) (e : ∀ c k, (c = 1 ∨ c = 4 ∨ (c = 3 ∧ (k = 1 ∨ k = 2))) → At h g c k) : ScX g T L := by
  obtain ⟨s1, s2, s3, s4, s5, s6⟩ := S
  exact ⟨by rw [(e 3 1 (by omega)).2.2]; exact s1, by rw [(e 3 2 (by omega)).1]; exact s2, s3, fun k k0 k1 => by rw [(e 1 _ (by omega)).1]; exact s4 k k0 k1, s5, fun k hk => by rw [(e 4 _ (by omega)).1]; exact s6 k hk⟩
theorem ScM.at' {g : PH} (S : ScM h T L) (e : ∀ c k, (c = 1 ∨ (c = 0 ∧ k = 35)) → At h g c k) : ScM g T L := by
  obtain ⟨s1, s2, s3, s4⟩ := S
  exact ⟨by rw [(e 0 35 (by omega)).1]; exact s1, s2, fun k k0 k1 => by rw [(e 1 _ (by omega)).1]; exact s3 k k0 k1, s4⟩
theorem x_signAt {Q : Int32 → PH → Prop} {p : Int} (S : ScX h T L) (hp : i32 p) (hq : Q (z (tat T L p)) h) : w_X7_signAt (z p) h Q := by
  obtain ⟨s1, s2, s3, s4, s5, s6⟩ := S
  have p1 := hp.1
  have p2 := hp.2
  have ax : gP h 3 1 ≠ 0 ∧ aX (gP h 3 1 - 1) 2 700 := by rw [s1]; exact ⟨by decide, by decide, rfl⟩
  have bad : ¬ (0 ≤ p ∧ p < L) → Q (-1) h := fun c => by
    unfold tat at hq
    rw [if_neg c] at hq
    exact hq
  unfold w_X7_signAt
  refine ⟨ax.1, ax.2, ?_⟩
  by_cases c1 : p < 0
  · rw [zn_0, if_pos (by rw [z_lt (by omega) (by omega) (by omega) (by omega)]; omega)]; exact bad (by omega)
  rw [zn_0, if_neg (by rw [z_lt (by omega) (by omega) (by omega) (by omega)]; omega), s2]
  by_cases c2 : L ≤ p
  · rw [if_pos (by rw [z_le (by omega) (by omega) (by omega) (by omega)]; omega)]; exact bad (by omega)
  rw [if_neg (by rw [z_le (by omega) (by omega) (by omega) (by omega)]; omega)]
  refine ⟨ax.1, ax.2, ?_⟩
  rw [zn_700, if_neg (by rw [z_le (by omega) (by omega) (by omega) (by omega)]; omega)]
  refine ⟨ax.1, ax.2, z_in (by omega) (by omega) (by omega), ?_⟩
  have e := sb_and ⟨(T p).toNat, by have := s5 p; omega⟩
  simp only [show (((T p).toNat : Nat) : Int) = T p by have := s5 p; omega] at e
  rw [s1, z_iN (a := p) (by omega) (by omega), s4 p (by omega) (by omega), e]
  unfold tat at hq
  rw [if_pos ⟨by omega, by omega⟩] at hq
  exact hq
theorem m_here {Q : Int32 → PH → Prop} {p : Int} (S : ScM h T L) (hp : 0 ≤ p ∧ p ≤ 100000) (e : gI h 0 36 = z p) (hq : Q (z (tat T L p)) h) : w_X10_here h Q := by
  obtain ⟨s1, s2, s3, s4⟩ := S
  unfold w_X10_here
  rw [s1, e]
  unfold tat at hq
  by_cases c : L ≤ p
  · rw [if_pos (by rw [z_le (by omega) (by omega) (by omega) (by omega)]; omega)]
    rw [if_neg (by omega)] at hq
    exact hq
  · rw [if_neg (by rw [z_le (by omega) (by omega) (by omega) (by omega)]; omega), z_iN (a := p) (by omega) (by omega), s3 p hp.1 (by omega)]
    rw [if_pos ⟨hp.1, by omega⟩] at hq
    exact ⟨z_in (by omega) (by omega) (by omega), hq⟩
theorem x_isLetter {Q : Int32 → PH → Prop} {c : Int} (hc : -1 ≤ c ∧ c < 256) (hq : Q (z (bI (ltr c))) h) : w_X7_isLetter (z c) h Q := by
  unfold ltr at hq
  unfold w_X7_isLetter
  by_cases c1 : c < 97
  · rw [zn_97, if_pos (by rw [z_lt (by omega) (by omega) (by omega) (by omega)]; omega)]
    rw [decide_eq_false (by omega : ¬ 97 ≤ c)] at hq
    exact hq
  · rw [zn_97, if_neg (by rw [z_lt (by omega) (by omega) (by omega) (by omega)]; omega), zn_122]
    rw [decide_eq_true (by omega : 97 ≤ c)] at hq
    by_cases c2 : 122 < c
    · rw [if_pos (by rw [z_lt (by omega) (by omega) (by omega) (by omega)]; omega)]
      rw [decide_eq_false (by omega : ¬ c ≤ 122)] at hq
      exact hq
    · rw [if_neg (by rw [z_lt (by omega) (by omega) (by omega) (by omega)]; omega)]
      rw [decide_eq_true (by omega : c ≤ 122)] at hq
      exact hq
theorem x_isDigit {Q : Int32 → PH → Prop} {c : Int} (hc : -1 ≤ c ∧ c < 256) (hq : Q (z (bI (dgt c))) h) : w_X7_isDigit (z c) h Q := by
  unfold dgt at hq
  unfold w_X7_isDigit
  by_cases c1 : c < 48
  · rw [zn_48, if_pos (by rw [z_lt (by omega) (by omega) (by omega) (by omega)]; omega)]
    rw [decide_eq_false (by omega : ¬ 48 ≤ c)] at hq
    exact hq
  · rw [zn_48, if_neg (by rw [z_lt (by omega) (by omega) (by omega) (by omega)]; omega), zn_57]
    rw [decide_eq_true (by omega : 48 ≤ c)] at hq
    by_cases c2 : 57 < c
    · rw [if_pos (by rw [z_lt (by omega) (by omega) (by omega) (by omega)]; omega)]
      rw [decide_eq_false (by omega : ¬ c ≤ 57)] at hq
      exact hq
    · rw [if_neg (by rw [z_lt (by omega) (by omega) (by omega) (by omega)]; omega)]
      rw [decide_eq_true (by omega : c ≤ 57)] at hq
      exact hq
theorem m_isSmall {Q : Int32 → PH → Prop} {c : Int} (hc : -1 ≤ c ∧ c < 256) (hq : Q (z (bI (ltr c))) h) : w_X10_isSmall (z c) h Q := x_isLetter hc hq
theorem m_isDigit {Q : Int32 → PH → Prop} {c : Int} (hc : -1 ≤ c ∧ c < 256) (hq : Q (z (bI (dgt c))) h) : w_X10_isDigit (z c) h Q := x_isDigit hc hq
/-- blanks passed, by the class -/
theorem x_skip {k : PH → Prop} {Q : PH → Prop} {p : Int} (S : ScX h T L) (hp : 0 ≤ p ∧ p ≤ L) (e : gI h 3 3 = z p) (hk : ∀ g, (∀ c q, ¬ (c = 3 ∧ q = 3) → At h g c q) → gI g 3 3 = z (run blk T L p) → (p ≤ run blk T L p ∧ run blk T L p ≤ L) → k g) : ∃ n, Lp0 (w_X7_advance_0 k Q) n h := by
  have s3 := S.2.2.1
  refine lp0_i (fun g => ∃ q, (p ≤ q ∧ q ≤ L) ∧ gI g 3 3 = z q ∧ (∀ c q, ¬ (c = 3 ∧ q = 3) → At h g c q) ∧ ∀ r, p ≤ r → r < q → blk (tat T L r) = true) (fun g => (1000 - (gI g 3 3).toInt).toNat) ?_ h ⟨p, by omega, e, fun c q _ => At.rf h c q, fun r r0 r1 => by omega⟩
  rintro kb g ⟨q, hq, eq, hf, hb⟩ hn
  have Sg : ScX g T L := S.at' (fun c k hc => hf c k (by omega))
  have fin : blk (tat T L q) = false → k g := fun c => by
    have er := run_eq hq.1 hq.2 hb c
    exact hk g hf (by rw [er]; exact eq) (by rw [er]; exact hq)
  have nxt : blk (tat T L q) = true → w_X7_advance_37 Q kb g := fun c => by
    have ql : q < L := by
      rcases Int.lt_or_le q L with x | x
      · exact x
      · rw [tat_L x] at c; exact absurd c (by decide)
    unfold w_X7_advance_37
    rintro _ rfl
    rw [eq, z_inc]
    refine hn _ ⟨q + 1, by omega, gI_in rfl rfl, fun c k hc => (hf c k hc).sI (by omega), fun r r0 r1 => ?_⟩ ?_
    · by_cases x : r = q
      · rw [x]; exact c
      · exact hb r r0 (by omega)
    · rw [gI_in rfl rfl, eq, z_ti (by omega) (by omega), z_ti (by omega) (by omega)]
      omega
  have tr := tat_rg (L := L) Sg.2.2.2.2.1 q
  unfold w_X7_advance_0
  rw [Sg.2.1, eq]
  by_cases c0 : L ≤ q
  · rw [if_pos (by rw [z_le (by omega) (by omega) (by omega) (by omega)]; omega)]
    exact fin (by rw [tat_L c0]; decide)
  · rw [if_neg (by rw [z_le (by omega) (by omega) (by omega) (by omega)]; omega)]
    refine x_signAt Sg ⟨by omega, by omega⟩ ?_
    by_cases c1 : tat T L q = 10
    · rw [if_pos (by rw [c1]; rfl)]
      exact nxt (by rw [c1]; decide)
    · rw [if_neg (show ¬ z (tat T L q) = 10 from z_ne (by omega) (by omega) (by decide) (by decide) c1), eq]
      refine x_signAt Sg ⟨by omega, by omega⟩ ?_
      by_cases c2 : tat T L q = 32
      · rw [if_pos (by rw [c2]; rfl)]
        exact nxt (by rw [c2]; decide)
      · rw [if_neg (show ¬ z (tat T L q) = 32 from z_ne (by omega) (by omega) (by decide) (by decide) c2)]
        exact fin (by unfold blk; rw [decide_eq_false c1, decide_eq_false c2]; rfl)
/-- blanks passed, by the reference -/
theorem m_skip {k : PH → Prop} {Q : PH → Prop} {p : Int} (S : ScM h T L) (hp : 0 ≤ p ∧ p ≤ L) (e : gI h 0 36 = z p) (hk : ∀ g, (∀ c q, ¬ (c = 0 ∧ q = 36) → At h g c q) → gI g 0 36 = z (run blk T L p) → (p ≤ run blk T L p ∧ run blk T L p ≤ L) → k g) : ∃ n, Lp0 (w_X10_token_0 k Q) n h := by
  have s3 := S.2.1
  refine lp0_i (fun g => ∃ q, (p ≤ q ∧ q ≤ L) ∧ gI g 0 36 = z q ∧ (∀ c q, ¬ (c = 0 ∧ q = 36) → At h g c q) ∧ ∀ r, p ≤ r → r < q → blk (tat T L r) = true) (fun g => (1000 - (gI g 0 36).toInt).toNat) ?_ h ⟨p, by omega, e, fun c q _ => At.rf h c q, fun r r0 r1 => by omega⟩
  rintro kb g ⟨q, hq, eq, hf, hb⟩ hn
  have Sg : ScM g T L := S.at' (fun c k hc => hf c k (by omega))
  have fin : blk (tat T L q) = false → k g := fun c => by
    have er := run_eq hq.1 hq.2 hb c
    exact hk g hf (by rw [er]; exact eq) (by rw [er]; exact hq)
  have nxt : blk (tat T L q) = true → w_X10_token_18 Q kb g := fun c => by
    have ql : q < L := by
      rcases Int.lt_or_le q L with x | x
      · exact x
      · rw [tat_L x] at c; exact absurd c (by decide)
    unfold w_X10_token_18
    rintro _ rfl
    rw [eq, z_inc]
    refine hn _ ⟨q + 1, by omega, gI_in rfl rfl, fun c k hc => (hf c k hc).sI (by omega), fun r r0 r1 => ?_⟩ ?_
    · by_cases x : r = q
      · rw [x]; exact c
      · exact hb r r0 (by omega)
    · rw [gI_in rfl rfl, eq, z_ti (by omega) (by omega), z_ti (by omega) (by omega)]
      omega
  have tr := tat_rg (L := L) Sg.2.2.2 q
  unfold w_X10_token_0
  refine m_here Sg (by omega) eq ?_
  by_cases c1 : tat T L q = 10
  · rw [if_pos (by rw [c1]; rfl)]
    exact nxt (by rw [c1]; decide)
  · rw [if_neg (show ¬ z (tat T L q) = 10 from z_ne (by omega) (by omega) (by decide) (by decide) c1)]
    refine m_here Sg (by omega) eq ?_
    by_cases c2 : tat T L q = 32
    · rw [if_pos (by rw [c2]; rfl)]
      exact nxt (by rw [c2]; decide)
    · rw [if_neg (show ¬ z (tat T L q) = 32 from z_ne (by omega) (by omega) (by decide) (by decide) c2)]
      exact fin (by unfold blk; rw [decide_eq_false c1, decide_eq_false c2]; rfl)
end TXT
