/-! ===== rows of the class ===== -/
def Rw (h : PH) (t : Nat) (W N n : Int) : Prop := gI h t 0 = z W ∧ gI h t 1 = z N ∧ gI h t 3 = z n ∧ 0 ≤ n ∧ n ≤ N ∧ 0 < W ∧ W ≤ 6 ∧ N ≤ 144 ∧ W * N = (alX (t + 1) : Int)
theorem rw_in {r c W N : Int} (h1 : 0 ≤ r) (h2 : r < N) (h3 : 0 ≤ c) (h4 : c < W) : 0 ≤ r * W + c ∧ r * W + c < W * N := by
  have a : 0 ≤ r * W := Int.mul_nonneg h1 (by omega)
  have b : r * W ≤ (N - 1) * W := Int.mul_le_mul_of_nonneg_right (by omega) (by omega)
  have e : (N - 1) * W = W * N - W := by rw [Int.sub_mul, Int.mul_comm N W]; omega
  omega
theorem rw_al {W N : Int} (h1 : 0 < W) (h2 : W ≤ 6) (h3 : N ≤ 144) : W * N ≤ 6 * 144 ∨ N < 0 := by
  by_cases h : N < 0
  · exact Or.inr h
  · have : W * N ≤ 6 * N := Int.mul_le_mul_of_nonneg_right h2 (by omega)
    omega
section ROWSX
variable {h : PH} {t : Nat} {W N n : Int} {x1 x2 : Int32} {r c : Int}
theorem x_hasT {Q : Int32 → PH → Prop} (R : Rw h t W N n) (e : x1 = z r) (h1 : 0 ≤ r) (h2 : r < n) (hq : Q 1 h) : w_X6_has t x1 h Q := by
  subst e
  obtain ⟨a1, a2, a3, a4, a5, a6, a7, a8, a9⟩ := R
  unfold w_X6_has
  rw [a3, zn_0, if_neg (by rw [z_lt (by omega) (by omega) (by omega) (by omega)]; omega), if_neg (by rw [z_le (by omega) (by omega) (by omega) (by omega)]; omega)]
  exact hq
theorem x_hasF {Q : Int32 → PH → Prop} (R : Rw h t W N n) (e : x1 = z r) (h1 : -2147483648 ≤ r) (h2 : r < 2147483648) (h3 : ¬ (0 ≤ r ∧ r < n)) (hq : Q 0 h) : w_X6_has t x1 h Q := by
  subst e
  obtain ⟨a1, a2, a3, a4, a5, a6, a7, a8, a9⟩ := R
  unfold w_X6_has
  by_cases c0 : r < 0
  · rw [if_pos (by rw [zn_0, z_lt (by omega) (by omega) (by omega) (by omega)]; exact c0)]
    exact hq
  · rw [if_neg (by rw [zn_0, z_lt (by omega) (by omega) (by omega) (by omega)]; exact c0), a3, if_pos (by rw [z_le (by omega) (by omega) (by omega) (by omega)]; omega)]
    exact hq
theorem x_has {Q : Int32 → PH → Prop} (R : Rw h t W N n) (e : x1 = z r) (h1 : -2147483648 ≤ r) (h2 : r < 2147483648) (hT : 0 ≤ r → r < n → Q 1 h) (hF : ¬ (0 ≤ r ∧ r < n) → Q 0 h) : w_X6_has t x1 h Q := by
  by_cases c0 : 0 ≤ r ∧ r < n
  · exact x_hasT R e c0.1 c0.2 (hT c0.1 c0.2)
  · exact x_hasF R e h1 h2 c0 (hF c0)
theorem x_at {Q : Int32 → PH → Prop} (R : Rw h t W N n) (e1 : x1 = z r) (e2 : x2 = z c) (h1 : 0 ≤ r) (h2 : r < n) (h3 : 0 ≤ c) (h4 : c < W) (hq : Q (gI h (t + 1) (r * W + c).toNat) h) : w_X6_at t x1 x2 h Q := by
  subst e1 e2
  have R' := R
  obtain ⟨a1, a2, a3, a4, a5, a6, a7, a8, a9⟩ := R'
  unfold w_X6_at
  refine x_hasT R rfl h1 h2 ?_
  have b := rw_in h1 (by omega : r < N) h3 h4
  have b2 := rw_al a6 a7 a8
  rw [if_neg (by decide), zn_0, if_neg (by rw [z_lt (by omega) (by omega) (by omega) (by omega)]; omega), a1, if_neg (by rw [z_le (by omega) (by omega) (by omega) (by omega)]; omega), z_mul, z_add, z_iN b.1 (by omega)]
  exact ⟨z_in b.1 (by omega) (by omega), hq⟩
theorem x_atN {Q : Int32 → PH → Prop} (R : Rw h t W N n) (e1 : x1 = z r) (e2 : x2 = z c) (h1 : -2147483648 ≤ r) (h2 : r < 2147483648) (h3 : -2147483648 ≤ c) (h4 : c < 2147483648) (hn : ¬ (0 ≤ r ∧ r < n ∧ 0 ≤ c ∧ c < W)) (hq : Q (-1) h) : w_X6_at t x1 x2 h Q := by
  subst e1 e2
  have R' := R
  obtain ⟨a1, a2, a3, a4, a5, a6, a7, a8, a9⟩ := R'
  unfold w_X6_at
  refine x_has R rfl h1 h2 (fun c1 c2 => ?_) (fun c1 => ?_)
  · rw [if_neg (by decide), zn_0]
    by_cases c3 : c < 0
    · rw [if_pos (by rw [z_lt (by omega) (by omega) (by omega) (by omega)]; exact c3)]; exact hq
    · rw [if_neg (by rw [z_lt (by omega) (by omega) (by omega) (by omega)]; exact c3), a1, if_pos (by rw [z_le (by omega) (by omega) (by omega) (by omega)]; omega)]
      exact hq
  · rw [if_pos rfl]; exact hq
theorem x_put {Q : PH → Prop} {v : Int32} (R : Rw h t W N n) (e1 : x1 = z r) (e2 : x2 = z c) (h1 : 0 ≤ r) (h2 : r < n) (h3 : 0 ≤ c) (h4 : c < W) (hq : Q (sI h (t + 1) (r * W + c).toNat v)) : w_X6_put t x1 x2 v h Q := by
  subst e1 e2
  have R' := R
  obtain ⟨a1, a2, a3, a4, a5, a6, a7, a8, a9⟩ := R'
  unfold w_X6_put
  refine x_hasT R rfl h1 h2 ?_
  have b := rw_in h1 (by omega : r < N) h3 h4
  have b2 := rw_al a6 a7 a8
  rw [if_neg (by decide), zn_0, if_neg (by rw [z_lt (by omega) (by omega) (by omega) (by omega)]; omega), a1, if_neg (by rw [z_le (by omega) (by omega) (by omega) (by omega)]; omega), z_mul, z_add, z_iN b.1 (by omega)]
  refine ⟨z_in b.1 (by omega) (by omega), ?_⟩
  rintro _ rfl
  exact hq
theorem x_putN {Q : PH → Prop} {v : Int32} (R : Rw h t W N n) (e1 : x1 = z r) (e2 : x2 = z c) (h1 : 0 ≤ r) (h2 : r < n) (h3 : 0 ≤ c) (h5 : c < 2147483648) (h4 : W ≤ c) (hq : Q h) : w_X6_put t x1 x2 v h Q := by
  subst e1 e2
  have R' := R
  obtain ⟨a1, a2, a3, a4, a5, a6, a7, a8, a9⟩ := R'
  unfold w_X6_put
  refine x_hasT R rfl h1 h2 ?_
  rw [if_neg (by decide), zn_0, if_neg (by rw [z_lt (by omega) (by omega) (by omega) (by omega)]; omega), a1, if_pos (by rw [z_le (by omega) (by omega) (by omega) (by omega)]; omega)]
  exact hq
theorem Rw.put {R : Rw h t W N n} {k : Nat} {v : Int32} : Rw (sI h (t + 1) k v) t W N n := by
  obtain ⟨a1, a2, a3, a4⟩ := R
  exact ⟨by rw [gI_out (by omega)]; exact a1, by rw [gI_out (by omega)]; exact a2, by rw [gI_out (by omega)]; exact a3, a4⟩
theorem Rw.at' {g : PH} (R : Rw h t W N n) (e : ∀ k, At h g t k) : Rw g t W N n := by
  obtain ⟨a1, a2, a3, a4⟩ := R
  exact ⟨by rw [(e 0).1]; exact a1, by rw [(e 1).1]; exact a2, by rw [(e 3).1]; exact a3, a4⟩
/-- what add puts into column c -/
def acol (x1 x2 x3 x4 x5 : Int32) (c : Int) : Int32 := if c = 0 then x1 else if c = 1 then x2 else if c = 2 then x3 else if c = 3 then x4 else if c = 4 then x5 else 0
theorem x_put1 {Q : PH → Prop} {v : Int32} {k0 : Int} (R : Rw h t W N n) (e1 : x1 = z r) (e2 : x2 = z c) (h1 : 0 ≤ r) (h2 : r < n) (h3 : 0 ≤ c) (h3' : c ≤ 5) {f : Int → Int32}
    (hf : ∀ j, 0 ≤ j → j < c → j < W → gI h (t + 1) (r * W + j).toNat = f j) (hv : v = f c)
    (hq : ∀ g, Rw g t W N n → (∀ j, 0 ≤ j → j < c + 1 → j < W → gI g (t + 1) (r * W + j).toNat = f j) → (∀ i k, ¬ (i = t + 1 ∧ (r * W).toNat ≤ k ∧ k < (r * W + W).toNat) → At h g i k) → Q g) : w_X6_put t x1 x2 v h Q := by
  have R' := R
  obtain ⟨a1, a2, a3, a4, a5, a6, a7, a8, a9⟩ := R'
  have rW : 0 ≤ r * W := Int.mul_nonneg h1 (by omega)
  by_cases hc : c < W
  · refine x_put R e1 e2 h1 h2 h3 hc (hq _ (Rw.put (R := R)) (fun j b1 b2 b3 => ?_) (fun i k hn => (At.rf h i k).sI (by omega)))
    by_cases ej : j = c
    · rw [ej, gI_in rfl rfl]; exact hv
    · rw [gI_out (by omega)]; exact hf j b1 (by omega) b3
  · exact x_putN R e1 e2 h1 h2 h3 (by omega) (by omega) (hq h R (fun j b1 b2 b3 => hf j b1 (by omega) b3) (fun i k _ => At.rf h i k))
theorem x_add {Q : Int32 → PH → Prop} {y1 y2 y3 y4 y5 : Int32} (R : Rw h t W N n) (hn : n < N)
    (hq : ∀ g, Rw g t W N (n + 1) → (∀ j, 0 ≤ j → j < W → gI g (t + 1) (n * W + j).toNat = acol y1 y2 y3 y4 y5 j) → (∀ i k, ¬ (i = t ∧ k = 3) → ¬ (i = t + 1 ∧ (n * W).toNat ≤ k ∧ k < (n * W + W).toNat) → At h g i k) → Q (z n) g) : w_X6_add t y1 y2 y3 y4 y5 h Q := by
  have R' := R
  obtain ⟨a1, a2, a3, a4, a5, a6, a7, a8, a9⟩ := R'
  unfold w_X6_add w_X6_isFull
  rw [a3, a2, if_pos (by rw [z_lt (by omega) (by omega) (by omega) (by omega)]; exact hn)]
  dsimp only
  rw [if_pos rfl]
  rintro _ rfl _ rfl
  rw [a3, zn_1, z_add]
  have R1 : Rw (sI h t 3 (z (n + 1))) t W N (n + 1) := ⟨by rw [gI_out (by omega)]; exact a1, by rw [gI_out (by omega)]; exact a2, gI_in rfl rfl, by omega, by omega, a6, a7, a8, a9⟩
  have F0 : ∀ i k, ¬ (i = t ∧ k = 3) → At h (sI h t 3 (z (n + 1))) i k := fun i k hk => (At.rf h i k).sI hk
  refine x_put1 (k0 := 0) (f := acol y1 y2 y3 y4 y5) (r := n) (c := 0) R1 rfl rfl a4 (by omega) (by omega) (by omega) (fun j b1 b2 => by omega) rfl (fun g1 S1 V1 E1 => ?_)
  refine x_put1 (k0 := 0) (f := acol y1 y2 y3 y4 y5) (r := n) (c := 1) S1 rfl rfl a4 (by omega) (by omega) (by omega) V1 rfl (fun g2 S2 V2 E2 => ?_)
  refine x_put1 (k0 := 0) (f := acol y1 y2 y3 y4 y5) (r := n) (c := 2) S2 rfl rfl a4 (by omega) (by omega) (by omega) V2 rfl (fun g3 S3 V3 E3 => ?_)
  refine x_put1 (k0 := 0) (f := acol y1 y2 y3 y4 y5) (r := n) (c := 3) S3 rfl rfl a4 (by omega) (by omega) (by omega) V3 rfl (fun g4 S4 V4 E4 => ?_)
  refine x_put1 (k0 := 0) (f := acol y1 y2 y3 y4 y5) (r := n) (c := 4) S4 rfl rfl a4 (by omega) (by omega) (by omega) V4 rfl (fun g5 S5 V5 E5 => ?_)
  refine x_put1 (k0 := 0) (f := acol y1 y2 y3 y4 y5) (r := n) (c := 5) S5 rfl rfl a4 (by omega) (by omega) (by omega) V5 rfl (fun g6 S6 V6 E6 => ?_)
  exact hq g6 S6 (fun j b1 b2 => V6 j b1 (by omega) b2) (fun i k u1 u2 => ((((((F0 i k u1).tr (E1 i k u2)).tr (E2 i k u2)).tr (E3 i k u2)).tr (E4 i k u2)).tr (E5 i k u2)).tr (E6 i k u2))
theorem x_addN {Q : Int32 → PH → Prop} {y1 y2 y3 y4 y5 : Int32} (R : Rw h t W N n) (hn : N ≤ n) (hq : Q (-1) h) : w_X6_add t y1 y2 y3 y4 y5 h Q := by
  obtain ⟨a1, a2, a3, a4, a5, a6, a7, a8, a9⟩ := R
  unfold w_X6_add w_X6_isFull
  rw [a3, a2, if_neg (by rw [z_lt (by omega) (by omega) (by omega) (by omega)]; omega)]
  dsimp only
  rw [if_neg (by decide)]
  exact hq
theorem x_find {Q : Int32 → PH → Prop} {f : Int → Int} {v : Int} (R : Rw h t W N n) (e1 : x1 = z c) (e2 : x2 = z v) (hv : -2147483648 ≤ v ∧ v < 2147483648) (h3 : 0 ≤ c) (h4 : c < W) (hf : ∀ k, 0 ≤ k → k < n → gI h (t + 1) (k * W + c).toNat = z (f k) ∧ -2147483648 ≤ f k ∧ f k < 2147483648) (hq : Q (z (ff (fun k => decide (f k = v)) n)) h) : w_X6_find t x1 x2 h Q := by
  subst e1 e2
  have R' := R
  obtain ⟨a1, a2, a3, a4, a5, a6, a7, a8, a9⟩ := R'
  unfold w_X6_find
  refine for10 n (fun i g => g = h ∧ ∀ j, 0 ≤ j → j < i → f j ≠ v) 0 rfl (by omega) (by omega) a4 ⟨rfl, fun j b1 b2 => by omega⟩ ?_ ?_
  · rintro kb i g h0 h1 ⟨rfl, hJ⟩ hk
    unfold w_X6_find_2
    rw [a3, if_neg (by rw [z_le (by omega) (by omega) (by omega) (by omega)]; omega)]
    refine x_at R rfl rfl h0 h1 h3 h4 ?_
    obtain ⟨q1, q2, q3⟩ := hf i h0 h1
    rw [q1]
    by_cases e : f i = v
    · rw [if_pos (by rw [e])]
      have : ff (fun k => decide (f k = v)) n = i := ff_yes h0 h1 (by simp [e]) (fun j b1 b2 => by simp [hJ j b1 b2])
      rw [this] at hq
      exact hq
    · rw [if_neg (z_ne q2 q3 hv.1 hv.2 e), zn_1, z_add]
      exact hk _ ⟨rfl, fun j b1 b2 => by
        by_cases ej : j = i
        · rw [ej]; exact e
        · exact hJ j b1 (by omega)⟩
  · rintro kb g ⟨rfl, hJ⟩
    unfold w_X6_find_2
    rw [a3, if_pos (by rw [z_le (by omega) (by omega) (by omega) (by omega)]; omega)]
    rw [ff_no (fun j b1 b2 => by simp [hJ j b1 b2])] at hq
    exact hq
end ROWSX
/-! ===== a world ===== -/
abbrev Wd : Type := (Nat → Int) × (Nat → Nat → Int → Int) × List Int × List Int
abbrev Wd.n (a : Wd) (r : Nat) : Int := a.1 r
abbrev Wd.f (a : Wd) (r c : Nat) (k : Int) : Int := a.2.1 r c k
abbrev Wd.fd (a : Wd) : List Int := a.2.2.1
abbrev Wd.wo (a : Wd) : List Int := a.2.2.2
def cW : Nat → Int
  | 0 => 2
  | 1 => 4
  | 2 => 3
  | 3 => 6
  | _ => 4
def cM : Nat → Int
  | 0 => 6
  | 1 => 9
  | 2 => 4
  | 3 => 13
  | 4 => 16
  | 5 => 6
  | _ => 4
def WX (h : PH) (w : Nat) (a : Wd) : Prop := (∀ r, r < 7 → Rw h (w + 1 + 2 * r) (cW r) (cM r) (a.n r) ∧ ∀ (k : Int) (c : Nat), 0 ≤ k → k < a.n r → (c : Int) < cW r → gI h (w + 2 + 2 * r) (k * cW r + c).toNat = z (a.f r c k)) ∧ LX h (w + 15) a.fd ∧ LX h (w + 19) a.wo ∧ gI h w 9 = z (a.f 7 0 0) ∧ gI h w 10 = z (a.f 7 1 0) ∧ gI h w 11 = z (a.f 7 2 0)
theorem WX.rw {h : PH} {w : Nat} {a : Wd} (H : WX h w a) (r : Nat) (hr : r < 7) : Rw h (w + 1 + 2 * r) (cW r) (cM r) (a.n r) := (H.1 r hr).1
theorem WX.n0 {h : PH} {w : Nat} {a : Wd} (H : WX h w a) (r : Nat) (hr : r < 7) : gI h (w + 1 + 2 * r) 3 = z (a.n r) ∧ 0 ≤ a.n r ∧ a.n r ≤ cM r := ⟨(H.rw r hr).2.2.1, (H.rw r hr).2.2.2.1, (H.rw r hr).2.2.2.2.1⟩
theorem WX.at {h : PH} {w t : Nat} {a : Wd} {x1 x2 : Int32} {k : Int} {Q : Int32 → PH → Prop} (H : WX h w a) (r c : Nat) (hr : r < 7) (ht : t = w + 1 + 2 * r) (hc : (c : Int) < cW r) (e1 : x1 = z k) (e2 : x2 = z c) (h1 : 0 ≤ k) (h2 : k < a.n r) (hq : Q (z (a.f r c k)) h) : w_X6_at t x1 x2 h Q := by
  subst ht
  refine x_at (H.rw r hr) e1 e2 h1 h2 (by omega) hc ?_
  have := (H.1 r hr).2 k c h1 h2 hc
  rw [show w + 1 + 2 * r + 1 = w + 2 + 2 * r by omega, this]
  exact hq
/-- a world stays where its own cells do, but for what laws work with -/
theorem WX.at' {h g : PH} {w : Nat} {a : Wd} (H : WX h w a) (e : ∀ c k, w ≤ c → c < w + 23 → c ≠ w + 17 → c ≠ w + 18 → c ≠ w + 21 → c ≠ w + 22 → At h g c k) : WX g w a := by
  obtain ⟨h1, ⟨l1, l2, l3⟩, ⟨m1, m2, m3⟩, h4, h5, h6⟩ := H
  refine ⟨fun r hr => ⟨(h1 r hr).1.at' (fun k => e _ k (by omega) (by omega) (by omega) (by omega) (by omega) (by omega)), fun k c b1 b2 b3 => ?_⟩, ⟨?_, fun i hi => ?_, ?_⟩, ⟨?_, fun i hi => ?_, ?_⟩, ?_, ?_, ?_⟩
  · rw [(e _ _ (by omega) (by omega) (by omega) (by omega) (by omega) (by omega)).1]; exact (h1 r hr).2 k c b1 b2 b3
  · rw [(e _ _ (by omega) (by omega) (by omega) (by omega) (by omega) (by omega)).1]; exact l1
  · rw [(e _ _ (by omega) (by omega) (by omega) (by omega) (by omega) (by omega)).1]; exact l2 i hi
  · rw [(e _ _ (by omega) (by omega) (by omega) (by omega) (by omega) (by omega)).1]; exact l3
  · rw [(e _ _ (by omega) (by omega) (by omega) (by omega) (by omega) (by omega)).1]; exact m1
  · rw [(e _ _ (by omega) (by omega) (by omega) (by omega) (by omega) (by omega)).1]; exact m2 i hi
  · rw [(e _ _ (by omega) (by omega) (by omega) (by omega) (by omega) (by omega)).1]; exact m3
  · rw [(e _ _ (by omega) (by omega) (by omega) (by omega) (by omega) (by omega)).1]; exact h4
  · rw [(e _ _ (by omega) (by omega) (by omega) (by omega) (by omega) (by omega)).1]; exact h5
  · rw [(e _ _ (by omega) (by omega) (by omega) (by omega) (by omega) (by omega)).1]; exact h6
