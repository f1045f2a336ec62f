/-! ===== one more row ===== -/
def adR (a : Wd) (r : Nat) (f : Nat → Int) : Wd := (fun r' => if r' = r then a.n r + 1 else a.n r', fun r' c k => if r' = r ∧ k = a.n r then f c else a.f r' c k, a.2.2)
theorem adR_n (a : Wd) (r : Nat) (f : Nat → Int) : (adR a r f).n r = a.n r + 1 := if_pos rfl
theorem adR_n' {a : Wd} {r r' : Nat} {f : Nat → Int} (h : r' ≠ r) : (adR a r f).n r' = a.n r' := if_neg h
theorem adR_in (a : Wd) (r : Nat) (f : Nat → Int) (c : Nat) : (adR a r f).f r c (a.n r) = f c := if_pos ⟨rfl, rfl⟩
theorem adR_out {a : Wd} {r r' c : Nat} {f : Nat → Int} {k : Int} (h : ¬ (r' = r ∧ k = a.n r)) : (adR a r f).f r' c k = a.f r' c k := if_neg h
theorem x_addW {h : PH} {w t : Nat} {a : Wd} {y1 y2 y3 y4 y5 : Int32} {f : Nat → Int} {Q : Int32 → PH → Prop} (H : WX h w a) (r : Nat) (hr : r < 7) (ht : t = w + 1 + 2 * r) (hn : a.n r < cM r) (hv : ∀ c : Nat, (c : Int) < cW r → acol y1 y2 y3 y4 y5 c = z (f c)) (hq : ∀ g, (∀ c k, ¬ (c = w + 1 + 2 * r ∨ c = w + 2 + 2 * r) → At h g c k) → WX g w (adR a r f) → Q (z (a.n r)) g) : w_X6_add t y1 y2 y3 y4 y5 h Q := by
  subst ht
  have H' := H
  obtain ⟨h1, h2, h3, h4, h5, h6⟩ := H'
  have R := H.rw r hr
  refine x_add R hn (fun g R1 V1 E1 => ?_)
  have e : ∀ c k, ¬ (c = w + 1 + 2 * r ∨ c = w + 2 + 2 * r) → At h g c k := fun c k hc => E1 c k (by omega) (by omega)
  have h7 : ∀ c, (adR a r f).f 7 c 0 = a.f 7 c 0 := fun c => adR_out (by omega)
  refine hq g e ⟨fun r' hr' => ⟨?_, fun k c b1 b2 b3 => ?_⟩, h2.at' (fun c k b1 b2 => e c k (by omega)), h3.at' (fun c k b1 b2 => e c k (by omega)), ?_, ?_, ?_⟩
  · by_cases er : r' = r
    · subst er; rw [adR_n]; exact R1
    · rw [adR_n' er]
      exact (h1 r' hr').1.at' (fun k => e _ k (by omega))
  · by_cases er : r' = r
    · subst er
      rw [adR_n] at b2
      by_cases ek : k = a.n r'
      · rw [ek, adR_in]
        have := V1 c (by omega) b3
        rw [show w + 1 + 2 * r' + 1 = w + 2 + 2 * r' by omega] at this
        rw [this]
        exact hv c b3
      · rw [adR_out (by omega)]
        have lt : k * cW r' + cW r' ≤ a.n r' * cW r' := by
          have : (k + 1) * cW r' ≤ a.n r' * cW r' := Int.mul_le_mul_of_nonneg_right (by omega) (by have := R.2.2.2.2.2.1; omega)
          rw [Int.add_mul, Int.one_mul] at this
          exact this
        have k0 : 0 ≤ k * cW r' := Int.mul_nonneg b1 (by have := R.2.2.2.2.2.1; omega)
        rw [(E1 _ _ (by omega) (by omega)).1]
        exact (h1 r' hr').2 k c b1 (by omega) b3
    · rw [adR_n' er] at b2
      rw [adR_out (by omega), (e _ _ (by omega)).1]
      exact (h1 r' hr').2 k c b1 b2 b3
  · rw [h7, (e _ _ (by omega)).1]; exact h4
  · rw [h7, (e _ _ (by omega)).1]; exact h5
  · rw [h7, (e _ _ (by omega)).1]; exact h6
/-- the trial's seventh kind: one more noise all day -/
def nz5 (i : Int) : Nat → Int := fun c => if c = 0 then i else if c = 1 then -1 else if c = 2 then 0 else if c = 3 then 47 else if c = 4 then 8 else 0
def tw (a : Wd) (k i : Int) : Wd := if k = 0 then upF a 1 3 (fun _ => 0) else if k = 1 then upF a 3 5 (fun j => if j = i then 1 else a.f 3 5 j) else if k = 2 then upF a 3 5 (fun j => if a.f 3 1 j = i then 1 else a.f 3 5 j) else if k = 3 then soft a else if k = 5 then adR a 3 (nz5 i) else a
def canT (a : Wd) (k i : Int) : Bool := (decide (k = 0) && decide (i = 0)) || (decide (k = 1) && (decide (0 ≤ i) && decide (i < a.n 3))) || (decide (k = 2) && (decide (0 ≤ i) && decide (i < a.n 2))) || (decide (k = 3) && decide (i = 0)) || (decide (k = 4) && (decide (0 ≤ i) && decide (i < a.n 1))) || (decide (k = 5) && (decide (0 ≤ i) && decide (i < a.n 0)))
def a_tried (a : Wd) (k i : Int) : Int := if canT a k i = true then silAll (tw a k i) (far (tw a k i) (if k = 4 then i else -1)) else -1
theorem x_tried167 {h : PH} {b : Wd} {g : Int} {x : Int32} {Q : Int32 → PH → Prop} (H : WX h 77 b) (OL : OkL b) (ON : OkN b) (OX : OkX b) (OC : OkC b) (W : Wf b.fd) (hx : x = z g) (hg : -1 ≤ g ∧ g ≤ 100) (hq : ∀ f, (∀ c k, ¬ ((107 ≤ c ∧ c ≤ 111) ∨ c = 94 ∨ c = 95) → At h f c k) → WX f 77 b → Q (z (silAll b (far b g))) f) : w_X9_tried_167 Q x h := by
  unfold w_X9_tried_167
  refine x_measureTrial H OL ON OX OC W hx hg (fun f f1 W1 A1 => ?_)
  exact x_silentMinutes A1.2.2.1 OL.1 (hq f f1 W1)
