/-! ===== worlds with a column changed ===== -/
def upF (a : Wd) (r c : Nat) (f : Int → Int) : Wd := (a.1, fun r' c' k => if r' = r ∧ c' = c then f k else a.2.1 r' c' k, a.2.2)
theorem upF_in (a : Wd) (r c : Nat) (f : Int → Int) (k : Int) : (upF a r c f).f r c k = f k := if_pos ⟨rfl, rfl⟩
theorem upF_out {a : Wd} {r c r' c' : Nat} {f : Int → Int} {k : Int} (h : ¬ (r' = r ∧ c' = c)) : (upF a r c f).f r' c' k = a.f r' c' k := if_neg h
theorem upF_n (a : Wd) (r c : Nat) (f : Int → Int) (r' : Nat) : (upF a r c f).n r' = a.n r' := rfl
theorem WX.ext {h : PH} {w : Nat} {a b : Wd} (H : WX h w a) (hn : ∀ r, r < 7 → b.n r = a.n r) (hf : ∀ (r c : Nat) (k : Int), r < 7 → (c : Int) < cW r → 0 ≤ k → k < a.n r → b.f r c k = a.f r c k) (h7 : ∀ c, b.f 7 c 0 = a.f 7 c 0) (e1 : b.fd = a.fd) (e2 : b.wo = a.wo) : WX h w b := by
  obtain ⟨h1, h2, h3, h4, h5, h6⟩ := H
  refine ⟨fun r hr => ⟨by rw [hn r hr]; exact (h1 r hr).1, fun k c b1 b2 b3 => ?_⟩, by rw [e1]; exact h2, by rw [e2]; exact h3, by rw [h7]; exact h4, by rw [h7]; exact h5, by rw [h7]; exact h6⟩
  rw [hn r hr] at b2
  rw [hf r c k hr b3 b1 b2]
  exact (h1 r hr).2 k c b1 b2 b3
/-- one cell of a world's rows written -/
theorem WX.put {h : PH} {w : Nat} {a : Wd} (H : WX h w a) (r c : Nat) (hr : r < 7) (hc : (c : Int) < cW r) {k v : Int} (k0 : 0 ≤ k) (k1 : k < a.n r) : WX (sI h (w + 2 + 2 * r) (k * cW r + c).toNat (z v)) w (upF a r c (fun j => if j = k then v else a.f r c j)) := by
  obtain ⟨h1, h2, h3, h4, h5, h6⟩ := H
  have e : ∀ c' k', c' ≠ w + 2 + 2 * r → At h (sI h (w + 2 + 2 * r) (k * cW r + c).toNat (z v)) c' k' := fun c' k' hn => (At.rf h c' k').sI (by omega)
  have h7 : ∀ c', (upF a r c (fun j => if j = k then v else a.f r c j)).f 7 c' 0 = a.f 7 c' 0 := fun c' => upF_out (by omega)
  refine ⟨fun r' hr' => ⟨(h1 r' hr').1.at' (fun k' => e _ k' (by omega)), fun k' c' b1 b2 b3 => ?_⟩, h2.at' (fun c' k' b1 b2 => e c' k' (by omega)), h3.at' (fun c' k' b1 b2 => e c' k' (by omega)), ?_, ?_, ?_⟩
  · have old := (h1 r' hr').2 k' c' b1 b2 b3
    by_cases er : r' = r
    · subst er
      have p1 := rw_in b1 (by have := (h1 r' hr').1.2.2.2.2.1; rw [upF_n] at b2; omega : k' < cM r') (by omega : (0 : Int) ≤ (c' : Int)) b3
      have p2 := rw_in k0 (by have := (h1 r' hr').1.2.2.2.2.1; omega : k < cM r') (by omega : (0 : Int) ≤ (c : Int)) hc
      by_cases ec : c' = c
      · subst ec
        rw [upF_in]
        by_cases ek : k' = k
        · subst ek
          rw [gI_in rfl rfl, if_pos rfl]
        · rw [if_neg ek, gI_out]
          · exact old
          · intro x
            have x2 : k' * cW r' + c' = k * cW r' + c' := by omega
            have x3 : k' * cW r' = k * cW r' := by omega
            exact ek (Int.eq_of_mul_eq_mul_right (by omega) x3)
      · rw [upF_out (by omega), gI_out]
        · exact old
        · intro x
          have x2 : k' * cW r' + c' = k * cW r' + c := by omega
          have g1 : (k' * cW r' + c') % cW r' = c' := by rw [Int.mul_comm, Int.mul_add_emod_self_left, Int.emod_eq_of_lt (by omega) b3]
          have g2 : (k * cW r' + c) % cW r' = c := by rw [Int.mul_comm, Int.mul_add_emod_self_left, Int.emod_eq_of_lt (by omega) hc]
          rw [x2, g2] at g1
          omega
    · rw [upF_out (by omega), gI_out (by omega)]
      exact old
  · rw [h7, (e _ _ (by omega)).1]; exact h4
  · rw [h7, (e _ _ (by omega)).1]; exact h5
  · rw [h7, (e _ _ (by omega)).1]; exact h6
theorem x_putW {h : PH} {w t : Nat} {a : Wd} {x1 x2 v : Int32} {k u : Int} {Q : PH → Prop} (H : WX h w a) (r c : Nat) (hr : r < 7) (ht : t = w + 1 + 2 * r) (hc : (c : Int) < cW r) (e1 : x1 = z k) (e2 : x2 = z c) (e3 : v = z u) (k0 : 0 ≤ k) (k1 : k < a.n r) (hq : ∀ g, (∀ c' k', c' ≠ w + 2 + 2 * r → At h g c' k') → WX g w (upF a r c (fun j => if j = k then u else a.f r c j)) → Q g) : w_X6_put t x1 x2 v h Q := by
  subst ht e3
  refine x_put (H.rw r hr) e1 e2 k0 k1 (by omega) hc ?_
  rw [show w + 1 + 2 * r + 1 = w + 2 + 2 * r by omega]
  exact hq _ (fun c' k' hn => (At.rf h c' k').sI (by omega)) (H.put r c hr hc k0 k1)
/-- the trial's air -/
theorem x_measureTrial {h : PH} {a : Wd} {g : Int} {x : Int32} {Q : PH → Prop} (H : WX h 77 a) (OL : OkL a) (ON : OkN a) (OX : OkX a) (OC : OkC a) (W : Wf a.fd) (hx : x = z g) (hg : -1 ≤ g ∧ g ≤ 100) (hq : ∀ f, (∀ c k, ¬ ((107 ≤ c ∧ c ≤ 111) ∨ c = 94 ∨ c = 95) → At h f c k) → WX f 77 a → AirX f 106 a (far a g) → Q f) : w_X9_measureTrial x h Q := by
  have F3 := (far_gd g OL).2.2.1
  unfold w_X9_measureTrial
  refine x_ways (g := g) H OL hx hg (by omega) (fun g1 f1 X1 => ?_)
  have W1 : WX g1 77 a := H.at' (fun c k b1 b2 b3 b4 b5 b6 => f1 c k (by omega))
  refine x_listen W1 W X1 (by omega) F3 OL.1 ON OX (fun g2 f2 H2 S2 => ?_)
  have W2 : WX g2 77 a := W1.at' (fun c k b1 b2 b3 b4 b5 b6 => f2 c k (by omega))
  refine x_settle W2 H2 S2 (by omega) OL.1 ON OC (fun g3 f3 C3 Ho3 => ?_)
  refine hq g3 (fun c k hc => ((f1 c k (by omega)).tr (f2 c k (by omega))).tr (f3 c k (by omega))) (W2.at' (fun c k b1 b2 b3 b4 b5 b6 => f3 c k (by omega))) ⟨fun p q c1 c2 c3 c4 => ?_, fun n p c1 c2 c3 c4 => ?_, fun p c1 c2 => ?_, C3, Ho3⟩
  · rw [(f3 107 _ (by omega)).1, (f2 107 _ (by omega)).1]; exact X1 p q c1 c2 c3 c4
  · rw [(f3 108 _ (by omega)).2.1]; exact H2 n p c1 c2 c3 c4
  · rw [(f3 109 _ (by omega)).2.1]; exact S2 p c1 c2
