section TR5
variable {h : PH} {w : Nat} {a : Wd} {k i : Int}
theorem x_canTry {Q : Int32 → PH → Prop} (N : NX h w a) (hk : -2147483648 ≤ k ∧ k < 2147483648) (hi : -2147483648 ≤ i ∧ i < 2147483648) (hT : canT a k i = true → Q 1 h) (hF : canT a k i = false → Q 0 h) : w_X9_canTry (z k) (z i) h Q := by
  obtain ⟨p1, p2, p3⟩ := N.p
  have n3 := N.2.2.1
  have n1 := N.1
  unfold w_X9_canTry
  rw [p3]
  have q40 : (canT a k i = decide (i = 0)) → w_X9_canTry_40 Q (z i) h := by
    intro e
    unfold w_X9_canTry_40
    by_cases c : i = 0
    · rw [if_pos (by rw [c]; rfl)]
      exact hT (by rw [e]; exact decide_eq_true c)
    · rw [if_neg (show ¬ z i = 0 from z_ne hi.1 hi.2 (by decide) (by decide) c)]
      exact hF (by rw [e]; exact decide_eq_false c)
  have qh : ∀ (r t : Nat), r < 7 → t = w + 1 + 2 * r → (canT a k i = (decide (0 ≤ i) && decide (i < a.n r))) → w_X6_has t (z i) h (fun z5 h4 => (z5 = 0 ∨ z5 = 1) ∧ Q z5 h4) := by
    rintro r t hr rfl e
    refine x_has (n3.rw r hr) rfl hi.1 hi.2 (fun c1 c2 => ⟨Or.inr rfl, hT (by rw [e]; simp [c1, c2])⟩) (fun c1 => ⟨Or.inl rfl, hF (by rw [e]; by_cases c2 : 0 ≤ i <;> by_cases c3 : i < a.n r <;> simp [c2, c3] <;> omega)⟩)
  by_cases k0 : k = 0
  · rw [if_pos (by rw [k0]; rfl)]
    exact q40 (by rw [k0]; unfold canT; simp)
  rw [if_neg (show ¬ z k = 0 from z_ne hk.1 hk.2 (by decide) (by decide) k0)]
  by_cases k1 : k = 1
  · rw [if_pos (by rw [k1]; rfl)]
    exact ⟨p1, oX_w n1, qh 3 _ (by decide) rfl (by rw [k1]; unfold canT; simp)⟩
  rw [if_neg (show ¬ z k = 1 from z_ne hk.1 hk.2 (by decide) (by decide) k1)]
  by_cases k2 : k = 2
  · rw [if_pos (by rw [k2]; rfl)]
    exact ⟨p1, oX_w n1, qh 2 _ (by decide) rfl (by rw [k2]; unfold canT; simp)⟩
  rw [if_neg (show ¬ z k = 2 from z_ne hk.1 hk.2 (by decide) (by decide) k2)]
  by_cases k3 : k = 3
  · rw [if_pos (by rw [k3]; rfl)]
    exact q40 (by rw [k3]; unfold canT; simp)
  rw [if_neg (show ¬ z k = 3 from z_ne hk.1 hk.2 (by decide) (by decide) k3)]
  by_cases k4 : k = 4
  · rw [if_pos (by rw [k4]; rfl)]
    exact ⟨p1, oX_w n1, qh 1 _ (by decide) rfl (by rw [k4]; unfold canT; simp)⟩
  rw [if_neg (show ¬ z k = 4 from z_ne hk.1 hk.2 (by decide) (by decide) k4)]
  by_cases k5 : k = 5
  · rw [if_pos (by rw [k5]; rfl)]
    exact ⟨p1, oX_w n1, qh 0 _ (by decide) rfl (by rw [k5]; unfold canT; simp)⟩
  rw [if_neg (show ¬ z k = 5 from z_ne hk.1 hk.2 (by decide) (by decide) k5)]
  exact hF (by unfold canT; simp [k0, k1, k2, k3, k4, k5])
def trR (c : Nat) : Prop := (77 ≤ c ∧ c ≤ 99) ∨ (107 ≤ c ∧ c ≤ 111)
theorem NX.tr {h g : PH} {w : Nat} {a : Wd} (N : NX h w a) (e : ∀ c k, ¬ trR c → At h g c k) : NX g w a := by
  have n1 := N.1
  exact N.at' (fun k => e 0 k (by unfold trR; omega)) (fun c k b1 b2 _ => e c k (by unfold trR; omega)) (fun c k b1 b2 => e c k (by unfold trR; omega))
theorem canT_rg (h : canT a k i = true) : (k = 0 ∧ i = 0) ∨ (k = 1 ∧ 0 ≤ i ∧ i < a.n 3) ∨ (k = 2 ∧ 0 ≤ i ∧ i < a.n 2) ∨ (k = 3 ∧ i = 0) ∨ (k = 4 ∧ 0 ≤ i ∧ i < a.n 1) ∨ (k = 5 ∧ 0 ≤ i ∧ i < a.n 0) := by
  unfold canT at h
  simp only [Bool.or_eq_true, Bool.and_eq_true, decide_eq_true_eq] at h
  omega
/-- a trial's world keeps its bounds -/
theorem tw_ok (N : Now a) (h : canT a k i = true) : OkL (tw a k i) ∧ OkN (tw a k i) ∧ OkX (tw a k i) ∧ OkC (tw a k i) ∧ (tw a k i).fd = a.fd := by
  have OL := N.1
  have ON := N.2.1
  have OC := N.2.2.1
  have OX := N.okx
  rcases canT_rg h with ⟨rfl, rfl⟩ | ⟨rfl, h1, h2⟩ | ⟨rfl, h1, h2⟩ | ⟨rfl, rfl⟩ | ⟨rfl, h1, h2⟩ | ⟨rfl, h1, h2⟩
  · refine ⟨?_, ON, OX, OC, rfl⟩
    obtain ⟨o1, o2, o3, o4, o5⟩ := OL
    exact ⟨o1, o2, o3, fun l l0 l1 => ⟨(o4 l l0 l1).1, (o4 l l0 l1).2.1, (o4 l l0 l1).2.2.1, (o4 l l0 l1).2.2.2.1, Or.inl rfl⟩, o5⟩
  · refine ⟨OL, okN5 ON (fun j c1 c2 => ?_), fun n c1 c2 => Or.inl (N.2.2.2.2.2.2.2.1 n c1 c2).2, OC, rfl⟩
    have := (ON.2 j c1 c2).2.2.2.2
    split
    · exact Or.inr rfl
    · exact this
  · refine ⟨OL, okN5 ON (fun j c1 c2 => ?_), fun n c1 c2 => Or.inl (N.2.2.2.2.2.2.2.1 n c1 c2).2, OC, rfl⟩
    have := (ON.2 j c1 c2).2.2.2.2
    split
    · exact Or.inr rfl
    · exact this
  · have := okN_soft ON (fun n c1 c2 => (N.2.2.2.2.2.2.2.1 n c1 c2).2)
    exact ⟨OL, this.1, this.2, OC, rfl⟩
  · exact ⟨OL, ON, OX, OC, rfl⟩
  · have n12 := N.2.2.2.2.2.2.1
    have ON1 := ON.1
    have e : tw a 5 i = adR a 3 (nz5 i) := rfl
    rw [e]
    refine ⟨OL, ⟨by rw [adR_n]; omega, fun n c1 c2 => ?_⟩, fun n c1 c2 => ?_, OC, rfl⟩
    · rw [adR_n] at c2
      by_cases en : n = a.n 3
      · subst en
        rw [adR_in, adR_in, adR_in, adR_in, adR_in, adR_in]
        have e1 : nz5 i 1 = -1 := rfl
        have e2 : nz5 i 2 = 0 := rfl
        have e3 : nz5 i 3 = 47 := rfl
        have e4 : nz5 i 4 = 8 := rfl
        rw [e1, e2, e3, e4]
        exact ⟨⟨h1, h2⟩, ⟨by decide, by decide⟩, ⟨by decide, by decide, by decide⟩, ⟨by decide, by decide⟩, Or.inl rfl⟩
      · rw [adR_out (by omega), adR_out (by omega), adR_out (by omega), adR_out (by omega), adR_out (by omega), adR_out (by omega)]
        exact ON.2 n c1 (by omega)
    · rw [adR_n] at c2
      by_cases en : n = a.n 3
      · subst en
        rw [adR_in, adR_in, show nz5 i 4 = 8 from rfl]
        exact Or.inl (by decide)
      · rw [adR_out (by omega), adR_out (by omega)]
        exact OX n c1 (by omega)
theorem xq_tried {Q : Int32 → PH → Prop} (N : NX h w a) (S : WS h 77) (hk : -2147483648 ≤ k ∧ k < 2147483648) (hi : -2147483648 ≤ i ∧ i < 2147483648) (hq : ∀ g, (∀ c k, ¬ trR c → At h g c k) → NX g w a → WS g 77 → Q (z (a_tried a k i)) g) : w_X9_tried (z k) (z i) h Q := by
  obtain ⟨p1, p2, p3⟩ := N.p
  have n1 := N.1
  have n3 := N.2.2.1
  have n4 := N.2.2.2.1
  have ON1 := n4.2.1.1
  have n12 := n4.2.2.2.2.2.2.1
  have ln := n4.2.2.2.2.2.2.2.2.2.2.2.2.2.2.2.2.2.2
  have l9 := n4.1.2.1
  unfold w_X9_tried
  refine x_canTry N hk hi (fun c => ?_) (fun c => ?_)
  · rw [if_neg (by decide), p3]
    refine ⟨p1, oX_w n1, ?_⟩
    obtain ⟨OL, ON, OX, OC, efd⟩ := tw_ok n4 c
    refine x_copyW n3 S (Or.inr (Or.inr (Or.inr rfl))) (by unfold isW; omega) (by omega) (by omega) (by omega) (fun g1 f1 W1 _ => ?_)
    have fin : ∀ g2, (∀ c k, ¬ (77 ≤ c ∧ c ≤ 99) → At g1 g2 c k) → WX g2 77 (tw a k i) → w_X9_tried_156 Q (z k) (z i) g2 := by
      intro g2 f2 W2
      unfold w_X9_tried_156
      have go : ∀ x : Int32, x = z (if k = 4 then i else -1) → w_X9_tried_167 Q x g2 := by
        intro x hx
        refine x_tried167 W2 OL ON OX OC (by rw [efd]; exact n4.2.2.2.2.1) hx ?_ (fun f f3 W3 => ?_)
        · have := canT_rg c
          split <;> omega
        · have fr : ∀ c k, ¬ trR c → At h f c k := fun c k hc => ((f1 c k (by unfold trR at hc; omega)).tr (f2 c k (by unfold trR at hc; omega))).tr (f3 c k (by unfold trR at hc; omega))
          have := hq f fr (N.tr fr) W3.ws
          unfold a_tried at this
          rw [if_pos c] at this
          exact this
      by_cases k4 : k = 4
      · rw [if_pos (by rw [k4]; rfl)]
        exact go _ (by rw [if_pos k4])
      · rw [if_neg (show ¬ z k = 4 from z_ne hk.1 hk.2 (by decide) (by decide) k4)]
        exact go _ (by rw [if_neg k4]; rfl)
    rcases canT_rg c with ⟨rfl, rfl⟩ | ⟨rfl, h1, h2⟩ | ⟨rfl, h1, h2⟩ | ⟨rfl, rfl⟩ | ⟨rfl, h1, h2⟩ | ⟨rfl, h1, h2⟩
    · rw [if_pos (show z 0 = 0 from rfl)]
      exact x_noWalls W1 n4.1 (fun g2 f2 W2 => fin g2 (fun c k hc => f2 c k (by omega)) W2)
    · rw [if_neg (show ¬ z 1 = 0 by decide), if_pos (show z 1 = 1 from rfl)]
      exact x_putW (u := 1) W1 3 5 (by decide) rfl (by decide) rfl rfl rfl h1 h2 (fun g2 f2 W2 => fin g2 (fun c k hc => f2 c k (by omega)) W2)
    · rw [if_neg (show ¬ z 2 = 0 by decide), if_neg (show ¬ z 2 = 1 by decide), if_pos (show z 2 = 2 from rfl)]
      exact x_silence W1 n4.2.1 (by have := n4.2.2.2.2.2.2.2.2.2.2.1; omega) (fun g2 f2 W2 => fin g2 (fun c k hc => f2 c k (by omega)) W2)
    · rw [if_neg (show ¬ z 3 = 0 by decide), if_neg (show ¬ z 3 = 1 by decide), if_neg (show ¬ z 3 = 2 by decide), if_pos (show z 3 = 3 from rfl)]
      exact x_muffle W1 n4.2.1 (fun g2 f2 W2 => fin g2 (fun c k hc => f2 c k (by omega)) W2)
    · rw [if_neg (show ¬ z 4 = 0 by decide), if_neg (show ¬ z 4 = 1 by decide), if_neg (show ¬ z 4 = 2 by decide), if_neg (show ¬ z 4 = 3 by decide), if_neg (show ¬ z 4 = 5 by decide)]
      exact fin g1 (fun c k _ => At.rf g1 c k) W1
    · rw [if_neg (show ¬ z 5 = 0 by decide), if_neg (show ¬ z 5 = 1 by decide), if_neg (show ¬ z 5 = 2 by decide), if_neg (show ¬ z 5 = 3 by decide), if_pos (show z 5 = 5 from rfl)]
      refine x_addW (f := nz5 i) W1 3 (by decide) rfl (by show a.n 3 < (13 : Int); omega) (fun c hc => ?_) (fun g2 f2 W2 => fin g2 (fun c k hc => f2 c k (by omega)) W2)
      have hc6 : c < 6 := by have : (c : Int) < (6 : Int) := hc; omega
      have : c = 0 ∨ c = 1 ∨ c = 2 ∨ c = 3 ∨ c = 4 ∨ c = 5 := by omega
      rcases this with rfl | rfl | rfl | rfl | rfl | rfl <;> rfl
  · rw [if_pos rfl]
    have := hq h (fun c k _ => At.rf h c k) N S
    unfold a_tried at this
    rw [if_neg (by rw [c]; decide)] at this
    exact this
end TR5
