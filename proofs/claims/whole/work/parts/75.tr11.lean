section TR11
variable {h : PH} {a : Wd} {k i : Int}
theorem m_lt {n : Int} {x : Int32} {Q : Int32 → PH → Prop} (hx : x = z n) (hn : 0 ≤ n ∧ n ≤ 1000) (hi : -2147483648 ≤ i ∧ i < 2147483648) (hT : 0 ≤ i → i < n → Q 1 h) (hF : ¬ (0 ≤ i ∧ i < n) → Q 0 h) : if z i < 0 then Q 0 h else if x ≤ z i then Q 0 h else Q 1 h := by
  subst hx
  by_cases c : i < 0
  · rw [if_pos (by rw [zn_0, z_lt (by omega) (by omega) (by omega) (by omega)]; exact c)]
    exact hF (by omega)
  · rw [if_neg (by rw [zn_0, z_lt (by omega) (by omega) (by omega) (by omega)]; exact c)]
    by_cases c2 : n ≤ i
    · rw [if_pos (by rw [z_le (by omega) (by omega) (by omega) (by omega)]; omega)]
      exact hF (by omega)
    · rw [if_neg (by rw [z_le (by omega) (by omega) (by omega) (by omega)]; omega)]
      exact hT (by omega) (by omega)
theorem mq_tried {Q : Int32 → PH → Prop} (M : MW h a) (hk : -2147483648 ≤ k ∧ k < 2147483648) (hi : -2147483648 ≤ i ∧ i < 2147483648) (hq : ∀ g, (∀ c j, ¬ scrM c j → At h g c j) → Q (z (a_tried a k i)) g) : w_X10_tried (z k) (z i) h Q := by
  unfold w_X10_tried
  rintro _ rfl
  have M1 := M.at' (fr0 h 0)
  have n4 := M.2.2
  have ON1 := n4.2.1.1
  have l9 := n4.1.2.1
  have l6 := n4.1.1
  have l4 := n4.2.2.2.2.2.2.2.2.2.2.1
  have yes : canT a k i = true → w_X10_tried_75 Q (z k) (z i) 1 (sI h 0 0 0) := fun c => m_tried75 M1 hk hi c (fun g hg => by
    have := hq g (fun c j hc => (fr0 h 0 c j hc).tr (hg c j hc))
    unfold a_tried at this
    rw [if_pos c] at this
    exact this)
  have no : canT a k i = false → w_X10_tried_75 Q (z k) (z i) 0 (sI h 0 0 0) := fun c => by
    unfold w_X10_tried_75
    rw [if_pos rfl]
    have := hq _ (fr0 h 0)
    unfold a_tried at this
    rw [if_neg (by rw [c]; decide)] at this
    exact this
  have qh : ∀ n : Int, (canT a k i = (decide (0 ≤ i) && decide (i < n))) → (0 ≤ i → i < n → w_X10_tried_75 Q (z k) (z i) 1 (sI h 0 0 0)) ∧ (¬ (0 ≤ i ∧ i < n) → w_X10_tried_75 Q (z k) (z i) 0 (sI h 0 0 0)) := fun n e => ⟨fun c1 c2 => yes (by rw [e]; simp [c1, c2]), fun c1 => no (by rw [e]; by_cases c2 : 0 ≤ i <;> by_cases c3 : i < n <;> simp [c2, c3] <;> omega)⟩
  have q66 : canT a k i = decide (i = 0) → w_X10_tried_66 Q (z k) (z i) (sI h 0 0 0) := by
    intro e
    unfold w_X10_tried_66
    by_cases c : i = 0
    · rw [if_pos (by rw [c]; rfl)]
      exact yes (by rw [e]; exact decide_eq_true c)
    · rw [if_neg (show ¬ z i = 0 from z_ne hi.1 hi.2 (by decide) (by decide) c)]
      exact no (by rw [e]; exact decide_eq_false c)
  by_cases k1 : k = 1
  · rw [if_pos (by rw [k1]; rfl)]
    have q := qh (a.n 3) (by rw [k1]; unfold canT; simp)
    exact m_lt (n := a.n 3) (Q := fun z22 h21 => w_X10_tried_75 Q (z k) (z i) z22 h21) M1.2.1.1 (by omega) hi q.1 q.2
  rw [if_neg (show ¬ z k = 1 from z_ne hk.1 hk.2 (by decide) (by decide) k1)]
  by_cases k2 : k = 2
  · rw [if_pos (by rw [k2]; rfl)]
    have q := qh (a.n 2) (by rw [k2]; unfold canT; simp)
    exact m_lt (n := a.n 2) (Q := fun z22 h21 => w_X10_tried_75 Q (z k) (z i) z22 h21) M1.1.1.2.2.1 (by omega) hi q.1 q.2
  rw [if_neg (show ¬ z k = 2 from z_ne hk.1 hk.2 (by decide) (by decide) k2)]
  by_cases k4 : k = 4
  · rw [if_pos (by rw [k4]; rfl)]
    have q := qh (a.n 1) (by rw [k4]; unfold canT; simp)
    exact m_lt (n := a.n 1) (Q := fun z22 h21 => w_X10_tried_75 Q (z k) (z i) z22 h21) M1.1.1.2.1 (by omega) hi q.1 q.2
  rw [if_neg (show ¬ z k = 4 from z_ne hk.1 hk.2 (by decide) (by decide) k4)]
  by_cases k5 : k = 5
  · rw [if_pos (by rw [k5]; rfl)]
    have q := qh (a.n 0) (by rw [k5]; unfold canT; simp)
    exact m_lt (n := a.n 0) (Q := fun z22 h21 => w_X10_tried_75 Q (z k) (z i) z22 h21) M1.1.1.1 (by omega) hi q.1 q.2
  rw [if_neg (show ¬ z k = 5 from z_ne hk.1 hk.2 (by decide) (by decide) k5)]
  by_cases k0 : k = 0
  · rw [if_pos (by rw [k0]; rfl)]
    exact q66 (by rw [k0]; unfold canT; simp)
  rw [if_neg (show ¬ z k = 0 from z_ne hk.1 hk.2 (by decide) (by decide) k0)]
  by_cases k3 : k = 3
  · rw [if_pos (by rw [k3]; rfl)]
    exact q66 (by rw [k3]; unfold canT; simp)
  rw [if_neg (show ¬ z k = 3 from z_ne hk.1 hk.2 (by decide) (by decide) k3)]
  exact no (by unfold canT; simp [k0, k1, k2, k3, k4, k5])
end TR11
