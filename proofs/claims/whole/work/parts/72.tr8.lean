/-- the noises that are not there: one, or one owner's -/
def zc (a : Wd) (k i j : Int) : Prop := (k = 1 ∧ j = i) ∨ (k = 2 ∧ a.f 3 1 j = i)
def zf (a : Wd) (k i : Int) : Wd := upF a 3 5 (fun j => if (k = 1 ∧ j = i) ∨ (k = 2 ∧ a.f 3 1 j = i) then 1 else a.f 3 5 j)
theorem m_zero {h : PH} {a : Wd} {k i : Int} {K : PH → Prop} {Q : Int32 → PH → Prop} (NN : NM h a) (O : OkN a) (hk : -2147483648 ≤ k ∧ k < 2147483648) (hi : -2147483648 ≤ i ∧ i < 2147483648) (hq : ∀ g, (∀ c k, ¬ (c = 49) → At h g c k) → NM g (zf a k i) → K g) : ∃ n, Lp1 (w_X10_tried_142 K Q (z k) (z i)) n 0 h := by
  have O1 := O.1
  refine for10 (a.n 3) (fun n g => (∀ c k, ¬ (c = 49) → At h g c k) ∧ ∀ j : Int, 0 ≤ j → j < a.n 3 → gI g 49 j.toNat = (if j < n ∧ ((k = 1 ∧ j = i) ∨ (k = 2 ∧ a.f 3 1 j = i)) then z 0 else gI h 49 j.toNat)) 0 rfl (by omega) (by omega) (by omega) ⟨fun c k _ => At.rf h c k, fun j c1 c2 => by rw [if_neg (by omega)]⟩ ?_ ?_
  · rintro kb n g n0 n1 ⟨hf, hJ⟩ hk2
    obtain ⟨o1, o2, o3, o4, o5⟩ := O.2 n n0 n1
    have yes : ((k = 1 ∧ n = i) ∨ (k = 2 ∧ a.f 3 1 n = i)) → w_X10_tried_178 Q kb (z k) (z i) (z n) g := by
      intro hc
      unfold w_X10_tried_178
      rw [z_iN (by omega) (by omega)]
      refine ⟨z_in (by omega) (by omega) (by omega), ?_⟩
      rintro _ rfl
      rw [z_inc]
      refine hk2 _ ⟨fun c k hc => (hf c k hc).sI (by omega), fun j c1 c2 => ?_⟩
      by_cases e : j = n
      · rw [gI_in rfl (by omega), if_pos (by rw [e]; exact ⟨by omega, hc⟩)]; rfl
      · rw [gI_out (by omega), hJ j c1 c2]
        by_cases e2 : j < n ∧ ((k = 1 ∧ j = i) ∨ (k = 2 ∧ a.f 3 1 j = i))
        · rw [if_pos e2, if_pos ⟨by omega, e2.2⟩]
        · rw [if_neg e2, if_neg (fun x => e2 ⟨by omega, x.2⟩)]
    have no : ¬ ((k = 1 ∧ n = i) ∨ (k = 2 ∧ a.f 3 1 n = i)) → kb (z n + 1) g := by
      intro hc
      rw [z_inc]
      refine hk2 _ ⟨hf, fun j c1 c2 => ?_⟩
      rw [hJ j c1 c2]
      by_cases e2 : j < n ∧ ((k = 1 ∧ j = i) ∨ (k = 2 ∧ a.f 3 1 j = i))
      · rw [if_pos e2, if_pos ⟨by omega, e2.2⟩]
      · rw [if_neg e2, if_neg]
        intro x
        by_cases e : j = n
        · rw [e] at x; exact hc x.2
        · exact e2 ⟨by omega, x.2⟩
    have f162 : ¬ (k = 1 ∧ n = i) → w_X10_tried_162 Q kb (z k) (z i) (z n) g := by
      intro h1
      unfold w_X10_tried_162
      by_cases k2 : k = 2
      · rw [if_pos (by rw [k2]; rfl), z_iN (by omega) (by omega), (hf 46 _ (by omega)).1, (NN.2 n n0 n1).2.1]
        refine ⟨z_in (by omega) (by omega) (by omega), ?_⟩
        by_cases e : a.f 3 1 n = i
        · rw [if_pos (congrArg z e)]
          exact yes (Or.inr ⟨k2, e⟩)
        · rw [if_neg (z_ne (by omega) (by omega) hi.1 hi.2 e)]
          exact no (fun x => by rcases x with x | x; exact h1 x; exact e x.2)
      · rw [if_neg (show ¬ z k = 2 from z_ne hk.1 hk.2 (by decide) (by decide) k2)]
        exact no (fun x => by rcases x with x | x; exact h1 x; exact k2 x.1)
    unfold w_X10_tried_142
    rw [(hf 0 62 (by omega)).1, NN.1, if_neg (by rw [z_le (by omega) (by omega) (by omega) (by omega)]; omega)]
    by_cases k1 : k = 1
    · rw [if_pos (by rw [k1]; rfl)]
      by_cases e : n = i
      · rw [if_pos (congrArg z e)]
        exact yes (Or.inl ⟨k1, e⟩)
      · rw [if_neg (z_ne (by omega) (by omega) hi.1 hi.2 e)]
        exact f162 (fun x => e x.2)
    · rw [if_neg (show ¬ z k = 1 from z_ne hk.1 hk.2 (by decide) (by decide) k1)]
      exact f162 (fun x => k1 x.1)
  · rintro kb g ⟨hf, hJ⟩
    unfold w_X10_tried_142
    rw [(hf 0 62 (by omega)).1, NN.1, if_pos (by rw [z_le (by omega) (by omega) (by omega) (by omega)]; omega)]
    refine hq g hf ⟨by rw [(hf 0 62 (by omega)).1]; exact NN.1, fun n c1 c2 => ?_⟩
    have c2' : n < a.n 3 := c2
    obtain ⟨e1, e2, e3, e4, l, e5, b1, b2, b3⟩ := NN.2 n c1 c2'
    rw [(hf 45 _ (by omega)).1, (hf 46 _ (by omega)).1, (hf 47 _ (by omega)).1, (hf 48 _ (by omega)).1, hJ n c1 c2']
    have s5 : (zf a k i).f 3 5 n = if (k = 1 ∧ n = i) ∨ (k = 2 ∧ a.f 3 1 n = i) then 1 else a.f 3 5 n := rfl
    have s4 : (zf a k i).f 3 4 n = a.f 3 4 n := rfl
    rw [s5, s4]
    by_cases hc : (k = 1 ∧ n = i) ∨ (k = 2 ∧ a.f 3 1 n = i)
    · rw [if_pos ⟨c2', hc⟩, if_pos hc]
      exact ⟨e1, e2, e3, e4, 0, rfl, by omega, by omega, fun x => by omega⟩
    · rw [if_neg (fun x => hc x.2), if_neg hc]
      exact ⟨e1, e2, e3, e4, l, e5, b1, b2, b3⟩
