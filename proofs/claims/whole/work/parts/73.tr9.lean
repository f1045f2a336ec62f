section TR9
variable {h : PH} {a : Wd} {k i : Int}
/-- the end of the reference's tried: the noises of b, as far as they are there -/
theorem m_triedEnd {b : Wd} {F : Int → Int → Int} {Q : Int32 → PH → Prop} (M : MT h b) (W : Wf b.fd) (N : FM h F) (NN : NM h b) (O : OkN b) (hF : ∀ p q, 0 ≤ F p q ∧ F p q ≤ 100000) (h6 : 0 ≤ b.n 0 ∧ b.n 0 ≤ 6) (hk : -2147483648 ≤ k ∧ k < 2147483648) (hi : -2147483648 ≤ i ∧ i < 2147483648)
    (hq : ∀ g, (∀ c j, ¬ lawC c j → ¬ (c = 51) → ¬ (c = 49) → At h g c j) → Q (z (silAll (zf b k i) F)) g) : ∃ n, Lp1 (w_X10_tried_142 (fun h7 => w_X10_silentAll h7 (fun z9 h8 => Q z9 h8)) Q (z k) (z i)) n 0 h := by
  refine m_zero NN O hk hi (fun g hg N1 => ?_)
  have M1 : MT g (zf b k i) := M.at' (fun c j b1 b2 => hg c j (by omega))
  have O1 : OkN (zf b k i) := okN5 O (fun j c1 c2 => by
    have := (O.2 j c1 c2).2.2.2.2
    split
    · exact Or.inr rfl
    · exact this)
  exact m_silentAll M1 W (N.at' (fun j => hg 50 j (by omega))) N1 O1 hF h6 (fun g2 f2 => hq g2 (fun c j b1 b2 b3 => (hg c j b3).tr (f2 c j b1 b2)))
theorem mt_tw {g : PH} (M : MT g a) (c : canT a k i = true) : MT g (tw a k i) := by
  rcases canT_rg c with ⟨rfl, rfl⟩ | ⟨rfl, h1, h2⟩ | ⟨rfl, h1, h2⟩ | ⟨rfl, rfl⟩ | ⟨rfl, h1, h2⟩ | ⟨rfl, h1, h2⟩
  · exact M
  · exact M
  · exact M
  · exact M
  · exact M
  · exact M
end TR9
