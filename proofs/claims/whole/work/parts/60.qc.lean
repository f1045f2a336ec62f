/-! ===== laws asked for, names ===== -/
def off (v : Int) : Prop := v < 0 ∨ 9999 < v
def a_law (a : Wd) (k x v c : Int) : Int64 := if (0 ≤ x ∧ x ≤ 9999) ∧ (0 ≤ v ∧ v ≤ 9999) ∧ (0 ≤ c ∧ c ≤ 9999) then (if k = 0 then ey (lv (nm6 x v c 0 0 0) a.fd) else if k = 1 then ey (lv (nm6 0 0 0 x v c) a.wo) else ey none) else ey none
/-- cells that laws of the world at w work with -/
def lawR (w c : Nat) : Prop := c = w + 17 ∨ c = w + 18 ∨ c = w + 21 ∨ c = w + 22
theorem NX.at' {h g : PH} {w : Nat} {a : Wd} (N : NX h w a) (e0 : ∀ k, At h g 0 k) (e1 : ∀ c k, w ≤ c → c < w + 23 → ¬ lawR w c → At h g c k) (e2 : ∀ c k, 100 < c → c < 106 → At h g c k) : NX g w a := by
  obtain ⟨n1, n2, n3, n4, n5, n6⟩ := N
  refine ⟨n1, by rw [(e0 3).2.2]; exact n2, n3.at' (fun c k b1 b2 b3 b4 b5 b6 => e1 c k b1 b2 (by unfold lawR; omega)), n4, by rw [(e0 9).1]; exact n5, fun e => ?_⟩
  rw [(e0 9).1] at e
  exact (n6 e).at' (fun c k b1 b2 => e2 c k b1 b2)
section QC
variable {h : PH} {w : Nat} {a : Wd} {p q m : Int}
theorem x_lawN {v : Int} {Q : Int32 → PH → Prop} (hv : -2147483648 ≤ v ∧ v < 2147483648) (hT : 0 ≤ v → v ≤ 9999 → Q 1 h) (hF : ¬ (0 ≤ v ∧ v ≤ 9999) → Q 0 h) : w_X9_isLawNumber (z v) h Q := by
  unfold w_X9_isLawNumber
  by_cases c : v < 0
  · rw [if_pos (by rw [zn_0, z_lt (by omega) (by omega) (by omega) (by omega)]; exact c)]
    exact hF (by omega)
  · rw [if_neg (by rw [zn_0, z_lt (by omega) (by omega) (by omega) (by omega)]; exact c)]
    by_cases c2 : 9999 < v
    · rw [if_pos (by rw [zn_9999, z_lt (by omega) (by omega) (by omega) (by omega)]; exact c2)]
      exact hF (by omega)
    · rw [if_neg (by rw [zn_9999, z_lt (by omega) (by omega) (by omega) (by omega)]; exact c2)]
      exact hT (by omega) (by omega)
theorem xq_law {k x v c : Int} {Q : Int64 → PH → Prop} (N : NX h w a) (hk : -2147483648 ≤ k ∧ k < 2147483648) (hx : -2147483648 ≤ x ∧ x < 2147483648) (hv : -2147483648 ≤ v ∧ v < 2147483648) (hc : -2147483648 ≤ c ∧ c < 2147483648)
    (hq : ∀ g, (∀ c k, ¬ lawR w c → At h g c k) → NX g w a → Q (a_law a k x v c) g) : w_X9_law (z k) (z x) (z v) (z c) h Q := by
  obtain ⟨p1, p2, p3⟩ := N.p
  have n1 := N.1
  have n3 := N.2.2.1
  have n4 := N.2.2.2.1
  have rf := hq h (fun c k _ => At.rf h c k) N
  have bad : ¬ ((0 ≤ x ∧ x ≤ 9999) ∧ (0 ≤ v ∧ v ≤ 9999) ∧ (0 ≤ c ∧ c ≤ 9999)) → Q (-9223372036854775808) h := fun e => by unfold a_law at rf; rw [if_neg e] at rf; exact rf
  have keep : ∀ g, (∀ c k, ¬ lawR w c → At h g c k) → NX g w a := fun g hg => N.at' (fun k => hg 0 k (by unfold lawR; omega)) (fun c k b1 b2 b3 => hg c k b3) (fun c k b1 b2 => hg c k (by unfold lawR; omega))
  unfold w_X9_law
  refine x_lawN hx (fun c1 c2 => ?_) (fun c1 => ?_)
  · rw [if_neg (by decide)]
    refine x_lawN hv (fun c3 c4 => ?_) (fun c3 => ?_)
    · rw [if_neg (by decide)]
      refine x_lawN hc (fun c5 c6 => ?_) (fun c5 => ?_)
      · rw [if_neg (by decide)]
        have ok : (0 ≤ x ∧ x ≤ 9999) ∧ (0 ≤ v ∧ v ≤ 9999) ∧ (0 ≤ c ∧ c ≤ 9999) := ⟨⟨c1, c2⟩, ⟨c3, c4⟩, c5, c6⟩
        unfold a_law at hq rf
        simp only [if_pos ok] at hq rf
        by_cases k0 : k = 0
        · subst k0
          rw [if_pos (show z 0 = 0 from rfl), p3]
          refine ⟨p1, oX_w n1, ?_⟩
          refine x_value (x4 := 0) (x5 := 0) (x6 := 0) n3.2.1 n4.2.2.2.2.1 (by omega) (by omega) (by omega) (by omega) (by omega) (by omega) (fun g hg => ?_)
          have hg' : ∀ c k, ¬ lawR w c → At h g c k := fun c k hc => hg c k (by unfold lawR at hc; omega)
          have := hq g hg' (keep g hg')
          rw [if_pos rfl] at this
          exact this
        · rw [if_neg (show ¬ z k = 0 from z_ne hk.1 hk.2 (by decide) (by decide) k0)]
          by_cases k1 : k = 1
          · subst k1
            rw [if_pos (show z 1 = 1 from rfl), p3]
            refine ⟨p1, oX_w n1, ?_⟩
            refine x_value (x1 := 0) (x2 := 0) (x3 := 0) n3.2.2.1 n4.2.2.2.2.2.1 (by omega) (by omega) (by omega) (by omega) (by omega) (by omega) (fun g hg => ?_)
            have hg' : ∀ c k, ¬ lawR w c → At h g c k := fun c k hc => hg c k (by unfold lawR at hc; omega)
            have := hq g hg' (keep g hg')
            rw [if_neg (by decide), if_pos rfl] at this
            exact this
          · rw [if_neg (show ¬ z k = 1 from z_ne hk.1 hk.2 (by decide) (by decide) k1)]
            rw [if_neg k0, if_neg k1] at rf
            exact rf
      · rw [if_pos rfl]; exact bad (by omega)
    · rw [if_pos rfl]; exact bad (by omega)
  · rw [if_pos rfl]; exact bad (by omega)
theorem m_worth {x1 x2 x3 x4 : Int} {Q : PH → Prop} (b1 : -100000 ≤ x1 ∧ x1 ≤ 100000) (b2 : -100000 ≤ x2 ∧ x2 ≤ 100000) (b3 : -100000 ≤ x3 ∧ x3 ≤ 100000) (b4 : -100000 ≤ x4 ∧ x4 ≤ 100000) (hq : ∀ g, (∀ c k, ¬ (c = 32) → At h g c k) → (∀ q : Int, 0 ≤ q → q < 6 → gJ g 32 q.toNat = zl (nm6 0 0 x4 x1 x2 x3 q)) → Q g) : w_X10_callsWorth (z x1) (z x2) (z x3) (z x4) h Q := by
  unfold w_X10_callsWorth
  refine for10 6 (fun i g => (∀ c k, ¬ (c = 32) → At h g c k) ∧ ∀ q : Int, 0 ≤ q → q < i → gJ g 32 q.toNat = zl 0) 0 rfl (by omega) (by omega) (by omega) ⟨fun c k _ => At.rf h c k, fun q c1 c2 => by omega⟩ ?_ ?_
  · rintro kb i g h0 h1 ⟨hf, hJ⟩ hk
    unfold w_X10_callsWorth_3
    rw [zn_6, if_neg (by rw [z_le (by omega) (by omega) (by omega) (by omega)]; omega), z_iN (by omega) (by omega), z_inc]
    refine ⟨z_in (by omega) (by omega) (by omega), ?_⟩
    rintro _ rfl
    refine hk _ ⟨fun c k hc => (hf c k hc).sJ (by omega), fun q c1 c2 => ?_⟩
    by_cases e : q = i
    · rw [gJ_in rfl (by omega)]; rfl
    · rw [gJ_out (by omega)]; exact hJ q c1 (by omega)
  · rintro kb g ⟨hf, hJ⟩
    unfold w_X10_callsWorth_3
    rw [zn_6, if_pos (by rw [z_le (by omega) (by omega) (by omega) (by omega)]; omega)]
    rintro _ rfl _ rfl _ rfl _ rfl
    rw [iN_2, iN_3, iN_4, iN_5, zl_of (by omega) (by omega), zl_of (by omega) (by omega), zl_of (by omega) (by omega), zl_of (by omega) (by omega)]
    refine hq _ (fun c k hc => ((((hf c k hc).sJ (by omega)).sJ (by omega)).sJ (by omega)).sJ (by omega)) (fun q c1 c2 => ?_)
    unfold nm6
    by_cases e2 : q = 2
    · subst e2; rw [gJ_in rfl (by omega)]; rfl
    rw [gJ_out (by omega)]
    by_cases e5 : q = 5
    · subst e5; rw [gJ_in rfl (by omega)]; rfl
    rw [gJ_out (by omega)]
    by_cases e4 : q = 4
    · subst e4; rw [gJ_in rfl (by omega)]; rfl
    rw [gJ_out (by omega)]
    by_cases e3 : q = 3
    · subst e3; rw [gJ_in rfl (by omega)]; rfl
    rw [gJ_out (by omega), hJ q c1 c2]
    by_cases e0 : q = 0
    · rw [if_pos e0]
    · rw [if_neg e0, if_pos (by omega)]
theorem m_isOff {v : Int} {Q : Int32 → PH → Prop} (hv : -2147483648 ≤ v ∧ v < 2147483648) (hT : 0 ≤ v → v ≤ 9999 → Q 0 h) (hF : ¬ (0 ≤ v ∧ v ≤ 9999) → Q 1 h) : w_X10_isOff (z v) h Q := by
  unfold w_X10_isOff
  by_cases c : v < 0
  · rw [if_pos (by rw [zn_0, z_lt (by omega) (by omega) (by omega) (by omega)]; exact c)]
    exact hF (by omega)
  · rw [if_neg (by rw [zn_0, z_lt (by omega) (by omega) (by omega) (by omega)]; exact c)]
    by_cases c2 : v ≤ 9999
    · rw [if_pos (by rw [zn_9999, z_le (by omega) (by omega) (by omega) (by omega)]; exact c2)]
      exact hT (by omega) (by omega)
    · rw [if_neg (by rw [zn_9999, z_le (by omega) (by omega) (by omega) (by omega)]; exact c2)]
      exact hF (by omega)
theorem m_law72 {i fr : Int} {ks : List Int} {nm : Int → Int} {Q : Int64 → PH → Prop} (hi : 0 ≤ i ∧ i < 4) (K : KM h i.toNat fr ks) (W : Wf ks) (hne : ks ≠ []) (hn : ∀ q : Int, 0 ≤ q → q < 6 → gJ h 32 q.toNat = zl (nm q)) (hnb : ∀ q, bd (nm q)) (hq : ∀ g, (∀ c k, ¬ lawC c k → At h g c k) → Q (ey (lv nm ks)) g) : w_X10_law_72 Q (z i) h := by
  unfold w_X10_law_72
  refine m_goes hi K W hne hn hnb (fun g v hg ev bv e0 => ?_) (fun g hg ev => ?_)
  · rw [if_neg (by decide), iN_0, e0]
    have := hq g (fun c k hc => hg c k (fun e => hc (Or.inr (Or.inl e))) (fun e => hc (Or.inr (Or.inr e))))
    rw [ev] at this
    exact this
  · rw [if_pos rfl]
    have := hq g (fun c k hc => hg c k (fun e => hc (Or.inr (Or.inl e))) (fun e => hc (Or.inr (Or.inr e))))
    rw [ev] at this
    exact this
theorem mq_law {k x v c : Int} {Q : Int64 → PH → Prop} (M : MW h a) (hk : -2147483648 ≤ k ∧ k < 2147483648) (hx : -2147483648 ≤ x ∧ x < 2147483648) (hv : -2147483648 ≤ v ∧ v < 2147483648) (hc : -2147483648 ≤ c ∧ c < 2147483648)
    (hq : ∀ g, (∀ c k, ¬ scrM c k → At h g c k) → Q (a_law a k x v c) g) : w_X10_law (z k) (z x) (z v) (z c) h Q := by
  unfold w_X10_law
  rintro _ rfl
  have M1 := M.at' (fr0 h 0)
  have rf := hq _ (fr0 h 0)
  have F0 := fr0 h 0
  have n4 := M.2.2
  generalize sI h 0 0 0 = h1 at *
  have none' : a_law a k x v c = ey none → Q (-9223372036854775808) h1 := fun e => by rw [e] at rf; exact rf
  have bad : ¬ ((0 ≤ x ∧ x ≤ 9999) ∧ (0 ≤ v ∧ v ≤ 9999) ∧ (0 ≤ c ∧ c ≤ 9999)) → a_law a k x v c = ey none := fun e => by unfold a_law; rw [if_neg e]
  have bad2 : k ≠ 0 → k ≠ 1 → a_law a k x v c = ey none := fun e1 e2 => by unfold a_law; rw [if_neg e1, if_neg e2]; split <;> rfl
  by_cases k0 : k < 0
  · rw [if_pos (by rw [zn_0, z_lt (by omega) (by omega) (by omega) (by omega)]; exact k0)]
    exact none' (bad2 (by omega) (by omega))
  rw [if_neg (by rw [zn_0, z_lt (by omega) (by omega) (by omega) (by omega)]; exact k0)]
  by_cases k1 : 1 < k
  · rw [if_pos (by rw [zn_1, z_lt (by omega) (by omega) (by omega) (by omega)]; exact k1)]
    exact none' (bad2 (by omega) (by omega))
  rw [if_neg (by rw [zn_1, z_lt (by omega) (by omega) (by omega) (by omega)]; exact k1)]
  have main : ∀ (ks : List Int) (fr : Int), KM h1 k.toNat fr ks → Wf ks → (∀ (nm : Int → Int), ((k = 0 ∧ nm = nm6 x v c 0 0 0) ∨ (k = 1 ∧ nm = nm6 0 0 0 x v c)) → (0 ≤ x ∧ x ≤ 9999) → (0 ≤ v ∧ v ≤ 9999) → (0 ≤ c ∧ c ≤ 9999) → a_law a k x v c = ey (lv nm ks)) → w_X10_hasLaw (z k) h1 (fun z3 h2 => if z3 = 0 then (Q (-9223372036854775808) h2) else (w_X10_isOff (z x) h2 (fun z5 h4 => if z5 = 0 then (w_X10_isOff (z v) h4 (fun z7 h6 => if z7 = 0 then (w_X10_isOff (z c) h6 (fun z9 h8 => if z9 = 0 then (if z k = 0 then (w_X10_callsFade (z x) (z v) (z c) h8 (fun h13 => w_X10_law_72 Q (z k) h13)) else (w_X10_callsWorth (z x) (z v) (z c) 0 h8 (fun h10 => w_X10_law_72 Q (z k) h10))) else (Q (-9223372036854775808) h8))) else (Q (-9223372036854775808) h6))) else (Q (-9223372036854775808) h4)))) := by
    intro ks fr K W hval
    refine m_haslaw (i := k) rfl (by omega) K (fun e => ?_) (fun e => ?_)
    · rw [if_pos rfl]
      refine none' ?_
      by_cases ok : (0 ≤ x ∧ x ≤ 9999) ∧ (0 ≤ v ∧ v ≤ 9999) ∧ (0 ≤ c ∧ c ≤ 9999)
      · by_cases e0 : k = 0
        · rw [hval _ (Or.inl ⟨e0, rfl⟩) ok.1 ok.2.1 ok.2.2, e]; rfl
        · rw [hval _ (Or.inr ⟨by omega, rfl⟩) ok.1 ok.2.1 ok.2.2, e]; rfl
      · exact bad ok
    · rw [if_neg (by decide)]
      refine m_isOff hx (fun c1 c2 => ?_) (fun c1 => ?_)
      · rw [if_pos rfl]
        refine m_isOff hv (fun c3 c4 => ?_) (fun c3 => ?_)
        · rw [if_pos rfl]
          refine m_isOff hc (fun c5 c6 => ?_) (fun c5 => ?_)
          · rw [if_pos rfl]
            by_cases e0 : k = 0
            · rw [if_pos (show z k = 0 by rw [e0]; rfl)]
              refine m_fade (by omega) (by omega) (by omega) (fun g hg hn => ?_)
              refine m_law72 (by omega) (K.at' (fun c k b1 b2 => hg c k (by omega))) W e hn (nm6_bd (by omega) (by omega) (by omega) (by omega) (by omega) (by omega)) (fun g' hg' => ?_)
              rw [← hval _ (Or.inl ⟨e0, rfl⟩) ⟨c1, c2⟩ ⟨c3, c4⟩ ⟨c5, c6⟩]
              exact hq g' (fun c k hc => ((F0 c k hc).tr (hg c k (by unfold scrM at hc; omega))).tr (hg' c k (by unfold scrM at hc; unfold lawC; omega)))
            · rw [if_neg (show ¬ z k = 0 from z_ne hk.1 hk.2 (by decide) (by decide) e0)]
              refine m_worth (x4 := 0) (by omega) (by omega) (by omega) (by omega) (fun g hg hn => ?_)
              refine m_law72 (by omega) (K.at' (fun c k b1 b2 => hg c k (by omega))) W e hn (nm6_bd (by omega) (by omega) (by omega) (by omega) (by omega) (by omega)) (fun g' hg' => ?_)
              rw [← hval _ (Or.inr ⟨by omega, rfl⟩) ⟨c1, c2⟩ ⟨c3, c4⟩ ⟨c5, c6⟩]
              exact hq g' (fun c k hc => ((F0 c k hc).tr (hg c k (by unfold scrM at hc; omega))).tr (hg' c k (by unfold scrM at hc; unfold lawC; omega)))
          · rw [if_neg (by decide)]; exact none' (bad (by omega))
        · rw [if_neg (by decide)]; exact none' (bad (by omega))
      · rw [if_neg (by decide)]; exact none' (bad (by omega))
  by_cases e0 : k = 0
  · obtain ⟨fr, K⟩ := M1.1.2.2.2.2.2.2.2.1
    refine main a.fd fr (by rw [e0]; exact K) n4.2.2.2.2.1 (fun nm hn h1 h2 h3 => ?_)
    unfold a_law
    rw [if_pos ⟨h1, h2, h3⟩, if_pos e0]
    rcases hn with hn | hn
    · rw [hn.2]
    · omega
  · obtain ⟨fr, K⟩ := M1.1.2.2.2.2.2.2.2.2.1
    have e1 : k = 1 := by omega
    refine main a.wo fr (by rw [e1]; exact K) n4.2.2.2.2.2.1 (fun nm hn h1 h2 h3 => ?_)
    unfold a_law
    rw [if_pos ⟨h1, h2, h3⟩, if_neg e0, if_pos e1]
    rcases hn with hn | hn
    · omega
    · rw [hn.2]
end QC
