/-! ===== worlds copied ===== -/
theorem gI_cpI (h : PH) (a b sp dp n c k : Nat) : gI (cpI h a b sp dp n) c k = if c = b then (if dp ≤ k ∧ k < dp + n then gI h a (sp + (k - dp)) else gI h b k) else gI h c k := by
  unfold cpI gI
  show (if c = b then va_cpy (h.1 a) (h.1 b) sp dp n else h.1 c) k = _
  by_cases e : c = b
  · rw [if_pos e, if_pos e]; rfl
  · rw [if_neg e, if_neg e]
theorem At.cpI {h g : PH} {c k a b sp dp n : Nat} (e : At h g c k) (hn : c ≠ b) : At h (cpI g a b sp dp n) c k := ⟨by rw [gI_cpI, if_neg hn]; exact e.1, e.2.1, e.2.2⟩
def isW (t : Nat) : Prop := t = 8 ∨ t = 31 ∨ t = 54 ∨ t = 77
theorem al_W {t : Nat} (h : isW t) : ∀ r, r < 7 → (alX (t + 2 + 2 * r) : Int) = cW r * cM r := by
  intro r hr
  have : r = 0 ∨ r = 1 ∨ r = 2 ∨ r = 3 ∨ r = 4 ∨ r = 5 ∨ r = 6 := by omega
  rcases h with rfl | rfl | rfl | rfl <;> rcases this with rfl | rfl | rfl | rfl | rfl | rfl | rfl <;> decide
theorem oX_W {t : Nat} (h : isW t) : oX t 8 := by rcases h with rfl | rfl | rfl | rfl <;> exact ⟨by decide, rfl⟩
/-- the fixed numbers of a world's rows -/
def WS (h : PH) (t : Nat) : Prop := ∀ r, r < 7 → gI h (t + 1 + 2 * r) 0 = z (cW r) ∧ gI h (t + 1 + 2 * r) 1 = z (cM r)
theorem WS.at' {h g : PH} {t : Nat} (S : WS h t) (e : ∀ r, r < 7 → gI g (t + 1 + 2 * r) 0 = gI h (t + 1 + 2 * r) 0 ∧ gI g (t + 1 + 2 * r) 1 = gI h (t + 1 + 2 * r) 1) : WS g t := fun r hr => ⟨by rw [(e r hr).1]; exact (S r hr).1, by rw [(e r hr).2]; exact (S r hr).2⟩
theorem WX.ws {h : PH} {t : Nat} {a : Wd} (H : WX h t a) : WS h t := fun r hr => ⟨(H.rw r hr).1, (H.rw r hr).2.1⟩
theorem cWM (r : Nat) : 0 < cW r * cM r ∧ cW r * cM r ≤ 100 := by
  unfold cW cM
  repeat' split
  all_goals omega
/-- the first j kinds of rows are copied -/
def CpR (h g : PH) (t w j : Nat) : Prop := (∀ c k, ¬ (t ≤ c ∧ c < t + 23) → At h g c k) ∧ WS g t ∧ ∀ r, r < j → gI g (t + 1 + 2 * r) 3 = gI h (w + 1 + 2 * r) 3 ∧ ∀ k : Nat, (k : Int) < cW r * cM r → gI g (t + 2 + 2 * r) k = gI h (w + 2 + 2 * r) k
theorem x_copyRow {h g : PH} {t w t' w' : Nat} {Q : PH → Prop} (j : Nat) (hj : j < 7) (ht : isW t) (hw : isW w) (hd : t + 23 ≤ w ∨ w + 23 ≤ t) (e1 : t' = t + 1 + 2 * j) (e2 : w' = w + 1 + 2 * j) (C : CpR h g t w j) (hq : ∀ g', CpR h g' t w (j + 1) → Q g') : w_X6_copyFrom t' w' g Q := by
  subst e1 e2
  obtain ⟨c1, c2, c3⟩ := C
  have a1 := al_W ht j hj
  have a2 := al_W hw j hj
  have bb := cWM j
  have q1 : alX (t + 1 + 2 * j + 1) = (cW j * cM j).toNat := by rw [show t + 1 + 2 * j + 1 = t + 2 + 2 * j by omega]; omega
  have q2 : alX (w + 1 + 2 * j + 1) = (cW j * cM j).toNat := by rw [show w + 1 + 2 * j + 1 = w + 2 + 2 * j by omega]; omega
  unfold w_X6_copyFrom
  rintro _ rfl
  rw [q1, q2]
  have em : mnI (Int32.ofNat (cW j * cM j).toNat) (Int32.ofNat (cW j * cM j).toNat) = z (cW j * cM j) := by
    rw [show Int32.ofNat (cW j * cM j).toNat = z (cW j * cM j) from by rw [z_nI' (by omega)]; rfl, z_mnI (by omega) (by omega) (by omega) (by omega)]
    congr 1; omega
  rw [em, z_iN (by omega) (by omega), iN_0]
  refine ⟨by decide, by decide, by rw [zn_0, z_lt (by omega) (by omega) (by omega) (by omega)]; omega, by omega, by omega, ?_⟩
  rintro _ rfl _ rfl
  refine hq _ ⟨fun c k hc => ((c1 c k hc).cpI (by omega)).sI (by omega), ?_, fun r hr => ⟨?_, fun k hk => ?_⟩⟩
  · exact c2.at' (fun r hr => ⟨by rw [gI_out (by omega), gI_cpI, if_neg (by omega)], by rw [gI_out (by omega), gI_cpI, if_neg (by omega)]⟩)
  · by_cases e : r = j
    · subst e
      rw [gI_in rfl rfl, gI_cpI, if_neg (by omega), (c1 _ _ (by omega)).1]
    · rw [gI_out (by omega), gI_cpI, if_neg (by omega)]
      exact (c3 r (by omega)).1
  · by_cases e : r = j
    · subst e
      rw [gI_out (by omega), gI_cpI, if_pos (by omega), if_pos (by omega), show w + 1 + 2 * r + 1 = w + 2 + 2 * r by omega, show 0 + (k - 0) = k by omega, (c1 _ _ (by omega)).1]
    · rw [gI_out (by omega), gI_cpI, if_neg (by omega)]
      exact (c3 r (by omega)).2 k hk
