/-! ===== the words of the language, as the reference reads them ===== -/
def wch (k : Int) : Int := (sByt 0 k.toNat).toInt
theorem wch_tab : ∀ k : Fin 120, (((((sByt 0 k.val) &&& 255) : Int32).toUInt32 % 65536).toInt32 = z (wch ((k.val : Nat) : Int))) ∧ 32 ≤ wch ((k.val : Nat) : Int) ∧ wch ((k.val : Nat) : Int) < 123 := by decide +kernel
theorem chr_nar : ∀ v : Fin 128, narrow .char (.int (z ((v.val : Nat) : Int))) = .int (z ((v.val : Nat) : Int)) := by decide +kernel
theorem m_length {h : PH} {Q : Int32 → PH → Prop} (hq : Q (z 120) h) : w_J0_length_8abf5 0 h Q := by
  unfold w_J0_length_8abf5 w_J0_coder_7d493
  rw [if_neg (by decide)]
  exact hq
theorem m_charAt {h : PH} {k : Int} {Q : Int32 → PH → Prop} (h0 : 0 ≤ k) (h1 : k < 120) (hq : Q (z (wch k)) h) : w_J0_charAt_5068e 0 (z k) h Q := by
  obtain ⟨e1, e2, e3⟩ := wch_tab ⟨k.toNat, by omega⟩
  simp only [show ((k.toNat : Nat) : Int) = k by omega] at e1 e2 e3
  have e4 := chr_nar ⟨(wch k).toNat, by omega⟩
  simp only [show (((wch k).toNat : Nat) : Int) = wch k by omega] at e4
  unfold w_J0_charAt_5068e w_J0_isLatin1_aae02
  rw [if_neg (by decide), if_pos (by decide)]
  dsimp only
  rw [if_neg (by decide)]
  unfold w_J1_charAt_3b067 w_J0_checkIndex_df160
  have el : Int32.ofNat (sLen 0) = z 120 := rfl
  rw [el, z_iN (a := k) (by omega) (by omega), e1]
  refine ⟨by rw [zn_0, z_lt (by omega) (by omega) (by omega) (by omega)]; omega, by rw [z_lt (by omega) (by omega) (by omega) (by omega)]; omega, ?_, e4, e4, hq⟩
  show vp_in (z k) 120
  exact z_in (by omega) (by omega) (by omega)
