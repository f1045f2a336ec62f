/-! ===== trials by the reference ===== -/
theorem hr_cong {a b : Wd} {F : Int → Int → Int} {n p m : Int} (e0 : b.f 3 0 n = a.f 3 0 n) (e2 : b.f 3 2 n = a.f 3 2 n) (e3 : b.f 3 3 n = a.f 3 3 n) (e4 : b.f 3 4 n = a.f 3 4 n) (e5 : b.f 3 5 n = a.f 3 5 n) (ef : b.fd = a.fd) : hr b F n p m = hr a F n p m := by
  unfold hr car rem
  rw [e0, e2, e3, e4, e5, ef]
theorem silAll_cong {a b : Wd} {F : Int → Int → Int} (n0 : b.n 0 = a.n 0) (n3 : b.n 3 = a.n 3) (hc : ∀ n, 0 ≤ n → n < a.n 3 → b.f 3 0 n = a.f 3 0 n ∧ b.f 3 2 n = a.f 3 2 n ∧ b.f 3 3 n = a.f 3 3 n ∧ b.f 3 4 n = a.f 3 4 n ∧ b.f 3 5 n = a.f 3 5 n) (ef : b.fd = a.fd) : silAll b F = silAll a F := by
  unfold silAll
  rw [n0]
  congr 1
  funext k
  unfold sil fst
  rw [n3, ff_cong (fun j c1 c2 => hr_cong (hc j c1 c2).1 (hc j c1 c2).2.1 (hc j c1 c2).2.2.1 (hc j c1 c2).2.2.2.1 (hc j c1 c2).2.2.2.2 ef)]
theorem m_softens {h : PH} {a : Wd} {Q : PH → Prop} (NN : NM h a) (O : OkN a) (hl0 : ∀ n : Int, 0 ≤ n → n < a.n 3 → gI h 49 n.toNat = z (if a.f 3 5 n = 1 then 0 else a.f 3 4 n)) (hq : ∀ g, (∀ c k, ¬ (c = 49) → At h g c k) → NM g (soft a) → Q g) : w_X10_softens h Q := by
  have O1 := O.1
  unfold w_X10_softens
  refine for10 (a.n 3) (fun i g => (∀ c k, ¬ (c = 49) → At h g c k) ∧ ∀ n : Int, 0 ≤ n → n < a.n 3 → gI g 49 n.toNat = (if n < i then gI h 49 n.toNat - 5 else gI h 49 n.toNat)) 0 rfl (by omega) (by omega) (by omega) ⟨fun c k _ => At.rf h c k, fun n c1 c2 => by rw [if_neg (by omega)]⟩ ?_ ?_
  · rintro kb i g i0 i1 ⟨hf, hJ⟩ hk
    unfold w_X10_softens_2
    rw [(hf 0 62 (by omega)).1, NN.1, if_neg (by rw [z_le (by omega) (by omega) (by omega) (by omega)]; omega), z_iN (by omega) (by omega)]
    refine ⟨z_in (by omega) (by omega) (by omega), z_in (by omega) (by omega) (by omega), ?_⟩
    rintro _ rfl
    rw [z_inc]
    refine hk _ ⟨fun c k hc => (hf c k hc).sI (by omega), fun n c1 c2 => ?_⟩
    by_cases e : n = i
    · rw [gI_in rfl (by omega), e, if_pos (by omega), hJ i i0 i1, if_neg (by omega)]
    · rw [gI_out (by omega), hJ n c1 c2]
      by_cases e2 : n < i
      · rw [if_pos e2, if_pos (by omega)]
      · rw [if_neg e2, if_neg (by omega)]
  · rintro kb g ⟨hf, hJ⟩
    unfold w_X10_softens_2
    rw [(hf 0 62 (by omega)).1, NN.1, if_pos (by rw [z_le (by omega) (by omega) (by omega) (by omega)]; omega)]
    refine hq g hf ⟨by rw [(hf 0 62 (by omega)).1]; exact NN.1, fun n c1 c2 => ?_⟩
    have c2' : n < a.n 3 := c2
    obtain ⟨e1, e2, e3, e4, l, e5, b1, b2, b3⟩ := NN.2 n c1 c2'
    obtain ⟨o1, o2, o3, o4, o5⟩ := O.2 n c1 c2'
    rw [(hf 45 _ (by omega)).1, (hf 46 _ (by omega)).1, (hf 47 _ (by omega)).1, (hf 48 _ (by omega)).1]
    refine ⟨e1, e2, e3, e4, l - 5, ?_, ?_, by omega, ?_⟩
    · rw [hJ n c1 c2', if_pos c2', e5, zn_5, z_sub]
    · have q := hl0 n c1 c2'
      rw [e5, z_eq (by omega) (by omega) (by split <;> omega) (by split <;> omega)] at q
      rw [q]
      split <;> omega
    · have s4 : (soft a).f 3 4 n = a.f 3 4 n - 5 := rfl
      have s5 : (soft a).f 3 5 n = if a.f 3 4 n - 5 < 1 then 1 else a.f 3 5 n := rfl
      rw [s4, s5]
      intro hh
      by_cases e : a.f 3 4 n - 5 < 1
      · rw [if_pos e] at hh ⊢
        have : 1 ≤ l := by omega
        have := b3 (Or.inl this)
        omega
      · rw [if_neg e] at hh ⊢
        have := b3 (by omega)
        omega
