theorem sI_same {h : PH} {c k : Nat} {x : Int32} (e : gI h c k = x) : sI h c k x = h := by
  unfold sI
  refine Prod.ext (funext fun a => funext fun b => ?_) rfl
  show (if a = c ∧ b = k then x else h.1 a b) = h.1 a b
  by_cases c' : a = c ∧ b = k
  · rw [if_pos c', c'.1, c'.2]; exact e.symm
  · rw [if_neg c']
/-- the fresh reference's day begins empty, as it is -/
theorem bg : Bg := by
  unfold Bg w_X10_begins
  rintro _ rfl
  rw [sI_same (h := hM0) (c := 34) (k := iN 0) (x := 0) rfl, show iN 0 = 0 from rfl]
  refine for10 0 (fun _ g => g = hM0) 0 rfl (by omega) (by omega) (by omega) rfl (fun kb i g i0 i1 => by omega) ?_
  rintro kb _ rfl
  unfold w_X10_begins_9
  rw [if_pos (show gI hM0 2 (iN 3) ≤ z 0 by decide +kernel)]
  dsimp only
  rintro _ rfl
  rw [sI_same (h := hM0) (c := 40) (k := 0) (x := 0) rfl]
  refine for10 8 (fun _ g => g = hM0) 0 rfl (by omega) (by omega) (by omega) rfl ?_ ?_
  · rintro kb i _ i0 i1 rfl hn
    unfold w_X10_begins_68
    rw [zn_8, if_neg (by rw [z_le (by omega) (by omega) (by omega) (by omega)]; omega), show gI hM0 2 (iN 4) = z 0 by decide +kernel, if_pos (by rw [z_le (by omega) (by omega) (by omega) (by omega)]; omega), z_inc]
    refine ⟨z_in (by omega) (by omega) (by omega), ?_⟩
    rintro _ rfl
    rw [sI_same (h := hM0) (c := 41) (k := iN (z i)) (x := 0) rfl]
    exact hn _ rfl
  · rintro kb _ rfl
    unfold w_X10_begins_68
    rw [zn_8, if_pos (by rw [z_le (by omega) (by omega) (by omega) (by omega)]; omega)]
    dsimp only
    rintro _ rfl
    rw [sI_same (h := hM0) (c := 42) (k := 0) (x := 0) rfl]
    refine for10 4 (fun _ g => g = hM0) 0 rfl (by omega) (by omega) (by omega) rfl ?_ ?_
    · rintro kb i _ i0 i1 rfl hn
      unfold w_X10_begins_115
      rw [zn_4, if_neg (by rw [z_le (by omega) (by omega) (by omega) (by omega)]; omega), show gI hM0 2 (iN 2) = z 0 by decide +kernel, if_pos (by rw [z_le (by omega) (by omega) (by omega) (by omega)]; omega), z_inc]
      refine ⟨z_in (by omega) (by omega) (by omega), ?_⟩
      rintro _ rfl
      rw [sI_same (h := hM0) (c := 43) (k := iN (z i)) (x := 0) rfl]
      exact hn _ rfl
    · rintro kb _ rfl
      unfold w_X10_begins_115
      rw [zn_4, if_pos (by rw [z_le (by omega) (by omega) (by omega) (by omega)]; omega)]
      dsimp only
      rintro _ rfl
      rw [sI_same (h := hM0) (c := 44) (k := 0) (x := 0) rfl]
