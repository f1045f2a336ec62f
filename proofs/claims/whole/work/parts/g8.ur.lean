def s0 : St := (a0, (0, fun _ => a0), (false, a0), (0, (fun _ _ => 0), -1), (0, fun _ => 0), (0, -1))
theorem now_a0 : Now a0 := by
  have e : ps0.fin = a0 := by
    unfold PS.fin ps0
    refine Prod.ext rfl (Prod.ext (funext fun r => funext fun c => funext fun k => ?_) rfl)
    show (upF (upF a0 7 0 (fun _ => 5)) 7 1 (fun _ => 1)).f r c k = a0.f r c k
    by_cases c1 : r = 7 ∧ c = 1
    · obtain ⟨rfl, rfl⟩ := c1
      rw [upF_in]; rfl
    · by_cases c0 : r = 7 ∧ c = 0
      · obtain ⟨rfl, rfl⟩ := c0
        rw [upF_out (by omega), upF_in]; rfl
      · rw [upF_out c1, upF_out c0]
  rw [← e]
  exact ps0_ok.now.1
theorem x0_ws (t : Nat) (ht : isW t) : WS hX0 t := by
  intro r hr
  have : r = 0 ∨ r = 1 ∨ r = 2 ∨ r = 3 ∨ r = 4 ∨ r = 5 ∨ r = 6 := by omega
  rcases ht with rfl | rfl | rfl | rfl <;> rcases this with rfl | rfl | rfl | rfl | rfl | rfl | rfl <;> exact ⟨by decide +kernel, by decide +kernel⟩
theorem x0_rw {t : Nat} {W N : Int} (h0 : gI hX0 t 0 = z W) (h1 : gI hX0 t 1 = z N) (h3 : gI hX0 t 3 = z 0) (h : 0 < W ∧ W ≤ 6 ∧ 0 ≤ N ∧ N ≤ 144 ∧ W * N = (alX (t + 1) : Int)) : Rw hX0 t W N 0 := ⟨h0, h1, h3, Int.le_refl _, h.2.2.1, h.1, h.2.1, h.2.2.2.1, h.2.2.2.2⟩
theorem x0_wx : WX hX0 8 a0 := by
  refine ⟨fun r hr => ⟨?_, fun k c k0 k1 hc => absurd k1 (Int.not_lt.mpr k0)⟩, ⟨by decide +kernel, fun i hi => absurd hi (Nat.not_lt_zero _), by decide +kernel⟩, ⟨by decide +kernel, fun i hi => absurd hi (Nat.not_lt_zero _), by decide +kernel⟩, by decide +kernel, by decide +kernel, by decide +kernel⟩
  have : r = 0 ∨ r = 1 ∨ r = 2 ∨ r = 3 ∨ r = 4 ∨ r = 5 ∨ r = 6 := by omega
  rcases this with rfl | rfl | rfl | rfl | rfl | rfl | rfl <;> exact x0_rw (by decide +kernel) (by decide +kernel) (by decide +kernel) (by decide +kernel)
theorem s0_ok : OkS s0 := by
  refine ⟨⟨now_a0, rfl⟩, ⟨by decide, by decide⟩, rfl, fun k _ _ => ⟨now_a0, rfl, Tld.rf _⟩, fun e => Bool.noConfusion e, ⟨⟨by decide, by decide⟩, ⟨by decide, by decide⟩, fun k k0 k1 => absurd k1 (Int.not_lt.mpr k0)⟩, ⟨⟨by decide, by decide, rfl⟩, fun k => ⟨(by decide : (0 : Int) ≤ 0), (by decide : (0 : Int) < 256)⟩⟩⟩
theorem x0_ix : IX hX0 8 s0 := by
  refine ⟨⟨Or.inl rfl, rfl, x0_wx, now_a0, Or.inl ⟨by decide +kernel, by decide⟩, fun e => absurd e (by decide +kernel)⟩, ⟨rfl, x0_ws 31 (Or.inr (Or.inl rfl))⟩, x0_ws 77 (Or.inr (Or.inr (Or.inr rfl))), ⟨x0_ws 54 (Or.inr (Or.inr (Or.inl rfl))), by decide +kernel, fun e => Bool.noConfusion e⟩, ⟨?_, fun _ _ => 0, fun k k0 k1 => absurd k1 (Int.not_lt.mpr k0)⟩, ⟨?_, fun k k0 k1 => absurd k1 (Int.not_lt.mpr k0), by decide +kernel⟩, ⟨by decide +kernel, fun k k0 k1 => absurd k1 (Int.not_lt.mpr k0)⟩, ⟨fun k hk => rfl, by decide +kernel, by decide +kernel⟩, ⟨⟨0, ?_⟩, ⟨0, ?_⟩⟩, s0_ok⟩
  all_goals exact x0_rw (by decide +kernel) (by decide +kernel) (by decide +kernel) (by decide +kernel)
theorem x0_px : PX hX0 s0.a := Or.inl (by decide +kernel)
theorem m0_im : IM hM0 s0 := by
  refine ⟨⟨⟨⟨?_, ?_, ?_, ?_, ?_, ?_, ?_, ?_⟩, ?_, ?_, ?_, ?_, ?_, ?_, ⟨0, ?_⟩, ⟨0, ?_⟩, ?_⟩, ⟨?_, ?_, ?_, ?_, ?_, ?_, ?_⟩, now_a0⟩, ⟨?_, ⟨by decide, by decide⟩, fun i i0 i1 => absurd i1 (Int.not_lt.mpr i0)⟩, ⟨?_, fun e => Bool.noConfusion e⟩, ⟨?_, ?_, fun k k0 k1 => absurd k1 (Int.not_lt.mpr k0)⟩, ⟨?_, fun k k0 k1 => absurd k1 (Int.not_lt.mpr k0)⟩, ⟨?_, ?_⟩, s0_ok⟩
  any_goals decide +kernel
  all_goals first | (intro k k0 k1; exact absurd k1 (Int.not_lt.mpr k0)) | skip
  all_goals first | exact ⟨by decide +kernel, by decide +kernel, by decide, by decide, fun j hj => absurd hj (Nat.not_lt_zero _)⟩ | skip
  · intro n n0 n1
    rw [show gI hM0 40 (0 : Int).toNat = z 0 from rfl, bt_z0 _ (by omega)]
    exact ⟨fun x => absurd x (by decide), fun x => absurd x.1 (Int.not_lt.mpr n0)⟩
  · intro n n0 n1
    rw [show gI hM0 42 (0 : Int).toNat = z 0 from rfl, bt_z0 _ (by omega)]
    exact ⟨fun x => absurd x (by decide), fun x => absurd x.1 (Int.not_lt.mpr n0)⟩
