/-- the reference's added noise: its maker is owner 0 -/
def nz0 (p o fr to l : Int) : Nat → Int := fun c => if c = 0 then p else if c = 1 then o else if c = 2 then fr else if c = 3 then to else if c = 4 then l else 0
theorem m_adds {h : PH} {a : Wd} {p o fr to l : Int} {Q : PH → Prop} (NN : NM h a) (h12 : 0 ≤ a.n 3 ∧ a.n 3 ≤ 12) (hl : 1 ≤ l ∧ l ≤ 20) (hq : ∀ g, (∀ c k, ¬ (45 ≤ c ∧ c < 50) → ¬ (c = 0 ∧ k = 62) → At h g c k) → NM g (adR a 3 (nz0 p o fr to l)) → Q g) : w_X10_adds (z p) (z o) (z fr) (z to) (z l) h Q := by
  have e62 := NN.1
  unfold w_X10_adds
  rw [e62, z_iN (by omega) (by omega)]
  refine ⟨z_in (by omega) (by omega) (by omega), ?_⟩
  rintro _ rfl
  rw [gI_out (by omega), e62, z_iN (by omega) (by omega)]
  refine ⟨z_in (by omega) (by omega) (by omega), ?_⟩
  rintro _ rfl
  rw [gI_out (by omega), gI_out (by omega), e62, z_iN (by omega) (by omega)]
  refine ⟨z_in (by omega) (by omega) (by omega), ?_⟩
  rintro _ rfl
  rw [gI_out (by omega), gI_out (by omega), gI_out (by omega), e62, z_iN (by omega) (by omega)]
  refine ⟨z_in (by omega) (by omega) (by omega), ?_⟩
  rintro _ rfl
  rw [gI_out (by omega), gI_out (by omega), gI_out (by omega), gI_out (by omega), e62, z_iN (by omega) (by omega)]
  refine ⟨z_in (by omega) (by omega) (by omega), ?_⟩
  rintro _ rfl
  rw [gI_out (by omega), gI_out (by omega), gI_out (by omega), gI_out (by omega), gI_out (by omega), e62, z_inc]
  rintro _ rfl
  refine hq _ (fun c k b1 b2 => ((((((At.rf h c k).sI (by omega)).sI (by omega)).sI (by omega)).sI (by omega)).sI (by omega)).sI b2) ⟨by rw [gI_in rfl rfl, adR_n], fun n c1 c2 => ?_⟩
  rw [adR_n] at c2
  by_cases e : n = a.n 3
  · subst e
    rw [adR_in, adR_in, adR_in, adR_in, adR_in, adR_in]
    refine ⟨?_, ?_, ?_, ?_, l, ?_, by omega, by omega, fun _ => ⟨rfl, rfl⟩⟩
    · rw [gI_out (by omega), gI_out (by omega), gI_out (by omega), gI_out (by omega), gI_out (by omega), gI_in rfl rfl]; rfl
    · rw [gI_out (by omega), gI_out (by omega), gI_out (by omega), gI_out (by omega), gI_in rfl rfl]; rfl
    · rw [gI_out (by omega), gI_out (by omega), gI_out (by omega), gI_in rfl rfl]; rfl
    · rw [gI_out (by omega), gI_out (by omega), gI_in rfl rfl]; rfl
    · rw [gI_out (by omega), gI_in rfl rfl]
  · rw [adR_out (by omega), adR_out (by omega), adR_out (by omega), adR_out (by omega), adR_out (by omega), adR_out (by omega)]
    have q := NN.2 n c1 (by omega)
    obtain ⟨q1, q2, q3, q4, l', q5, q6⟩ := q
    refine ⟨?_, ?_, ?_, ?_, l', ?_, q6⟩ <;> (repeat rw [gI_out (by omega)]) <;> assumption
