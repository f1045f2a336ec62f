/-! ===== worlds of a trial ===== -/
def soft (a : Wd) : Wd := upF (upF a 3 4 (fun k => a.f 3 4 k - 5)) 3 5 (fun k => if a.f 3 4 k - 5 < 1 then 1 else a.f 3 5 k)
def more (a : Wd) (p o fr to l : Int) : Wd := (fun r => if r = 3 then a.n 3 + 1 else a.n r, fun r c k => if r = 3 ∧ k = a.n 3 then (if c = 0 then p else if c = 1 then o else if c = 2 then fr else if c = 3 then to else if c = 4 then l else 0) else a.f r c k, a.2.2)
theorem okL3 {a : Wd} {c : Nat} {f : Int → Int} (h : OkL a) : OkL (upF a 3 c f) := h
theorem okC3 {a : Wd} {c : Nat} {f : Int → Int} (h : OkC a) : OkC (upF a 3 c f) := h
theorem okN5 {a : Wd} {f : Int → Int} (h : OkN a) (hf : ∀ k, 0 ≤ k → k < a.n 3 → f k = 0 ∨ f k = 1) : OkN (upF a 3 5 f) := ⟨h.1, fun n c1 c2 => ⟨(h.2 n c1 c2).1, (h.2 n c1 c2).2.1, (h.2 n c1 c2).2.2.1, (h.2 n c1 c2).2.2.2.1, hf n c1 c2⟩⟩
theorem okN4 {a : Wd} {f : Int → Int} (h : OkN a) (hf : ∀ k, 0 ≤ k → k < a.n 3 → -100 ≤ f k ∧ f k ≤ 20) : OkN (upF a 3 4 f) := ⟨h.1, fun n c1 c2 => ⟨(h.2 n c1 c2).1, (h.2 n c1 c2).2.1, (h.2 n c1 c2).2.2.1, hf n c1 c2, (h.2 n c1 c2).2.2.2.2⟩⟩
theorem okN_soft {a : Wd} (h : OkN a) (hl : ∀ n, 0 ≤ n → n < a.n 3 → 1 ≤ a.f 3 4 n) : OkN (soft a) ∧ OkX (soft a) := by
  refine ⟨okN5 (okN4 h (fun k c1 c2 => ?_)) (fun k c1 c2 => ?_), fun n c1 c2 => ?_⟩
  · have a1 := hl k c1 c2
    have a2 := (h.2 k c1 c2).2.2.2.1
    omega
  · have a2 := (h.2 k c1 c2).2.2.2.2
    split
    · exact Or.inr rfl
    · exact a2
  · show 1 ≤ a.f 3 4 n - 5 ∨ (if a.f 3 4 n - 5 < 1 then (1 : Int) else a.f 3 5 n) = 1
    by_cases e : a.f 3 4 n - 5 < 1
    · exact Or.inr (if_pos e)
    · exact Or.inl (by omega)
/-- all of one owner's noises stop, as far as the i-th -/
theorem x_silence {h : PH} {a : Wd} {o : Int} {Q : PH → Prop} (H : WX h 77 a) (ON : OkN a) (ho : 0 ≤ o ∧ o < 4) (hq : ∀ g, (∀ c k, ¬ (c = 85) → At h g c k) → WX g 77 (upF a 3 5 (fun k => if a.f 3 1 k = o then 1 else a.f 3 5 k)) → Q g) : w_X8_silence 77 (z o) h Q := by
  have hn := H.n0 3 (by decide)
  unfold w_X8_silence
  refine for10 (a.n 3) (fun i g => (∀ c k, ¬ (c = 85) → At h g c k) ∧ WX g 77 (upF a 3 5 (fun k => if k < i ∧ a.f 3 1 k = o then 1 else a.f 3 5 k))) 0 rfl (by omega) (by have := ON.1; omega) (by omega) ⟨fun c k _ => At.rf h c k, H.ext (fun r hr => rfl) (fun r c k hr hc k0 k1 => ?_) (fun c => rfl) rfl rfl⟩ ?_ ?_
  · by_cases e : r = 3 ∧ c = 5
    · obtain ⟨rfl, rfl⟩ := e
      rw [upF_in, if_neg (by omega)]
    · exact upF_out e
  · rintro kb i g i0 i1 ⟨hf, W⟩ hk
    have ON1 := ON.1
    obtain ⟨o1, o2, o3, o4, o5⟩ := ON.2 i i0 i1
    have hg : gI g 84 3 = z (a.n 3) := (W.n0 3 (by decide)).1
    have step : ∀ g', (∀ c k, ¬ (c = 85) → At g g' c k) → ∀ b : Wd, WX g' 77 b → (∀ r, r < 7 → b.n r = a.n r) → (∀ (r c : Nat) (k : Int), r < 7 → (c : Int) < cW r → 0 ≤ k → k < a.n r → b.f r c k = (upF a 3 5 (fun k => if k < i + 1 ∧ a.f 3 1 k = o then 1 else a.f 3 5 k)).f r c k) → (∀ c, b.f 7 c 0 = a.f 7 c 0) → b.fd = a.fd → b.wo = a.wo → kb (z (i + 1)) g' := by
      intro g' hg' b Wb q1 q2 q3 q4 q5
      exact hk _ ⟨fun c k hc => (hf c k hc).tr (hg' c k hc), Wb.ext (fun r hr => (q1 r hr).symm) (fun r c k hr hc k0 k1 => (q2 r c k hr hc k0 (by rw [q1 r hr] at k1; exact k1)).symm) (fun c => (q3 c).symm) q4.symm q5.symm⟩
    unfold w_X8_silence_2
    rw [hg, if_neg (by rw [z_le (by omega) (by omega) (by omega) (by omega)]; omega)]
    refine W.at 3 1 (by decide) rfl (by decide) rfl rfl i0 i1 ?_
    rw [show (upF a 3 5 (fun k => if k < i ∧ a.f 3 1 k = o then 1 else a.f 3 5 k)).f 3 1 i = a.f 3 1 i from rfl]
    by_cases e : a.f 3 1 i = o
    · rw [if_pos (congrArg z e)]
      refine x_putW (u := 1) W 3 5 (by decide) rfl (by decide) rfl rfl rfl i0 i1 (fun g' f' W' => ?_)
      rw [z_inc]
      refine step g' (fun c k hc => f' c k hc) _ W' (fun r hr => rfl) (fun r c k hr hc k0 k1 => ?_) (fun c => rfl) rfl rfl
      by_cases er : r = 3 ∧ c = 5
      · obtain ⟨rfl, rfl⟩ := er
        rw [upF_in, upF_in, upF_in]
        by_cases ek : k = i
        · rw [if_pos ek, if_pos (by rw [ek]; exact ⟨by omega, e⟩)]
        · rw [if_neg ek]
          by_cases e2 : k < i ∧ a.f 3 1 k = o
          · rw [if_pos e2, if_pos ⟨by omega, e2.2⟩]
          · rw [if_neg e2, if_neg (by omega)]
      · rw [upF_out er, upF_out er, upF_out er]
    · rw [if_neg (z_ne (by omega) (by omega) (by omega) (by omega) e), z_inc]
      refine step g (fun c k _ => At.rf g c k) _ W (fun r hr => rfl) (fun r c k hr hc k0 k1 => ?_) (fun c => rfl) rfl rfl
      by_cases er : r = 3 ∧ c = 5
      · obtain ⟨rfl, rfl⟩ := er
        rw [upF_in, upF_in]
        by_cases e2 : k < i ∧ a.f 3 1 k = o
        · rw [if_pos e2, if_pos ⟨by omega, e2.2⟩]
        · rw [if_neg e2, if_neg]
          intro x
          by_cases ek : k = i
          · rw [ek] at x; exact e x.2
          · exact e2 ⟨by omega, x.2⟩
      · rw [upF_out er, upF_out er]
  · rintro kb g ⟨hf, W⟩
    have hg : gI g 84 3 = z (a.n 3) := (W.n0 3 (by decide)).1
    have ON1 := ON.1
    unfold w_X8_silence_2
    rw [hg, if_pos (by rw [z_le (by omega) (by omega) (by omega) (by omega)]; omega)]
    refine hq g hf (W.ext (fun r hr => rfl) (fun r c k hr hc k0 k1 => ?_) (fun c => rfl) rfl rfl)
    by_cases er : r = 3 ∧ c = 5
    · obtain ⟨rfl, rfl⟩ := er
      rw [upF_in, upF_in]
      have k1' : k < a.n 3 := k1
      by_cases e2 : a.f 3 1 k = o
      · rw [if_pos e2, if_pos ⟨k1', e2⟩]
      · rw [if_neg e2, if_neg (fun x => e2 x.2)]
    · rw [upF_out er, upF_out er]
