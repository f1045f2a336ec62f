def softI (a : Wd) (i : Int) : Wd := upF (upF a 3 4 (fun k => if k < i then a.f 3 4 k - 5 else a.f 3 4 k)) 3 5 (fun k => if k < i ∧ a.f 3 4 k - 5 < 1 then 1 else a.f 3 5 k)
theorem softI_4 (a : Wd) (i k : Int) : (softI a i).f 3 4 k = if k < i then a.f 3 4 k - 5 else a.f 3 4 k := rfl
theorem softI_5 (a : Wd) (i k : Int) : (softI a i).f 3 5 k = if k < i ∧ a.f 3 4 k - 5 < 1 then 1 else a.f 3 5 k := rfl
theorem softI_o {a : Wd} {i : Int} {r c : Nat} {k : Int} (h : ¬ (r = 3 ∧ (c = 4 ∨ c = 5))) : (softI a i).f r c k = a.f r c k := by
  unfold softI
  rw [upF_out (by omega), upF_out (by omega)]
theorem x_muffle {h : PH} {a : Wd} {Q : PH → Prop} (H : WX h 77 a) (ON : OkN a) (hq : ∀ g, (∀ c k, ¬ (c = 85) → At h g c k) → WX g 77 (soft a) → Q g) : w_X8_muffle 77 h Q := by
  have hn := H.n0 3 (by decide)
  have ON1 := ON.1
  unfold w_X8_muffle
  refine for10 (a.n 3) (fun i g => (∀ c k, ¬ (c = 85) → At h g c k) ∧ WX g 77 (softI a i)) 0 rfl (by omega) (by omega) (by omega) ⟨fun c k _ => At.rf h c k, H.ext (fun r hr => rfl) (fun r c k hr hc k0 k1 => ?_) (fun c => rfl) rfl rfl⟩ ?_ ?_
  · by_cases e : r = 3 ∧ (c = 4 ∨ c = 5)
    · obtain ⟨rfl, rfl | rfl⟩ := e
      · rw [softI_4, if_neg (by omega)]
      · rw [softI_5, if_neg (by omega)]
    · exact softI_o e
  · rintro kb i g i0 i1 ⟨hf, W⟩ hk
    obtain ⟨o1, o2, o3, o4, o5⟩ := ON.2 i i0 i1
    have hg : gI g 84 3 = z (a.n 3) := (W.n0 3 (by decide)).1
    unfold w_X8_muffle_2
    rw [hg, if_neg (by rw [z_le (by omega) (by omega) (by omega) (by omega)]; omega)]
    refine W.at 3 4 (by decide) rfl (by decide) rfl rfl i0 i1 ?_
    rw [softI_4, if_neg (by omega)]
    rintro _ rfl
    rw [zn_5, z_sub]
    refine x_putW (u := a.f 3 4 i - 5) W 3 4 (by decide) rfl (by decide) rfl rfl rfl i0 i1 (fun g1 f1 W1 => ?_)
    by_cases e : 1 ≤ a.f 3 4 i - 5
    · rw [if_pos (by rw [zn_1, z_le (by omega) (by omega) (by omega) (by omega)]; exact e), z_inc]
      refine hk _ ⟨fun c k hc => (hf c k hc).tr (f1 c k hc), W1.ext (fun r hr => rfl) (fun r c k hr hc k0 k1 => ?_) (fun c => rfl) rfl rfl⟩
      by_cases er : r = 3 ∧ (c = 4 ∨ c = 5)
      · obtain ⟨rfl, rfl | rfl⟩ := er
        · rw [upF_in, softI_4, softI_4]
          by_cases ek : k = i
          · rw [if_pos (by omega), if_pos ek, ek]
          · rw [if_neg ek]
            by_cases e2 : k < i
            · rw [if_pos e2, if_pos (by omega)]
            · rw [if_neg e2, if_neg (by omega)]
        · rw [upF_out (by omega), softI_5, softI_5]
          by_cases e2 : k < i ∧ a.f 3 4 k - 5 < 1
          · rw [if_pos e2, if_pos ⟨by omega, e2.2⟩]
          · rw [if_neg e2, if_neg]
            intro x
            by_cases ek : k = i
            · rw [ek] at x; omega
            · exact e2 ⟨by omega, x.2⟩
      · rw [upF_out (by omega), softI_o er, softI_o er]
    · rw [if_neg (by rw [zn_1, z_le (by omega) (by omega) (by omega) (by omega)]; exact e)]
      refine x_putW (u := 1) W1 3 5 (by decide) rfl (by decide) rfl rfl rfl i0 i1 (fun g2 f2 W2 => ?_)
      rw [z_inc]
      refine hk _ ⟨fun c k hc => ((hf c k hc).tr (f1 c k hc)).tr (f2 c k hc), W2.ext (fun r hr => rfl) (fun r c k hr hc k0 k1 => ?_) (fun c => rfl) rfl rfl⟩
      by_cases er : r = 3 ∧ (c = 4 ∨ c = 5)
      · obtain ⟨rfl, rfl | rfl⟩ := er
        · rw [upF_out (by omega), upF_in, softI_4, softI_4]
          by_cases ek : k = i
          · rw [if_pos (by omega), if_pos ek, ek]
          · rw [if_neg ek]
            by_cases e2 : k < i
            · rw [if_pos e2, if_pos (by omega)]
            · rw [if_neg e2, if_neg (by omega)]
        · rw [upF_in, upF_out (by omega), softI_5, softI_5]
          by_cases ek : k = i
          · rw [if_pos ek, if_pos (by rw [ek]; omega)]
          · rw [if_neg ek]
            by_cases e2 : k < i ∧ a.f 3 4 k - 5 < 1
            · rw [if_pos e2, if_pos ⟨by omega, e2.2⟩]
            · rw [if_neg e2, if_neg (by omega)]
      · rw [upF_out (by omega), upF_out (by omega), softI_o er, softI_o er]
  · rintro kb g ⟨hf, W⟩
    have hg : gI g 84 3 = z (a.n 3) := (W.n0 3 (by decide)).1
    unfold w_X8_muffle_2
    rw [hg, if_pos (by rw [z_le (by omega) (by omega) (by omega) (by omega)]; omega)]
    refine hq g hf (W.ext (fun r hr => rfl) (fun r c k hr hc k0 k1 => ?_) (fun c => rfl) rfl rfl)
    by_cases er : r = 3 ∧ (c = 4 ∨ c = 5)
    · obtain ⟨rfl, rfl | rfl⟩ := er
      · have k1' : k < a.n 3 := k1
        rw [softI_4, if_pos k1']; rfl
      · have k1' : k < a.n 3 := k1
        rw [softI_5]
        show (if a.f 3 4 k - 5 < 1 then (1 : Int) else a.f 3 5 k) = _
        by_cases e2 : a.f 3 4 k - 5 < 1
        · rw [if_pos e2, if_pos ⟨k1', e2⟩]
        · rw [if_neg e2, if_neg (fun x => e2 x.2)]
    · rw [softI_o er]
      unfold soft
      rw [upF_out (by omega), upF_out (by omega)]
/-- no walls on the trial -/
theorem x_noWalls {h : PH} {a : Wd} {x1 x2 : Int32} {Q : Int32 → PH → Prop} (H : WX h 77 a) (OL : OkL a) (hq : ∀ g, (∀ c k, ¬ (c = 81) → At h g c k) → WX g 77 (upF a 1 3 (fun _ => 0)) → w_X9_tried_156 Q x1 x2 g) : ∃ n, Lp1 (w_X9_tried_62 (fun h7 => w_X9_tried_156 Q x1 x2 h7) Q x1 x2) n 0 h := by
  have O2 := OL.2.1
  refine for10 (a.n 1) (fun i g => (∀ c k, ¬ (c = 81) → At h g c k) ∧ WX g 77 (upF a 1 3 (fun k => if k < i then 0 else a.f 1 3 k))) 0 rfl (by omega) (by omega) (by omega) ⟨fun c k _ => At.rf h c k, H.ext (fun r hr => rfl) (fun r c k hr hc k0 k1 => ?_) (fun c => rfl) rfl rfl⟩ ?_ ?_
  · by_cases e : r = 1 ∧ c = 3
    · obtain ⟨rfl, rfl⟩ := e
      rw [upF_in, if_neg (by omega)]
    · exact upF_out e
  · rintro kb i g i0 i1 ⟨hf, W⟩ hk
    have hg : gI g 80 3 = z (a.n 1) := (W.n0 1 (by decide)).1
    unfold w_X9_tried_62
    rw [hg, if_neg (by rw [z_le (by omega) (by omega) (by omega) (by omega)]; omega)]
    refine x_putW (u := 0) W 1 3 (by decide) rfl (by decide) rfl rfl rfl i0 i1 (fun g1 f1 W1 => ?_)
    rw [z_inc]
    refine hk _ ⟨fun c k hc => (hf c k hc).tr (f1 c k hc), W1.ext (fun r hr => rfl) (fun r c k hr hc k0 k1 => ?_) (fun c => rfl) rfl rfl⟩
    by_cases er : r = 1 ∧ c = 3
    · obtain ⟨rfl, rfl⟩ := er
      rw [upF_in, upF_in, upF_in]
      by_cases ek : k = i
      · rw [if_pos (by omega), if_pos ek]
      · rw [if_neg ek]
        by_cases e2 : k < i
        · rw [if_pos e2, if_pos (by omega)]
        · rw [if_neg e2, if_neg (by omega)]
    · rw [upF_out er, upF_out er, upF_out er]
  · rintro kb g ⟨hf, W⟩
    have hg : gI g 80 3 = z (a.n 1) := (W.n0 1 (by decide)).1
    unfold w_X9_tried_62
    rw [hg, if_pos (by rw [z_le (by omega) (by omega) (by omega) (by omega)]; omega)]
    refine hq g hf (W.ext (fun r hr => rfl) (fun r c k hr hc k0 k1 => ?_) (fun c => rfl) rfl rfl)
    by_cases er : r = 1 ∧ c = 3
    · obtain ⟨rfl, rfl⟩ := er
      rw [upF_in, upF_in]
      have k1' : k < a.n 1 := k1
      rw [if_pos k1']
    · rw [upF_out er, upF_out er]
