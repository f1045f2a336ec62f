theorem x_copyLaw {h : PH} {t s : Nat} {ks : List Int} {Q : PH → Prop} (L : LX h s ks) (hl : ks.length ≤ 64) (hd : t + 4 ≤ s ∨ s + 4 ≤ t) (hq : ∀ g, (∀ c k, ¬ (c = t ∨ c = t + 1) → At h g c k) → LX g t ks → Q g) : w_X1_copyFrom t s h Q := by
  obtain ⟨l1, l2, l3⟩ := L
  unfold w_X1_copyFrom
  rw [iN_0, show iN 64 = 64 from rfl]
  refine ⟨by decide, by decide, by decide, by omega, by omega, ?_⟩
  rintro _ rfl _ rfl
  have e3 : gI (cpI h (s + 1) (t + 1) 0 0 64) s 3 = z ks.length := by rw [gI_cpI, if_neg (by omega)]; exact l1
  have e4 : gI (sI (cpI h (s + 1) (t + 1) 0 0 64) t 3 (z ks.length)) s 4 = z (if -3 ∈ ks then 1 else 0) := by rw [gI_out (by omega), gI_cpI, if_neg (by omega)]; exact l3
  rw [e3, e4]
  refine ⟨by split; exact Or.inr rfl; exact Or.inl rfl, ?_⟩
  rintro _ rfl
  refine hq _ (fun c k hc => (((At.rf h c k).cpI (by omega)).sI (by omega)).sI (by omega)) ⟨?_, fun i hi => ?_, gI_in rfl rfl⟩
  · rw [gI_out (by omega), gI_in rfl rfl]
  · rw [gI_out (by omega), gI_out (by omega), gI_cpI, if_pos rfl, if_pos (by omega), show 0 + (i - 0) = i by omega]
    exact l2 i hi
theorem LX.at' {h g : PH} {t : Nat} {ks : List Int} (L : LX h t ks) (e : ∀ c k, t ≤ c → c < t + 2 → At h g c k) : LX g t ks := by
  obtain ⟨l1, l2, l3⟩ := L
  exact ⟨by rw [(e t 3 (by omega) (by omega)).1]; exact l1, fun i hi => by rw [(e (t + 1) i (by omega) (by omega)).1]; exact l2 i hi, by rw [(e t 4 (by omega) (by omega)).1]; exact l3⟩
set_option maxHeartbeats 2000000 in
theorem x_copyW {h : PH} {t w : Nat} {a : Wd} {Q : PH → Prop} (H : WX h w a) (S : WS h t) (ht : isW t) (hw : isW w) (hne : t ≠ w) (l1 : a.fd.length ≤ 64) (l2 : a.wo.length ≤ 64) (hq : ∀ g, (∀ c k, ¬ (t ≤ c ∧ c < t + 23) → At h g c k) → WX g t a → gI g t 12 = gI h w 12 → Q g) : w_X8_copyFrom t w h Q := by
  have hd : t + 23 ≤ w ∨ w + 23 ≤ t := by unfold isW at ht hw; omega
  unfold w_X8_copyFrom
  refine x_copyRow 0 (by decide) ht hw hd rfl rfl ⟨fun c k _ => At.rf h c k, S, fun r hr => by omega⟩ (fun g1 C1 => ?_)
  refine x_copyRow 1 (by decide) ht hw hd rfl rfl C1 (fun g2 C2 => ?_)
  refine x_copyRow 2 (by decide) ht hw hd rfl rfl C2 (fun g3 C3 => ?_)
  refine x_copyRow 3 (by decide) ht hw hd rfl rfl C3 (fun g4 C4 => ?_)
  refine x_copyRow 4 (by decide) ht hw hd rfl rfl C4 (fun g5 C5 => ?_)
  refine x_copyRow 5 (by decide) ht hw hd rfl rfl C5 (fun g6 C6 => ?_)
  refine x_copyRow 6 (by decide) ht hw hd rfl rfl C6 (fun g7 C7 => ?_)
  clear C1 C2 C3 C4 C5 C6
  obtain ⟨c1, c2, c3⟩ := C7
  have L1 : LX g7 (w + 15) a.fd := H.2.1.at' (fun c k b1 b2 => c1 c k (by omega))
  refine x_copyLaw L1 l1 (by omega) (fun g8 f8 L8 => ?_)
  have L2 : LX g8 (w + 19) a.wo := (H.2.2.1.at' (fun c k b1 b2 => c1 c k (by omega))).at' (fun c k b1 b2 => f8 c k (by omega))
  refine x_copyLaw L2 l2 (by omega) (fun g9 f9 L9 => ?_)
  rintro _ rfl _ rfl _ rfl _ rfl
  have W0 : ∀ k, gI g9 w k = gI h w k := fun k => by rw [(f9 w k (by omega)).1, (f8 w k (by omega)).1, (c1 w k (by omega)).1]
  rw [gI_out (by omega), gI_out (by omega), gI_out (by omega), gI_out (by omega), gI_out (by omega), gI_out (by omega), W0 9, W0 10, W0 11, W0 12, H.2.2.2.1, H.2.2.2.2.1, H.2.2.2.2.2]
  have F9 : ∀ c k, c ≠ t → ¬ (c = t + 15 ∨ c = t + 16 ∨ c = t + 19 ∨ c = t + 20) → At g7 (sI (sI (sI (sI g9 t 9 (z (a.f 7 0 0))) t 10 (z (a.f 7 1 0))) t 11 (z (a.f 7 2 0))) t 12 (gI h w 12)) c k := fun c k e1 e2 => (((((f8 c k (by omega)).tr (f9 c k (by omega))).sI (by omega)).sI (by omega)).sI (by omega)).sI (by omega)
  refine hq _ (fun c k hc => (c1 c k hc).tr (F9 c k (by omega) (by omega))) ⟨fun r hr => ?_, ?_, ?_, ?_, ?_, ?_⟩ (gI_in rfl rfl)
  · have rH := H.rw r hr
    obtain ⟨s1, s2⟩ := c2 r hr
    obtain ⟨d1, d2⟩ := c3 r hr
    have al := al_W ht r hr
    have bb := cWM r
    refine ⟨⟨?_, ?_, ?_, rH.2.2.2.1, rH.2.2.2.2.1, rH.2.2.2.2.2.1, rH.2.2.2.2.2.2.1, rH.2.2.2.2.2.2.2.1, ?_⟩, fun k c b1 b2 b3 => ?_⟩
    · rw [(F9 _ _ (by omega) (by omega)).1]; exact s1
    · rw [(F9 _ _ (by omega) (by omega)).1]; exact s2
    · rw [(F9 _ _ (by omega) (by omega)).1, d1]; exact rH.2.2.1
    · rw [show t + 1 + 2 * r + 1 = t + 2 + 2 * r by omega]; exact al.symm
    · have rr := rw_in b1 (by have := rH.2.2.2.2.1; omega : k < cM r) (by omega : (0 : Int) ≤ (c : Int)) b3
      rw [(F9 _ _ (by omega) (by omega)).1, d2 _ (by omega)]
      exact (H.1 r hr).2 k c b1 b2 b3
  · exact (L8.at' (fun c k b1 b2 => f9 c k (by omega))).at' (fun c k b1 b2 => ((((At.rf g9 c k).sI (by omega)).sI (by omega)).sI (by omega)).sI (by omega))
  · exact L9.at' (fun c k b1 b2 => ((((At.rf g9 c k).sI (by omega)).sI (by omega)).sI (by omega)).sI (by omega))
  · rw [gI_out (by omega), gI_out (by omega), gI_out (by omega), gI_in rfl rfl]
  · rw [gI_out (by omega), gI_out (by omega), gI_in rfl rfl]
  · rw [gI_out (by omega), gI_in rfl rfl]
