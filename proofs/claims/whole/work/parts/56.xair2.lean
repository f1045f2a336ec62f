theorem ff_s {p : Int → Bool} {i : Int} (h : 0 ≤ i) : decide (ff p (i + 1) = -1) = (decide (ff p i = -1) && !p i) := by
  rcases ff_ca p i with ⟨h1, h2⟩ | ⟨h1, h2, h3, h4⟩
  · rw [h1]
    cases hp : p i with
    | true =>
      rw [ff_yes h (by omega) hp h2]
      have : ¬ i = -1 := by omega
      simp [this]
    | false =>
      rw [ff_no (fun j a b => by by_cases e : j = i; rw [e]; exact hp; exact h2 j a (by omega))]
      rfl
  · rw [ff_yes h1 (by omega) h3 h4]
    have : ¬ ff p i = -1 := by omega
    simp [this]
/-- the bits of a word from minute 0 on -/
def Bt (x : Int64) (f : Int → Bool) : Prop := ∃ v : Nat, v < 2 ^ 48 ∧ x = lN v ∧ ∀ m : Int, 0 ≤ m → m < 48 → v.testBit m.toNat = f m
theorem Bt.ext {x : Int64} {f g : Int → Bool} (B : Bt x f) (h : ∀ m, 0 ≤ m → m < 48 → f m = g m) : Bt x g := by
  obtain ⟨v, a, b, c⟩ := B
  exact ⟨v, a, b, fun m c1 c2 => by rw [c m c1 c2, h m c1 c2]⟩
def HX (h : PH) (t : Nat) (a : Wd) (F : Int → Int → Int) : Prop := ∀ n p : Int, 0 ≤ n → n < a.n 3 → 0 ≤ p → p < a.n 0 → Bt (gJ h (t + 2) (n * 6 + p).toNat) (fun m => hr a F n p m)
def SX (h : PH) (t : Nat) (a : Wd) (F : Int → Int → Int) : Prop := ∀ p : Int, 0 ≤ p → p < 6 → Bt (gJ h (t + 3) p.toNat) (fun m => decide (p < a.n 0) && decide (fst a F p m = -1))
set_option maxHeartbeats 2000000 in
theorem x_listen {t w : Nat} {a : Wd} {F : Int → Int → Int} {h : PH} {Q : PH → Prop} (H : WX h w a) (W : Wf a.fd) (X : FX h t F) (ht : w + 22 < t) (hF : ∀ p q, 0 ≤ F p q ∧ F p q ≤ 100000) (h6 : 0 ≤ a.n 0 ∧ a.n 0 ≤ 6) (ON : OkN a) (OX : OkX a)
    (hq : ∀ g, (∀ c k, ¬ (c = w + 17 ∨ c = w + 18 ∨ c = t + 2 ∨ c = t + 3) → At h g c k) → HX g t a F → SX g t a F → Q g) : w_X0_listen t w h Q := by
  have ON1 := ON.1
  have hw : ∀ g, (∀ c k, ¬ (c = w + 17 ∨ c = w + 18 ∨ c = t + 2 ∨ c = t + 3) → At h g c k) → WX g w a ∧ FX g t F := fun g hg => ⟨H.at' (fun c k b1 b2 b3 b4 b5 b6 => hg c k (by omega)), fun p q c1 c2 c3 c4 => by rw [(hg (t + 1) _ (by omega)).1]; exact X p q c1 c2 c3 c4⟩
  unfold w_X0_listen
  refine for10 6 (fun i g => (∀ c k, ¬ (c = w + 17 ∨ c = w + 18 ∨ c = t + 2 ∨ c = t + 3) → At h g c k) ∧ ∀ p : Int, 0 ≤ p → p < i → Bt (gJ g (t + 3) p.toNat) (fun m => decide (p < a.n 0))) 0 rfl (by omega) (by omega) (by omega) ⟨fun c k _ => At.rf h c k, fun p c1 c2 => by omega⟩ ?_ ?_
  · rintro kb i g i0 i1 ⟨hf, hJ⟩ hk
    have H' := (hw g hf).1
    have fin : ∀ (x : Int64), Bt x (fun m => decide (i < a.n 0)) → kb (z (i + 1)) (sJ g (t + 3) i.toNat x) := by
      intro x hx
      refine hk _ ⟨fun c k hc => (hf c k hc).sJ (by omega), fun p c1 c2 => ?_⟩
      by_cases e : p = i
      · rw [gJ_in rfl (by omega), e]; exact hx
      · rw [gJ_out (by omega)]; exact hJ p c1 (by omega)
    unfold w_X0_listen_2
    rw [zn_6, if_neg (by rw [z_le (by omega) (by omega) (by omega) (by omega)]; omega)]
    refine x_has (H'.rw 0 (by decide)) rfl (by omega) (by omega) (fun c1 c2 => ?_) (fun c1 => ?_)
    · rw [if_neg (by decide), z_iN (by omega) (by omega), z_inc]
      refine ⟨z_in (by omega) (by omega) (by omega), ?_⟩
      rintro _ rfl
      refine fin _ ⟨281474976710655, by decide, by decide, fun m d1 d2 => ?_⟩
      rw [decide_eq_true c2, show (281474976710655 : Nat) = 2 ^ 48 - 1 from rfl, Nat.testBit_two_pow_sub_one]
      exact decide_eq_true (by omega)
    · rw [if_pos rfl, z_iN (by omega) (by omega), z_inc]
      refine ⟨z_in (by omega) (by omega) (by omega), ?_⟩
      rintro _ rfl
      refine fin _ ⟨0, by decide, rfl, fun m d1 d2 => ?_⟩
      rw [decide_eq_false (by omega : ¬ i < a.n 0), Nat.zero_testBit]
  · rintro kb g ⟨hf, hJ⟩
    unfold w_X0_listen_2
    rw [zn_6, if_pos (by rw [z_le (by omega) (by omega) (by omega) (by omega)]; omega)]
    refine for10 (a.n 3) (fun i g => (∀ c k, ¬ (c = w + 17 ∨ c = w + 18 ∨ c = t + 2 ∨ c = t + 3) → At h g c k) ∧ (∀ n p : Int, 0 ≤ n → n < i → 0 ≤ p → p < a.n 0 → Bt (gJ g (t + 2) (n * 6 + p).toNat) (fun m => hr a F n p m)) ∧ ∀ p : Int, 0 ≤ p → p < 6 → Bt (gJ g (t + 3) p.toNat) (fun m => decide (p < a.n 0) && decide (ff (fun n => hr a F n p m) i = -1))) 0 rfl (by omega) (by omega) (by omega) ⟨hf, fun n p c1 c2 => by omega, fun p c1 c2 => (hJ p c1 c2).ext (fun m _ _ => by simp [ff, ffr])⟩ ?_ ?_
    · clear hJ hf g kb
      rintro kb i g i0 i1 ⟨hf, hA, hB⟩ hk
      have H' := (hw g hf).1
      unfold w_X0_listen_45
      rw [show gI g (w + 7) 3 = z (a.n 3) from (H'.n0 3 (by decide)).1, if_neg (by rw [z_le (by omega) (by omega) (by omega) (by omega)]; omega), zn_12, if_neg (by rw [z_lt (by omega) (by omega) (by omega) (by omega)]; omega), z_inc]
      refine for10 (a.n 0) (fun q g => (∀ c k, ¬ (c = w + 17 ∨ c = w + 18 ∨ c = t + 2 ∨ c = t + 3) → At h g c k) ∧ (∀ n p : Int, 0 ≤ n → n < i ∨ (n = i ∧ p < q) → 0 ≤ p → p < a.n 0 → Bt (gJ g (t + 2) (n * 6 + p).toNat) (fun m => hr a F n p m)) ∧ ∀ p : Int, 0 ≤ p → p < 6 → Bt (gJ g (t + 3) p.toNat) (fun m => decide (p < a.n 0) && decide (ff (fun n => hr a F n p m) (if p < q then i + 1 else i) = -1))) 0 rfl (by omega) (by omega) (by omega) ⟨hf, fun n p c1 c2 c3 c4 => hA n p c1 (by omega) c3 c4, fun p c1 c2 => (hB p c1 c2).ext (fun m _ _ => by rw [if_neg (by omega)])⟩ ?_ ?_
      · clear hA hB hf H' g
        rintro kb2 q g q0 q1 ⟨hf, hA, hB⟩ hk2
        obtain ⟨H', X'⟩ := hw g hf
        obtain ⟨o1, o2, o3, o4, o5⟩ := ON.2 i i0 i1
        have ox := OX i i0 i1
        unfold w_X0_listen_62
        rw [show gI g (w + 1) 3 = z (a.n 0) from (H'.n0 0 (by decide)).1, if_neg (by rw [z_le (by omega) (by omega) (by omega) (by omega)]; omega), zn_6, if_neg (by rw [z_le (by omega) (by omega) (by omega) (by omega)]; omega)]
        refine H'.at 3 0 (by decide) rfl (by decide) rfl rfl i0 i1 ?_
        refine H'.at 3 2 (by decide) rfl (by decide) rfl rfl i0 i1 ?_
        refine H'.at 3 3 (by decide) rfl (by decide) rfl rfl i0 i1 ?_
        refine H'.at 3 4 (by decide) rfl (by decide) rfl rfl i0 i1 ?_
        refine x_mh H' W X' ht (by omega) (by omega) (hF _ _) (by omega) (by omega) (fun g' v hg' hv hb => ?_)
        have hf' : ∀ c k, ¬ (c = w + 17 ∨ c = w + 18 ∨ c = t + 2 ∨ c = t + 3) → At h g' c k := fun c k hc => (hf c k hc).tr (hg' c k (by omega))
        obtain ⟨H2, X2⟩ := hw g' hf'
        refine H2.at 3 5 (by decide) rfl (by decide) rfl rfl i0 i1 ?_
        have fin : ∀ (v : Nat), v < 2 ^ 48 → (∀ m : Int, 0 ≤ m → m < 48 → v.testBit m.toNat = hr a F i q m) → w_X0_listen_129 t w Q kb2 (z i) (z q) (lN v) g' := by
          intro v hv hb
          obtain ⟨u, u1, u2, u3⟩ := hB q q0 (by omega)
          have e3 : gJ g' (t + 3) q.toNat = lN u := by rw [(hg' (t + 3) _ (by omega)).2.1]; exact u2
          unfold w_X0_listen_129
          rw [zn_6, z_mul, z_add, z_iN (by omega) (by omega), z_iN (by omega) (by omega)]
          refine ⟨z_in (by omega) (by omega) (by omega), ?_⟩
          rintro _ rfl
          refine ⟨z_in (by omega) (by omega) (by omega), z_in (by omega) (by omega) (by omega), ?_⟩
          rw [gJ_out (by omega), e3, l_andn]
          rintro _ rfl
          rw [z_inc]
          refine hk2 _ ⟨fun c k hc => ((hf' c k hc).sJ (by omega)).sJ (by omega), fun n p c1 c2 c3 c4 => ?_, fun p c1 c2 => ?_⟩
          · rw [gJ_out (by omega)]
            by_cases e : n * 6 + p = i * 6 + q
            · have en : n = i := by omega
              have ep : p = q := by omega
              rw [gJ_in rfl (by omega), en, ep]
              exact ⟨v, hv, rfl, hb⟩
            · rw [gJ_out (by omega), (hg' (t + 2) _ (by omega)).2.1]
              exact hA n p c1 (by omega) c3 c4
          · by_cases e : p = q
            · rw [gJ_in rfl (by omega), e]
              refine ⟨_, andn_lt u1, rfl, fun m d1 d2 => ?_⟩
              rw [andn_bit, u3 m d1 d2, hb m d1 d2]
              dsimp only
              rw [if_neg (by omega), if_pos (by omega), ff_s i0, Bool.and_assoc]
            · rw [gJ_out (by omega), gJ_sJ, if_neg (by omega), (hg' (t + 3) _ (by omega)).2.1]
              refine (hB p c1 c2).ext (fun m _ _ => ?_)
              by_cases e2 : p < q
              · rw [if_pos e2, if_pos (by omega)]
              · rw [if_neg e2, if_neg (by omega)]
        rcases o5 with e5 | e5
        · rw [e5, if_pos (show z 0 = 0 from rfl)]
          refine fin v hv (fun m d1 d2 => ?_)
          rw [hb m d1 d2]
          unfold hr car
          rw [decide_eq_true e5, decide_eq_true (by omega : 1 ≤ a.f 3 4 i)]
          simp [Bool.and_assoc]
        · rw [e5, if_neg (show ¬ z 1 = 0 by decide)]
          refine fin 0 (by decide) (fun m d1 d2 => ?_)
          unfold hr
          rw [decide_eq_false (by omega : ¬ a.f 3 5 i = 0), Nat.zero_testBit]
          simp
      · clear hA hB hf H' g
        rintro kb2 g ⟨hf, hA, hB⟩
        obtain ⟨H', X'⟩ := hw g hf
        unfold w_X0_listen_62
        rw [show gI g (w + 1) 3 = z (a.n 0) from (H'.n0 0 (by decide)).1, if_pos (by rw [z_le (by omega) (by omega) (by omega) (by omega)]; omega)]
        refine hk _ ⟨hf, fun n p c1 c2 c3 c4 => hA n p c1 (by omega) c3 c4, fun p c1 c2 => (hB p c1 c2).ext (fun m _ _ => ?_)⟩
        by_cases e : p < a.n 0
        · rw [if_pos e]
        · rw [if_neg e, decide_eq_false e]; rfl
    · clear hJ hf g kb
      rintro kb g ⟨hf, hA, hB⟩
      have H' := (hw g hf).1
      unfold w_X0_listen_45
      rw [show gI g (w + 7) 3 = z (a.n 3) from (H'.n0 3 (by decide)).1, if_pos (by rw [z_le (by omega) (by omega) (by omega) (by omega)]; omega)]
      exact hq g hf hA hB
theorem z_isMin {m : Int} {h : PH} {Q : Int32 → PH → Prop} (h0 : 0 ≤ m) (h1 : m < 48) (hq : Q 1 h) : w_X9_isMinute (z m) h Q := by
  unfold w_X9_isMinute
  rw [zn_0, if_neg (by rw [z_lt (by omega) (by omega) (by omega) (by omega)]; omega), zn_48, if_neg (by rw [z_le (by omega) (by omega) (by omega) (by omega)]; omega)]
  exact hq
theorem x_isSpot {p m : Int} {h : PH} {Q : Int32 → PH → Prop} (hp : 0 ≤ p ∧ p < 6) (hm : 0 ≤ m ∧ m < 48) (hq : Q 1 h) : w_X0_isSpot (z p) (z m) h Q := by
  unfold w_X0_isSpot
  rw [zn_0, zn_6, zn_48, if_neg (by rw [z_lt (by omega) (by omega) (by omega) (by omega)]; omega), if_neg (by rw [z_le (by omega) (by omega) (by omega) (by omega)]; omega), if_neg (by rw [z_lt (by omega) (by omega) (by omega) (by omega)]; omega), if_neg (by rw [z_le (by omega) (by omega) (by omega) (by omega)]; omega)]
  exact hq
theorem x_isSilent {t : Nat} {a : Wd} {F : Int → Int → Int} {p m : Int} {h : PH} {Q : Int32 → PH → Prop} (S : SX h t a F) (hp : 0 ≤ p ∧ p < 6) (hm : 0 ≤ m ∧ m < 48) (hT : p < a.n 0 → fst a F p m = -1 → Q 1 h) (hN : ¬ (p < a.n 0 ∧ fst a F p m = -1) → Q 0 h) : w_X0_isSilent t (z p) (z m) h Q := by
  unfold w_X0_isSilent w_X0_silentAt
  rw [zn_0, zn_6, if_neg (by rw [z_lt (by omega) (by omega) (by omega) (by omega)]; omega), if_neg (by rw [z_le (by omega) (by omega) (by omega) (by omega)]; omega), z_iN (by omega) (by omega)]
  refine ⟨z_in (by omega) (by omega) (by omega), ?_⟩
  obtain ⟨v, v1, v2, v3⟩ := S p hp.1 hp.2
  rw [v2]
  have hb : lg_cmp ((lN v >>> ((z m).toInt64 &&& 63)) &&& 1) 1 = z 0 ↔ v.testBit m.toNat = true := l_bit v1 hm.1 hm.2
  have e : v.testBit m.toNat = (decide (p < a.n 0) && decide (fst a F p m = -1)) := v3 m hm.1 hm.2
  by_cases c : p < a.n 0 ∧ fst a F p m = -1
  · rw [if_pos (hb.mpr (by rw [e]; simp [c.1, c.2]))]
    exact hT c.1 c.2
  · rw [if_neg (fun x => by rw [hb.mp x] at e; simp at e; exact c e)]
    exact hN c
theorem x_isHeard {t : Nat} {a : Wd} {F : Int → Int → Int} {n p m : Int} {h : PH} {Q : Int32 → PH → Prop} (S : HX h t a F) (h6 : a.n 0 ≤ 6) (h13 : a.n 3 ≤ 13) (hn : 0 ≤ n ∧ n < a.n 3) (hp : 0 ≤ p ∧ p < a.n 0) (hm : 0 ≤ m ∧ m < 48) (hT : hr a F n p m = true → Q 1 h) (hN : hr a F n p m = false → Q 0 h) : w_X0_isHeard t (z n) (z p) (z m) h Q := by
  unfold w_X0_isHeard
  rw [zn_0, zn_12, if_neg (by rw [z_lt (by omega) (by omega) (by omega) (by omega)]; omega), if_neg (by rw [z_lt (by omega) (by omega) (by omega) (by omega)]; omega), if_neg (by rw [z_lt (by omega) (by omega) (by omega) (by omega)]; omega), zn_6, if_neg (by rw [z_le (by omega) (by omega) (by omega) (by omega)]; omega), if_neg (by rw [z_lt (by omega) (by omega) (by omega) (by omega)]; omega), zn_48, if_pos (by rw [z_lt (by omega) (by omega) (by omega) (by omega)]; omega), z_mul, z_add, z_iN (by omega) (by omega)]
  refine ⟨z_in (by omega) (by omega) (by omega), ?_⟩
  obtain ⟨v, v1, v2, v3⟩ := S n p hn.1 hn.2 hp.1 hp.2
  rw [v2]
  have hb : lg_cmp ((lN v >>> ((z m).toInt64 &&& 63)) &&& 1) 1 = z 0 ↔ v.testBit m.toNat = true := l_bit v1 hm.1 hm.2
  have e : v.testBit m.toNat = hr a F n p m := v3 m hm.1 hm.2
  cases c : hr a F n p m with
  | true =>
    rw [if_pos (hb.mpr (by rw [e, c]))]
    exact hT c
  | false =>
    rw [if_neg (fun x => by rw [hb.mp x, c] at e; cases e)]
    exact hN c
theorem x_first {t w : Nat} {a : Wd} {F : Int → Int → Int} {p m : Int} {h : PH} {Q : Int32 → PH → Prop} (H : WX h w a) (S : HX h t a F) (h6 : a.n 0 ≤ 6) (h13 : a.n 3 ≤ 13) (hp : 0 ≤ p ∧ p < a.n 0) (hm : 0 ≤ m ∧ m < 48) (hq : Q (z (fst a F p m)) h) : w_X0_firstHeard t w (z p) (z m) h Q := by
  have hn := H.n0 3 (by decide)
  unfold w_X0_firstHeard
  refine for10 (a.n 3) (fun i g => h = g ∧ ∀ n, 0 ≤ n → n < i → hr a F n p m = false) 0 rfl (by omega) (by omega) (by omega) ⟨rfl, fun n c1 c2 => by omega⟩ ?_ ?_
  · rintro kb i _ i0 i1 ⟨rfl, hJ⟩ hk
    unfold w_X0_firstHeard_3
    rw [show gI h (w + 7) 3 = z (a.n 3) from hn.1, if_neg (by rw [z_le (by omega) (by omega) (by omega) (by omega)]; omega)]
    refine x_isHeard S h6 h13 ⟨i0, i1⟩ hp hm (fun c => ?_) (fun c => ?_)
    · rw [if_neg (by decide)]
      rw [show fst a F p m = i from ff_yes i0 i1 c hJ] at hq
      exact hq
    · rw [if_pos rfl, z_inc]
      refine hk _ ⟨rfl, fun n c1 c2 => ?_⟩
      by_cases e : n = i
      · rw [e]; exact c
      · exact hJ n c1 (by omega)
  · rintro kb _ ⟨rfl, hJ⟩
    unfold w_X0_firstHeard_3
    rw [show gI h (w + 7) 3 = z (a.n 3) from hn.1, if_pos (by rw [z_le (by omega) (by omega) (by omega) (by omega)]; omega)]
    rw [show fst a F p m = -1 from ff_no hJ] at hq
    exact hq
