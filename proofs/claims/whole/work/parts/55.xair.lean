/-! ===== what is heard, by the class ===== -/
def OkX (a : Wd) : Prop := ∀ n, 0 ≤ n → n < a.n 3 → 1 ≤ a.f 3 4 n ∨ a.f 3 5 n = 1
theorem evl_cong {nm nm' : Int → Int} : ∀ (ks st : List Int), (∀ k ∈ ks, k < 0 → -10 < k → nm (-1 - k) = nm' (-1 - k)) → evl nm ks st = evl nm' ks st
  | [], st, _ => rfl
  | k :: ks, st, h => by
    have e : kn nm k st = kn nm' k st := by
      unfold kn
      by_cases c0 : 0 ≤ k
      · rw [if_pos c0, if_pos c0]
      · rw [if_neg c0, if_neg c0]
        by_cases c1 : -10 < k
        · rw [if_pos c1, if_pos c1, h k (by simp) (by omega) c1]
        · rw [if_neg c1, if_neg c1]
    show (kn nm k st).bind (evl nm ks) = (kn nm' k st).bind (evl nm' ks)
    rw [e]
    cases kn nm' k st with
    | none => rfl
    | some st' => exact evl_cong ks st' (fun q hq => h q (by simp [hq]))
theorem evl_bd {nm : Int → Int} (hn : ∀ i, bd (nm i)) : ∀ (ks st st' : List Int), (∀ k ∈ ks, kok k) → (∀ v ∈ st, bd v) → evl nm ks st = some st' → ∀ v ∈ st', bd v
  | [], st, st', _, h, e => by injection e with e; subst e; exact h
  | k :: ks, st, st', hk, h, e => by
    have e' : (kn nm k st).bind (evl nm ks) = some st' := e
    have hkk := hk k (by simp)
    unfold kok at hkk
    cases hq : kn nm k st with
    | none => rw [hq] at e'; cases e'
    | some s =>
      rw [hq] at e'
      refine evl_bd hn ks s st' (fun q hq => hk q (by simp [hq])) ?_ e'
      unfold kn at hq
      split at hq
      · injection hq with hq; subst hq
        intro v hv
        rcases List.mem_cons.mp hv with rfl | hv
        · unfold bd; omega
        · exact h v hv
      · split at hq
        · injection hq with hq; subst hq
          intro v hv
          rcases List.mem_cons.mp hv with rfl | hv
          · exact hn _
          · exact h v hv
        · split at hq
          · cases st with
            | nil => cases hq
            | cons u r =>
              injection hq with hq; subst hq
              intro v hv
              rcases List.mem_cons.mp hv with rfl | hv
              · unfold bd; split <;> omega
              · exact h v (by simp [hv])
          · match st, h, hq with
            | u :: t :: r, h, hq =>
              cases hj : jn (-10 - k) t u with
              | none => simp only [hj, Option.map_none] at hq; cases hq
              | some w =>
                simp only [hj, Option.map_some] at hq
                injection hq with hq; subst hq
                intro v hv
                rcases List.mem_cons.mp hv with rfl | hv
                · exact jn_bd hj
                · exact h v (by simp [hv])
theorem lv_bd {nm : Int → Int} {ks : List Int} {v : Int} (hn : ∀ i, bd (nm i)) (hk : ∀ k ∈ ks, kok k) (h : lv nm ks = some v) : bd v := by
  unfold lv at h
  cases he : evl nm ks [] with
  | none => rw [he] at h; cases h
  | some st =>
    rw [he] at h
    cases st with
    | nil => cases h
    | cons u r =>
      have : u = v := by injection h
      subst this
      exact evl_bd hn ks [] _ hk (by simp) he u (by simp)
theorem rem_bd {a : Wd} (W : Wf a.fd) {loud f m : Int} (b1 : -1000 ≤ loud ∧ loud ≤ 20) (b2 : 0 ≤ f ∧ f ≤ 100000) (b3 : 0 ≤ m ∧ m < 48) : bd (rem a loud f m) := by
  unfold rem
  cases h : lv (nm6 loud f m 0 0 0) a.fd with
  | none => show bd (loud - f); unfold bd; omega
  | some v => exact lv_bd (nm6_bd (by omega) (by omega) (by omega) (by omega) (by omega) (by omega)) W.2.1 h
theorem rem_still {a : Wd} (h : -3 ∉ a.fd) (loud f m m' : Int) : rem a loud f m = rem a loud f m' := by
  unfold rem
  have : lv (nm6 loud f m 0 0 0) a.fd = lv (nm6 loud f m' 0 0 0) a.fd := by
    unfold lv
    rw [evl_cong (nm := nm6 loud f m 0 0 0) (nm' := nm6 loud f m' 0 0 0) a.fd []]
    intro k hk k0 k1
    have : k ≠ -3 := fun e => h (e ▸ hk)
    unfold nm6
    rw [if_neg (show ¬ -1 - k = 2 by omega), if_neg (show ¬ -1 - k = 2 by omega)]
  rw [this]
theorem x_way {t : Nat} {F : Int → Int → Int} {p q : Int} {h : PH} {Q : Int32 → PH → Prop} (X : FX h t F) (hp : 0 ≤ p ∧ p < 6) (hq6 : 0 ≤ q ∧ q < 6) (hF : 0 ≤ F p q ∧ F p q ≤ 100000) (hq : Q (z (if F p q < 100000 then F p q else -2)) h) : w_X0_way t (z p) (z q) h Q := by
  unfold w_X0_way
  rw [zn_0, zn_6, if_neg (by rw [z_lt (by omega) (by omega) (by omega) (by omega)]; omega), if_neg (by rw [z_le (by omega) (by omega) (by omega) (by omega)]; omega), if_neg (by rw [z_lt (by omega) (by omega) (by omega) (by omega)]; omega), if_pos (by rw [z_lt (by omega) (by omega) (by omega) (by omega)]; omega), z_mul, z_add, z_iN (by omega) (by omega), X p q hp.1 hp.2 hq6.1 hq6.2]
  refine ⟨z_in (by omega) (by omega) (by omega), ?_⟩
  rintro _ rfl
  unfold wy
  by_cases c : F p q < 100000
  · rw [if_pos c] at hq ⊢
    rw [zn_1000000, if_neg (by rw [z_le (by omega) (by omega) (by omega) (by omega)]; omega)]; exact hq
  · rw [if_neg c] at hq ⊢
    rw [if_pos (by rw [zn_1000000, z_le (by omega) (by omega) (by omega) (by omega)]; omega)]; exact hq
set_option maxHeartbeats 2000000 in
theorem x_mh {t w : Nat} {a : Wd} {F : Int → Int → Int} {p fr to loud q : Int} {h : PH} {Q : Int64 → PH → Prop} (H : WX h w a) (W : Wf a.fd) (X : FX h t F) (ht : w + 22 < t) (hp : 0 ≤ p ∧ p < 6) (hq6 : 0 ≤ q ∧ q < 6) (hF : 0 ≤ F p q ∧ F p q ≤ 100000) (hm : 0 ≤ fr ∧ fr ≤ to ∧ to ≤ 47) (hl : -1000 ≤ loud ∧ loud ≤ 20)
    (hq : ∀ g (v : Nat), (∀ c k, ¬ (c = w + 17 ∨ c = w + 18) → At h g c k) → v < 2 ^ 48 → (∀ m : Int, 0 ≤ m → m < 48 → v.testBit m.toNat = (decide (fr ≤ m) && decide (m ≤ to) && decide (F p q < 100000) && decide (1 ≤ rem a loud (F p q) m))) → Q (lN v) g) : w_X0_minutesHeard t w (z p) (z fr) (z to) (z loud) (z q) h Q := by
  unfold w_X0_minutesHeard
  refine x_way X hp hq6 hF ?_
  by_cases c : F p q < 100000
  · rw [if_pos c, if_neg (by rw [z_m2]; exact z_ne (by omega) (by omega) (by omega) (by omega) (by omega)), if_pos (by rw [z_le (by omega) (by omega) (by omega) (by omega)]; omega)]
    have LX0 := H.2.1
    refine for21 (to + 1) (fun i x g => (fr < i → -3 ∈ a.fd) ∧ (∀ c k, ¬ (c = w + 17 ∨ c = w + 18) → At h g c k) ∧ ∃ v : Nat, x = lN v ∧ v < 2 ^ 48 ∧ ∀ m : Int, 0 ≤ m → m < 48 → v.testBit m.toNat = (decide (fr ≤ m) && decide (m < i) && decide (1 ≤ rem a loud (F p q) m))) fr rfl (by omega) (by omega) (by omega) ⟨fun e => by omega, fun c k _ => At.rf h c k, 0, rfl, by decide, fun m c1 c2 => by rw [Nat.zero_testBit]; by_cases e : fr ≤ m <;> by_cases e2 : m < fr <;> simp [e, e2] <;> omega⟩ ?_ ?_
    · rintro kb i x g i0 i1 ⟨ht3, hf, v, rfl, hv, hb⟩ hk
      have H' : WX g w a := H.at' (fun c k b1 b2 b3 b4 b5 b6 => hf c k (by omega))
      unfold w_X0_minutesHeard_30
      rw [if_neg (by rw [z_lt (by omega) (by omega) (by omega) (by omega)]; omega)]
      refine x_value (x4 := 0) (x5 := 0) (x6 := 0) H'.2.1 W (by omega) (by omega) (by omega) (by omega) (by omega) (by omega) (fun g' hg' => ?_)
      have hf' : ∀ c k, ¬ (c = w + 17 ∨ c = w + 18) → At h g' c k := fun c k hc => (hf c k hc).tr (hg' c k (by omega))
      have hr := rem_bd W hl hF (show 0 ≤ i ∧ i < 48 by omega)
      have H2 : WX g' w a := H.at' (fun c k b1 b2 b3 b4 b5 b6 => hf' c k (by omega))
      have go : w_X0_minutesHeard_72 t w (fun y8 h7 => if lg_cmp y8 1 < 0 then Q 0 h7 else Q ((((1 : Int64) <<< ((((z to - z fr) + 1) : Int32).toInt64 &&& 63)) - 1) <<< ((z fr).toInt64 &&& 63)) h7) Q kb (z fr) (z to) (z loud) (z (F p q)) (lN v) (z i) (zl (rem a loud (F p q) i)) g' := by
        unfold bd at hr
        unfold w_X0_minutesHeard_72
        rw [show gI g' (w + 15) 4 = z (if -3 ∈ a.fd then 1 else 0) from H2.2.1.2.2]
        by_cases c3 : -3 ∈ a.fd
        · rw [if_pos c3, if_neg (show ¬ z 1 = 0 by decide)]
          have nxt : ∀ v' : Nat, v' < 2 ^ 48 → (∀ m : Int, 0 ≤ m → m < 48 → v'.testBit m.toNat = (v.testBit m.toNat || (decide (m = i) && decide (1 ≤ rem a loud (F p q) i)))) → kb (lN v') (z i + 1) g' := by
            intro v' b1 b2
            rw [z_inc]
            refine hk _ _ ⟨fun _ => c3, hf', v', rfl, b1, fun m c1 c2 => ?_⟩
            rw [b2 m c1 c2, hb m c1 c2]
            by_cases e : m = i
            · subst e
              rw [decide_eq_true (by omega : fr ≤ m), decide_eq_true (by omega : m < m + 1), decide_eq_false (by omega : ¬ m < m)]
              simp
            · rw [decide_eq_false e]
              have : decide (m < i + 1) = decide (m < i) := by apply decide_eq_decide.mpr; omega
              rw [this]; simp
          by_cases c4 : rem a loud (F p q) i < 1
          · rw [if_pos (by rw [lg_cmp_lt, zl_1, zl_lt (by omega) (by omega) (by omega) (by omega)]; exact c4)]
            refine nxt v hv (fun m c1 c2 => ?_)
            rw [decide_eq_false (by omega : ¬ 1 ≤ rem a loud (F p q) i)]; simp
          · rw [if_neg (by rw [lg_cmp_lt, zl_1, zl_lt (by omega) (by omega) (by omega) (by omega)]; exact c4)]
            rintro _ rfl
            have p2 : (2 : Nat) ^ i.toNat < 2 ^ 48 := Nat.pow_lt_pow_right (by decide) (by omega)
            rw [show (1 : Int64) = lN 1 from rfl, l_shl (by omega) (by omega), Nat.one_mul, wb_or (by omega) (by omega)]
            refine nxt _ (Nat.or_lt_two_pow hv p2) (fun m c1 c2 => ?_)
            rw [Nat.testBit_or, Nat.testBit_two_pow, decide_eq_true (by omega : 1 ≤ rem a loud (F p q) i)]
            have : decide (i.toNat = m.toNat) = decide (m = i) := by apply decide_eq_decide.mpr; omega
            rw [this]; simp
        · have hi : i = fr := by
            by_cases e : fr < i
            · exact absurd (ht3 e) c3
            · omega
          rw [if_neg c3, if_pos (show z 0 = 0 from rfl)]
          dsimp only
          rw [hi] at hr ⊢
          by_cases c4 : rem a loud (F p q) fr < 1
          · rw [if_pos (by rw [lg_cmp_lt, zl_1, zl_lt (by omega) (by omega) (by omega) (by omega)]; exact c4)]
            refine hq g' 0 hf' (by decide) (fun m c1 c2 => ?_)
            rw [rem_still c3 loud (F p q) m fr, decide_eq_false (by omega : ¬ 1 ≤ rem a loud (F p q) fr), Nat.zero_testBit]; simp
          · rw [if_neg (by rw [lg_cmp_lt, zl_1, zl_lt (by omega) (by omega) (by omega) (by omega)]; exact c4), z_sub, z_inc, l_msk (by omega) (by omega) (by omega)]
            refine hq g' _ hf' (msk_lt (by omega) (by omega) (by omega)) (fun m c1 c2 => ?_)
            rw [rem_still c3 loud (F p q) m fr, decide_eq_true (by omega : 1 ≤ rem a loud (F p q) fr), msk_bit, decide_eq_true c]
            have e1 : decide (fr.toNat ≤ m.toNat) = decide (fr ≤ m) := by apply decide_eq_decide.mpr; omega
            have e2 : decide (m.toNat < fr.toNat + (to - fr + 1).toNat) = decide (m ≤ to) := by apply decide_eq_decide.mpr; omega
            rw [e1, e2]; simp
      cases hlv : lv (nm6 loud (F p q) i 0 0 0) a.fd with
      | none =>
        have er : rem a loud (F p q) i = loud - F p q := by unfold rem; rw [hlv]
        rw [if_pos (show lg_cmp (ey none) (-9223372036854775808) = 0 by rw [lg_cmp_eq]; rfl)]
        rintro _ rfl
        rw [show (z loud - z (F p q)).toInt64 = zl (rem a loud (F p q) i) by rw [z_sub, zl_of (by omega) (by omega), er]]
        exact go
      | some u =>
        have er : rem a loud (F p q) i = u := by unfold rem; rw [hlv]
        rw [er] at hr
        unfold bd at hr
        rw [if_neg (show ¬ lg_cmp (ey (some u)) (-9223372036854775808) = 0 by rw [lg_cmp_eq, zl_err]; show ¬ zl u = _; rw [zl_eq (by omega) (by omega) (by omega) (by omega)]; omega)]
        show w_X0_minutesHeard_72 t w _ Q kb _ _ _ _ _ _ (zl u) g'
        rw [← er]
        exact go
    · rintro kb x g ⟨ht3, hf, v, rfl, hv, hb⟩
      unfold w_X0_minutesHeard_30
      rw [if_pos (by rw [z_lt (by omega) (by omega) (by omega) (by omega)]; omega)]
      refine hq g v hf hv (fun m c1 c2 => ?_)
      rw [hb m c1 c2, decide_eq_true c]
      have : decide (m < to + 1) = decide (m ≤ to) := by apply decide_eq_decide.mpr; omega
      rw [this]; simp
  · rw [if_neg c, if_pos (show z (-2) = -2 from rfl)]
    refine hq h 0 (fun c k _ => At.rf h c k) (by decide) (fun m c1 c2 => ?_)
    rw [decide_eq_false c, Nat.zero_testBit]; simp
