/-! ===== trespasses and silent minutes, by the class ===== -/
theorem sm_split {f : Int → Int} {a : Int} (ha : 0 ≤ a) : ∀ b : Nat, sm f (a + b) = sm f a + sm (fun j => f (a + j)) b
  | 0 => by rw [show a + ((0 : Nat) : Int) = a by omega]; show _ = sm f a + 0; omega
  | b + 1 => by
    rw [show a + ((b + 1 : Nat) : Int) = a + b + 1 by omega, sm_s (by omega), sm_split ha b, show ((b + 1 : Nat) : Int) = (b : Int) + 1 by omega, sm_s (by omega)]
    omega
section QE
variable {h : PH} {w t : Nat} {a : Wd} {F : Int → Int → Int}
theorem x_hasRight {o p m : Int} {Q : Int32 → PH → Prop} (H : WX h w a) (O : OkR a) (ho : -10 ≤ o ∧ o ≤ 10) (hp : 0 ≤ p ∧ p < 6) (hm : 0 ≤ m ∧ m < 48) (h6 : a.n 0 ≤ 6) (hT : hasR a o p m = true → Q 1 h) (hF : hasR a o p m = false → Q 0 h) : w_X8_hasRight w (z o) (z p) (z m) h Q := by
  have O1 := O.1
  have hn := H.n0 5 (by decide)
  unfold w_X8_hasRight
  refine for10 (a.n 5) (fun i g => h = g ∧ ∀ r, 0 ≤ r → r < i → (decide (a.f 5 0 r = o) && decide (a.f 5 1 r = p) && decide (a.f 5 2 r ≤ m) && decide (m ≤ a.f 5 3 r)) = false) 0 rfl (by omega) (by omega) (by omega) ⟨rfl, fun c c1 c2 => by omega⟩ ?_ ?_
  · rintro kb i _ i0 i1 ⟨rfl, hJ⟩ hk
    obtain ⟨o1, o2, o3⟩ := O.2 i i0 i1
    have nxt : (decide (a.f 5 0 i = o) && decide (a.f 5 1 i = p) && decide (a.f 5 2 i ≤ m) && decide (m ≤ a.f 5 3 i)) = false → kb (z i + 1) h := by
      intro hb
      rw [z_inc]
      refine hk _ ⟨rfl, fun c c1 c2 => ?_⟩
      by_cases e : c = i
      · rw [e]; exact hb
      · exact hJ c c1 (by omega)
    unfold w_X8_hasRight_3
    rw [show gI h (w + 11) 3 = z (a.n 5) from hn.1, if_neg (by rw [z_le (by omega) (by omega) (by omega) (by omega)]; omega)]
    refine H.at 5 0 (by decide) rfl (by decide) rfl rfl i0 i1 ?_
    by_cases c0 : a.f 5 0 i = o
    · rw [if_pos (congrArg z c0)]
      refine H.at 5 1 (by decide) rfl (by decide) rfl rfl i0 i1 ?_
      by_cases c1 : a.f 5 1 i = p
      · rw [if_pos (congrArg z c1)]
        refine H.at 5 2 (by decide) rfl (by decide) rfl rfl i0 i1 ?_
        by_cases c2 : m < a.f 5 2 i
        · rw [if_pos (by rw [z_lt (by omega) (by omega) (by omega) (by omega)]; omega)]
          exact nxt (by rw [decide_eq_false (by omega : ¬ a.f 5 2 i ≤ m)]; simp)
        · rw [if_neg (by rw [z_lt (by omega) (by omega) (by omega) (by omega)]; omega)]
          refine H.at 5 3 (by decide) rfl (by decide) rfl rfl i0 i1 ?_
          by_cases c3 : a.f 5 3 i < m
          · rw [if_pos (by rw [z_lt (by omega) (by omega) (by omega) (by omega)]; omega)]
            exact nxt (by rw [decide_eq_false (by omega : ¬ m ≤ a.f 5 3 i)]; simp)
          · rw [if_neg (by rw [z_lt (by omega) (by omega) (by omega) (by omega)]; omega)]
            refine hT ?_
            unfold hasR
            rw [ff_yes i0 i1 (by rw [decide_eq_true c0, decide_eq_true c1, decide_eq_true (by omega : a.f 5 2 i ≤ m), decide_eq_true (by omega : m ≤ a.f 5 3 i)]; rfl) hJ]
            exact decide_eq_true (by omega)
      · rw [if_neg (z_ne (by omega) (by omega) (by omega) (by omega) c1)]
        exact nxt (by rw [decide_eq_false c1]; simp)
    · rw [if_neg (z_ne (by omega) (by omega) (by omega) (by omega) c0)]
      exact nxt (by rw [decide_eq_false c0]; simp)
  · rintro kb _ ⟨rfl, hJ⟩
    unfold w_X8_hasRight_3
    rw [show gI h (w + 11) 3 = z (a.n 5) from hn.1, if_pos (by rw [z_le (by omega) (by omega) (by omega) (by omega)]; omega)]
    refine hF ?_
    unfold hasR
    rw [ff_no hJ]; rfl
theorem x_forbidden {o p m : Int} {Q : Int32 → PH → Prop} (H : WX h w a) (C : CX' h t a) (OC : OkC a) (O : OkR a) (ho : -1 ≤ o ∧ o ≤ 10) (hp : 0 ≤ p ∧ p < 6) (hm : 0 ≤ m ∧ m < 48) (h6 : a.n 0 ≤ 6) (hT : agn a o p m ≠ -1 → agn a o p m = clo a p m → Q 1 h) (hF : agn a o p m = -1 → Q 0 h) : w_X0_isForbidden t w (z o) (z p) (z m) h Q := by
  have b := clo_rg OC p m
  unfold w_X0_isForbidden
  refine x_isSpot hp hm ?_
  rw [if_neg (by decide), zn_48, z_mul, z_add, z_iN (by omega) (by omega), C p m hp.1 hp.2 hm.1 hm.2]
  refine ⟨z_in (by omega) (by omega) (by omega), ?_⟩
  rintro _ rfl
  unfold agn at hT hF
  by_cases c1 : clo a p m = -1
  · rw [if_pos (by rw [c1]; rfl)]
    exact hF (if_pos (Or.inl c1))
  · rw [if_neg (by rw [z_m1]; exact z_ne (by omega) (by omega) (by omega) (by omega) c1)]
    by_cases c2 : clo a p m = o
    · rw [if_pos (congrArg z c2)]
      exact hF (if_pos (Or.inr (Or.inl c2)))
    · rw [if_neg (z_ne (by omega) (by omega) (by omega) (by omega) c2)]
      refine x_hasRight H O (by omega) hp hm h6 (fun c3 => ?_) (fun c3 => ?_)
      · rw [if_neg (by decide)]
        exact hF (if_pos (Or.inr (Or.inr c3)))
      · rw [if_pos rfl]
        have e : (if clo a p m = -1 ∨ clo a p m = o ∨ hasR a o p m = true then -1 else clo a p m) = clo a p m := if_neg (by rw [c3]; simp [c1, c2])
        exact hT (by rw [e]; exact c1) e
theorem x_isTrespass {n p m : Int} {Q : Int32 → PH → Prop} (H : WX h w a) (hH : HX h t a F) (C : CX' h t a) (ON : OkN a) (OC : OkC a) (O : OkR a) (hn : 0 ≤ n ∧ n < a.n 3) (hp : 0 ≤ p ∧ p < a.n 0) (hm : 0 ≤ m ∧ m < 48) (h6 : a.n 0 ≤ 6) (hT : hr a F n p m = true → agn a (a.f 3 1 n) p m ≠ -1 → agn a (a.f 3 1 n) p m = clo a p m → Q 1 h) (hN : ¬ (hr a F n p m = true ∧ agn a (a.f 3 1 n) p m ≠ -1) → Q 0 h) : w_X0_isTrespass t w (z n) (z p) (z m) h Q := by
  obtain ⟨o1, o2, o3, o4, o5⟩ := ON.2 n hn.1 hn.2
  unfold w_X0_isTrespass
  refine x_isHeard hH h6 ON.1.2 hn hp hm (fun c => ?_) (fun c => ?_)
  · rw [if_neg (by decide)]
    refine H.at 3 1 (by decide) rfl (by decide) rfl rfl hn.1 hn.2 ?_
    refine x_forbidden H C OC O (by omega) (by omega) hm h6 (fun c1 c2 => ?_) (fun c1 => ?_)
    · rw [if_neg (by decide)]
      exact hT c c1 c2
    · rw [if_pos rfl]
      exact hN (fun x => x.2 c1)
  · rw [if_pos rfl]
    exact hN (fun x => by rw [c] at x; exact absurd x.1 (by decide))
set_option maxHeartbeats 2000000 in
theorem x_trespasses {by_ on : Int} {Q : Int32 → PH → Prop} (H : WX h w a) (hH : HX h t a F) (C : CX' h t a) (ON : OkN a) (OC : OkC a) (O : OkR a) (h6 : 0 ≤ a.n 0 ∧ a.n 0 ≤ 6) (hb : -1 ≤ by_ ∧ by_ < 4) (ho : -1 ≤ on ∧ on < 4) (hq : Q (z (trs a F by_ on)) h) : w_X0_trespasses t w (z by_) (z on) h Q := by
  have hn3 := H.n0 3 (by decide)
  have ON1 := ON.1
  have hn0 := H.n0 0 (by decide)
  have rg1 : ∀ k : Int, 0 ≤ sm (fun n => tr1 a F by_ on n (k / 48) (k % 48)) (a.n 3) ∧ sm (fun n => tr1 a F by_ on n (k / 48) (k % 48)) (a.n 3) ≤ a.n 3 * 1 := fun k => sm_rg (by omega) (by omega) (fun j _ _ => tr1_rg ..)
  have rg2 : ∀ k : Int, 0 ≤ k → 0 ≤ sm (fun k => sm (fun n => tr1 a F by_ on n (k / 48) (k % 48)) (a.n 3)) k ∧ sm (fun k => sm (fun n => tr1 a F by_ on n (k / 48) (k % 48)) (a.n 3)) k ≤ k * 13 := fun k hk => sm_rg hk (by omega) (fun j _ _ => by have := rg1 j; omega)
  unfold trs at hq
  generalize hG : (fun k => sm (fun n => tr1 a F by_ on n (k / 48) (k % 48)) (a.n 3)) = G at *
  unfold w_X0_trespasses
  refine for21 (48 * a.n 0) (fun k s g => h = g ∧ s = z (sm G k)) 0 rfl (by omega) (by omega) (by omega) ⟨rfl, rfl⟩ ?_ ?_
  · rintro kb k _ _ k0 k1 ⟨rfl, rfl⟩ hk
    have hr2 := rg2 k k0
    have eC := C (k / 48) (k % 48) (by omega) (by omega) (by omega) (by omega)
    rw [show k / 48 * 48 + k % 48 = k by omega] at eC
    have bC := clo_rg OC (k / 48) (k % 48)
    unfold w_X0_trespasses_6
    rw [show gI h (w + 1) 3 = z (a.n 0) from hn0.1, zn_48, z_mul, if_neg (by rw [z_le (by omega) (by omega) (by omega) (by omega)]; omega), zn_288, if_neg (by rw [z_le (by omega) (by omega) (by omega) (by omega)]; omega), z_inc]
    have hGk : G k = sm (fun n => tr1 a F by_ on n (k / 48) (k % 48)) (a.n 3) := by rw [← hG]
    have go : (on = -1 ∨ clo a (k / 48) (k % 48) = on) → ∃ n, Lp2 (w_X0_trespasses_53 t w (fun y6 h5 => kb y6 (z (k + 1)) h5) Q (z by_) (z on) (z k)) n (z (sm G k)) 0 h := by
      intro hon
      refine for21 (a.n 3) (fun n s g => h = g ∧ s = z (sm G k + sm (fun n => tr1 a F by_ on n (k / 48) (k % 48)) n)) 0 rfl (by omega) (by omega) (by omega) ⟨rfl, by rw [sm_0, Int.add_zero]⟩ ?_ ?_
      · rintro kb2 n _ _ n0 n1 ⟨rfl, rfl⟩ hk2
        obtain ⟨o1, o2, o3, o4, o5⟩ := ON.2 n n0 n1
        have fin : ∀ v : Int, v = tr1 a F by_ on n (k / 48) (k % 48) → kb2 (z (sm G k + sm (fun n => tr1 a F by_ on n (k / 48) (k % 48)) n + v)) (z (n + 1)) h := by
          intro v hv
          refine hk2 _ _ ⟨rfl, ?_⟩
          rw [sm_s n0, hv, Int.add_assoc]
        have f0 : tr1 a F by_ on n (k / 48) (k % 48) = 0 → kb2 (z (sm G k + sm (fun n => tr1 a F by_ on n (k / 48) (k % 48)) n)) (z (n + 1)) h := fun e => by
          have := fin 0 e.symm
          rw [Int.add_zero] at this
          exact this
        have f84 : (by_ = -1 ∨ by_ = a.f 3 1 n) → w_X0_trespasses_84 t w Q kb2 (z by_) (z on) (z (sm G k + sm (fun n => tr1 a F by_ on n (k / 48) (k % 48)) n)) (z k) (z n) h := by
          intro hby
          unfold w_X0_trespasses_84 w_X0_trespasses_89
          rw [if_neg (by decide), zn_48, z_div (by omega) (by omega) (by omega) (by omega), z_mul, z_sub, show k - k / 48 * 48 = k % 48 by omega]
          refine x_isTrespass H hH C ON OC O ⟨n0, n1⟩ (by omega) (by omega) h6.2 (fun c1 c2 c3 => ?_) (fun c1 => ?_)
          · rw [if_neg (by decide), z_inc, z_inc]
            refine fin 1 ?_
            unfold tr1
            have hx : on = -1 ∨ on = agn a (a.f 3 1 n) (k / 48) (k % 48) := by
              rcases hon with e | e
              · exact Or.inl e
              · exact Or.inr (by rw [c3, e])
            rw [if_pos ⟨c1, c2, hby, hx⟩]
          · rw [if_pos rfl, z_inc]
            refine f0 ?_
            unfold tr1
            rw [if_neg (fun x => c1 ⟨x.1, x.2.1⟩)]
        unfold w_X0_trespasses_53
        rw [show gI h (w + 7) 3 = z (a.n 3) from hn3.1, if_neg (by rw [z_le (by omega) (by omega) (by omega) (by omega)]; omega)]
        by_cases d : by_ = -1
        · rw [if_pos (show z by_ = -1 by rw [d]; rfl)]
          exact f84 (Or.inl d)
        · rw [if_neg (show ¬ z by_ = -1 from z_ne (by omega) (by omega) (by decide) (by decide) d)]
          refine H.at 3 1 (by decide) rfl (by decide) rfl rfl n0 n1 ?_
          by_cases d2 : a.f 3 1 n = by_
          · rw [if_pos (congrArg z d2)]
            exact f84 (Or.inr d2.symm)
          · rw [if_neg (z_ne (by omega) (by omega) (by omega) (by omega) d2)]
            unfold w_X0_trespasses_89
            rw [if_pos rfl, z_inc]
            refine f0 ?_
            unfold tr1
            rw [if_neg (fun x => by rcases x.2.2.1 with y | y; exact d y; exact d2 y.symm)]
      · rintro kb2 _ _ ⟨rfl, rfl⟩
        unfold w_X0_trespasses_53
        rw [show gI h (w + 7) 3 = z (a.n 3) from hn3.1, if_pos (by rw [z_le (by omega) (by omega) (by omega) (by omega)]; omega)]
        refine hk _ _ ⟨rfl, ?_⟩
        rw [sm_s k0, hGk]
    by_cases d : on = -1
    · rw [if_pos (show z on = -1 by rw [d]; rfl)]
      exact go (Or.inl d)
    · rw [if_neg (show ¬ z on = -1 from z_ne (by omega) (by omega) (by decide) (by decide) d), z_iN (by omega) (by omega), eC]
      refine ⟨z_in (by omega) (by omega) (by omega), ?_⟩
      by_cases d2 : clo a (k / 48) (k % 48) = on
      · rw [if_pos (congrArg z d2)]
        exact go (Or.inr d2)
      · rw [if_neg (z_ne (by omega) (by omega) (by omega) (by omega) d2)]
        refine hk _ _ ⟨rfl, ?_⟩
        have e0 : sm (fun n => tr1 a F by_ on n (k / 48) (k % 48)) (a.n 3) = sm (fun _ => 0) (a.n 3) := by
          apply sm_cong
          intro n n0 n1
          show tr1 a F by_ on n (k / 48) (k % 48) = 0
          unfold tr1
          rw [if_neg]
          intro x
          rcases x.2.2.2 with y | y
          · exact d y
          · have e1 : agn a (a.f 3 1 n) (k / 48) (k % 48) = clo a (k / 48) (k % 48) := by
              have := x.2.1
              unfold agn at this ⊢
              split at this
              · exact absurd rfl this
              · rename_i hh; rw [if_neg hh]
            exact d2 (by rw [← e1]; exact y.symm)
        have e1 : sm (fun _ => (0 : Int)) (a.n 3) = 0 := by
          have := sm_rg (f := fun _ => (0 : Int)) (c := 0) hn3.2.1 (by omega) (fun j _ _ => ⟨by show (0 : Int) ≤ 0; omega, by show (0 : Int) ≤ 0; omega⟩)
          omega
        rw [sm_s k0, hGk, e0, e1, Int.add_zero]
  · rintro kb _ _ ⟨rfl, rfl⟩
    unfold w_X0_trespasses_6
    rw [show gI h (w + 1) 3 = z (a.n 0) from hn0.1, zn_48, z_mul, if_pos (by rw [z_le (by omega) (by omega) (by omega) (by omega)]; omega)]
    exact hq
theorem x_silentMinutes {Q : Int32 → PH → Prop} (S : SX h t a F) (h6 : 0 ≤ a.n 0 ∧ a.n 0 ≤ 6) (hq : Q (z (silAll a F)) h) : w_X0_silentMinutes t h Q := by
  unfold w_X0_silentMinutes
  refine for21 6 (fun p s g => h = g ∧ s = z (sm (sil a F) (48 * min p (a.n 0)))) 0 rfl (by omega) (by omega) (by omega) ⟨rfl, by rw [show 48 * min 0 (a.n 0) = 0 by omega]; rfl⟩ ?_ ?_
  · rintro kb p _ _ p0 p1 ⟨rfl, rfl⟩ hk
    obtain ⟨v, v1, v2, v3⟩ := S p p0 p1
    unfold w_X0_silentMinutes_4
    rw [zn_6, if_neg (by rw [z_le (by omega) (by omega) (by omega) (by omega)]; omega), z_iN (by omega) (by omega), v2]
    refine ⟨z_in (by omega) (by omega) (by omega), ?_⟩
    refine x_bitJ (by omega) ?_
    rintro _ rfl
    rw [z_add, z_inc]
    refine hk _ _ ⟨rfl, ?_⟩
    congr 1
    by_cases c : p < a.n 0
    · rw [show 48 * min (p + 1) (a.n 0) = 48 * min p (a.n 0) + ((48 : Nat) : Int) by omega, sm_split (by omega)]
      congr 1
      apply sm_cong
      intro m m0 m1
      have := v3 m m0 m1
      unfold bc sil
      rw [this, decide_eq_true c, show min p (a.n 0) = p by omega, show (48 * p + m) / 48 = p by omega, show (48 * p + m) % 48 = m by omega]
      simp
    · rw [show min (p + 1) (a.n 0) = min p (a.n 0) by omega]
      have e0 : sm (bc v) 48 = sm (fun _ => 0) 48 := by
        apply sm_cong
        intro m m0 m1
        have := v3 m m0 m1
        unfold bc
        rw [this, decide_eq_false c]; rfl
      have e1 : sm (fun _ => (0 : Int)) 48 = 0 := by decide
      rw [e0, e1, Int.add_zero]
  · rintro kb _ _ ⟨rfl, rfl⟩
    unfold w_X0_silentMinutes_4
    rw [zn_6, if_pos (by rw [z_le (by omega) (by omega) (by omega) (by omega)]; omega)]
    rw [show 48 * min 6 (a.n 0) = 48 * a.n 0 by omega]
    exact hq
end QE
