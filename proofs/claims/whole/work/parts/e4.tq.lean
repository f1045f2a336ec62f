/-! ===== the reader of the class: a law's E ===== -/
section OPER
variable {h g : PH} {v t n : Nat} {T : Int → Int} {L q k o c fr : Int} {s : PS} {st out : List Int} {r0 : SR}
theorem TcX.of (t0 : TcX h T L q) (e : ∀ b, At h g 3 b) : TcX g T L q := by
  obtain ⟨a1, a2, a3, m, a4, a5⟩ := t0
  exact ⟨by rw [(e 3).1]; exact a1, by rw [(e 5).1]; exact a2, by rw [(e 4).1]; exact a3, m, by rw [(e 6).1]; exact a4, a5⟩
theorem x_faulty {Q : Int32 → PH → Prop} {x : Int32} {kk : Int} (R : RdS h v T L s) (t0 : TcX h T L q) (ex : x = z kk) (hF : ∀ g, Fa v h g kk (tS T L q) → Q 0 g) : w_X5_faulty x h Q := by
  unfold w_X5_faulty
  exact x_refuse R ex t0.2.1 hF
theorem SyI.nums (I : SyI fr false st o c out) : okw st ∧ 0 ≤ o ∧ (st.length : Int) = no st + o ∧ 0 ≤ no st ∧ c = fr + out.length + no st ∧ c ≤ 64 := by
  obtain ⟨i1, i2, i3, i4, -⟩ := I
  have := no_rg st
  exact ⟨i1, by omega, by omega, by omega, i3, i4⟩
theorem SyI.nums' (I : SyI fr true st o c out) : okw st ∧ 0 ≤ o ∧ (st.length : Int) = no st + o ∧ 0 ≤ no st ∧ c = fr + out.length + no st ∧ c ≤ 64 := by
  obtain ⟨i1, i2, i3, i4, -⟩ := I
  have := no_rg st
  exact ⟨i1, by omega, by omega, by omega, i3, i4⟩
theorem x_operand {Q : Int32 → PH → Prop} (hk : (k = 0 ∧ t = v + 15) ∨ (k = 1 ∧ t = v + 19)) (W : LwX h v T L s k st o c out) (I : SyI fr false st o c out) (ho : o ≤ 8) (hfr : 0 ≤ fr) (t0 : TcX h T L q) (hp : 0 ≤ q ∧ q ≤ L) (e0 : sy T L (n + 1) false st o c out q = r0)
    (hF : ∀ g kk, r0 = .inl (kk, tS T L q) → Fa v h g kk (tS T L q) → Q 0 g)
    (hT : tK T L q ≠ 0 → ∀ g b st' o' c' out', sy T L n b st' o' c' out' (tE T L q) = r0 → SyI fr b st' o' c' out' → o' ≤ 8 → LwX g v T L s k st' o' c' out' → Fr v h g → gI g 3 3 = z (tE T L q) → Q (z (if b = true then 2 else 1)) g) : w_X5_readOperand t h Q := by
  have hv := W.1.1
  have hTT := W.1.2.2.1.2.2.2.2.1
  obtain ⟨n1, n2, n3, n4, n5, n6⟩ := I.nums
  have tr := tok_rg (T := T) hTT hp
  have kc := W.1.2.2.2.2.2
  replace kc : gI h 2 6 = z c := kc
  have tq := t0
  obtain ⟨u1, u2, u3, m, u4, u5⟩ := t0
  have vbad : ∀ kk : Int, r0 = pF T L kk q → ∀ g, Fa v h g kk (tS T L q) → Q 0 g := fun kk er g F => hF g kk er F
  unfold sy at e0
  -- the last: a name or a number
  have rest : isS T L q 40 = false → ¬ (isWd T L q 17 = true ∧ top st ≤ 3) → w_X5_readOperand_67 t Q h := fun c1 c2 => by
    rw [if_neg (by rw [c1]; decide), if_neg c2] at e0
    have add2 : ∀ x : Int32, ∀ kn : Int, tK T L q ≠ 0 → c < 64 → x = z kn → kok kn → -10 < kn → sy T L n true st o (c + 1) (out ++ [kn]) (tE T L q) = r0 → ∀ h7, h7 = sI h 2 6 (z (c + 1)) → w_X1_add t x h7 (fun h8 => Q 2 h8) := fun x kn kq hc ex hkn k10 er => by
      rintro _ rfl
      refine x_ladd hk W.knot (by omega) ex hkn (fun g2 W2 f2 => ?_)
      exact hT kq g2 true _ _ _ _ er (I.name hkn k10 hc) ho W2 (fun a b hab => ((At.rf h a b).sI (by unfold rdC at hab; omega)).tr (f2 a b (by unfold rdC at hab; omega))) (by rw [(f2 3 3 (by omega)).1, gI_out (by omega)]; exact u1)
    unfold w_X5_readOperand_67 w_X5_readOperand_68
    by_cases k4 : tK T L q = 4
    · have em : m = tV T L q := u5.2 (by omega)
      have tv := tr.2.2.2.2.2.2.2.1 k4
      rw [u3, if_pos (by rw [k4]; rfl), u4, show (18 : Int32) = z 18 from rfl]
      by_cases k18 : m < 18
      · rw [if_pos (by rw [z_lt (by omega) (by omega) (by omega) (by omega)]; omega)]
        rw [if_neg (by omega), if_neg (by omega)] at e0
        unfold w_X5_readOperand_96 w_X5_readOperand_97
        rw [if_pos rfl, if_pos rfl, u3, if_neg (show ¬ z (tK T L q) = 2 from z_ne (b := 2) (by omega) (by omega) (by decide) (by decide) (by omega))]
        exact x_faulty (kk := 1) W.1 tq rfl (vbad 1 e0.symm)
      · rw [if_neg (by rw [z_lt (by omega) (by omega) (by omega) (by omega)]; omega)]
        rw [if_pos ⟨k4, by omega⟩] at e0
        unfold w_X5_readOperand_97
        rw [if_pos rfl, if_neg (by decide)]
        unfold w_X5_readOperand_123
        rw [kc, zn_64]
        by_cases hc : c < 64
        · rw [if_pos hc] at e0
          rw [if_neg (by rw [z_le (by omega) (by omega) (by omega) (by omega)]; omega), if_pos rfl, if_neg (by decide)]
          unfold w_X5_readOperand_159
          rw [kc, z_inc]
          have A := add2 (-1 - (z m - 18)) (-1 - (tV T L q - 18)) (by omega) hc (by rw [show (18 : Int32) = z 18 from rfl, show (-1 : Int32) = z (-1) from rfl, z_sub, z_sub, em]) (Or.inr (Or.inl (by omega))) (by omega) e0
          rintro _ rfl
          rw [if_pos rfl, if_neg (by decide), gI_out (by omega), u4]
          exact A _ rfl
        · rw [if_neg hc] at e0
          rw [if_pos (by rw [z_le (by omega) (by omega) (by omega) (by omega)]; omega)]
          unfold w_X5_readOperand_153
          exact x_faulty (kk := 2) W.1 tq rfl (vbad 2 e0.symm)
    · rw [u3, if_neg (show ¬ z (tK T L q) = 4 from z_ne (by omega) (by omega) (by decide) (by decide) k4)]
      rw [if_neg (fun x => k4 x.1)] at e0
      unfold w_X5_readOperand_96 w_X5_readOperand_97
      rw [if_pos rfl, if_pos rfl, u3]
      by_cases k2 : tK T L q = 2
      · have em := u5.1 k2
        have tv := tr.2.2.2.2.2.1 k2
        rw [if_pos (by rw [k2]; rfl)]
        rw [if_pos k2] at e0
        unfold w_X5_readOperand_123
        rw [kc, zn_64]
        by_cases hc : c < 64
        · rw [if_neg (by rw [z_le (by omega) (by omega) (by omega) (by omega)]; omega), if_pos rfl, if_pos rfl, u4, zn_9999]
          by_cases hm : m ≤ 9999
          · rw [if_pos (by rw [z_le (by omega) (by omega) (by omega) (by omega)]; omega)]
            rw [if_pos ⟨hc, by omega⟩] at e0
            unfold w_X5_readOperand_159
            rw [kc, z_inc]
            have A := add2 (z m) (tV T L q) (by omega) hc (by congr 1; omega) (Or.inl (by omega)) (by omega) e0
            rintro _ rfl
            rw [if_pos rfl, if_pos rfl, gI_out (by omega), u4]
            exact A _ rfl
          · rw [if_neg (by rw [z_le (by omega) (by omega) (by omega) (by omega)]; omega)]
            rw [if_neg (by omega)] at e0
            unfold w_X5_readOperand_153
            exact x_faulty (kk := 2) W.1 tq rfl (vbad 2 e0.symm)
        · rw [if_pos (by rw [z_le (by omega) (by omega) (by omega) (by omega)]; omega)]
          rw [if_neg (fun x => hc x.1)] at e0
          unfold w_X5_readOperand_153
          exact x_faulty (kk := 2) W.1 tq rfl (vbad 2 e0.symm)
      · rw [if_neg (show ¬ z (tK T L q) = 2 from z_ne (by omega) (by omega) (by decide) (by decide) k2)]
        rw [if_neg k2] at e0
        exact x_faulty (kk := 1) W.1 tq rfl (vbad 1 e0.symm)
  unfold w_X5_readOperand
  refine x_isSgn tq hTT hp (n := 40) rfl (by omega) ?_
  cases c1 : isS T L q 40 with
  | true =>
    rw [if_neg (show ¬ z (bI true) = 0 by decide), W.2.2.2, zn_8]
    rw [if_pos c1] at e0
    by_cases o8 : o < 8
    · rw [if_pos (by rw [z_lt (by omega) (by omega) (by omega) (by omega)]; omega)]
      rw [if_pos o8] at e0
      rintro _ rfl
      rw [z_inc]
      refine x_hold (j := 13) W.opens (by omega) rfl (fun g2 W2 f2 => ?_)
      exact hT (by have := (isS_iff.mp c1).1; omega) g2 false _ _ _ _ e0 I.opn (by omega) W2 (fun a b hab => ((At.rf h a b).sI (by unfold rdC at hab; omega)).tr (f2 a b (by unfold rdC at hab; omega))) (by rw [(f2 3 3 (by omega)).1, gI_out (by omega)]; exact u1)
    · rw [if_neg (by rw [z_lt (by omega) (by omega) (by omega) (by omega)]; omega)]
      rw [if_neg o8] at e0
      exact x_faulty (kk := 2) W.1 tq rfl (vbad 2 e0.symm)
  | false =>
    rw [if_pos (show z (bI false) = 0 from rfl)]
    refine x_isWrd tq hTT hp (n := 17) rfl (by omega) ?_
    cases c2 : isWd T L q 17 with
    | false =>
      rw [if_pos (show z (bI false) = 0 from rfl)]
      exact rest c1 (by rw [c2]; exact fun x => absurd x.1 (by decide))
    | true =>
      rw [if_neg (show ¬ z (bI true) = 0 by decide)]
      unfold w_X5_notMayStand
      refine x_lastRank W n1 (by omega) ?_
      refine ⟨(z_in (a := 2) (by decide) (by decide) (by decide) : vp_in (z 2) 14), ?_⟩
      have rt : 0 ≤ top st ∧ top st ≤ 6 := by
        cases st with
        | nil => decide
        | cons a u => exact rk_rg a
      rw [show sRANKS (iN 2) = z 3 by decide]
      by_cases c3 : 3 < top st
      · rw [if_pos (by rw [z_lt (by omega) (by omega) (by omega) (by omega)]; omega)]
        show (if (0 : Int32) = 0 then w_X5_readOperand_67 t Q h else w_X5_readOperand_68 t Q 1 h)
        rw [if_pos rfl]
        exact rest c1 (fun x => by omega)
      · rw [if_neg (by rw [z_lt (by omega) (by omega) (by omega) (by omega)]; omega)]
        show (if (1 : Int32) = 0 then w_X5_readOperand_67 t Q h else w_X5_readOperand_68 t Q 1 h)
        rw [if_neg (by decide)]
        have w4 := isWd_iff.mp c2
        rw [if_neg (by rw [c1]; decide), if_pos ⟨c2, by omega⟩] at e0
        have em : m = tV T L q := u5.2 (by omega)
        unfold w_X5_readOperand_68
        rw [u3, if_pos (by rw [w4.1]; rfl), u4, show (18 : Int32) = z 18 from rfl, if_pos (by rw [z_lt (by omega) (by omega) (by omega) (by omega)]; omega)]
        unfold w_X5_readOperand_96 w_X5_readOperand_97
        rw [if_neg (by decide)]
        unfold w_X5_readOperand_123
        rw [kc, zn_64]
        by_cases hc : c < 64
        · rw [if_neg (by rw [z_le (by omega) (by omega) (by omega) (by omega)]; omega), if_neg (by decide)]
          rw [if_pos hc] at e0
          unfold w_X5_readOperand_159
          rintro _ rfl
          rw [if_neg (by decide), kc, z_inc]
          refine x_hold (j := 2) W.knot (by omega) rfl (fun g2 W2 f2 => ?_)
          exact hT (by omega) g2 false _ _ _ _ e0 (I.not hc) ho W2 (fun a b hab => ((At.rf h a b).sI (by unfold rdC at hab; omega)).tr (f2 a b (by unfold rdC at hab; omega))) (by rw [(f2 3 3 (by omega)).1, gI_out (by omega)]; exact u1)
        · rw [if_pos (by rw [z_le (by omega) (by omega) (by omega) (by omega)]; omega)]
          rw [if_neg hc] at e0
          unfold w_X5_readOperand_153
          exact x_faulty (kk := 2) W.1 tq rfl (vbad 2 e0.symm)
theorem x_joinSign {Q : Int32 → PH → Prop} (t0 : TcX h T L q) (hTT : ∀ k, 0 ≤ T k ∧ T k < 256) (hp : 0 ≤ q ∧ q ≤ L) (hq : Q (z (jsg (tK T L q) (tV T L q))) h) : w_X5_joinSign h Q := by
  have tr := tok_rg (T := T) hTT hp
  unfold jsg at hq
  unfold w_X5_joinSign
  refine x_isWrd t0 hTT hp (n := 15) rfl (by omega) ?_
  cases c1 : isWd T L q 15 with
  | true =>
    have w := isWd_iff.mp c1
    rw [if_neg (show ¬ z (bI true) = 0 by decide)]
    rw [if_pos w.1, if_pos w.2] at hq
    exact hq
  | false =>
    rw [if_pos (show z (bI false) = 0 from rfl)]
    refine x_isWrd t0 hTT hp (n := 16) rfl (by omega) ?_
    have n1 : ¬ (tK T L q = 4 ∧ tV T L q = 15) := fun x => by rw [isWd_iff.mpr x] at c1; exact absurd c1 (by decide)
    cases c2 : isWd T L q 16 with
    | true =>
      have w := isWd_iff.mp c2
      rw [if_neg (show ¬ z (bI true) = 0 by decide)]
      rw [if_pos w.1, if_neg (by omega), if_pos w.2] at hq
      exact hq
    | false =>
      rw [if_pos (show z (bI false) = 0 from rfl)]
      have n2 : ¬ (tK T L q = 4 ∧ tV T L q = 16) := fun x => by rw [isWd_iff.mpr x] at c2; exact absurd c2 (by decide)
      obtain ⟨u1, u2, u3, m, u4, u5⟩ := t0
      rw [u3]
      unfold w_X5_joinSign_50
      by_cases k5 : tK T L q = 5
      · rw [if_pos (by rw [k5]; rfl), u4]
        rw [if_neg (by omega), if_pos k5] at hq
        have em : m = tV T L q := u5.2 (by omega)
        have tv := tr.2.2.2.2.2.2.2.2 k5
        rw [← em] at hq tv
        have step : ∀ {b : Int} {x : Int32} {A B : Prop}, x = z b → (0 ≤ b ∧ b < 1000) → (m = b → A) → (¬ m = b → B) → if z m = x then A else B := fun {b x A B} ex hb ha hb' => by
          subst ex
          by_cases e : m = b
          · rw [if_pos (by rw [e])]; exact ha e
          · rw [if_neg (z_ne (by omega) (by omega) (by omega) (by omega) e)]; exact hb' e
        refine step (b := 42) rfl (by omega) (fun e => by rw [if_pos e] at hq; exact hq) (fun e => ?_)
        rw [if_neg e] at hq
        refine step (b := 43) rfl (by omega) (fun e => by rw [if_pos e] at hq; exact hq) (fun e => ?_)
        rw [if_neg e] at hq
        refine step (b := 45) rfl (by omega) (fun e => by rw [if_pos e] at hq; exact hq) (fun e => ?_)
        rw [if_neg e] at hq
        refine step (b := 47) rfl (by omega) (fun e => by rw [if_pos e] at hq; exact hq) (fun e => ?_)
        rw [if_neg e] at hq
        refine step (b := 60) rfl (by omega) (fun e => by rw [if_pos e] at hq; exact hq) (fun e => ?_)
        rw [if_neg e] at hq
        refine step (b := 61) rfl (by omega) (fun e => by rw [if_pos e] at hq; exact hq) (fun e => ?_)
        rw [if_neg e] at hq
        refine step (b := 62) rfl (by omega) (fun e => by rw [if_pos e] at hq; exact hq) (fun e => ?_)
        rw [if_neg e] at hq
        refine step (b := 256) rfl (by omega) (fun e => by rw [if_pos e] at hq; exact hq) (fun e => ?_)
        rw [if_neg e] at hq
        refine step (b := 257) rfl (by omega) (fun e => by rw [if_pos e] at hq; exact hq) (fun e => ?_)
        rw [if_neg e] at hq
        refine step (b := 258) rfl (by omega) (fun e => by rw [if_pos e] at hq; exact hq) (fun e => ?_)
        rw [if_neg e] at hq
        exact hq
      · rw [if_neg (show ¬ z (tK T L q) = 5 from z_ne (by omega) (by omega) (by decide) (by decide) k5)]
        have hq' : Q (z (-1)) h := by
          by_cases k4 : tK T L q = 4
          · rw [if_pos k4, if_neg (by omega), if_neg (by omega)] at hq; exact hq
          · rw [if_neg k4, if_neg k5] at hq; exact hq
        rw [if_neg (by decide), if_neg (by decide), if_neg (by decide), if_neg (by decide), if_neg (by decide), if_neg (by decide), if_neg (by decide), if_neg (by decide), if_neg (by decide), if_neg (by decide)]
        exact hq'
theorem x_join {Q : Int32 → PH → Prop} (hk : (k = 0 ∧ t = v + 15) ∨ (k = 1 ∧ t = v + 19)) (W : LwX h v T L s k st o c out) (I : SyI fr true st o c out) (ho : o ≤ 8) (hfr : 0 ≤ fr) (t0 : TcX h T L q) (hp : 0 ≤ q ∧ q ≤ L) (hne : ¬ (isS T L q 59 = true ∧ o = 0)) (e0 : sy T L (n + 1) true st o c out q = r0)
    (hF : ∀ g kk, r0 = .inl (kk, tS T L q) → Fa v h g kk (tS T L q) → Q 0 g)
    (hT : tK T L q ≠ 0 → ∀ g b st' o' c' out', sy T L n b st' o' c' out' (tE T L q) = r0 → SyI fr b st' o' c' out' → o' ≤ 8 → LwX g v T L s k st' o' c' out' → Fr v h g → gI g 3 3 = z (tE T L q) → Q (z (if b = true then 2 else 1)) g) : w_X5_readJoin t h Q := by
  have hv := W.1.1
  have hTT := W.1.2.2.1.2.2.2.2.1
  obtain ⟨n1, n2, n3, n4, n5, n6⟩ := I.nums'
  have n13o := I.2.1
  have u1 := t0.1
  unfold sy at e0
  rw [if_neg hne] at e0
  have rest : ¬ (isS T L q 41 = true ∧ 0 < o) → w_X5_readJoin_47 t Q h := fun c1 => by
    rw [if_neg c1] at e0
    unfold w_X5_readJoin_47
    refine x_joinSign t0 hTT hp ?_
    have jr := jsg_rg (tK T L q) (tV T L q)
    have kq : jsg (tK T L q) (tV T L q) ≠ -1 → tK T L q ≠ 0 := fun y x => y (by unfold jsg; rw [if_neg (by omega), if_neg (by omega)])
    generalize jsg (tK T L q) (tV T L q) = j at *
    by_cases j1 : j = -1
    · rw [if_pos (by rw [j1]; rfl)]
      rw [if_pos j1] at e0
      exact x_faulty (kk := 1) W.1 t0 rfl (fun g F => hF g 1 e0.symm F)
    · have hj := jr.resolve_left j1
      have r1 : 1 ≤ rk j := by
        rcases Int.lt_or_le (rk j) 1 with x | x
        · have := rk_13 (o := j) (by omega) x
          omega
        · exact x
      have r6 := rk_rg j
      rw [if_neg (show ¬ z j = -1 from z_ne (by omega) (by omega) (by decide) (by decide) j1), rk_at (o := j) (by omega)]
      rw [if_neg j1] at e0
      refine ⟨z_in (by omega) (by omega) (by omega), ?_⟩
      rintro _ rfl
      -- one more knot, and the sign waits
      have push : ∀ r : Int, (1 ≤ r ∧ r ≤ 7) → ∀ g, LwX g v T L s k (rlS r st) o c (rlO r st out) → (∀ a b, ¬ (a = t ∨ a = t + 1 ∨ (a = 2 ∧ b = 4)) → At h g a b) → (if c < 64 then sy T L n false (j :: rlS r st) o (c + 1) (rlO r st out) (tE T L q) else pF T L 2 q) = r0 → w_X5_readJoin_105 t Q (z j) g := fun r hr g W1 f1 er => by
        have t1 : TcX g T L q := t0.of (fun b => f1 3 b (by omega))
        obtain ⟨l1, l2, l3, -⟩ := rl_all (r := r) hr.1 st out n1
        have l4 := no_rg (rlS r st)
        have Fg : Fr v h g := fun a b hab => f1 a b (by unfold rdC at hab; omega)
        have kc := W1.1.2.2.2.2.2
        replace kc : gI g 2 6 = z c := kc
        unfold w_X5_readJoin_105
        rw [kc, zn_64]
        by_cases hc : c < 64
        · rw [if_pos (by rw [z_lt (by omega) (by omega) (by omega) (by omega)]; omega)]
          rw [if_pos hc] at er
          rintro _ rfl
          rw [z_inc]
          refine x_hold (j := j) W1.knot (by omega) rfl (fun g2 W2 f2 => ?_)
          exact hT (kq j1) g2 false _ _ _ _ er (I.push hj hc hr.1) ho W2 (Fg.tr (fun a b hab => ((At.rf g a b).sI (by unfold rdC at hab; omega)).tr (f2 a b (by unfold rdC at hab; omega)))) (by rw [(f2 3 3 (by omega)).1, gI_out (by omega)]; exact t1.1)
        · rw [if_neg (by rw [z_lt (by omega) (by omega) (by omega) (by omega)]; omega)]
          rw [if_neg hc] at er
          exact x_faulty (kk := 2) W1.1 t1 rfl (fun g2 F => hF g2 2 er.symm (Fa.tr Fg F))
      by_cases c4 : rk j = 4
      · rw [if_pos (by rw [c4]; rfl)]
        rw [if_pos c4] at e0
        unfold w_X5_readJoin_83
        rw [z_inc]
        refine x_release (r := 5) hk W n1 (by omega) (by omega) (by rw [c4]; rfl) (by omega) (fun g W1 f1 => ?_)
        have t1 : TcX g T L q := t0.of (fun b => f1 3 b (by omega))
        have Fg : Fr v h g := fun a b hab => f1 a b (by clear jr hj j1 r1 r6 n2 n3 n4 n5 n6 n13o; unfold rdC at hab; omega)
        obtain ⟨l1, l2, l3, l5, -⟩ := rl_all (r := 5) (by omega) st out n1
        have l4 := no_rg (rlS 5 st)
        have lo : 0 ≤ top (rlS 5 st) := by
          cases rlS 5 st with
          | nil => decide
          | cons a u => exact (rk_rg a).1
        rw [if_pos (by rw [c4]; rfl)]
        refine x_lastRank W1 l3 (by omega) ?_
        by_cases ct : top (rlS 5 st) = 4
        · rw [if_pos (by rw [ct]; rfl)]
          rw [if_pos ct] at e0
          exact x_faulty (kk := 1) W1.1 t1 rfl (fun g2 F => hF g2 1 e0.symm (Fa.tr Fg F))
        · rw [if_neg (show ¬ z (top (rlS 5 st)) = 4 from z_ne (by omega) (by omega) (by decide) (by decide) ct)]
          rw [if_neg ct] at e0
          exact push 5 (by omega) g W1 f1 e0
      · rw [if_neg (show ¬ z (rk j) = 4 from z_ne (by omega) (by omega) (by decide) (by decide) c4)]
        rw [if_neg c4] at e0
        unfold w_X5_readJoin_83
        refine x_release (r := rk j) hk W n1 (by omega) (by omega) rfl (by omega) (fun g W1 f1 => ?_)
        rw [if_neg (show ¬ z (rk j) = 4 from z_ne (by omega) (by omega) (by decide) (by decide) c4)]
        exact push (rk j) (by omega) g W1 f1 e0
  unfold w_X5_readJoin
  refine x_isSgn t0 hTT hp (n := 41) rfl (by omega) ?_
  cases c1 : isS T L q 41 with
  | false =>
    rw [if_pos (show z (bI false) = 0 from rfl)]
    exact rest (by rw [c1]; exact fun x => absurd x.1 (by decide))
  | true =>
    rw [if_neg (show ¬ z (bI true) = 0 by decide), W.2.2.2, zn_0]
    by_cases o0 : 0 < o
    · rw [if_neg (by rw [z_le (by omega) (by omega) (by omega) (by omega)]; omega)]
      rw [if_pos ⟨c1, o0⟩] at e0
      refine x_release (r := 1) hk W n1 (by omega) (by omega) rfl (by omega) (fun g W1 f1 => ?_)
      rintro _ rfl _ rfl
      obtain ⟨I', u, eu⟩ := I.shut o0
      rw [eu] at W1
      have el : (((13 :: u : List Int).length : Nat) : Int) = (u.length : Int) + 1 := by simp
      have W2 : LwX (sI (sI g 2 4 (gI g 2 4 - 1)) 2 5 (gI (sI g 2 4 (gI g 2 4 - 1)) 2 5 - 1)) v T L s k u (o - 1) c (rlO 1 st out) := by
        have fr2 : ∀ a b, ¬ (a = 2 ∧ (b = 4 ∨ b = 5)) → At g (sI (sI g 2 4 (gI g 2 4 - 1)) 2 5 (gI (sI g 2 4 (gI g 2 4 - 1)) 2 5 - 1)) a b := fun a b hab => ((At.rf g a b).sI (by omega)).sI (by omega)
        refine ⟨W1.1.at' (fun a b hab => fr2 a b (by unfold stC at hab; omega)), ?_, wtk_cong (fun b _ => (fr2 7 b (by omega)).1) W1.2.2.1.2, ?_⟩
        · rw [gI_out (by omega), gI_in rfl rfl, W1.2.1, el, zn_1, z_sub]
          congr 1
          omega
        · rw [gI_in rfl rfl, gI_out (by omega), W1.2.2.2, zn_1, z_sub]
      rw [eu] at I' e0
      refine hT (by have := (isS_iff.mp c1).1; omega) _ true _ _ _ _ e0 I' (by omega) W2 (fun a b hab => ((f1 a b (by unfold rdC at hab; omega)).sI (by unfold rdC at hab; omega)).sI (by unfold rdC at hab; omega)) ?_
      rw [gI_out (by omega), gI_out (by omega), (f1 3 3 (by omega)).1]
      exact u1
    · rw [if_pos (by rw [z_le (by omega) (by omega) (by omega) (by omega)]; omega)]
      exact rest (fun x => o0 x.2)
end OPER
