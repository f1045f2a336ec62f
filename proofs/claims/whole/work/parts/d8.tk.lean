/-! ===== what the lines keep ===== -/
def okw : List Int → Prop
  | [] => True
  | o :: st => (0 ≤ o ∧ o ≤ 13) ∧ okw st
/-- waiting signs that are knots; that join two; that are open -/
def no : List Int → Int
  | [] => 0
  | o :: st => (if o = 13 then 0 else 1) + no st
def njn : List Int → Nat
  | [] => 0
  | o :: st => (if o = 13 ∨ o = 2 then 0 else 1) + njn st
def n13 : List Int → Int
  | [] => 0
  | o :: st => (if o = 13 then 1 else 0) + n13 st
theorem no_rg : ∀ st, 0 ≤ no st ∧ 0 ≤ n13 st ∧ (st.length : Int) = no st + n13 st
  | [] => by
    show 0 ≤ (0 : Int) ∧ 0 ≤ (0 : Int) ∧ ((0 : Nat) : Int) = 0 + 0
    decide
  | o :: st => by
    obtain ⟨a, b, c⟩ := no_rg st
    have e1 : no (o :: st) = (if o = 13 then 0 else 1) + no st := rfl
    have e2 : n13 (o :: st) = (if o = 13 then 1 else 0) + n13 st := rfl
    have e3 : (((o :: st).length : Nat) : Int) = (st.length : Int) + 1 := by simp
    rw [e1, e2, e3]
    split <;> omega
theorem rk_rg (o : Int) : 0 ≤ rk o ∧ rk o ≤ 6 := by
  unfold rk
  repeat' split
  all_goals omega
theorem rk_13 {o : Int} (h : 0 ≤ o ∧ o ≤ 13) (r : rk o < 1) : o = 13 := by
  unfold rk at r
  repeat' split at r
  all_goals omega
theorem rk_n13 {o : Int} (r : 1 ≤ rk o) (h : o ≤ 13) : o ≤ 12 := by
  unfold rk at r
  repeat' split at r
  all_goals omega
theorem jsg_rg (k v : Int) : jsg k v = -1 ∨ ((0 ≤ jsg k v ∧ jsg k v ≤ 12) ∧ jsg k v ≠ 2) := by
  unfold jsg
  repeat' split
  all_goals omega
theorem dpt_app (k : Int) : ∀ (ks : List Int) (d : Nat), dpt (ks ++ [k]) d = (dpt ks d).bind (fun e => dpt [k] e)
  | [], _ => rfl
  | x :: ks, d => by
    show dpt (x :: (ks ++ [k])) d = _
    rw [dpt_c, dpt_c, dpt_app k ks, dpt_app k ks, dpt_app k ks]
    repeat' split
    all_goals rfl
theorem dpt_app' {k : Int} {ks : List Int} {d : Nat} (h : dpt ks 0 = some d) : dpt (ks ++ [k]) 0 = dpt [k] d := by rw [dpt_app, h]; rfl
theorem dpt_1 (k : Int) (d : Nat) : dpt [k] d = if -10 < k then some (d + 1) else if k = -12 then (if 1 ≤ d then some d else none) else if 2 ≤ d then some (d - 1) else none := rfl
theorem kok_app {ks : List Int} {k : Int} (h : ∀ x ∈ ks, kok x) (hk : kok k) : ∀ x ∈ ks ++ [k], kok x := fun x hx => by
  rcases List.mem_append.mp hx with y | y
  · exact h x y
  · rw [List.mem_singleton.mp y]; exact hk
theorem rl_all {r : Int} (hr : 1 ≤ r) : ∀ (st out : List Int), okw st → (no (rlS r st) + ((rlO r st out).length : Int) = no st + (out.length : Int)) ∧ n13 (rlS r st) = n13 st ∧ okw (rlS r st) ∧ top (rlS r st) < r ∧ (dpt out 0 = some (njn st + 1) → dpt (rlO r st out) 0 = some (njn (rlS r st) + 1)) ∧ ((∀ k ∈ out, kok k) → ∀ k ∈ rlO r st out, kok k)
  | [], out, _ => by
    refine ⟨rfl, rfl, trivial, ?_, fun x => x, fun x => x⟩
    show (0 : Int) < r
    omega
  | o :: st, out, ⟨ho, hw⟩ => by
    have eS : rlS r (o :: st) = if r ≤ rk o then rlS r st else o :: st := rfl
    have eO : rlO r (o :: st) out = if r ≤ rk o then rlO r st (out ++ [-10 - o]) else out := rfl
    rw [eS, eO]
    by_cases c : r ≤ rk o
    · rw [if_pos c, if_pos c]
      have o12 := rk_n13 (o := o) (by omega) ho.2
      obtain ⟨i1, i2, i3, i4, i5, i6⟩ := rl_all hr st (out ++ [-10 - o]) hw
      have e1 : no (o :: st) = (if o = 13 then 0 else 1) + no st := rfl
      have e2 : n13 (o :: st) = (if o = 13 then 1 else 0) + n13 st := rfl
      have e3 : (((out ++ [-10 - o]).length : Nat) : Int) = (out.length : Int) + 1 := by simp
      have e4 : njn (o :: st) = (if o = 13 ∨ o = 2 then 0 else 1) + njn st := rfl
      rw [e1, e2, e4, if_neg (by omega), if_neg (by omega)]
      refine ⟨by omega, by omega, i3, i4, fun x => i5 ?_, fun x => i6 (kok_app x (Or.inr (Or.inr (by omega))))⟩
      rw [dpt_app' x, dpt_1, if_neg (by omega)]
      by_cases c2 : o = 2
      · rw [if_pos (by omega), if_pos (by omega), if_pos (by omega)]
        congr 1
        omega
      · rw [if_neg (by omega), if_pos (by rw [if_neg (by omega)]; omega), if_neg (by omega)]
        congr 1
        omega
    · rw [if_neg c, if_neg c]
      refine ⟨rfl, rfl, ⟨ho, hw⟩, ?_, fun x => x, fun x => x⟩
      show rk o < r
      omega
/-- only open ones are left, or none -/
theorem rl_one {st out : List Int} (w : okw st) : (rlS 1 st = [] ∧ n13 st = 0) ∨ ∃ u, rlS 1 st = 13 :: u := by
  obtain ⟨i1, i2, i3, i4, -⟩ := rl_all (r := 1) (by omega) st out w
  generalize rlS 1 st = v at *
  cases v with
  | nil => exact Or.inl ⟨rfl, i2.symm⟩
  | cons o u =>
    refine Or.inr ⟨u, ?_⟩
    rw [rk_13 i3.1 i4]
theorem nx_lt {T : Int → Int} {L p : Int} (hT : ∀ k, 0 ≤ T k ∧ T k < 256) (hp : 0 ≤ p ∧ p ≤ L) (h : tK T L p ≠ 0) : p < tE T L p ∧ tE T L p ≤ L := by
  have := tok_rg (T := T) hT hp
  omega
def SyI (fr : Int) (b : Bool) (st : List Int) (o c : Int) (out : List Int) : Prop := okw st ∧ n13 st = o ∧ c = fr + out.length + no st ∧ c ≤ 64 ∧ dpt out 0 = some (njn st + if b = true then 1 else 0) ∧ ∀ k ∈ out, kok k
theorem isS_iff {T : Int → Int} {L p v : Int} : isS T L p v = true ↔ tK T L p = 5 ∧ tV T L p = v := by
  unfold isS
  rw [Bool.and_eq_true, decide_eq_true_eq, decide_eq_true_eq]
theorem isWd_iff {T : Int → Int} {L p v : Int} : isWd T L p v = true ↔ tK T L p = 4 ∧ tV T L p = v := by
  unfold isWd
  rw [Bool.and_eq_true, decide_eq_true_eq, decide_eq_true_eq]
theorem SyI.push {fr o c : Int} {st out : List Int} {j : Int} (I : SyI fr true st o c out) (hj : (0 ≤ j ∧ j ≤ 12) ∧ j ≠ 2) (hc : c < 64) {r : Int} (hr : 1 ≤ r) : SyI fr false (j :: rlS r st) o (c + 1) (rlO r st out) := by
  obtain ⟨s1, s2, s3, s4, s5, s6⟩ := I
  obtain ⟨i1, i2, i3, i4, i5, i6⟩ := rl_all hr st out s1
  have e1 : no (j :: rlS r st) = (if j = 13 then 0 else 1) + no (rlS r st) := rfl
  have e2 : n13 (j :: rlS r st) = (if j = 13 then 1 else 0) + n13 (rlS r st) := rfl
  have e4 : njn (j :: rlS r st) = (if j = 13 ∨ j = 2 then 0 else 1) + njn (rlS r st) := rfl
  refine ⟨⟨by omega, i3⟩, ?_, ?_, by omega, ?_, i6 s6⟩
  · rw [e2, if_neg (by omega)]; omega
  · rw [e1, if_neg (by omega)]; omega
  · rw [e4, if_neg (by omega), i5 s5]
    congr 1
    show njn (rlS r st) + 1 = 1 + njn (rlS r st) + 0
    omega
theorem SyI.name {fr o c : Int} {st out : List Int} {k : Int} (I : SyI fr false st o c out) (hk : kok k) (k10 : -10 < k) (hc : c < 64) : SyI fr true st o (c + 1) (out ++ [k]) := by
  obtain ⟨s1, s2, s3, s4, s5, s6⟩ := I
  have e3 : (((out ++ [k]).length : Nat) : Int) = (out.length : Int) + 1 := by simp
  refine ⟨s1, s2, by omega, by omega, ?_, kok_app s6 hk⟩
  rw [dpt_app' s5, dpt_1, if_pos k10]
  rfl
theorem SyI.opn {fr o c : Int} {st out : List Int} (I : SyI fr false st o c out) : SyI fr false (13 :: st) (o + 1) c out := by
  obtain ⟨s1, s2, s3, s4, s5, s6⟩ := I
  have e1 : no (13 :: st) = 0 + no st := rfl
  have e2 : n13 (13 :: st) = 1 + n13 st := rfl
  have e4 : njn (13 :: st) = 0 + njn st := rfl
  exact ⟨⟨by omega, s1⟩, by omega, by omega, s4, by rw [e4, Nat.zero_add]; exact s5, s6⟩
theorem SyI.not {fr o c : Int} {st out : List Int} (I : SyI fr false st o c out) (hc : c < 64) : SyI fr false (2 :: st) o (c + 1) out := by
  obtain ⟨s1, s2, s3, s4, s5, s6⟩ := I
  have e1 : no (2 :: st) = 1 + no st := rfl
  have e2 : n13 (2 :: st) = 0 + n13 st := rfl
  have e4 : njn (2 :: st) = 0 + njn st := rfl
  exact ⟨⟨by omega, s1⟩, by omega, by omega, by omega, by rw [e4, Nat.zero_add]; exact s5, s6⟩
theorem SyI.shut {fr o c : Int} {st out : List Int} (I : SyI fr true st o c out) (ho : 0 < o) : SyI fr true (rlS 1 st).tail (o - 1) c (rlO 1 st out) ∧ ∃ u, rlS 1 st = 13 :: u := by
  obtain ⟨s1, s2, s3, s4, s5, s6⟩ := I
  obtain ⟨i1, i2, i3, i4, i5, i6⟩ := rl_all (r := 1) (by omega) st out s1
  rcases rl_one (out := out) s1 with x | ⟨u, x⟩
  · omega
  · rw [x] at i1 i2 i3 i5 ⊢
    have e1 : no (13 :: u) = 0 + no u := rfl
    have e2 : n13 (13 :: u) = 1 + n13 u := rfl
    have e4 : njn (13 :: u) = 0 + njn u := rfl
    rw [e1] at i1
    rw [e2] at i2
    rw [e4, Nat.zero_add] at i5
    exact ⟨⟨i3.2, by show n13 u = o - 1; omega, by show c = fr + _ + no u; omega, s4, i5 s5, i6 s6⟩, u, rfl⟩
theorem sy_ok {T : Int → Int} {L : Int} (hT : ∀ k, 0 ≤ T k ∧ T k < 256) {fr : Int} {out' : List Int} {c' q : Int} : ∀ (n : Nat) (b : Bool) (st : List Int) (o c : Int) (out : List Int) (p : Int), 0 ≤ p ∧ p ≤ L → SyI fr b st o c out → sy T L n b st o c out p = .inr (out', c', q) → (dpt out' 0 = some 1 ∧ (∀ k ∈ out', kok k) ∧ c' = fr + out'.length ∧ c' ≤ 64) ∧ (p ≤ q ∧ q ≤ L) ∧ tK T L q = 5
  | 0, b, st, o, c, out, p, hp, I, e => by cases b <;> exact absurd e (by intro x; cases x)
  | n + 1, false, st, o, c, out, p, hp, I, e => by
    have tr := tok_rg (T := T) hT hp
    unfold sy at e
    by_cases c1 : isS T L p 40 = true
    · rw [if_pos c1] at e
      have k1 := (isS_iff.mp c1).1
      split at e
      · have := sy_ok hT n _ _ _ _ _ _ (by omega) I.opn e
        exact ⟨this.1, by omega, this.2.2⟩
      · cases e
    rw [if_neg c1] at e
    by_cases c2 : isWd T L p 17 = true ∧ top st ≤ 3
    · rw [if_pos c2] at e
      have k1 := (isWd_iff.mp c2.1).1
      split at e
      · rename_i hc
        have := sy_ok hT n _ _ _ _ _ _ (by omega) (I.not hc) e
        exact ⟨this.1, by omega, this.2.2⟩
      · cases e
    rw [if_neg c2] at e
    by_cases c3 : tK T L p = 4 ∧ 18 ≤ tV T L p
    · rw [if_pos c3] at e
      split at e
      · rename_i hc
        have := sy_ok hT n _ _ _ _ _ _ (by omega) (I.name (k := -1 - (tV T L p - 18)) (Or.inr (Or.inl (by omega))) (by omega) hc) e
        exact ⟨this.1, by omega, this.2.2⟩
      · cases e
    rw [if_neg c3] at e
    by_cases c4 : tK T L p = 2
    · rw [if_pos c4] at e
      split at e
      · rename_i hc
        have := sy_ok hT n _ _ _ _ _ _ (by omega) (I.name (k := tV T L p) (Or.inl (by omega)) (by omega) hc.1) e
        exact ⟨this.1, by omega, this.2.2⟩
      · cases e
    rw [if_neg c4] at e
    cases e
  | n + 1, true, st, o, c, out, p, hp, I, e => by
    have tr := tok_rg (T := T) hT hp
    unfold sy at e
    by_cases c1 : isS T L p 59 = true ∧ o = 0
    · rw [if_pos c1] at e
      injection e with e
      injection e with e1 e2
      injection e2 with e2 e3
      subst e1 e2 e3
      obtain ⟨s1, s2, s3, s4, s5, s6⟩ := I
      obtain ⟨i1, i2, i3, i4, i5, i6⟩ := rl_all (r := 1) (by omega) st out s1
      rcases rl_one (out := out) s1 with x | ⟨u, x⟩
      · rw [x.1] at i1 i5
        refine ⟨⟨i5 s5, i6 s6, ?_, s4⟩, by omega, (isS_iff.mp c1.1).1⟩
        replace i1 : 0 + ((rlO 1 st out).length : Int) = no st + (out.length : Int) := i1
        omega
      · rw [x] at i2
        replace i2 : 1 + n13 u = n13 st := i2
        have := no_rg u
        omega
    rw [if_neg c1] at e
    by_cases c2 : isS T L p 41 = true ∧ 0 < o
    · rw [if_pos c2] at e
      have k1 := (isS_iff.mp c2.1).1
      have := sy_ok hT n _ _ _ _ _ _ (by omega) (I.shut c2.2).1 e
      exact ⟨this.1, by omega, this.2.2⟩
    rw [if_neg c2] at e
    by_cases c3 : jsg (tK T L p) (tV T L p) = -1
    · rw [if_pos c3] at e
      cases e
    rw [if_neg c3] at e
    have jr := jsg_rg (tK T L p) (tV T L p)
    have k0 : tK T L p ≠ 0 := fun x => c3 (by unfold jsg; rw [if_neg (by omega), if_neg (by omega)])
    generalize jsg (tK T L p) (tV T L p) = j at *
    have hj := jr.resolve_left c3
    by_cases c4 : rk j = 4
    · rw [if_pos c4] at e
      split at e
      · cases e
      · split at e
        · rename_i hc
          have := sy_ok hT n _ _ _ _ _ _ (by omega) (I.push hj hc (by omega)) e
          exact ⟨this.1, by omega, this.2.2⟩
        · cases e
    · rw [if_neg c4] at e
      split at e
      · rename_i hc
        have r1 : 1 ≤ rk j := by
          rcases Int.lt_or_le (rk j) 1 with x | x
          · have := rk_13 (o := j) (by omega) x
            omega
          · exact x
        have := sy_ok hT n _ _ _ _ _ _ (by omega) (I.push hj hc r1) e
        exact ⟨this.1, by omega, this.2.2⟩
      · cases e
