section LAB
variable {t : Int → Int → Bool} {S : Int}
theorem lab_lt {i k : Int} (hk : 0 ≤ k ∧ k < S) (hi : fsp t S k < i) (h0 : 0 ≤ i) (hF : fsp t S i = i) : lab t S k < lab t S i := by
  have a := fsp_at (t := t) hk.1 hk.2
  have hself : isF t S (fsp t S k) = true := by
    unfold isF
    apply decide_eq_true
    obtain ⟨b1, b2, b3, b4⟩ := fsp_at (t := t) a.1 (by omega : fsp t S k < S)
    have : ¬ fsp t S (fsp t S k) < fsp t S k := fun x => a.2.2.2 _ b1 x (con_tr b3 a.2.2.1)
    omega
  have e := cn_s (f := isF t S) (i := fsp t S k) a.1
  rw [hself, if_pos rfl] at e
  have := cn_le (f := isF t S) (i := fsp t S k + 1) (j := i) (by omega) (by omega)
  unfold lab
  rw [hF]
  omega
/-- marked spans of the i-th span's piece -/
noncomputable def mrk (t : Int → Int → Bool) (S i : Int) (M : Int → Bool) (k : Int) : Int := if M k = true then lab t S i else labA t S i k
/-- marks that are right so far -/
def MkO (t : Int → Int → Bool) (S i : Int) (M : Int → Bool) : Prop := M i = true ∧ ∀ k, M k = true → (0 ≤ k ∧ k < S) ∧ con t S i k
theorem mk_1 {i k : Int} {M : Int → Bool} (sy : ∀ i j, t i j = t j i) (hi : 0 ≤ i ∧ i < S) (hF : fsp t S i = i) (O : MkO t S i M) (h : M k = true) : fsp t S k = i := by
  obtain ⟨hk, hc⟩ := O.2 k h
  rw [← fsp_eq sy hi hk hc, hF]
/-- a closed set of marks is the piece -/
theorem mk_all {i : Int} {M : Int → Bool} (sy : ∀ i j, t i j = t j i) (hi : 0 ≤ i ∧ i < S) (hF : fsp t S i = i) (O : MkO t S i M) (cl : ∀ c k, M c = true → 0 ≤ k → k < S → t c k = true → mrk t S i M k ≠ -1) : ∀ k, 0 ≤ k → k < S → mrk t S i M k = labA t S (i + 1) k := by
  have reach : ∀ (n : Nat) (k : Int), 0 ≤ k → k < S → conN t S n i k → M k = true := by
    intro n
    induction n with
    | zero => intro k _ _ h; have e : i = k := h; rw [← e]; exact O.1
    | succ n ih =>
      rintro k k0 k1 ⟨c, hc, c0, ht⟩
      have hm := ih c c0.1 c0.2 hc
      have := cl c k hm k0 k1 ht
      cases hb : M k with
      | true => rfl
      | false =>
        exfalso
        have e : fsp t S k = i := by rw [← fsp_eq sy hi ⟨k0, k1⟩ (con_st ⟨n, hc⟩ c0 ht), hF]
        apply this
        unfold mrk labA
        rw [hb, if_neg (by decide), if_neg (by omega)]
  intro k k0 k1
  have fa := fsp_at (t := t) k0 k1
  unfold mrk labA
  cases hb : M k with
  | true =>
    have e := mk_1 sy hi hF O hb
    rw [if_pos rfl, if_pos (by omega)]
    unfold lab
    rw [e, hF]
  | false =>
    rw [if_neg (by decide)]
    by_cases c : fsp t S k < i
    · rw [if_pos c, if_pos (by omega)]
    · rw [if_neg c]
      by_cases c2 : fsp t S k < i + 1
      · exfalso
        have e : fsp t S k = i := by omega
        rw [e] at fa
        obtain ⟨n, hn⟩ := fa.2.2.1
        rw [reach n k k0 k1 hn] at hb
        exact absurd hb (by decide)
      · rw [if_neg c2]
theorem mk_add {i c k : Int} {M : Int → Bool} (O : MkO t S i M) (hc : M c = true) (hk : 0 ≤ k ∧ k < S) (ht : t c k = true) : MkO t S i (fun j => M j || decide (j = k)) := by
  obtain ⟨o1, o2⟩ := O
  refine ⟨by show (M i || _) = true; rw [o1]; rfl, fun j hj => ?_⟩
  have hj' : (M j || decide (j = k)) = true := hj
  rw [Bool.or_eq_true, decide_eq_true_eq] at hj'
  rcases hj' with x | x
  · exact o2 j x
  · rw [x]
    obtain ⟨c0, hcon⟩ := o2 c hc
    exact ⟨hk, con_st hcon c0 ht⟩
theorem mk_v {i k : Int} {M : Int → Bool} : mrk t S i (fun j => M j || decide (j = k)) k = lab t S i := by
  unfold mrk
  show (if (M k || decide (k = k)) = true then _ else _) = _
  rw [decide_eq_true rfl, Bool.or_true, if_pos rfl]
theorem mk_o {i k j : Int} {M : Int → Bool} (h : j ≠ k) : mrk t S i (fun j => M j || decide (j = k)) j = mrk t S i M j := by
  unfold mrk
  show (if (M j || decide (j = k)) = true then _ else _) = _
  rw [decide_eq_false h, Bool.or_false]
/-- spans without a piece as yet -/
noncomputable def una (t : Int → Int → Bool) (S i : Int) (M : Int → Bool) : Int := cn (fun k => decide (mrk t S i M k = -1)) S
theorem una_rg {i : Int} {M : Int → Bool} (h : 0 ≤ S) : 0 ≤ una t S i M ∧ una t S i M ≤ S := by
  have := cn_rg (fun k => decide (mrk t S i M k = -1)) h
  unfold una; omega
theorem cn_drop {f g : Int → Bool} {c : Int} (h0 : 0 ≤ c) (h : ∀ j, j ≠ c → g j = f j) (hf : f c = true) (hg : g c = false) : ∀ n : Nat, c < n → cn f n = cn g n + 1
  | 0, hn => by omega
  | n + 1, hn => by
    rw [show ((n + 1 : Nat) : Int) = (n : Int) + 1 by omega, cn_s (by omega), cn_s (by omega)]
    by_cases e : c = n
    · have e2 : cn f n = cn g n := sm_cong (fun j j0 j1 => by
        show (if f j = true then (1 : Int) else 0) = if g j = true then 1 else 0
        rw [h j (by omega)])
      rw [e2, ← e, hf, hg, if_pos rfl, if_neg (by decide)]; omega
    · rw [cn_drop h0 h hf hg n (by omega), h n (fun x => e x.symm)]; omega
theorem una_s {i k : Int} {M : Int → Bool} (hi : 0 ≤ i ∧ i < S) (hk : 0 ≤ k ∧ k < S) (hm : mrk t S i M k = -1) : una t S i M = una t S i (fun j => M j || decide (j = k)) + 1 := by
  have v := lab_rg (t := t) hi.1 hi.2
  have := cn_drop (f := fun j => decide (mrk t S i M j = -1)) (g := fun j => decide (mrk t S i (fun j => M j || decide (j = k)) j = -1)) (c := k) hk.1 (fun j hj => by rw [mk_o hj]) (decide_eq_true hm) (decide_eq_false (by rw [mk_v]; omega)) S.toNat (by omega)
  rw [show ((S.toNat : Nat) : Int) = S by omega] at this
  exact this
theorem una_0 {i k : Int} {M : Int → Bool} (h : una t S i M ≤ 0) (hk : 0 ≤ k ∧ k < S) : mrk t S i M k ≠ -1 := by
  intro e
  have h1 := cn_s (f := fun k => decide (mrk t S i M k = -1)) (i := k) hk.1
  rw [decide_eq_true e, if_pos rfl] at h1
  have h2 := cn_le (f := fun k => decide (mrk t S i M k = -1)) (i := k + 1) (j := S) (by omega) (by omega)
  have h3 := cn_rg (fun k => decide (mrk t S i M k = -1)) (n := k) hk.1
  unfold una at h
  omega
end LAB
noncomputable def pcN (a : Wd) : Int := cn (isF (tch a) (spS a)) (spS a)
/-- rows of spans with their pieces -/
def SpA (h : PH) (a : Wd) (A : Int → Int) : Prop := Rw h 113 4 144 (spS a) ∧ ∀ j, 0 ≤ j → j < spS a → gI h 114 (j * 4 + 0).toNat = z (spP a j) ∧ gI h 114 (j * 4 + 1).toNat = z (spF a j) ∧ gI h 114 (j * 4 + 2).toNat = z (spT a j) ∧ gI h 114 (j * 4 + 3).toNat = z (A j)
def BsX (h : PH) (a : Wd) : Prop := ∀ p : Int, 0 ≤ p → p < 6 → ∀ q : Nat, q < 32 → bt (gI h 117 p.toNat) q = besB a p q
section JOINX
variable {h : PH} {w : Nat} {a : Wd}
theorem SpA.at' {g : PH} {A : Int → Int} (S : SpA h a A) (e : ∀ c k, c = 113 ∨ c = 114 → At h g c k) : SpA g a A := ⟨S.1.at' (fun k => e 113 k (Or.inl rfl)), fun j j0 j1 => by rw [(e 114 _ (Or.inr rfl)).1, (e 114 _ (Or.inr rfl)).1, (e 114 _ (Or.inr rfl)).1, (e 114 _ (Or.inr rfl)).1]; exact S.2 j j0 j1⟩
theorem SpA.ext {A B : Int → Int} (S : SpA h a A) (e : ∀ j, 0 ≤ j → j < spS a → B j = A j) : SpA h a B := ⟨S.1, fun j j0 j1 => by rw [e j j0 j1]; exact S.2 j j0 j1⟩
theorem SpA.put {A : Int → Int} {k v : Int} (S : SpA h a A) (k0 : 0 ≤ k) (k1 : k < spS a) : SpA (sI h 114 (k * 4 + 3).toNat (z v)) a (fun j => if j = k then v else A j) := by
  have F : ∀ c k', ¬ (c = 114) → At h (sI h 114 (k * 4 + 3).toNat (z v)) c k' := fun c k' hc => (At.rf h c k').sI (by omega)
  refine ⟨S.1.at' (fun k' => F 113 k' (by omega)), fun j j0 j1 => ?_⟩
  obtain ⟨q0, q1, q2, q3⟩ := S.2 j j0 j1
  refine ⟨by rw [gI_out (by omega)]; exact q0, by rw [gI_out (by omega)]; exact q1, by rw [gI_out (by omega)]; exact q2, ?_⟩
  show _ = z (if j = k then v else A j)
  by_cases e : j = k
  · rw [if_pos e, e, gI_in rfl rfl]
  · rw [if_neg e, gI_out (by omega)]; exact q3
theorem x_touch {Q : Int32 → PH → Prop} {A : Int → Int} {i j : Int} (S : SpA h a A) (B : BsX h a) (h6 : 0 ≤ a.n 0 ∧ a.n 0 ≤ 6) (hi : 0 ≤ i ∧ i < spS a) (hj : 0 ≤ j ∧ j < spS a) (hq : Q (z (bI (tch a i j))) h) : w_X3_touch (z i) (z j) h Q := by
  obtain ⟨⟨i1, i2⟩, i3, i4, i5⟩ := sp_rg h6.1 hi.1 hi.2
  obtain ⟨⟨j1, j2⟩, j3, j4, j5⟩ := sp_rg h6.1 hj.1 hj.2
  obtain ⟨R, V⟩ := S
  obtain ⟨a0, a1, a2, _⟩ := V i hi.1 hi.2
  obtain ⟨b0, b1, b2, _⟩ := V j hj.1 hj.2
  have eb := B (spP a i) i1 (by omega) (spP a j).toNat (by omega)
  rw [show (((spP a j).toNat : Nat) : Int) = spP a j by omega] at eb
  have no : tch a i j = false → Q 0 h := fun e => by rw [e] at hq; exact hq
  unfold w_X3_touch
  refine x_at R rfl (c := 0) rfl hi.1 hi.2 (by omega) (by omega) ?_
  rw [a0, zn_0, zn_6, if_neg (by rw [z_lt (by omega) (by omega) (by omega) (by omega)]; omega), if_neg (by rw [z_le (by omega) (by omega) (by omega) (by omega)]; omega), z_iN (a := spP a i) (by omega) (by omega)]
  refine ⟨z_in (by omega) (by omega) (by omega), ?_⟩
  refine x_at R rfl (c := 0) rfl hj.1 hj.2 (by omega) (by omega) ?_
  rw [b0, bitI j1 (by omega), eb]
  cases hb : besB a (spP a i) (spP a j) with
  | false =>
    rw [if_neg (show ¬ z (if false = true then (1 : Int) else 0) = 1 by decide)]
    exact no (by unfold tch; rw [hb]; simp)
  | true =>
    rw [if_pos (show z (if true = true then (1 : Int) else 0) = 1 from rfl)]
    refine x_at R rfl (c := 1) rfl hi.1 hi.2 (by omega) (by omega) ?_
    rw [a1]
    refine x_at R rfl (c := 2) rfl hj.1 hj.2 (by omega) (by omega) ?_
    rw [b2]
    by_cases c1 : spT a j < spF a i
    · rw [if_pos (by rw [z_lt (by omega) (by omega) (by omega) (by omega)]; omega)]
      exact no (by unfold tch; rw [decide_eq_false (by omega)]; rfl)
    · rw [if_neg (by rw [z_lt (by omega) (by omega) (by omega) (by omega)]; omega)]
      refine x_at R rfl (c := 1) rfl hj.1 hj.2 (by omega) (by omega) ?_
      rw [b1]
      refine x_at R rfl (c := 2) rfl hi.1 hi.2 (by omega) (by omega) ?_
      rw [a2]
      by_cases c2 : spT a i < spF a j
      · rw [if_pos (by rw [z_lt (by omega) (by omega) (by omega) (by omega)]; omega)]
        exact no (by unfold tch; rw [decide_eq_false (by omega : ¬ spF a j ≤ spT a i)]; simp)
      · rw [if_neg (by rw [z_lt (by omega) (by omega) (by omega) (by omega)]; omega)]
        have e : tch a i j = true := by unfold tch; rw [hb, decide_eq_true (by omega), decide_eq_true (by omega)]; rfl
        rw [e] at hq
        exact hq
/-- what is reached, with marks -/
def RcX (h : PH) (a : Wd) (i many : Int) (M : Int → Bool) (R : Int → Int) : Prop := SpA h a (mrk (tch a) (spS a) i M) ∧ (∀ j : Int, 0 ≤ j → j < many → gI h 118 j.toNat = z (R j) ∧ M (R j) = true) ∧ (∀ k, M k = true → ∃ j, (0 ≤ j ∧ j < many) ∧ R j = k) ∧ MkO (tch a) (spS a) i M ∧ 1 ≤ many ∧ many + una (tch a) (spS a) i M ≤ spS a
theorem x_spread {Q : PH → Prop} {i : Int} (S : SpA h a (labA (tch a) (spS a) i)) (B : BsX h a) (h6 : 0 ≤ a.n 0 ∧ a.n 0 ≤ 6) (hi : 0 ≤ i ∧ i < spS a) (hF : fsp (tch a) (spS a) i = i) (hq : ∀ g, (∀ c k, ¬ (c = 114 ∨ c = 118) → At h g c k) → SpA g a (labA (tch a) (spS a) (i + 1)) → Q g) : w_X3_spread (z i) (z (lab (tch a) (spS a) i)) h Q := by
  have sr := spS_rg h6
  have sy : ∀ i j, tch a i j = tch a j i := fun i j => tch_sy
  have vr := lab_rg (t := tch a) hi.1 hi.2
  unfold w_X3_spread
  rintro _ rfl
  have F0 : ∀ c k, ¬ (c = 118) → At h (sI h 118 (iN 0) (z i)) c k := fun c k hc => (At.rf h c k).sI (by omega)
  have S1 : SpA (sI h 118 (iN 0) (z i)) a (labA (tch a) (spS a) i) := S.at' (fun c k hc => F0 c k (by omega))
  refine x_put S1.1 rfl (c := 3) rfl hi.1 hi.2 (by omega) (by omega) ?_
  have S2 := S1.put (k := i) (v := lab (tch a) (spS a) i) hi.1 hi.2
  have F1 : ∀ c k, ¬ (c = 114 ∨ c = 118) → At h (sI (sI h 118 (iN 0) (z i)) (113 + 1) (i * 4 + 3).toNat (z (lab (tch a) (spS a) i))) c k := fun c k hc => (F0 c k (by omega)).sI (by omega)
  have g118 : gI (sI (sI h 118 (iN 0) (z i)) (113 + 1) (i * 4 + 3).toNat (z (lab (tch a) (spS a) i))) 118 0 = z i := by rw [gI_out (by omega), iN_0, gI_in rfl rfl]
  have S3 : SpA (sI (sI h 118 (iN 0) (z i)) (113 + 1) (i * 4 + 3).toNat (z (lab (tch a) (spS a) i))) a (mrk (tch a) (spS a) i (fun j => decide (j = i))) := S2.ext (fun j j0 j1 => by
    show mrk (tch a) (spS a) i (fun j => decide (j = i)) j = if j = i then lab (tch a) (spS a) i else labA (tch a) (spS a) i j
    unfold mrk
    by_cases e : j = i
    · rw [if_pos e, if_pos (decide_eq_true e)]
    · rw [if_neg e, if_neg (show ¬ decide (j = i) = true by rw [decide_eq_false e]; decide)])
  generalize sI (sI h 118 (iN 0) (z i)) (113 + 1) (i * 4 + 3).toNat (z (lab (tch a) (spS a) i)) = g0 at *
  have C0 : RcX g0 a i 1 (fun j => decide (j = i)) (fun _ => i) := by
    refine ⟨S3, fun j j0 j1 => ⟨by rw [show j.toNat = 0 by omega]; exact g118, decide_eq_true rfl⟩, fun k hk => ⟨0, by omega, (of_decide_eq_true hk).symm⟩, ⟨decide_eq_true rfl, fun k hk => ?_⟩, by omega, ?_⟩
    · rw [of_decide_eq_true hk]; exact ⟨hi, con_rf i⟩
    · have e1 : mrk (tch a) (spS a) i (fun _ => false) i = -1 := by
        unfold mrk labA
        rw [if_neg (show ¬ ((fun _ => false : Int → Bool) i) = true from fun x => Bool.noConfusion x), hF, if_neg (by omega)]
      have u := una_s (t := tch a) (S := spS a) (M := fun _ => false) hi hi e1
      have u0 := una_rg (t := tch a) (S := spS a) (i := i) (M := fun _ => false) sr.1
      have e2 : (fun j => ((fun _ => false : Int → Bool) j || decide (j = i))) = fun j => decide (j = i) := by funext j; rfl
      rw [e2] at u
      omega
  have bound : ∀ (g : PH) (many : Int) (M : Int → Bool) (R : Int → Int), RcX g a i many M R → 1 ≤ many ∧ many ≤ spS a := fun g many M R hR => by
    have u0 := una_rg (t := tch a) (S := spS a) (i := i) (M := M) sr.1
    have := hR.2.2.2.2
    omega
  refine for21 144 (fun x y g => ∃ many M R, y = z many ∧ x ≤ many ∧ (∀ c k, ¬ (c = 114 ∨ c = 118) → At h g c k) ∧ RcX g a i many M R ∧ ∀ j, 0 ≤ j → j < x → ∀ k, 0 ≤ k → k < spS a → tch a (R j) k = true → mrk (tch a) (spS a) i M k ≠ -1) 0 rfl (by omega) (by omega) (by omega) ⟨1, _, _, rfl, by omega, F1, C0, fun j j0 j1 => by omega⟩ ?_ ?_
  · clear S1 S2 S3 F0 F1 g118 C0 S g0
    rintro kb x _ g x0 x1 ⟨many, M, R, rfl, hxm, hf, hR, hcl⟩ hk
    have bm := bound g many M R hR
    unfold w_X3_spread_25
    by_cases c0 : many ≤ x
    · rw [if_pos (by rw [z_le (by omega) (by omega) (by omega) (by omega)]; omega)]
      have hO := hR.2.2.2.1
      refine hq g hf (hR.1.ext (fun k k0 k1 => (mk_all sy hi hF hO (fun c k hc k0 k1 ht => ?_) k k0 k1).symm))
      obtain ⟨j, j0, rfl⟩ := hR.2.2.1 c hc
      exact hcl j j0.1 (by omega) k k0 k1 ht
    · rw [if_neg (by rw [z_le (by omega) (by omega) (by omega) (by omega)]; omega), zn_144, if_neg (by rw [z_le (by omega) (by omega) (by omega) (by omega)]; omega)]
      rintro _ rfl
      rw [z_inc, z_inc]
      refine for21 (spS a) (fun k0 y g => ∃ many M R, y = z many ∧ x < many ∧ (∀ c k, ¬ (c = 114 ∨ c = 118) → At h g c k) ∧ RcX g a i many M R ∧ (∀ j, 0 ≤ j → j < x → ∀ k, 0 ≤ k → k < spS a → tch a (R j) k = true → mrk (tch a) (spS a) i M k ≠ -1) ∧ ∀ k, i < k → k < k0 → tch a (R x) k = true → mrk (tch a) (spS a) i M k ≠ -1) (i + 1) rfl (by omega) (by omega) (by omega) ⟨many, M, R, rfl, by omega, hf, hR, hcl, fun k d0 d1 => by omega⟩ ?_ ?_
      · clear hR hcl hf bm c0 hxm g many M R
        rintro kb2 k0 _ g k00 k01 ⟨many, M, R, rfl, hxm, hf, hR, hcl, hin⟩ hk2
        have bm := bound g many M R hR
        obtain ⟨RS, R1, R2, RO, R3, R4⟩ := hR
        have u0 := una_rg (t := tch a) (S := spS a) (i := i) (M := M) sr.1
        have rx := R1 x x0 hxm
        have rxr := RO.2 (R x) rx.2
        unfold w_X3_spread_44
        rw [RS.1.2.2.1, if_neg (by rw [z_le (by omega) (by omega) (by omega) (by omega)]; omega), zn_144, z_inc]
        by_cases c1 : 144 ≤ many
        · rw [if_pos (by rw [z_le (by omega) (by omega) (by omega) (by omega)]; omega)]
          refine hk _ g ⟨many, M, R, rfl, by omega, hf, ⟨RS, R1, R2, RO, R3, R4⟩, fun j j0 j1 k d0 d1 _ => una_0 (by omega) ⟨d0, d1⟩⟩
        · rw [if_neg (by rw [z_le (by omega) (by omega) (by omega) (by omega)]; omega)]
          refine x_at RS.1 rfl (c := 3) rfl (by omega) k01 (by omega) (by omega) ?_
          obtain ⟨_, _, _, q3⟩ := RS.2 k0 (by omega) k01
          have nx : (tch a (R x) k0 = true → mrk (tch a) (spS a) i M k0 ≠ -1) → kb2 (z many) (z (k0 + 1)) g := fun hh => hk2 _ g ⟨many, M, R, rfl, hxm, hf, ⟨RS, R1, R2, RO, R3, R4⟩, hcl, fun k d0 d1 ht => by
            by_cases e : k = k0
            · rw [e] at ht ⊢; exact hh ht
            · exact hin k d0 (by omega) ht⟩
          have mr : -1 ≤ mrk (tch a) (spS a) i M k0 ∧ mrk (tch a) (spS a) i M k0 ≤ 144 := by
            have l1 := lab_rg (t := tch a) (S := spS a) (k := k0) (by omega) k01
            unfold mrk labA
            split
            · omega
            · split <;> omega
          show (if gI g (113 + 1) (k0 * 4 + 3).toNat = -1 then _ else _)
          rw [show gI g (113 + 1) (k0 * 4 + 3).toNat = z (mrk (tch a) (spS a) i M k0) from q3]
          by_cases c2 : mrk (tch a) (spS a) i M k0 = -1
          · rw [if_pos (show z (mrk (tch a) (spS a) i M k0) = -1 by rw [c2]; rfl), z_iN (a := x) (by omega) (by omega), rx.1]
            refine ⟨z_in (by omega) (by omega) (by omega), ?_⟩
            have Bg : BsX g a := fun p p0 p1 q hq => by rw [(hf 117 _ (by omega)).1]; exact B p p0 p1 q hq
            refine x_touch RS Bg h6 rxr.1 ⟨by omega, k01⟩ ?_
            cases hb : tch a (R x) k0 with
            | false =>
              rw [if_pos (show z (bI false) = 0 from rfl)]
              exact nx (fun e => by rw [hb] at e; exact absurd e (by decide))
            | true =>
              rw [if_neg (show ¬ z (bI true) = 0 by decide)]
              refine x_put RS.1 rfl (c := 3) rfl (by omega) k01 (by omega) (by omega) ?_
              have P1 := RS.put (k := k0) (v := lab (tch a) (spS a) i) (by omega) k01
              rw [z_iN (a := many) (by omega) (by omega), z_inc]
              refine ⟨z_in (by omega) (by omega) (by omega), ?_⟩
              rintro _ rfl
              have us := una_s (t := tch a) (S := spS a) (M := M) hi ⟨by omega, k01⟩ c2
              have F5 : ∀ c k, ¬ (c = 114 ∨ c = 118) → At g (sI (sI g (113 + 1) (k0 * 4 + 3).toNat (z (lab (tch a) (spS a) i))) 118 many.toNat (z k0)) c k := fun c k hc => ((At.rf g c k).sI (by omega)).sI (by omega)
              have mono : ∀ k, mrk (tch a) (spS a) i M k ≠ -1 → mrk (tch a) (spS a) i (fun j => M j || decide (j = k0)) k ≠ -1 := fun k hne => by
                by_cases e : k = k0
                · rw [e, mk_v]; omega
                · rw [mk_o e]; exact hne
              refine hk2 _ _ ⟨many + 1, fun j => M j || decide (j = k0), fun j => if j = many then k0 else R j, rfl, by omega, fun c k hc => (hf c k hc).tr (F5 c k hc), ⟨?_, fun j j0 j1 => ?_, fun k hk => ?_, mk_add RO rx.2 ⟨by omega, k01⟩ hb, by omega, by omega⟩, fun j j0 j1 k d0 d1 ht => ?_, fun k d0 d1 ht => ?_⟩
              · refine SpA.ext (A := fun j => if j = k0 then lab (tch a) (spS a) i else mrk (tch a) (spS a) i M j) ?_ (fun j j0 j1 => ?_)
                · exact P1.at' (fun c k hc => (At.rf _ c k).sI (by omega))
                · show _ = if j = k0 then lab (tch a) (spS a) i else mrk (tch a) (spS a) i M j
                  by_cases e : j = k0
                  · rw [if_pos e, e, mk_v]
                  · rw [if_neg e, mk_o e]
              · show _ = z (if j = many then k0 else R j) ∧ (M (if j = many then k0 else R j) || decide ((if j = many then k0 else R j) = k0)) = true
                by_cases e : j = many
                · rw [if_pos e, e, gI_in rfl rfl, decide_eq_true rfl, Bool.or_true]
                  exact ⟨rfl, rfl⟩
                · rw [if_neg e, gI_out (by omega), gI_out (by omega)]
                  have := R1 j j0 (by omega)
                  rw [this.2]
                  exact ⟨this.1, rfl⟩
              · have hk' : (M k || decide (k = k0)) = true := hk
                rw [Bool.or_eq_true, decide_eq_true_eq] at hk'
                rcases hk' with e | e
                · obtain ⟨j, j0, j1⟩ := R2 k e
                  exact ⟨j, by omega, by show (if j = many then k0 else R j) = k; rw [if_neg (by omega)]; exact j1⟩
                · exact ⟨many, by omega, by show (if many = many then k0 else R many) = k; rw [if_pos rfl]; exact e.symm⟩
              · have ht' : tch a (if j = many then k0 else R j) k = true := ht
                rw [if_neg (by omega)] at ht'
                have ht := ht'
                exact mono k (hcl j j0 j1 k d0 d1 ht)
              · have ht' : tch a (if x = many then k0 else R x) k = true := ht
                rw [if_neg (by omega)] at ht'
                have ht := ht'
                by_cases e : k = k0
                · rw [e, mk_v]; omega
                · exact mono k (hin k d0 (by omega) ht)
          · rw [if_neg (show ¬ z (mrk (tch a) (spS a) i M k0) = -1 from z_ne (by omega) (by omega) (by decide) (by decide) c2)]
            exact nx (fun _ => c2)
      · clear hR hcl hf bm c0 hxm g many M R
        rintro kb2 _ g ⟨many, M, R, rfl, hxm, hf, hR, hcl, hin⟩
        have bm := bound g many M R hR
        unfold w_X3_spread_44
        rw [hR.1.1.2.2.1, if_pos (by rw [z_le (by omega) (by omega) (by omega) (by omega)]; omega)]
        refine hk _ g ⟨many, M, R, rfl, by omega, hf, hR, fun j j0 j1 k d0 d1 ht => ?_⟩
        by_cases e : j = x
        · rw [e] at ht
          have rx := hR.2.1 x x0 hxm
          have RO := hR.2.2.2.1
          have hc := con_st (RO.2 _ rx.2).2 (RO.2 _ rx.2).1 ht
          have fk : fsp (tch a) (spS a) k = i := by rw [← fsp_eq sy hi ⟨d0, d1⟩ hc, hF]
          have fa := fsp_at (t := tch a) d0 d1
          by_cases ek : k = i
          · rw [ek]
            unfold mrk
            rw [RO.1, if_pos rfl]; omega
          · exact hin k (by omega) d1 ht
        · exact hcl j j0 (by omega) k d0 d1 ht
  · clear S1 S2 S3 F0 F1 g118 C0 S g0
    rintro kb _ g ⟨many, M, R, rfl, hxm, hf, hR, hcl⟩
    have bm := bound g many M R hR
    unfold w_X3_spread_25
    rw [if_pos (by rw [z_le (by omega) (by omega) (by omega) (by omega)]; omega)]
    have hO := hR.2.2.2.1
    refine hq g hf (hR.1.ext (fun k k0 k1 => (mk_all sy hi hF hO (fun c k hc k0 k1 ht => ?_) k k0 k1).symm))
    obtain ⟨j, j0, rfl⟩ := hR.2.2.1 c hc
    exact hcl j j0.1 (by omega) k k0 k1 ht
end JOINX
