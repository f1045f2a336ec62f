/-! ===== what pieces are worth ===== -/
def wrt (a : Wd) (x1 x2 x3 x4 : Int) : Int := match lv (nm6 0 0 x4 x1 x2 x3) a.wo with
  | none => x1
  | some v => max 0 (min v 9999)
theorem j_clip {v : Int} (b : bd v) : ((mxJ 0 (mnJ (zl v) 9999)) : Int64).toInt32 = z (max 0 (min v 9999)) ∧ ((mxJ 0 (mnJ 9999 (zl v))) : Int64).toInt32 = z (max 0 (min v 9999)) := by
  unfold bd at b
  have e1 : mnJ (zl v) 9999 = zl (min v 9999) := by
    unfold mnJ
    rw [zl_9999]
    by_cases c : 9999 < v
    · rw [if_pos (by rw [zl_lt (by omega) (by omega) (by omega) (by omega)]; exact c)]; congr 1; omega
    · rw [if_neg (by rw [zl_lt (by omega) (by omega) (by omega) (by omega)]; exact c)]; congr 1; omega
  have e2 : mnJ 9999 (zl v) = zl (min v 9999) := by
    unfold mnJ
    rw [zl_9999]
    by_cases c : v < 9999
    · rw [if_pos (by rw [zl_lt (by omega) (by omega) (by omega) (by omega)]; exact c)]; congr 1; omega
    · rw [if_neg (by rw [zl_lt (by omega) (by omega) (by omega) (by omega)]; exact c)]; congr 1; omega
  have e3 : mxJ 0 (zl (min v 9999)) = zl (max 0 (min v 9999)) := by
    unfold mxJ
    rw [zl_0]
    by_cases c : min v 9999 < 0
    · rw [if_pos (by rw [zl_lt (by omega) (by omega) (by omega) (by omega)]; exact c)]; congr 1; omega
    · rw [if_neg (by rw [zl_lt (by omega) (by omega) (by omega) (by omega)]; exact c)]; congr 1; omega
  rw [e1, e2, e3, zl_low (by omega) (by omega)]
  exact ⟨rfl, rfl⟩
theorem wrt_rg {a : Wd} {x1 x2 x3 x4 : Int} (h : 0 ≤ x1 ∧ x1 ≤ 100000) : 0 ≤ wrt a x1 x2 x3 x4 ∧ wrt a x1 x2 x3 x4 ≤ 100000 := by
  unfold wrt
  split <;> omega
section WRT
variable {h : PH} {w : Nat} {a : Wd}
theorem x_worth {Q : Int32 → PH → Prop} {x1 x2 x3 x4 : Int} (H : WX h w a) (W : Wf a.wo) (b1 : -100000 ≤ x1 ∧ x1 ≤ 100000) (b2 : -100000 ≤ x2 ∧ x2 ≤ 100000) (b3 : -100000 ≤ x3 ∧ x3 ≤ 100000) (b4 : -100000 ≤ x4 ∧ x4 ≤ 100000) (hq : ∀ g, (∀ c k, ¬ (c = w + 21 ∨ c = w + 22) → At h g c k) → Q (z (wrt a x1 x2 x3 x4)) g) : w_X3_worth w (z x1) (z x2) (z x3) (z x4) h Q := by
  unfold w_X3_worth
  rw [show (0 : Int32) = z 0 from rfl]
  refine x_value H.2.2.1 W (by omega) (by omega) (by omega) (by omega) (by omega) (by omega) (fun g f => ?_)
  have q := hq g f
  unfold wrt at q
  cases e : lv (nm6 0 0 x4 x1 x2 x3) a.wo with
  | none =>
    rw [e] at q
    rw [if_pos (show lg_cmp (ey none) (-9223372036854775808) = z 0 from rfl)]
    exact q
  | some v =>
    rw [e] at q
    have b := lv_bd (nm6_bd (by omega) (by omega) (by omega) (by omega) (by omega) (by omega)) W.2.1 e
    have b' := b
    unfold bd at b'
    rw [if_neg (show ¬ lg_cmp (ey (some v)) (-9223372036854775808) = z 0 by
      show ¬ _ = (0 : Int32)
      rw [lg_cmp_eq, zl_err]
      show ¬ zl v = zl _
      rw [zl_eq (by omega) (by omega) (by omega) (by omega)]; omega)]
    show Q (((mxJ 0 (mnJ (zl v) 9999)) : Int64).toInt32) g
    rw [(j_clip b).1]
    exact q
theorem m_worthOf {Q : Int32 → PH → Prop} {x1 x2 x3 x4 fr : Int} (K : KM h 1 fr a.wo) (W : Wf a.wo) (b1 : -100000 ≤ x1 ∧ x1 ≤ 100000) (b2 : -100000 ≤ x2 ∧ x2 ≤ 100000) (b3 : -100000 ≤ x3 ∧ x3 ≤ 100000) (b4 : -100000 ≤ x4 ∧ x4 ≤ 100000) (hq : ∀ g, (∀ c k, ¬ lawC c k → At h g c k) → Q (z (wrt a x1 x2 x3 x4)) g) : w_X10_worthOf (z x1) (z x2) (z x3) (z x4) h Q := by
  unfold w_X10_worthOf
  refine m_worth b1 b2 b3 b4 (fun g hg hn => ?_)
  have K' : KM g (1 : Int).toNat fr a.wo := K.at' (fun c k b1 b2 => hg c k (by omega))
  have fin : ∀ g', (∀ c k, ¬ (c = 33) → ¬ (c = 0 ∧ k = 48) → At g g' c k) → Q (z (wrt a x1 x2 x3 x4)) g' := fun g' f => hq g' (fun c k hc => (hg c k (by unfold lawC at hc; omega)).tr (f c k (by unfold lawC at hc; omega) (by unfold lawC at hc; omega)))
  refine m_haslaw (i := 1) rfl (by omega) K' (fun e => ?_) (fun e => ?_)
  · rw [if_pos rfl]
    have q := fin g (fun c k _ _ => At.rf g c k)
    have e2 : wrt a x1 x2 x3 x4 = x1 := by unfold wrt; rw [e]; rfl
    rw [e2] at q
    exact q
  · rw [if_neg (by decide)]
    refine m_goes (i := 1) (by omega) K' W e hn (nm6_bd (by omega) (by omega) (by omega) (by omega) (by omega) (by omega)) (fun g2 v f ev bv e0 => ?_) (fun g2 f ev => ?_)
    · rw [if_neg (by decide), iN_0, e0, (j_clip bv).2]
      have q := fin g2 f
      unfold wrt at q
      rw [ev] at q
      exact q
    · rw [if_pos rfl]
      have q := fin g2 f
      unfold wrt at q
      rw [ev] at q
      exact q
end WRT
/-! ===== sums, signs and least ones over a run of numbers ===== -/
def ex (f : Int → Bool) (n : Int) : Bool := decide (0 < cn f n)
theorem ex_s {f : Int → Bool} {i : Int} (h : 0 ≤ i) : ex f (i + 1) = (ex f i || f i) := by
  unfold ex
  rw [cn_s h]
  have := cn_rg f h
  cases f i with
  | true => rw [if_pos rfl, decide_eq_true (by omega), Bool.or_true]
  | false => rw [if_neg (by decide), Int.add_zero, Bool.or_false]
theorem ex_skip {f : Int → Bool} {i d : Int} (h : 0 ≤ i) (h2 : i ≤ d) (hf : ∀ j, i ≤ j → j < d → f j = false) : ex f d = ex f i := by
  unfold ex
  have := cn_skip (f := f) h (d - i).toNat (fun j j0 j1 => hf j j0 (by omega))
  rw [show i + ((d - i).toNat : Int) = d by omega] at this
  rw [this]
theorem cn_skip' {f : Int → Bool} {i d : Int} (h : 0 ≤ i) (h2 : i ≤ d) (hf : ∀ j, i ≤ j → j < d → f j = false) : cn f d = cn f i := by
  have := cn_skip (f := f) h (d - i).toNat (fun j j0 j1 => hf j j0 (by omega))
  rw [show i + ((d - i).toNat : Int) = d by omega] at this
  exact this
def miN (f : Int → Bool) : Nat → Int
  | 0 => 48
  | n + 1 => if f n = true then min (miN f n) (n % 48) else miN f n
def mi (f : Int → Bool) (n : Int) : Int := miN f n.toNat
theorem mi_0 (f : Int → Bool) : mi f 0 = 48 := rfl
theorem mi_s {f : Int → Bool} {i : Int} (h : 0 ≤ i) : mi f (i + 1) = if f i = true then min (mi f i) (i % 48) else mi f i := by
  unfold mi
  rw [show (i + 1).toNat = i.toNat + 1 by omega]
  show (if f ((i.toNat : Nat) : Int) = true then min (miN f i.toNat) (((i.toNat : Nat) : Int) % 48) else miN f i.toNat) = _
  rw [show ((i.toNat : Nat) : Int) = i by omega]
theorem mi_skipN {f : Int → Bool} {i : Int} (h : 0 ≤ i) : ∀ d : Nat, (∀ j, i ≤ j → j < i + d → f j = false) → mi f (i + d) = mi f i
  | 0, _ => by rw [show i + ((0 : Nat) : Int) = i by omega]
  | d + 1, hf => by
    rw [show i + ((d + 1 : Nat) : Int) = (i + d) + 1 by omega, mi_s (by omega), mi_skipN h d (fun j j0 j1 => hf j j0 (by omega)), hf (i + d) (by omega) (by omega), if_neg (by decide)]
theorem mi_skip {f : Int → Bool} {i d : Int} (h : 0 ≤ i) (h2 : i ≤ d) (hf : ∀ j, i ≤ j → j < d → f j = false) : mi f d = mi f i := by
  have := mi_skipN (f := f) h (d - i).toNat (fun j j0 j1 => hf j j0 (by omega))
  rw [show i + ((d - i).toNat : Int) = d by omega] at this
  exact this
theorem mi_rgN (f : Int → Bool) : ∀ n : Nat, 0 ≤ miN f n ∧ miN f n ≤ 48
  | 0 => by show 0 ≤ (48 : Int) ∧ (48 : Int) ≤ 48; omega
  | n + 1 => by
    have := mi_rgN f n
    show 0 ≤ (if f n = true then min (miN f n) ((n : Int) % 48) else miN f n) ∧ (if f n = true then min (miN f n) ((n : Int) % 48) else miN f n) ≤ 48
    split <;> omega
theorem mi_rg (f : Int → Bool) (n : Int) : 0 ≤ mi f n ∧ mi f n ≤ 48 := mi_rgN f n.toNat
theorem mi_cong {f g : Int → Bool} : ∀ n : Nat, (∀ j : Int, 0 ≤ j → j < n → f j = g j) → miN f n = miN g n
  | 0, _ => rfl
  | n + 1, h => by
    show (if f n = true then min (miN f n) ((n : Int) % 48) else miN f n) = (if g n = true then min (miN g n) ((n : Int) % 48) else miN g n)
    rw [mi_cong n (fun j j0 j1 => h j j0 (by omega)), h n (by omega) (by omega)]
theorem cn_or {f g k : Int → Bool} (h : ∀ j, f j = (g j || k j)) (hd : ∀ j, (g j && k j) = false) : ∀ n : Nat, cn f n = cn g n + cn k n
  | 0 => rfl
  | n + 1 => by
    rw [show ((n + 1 : Nat) : Int) = (n : Int) + 1 by omega, cn_s (by omega), cn_s (by omega), cn_s (by omega), cn_or h hd n, h n]
    have := hd n
    cases hg : g n <;> cases hk : k n
    · rw [Bool.false_or, if_neg (by decide)]; omega
    · rw [Bool.false_or, if_pos rfl, if_neg (by decide)]; omega
    · rw [Bool.true_or, if_pos rfl, if_neg (by decide)]; omega
    · rw [hg, hk] at this; exact absurd this (by decide)
theorem ex_or {f g k : Int → Bool} (h : ∀ j, f j = (g j || k j)) : ∀ n : Nat, ex f n = (ex g n || ex k n)
  | 0 => rfl
  | n + 1 => by
    rw [show ((n + 1 : Nat) : Int) = (n : Int) + 1 by omega, ex_s (by omega), ex_s (by omega), ex_s (by omega), ex_or h n, h n]
    cases ex g n <;> cases ex k n <;> cases g n <;> cases k n <;> rfl
theorem mi_or {f g k : Int → Bool} (h : ∀ j, f j = (g j || k j)) : ∀ n : Nat, mi f n = min (mi g n) (mi k n)
  | 0 => rfl
  | n + 1 => by
    rw [show ((n + 1 : Nat) : Int) = (n : Int) + 1 by omega, mi_s (by omega), mi_s (by omega), mi_s (by omega), mi_or h n, h n]
    cases g n <;> cases k n <;> simp only [Bool.or_true, Bool.or_false, Bool.true_or, Bool.false_or, if_true, if_false, Bool.false_eq_true] <;> omega
