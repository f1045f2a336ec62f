/-! ===== the next order, by the class ===== -/
def OrX (h : PH) (n : Int) (o : Int → Int) : Prop := ∀ k : Int, 0 ≤ k → k < n → gI h 125 k.toNat = z (o k)
section NXO
variable {h : PH} {n : Int} {o : Int → Int}
theorem x_swap {Q : PH → Prop} {i j : Int} (O : OrX h n o) (h4 : n ≤ 4) (hi : 0 ≤ i ∧ i < n) (hj : 0 ≤ j ∧ j < n) (hq : ∀ g, (∀ c k, ¬ (c = 125) → At h g c k) → OrX g n (swp o i j) → Q g) : w_X4_swap (z i) (z j) h Q := by
  unfold w_X4_swap
  rw [z_iN (a := i) (by omega) (by omega), z_iN (a := j) (by omega) (by omega), O i hi.1 hi.2, O j hj.1 hj.2]
  refine ⟨z_in (by omega) (by omega) (by omega), ?_⟩
  rintro _ rfl
  refine ⟨z_in (by omega) (by omega) (by omega), z_in (by omega) (by omega) (by omega), ?_⟩
  rintro _ rfl
  refine ⟨z_in (by omega) (by omega) (by omega), ?_⟩
  rintro _ rfl
  refine hq _ (fun c k hc => ((At.rf h c k).sI (by omega)).sI (by omega)) (fun k k0 k1 => ?_)
  unfold swp
  by_cases e : k = j
  · rw [if_pos e, e, gI_in rfl rfl]
  · rw [if_neg e, gI_out (by omega)]
    by_cases e2 : k = i
    · rw [if_pos e2, e2, gI_in rfl rfl]
    · rw [if_neg e2, gI_out (by omega)]; exact O k k0 k1
theorem x_rev {Q : Int32 → PH → Prop} {l r : Int} (O : OrX h n o) (h4 : n ≤ 4) (hl : 0 ≤ l ∧ l ≤ 4) (hr : -1 ≤ r ∧ r < n) (hq : ∀ g, (∀ c k, ¬ (c = 125) → At h g c k) → OrX g n (rvN 4 o l r) → Q 1 g) : ∃ k, Lp2 (w_X4_nextOrder_83 (fun h15 => Q 1 h15) Q) k (z l) (z r) h := by
  refine lp2_i (fun x y g => ∃ (l' r' : Int) (f : Nat) (o' : Int → Int), x = z l' ∧ y = z r' ∧ (0 ≤ l' ∧ l' ≤ 4) ∧ (-1 ≤ r' ∧ r' < n) ∧ r' - l' ≤ 2 * f ∧ (∀ c k, ¬ (c = 125) → At h g c k) ∧ OrX g n o' ∧ rvN f o' l' r' = rvN 4 o l r) (fun x y _ => (y.toInt - x.toInt + 5).toNat) ?_ (z l) (z r) h ⟨l, r, 4, o, rfl, rfl, hl, hr, by omega, fun c k _ => At.rf h c k, O, rfl⟩
  rintro kb _ _ g ⟨l', r', f, o', rfl, rfl, b1, b2, b3, hf, hO, he⟩ hk
  unfold w_X4_nextOrder_83
  by_cases c : r' ≤ l'
  · rw [if_pos (by rw [z_le (by omega) (by omega) (by omega) (by omega)]; omega)]
    have e : rvN f o' l' r' = o' := by
      cases f with
      | zero => rfl
      | succ f => show (if r' ≤ l' then o' else _) = o'; rw [if_pos c]
    refine hq g hf ?_
    rw [← he, e]
    exact hO
  · rw [if_neg (by rw [z_le (by omega) (by omega) (by omega) (by omega)]; omega)]
    refine x_swap hO h4 (by omega) (by omega) (fun g2 f2 O2 => ?_)
    rw [z_inc, show z r' + -1 = z (r' - 1) from by rw [show (-1 : Int32) = z (-1) from rfl, z_add]; rfl]
    cases f with
    | zero => omega
    | succ f =>
      refine hk _ _ g2 ⟨l' + 1, r' - 1, f, _, rfl, rfl, by omega, by omega, by omega, fun c k hc => (hf c k hc).tr (f2 c k hc), O2, ?_⟩ ?_
      · rw [← he]
        show _ = if r' ≤ l' then o' else rvN f (swp o' l' r') (l' + 1) (r' - 1)
        rw [if_neg c]
      · rw [z_ti (by omega) (by omega), z_ti (by omega) (by omega), z_ti (by omega) (by omega), z_ti (by omega) (by omega)]
        omega
theorem pv_rg (o : Int → Int) : ∀ k : Nat, -1 ≤ pvN o k ∧ pvN o k < k
  | 0 => by show -1 ≤ (-1 : Int) ∧ (-1 : Int) < ((0 : Nat) : Int); omega
  | k + 1 => by
    have := pv_rg o k
    show -1 ≤ (if o k ≤ o ((k : Int) + 1) then (k : Int) else pvN o k) ∧ (if o k ≤ o ((k : Int) + 1) then (k : Int) else pvN o k) < ((k + 1 : Nat) : Int)
    split <;> omega
theorem x_nextOrder {Q : Int32 → PH → Prop} (hn : 1 ≤ n ∧ n ≤ 4) (O : OrX h n o) (ob : ∀ k, 0 ≤ k → k < n → 0 ≤ o k ∧ o k < 100) (h0 : nxo n.toNat o = none → Q 0 h) (h1 : ∀ g o', (∀ c k, ¬ (c = 125) → At h g c k) → nxo n.toNat o = some o' → OrX g n o' → Q 1 g) : w_X4_nextOrder (z n) h Q := by
  have pr := pv_rg o (n.toNat - 1)
  unfold nxo at h0 h1
  unfold w_X4_nextOrder
  rintro _ rfl
  rw [zn_2, z_sub]
  refine lp1_i (fun x g => g = h ∧ ∃ i : Int, x = z i ∧ (-1 ≤ i ∧ i ≤ n - 2) ∧ pvN o (i + 1).toNat = pvN o (n.toNat - 1)) (fun x _ => (x.toInt + 2).toNat) ?_ (z (n - 2)) h ⟨rfl, n - 2, rfl, by omega, by rw [show (n - 2 + 1).toNat = n.toNat - 1 by omega]⟩
  rintro kb _ g ⟨rfl, i, rfl, b1, he⟩ hk
  have fin : i = pvN o (n.toNat - 1) → w_X4_nextOrder_31 Q (z n) (z i) g := by
    intro ei
    rw [← ei] at h0 h1
    unfold w_X4_nextOrder_31
    by_cases c : 0 ≤ i
    · rw [zn_0, if_pos (by rw [z_le (by omega) (by omega) (by omega) (by omega)]; omega)]
      rintro _ rfl
      rw [zn_1, z_sub]
      rw [if_neg (by omega)] at h1
      refine lp1_i (fun x g2 => g2 = g ∧ ∃ q : Int, x = z q ∧ (i ≤ q ∧ q ≤ n - 1) ∧ qvN o i q.toNat = qvN o i (n.toNat - 1)) (fun x _ => (x.toInt + 2).toNat) ?_ (z (n - 1)) g ⟨rfl, n - 1, rfl, by omega, by rw [show (n - 1).toNat = n.toNat - 1 by omega]⟩
      rintro kb2 _ g2 ⟨e2, q, rfl, b2, hq⟩ hk2
      subst e2
      have fin2 : q = qvN o i (n.toNat - 1) → w_X4_nextOrder_67 Q (z n) (z i) (z q) g2 := by
        intro eq
        unfold w_X4_nextOrder_67
        refine x_swap O hn.2 (by omega) (by omega) (fun g3 f3 O3 => ?_)
        rintro _ rfl _ rfl
        rw [zn_1, z_add, z_sub]
        refine x_rev O3 hn.2 (by omega) (by omega) (fun g4 f4 O4 => ?_)
        refine h1 g4 _ (fun c k hc => (f3 c k hc).tr (f4 c k hc)) ?_ O4
        rw [← eq, show ((n.toNat : Nat) : Int) = n by omega]
      unfold w_X4_nextOrder_41
      by_cases c2 : q ≤ i
      · rw [if_pos (by rw [z_le (by omega) (by omega) (by omega) (by omega)]; omega)]
        refine fin2 ?_
        rw [← hq]
        cases hqn : q.toNat with
        | zero => show q = 0; omega
        | succ k =>
          show q = if (k : Int) + 1 ≤ i then (k : Int) + 1 else _
          rw [if_pos (by omega)]; omega
      · rw [if_neg (by rw [z_le (by omega) (by omega) (by omega) (by omega)]; omega)]
        obtain ⟨k, hqn⟩ : ∃ k, q.toNat = k + 1 := ⟨q.toNat - 1, by omega⟩
        have eq1 : qvN o i q.toNat = if o i ≤ o q then q else qvN o i k := by
          rw [hqn]
          show (if (k : Int) + 1 ≤ i then (k : Int) + 1 else if o i ≤ o ((k : Int) + 1) then (k : Int) + 1 else qvN o i k) = _
          rw [if_neg (by omega), show (k : Int) + 1 = q by omega]
        have o1 := ob i c (by omega)
        have o2 := ob q (by omega) (by omega)
        rw [z_iN (a := q) (by omega) (by omega), z_iN (a := i) (by omega) (by omega), O i c (by omega), O q (by omega) (by omega)]
        refine ⟨z_in (by omega) (by omega) (by omega), z_in (by omega) (by omega) (by omega), ?_⟩
        by_cases c3 : o i ≤ o q
        · rw [if_pos (by rw [z_le (by omega) (by omega) (by omega) (by omega)]; omega)]
          refine fin2 ?_
          rw [← hq, eq1, if_pos c3]
        · rw [if_neg (by rw [z_le (by omega) (by omega) (by omega) (by omega)]; omega), show z q + -1 = z (q - 1) from by rw [show (-1 : Int32) = z (-1) from rfl, z_add]; rfl]
          refine hk2 _ g2 ⟨rfl, q - 1, rfl, by omega, ?_⟩ ?_
          · rw [← hq, eq1, if_neg c3, show (q - 1).toNat = k by omega]
          · rw [z_ti (by omega) (by omega), z_ti (by omega) (by omega)]
            omega
    · rw [zn_0, if_neg (by rw [z_le (by omega) (by omega) (by omega) (by omega)]; omega)]
      exact h0 (if_pos (by omega))
  unfold w_X4_nextOrder_4
  by_cases c : i < 0
  · rw [zn_0, if_pos (by rw [z_lt (by omega) (by omega) (by omega) (by omega)]; omega)]
    refine fin ?_
    rw [← he, show (i + 1).toNat = 0 by omega]
    show i = -1
    omega
  · rw [zn_0, if_neg (by rw [z_lt (by omega) (by omega) (by omega) (by omega)]; omega)]
    have eq1 : pvN o (i + 1).toNat = if o i ≤ o (i + 1) then i else pvN o i.toNat := by
      rw [show (i + 1).toNat = i.toNat + 1 by omega]
      show (if o ((i.toNat : Nat) : Int) ≤ o (((i.toNat : Nat) : Int) + 1) then ((i.toNat : Nat) : Int) else pvN o i.toNat) = _
      rw [show ((i.toNat : Nat) : Int) = i by omega]
    have o1 := ob i (by omega) (by omega)
    have o2 := ob (i + 1) (by omega) (by omega)
    rw [show z i + 1 = z (i + 1) from by rw [z_inc], z_iN (a := i) (by omega) (by omega), z_iN (a := i + 1) (by omega) (by omega), O i (by omega) (by omega), O (i + 1) (by omega) (by omega)]
    refine ⟨z_in (by omega) (by omega) (by omega), z_in (by omega) (by omega) (by omega), ?_⟩
    by_cases c3 : o i ≤ o (i + 1)
    · rw [if_pos (by rw [z_le (by omega) (by omega) (by omega) (by omega)]; omega)]
      refine fin ?_
      rw [← he, eq1, if_pos c3]
    · rw [if_neg (by rw [z_le (by omega) (by omega) (by omega) (by omega)]; omega), show z i + -1 = z (i - 1) from by rw [show (-1 : Int32) = z (-1) from rfl, z_add]; rfl]
      refine hk _ g ⟨rfl, i - 1, rfl, by omega, ?_⟩ ?_
      · rw [← he, eq1, if_neg c3, show (i - 1 + 1).toNat = i.toNat by omega]
      · rw [z_ti (by omega) (by omega), z_ti (by omega) (by omega)]
        omega
end NXO
