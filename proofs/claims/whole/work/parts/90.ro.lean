/-! ===== thieves ===== -/
theorem bt_z0 : ∀ i, i < 32 → bt (z 0) i = false := by decide +kernel
theorem bt_none {x : Int32} (h : ∀ i, i < 32 → bt x i = false) : x = z 0 := b_ext (fun i hi => by rw [h i hi, bt_z0 i hi])
def knm (s : St) : Int := if s.kb = -1 then s.nn else s.kb
def stq (nt : Nat → Int → Int) (K : Int) : Nat → Int → Bool
  | 0 => fun _ => false
  | j + 1 => fun t => stq nt K j t || (decide (nt 0 (K - 1 - j) = 2) && !(stq nt K j (K - 1 - j)) && decide (nt 1 (K - 1 - j) = t))
def stk1 (s : St) : Int → Bool := stq s.nt (knm s) (knm s).toNat
theorem stq_s {nt : Nat → Int → Int} {K i t : Int} (h : i ≤ K - 1) : stq nt K (K - 1 - (i - 1)).toNat t = (stq nt K (K - 1 - i).toNat t || (decide (nt 0 i = 2) && !(stq nt K (K - 1 - i).toNat i) && decide (nt 1 i = t))) := by
  rw [show (K - 1 - (i - 1)).toNat = (K - 1 - i).toNat + 1 by omega]
  show (stq nt K (K - 1 - i).toNat t || (decide (nt 0 (K - 1 - ((K - 1 - i).toNat : Int)) = 2) && !(stq nt K (K - 1 - i).toNat (K - 1 - ((K - 1 - i).toNat : Int))) && decide (nt 1 (K - 1 - ((K - 1 - i).toNat : Int)) = t))) = _
  rw [show K - 1 - ((K - 1 - i).toNat : Int) = i by omega]
theorem knm_rg {s : St} (O : OkNt (s.a.n 0) s.nn s.nt s.kb) : 0 ≤ knm s ∧ knm s ≤ s.nn ∧ s.nn ≤ 24 := by
  have b1 := O.1
  have b2 := O.2.1
  unfold knm
  split <;> omega
/-- what a note asks of a thief -/
def asoP (s : St) (p m l : Int) : Prop := ∀ k, 0 ≤ k → k < knm s → stk1 s k = false → (s.nt 0 k = 1 → fst s.a (far s.a (-1)) (s.nt 1 k) (s.nt 2 k) = -1 → s.nt 2 k = m ∧ car s.a (far s.a (-1)) p l (s.nt 1 k) m = true) ∧ (s.nt 0 k = 0 → fst s.a (far s.a (-1)) (s.nt 1 k) (s.nt 2 k) = -1 ∧ (s.nt 2 k = m → car s.a (far s.a (-1)) p l (s.nt 1 k) m = false))
noncomputable def aso (s : St) (p m l : Int) : Bool := @decide (asoP s p m l) (Classical.propDecidable _)
noncomputable def okI (s : St) (i : Int) : Bool := aso s (i / 960) (i / 20 % 48) (i % 20 + 1)
theorem aso_T {s : St} {p m l : Int} (h : asoP s p m l) : aso s p m l = true := @decide_eq_true _ (Classical.propDecidable _) h
theorem aso_F {s : St} {p m l : Int} (h : ¬ asoP s p m l) : aso s p m l = false := @decide_eq_false _ (Classical.propDecidable _) h
theorem okI_at {s : St} {p m l : Int} (hm : 0 ≤ m ∧ m < 48) (hl : 1 ≤ l ∧ l ≤ 20) : okI s (960 * p + 20 * m + (l - 1)) = aso s p m l := by
  unfold okI
  rw [show (960 * p + 20 * m + (l - 1)) / 960 = p by omega, show (960 * p + 20 * m + (l - 1)) / 20 % 48 = m by omega, show (960 * p + 20 * m + (l - 1)) % 20 + 1 = l by omega]
theorem cn_s {f : Int → Bool} {i : Int} (h : 0 ≤ i) : cn f (i + 1) = cn f i + (if f i = true then 1 else 0) := sm_s h
theorem cn_mono {f : Int → Bool} {i : Int} (h : 0 ≤ i) : ∀ d : Nat, cn f i ≤ cn f (i + d)
  | 0 => by rw [show i + ((0 : Nat) : Int) = i by omega]; exact Int.le_refl _
  | d + 1 => by
    have := cn_mono (f := f) h d
    rw [show i + ((d + 1 : Nat) : Int) = (i + d) + 1 by omega, cn_s (by omega)]
    split <;> omega
theorem cn_le {f : Int → Bool} {i j : Int} (h : 0 ≤ i) (hj : i ≤ j) : cn f i ≤ cn f j := by
  have := cn_mono (f := f) h (j - i).toNat
  rw [show i + ((j - i).toNat : Int) = j by omega] at this
  exact this
theorem cn_skip {f : Int → Bool} {i : Int} (h : 0 ≤ i) : ∀ d : Nat, (∀ j, i ≤ j → j < i + d → f j = false) → cn f (i + d) = cn f i
  | 0, _ => by rw [show i + ((0 : Nat) : Int) = i by omega]
  | d + 1, hf => by
    rw [show i + ((d + 1 : Nat) : Int) = (i + d) + 1 by omega, cn_s (by omega), cn_skip h d (fun j j0 j1 => hf j j0 (by omega)), hf (i + d) (by omega) (by omega), if_neg (by decide), Int.add_zero]
theorem cn_none {f : Int → Bool} {n : Int} (h0 : 0 ≤ n) (hf : ∀ j, 0 ≤ j → j < n → f j = false) : cn f n = 0 := by
  have := cn_skip (f := f) (i := 0) (by omega) n.toNat (fun j j0 j1 => hf j j0 (by omega))
  rw [show (0 : Int) + (n.toNat : Int) = n by omega] at this
  rw [this]; rfl
/-- the k-th that fits -/
noncomputable def kth (f : Int → Bool) (n k : Int) : Int := ff (fun j => f j && decide (cn f j = k)) n
theorem kth_at {f : Int → Bool} {n j : Int} (h0 : 0 ≤ j) (h1 : j < n) (hf : f j = true) : kth f n (cn f j) = j := by
  unfold kth
  refine ff_yes h0 h1 (by rw [hf, decide_eq_true rfl]; rfl) (fun i i0 i1 => ?_)
  cases hi : f i with
  | false => rfl
  | true =>
    have e : cn f (i + 1) = cn f i + 1 := by rw [cn_s i0, hi]; rfl
    have := cn_le (f := f) (i := i + 1) (j := j) (by omega) (by omega)
    rw [decide_eq_false (by omega : ¬ cn f i = cn f j)]; rfl
noncomputable def a_thieves (s : St) : Int := cn (okI s) (960 * s.a.n 0)
noncomputable def a_thief (s : St) (k w : Int) : Int := if 0 ≤ k ∧ (0 ≤ w ∧ w ≤ 2) then (if cn (okI s) (960 * s.a.n 0) ≤ k then -2 else if w = 0 then kth (okI s) (960 * s.a.n 0) k / 960 else if w = 1 then kth (okI s) (960 * s.a.n 0) k / 20 % 48 else kth (okI s) (960 * s.a.n 0) k % 20 + 1) else -1
def thR (w c k : Nat) : Prop := c = w + 17 ∨ c = w + 18 ∨ (132 ≤ c ∧ c ≤ 134) ∨ (c = 129 ∧ 5 ≤ k ∧ k ≤ 7)
/-- what the notes ask at a minute of a place -/
def nd (s : St) (i m l : Int) : Prop := ∃ k, (0 ≤ k ∧ k < i) ∧ stk1 s k = false ∧ s.nt 0 k = 1 ∧ s.nt 2 k = m ∧ s.nt 1 k = l ∧ fst s.a (far s.a (-1)) l m = -1
def br (s : St) (i m l : Int) : Prop := ∃ k, (0 ≤ k ∧ k < i) ∧ stk1 s k = false ∧ s.nt 0 k = 0 ∧ s.nt 2 k = m ∧ s.nt 1 k = l
def NdX (h : PH) (s : St) (i : Int) : Prop := ∀ m : Int, 0 ≤ m → m < 48 → ∀ l : Nat, l < 32 → (bt (gI h 133 m.toNat) l = true ↔ nd s i m l) ∧ (bt (gI h 134 m.toNat) l = true ↔ br s i m l)
section THX
variable {h : PH} {w : Nat} {s : St}
theorem x_mark {Q : PH → Prop} (N : NtX h s) (O : OkNt (s.a.n 0) s.nn s.nt s.kb) (hq : ∀ g, (∀ c k, ¬ (c = 132) → At h g c k) → (∀ t : Int, 0 ≤ t → t < 24 → gI g 132 t.toNat = z (bI (stk1 s t))) → Q g) : w_X2_markStruck h Q := by
  have kr := knm_rg O
  unfold w_X2_markStruck
  refine for10 24 (fun i g => (∀ c k, ¬ (c = 132) → At h g c k) ∧ ∀ t : Int, 0 ≤ t → t < i → gI g 132 t.toNat = z 0) 0 rfl (by omega) (by omega) (by omega) ⟨fun c k _ => At.rf h c k, fun t t0 t1 => by omega⟩ ?_ ?_
  · rintro kb i g i0 i1 ⟨hf, hJ⟩ hk
    unfold w_X2_markStruck_2
    rw [zn_24, if_neg (by rw [z_le (by omega) (by omega) (by omega) (by omega)]; omega), z_iN (by omega) (by omega), z_inc]
    refine ⟨z_in (by omega) (by omega) (by omega), ?_⟩
    rintro _ rfl
    refine hk _ ⟨fun c k hc => (hf c k hc).sI (by omega), fun t t0 t1 => ?_⟩
    by_cases e : t = i
    · rw [e, gI_in rfl rfl]; rfl
    · rw [gI_out (by omega)]; exact hJ t t0 (by omega)
  · rintro kb g ⟨hf, hJ⟩
    unfold w_X2_markStruck_2
    rw [zn_24, if_pos (by rw [z_le (by omega) (by omega) (by omega) (by omega)]; omega)]
    have Ng : NtX g s := ⟨N.1.at' (fun k => hf 130 k (by omega)), fun k k0 k1 c hc => by rw [(hf 131 _ (by omega)).1]; exact N.2.1 k k0 k1 c hc, by rw [(hf 129 4 (by omega)).1]; exact N.2.2⟩
    refine knX Ng O ?_
    rintro _ rfl
    have ek : (if s.kb = -1 then s.nn else s.kb) = knm s := rfl
    rw [ek, z_mnI (by omega) (by omega) (by omega) (by omega), show min (knm s) 24 = knm s by omega, zn_1, z_sub]
    refine down1 (fun i g' => (∀ c k, ¬ (c = 132) → At h g' c k) ∧ ∀ t : Int, 0 ≤ t → t < 24 → gI g' 132 t.toNat = z (bI (stq s.nt (knm s) (knm s - 1 - i).toNat t))) (knm s - 1) rfl (by omega) (by omega) ⟨hf, fun t t0 t1 => ?_⟩ ?_ ?_
    · rw [hJ t t0 t1, show (knm s - 1 - (knm s - 1)).toNat = 0 by omega]; rfl
    · clear hf hJ Ng g
      rintro kb i g i0 i1 ⟨hf, hJ⟩ hk
      have Ng : NtX g s := ⟨N.1.at' (fun k => hf 130 k (by omega)), fun k k0 k1 c hc => by rw [(hf 131 _ (by omega)).1]; exact N.2.1 k k0 k1 c hc, by rw [(hf 129 4 (by omega)).1]; exact N.2.2⟩
      obtain ⟨R, V, _⟩ := Ng
      have q0 : gI g 131 (i * 3 + 0).toNat = z (s.nt 0 i) := V i i0 (by omega) 0 (by decide)
      have q1 : gI g 131 (i * 3 + 1).toNat = z (s.nt 1 i) := V i i0 (by omega) 1 (by decide)
      have on := O.2.2 i i0 (by omega)
      have h24 := hJ i i0 (by omega)
      have stop : (∀ t : Int, stq s.nt (knm s) (knm s - 1 - (i - 1)).toNat t = stq s.nt (knm s) (knm s - 1 - i).toNat t) → kb (z (i - 1)) g := fun e => hk g ⟨hf, fun t t0 t1 => by rw [e t]; exact hJ t t0 t1⟩
      unfold w_X2_markStruck_33
      rw [zn_0, if_neg (by rw [z_lt (by omega) (by omega) (by omega) (by omega)]; omega), z_m1, z_add, show i + -1 = i - 1 by omega]
      refine x_at R rfl (c := 1) rfl i0 (by omega) (by omega) (by omega) ?_
      rw [q1]
      refine x_at R rfl (c := 0) rfl i0 (by omega) (by omega) (by omega) ?_
      rw [q0]
      by_cases c2 : s.nt 0 i = 2
      · rw [if_pos (show z (s.nt 0 i) = 2 by rw [c2]; rfl), z_iN (by omega) (by omega), h24]
        refine ⟨z_in (by omega) (by omega) (by omega), ?_⟩
        cases hb : stq s.nt (knm s) (knm s - 1 - i).toNat i with
        | true =>
          rw [if_neg (show ¬ z (bI true) = z 0 by decide)]
          exact stop (fun t => by rw [stq_s (by omega), hb]; simp)
        | false =>
          have ot : 0 ≤ s.nt 1 i ∧ s.nt 1 i < i := by
            rcases on with x | x
            · omega
            · exact x.2.1
          rw [if_pos (show z (bI false) = z 0 from rfl), if_neg (by rw [z_lt (by omega) (by omega) (by omega) (by omega)]; omega), zn_24, if_neg (by rw [z_le (by omega) (by omega) (by omega) (by omega)]; omega), z_iN (a := s.nt 1 i) (by omega) (by omega)]
          refine ⟨z_in (by omega) (by omega) (by omega), ?_⟩
          rintro _ rfl
          refine hk _ ⟨fun c k hc => (hf c k hc).sI (by omega), fun t t0 t1 => ?_⟩
          rw [stq_s (by omega), hb, decide_eq_true c2]
          by_cases e : t = s.nt 1 i
          · rw [e, gI_in rfl rfl, decide_eq_true rfl]
            simp
            rfl
          · rw [gI_out (by omega), hJ t t0 t1, decide_eq_false (fun x => e x.symm)]
            simp
      · rw [if_neg (show ¬ z (s.nt 0 i) = 2 from z_ne (by omega) (by omega) (by decide) (by decide) c2)]
        exact stop (fun t => by rw [stq_s (by omega), decide_eq_false c2]; simp)
    · clear hf hJ Ng g
      rintro kb g ⟨hf, hJ⟩
      unfold w_X2_markStruck_33
      rw [zn_0, if_pos (by rw [z_lt (by omega) (by omega) (by omega) (by omega)]; omega)]
      refine hq g hf (fun t t0 t1 => ?_)
      rw [hJ t t0 t1, show (knm s - 1 - -1).toNat = (knm s).toNat by omega]; rfl
end THX
