/-! ===== spans ===== -/
def sl (a : Wd) (p m : Int) : Bool := decide (fst a (far a (-1)) p m = -1)
def st (a : Wd) (k : Int) : Bool := sl a (k / 48) (k % 48) && (decide (k % 48 = 0) || !sl a (k / 48) (k % 48 - 1))
def enS (a : Wd) (p f : Int) : Int := if ff (fun d => !sl a p (f + d)) (48 - f) = -1 then 47 else f + ff (fun d => !sl a p (f + d)) (48 - f) - 1
noncomputable def spS (a : Wd) : Int := cn (st a) (48 * a.n 0)
noncomputable def spK (a : Wd) (j : Int) : Int := kth (st a) (48 * a.n 0) j
noncomputable def spP (a : Wd) (j : Int) : Int := spK a j / 48
noncomputable def spF (a : Wd) (j : Int) : Int := spK a j % 48
noncomputable def spT (a : Wd) (j : Int) : Int := enS a (spP a j) (spF a j)
theorem st_at {a : Wd} {p m : Int} (h0 : 0 ≤ m) (h1 : m < 48) : st a (48 * p + m) = (sl a p m && (decide (m = 0) || !sl a p (m - 1))) := by
  unfold st
  rw [show (48 * p + m) / 48 = p by omega, show (48 * p + m) % 48 = m by omega]
theorem enS_at {a : Wd} {p f t : Int} (h0 : 0 ≤ f) (h1 : f ≤ t) (h2 : t ≤ 47) (hs : ∀ m, f ≤ m → m ≤ t → sl a p m = true) (he : t = 47 ∨ sl a p (t + 1) = false) : enS a p f = t := by
  unfold enS
  by_cases e : t = 47
  · have : ff (fun d => !sl a p (f + d)) (48 - f) = -1 := ff_no (fun d d0 d1 => by rw [hs _ (by omega) (by omega)]; rfl)
    rw [if_pos this, e]
  · have e2 : sl a p (t + 1) = false := by
      rcases he with x | x
      · exact absurd x e
      · exact x
    have : ff (fun d => !sl a p (f + d)) (48 - f) = t + 1 - f := ff_yes (by omega) (by omega) (by rw [show f + (t + 1 - f) = t + 1 by omega, e2]; rfl) (fun d d0 d1 => by rw [hs _ (by omega) (by omega)]; rfl)
    rw [this, if_neg (by omega)]
    omega
theorem st_le {a : Wd} {p : Int} (hp : 0 ≤ p) (h0 : cn (st a) (48 * p) ≤ 24 * p) : ∀ m : Nat, m ≤ 48 → cn (st a) (48 * p + m) ≤ 24 * p + (m + 1) / 2 ∧ ((m = 0 ∨ sl a p (m - 1) = false) → cn (st a) (48 * p + m) ≤ 24 * p + m / 2)
  | 0, _ => by
    rw [show 48 * p + ((0 : Nat) : Int) = 48 * p by omega]
    omega
  | m + 1, hm => by
    obtain ⟨i1, i2⟩ := st_le hp h0 m (by omega)
    have e := cn_s (f := st a) (i := 48 * p + m) (by omega)
    rw [show 48 * p + ((m + 1 : Nat) : Int) = 48 * p + m + 1 by omega, e]
    have es := st_at (a := a) (p := p) (m := (m : Int)) (by omega) (by omega)
    rw [show (((m + 1 : Nat) : Int) - 1) = (m : Int) by omega]
    cases hb : st a (48 * p + m) with
    | true =>
      rw [hb] at es
      have es' := es.symm
      rw [Bool.and_eq_true, Bool.or_eq_true, decide_eq_true_eq, Bool.not_eq_true'] at es'
      have := i2 (by
        rcases es'.2 with x | x
        · exact Or.inl (by omega)
        · exact Or.inr x)
      rw [if_pos rfl]
      refine ⟨by omega, fun x => ?_⟩
      rcases x with x | x
      · omega
      · rw [es'.1] at x; exact absurd x (by decide)
    | false =>
      rw [if_neg (by decide), Int.add_zero]
      exact ⟨by omega, fun x => by omega⟩
theorem st_le' {a : Wd} : ∀ p : Nat, cn (st a) (48 * p) ≤ 24 * p
  | 0 => Int.le_refl 0
  | p + 1 => by
    have := (st_le (a := a) (p := p) (by omega) (st_le' p) 48 (by omega)).1
    rw [show 48 * (p : Int) + ((48 : Nat) : Int) = 48 * ((p + 1 : Nat) : Int) by omega] at this
    omega
theorem spS_rg {a : Wd} (h : 0 ≤ a.n 0 ∧ a.n 0 ≤ 6) : 0 ≤ spS a ∧ spS a ≤ 144 := by
  have h1 := st_le' (a := a) (a.n 0).toNat
  rw [show (((a.n 0).toNat : Nat) : Int) = a.n 0 by omega] at h1
  have h2 := cn_rg (st a) (n := 48 * a.n 0) (by omega)
  unfold spS
  omega
theorem sp_at {a : Wd} {p f : Int} (hp : 0 ≤ p ∧ p < a.n 0) (hf : 0 ≤ f ∧ f < 48) (hs : st a (48 * p + f) = true) : spK a (cn (st a) (48 * p + f)) = 48 * p + f ∧ spP a (cn (st a) (48 * p + f)) = p ∧ spF a (cn (st a) (48 * p + f)) = f ∧ spT a (cn (st a) (48 * p + f)) = enS a p f ∧ cn (st a) (48 * p + f) < spS a := by
  have e : spK a (cn (st a) (48 * p + f)) = 48 * p + f := kth_at (by omega) (by omega) hs
  have e1 : spP a (cn (st a) (48 * p + f)) = p := by unfold spP; rw [e]; omega
  have e2 : spF a (cn (st a) (48 * p + f)) = f := by unfold spF; rw [e]; omega
  refine ⟨e, e1, e2, by unfold spT; rw [e1, e2], ?_⟩
  have h1 := cn_s (f := st a) (i := 48 * p + f) (by omega)
  have h2 := cn_le (f := st a) (i := 48 * p + f + 1) (j := 48 * a.n 0) (by omega) (by omega)
  rw [hs, if_pos rfl] at h1
  unfold spS
  omega
/-- every span, from its number -/
theorem cn_inv {f : Int → Bool} : ∀ (n : Nat) (j : Int), 0 ≤ j → j < cn f n → ∃ i, (0 ≤ i ∧ i < (n : Int)) ∧ f i = true ∧ cn f i = j
  | 0, j, h0, h1 => by
    have : cn f ((0 : Nat) : Int) = 0 := rfl
    omega
  | n + 1, j, h0, h1 => by
    have e := cn_s (f := f) (i := n) (by omega)
    rw [show ((n + 1 : Nat) : Int) = (n : Int) + 1 by omega, e] at h1
    by_cases c : j < cn f n
    · obtain ⟨i, i0, i1, i2⟩ := cn_inv n j h0 c
      exact ⟨i, ⟨i0.1, by omega⟩, i1, i2⟩
    · cases hb : f n with
      | true =>
        rw [hb, if_pos rfl] at h1
        exact ⟨n, ⟨by omega, by omega⟩, hb, by omega⟩
      | false =>
        rw [hb, if_neg (by decide)] at h1
        omega
theorem sp_ex {a : Wd} (h6 : 0 ≤ a.n 0) {j : Int} (h0 : 0 ≤ j) (h1 : j < spS a) : (0 ≤ spP a j ∧ spP a j < a.n 0) ∧ (0 ≤ spF a j ∧ spF a j < 48) ∧ st a (48 * spP a j + spF a j) = true ∧ cn (st a) (48 * spP a j + spF a j) = j := by
  have h1' : j < cn (st a) ((48 * a.n 0).toNat : Nat) := by
    rw [show (((48 * a.n 0).toNat : Nat) : Int) = 48 * a.n 0 by omega]; exact h1
  obtain ⟨i, i0, i1, i2⟩ := cn_inv (f := st a) (48 * a.n 0).toNat j h0 h1'
  have hi : 48 * (i / 48) + i % 48 = i := by omega
  have e := sp_at (a := a) (p := i / 48) (f := i % 48) (by omega) (by omega) (by rw [hi]; exact i1)
  rw [hi, i2] at e
  rw [e.2.1, e.2.2.1, hi]
  exact ⟨by omega, by omega, i1, i2⟩
theorem enS_rg {a : Wd} {p f : Int} (hf : 0 ≤ f ∧ f < 48) (hs : sl a p f = true) : f ≤ enS a p f ∧ enS a p f ≤ 47 ∧ ∀ m, f ≤ m → m ≤ enS a p f → sl a p m = true := by
  unfold enS
  rcases ff_ca (fun d => !sl a p (f + d)) (48 - f) with ⟨e, hn⟩ | ⟨h1, h2, h3, h4⟩
  · rw [if_pos e]
    refine ⟨by omega, by omega, fun m m0 m1 => ?_⟩
    have := hn (m - f) (by omega) (by omega)
    rw [show f + (m - f) = m by omega, Bool.not_eq_false'] at this
    exact this
  · rw [if_neg (by omega)]
    generalize ff (fun d => !sl a p (f + d)) (48 - f) = r at *
    have : r ≠ 0 := fun e => by
      rw [e, Int.add_zero, hs] at h3
      exact absurd h3 (by decide)
    refine ⟨by omega, by omega, fun m m0 m1 => ?_⟩
    have := h4 (m - f) (by omega) (by omega)
    rw [show f + (m - f) = m by omega, Bool.not_eq_false'] at this
    exact this
theorem sp_rg {a : Wd} (h6 : 0 ≤ a.n 0) {j : Int} (h0 : 0 ≤ j) (h1 : j < spS a) : (0 ≤ spP a j ∧ spP a j < a.n 0) ∧ (0 ≤ spF a j ∧ spF a j ≤ spT a j ∧ spT a j ≤ 47) := by
  obtain ⟨e1, e2, e3, e4⟩ := sp_ex h6 h0 h1
  rw [st_at e2.1 e2.2, Bool.and_eq_true] at e3
  have := enS_rg e2 e3.1
  exact ⟨e1, e2.1, this.1, this.2.1⟩
/-- rows of spans kept by the class, without their pieces; the j-th for j < n -/
def SpX (h : PH) (a : Wd) (n : Int) : Prop := Rw h 113 4 144 n ∧ ∀ j, 0 ≤ j → j < n → gI h 114 (j * 4 + 0).toNat = z (spP a j) ∧ gI h 114 (j * 4 + 1).toNat = z (spF a j) ∧ gI h 114 (j * 4 + 2).toNat = z (spT a j) ∧ gI h 114 (j * 4 + 3).toNat = z (-1)
section SPX
variable {h : PH} {w : Nat} {a : Wd}
theorem SpX.at' {g : PH} {n : Int} (S : SpX h a n) (e : ∀ c k, c = 113 ∨ c = 114 → At h g c k) : SpX g a n := ⟨S.1.at' (fun k => e 113 k (Or.inl rfl)), fun j j0 j1 => by rw [(e 114 _ (Or.inr rfl)).1, (e 114 _ (Or.inr rfl)).1, (e 114 _ (Or.inr rfl)).1, (e 114 _ (Or.inr rfl)).1]; exact S.2 j j0 j1⟩
theorem x_addSpan {Q : Int32 → PH → Prop} {p f t : Int} (S : SpX h a (cn (st a) (48 * p + f))) (hp : 0 ≤ p ∧ p < a.n 0) (h6 : a.n 0 ≤ 6) (hf : 0 ≤ f ∧ f < 48) (hs : st a (48 * p + f) = true) (he : enS a p f = t) (hq : ∀ g v, (∀ c k, ¬ (c = 113 ∨ c = 114) → At h g c k) → SpX g a (cn (st a) (48 * p + f) + 1) → Q v g) : w_X6_add 113 (z p) (z f) (z t) (-1) 0 h Q := by
  obtain ⟨e0, e1, e2, e3, e4⟩ := sp_at hp hf hs
  have sr := spS_rg (a := a) (by omega)
  obtain ⟨R, V⟩ := S
  have n0 := R.2.2.2.1
  refine x_add R (by omega) (fun g R1 V1 E1 => hq g _ (fun c k hc => E1 c k (by omega) (by omega)) ⟨R1, fun j j0 j1 => ?_⟩)
  by_cases e : j = cn (st a) (48 * p + f)
  · have v := fun (c : Int) (c0 : 0 ≤ c) (c1 : c < 4) => V1 c c0 c1
    rw [← e] at v e1 e2 e3
    rw [e1, e2, e3, he]
    exact ⟨v 0 (by omega) (by omega), v 1 (by omega) (by omega), v 2 (by omega) (by omega), v 3 (by omega) (by omega)⟩
  · rw [(E1 114 _ (by omega) (by omega)).1, (E1 114 _ (by omega) (by omega)).1, (E1 114 _ (by omega) (by omega)).1, (E1 114 _ (by omega) (by omega)).1]
    exact V j j0 (by omega)
theorem x_findSpans {Q : PH → Prop} (H : WX h w a) (A : SX h 100 a (far a (-1))) (h6 : 0 ≤ a.n 0 ∧ a.n 0 ≤ 6) (hw : w = 8 ∨ w = 31) (R0 : ∃ n, Rw h 113 4 144 n) (hq : ∀ g, (∀ c k, ¬ (c = 113 ∨ c = 114) → At h g c k) → SpX g a (spS a) → Q g) : w_X3_findSpans w 100 h Q := by
  obtain ⟨n0, R0⟩ := R0
  obtain ⟨a1, a2, a3, a4, a5, a6, a7, a8, a9⟩ := R0
  unfold w_X3_findSpans w_X6_clear
  rintro _ rfl
  have F0 : ∀ c k, ¬ (c = 113 ∨ c = 114) → At h (sI h 113 3 0) c k := fun c k hc => (At.rf h c k).sI (by omega)
  have S0 : SpX (sI h 113 3 0) a 0 := ⟨⟨by rw [gI_out (by omega)]; exact a1, by rw [gI_out (by omega)]; exact a2, gI_in rfl rfl, by omega, by omega, a6, a7, a8, a9⟩, fun j j0 j1 => by omega⟩
  generalize sI h 113 3 0 = h1 at *
  refine for10 (a.n 0) (fun p g => (∀ c k, ¬ (c = 113 ∨ c = 114) → At h g c k) ∧ SpX g a (cn (st a) (48 * p))) 0 rfl (by omega) (by omega) (by omega) ⟨F0, by rw [show cn (st a) (48 * 0) = 0 from rfl]; exact S0⟩ ?_ ?_
  · rintro kb p g p0 p1 ⟨hf, hS⟩ hk
    have hn : gI g (w + 1) 3 = z (a.n 0) := by rw [(hf (w + 1) 3 (by omega)).1]; exact (H.n0 0 (by decide)).1
    unfold w_X3_findSpans_9
    rw [hn, if_neg (by rw [z_le (by omega) (by omega) (by omega) (by omega)]; omega), z_inc]
    refine for21 49 (fun m x g => (∀ c k, ¬ (c = 113 ∨ c = 114) → At h g c k) ∧ ((x = z (-1) ∧ SpX g a (cn (st a) (48 * p + min m 48)) ∧ (m = 0 ∨ 48 < m ∨ sl a p (m - 1) = false)) ∨ (m ≤ 48 ∧ ∃ f, x = z f ∧ (0 ≤ f ∧ f < m) ∧ st a (48 * p + f) = true ∧ (∀ m', f ≤ m' → m' < m → sl a p m' = true) ∧ SpX g a (cn (st a) (48 * p + f)) ∧ cn (st a) (48 * p + m) = cn (st a) (48 * p + f) + 1))) 0 rfl (by omega) (by omega) (by omega) ⟨hf, Or.inl ⟨rfl, by rw [show 48 * p + min 0 48 = 48 * p by omega]; exact hS, Or.inl rfl⟩⟩ ?_ ?_
    · clear hf hS hn g
      rintro kb2 m x g m0 m1 ⟨hf, hx⟩ hk2
      unfold w_X3_findSpans_26
      rw [zn_48, if_neg (by rw [z_lt (by omega) (by omega) (by omega) (by omega)]; omega)]
      have closed : sl a p m = false ∨ m = 48 → w_X3_findSpans_54 w 100 Q kb2 (z p) x (z m) g := by
        intro hsl
        unfold w_X3_findSpans_54 w_X3_findSpans_55 w_X3_findSpans_75
        rw [if_pos rfl, if_pos rfl, zn_1, z_add]
        have ecn : cn (st a) (48 * p + min (m + 1) 48) = cn (st a) (48 * p + min m 48) := by
          by_cases c : m = 48
          · rw [c]; rfl
          · rw [show 48 * p + min (m + 1) 48 = 48 * p + m + 1 by omega, show 48 * p + min m 48 = 48 * p + m by omega, cn_s (by omega), st_at m0 (by omega)]
            have : sl a p m = false := by
              rcases hsl with x | x
              · exact x
              · exact absurd x c
            rw [this]; simp
        have ecl : m + 1 = 0 ∨ 48 < m + 1 ∨ sl a p (m + 1 - 1) = false := by
          rw [show m + 1 - 1 = m by omega]
          rcases hsl with x | x
          · exact Or.inr (Or.inr x)
          · exact Or.inr (Or.inl (by omega))
        rcases hx with ⟨rfl, hS, hc⟩ | ⟨h48, f, rfl, f0, fs, fm, hS, fc⟩
        · rw [if_pos (show z (-1) = -z 1 from rfl)]
          exact hk2 _ _ ⟨hf, Or.inl ⟨rfl, by rw [ecn]; exact hS, ecl⟩⟩
        · rw [if_neg (show ¬ z f = -z 1 from z_ne (by omega) (by omega) (by decide) (by decide) (show f ≠ -1 by omega)), z_sub]
          have he : enS a p f = m - 1 := enS_at f0.1 (by omega) (by omega) (fun m' d0 d1 => fm m' d0 (by omega)) (by
            rcases hsl with x | x
            · exact Or.inr (by rw [show m - 1 + 1 = m by omega]; exact x)
            · exact Or.inl (by omega))
          refine x_addSpan (t := m - 1) hS ⟨p0, p1⟩ h6.2 ⟨f0.1, by omega⟩ fs he (fun g2 v f2 S2 => ?_)
          refine hk2 _ _ ⟨fun c k hc => (hf c k hc).tr (f2 c k hc), Or.inl ⟨rfl, ?_, ecl⟩⟩
          rw [ecn, show 48 * p + min m 48 = 48 * p + m by omega, fc]
          exact S2
      by_cases c48 : 48 ≤ m
      · rw [if_pos (by rw [z_le (by omega) (by omega) (by omega) (by omega)]; omega)]
        exact closed (Or.inr (by omega))
      · rw [if_neg (by rw [z_le (by omega) (by omega) (by omega) (by omega)]; omega)]
        have Sg : SX g 100 a (far a (-1)) := fun p c1 c2 => by rw [(hf 103 _ (by omega)).2.1]; exact A p c1 c2
        refine x_isSilent Sg ⟨p0, by omega⟩ ⟨m0, by omega⟩ (fun d1 d2 => ?_) (fun d1 => ?_)
        · rw [if_neg (by decide)]
          have es : sl a p m = true := by unfold sl; exact decide_eq_true d2
          have est := st_at (a := a) (p := p) m0 (by omega : m < 48)
          have ecs := cn_s (f := st a) (i := 48 * p + m) (by omega)
          rw [es, Bool.true_and] at est
          unfold w_X3_findSpans_55
          rw [if_neg (by decide)]
          rcases hx with ⟨rfl, hS, hc⟩ | ⟨h48, f, rfl, f0, fs, fm, hS, fc⟩
          · rw [if_pos (show z (-1) = -1 from rfl), z_inc]
            have e1 : st a (48 * p + m) = true := by
              rw [est]
              rcases hc with x | x | x
              · rw [decide_eq_true x]; rfl
              · omega
              · rw [x]; simp
            rw [e1, if_pos rfl] at ecs
            rw [show 48 * p + min m 48 = 48 * p + m by omega] at hS
            exact hk2 _ _ ⟨hf, Or.inr ⟨by omega, m, rfl, ⟨m0, by omega⟩, e1, fun m' d0 d1 => by rw [show m' = m by omega]; exact es, hS, by rw [show 48 * p + (m + 1) = 48 * p + m + 1 by omega, ecs]⟩⟩
          · rw [if_neg (show ¬ z f = -1 from z_ne (by omega) (by omega) (by decide) (by decide) (show f ≠ -1 by omega))]
            unfold w_X3_findSpans_75
            rw [if_neg (by decide), z_inc]
            have e1 : st a (48 * p + m) = false := by
              rw [est, fm (m - 1) (by omega) (by omega), decide_eq_false (by omega : ¬ m = 0)]; rfl
            rw [e1, if_neg (by decide), Int.add_zero] at ecs
            exact hk2 _ _ ⟨hf, Or.inr ⟨by omega, f, rfl, ⟨f0.1, by omega⟩, fs, fun m' d0 d1 => by
              by_cases e : m' = m
              · rw [e]; exact es
              · exact fm m' d0 (by omega), hS, by rw [show 48 * p + (m + 1) = 48 * p + m + 1 by omega, ecs]; exact fc⟩⟩
        · rw [if_pos rfl]
          refine closed (Or.inl ?_)
          unfold sl
          exact decide_eq_false (fun x => d1 ⟨p1, x⟩)
    · clear hf hS hn g
      rintro kb2 x g ⟨hf, hx⟩
      unfold w_X3_findSpans_26
      rw [zn_48, if_pos (by rw [z_lt (by omega) (by omega) (by omega) (by omega)]; omega)]
      rcases hx with ⟨rfl, hS, hc⟩ | ⟨h48, _⟩
      · refine hk g ⟨hf, ?_⟩
        rw [show 48 * p + min 49 48 = 48 * (p + 1) by omega] at hS
        exact hS
      · omega
  · rintro kb g ⟨hf, hS⟩
    have hn : gI g (w + 1) 3 = z (a.n 0) := by rw [(hf (w + 1) 3 (by omega)).1]; exact (H.n0 0 (by decide)).1
    unfold w_X3_findSpans_9
    rw [hn, if_pos (by rw [z_le (by omega) (by omega) (by omega) (by omega)]; omega)]
    exact hq g hf hS
end SPX
