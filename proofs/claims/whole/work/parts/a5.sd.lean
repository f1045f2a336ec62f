/-- spans laid out by the reference, their ends for the first e -/
def SpM (h : PH) (a : Wd) (n e : Int) : Prop := gI h 0 76 = z n ∧ (∀ j : Int, 0 ≤ j → j < n → gI h 57 j.toNat = z (spP a j) ∧ gI h 58 j.toNat = z (spF a j)) ∧ ∀ j : Int, 0 ≤ j → j < e → gI h 59 j.toNat = z (spT a j)
def spC (c k : Nat) : Prop := (57 ≤ c ∧ c ≤ 59) ∨ (c = 0 ∧ k = 76)
section SPM
variable {h : PH} {a : Wd}
theorem SpM.at' {g : PH} {n e : Int} (S : SpM h a n e) (f : ∀ c k, spC c k → At h g c k) : SpM g a n e := ⟨by rw [(f 0 76 (by unfold spC; omega)).1]; exact S.1, fun j j0 j1 => by rw [(f 57 _ (by unfold spC; omega)).1, (f 58 _ (by unfold spC; omega)).1]; exact S.2.1 j j0 j1, fun j j0 j1 => by rw [(f 59 _ (by unfold spC; omega)).1]; exact S.2.2 j j0 j1⟩
theorem m_spans {Q Q' : PH → Prop} (e20 : gI h 2 0 = z (a.n 0)) (FSt : FS h a (far a (-1))) (ON : OkN a) (h6 : 0 ≤ a.n 0 ∧ a.n 0 ≤ 6) (h76 : gI h 0 76 = 0) (hq : ∀ g, (∀ c k, ¬ spC c k → At h g c k) → SpM g a (spS a) (spS a) → Q g) : ∃ n, Lp1 (w_X10_layPieces_11 (fun h13 => Q h13) Q') n (z 0) h := by
  have sr := spS_rg h6
  have ON1 := ON.1
  have mono : ∀ k : Int, 0 ≤ k → k ≤ 48 * a.n 0 → 0 ≤ cn (st a) k ∧ cn (st a) k ≤ spS a := fun k k0 k1 => ⟨(cn_rg (st a) k0).1, cn_le k0 k1⟩
  refine for10 (a.n 0) (fun p g => (∀ c k, ¬ spC c k → At h g c k) ∧ SpM g a (cn (st a) (48 * p)) (cn (st a) (48 * p))) 0 rfl (by omega) (by omega) (by omega) ⟨fun c k _ => At.rf h c k, h76, fun j j0 j1 => by have : cn (st a) (48 * 0) = 0 := rfl; omega, fun j j0 j1 => by have : cn (st a) (48 * 0) = 0 := rfl; omega⟩ ?_ ?_
  · rintro kb p g p0 p1 ⟨hf, hS⟩ hk
    unfold w_X10_layPieces_11
    rw [iN_0, (hf 2 0 (by unfold spC; omega)).1, e20, if_neg (by rw [z_le (by omega) (by omega) (by omega) (by omega)]; omega), z_inc]
    refine for10 48 (fun m g => (∀ c k, ¬ spC c k → At h g c k) ∧ ((SpM g a (cn (st a) (48 * p + m)) (cn (st a) (48 * p + m)) ∧ (m = 0 ∨ sl a p (m - 1) = false)) ∨ (∃ f, (0 ≤ f ∧ f < m) ∧ st a (48 * p + f) = true ∧ (∀ m', f ≤ m' → m' < m → sl a p m' = true) ∧ cn (st a) (48 * p + m) = cn (st a) (48 * p + f) + 1 ∧ SpM g a (cn (st a) (48 * p + m)) (cn (st a) (48 * p + f)) ∧ gI g 59 (cn (st a) (48 * p + f)).toNat = z (m - 1)))) 0 rfl (by omega) (by omega) (by omega) ⟨hf, Or.inl ⟨by rw [Int.add_zero]; exact hS, Or.inl rfl⟩⟩ ?_ ?_
    · clear hf hS g
      rintro kb2 m g m0 m1 ⟨hf, hx⟩ hk2
      have est := st_at (a := a) (p := p) m0 m1
      have ecs := cn_s (f := st a) (i := 48 * p + m) (by omega)
      have bc := mono (48 * p + m) (by omega) (by omega)
      have bf := fst_rg ON (far a (-1)) p m
      have e51 : ∀ m', 0 ≤ m' → m' < 48 → gI g 51 (48 * p + m').toNat = z (fst a (far a (-1)) p m') := fun m' d0 d1 => by rw [(hf 51 _ (by unfold spC; omega)).1]; exact FSt p m' p0 p1 d0 d1
      have h76g : gI g 0 76 = z (cn (st a) (48 * p + m)) := by
        rcases hx with ⟨hS, _⟩ | ⟨f, _, _, _, _, hS, _⟩
        · exact hS.1
        · exact hS.1
      unfold w_X10_layPieces_23
      rw [zn_48, if_neg (by rw [z_le (by omega) (by omega) (by omega) (by omega)]; omega), z_mul, z_add, z_iN (a := 48 * p + m) (by omega) (by omega), e51 m m0 m1, z_inc]
      refine ⟨z_in (by omega) (by omega) (by omega), ?_⟩
      by_cases c0 : fst a (far a (-1)) p m = -1
      · rw [if_pos (show z (fst a (far a (-1)) p m) = -1 by rw [c0]; rfl)]
        have es : sl a p m = true := by unfold sl; exact decide_eq_true c0
        rw [es, Bool.true_and] at est
        have new : st a (48 * p + m) = true → SpM g a (cn (st a) (48 * p + m)) (cn (st a) (48 * p + m)) → w_X10_layPieces_68 Q kb2 (z p) (z m) g := by
          intro e1 hS
          rw [e1, if_pos rfl] at ecs
          obtain ⟨q0, q1, q2, q3, q4⟩ := sp_at ⟨p0, p1⟩ ⟨m0, m1⟩ e1
          have bs := mono (48 * p + m + 1) (by omega) (by omega)
          unfold w_X10_layPieces_68 w_X10_layPieces_73
          rw [if_neg (by decide), h76g, z_iN (a := cn (st a) (48 * p + m)) (by omega) (by omega)]
          refine ⟨z_in (by omega) (by omega) (by omega), ?_⟩
          rintro _ rfl
          rw [gI_out (by omega), h76g, z_iN (a := cn (st a) (48 * p + m)) (by omega) (by omega)]
          refine ⟨z_in (by omega) (by omega) (by omega), ?_⟩
          rintro _ rfl _ rfl
          unfold w_X10_layPieces_108
          rw [gI_in rfl rfl, gI_out (by omega), gI_out (by omega), h76g, z_inc, zn_1, z_sub, show cn (st a) (48 * p + m) + 1 - 1 = cn (st a) (48 * p + m) by omega, z_iN (a := cn (st a) (48 * p + m)) (by omega) (by omega)]
          refine ⟨z_in (by omega) (by omega) (by omega), ?_⟩
          rintro _ rfl
          rw [z_add]
          refine hk2 _ ⟨fun c k hc => ((((hf c k hc).sI (by unfold spC at hc; omega)).sI (by unfold spC at hc; omega)).sI (by unfold spC at hc; omega)).sI (by unfold spC at hc; omega), Or.inr ⟨m, ⟨m0, by omega⟩, e1, fun m' d0 d1 => by rw [show m' = m by omega]; exact es, by rw [show 48 * p + (m + 1) = 48 * p + m + 1 by omega, ecs], ⟨?_, fun j j0 j1 => ?_, fun j j0 j1 => ?_⟩, ?_⟩⟩
          · rw [show 48 * p + (m + 1) = 48 * p + m + 1 by omega, ecs, gI_out (by omega), gI_in rfl rfl]
          · rw [show 48 * p + (m + 1) = 48 * p + m + 1 by omega, ecs] at j1
            by_cases e : j = cn (st a) (48 * p + m)
            · rw [e, q1, q2]
              refine ⟨?_, ?_⟩
              · rw [gI_out (by omega), gI_out (by omega), gI_out (by omega), gI_in rfl rfl]
              · rw [gI_out (by omega), gI_out (by omega), gI_in rfl rfl]
            · rw [gI_out (by omega), gI_out (by omega), gI_out (by omega), gI_out (by omega), gI_out (by omega), gI_out (by omega), gI_out (by omega), gI_out (by omega)]
              exact hS.2.1 j j0 (by omega)
          · rw [gI_out (by omega), gI_out (by omega), gI_out (by omega), gI_out (by omega)]
            exact hS.2.2 j j0 j1
          · rw [gI_in rfl rfl, show m + 1 - 1 = m by omega]
        by_cases cm : m = 0
        · rw [if_pos (show z m = 0 by rw [cm]; rfl)]
          refine new (by rw [est, decide_eq_true cm]; rfl) ?_
          rcases hx with ⟨hS, _⟩ | ⟨f, f0, _⟩
          · exact hS
          · omega
        · rw [if_neg (show ¬ z m = 0 from z_ne (by omega) (by omega) (by decide) (by decide) cm), zn_1, z_sub, z_iN (a := 48 * p + m - 1) (by omega) (by omega), show 48 * p + m - 1 = 48 * p + (m - 1) by omega, e51 (m - 1) (by omega) (by omega)]
          refine ⟨z_in (by omega) (by omega) (by omega), ?_⟩
          have bf' := fst_rg ON (far a (-1)) p (m - 1)
          by_cases c1 : fst a (far a (-1)) p (m - 1) = -1
          · rw [if_pos (show z (fst a (far a (-1)) p (m - 1)) = -z 1 by rw [c1]; rfl)]
            have es1 : sl a p (m - 1) = true := by unfold sl; exact decide_eq_true c1
            rcases hx with ⟨hS, hc⟩ | ⟨f, f0, fs, fm, fc, hS, f59⟩
            · exfalso
              rcases hc with x | x
              · exact cm x
              · rw [es1] at x; exact absurd x (by decide)
            · have e1 : st a (48 * p + m) = false := by rw [est, es1, decide_eq_false cm]; rfl
              rw [e1, if_neg (by decide), Int.add_zero] at ecs
              have bs := mono (48 * p + f) (by omega) (by omega)
              unfold w_X10_layPieces_73 w_X10_layPieces_108
              rw [if_pos rfl, h76g, fc, zn_1, z_sub, show cn (st a) (48 * p + f) + 1 - 1 = cn (st a) (48 * p + f) by omega, z_iN (a := cn (st a) (48 * p + f)) (by omega) (by omega)]
              refine ⟨z_in (by omega) (by omega) (by omega), ?_⟩
              rintro _ rfl
              rw [z_add]
              refine hk2 _ ⟨fun c k hc => (hf c k hc).sI (by unfold spC at hc; omega), Or.inr ⟨f, ⟨f0.1, by omega⟩, fs, fun m' d0 d1 => by
                by_cases e : m' = m
                · rw [e]; exact es
                · exact fm m' d0 (by omega), by rw [show 48 * p + (m + 1) = 48 * p + m + 1 by omega, ecs]; exact fc, ⟨?_, fun j j0 j1 => ?_, fun j j0 j1 => ?_⟩, ?_⟩⟩
              · rw [show 48 * p + (m + 1) = 48 * p + m + 1 by omega, ecs, gI_out (by omega)]; exact hS.1
              · rw [show 48 * p + (m + 1) = 48 * p + m + 1 by omega, ecs] at j1
                rw [gI_out (by omega), gI_out (by omega)]
                exact hS.2.1 j j0 j1
              · rw [gI_out (by omega)]; exact hS.2.2 j j0 j1
              · rw [gI_in rfl rfl, show m + 1 - 1 = m by omega]
          · rw [if_neg (show ¬ z (fst a (far a (-1)) p (m - 1)) = -z 1 from z_ne (by omega) (by omega) (by decide) (by decide) c1)]
            have es1 : sl a p (m - 1) = false := by unfold sl; exact decide_eq_false c1
            refine new (by rw [est, es1]; simp) ?_
            rcases hx with ⟨hS, _⟩ | ⟨f, f0, _, fm, _⟩
            · exact hS
            · rw [fm (m - 1) (by omega) (by omega)] at es1; exact absurd es1 (by decide)
      · rw [if_neg (show ¬ z (fst a (far a (-1)) p m) = -1 from z_ne (by omega) (by omega) (by decide) (by decide) c0)]
        have es : sl a p m = false := by unfold sl; exact decide_eq_false c0
        rw [es, Bool.false_and] at est
        rw [est, if_neg (by decide), Int.add_zero] at ecs
        refine hk2 _ ⟨hf, Or.inl ⟨?_, Or.inr (by rw [show m + 1 - 1 = m by omega]; exact es)⟩⟩
        rw [show 48 * p + (m + 1) = 48 * p + m + 1 by omega, ecs]
        rcases hx with ⟨hS, _⟩ | ⟨f, f0, fs, fm, fc, hS, f59⟩
        · exact hS
        · refine ⟨hS.1, hS.2.1, fun j j0 j1 => ?_⟩
          by_cases e : j = cn (st a) (48 * p + f)
          · obtain ⟨q0, q1, q2, q3, q4⟩ := sp_at ⟨p0, p1⟩ ⟨f0.1, by omega⟩ fs
            rw [e, q3, f59, enS_at (t := m - 1) f0.1 (by omega) (by omega) (fun m' d0 d1 => fm m' d0 (by omega)) (Or.inr (by rw [show m - 1 + 1 = m by omega]; exact es))]
          · exact hS.2.2 j j0 (by omega)
    · clear hf hS g
      rintro kb2 g ⟨hf, hx⟩
      unfold w_X10_layPieces_23
      rw [zn_48, if_pos (by rw [z_le (by omega) (by omega) (by omega) (by omega)]; omega)]
      refine hk g ⟨hf, ?_⟩
      rw [show 48 * (p + 1) = 48 * p + 48 by omega]
      rcases hx with ⟨hS, _⟩ | ⟨f, f0, fs, fm, fc, hS, f59⟩
      · exact hS
      · refine ⟨hS.1, hS.2.1, fun j j0 j1 => ?_⟩
        by_cases e : j = cn (st a) (48 * p + f)
        · obtain ⟨q0, q1, q2, q3, q4⟩ := sp_at ⟨p0, p1⟩ ⟨f0.1, by omega⟩ fs
          rw [e, q3, f59, enS_at (t := 48 - 1) f0.1 (by omega) (by omega) (fun m' d0 d1 => fm m' d0 (by omega)) (Or.inl (by omega))]
        · exact hS.2.2 j j0 (by omega)
  · rintro kb g ⟨hf, hS⟩
    unfold w_X10_layPieces_11
    rw [iN_0, (hf 2 0 (by unfold spC; omega)).1, e20, if_pos (by rw [z_le (by omega) (by omega) (by omega) (by omega)]; omega)]
    exact hq g hf hS
end SPM
/-! ===== pieces: spans that touch ===== -/
def besB (a : Wd) (p q : Int) : Bool := decide (ff (fun l => decide (a.f 1 3 l = 0) && ((decide (a.f 1 0 l = p) && decide (a.f 1 1 l = q)) || (decide (a.f 1 0 l = q) && decide (a.f 1 1 l = p)))) (a.n 1) ≠ -1)
noncomputable def tch (a : Wd) (i j : Int) : Bool := decide (spF a i ≤ spT a j) && decide (spF a j ≤ spT a i) && besB a (spP a i) (spP a j)
theorem bes_iff {a : Wd} {p q : Int} : besB a p q = true ↔ ∃ l, (0 ≤ l ∧ l < a.n 1) ∧ a.f 1 3 l = 0 ∧ ((a.f 1 0 l = p ∧ a.f 1 1 l = q) ∨ (a.f 1 0 l = q ∧ a.f 1 1 l = p)) := by
  unfold besB
  rw [decide_eq_true_eq]
  rcases ff_ca (fun l => decide (a.f 1 3 l = 0) && ((decide (a.f 1 0 l = p) && decide (a.f 1 1 l = q)) || (decide (a.f 1 0 l = q) && decide (a.f 1 1 l = p)))) (a.n 1) with ⟨e, hn⟩ | ⟨h1, h2, h3, h4⟩
  · refine ⟨fun x => absurd e x, fun ⟨l, l0, l1, l2⟩ => ?_⟩
    have := hn l l0.1 l0.2
    simp only [Bool.and_eq_false_iff, Bool.or_eq_false_iff, decide_eq_false_iff_not] at this
    rcases this with x | ⟨x, y⟩
    · exact absurd l1 x
    · rcases l2 with ⟨u, v⟩ | ⟨u, v⟩
      · rcases x with x | x
        · exact absurd u x
        · exact absurd v x
      · rcases y with y | y
        · exact absurd u y
        · exact absurd v y
  · simp only [Bool.and_eq_true, Bool.or_eq_true, decide_eq_true_eq] at h3
    exact ⟨fun _ => ⟨_, ⟨h1, h2⟩, h3.1, h3.2⟩, fun _ => by omega⟩
theorem bes_sy {a : Wd} {p q : Int} : besB a p q = besB a q p := by
  have key : ∀ p q, besB a p q = true → besB a q p = true := fun p q hh => by
    obtain ⟨l, l0, l1, l2⟩ := bes_iff.mp hh
    exact bes_iff.mpr ⟨l, l0, l1, l2.symm⟩
  cases h1 : besB a p q with
  | true => exact (key p q h1).symm
  | false =>
    cases h2 : besB a q p with
    | false => rfl
    | true => rw [key q p h2] at h1; exact absurd h1 (by decide)
theorem tch_sy {a : Wd} {i j : Int} : tch a i j = tch a j i := by
  unfold tch
  rw [bes_sy, Bool.and_comm (decide (spF a i ≤ spT a j))]
def conN (t : Int → Int → Bool) (S : Int) : Nat → Int → Int → Prop
  | 0, i, j => i = j
  | n + 1, i, j => ∃ c, conN t S n i c ∧ (0 ≤ c ∧ c < S) ∧ t c j = true
/-- reached by spans that touch -/
def con (t : Int → Int → Bool) (S i j : Int) : Prop := ∃ n, conN t S n i j
section CON
variable {t : Int → Int → Bool} {S : Int}
theorem con_rf (i : Int) : con t S i i := ⟨0, rfl⟩
theorem con_st {i c j : Int} (h : con t S i c) (hc : 0 ≤ c ∧ c < S) (ht : t c j = true) : con t S i j := by
  obtain ⟨n, hn⟩ := h
  exact ⟨n + 1, c, hn, hc, ht⟩
theorem conN_tr {i j : Int} (hij : con t S i j) : ∀ (n : Nat) (k : Int), conN t S n j k → con t S i k
  | 0, k, h => by
    have e : j = k := h
    rw [← e]; exact hij
  | n + 1, k, ⟨c, hc, c0, ht⟩ => con_st (conN_tr hij n c hc) c0 ht
theorem con_tr {i j k : Int} (h1 : con t S i j) (h2 : con t S j k) : con t S i k := by
  obtain ⟨n, hn⟩ := h2
  exact conN_tr h1 n k hn
theorem conN_sy (sy : ∀ i j, t i j = t j i) : ∀ (n : Nat) (i j : Int), (0 ≤ j ∧ j < S) → conN t S n i j → con t S j i
  | 0, i, j, _, h => by
    have e : i = j := h
    rw [e]; exact con_rf j
  | n + 1, i, j, hj, ⟨c, hc, c0, ht⟩ => by
    have h1 := conN_sy sy n i c c0 hc
    rw [sy] at ht
    exact con_tr (con_st (con_rf j) hj ht) h1
theorem con_sy (sy : ∀ i j, t i j = t j i) {i j : Int} (hj : 0 ≤ j ∧ j < S) (h : con t S i j) : con t S j i := by
  obtain ⟨n, hn⟩ := h
  exact conN_sy sy n i j hj hn
/-- the first span of a span's piece -/
noncomputable def fsp (t : Int → Int → Bool) (S k : Int) : Int := ff (fun j => @decide (con t S j k) (Classical.propDecidable _)) S
theorem fsp_at {k : Int} (h0 : 0 ≤ k) (h1 : k < S) : 0 ≤ fsp t S k ∧ fsp t S k ≤ k ∧ con t S (fsp t S k) k ∧ ∀ j, 0 ≤ j → j < fsp t S k → ¬ con t S j k := by
  unfold fsp
  rcases ff_ca (fun j => @decide (con t S j k) (Classical.propDecidable _)) S with ⟨e, hn⟩ | ⟨g1, g2, g3, g4⟩
  · exact absurd (con_rf k) (@of_decide_eq_false _ (Classical.propDecidable _) (hn k h0 h1))
  · refine ⟨g1, ?_, @of_decide_eq_true _ (Classical.propDecidable _) g3, fun j j0 j1 => @of_decide_eq_false _ (Classical.propDecidable _) (g4 j j0 j1)⟩
    by_cases c : ff (fun j => @decide (con t S j k) (Classical.propDecidable _)) S ≤ k
    · exact c
    · exact absurd (con_rf k) (@of_decide_eq_false _ (Classical.propDecidable _) (g4 k h0 (by omega)))
theorem fsp_eq (sy : ∀ i j, t i j = t j i) {i j : Int} (hi : 0 ≤ i ∧ i < S) (hj : 0 ≤ j ∧ j < S) (h : con t S i j) : fsp t S i = fsp t S j := by
  obtain ⟨a1, a2, a3, a4⟩ := fsp_at (t := t) hi.1 hi.2
  obtain ⟨b1, b2, b3, b4⟩ := fsp_at (t := t) hj.1 hj.2
  have c1 : ¬ fsp t S i < fsp t S j := fun x => b4 _ a1 x (con_tr a3 h)
  have c2 : ¬ fsp t S j < fsp t S i := fun x => a4 _ b1 x (con_tr b3 (con_sy sy hj h))
  omega
noncomputable def isF (t : Int → Int → Bool) (S : Int) : Int → Bool := fun j => decide (fsp t S j = j)
/-- a span's piece -/
noncomputable def lab (t : Int → Int → Bool) (S k : Int) : Int := cn (isF t S) (fsp t S k)
/-- pieces of the spans found from those ahead of i -/
noncomputable def labA (t : Int → Int → Bool) (S i k : Int) : Int := if fsp t S k < i then lab t S k else -1
theorem lab_rg {k : Int} (h0 : 0 ≤ k) (h1 : k < S) : 0 ≤ lab t S k ∧ lab t S k ≤ k := by
  have a := fsp_at (t := t) h0 h1
  have b := cn_rg (isF t S) a.1
  unfold lab
  omega
end CON
