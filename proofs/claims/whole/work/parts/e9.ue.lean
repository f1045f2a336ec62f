/-! ===== what the reference has read so far: the upper halves ===== -/
def mcL : List (List Nat) := [[3, 27], [4, 5, 6], [7, 8, 9], [10, 11, 12, 13, 14], [15, 16, 17, 18], [19, 20, 21, 22], [23, 24, 25, 26]]
def mc (r c : Nat) : Nat := (mcL.getD r []).getD c 0
def mw (r : Nat) : Nat := (mcL.getD r []).length
def mv (r c : Nat) (v : Int) : Int := if r = 2 ∧ c = 2 then v + 1 else v
def KF (h : PH) (i : Nat) (fr : Int) (ks : List Int) (kc : Int) : Prop := gI h 28 (2 + i) = z fr ∧ gI h 29 (2 + i) = z (fr + ks.length) ∧ 0 ≤ fr ∧ fr + ks.length ≤ kc ∧ ∀ j : Nat, j < ks.length → gI h 30 (64 + (fr.toNat + j)) = z (kso (kat ks j)) ∧ gI h 31 (64 + (fr.toNat + j)) = z (kva (kat ks j))
def MF (h : PH) (s : PS) : Prop := (∀ r, r < 7 → gI h 2 (11 + r) = z (s.a.n r)) ∧ (gI h 2 18 = z (if s.on 0 = -1 then 5 else s.on 0) ∧ gI h 2 19 = z (if s.on 1 = -1 then 1 else s.on 1) ∧ gI h 2 21 = z s.kc) ∧ (∀ r c, r < 7 → c < mw r → ∀ k, 0 ≤ k → k < s.a.n r → gI h (mc r c) (capT r + k).toNat = z (mv r c (s.a.f r c k))) ∧ ((∃ fr, KF h 0 fr s.a.fd s.kc) ∧ ∃ fr, KF h 1 fr s.a.wo s.kc) ∧ gI h 0 44 = z 0 ∧ gI h 0 45 = z s.kc
def ToldM (x : Int32) (s : PS) : Prop := ((bt x 9 = true ↔ s.on 0 ≠ -1) ∧ (bt x 10 = true ↔ s.on 1 ≠ -1) ∧ (bt x 11 = true ↔ s.on 2 ≠ -1)) ∧ (bt x 16 = true ↔ s.a.fd ≠ []) ∧ (bt x 17 = true ↔ s.a.wo ≠ [])
/-- where they lie -/
def nF (s : PS) (c k : Nat) : Prop := (c = 2 ∧ 11 ≤ k ∧ k ≤ 21) ∨ (∃ r col, r < 7 ∧ col < mw r ∧ c = mc r col ∧ capT r ≤ (k : Int) ∧ (k : Int) < capT r + s.a.n r) ∨ (28 ≤ c ∧ c ≤ 29) ∨ (30 ≤ c ∧ c ≤ 31 ∧ (k : Int) < 64 + s.kc) ∨ (c = 0 ∧ (k = 44 ∨ k = 45))
theorem mc_tab : ∀ r r' : Fin 7, ∀ c c' : Fin 5, c.val < mw r.val → c'.val < mw r'.val → mc r.val c.val = mc r'.val c'.val → r = r' ∧ c = c' := by decide +kernel
theorem mw_tab : ∀ r : Fin 7, mw r.val ≤ 5 ∧ ∀ c : Fin 5, c.val < mw r.val → 3 ≤ mc r.val c.val ∧ mc r.val c.val ≤ 27 := by decide +kernel
theorem mc_rg {r c : Nat} (hr : r < 7) (hc : c < mw r) : 3 ≤ mc r c ∧ mc r c ≤ 27 := by
  have a := mw_tab ⟨r, hr⟩
  have b := a.1
  simp only at b
  exact a.2 ⟨c, by omega⟩ hc
theorem mc_inj {r c r' c' : Nat} (hr : r < 7) (hc : c < mw r) (hr' : r' < 7) (hc' : c' < mw r') (e : mc r c = mc r' c') : r = r' ∧ c = c' := by
  have a := (mw_tab ⟨r, hr⟩).1
  have b := (mw_tab ⟨r', hr'⟩).1
  simp only at a b
  have := mc_tab ⟨r, hr⟩ ⟨r', hr'⟩ ⟨c, by omega⟩ ⟨c', by omega⟩ hc hc' e
  exact ⟨congrArg Fin.val this.1, congrArg Fin.val this.2⟩
theorem capT_rg {r : Nat} (hr : r < 7) : 4 ≤ capT r ∧ capT r ≤ 9 := by
  have : r = 0 ∨ r = 1 ∨ r = 2 ∨ r = 3 ∨ r = 4 ∨ r = 5 ∨ r = 6 := by omega
  rcases this with rfl | rfl | rfl | rfl | rfl | rfl | rfl <;> decide
section MFS
variable {h g : PH} {s : PS}
theorem KF.at' {i : Nat} {fr kc : Int} {ks : List Int} (K : KF h i fr ks kc) (hi : i < 2) (hk : kc ≤ 64) (e1 : ∀ c k : Nat, 28 ≤ c → c ≤ 29 → gI g c k = gI h c k) (e2 : ∀ c k : Nat, 30 ≤ c → c ≤ 31 → (k : Int) < 64 + kc → gI g c k = gI h c k) : KF g i fr ks kc := by
  obtain ⟨k1, k2, k3, k4, k5⟩ := K
  refine ⟨by rw [e1 28 _ (by omega) (by omega)]; exact k1, by rw [e1 29 _ (by omega) (by omega)]; exact k2, k3, k4, fun j hj => ⟨?_, ?_⟩⟩
  · rw [e2 30 _ (by omega) (by omega) (by omega)]; exact (k5 j hj).1
  · rw [e2 31 _ (by omega) (by omega) (by omega)]; exact (k5 j hj).2
theorem MF.at2 (M : MF h s) (kc : s.kc ≤ 64) (e : ∀ c k, nF s c k → gI g c k = gI h c k) : MF g s := by
  obtain ⟨m1, ⟨m2, m3, m4⟩, m5, ⟨⟨f1, m6⟩, ⟨f2, m7⟩⟩, m8, m9⟩ := M
  refine ⟨fun r hr => ?_, ⟨?_, ?_, ?_⟩, fun r c hr hc k k0 k1 => ?_, ⟨⟨f1, m6.at' (by omega) kc (fun c k a b => e c k (Or.inr (Or.inr (Or.inl ⟨a, b⟩)))) (fun c k a b d => e c k (Or.inr (Or.inr (Or.inr (Or.inl ⟨a, b, d⟩)))))⟩, ⟨f2, m7.at' (by omega) kc (fun c k a b => e c k (Or.inr (Or.inr (Or.inl ⟨a, b⟩)))) (fun c k a b d => e c k (Or.inr (Or.inr (Or.inr (Or.inl ⟨a, b, d⟩)))))⟩⟩, ?_, ?_⟩
  · rw [e 2 (11 + r) (Or.inl ⟨rfl, by omega, by omega⟩)]; exact m1 r hr
  · rw [e 2 18 (Or.inl ⟨rfl, by omega, by omega⟩)]; exact m2
  · rw [e 2 19 (Or.inl ⟨rfl, by omega, by omega⟩)]; exact m3
  · rw [e 2 21 (Or.inl ⟨rfl, by omega, by omega⟩)]; exact m4
  · have cr := capT_rg hr
    rw [e (mc r c) (capT r + k).toNat (Or.inr (Or.inl ⟨r, c, hr, hc, rfl, by omega, by omega⟩))]; exact m5 r c hr hc k k0 k1
  · rw [e 0 44 (Or.inr (Or.inr (Or.inr (Or.inr ⟨rfl, Or.inl rfl⟩))))]; exact m8
  · rw [e 0 45 (Or.inr (Or.inr (Or.inr (Or.inr ⟨rfl, Or.inr rfl⟩))))]; exact m9
theorem MF.at' (M : MF h s) (O : OkPs s) (e : ∀ c k, nF s c k → gI g c k = gI h c k) : MF g s := M.at2 O.2.2.2.2.2 e
theorem nF_0 {c k : Nat} (n : nF s c k) (hc : c = 0) : k = 44 ∨ k = 45 := by
  rcases n with ⟨a, -⟩ | ⟨r, col, a, b, d, -⟩ | ⟨a, -⟩ | ⟨a, -⟩ | ⟨-, b⟩
  · omega
  · have := mc_rg a b; omega
  · omega
  · omega
  · exact b
theorem MF.ms (M : MF h s) (O : OkPs s) (f : msF h g) : MF g s := M.at' O (fun c k n => (f c k (fun x => by have := nF_0 n x.1; omega)).1)
theorem MF.c0 {k : Nat} {x : Int32} (M : MF h s) (O : OkPs s) (hk : k ≠ 44 ∧ k ≠ 45) : MF (sI h 0 k x) s := M.at' O (fun c j n => by
  rw [gI_out (fun x => by have := nF_0 n x.1; omega)])
theorem MF.row {r c k : Nat} {x : Int32} (M : MF h s) (O : OkPs s) (hr : r < 7) (hc : c < mw r) (hk : capT r + s.a.n r ≤ (k : Int)) : MF (sI h (mc r c) k x) s := M.at' O (fun c' k' n => by
  have m := mc_rg hr hc
  rw [gI_out]
  rintro ⟨rfl, rfl⟩
  rcases n with ⟨a, -⟩ | ⟨r', col, a, b, d, e1, e2⟩ | ⟨a, -⟩ | ⟨a, -⟩ | ⟨a, -⟩
  · omega
  · have := mc_inj hr hc a b d
    rw [← this.1] at e2
    omega
  · omega
  · omega
  · omega)
/-- one more row -/
theorem MF.add {r : Nat} {f : Nat → Int} (M : MF h s) (hr : r < 7) (hf : ∀ c, c < mw r → gI h (mc r c) (capT r + s.a.n r).toNat = z (mv r c (f c))) : MF (sI h 2 (11 + r) (z (s.a.n r + 1))) (s.wd (adR s.a r f)) := by
  obtain ⟨m1, ⟨m2, m3, m4⟩, m5, ⟨⟨f1, m6⟩, ⟨f2, m7⟩⟩, m8, m9⟩ := M
  refine ⟨fun r' hr' => ?_, ⟨?_, ?_, ?_⟩, fun r' c hr' hc k k0 k1 => ?_, ⟨⟨f1, ?_⟩, ⟨f2, ?_⟩⟩, ?_, ?_⟩
  · show _ = z ((adR s.a r f).n r')
    by_cases e : r' = r
    · subst e; rw [adR_n, gI_in rfl rfl]
    · rw [adR_n' e, gI_out (by omega)]; exact m1 r' hr'
  · rw [gI_out (by omega)]; exact m2
  · rw [gI_out (by omega)]; exact m3
  · rw [gI_out (by omega)]; exact m4
  · have mr := mc_rg hr' hc
    rw [gI_out (by omega)]
    replace k1 : k < (adR s.a r f).n r' := k1
    show _ = z (mv r' c ((adR s.a r f).f r' c k))
    by_cases e : r' = r
    · subst e
      rw [adR_n] at k1
      by_cases ek : k = s.a.n r'
      · subst ek; rw [adR_in]; exact hf c hc
      · rw [adR_out (fun x => ek x.2)]; exact m5 r' c hr' hc k k0 (by omega)
    · rw [adR_n' e] at k1
      rw [adR_out (fun x => e x.1)]; exact m5 r' c hr' hc k k0 k1
  · obtain ⟨k1, k2, k3, k4, k5⟩ := m6
    exact ⟨by rw [gI_out (by omega)]; exact k1, by rw [gI_out (by omega)]; exact k2, k3, k4, fun j hj => ⟨by rw [gI_out (by omega)]; exact (k5 j hj).1, by rw [gI_out (by omega)]; exact (k5 j hj).2⟩⟩
  · obtain ⟨k1, k2, k3, k4, k5⟩ := m7
    exact ⟨by rw [gI_out (by omega)]; exact k1, by rw [gI_out (by omega)]; exact k2, k3, k4, fun j hj => ⟨by rw [gI_out (by omega)]; exact (k5 j hj).1, by rw [gI_out (by omega)]; exact (k5 j hj).2⟩⟩
  · rw [gI_out (by omega)]; exact m8
  · rw [gI_out (by omega)]; exact m9
/-- one cell of a told row written -/
theorem MF.up {r c : Nat} {k v : Int} (M : MF h s) (hr : r < 7) (hc : c < mw r) (k0 : 0 ≤ k) : MF (sI h (mc r c) (capT r + k).toNat (z (mv r c v))) (s.wd (upF s.a r c (fun j => if j = k then v else s.a.f r c j))) := by
  obtain ⟨m1, ⟨m2, m3, m4⟩, m5, ⟨⟨f1, m6⟩, ⟨f2, m7⟩⟩, m8, m9⟩ := M
  have mr := mc_rg hr hc
  have cr := capT_rg hr
  refine ⟨fun r' hr' => ?_, ⟨?_, ?_, ?_⟩, fun r' c' hr' hc' k' k0' k1' => ?_, ⟨⟨f1, ?_⟩, ⟨f2, ?_⟩⟩, ?_, ?_⟩
  · rw [gI_out (by omega)]; exact m1 r' hr'
  · rw [gI_out (by omega)]; exact m2
  · rw [gI_out (by omega)]; exact m3
  · rw [gI_out (by omega)]; exact m4
  · show _ = z (mv r' c' ((upF s.a r c (fun j => if j = k then v else s.a.f r c j)).f r' c' k'))
    by_cases e : r' = r ∧ c' = c
    · obtain ⟨rfl, rfl⟩ := e
      rw [upF_in]
      by_cases ek : k' = k
      · rw [if_pos ek, ek, gI_in rfl rfl]
      · rw [if_neg ek, gI_out (by omega)]; exact m5 r' c' hr' hc' k' k0' k1'
    · rw [upF_out e, gI_out (fun x => e (mc_inj hr' hc' hr hc x.1))]; exact m5 r' c' hr' hc' k' k0' k1'
  · obtain ⟨k1, k2, k3, k4, k5⟩ := m6
    exact ⟨by rw [gI_out (by omega)]; exact k1, by rw [gI_out (by omega)]; exact k2, k3, k4, fun j hj => ⟨by rw [gI_out (by omega)]; exact (k5 j hj).1, by rw [gI_out (by omega)]; exact (k5 j hj).2⟩⟩
  · obtain ⟨k1, k2, k3, k4, k5⟩ := m7
    exact ⟨by rw [gI_out (by omega)]; exact k1, by rw [gI_out (by omega)]; exact k2, k3, k4, fun j hj => ⟨by rw [gI_out (by omega)]; exact (k5 j hj).1, by rw [gI_out (by omega)]; exact (k5 j hj).2⟩⟩
  · rw [gI_out (by omega)]; exact m8
  · rw [gI_out (by omega)]; exact m9
end MFS
/-- what reading may change -/
def hfL : List Nat := [0, 0, 11, 6, 9, 9, 9, 4, 4, 4, 8, 8, 8, 8, 8, 8, 8, 8, 8, 6, 6, 6, 6, 4, 4, 4, 4, 6, 2, 2, 64, 64]
def hf (c : Nat) : Nat := hfL.getD c 0
def fz (c k : Nat) : Prop := (c = 0 ∧ (k = 33 ∨ k = 34 ∨ (36 ≤ k ∧ k ≤ 41) ∨ k = 44 ∨ k = 45)) ∨ (2 ≤ c ∧ c ≤ 31 ∧ hf c ≤ k)
def fzF (h g : PH) : Prop := ∀ c k, ¬ fz c k → At h g c k
theorem fzF.tr {h g f : PH} (a : fzF h g) (b : fzF g f) : fzF h f := fun c k hc => (a c k hc).tr (b c k hc)
theorem msF.fz {h g : PH} (a : msF h g) : fzF h g := fun c k hc => a c k (fun x => hc (Or.inl ⟨x.1, by omega⟩))
theorem hf_tab : ∀ r : Fin 7, ∀ c : Fin 5, c.val < mw r.val → (hf (mc r.val c.val) : Int) = capT r.val := by decide +kernel
theorem hf_mc {r c : Nat} (hr : r < 7) (hc : c < mw r) : (hf (mc r c) : Int) = capT r := by
  have a := (mw_tab ⟨r, hr⟩).1
  simp only at a
  exact hf_tab ⟨r, hr⟩ ⟨c, by omega⟩ hc
/-- a line under way: what stands since its word -/
def LnS (h0 h : PH) (T : Int → Int) (L : Int) (s : PS) (tv : Int32) : Prop := ScM h T L ∧ MF h s ∧ fzF h0 h ∧ gI h 0 33 = tv ∧ gI h 0 34 = gI h0 0 34
section LSS
variable {h0 h g : PH} {T : Int → Int} {L p : Int} {s : PS} {tv : Int32} {r0 : PR}
theorem LnS.ms (A : LnS h0 h T L s tv) (O : OkPs s) (f : msF h g) : LnS h0 g T L s tv := ⟨A.1.ms f, A.2.1.ms O f, A.2.2.1.tr f.fz, by rw [(f 0 33 (by omega)).1]; exact A.2.2.2.1, by rw [(f 0 34 (by omega)).1]; exact A.2.2.2.2⟩
theorem LnS.row {r c k : Nat} {x : Int32} (A : LnS h0 h T L s tv) (O : OkPs s) (hr : r < 7) (hc : c < mw r) (hk : capT r + s.a.n r ≤ (k : Int)) : LnS h0 (sI h (mc r c) k x) T L s tv := by
  have m := mc_rg hr hc
  have e := hf_mc hr hc
  have n0 := ((O.1.1 r hr).1).1
  refine ⟨A.1.at' (fun c' k' hc' => (At.rf h c' k').sI (by omega)), A.2.1.row O hr hc hk, fun c' k' hc' => (A.2.2.1 c' k' hc').sI (fun y => hc' (Or.inr ⟨by omega, by omega, by rw [y.1]; omega⟩)), by rw [gI_out (by omega)]; exact A.2.2.2.1, by rw [gI_out (by omega)]; exact A.2.2.2.2⟩
theorem Hm.row {r c k : Nat} {x : Int32} {P : Int → PR} (H : Hm h T L r0 P) (hr : r < 7) (hc : c < mw r) : Hm (sI h (mc r c) k x) T L r0 P := by
  have m := mc_rg hr hc
  exact H.at' (fun k' _ _ => (At.rf h 0 k').sI (by omega))
theorem m_frs {Q : Int32 → PH → Prop} {r : Nat} {x : Int32} (M : MF h s) (hr : r < 7) (ex : x = z r) (hq : Q (z (s.a.n r)) h) : w_X10_fresher x h Q := by
  subst ex
  unfold w_X10_fresher
  rw [show (11 : Int32) = z 11 from rfl, z_add, z_iN (by omega) (by omega), show (11 + (r : Int)).toNat = 11 + r by omega, M.1 r hr]
  exact ⟨z_in (by omega) (by omega) (by omega), hq⟩
theorem m_rds {Q : PH → Prop} {r : Nat} {x y : Int32} (hr : r < 11) (ex : x = z r) (hq : Q (sI h 2 (11 + r) y)) : w_X10_reads x y h Q := by
  subst ex
  unfold w_X10_reads
  rw [show (11 : Int32) = z 11 from rfl, z_add, z_iN (by omega) (by omega), show (11 + (r : Int)).toNat = 11 + r by omega]
  refine ⟨z_in (by omega) (by omega) (by omega), ?_⟩
  rintro _ rfl
  exact hq
theorem nm_pl (M : MF h s) (O : OkPs s) : NmM h 3 6 s.a 0 := by
  have n := (O.1.1 0 (by omega)).1
  have c0 : capT 0 = 6 := rfl
  have al : alM 3 = 12 := rfl
  refine ⟨by omega, by omega, by omega, fun k k0 k1 => ?_⟩
  have b := O.nm0 k k0 k1
  exact ⟨M.2.2.1 0 0 (by omega) (by decide) k k0 k1, by omega, by omega⟩
theorem nm_ow (M : MF h s) (O : OkPs s) : NmM h 7 4 s.a 2 := by
  have n := (O.1.1 2 (by omega)).1
  have c0 : capT 2 = 4 := rfl
  have al : alM 7 = 8 := rfl
  refine ⟨by omega, by omega, by omega, fun k k0 k1 => ?_⟩
  have b := O.nm2 k k0 k1
  exact ⟨M.2.2.1 2 0 (by omega) (by decide) k k0 k1, by omega, by omega⟩
theorem m_plcAt {Q : Int32 → PH → Prop} {K : Int → Int → PR} (A : LnS h0 h T L s tv) (O : OkPs s) (H : Hm h T L r0 (pTold T L s.a 0 K)) (hq : ∀ g i, msF h g → LnS h0 g T L s tv → (0 ≤ i ∧ i < 6) → Hm g T L r0 (K i) → (gI g 0 40 = z 0 → i < s.a.n 0) → Q (z i) g) : w_X10_placeAtHand h Q := by
  have n := (O.1.1 0 (by omega)).1
  have c0 : capT 0 = 6 := rfl
  unfold w_X10_placeAtHand
  refine m_frs (r := 0) A.2.1 (by omega) rfl ?_
  exact m_atHand A.1 (by decide) (nm_pl A.2.1 O) rfl rfl H (fun g i f hi H' hl => hq g i f (A.ms O f) (by omega) H' hl)
theorem m_ownAt {Q : Int32 → PH → Prop} {K : Int → Int → PR} (A : LnS h0 h T L s tv) (O : OkPs s) (H : Hm h T L r0 (pTold T L s.a 2 K)) (hq : ∀ g i, msF h g → LnS h0 g T L s tv → (0 ≤ i ∧ i < 4) → Hm g T L r0 (K i) → (gI g 0 40 = z 0 → i < s.a.n 2) → Q (z i) g) : w_X10_ownerAtHand h Q := by
  have n := (O.1.1 2 (by omega)).1
  have c0 : capT 2 = 4 := rfl
  unfold w_X10_ownerAtHand
  refine m_frs (r := 2) A.2.1 (by omega) rfl ?_
  exact m_atHand A.1 (by decide) (nm_ow A.2.1 O) rfl rfl H (fun g i f hi H' hl => hq g i f (A.ms O f) (by omega) H' hl)
theorem m_plc {Q : Int32 → PH → Prop} {K : Int → Int → PR} (A : LnS h0 h T L s tv) (O : OkPs s) (H : Hm h T L r0 (pTold T L s.a 0 (fun i p1 => K i (tE T L p1)))) (hq : ∀ g i, msF h g → LnS h0 g T L s tv → (0 ≤ i ∧ i < 6) → Hm g T L r0 (K i) → Q (z i) g) : w_X10_placeAhead h Q := by
  unfold w_X10_placeAhead
  refine m_plcAt A O H (fun g i f A' hi H' _ => ?_)
  refine m_goOn A'.1 H' (fun g2 f2 H2 => ?_)
  exact hq g2 i (f.tr f2) (A'.ms O f2) hi H2
theorem m_own {Q : Int32 → PH → Prop} {K : Int → Int → PR} (A : LnS h0 h T L s tv) (O : OkPs s) (H : Hm h T L r0 (pTold T L s.a 2 (fun i p1 => K i (tE T L p1)))) (hq : ∀ g i, msF h g → LnS h0 g T L s tv → (0 ≤ i ∧ i < 4) → Hm g T L r0 (K i) → Q (z i) g) : w_X10_ownerAhead h Q := by
  unfold w_X10_ownerAhead
  refine m_ownAt A O H (fun g i f A' hi H' _ => ?_)
  refine m_goOn A'.1 H' (fun g2 f2 H2 => ?_)
  exact hq g2 i (f.tr f2) (A'.ms O f2) hi H2
theorem m_num {Q : Int32 → PH → Prop} {lo hi : Int} {x1 x2 : Int32} {K : Int → Int → PR} (A : LnS h0 h T L s tv) (O : OkPs s) (e1 : x1 = z lo) (e2 : x2 = z hi) (hl : 0 ≤ lo ∧ lo ≤ hi ∧ hi ≤ 99999) (H : Hm h T L r0 (pNum T L lo hi (fun v p => K v (tE T L p)))) (hq : ∀ g v, msF h g → LnS h0 g T L s tv → lo ≤ v → v ≤ hi → Hm g T L r0 (K v) → Q (z v) g) : w_X10_numeral x1 x2 h Q := m_numeral A.1 e1 e2 hl H (fun g v f l1 l2 H' => hq g v f (A.ms O f) l1 l2 H')
/-- a line's end: what the line leaves -/
def LnP (h0 g : PH) (T : Int → Int) (L : Int) (r0 : PR) : Prop := fzF h0 g ∧ ScM g T L ∧ (FtF g r0 ∨ (gI g 0 40 = z 0 ∧ ∃ s' q, (0 ≤ q ∧ q ≤ L) ∧ TcM g T L q ∧ r0 = .inr (s', q) ∧ MF g s' ∧ ToldM (gI g 0 33) s' ∧ gI g 0 34 = gI h0 0 34 + 1))
theorem m_lnEnd {Q : PH → Prop} {s' : PS} (A : LnS h0 h T L s' tv) (O : s'.kc ≤ 64) (U : ToldM tv s') (H : Hm h T L r0 (pEnd T L s')) (hq : ∀ g, LnP h0 g T L r0 → Q g) : w_X10_line_671 Q h := by
  refine m_671 A.1 H (fun g f x => ?_)
  have S : ScM g T L := A.1.at' (fun c k hc => f c k (by omega))
  have F : fzF h0 g := A.2.2.1.tr (fun c k hc => f c k (fun x => hc (Or.inl ⟨x.1, by omega⟩)))
  refine hq g ⟨F, S, ?_⟩
  rcases x with x | ⟨e, q, a, b, c, d⟩
  · exact Or.inl x
  · refine Or.inr ⟨e, s', q, a, b, c, A.2.1.at2 O (fun c k n => (f c k (fun x => by have := nF_0 n x.1; omega)).1), ?_, by rw [d, A.2.2.2.2]⟩
    rw [(f 0 33 (by omega)).1, A.2.2.2.1]
    exact U
end LSS
