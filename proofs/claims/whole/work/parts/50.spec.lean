/-! ===== what is heard, whose it is ===== -/
def rem (a : Wd) (loud f m : Int) : Int := match lv (nm6 loud f m 0 0 0) a.fd with
  | some v => v
  | none => loud - f
def car (a : Wd) (F : Int → Int → Int) (p loud q m : Int) : Bool := decide (F p q < 100000) && decide (1 ≤ loud) && decide (1 ≤ rem a loud (F p q) m)
def hr (a : Wd) (F : Int → Int → Int) (n p m : Int) : Bool := decide (a.f 3 2 n ≤ m) && decide (m ≤ a.f 3 3 n) && decide (a.f 3 5 n = 0) && car a F (a.f 3 0 n) (a.f 3 4 n) p m
def fst (a : Wd) (F : Int → Int → Int) (p m : Int) : Int := ff (fun n => hr a F n p m) (a.n 3)
def clm (a : Wd) (p m : Int) : Int := ff (fun c => decide (a.f 4 1 c = p) && decide (a.f 4 2 c ≤ m) && decide (m ≤ a.f 4 3 c)) (a.n 4)
def clo (a : Wd) (p m : Int) : Int := if clm a p m = -1 then -1 else a.f 4 0 (clm a p m)
def lst (a : Wd) (F : Int → Int → Int) (p : Int) : Nat → Int
  | 0 => -2
  | m + 1 => if fst a F p m = -1 then lst a F p m else a.f 3 1 (fst a F p m)
def whs (a : Wd) (F : Int → Int → Int) (p m : Int) : Int := if fst a F p m = -1 then (if clo a p m = -1 then lst a F p m.toNat else clo a p m) else -3
def hasR (a : Wd) (o p m : Int) : Bool := decide (ff (fun r => decide (a.f 5 0 r = o) && decide (a.f 5 1 r = p) && decide (a.f 5 2 r ≤ m) && decide (m ≤ a.f 5 3 r)) (a.n 5) ≠ -1)
/-- against whom one who is heard at a place trespasses -/
def agn (a : Wd) (o p m : Int) : Int := if clo a p m = -1 ∨ clo a p m = o ∨ hasR a o p m = true then -1 else clo a p m
/-- numbers in their bounds: noises, claims, rights (those of a trial, too) -/
def OkN (a : Wd) : Prop := (0 ≤ a.n 3 ∧ a.n 3 ≤ 13) ∧ ∀ n, 0 ≤ n → n < a.n 3 → (0 ≤ a.f 3 0 n ∧ a.f 3 0 n < a.n 0) ∧ (-1 ≤ a.f 3 1 n ∧ a.f 3 1 n < 4) ∧ (0 ≤ a.f 3 2 n ∧ a.f 3 2 n ≤ a.f 3 3 n ∧ a.f 3 3 n ≤ 47) ∧ (-100 ≤ a.f 3 4 n ∧ a.f 3 4 n ≤ 20) ∧ (a.f 3 5 n = 0 ∨ a.f 3 5 n = 1)
def OkC (a : Wd) : Prop := (0 ≤ a.n 4 ∧ a.n 4 ≤ 16) ∧ ∀ c, 0 ≤ c → c < a.n 4 → (0 ≤ a.f 4 0 c ∧ a.f 4 0 c < 4) ∧ (0 ≤ a.f 4 1 c ∧ a.f 4 1 c < a.n 0) ∧ (0 ≤ a.f 4 2 c ∧ a.f 4 2 c ≤ a.f 4 3 c ∧ a.f 4 3 c ≤ 47)
def OkR (a : Wd) : Prop := (0 ≤ a.n 5 ∧ a.n 5 ≤ 6) ∧ ∀ c, 0 ≤ c → c < a.n 5 → (0 ≤ a.f 5 0 c ∧ a.f 5 0 c < 4) ∧ (0 ≤ a.f 5 1 c ∧ a.f 5 1 c < a.n 0) ∧ (0 ≤ a.f 5 2 c ∧ a.f 5 2 c ≤ a.f 5 3 c ∧ a.f 5 3 c ≤ 47)
theorem fst_rg {a : Wd} (O : OkN a) (F : Int → Int → Int) (p m : Int) : -1 ≤ fst a F p m ∧ fst a F p m < a.n 3 := ff_rg _ O.1.1
theorem clm_rg {a : Wd} (O : OkC a) (p m : Int) : -1 ≤ clm a p m ∧ clm a p m < a.n 4 := ff_rg _ O.1.1
theorem clo_rg {a : Wd} (O : OkC a) (p m : Int) : -1 ≤ clo a p m ∧ clo a p m < 4 := by
  unfold clo
  split
  · omega
  · have h := clm_rg O p m
    have := (O.2 (clm a p m) (by omega) h.2).1
    omega
theorem lst_rg {a : Wd} (O : OkN a) (F : Int → Int → Int) (p : Int) : ∀ m, -2 ≤ lst a F p m ∧ lst a F p m < 4
  | 0 => by show -2 ≤ (-2 : Int) ∧ (-2 : Int) < 4; omega
  | m + 1 => by
    have := lst_rg O F p m
    show -2 ≤ (if fst a F p m = -1 then _ else _) ∧ (if fst a F p m = -1 then _ else _) < 4
    split
    · exact this
    · have h := fst_rg O F p m
      have := (O.2 (fst a F p m) (by omega) h.2).2.1
      omega
theorem whs_rg {a : Wd} (O : OkN a) (OC : OkC a) (F : Int → Int → Int) (p m : Int) : -3 ≤ whs a F p m ∧ whs a F p m < 4 := by
  unfold whs
  have h1 := lst_rg O F p m.toNat
  have h2 := clo_rg OC p m
  split
  · split <;> omega
  · omega
/-! ===== the same by the reference: noises, claims laid out ===== -/
def NM (h : PH) (a : Wd) : Prop := gI h 0 62 = z (a.n 3) ∧ ∀ n : Int, 0 ≤ n → n < a.n 3 → gI h 45 n.toNat = z (a.f 3 0 n) ∧ gI h 46 n.toNat = z (a.f 3 1 n) ∧ gI h 47 n.toNat = z (a.f 3 2 n) ∧ gI h 48 n.toNat = z (a.f 3 3 n) ∧ ∃ l : Int, gI h 49 n.toNat = z l ∧ -1000 ≤ l ∧ l ≤ 20 ∧ ((1 ≤ l ∨ (a.f 3 5 n = 0 ∧ 1 ≤ a.f 3 4 n)) → a.f 3 5 n = 0 ∧ l = a.f 3 4 n)
def HM (h : PH) (a : Wd) : Prop := gI h 0 70 = z (a.n 4) ∧ ∀ c : Int, 0 ≤ c → c < a.n 4 → gI h 52 c.toNat = z (a.f 4 0 c) ∧ gI h 53 c.toNat = z (a.f 4 1 c) ∧ gI h 54 c.toNat = z (a.f 4 2 c) ∧ gI h 55 c.toNat = z (a.f 4 3 c)
/-- cells of the reference that only laws work with -/
def lawC (c k : Nat) : Prop := c = 32 ∨ c = 33 ∨ (c = 0 ∧ k = 48)
theorem NM.at' {h g : PH} {a : Wd} (N : NM h a) (e0 : At h g 0 62) (e : ∀ c k, 45 ≤ c → c < 50 → At h g c k) : NM g a := by
  obtain ⟨n1, n2⟩ := N
  refine ⟨by rw [e0.1]; exact n1, fun n b1 b2 => ?_⟩
  rw [(e 45 _ (by omega) (by omega)).1, (e 46 _ (by omega) (by omega)).1, (e 47 _ (by omega) (by omega)).1, (e 48 _ (by omega) (by omega)).1, (e 49 _ (by omega) (by omega)).1]
  exact n2 n b1 b2
theorem HM.at' {h g : PH} {a : Wd} (N : HM h a) (e0 : At h g 0 70) (e : ∀ c k, 52 ≤ c → c < 56 → At h g c k) : HM g a := by
  obtain ⟨n1, n2⟩ := N
  refine ⟨by rw [e0.1]; exact n1, fun n b1 b2 => ?_⟩
  rw [(e 52 _ (by omega) (by omega)).1, (e 53 _ (by omega) (by omega)).1, (e 54 _ (by omega) (by omega)).1, (e 55 _ (by omega) (by omega)).1]
  exact n2 n b1 b2
theorem FM.at' {h g : PH} {F : Int → Int → Int} (N : FM h F) (e : ∀ k, At h g 50 k) : FM g F := fun p q b1 b2 b3 b4 => by rw [(e _).1]; exact N p q b1 b2 b3 b4
theorem m_fade {x1 x2 x3 : Int} {h : PH} {Q : PH → Prop} (b1 : -100000 ≤ x1 ∧ x1 ≤ 100000) (b2 : -100000 ≤ x2 ∧ x2 ≤ 100000) (b3 : -100000 ≤ x3 ∧ x3 ≤ 100000) (hq : ∀ g, (∀ c k, ¬ (c = 32) → At h g c k) → (∀ q : Int, 0 ≤ q → q < 6 → gJ g 32 q.toNat = zl (nm6 x1 x2 x3 0 0 0 q)) → Q g) : w_X10_callsFade (z x1) (z x2) (z x3) h Q := by
  unfold w_X10_callsFade
  refine for10 6 (fun i g => (∀ c k, ¬ (c = 32) → At h g c k) ∧ ∀ q : Int, 0 ≤ q → q < i → gJ g 32 q.toNat = zl 0) 0 rfl (by omega) (by omega) (by omega) ⟨fun c k _ => At.rf h c k, fun q c1 c2 => by omega⟩ ?_ ?_
  · rintro kb i g h0 h1 ⟨hf, hJ⟩ hk
    unfold w_X10_callsFade_3
    rw [zn_6, if_neg (by rw [z_le (by omega) (by omega) (by omega) (by omega)]; omega), z_iN (by omega) (by omega), zn_1, z_add]
    refine ⟨z_in (by omega) (by omega) (by omega), ?_⟩
    rintro _ rfl
    refine hk _ ⟨fun c k hc => (hf c k hc).sJ (by omega), fun q c1 c2 => ?_⟩
    by_cases e : q = i
    · rw [gJ_in rfl (by omega)]; rfl
    · rw [gJ_out (by omega)]; exact hJ q c1 (by omega)
  · rintro kb g ⟨hf, hJ⟩
    unfold w_X10_callsFade_3
    rw [zn_6, if_pos (by rw [z_le (by omega) (by omega) (by omega) (by omega)]; omega)]
    rintro _ rfl _ rfl _ rfl
    rw [iN_0, iN_1, iN_2, zl_of (by omega) (by omega), zl_of (by omega) (by omega), zl_of (by omega) (by omega)]
    refine hq _ (fun c k hc => (((hf c k hc).sJ (by omega)).sJ (by omega)).sJ (by omega)) (fun q c1 c2 => ?_)
    unfold nm6
    by_cases e2 : q = 2
    · subst e2; rw [gJ_in rfl (by omega)]; rfl
    · rw [gJ_out (by omega)]
      by_cases e1 : q = 1
      · subst e1; rw [gJ_in rfl (by omega)]; rfl
      · rw [gJ_out (by omega)]
        by_cases e0 : q = 0
        · subst e0; rw [gJ_in rfl (by omega)]; rfl
        · rw [gJ_out (by omega), if_neg e0, if_neg e1, if_neg e2, hJ q c1 c2]
          split <;> (try split) <;> rfl
theorem m_haslaw {i fr : Int} {ks : List Int} {h : PH} {Q : Int32 → PH → Prop} {x : Int32} (hx : x = z i) (hi : 0 ≤ i ∧ i < 4) (K : KM h i.toNat fr ks) (h0 : ks = [] → Q 0 h) (h1 : ks ≠ [] → Q 1 h) : w_X10_hasLaw x h Q := by
  subst hx
  obtain ⟨k1, k2, k3, k4, k5⟩ := K
  unfold w_X10_hasLaw
  rw [z_iN (by omega) (by omega), k1, k2]
  refine ⟨z_in (by omega) (by omega) (by omega), z_in (by omega) (by omega) (by omega), ?_⟩
  cases ks with
  | nil =>
    rw [if_pos (by rw [z_le (by omega) (by omega) (by omega) (by omega)]; simp)]
    exact h0 rfl
  | cons k r =>
    simp only [List.length_cons] at *
    rw [if_neg (by rw [z_le (by omega) (by omega) (by omega) (by omega)]; omega)]
    exact h1 (by simp)
theorem m_carries {a : Wd} {F : Int → Int → Int} {p loud q m : Int} {h : PH} {Q : Int32 → PH → Prop} {fr : Int} (K : KM h 0 fr a.fd) (W : Wf a.fd) (N : FM h F) (hF : 0 ≤ F p q ∧ F p q ≤ 100000) (hp : 0 ≤ p ∧ p < 6) (hq6 : 0 ≤ q ∧ q < 6) (hl : -1000 ≤ loud ∧ loud ≤ 20) (hm : 0 ≤ m ∧ m < 48)
    (hq : ∀ g, (∀ c k, ¬ lawC c k → At h g c k) → Q (z (if car a F p loud q m = true then 1 else 0)) g) : w_X10_carries (z p) (z loud) (z q) (z m) h Q := by
  have hq' : ∀ (g : PH) (b : Bool), (∀ c k, ¬ lawC c k → At h g c k) → car a F p loud q m = b → Q (z (if b = true then 1 else 0)) g := fun g b hg e => by rw [← e]; exact hq g hg
  unfold w_X10_carries
  rw [zn_6, z_mul, z_add, z_iN (by omega) (by omega), N p q hp.1 hp.2 hq6.1 hq6.2]
  refine ⟨z_in (by omega) (by omega) (by omega), ?_⟩
  rintro _ rfl
  by_cases c1 : 100000 ≤ F p q
  · rw [if_pos (by rw [zn_100000, z_le (by omega) (by omega) (by omega) (by omega)]; exact c1)]
    exact hq' h false (fun c k _ => At.rf h c k) (by unfold car; rw [decide_eq_false (by omega : ¬ F p q < 100000)]; rfl)
  · rw [if_neg (by rw [zn_100000, z_le (by omega) (by omega) (by omega) (by omega)]; exact c1)]
    by_cases c2 : 1 ≤ loud
    · rw [if_pos (by rw [zn_1, z_le (by omega) (by omega) (by omega) (by omega)]; exact c2)]
      have hcar : car a F p loud q m = decide (1 ≤ rem a loud (F p q) m) := by unfold car; rw [decide_eq_true (by omega : F p q < 100000), decide_eq_true c2]; rfl
      refine m_fade (by omega) (by omega) (by omega) (fun g hg hn => ?_)
      have hL : ∀ c k, ¬ lawC c k → At h g c k := fun c k hc => hg c k (fun e => hc (Or.inl e))
      have K' : KM g 0 fr a.fd := K.at' (fun c k b1 b2 => hg c k (by omega))
      have sub : ∀ g', (∀ c k, ¬ lawC c k → At h g' c k) → lv (nm6 loud (F p q) m 0 0 0) a.fd = none → w_X10_carries_72 Q (z loud) (z (F p q)) g' := by
        intro g' hg' e
        unfold w_X10_carries_72
        have er : rem a loud (F p q) m = loud - F p q := by unfold rem; rw [e]
        rw [er] at hcar
        rw [z_sub, zn_1]
        by_cases c3 : loud - F p q < 1
        · rw [if_pos (by rw [z_lt (by omega) (by omega) (by omega) (by omega)]; exact c3)]
          exact hq' g' false hg' (by rw [hcar]; exact decide_eq_false (by omega))
        · rw [if_neg (by rw [z_lt (by omega) (by omega) (by omega) (by omega)]; exact c3)]
          exact hq' g' true hg' (by rw [hcar]; exact decide_eq_true (by omega))
      refine m_haslaw (i := 0) rfl (by omega) K' (fun e => ?_) (fun e => ?_)
      · rw [if_pos rfl]
        exact sub g hL (by rw [e]; rfl)
      · rw [if_neg (by decide)]
        refine m_goes (i := 0) (by omega) K' W e hn (nm6_bd (by omega) (by omega) (by omega) (by omega) (by omega) (by omega)) (fun g' v hg' ev bv e0 => ?_) (fun g' hg' ev => ?_)
        · have hL' : ∀ c k, ¬ lawC c k → At h g' c k := fun c k hc => (hL c k hc).tr (hg' c k (fun e => hc (Or.inr (Or.inl e))) (fun e => hc (Or.inr (Or.inr e))))
          have er : rem a loud (F p q) m = v := by unfold rem; rw [ev]
          rw [er] at hcar
          unfold bd at bv
          rw [if_neg (by decide), iN_0, e0]
          by_cases c3 : v < 1
          · rw [if_pos (by rw [lg_cmp_lt, zl_1, zl_lt (by omega) (by omega) (by omega) (by omega)]; exact c3)]
            exact hq' g' false hL' (by rw [hcar]; exact decide_eq_false (by omega))
          · rw [if_neg (by rw [lg_cmp_lt, zl_1, zl_lt (by omega) (by omega) (by omega) (by omega)]; exact c3)]
            exact hq' g' true hL' (by rw [hcar]; exact decide_eq_true (by omega))
        · have hL' : ∀ c k, ¬ lawC c k → At h g' c k := fun c k hc => (hL c k hc).tr (hg' c k (fun e => hc (Or.inr (Or.inl e))) (fun e => hc (Or.inr (Or.inr e))))
          rw [if_pos rfl]
          exact sub g' hL' ev
    · rw [if_neg (by rw [zn_1, z_le (by omega) (by omega) (by omega) (by omega)]; exact c2)]
      exact hq' h false (fun c k _ => At.rf h c k) (by unfold car; rw [decide_eq_false c2]; simp)
