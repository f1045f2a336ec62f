/-! ===== walls ===== -/
theorem shl_pw {L : Int} (h0 : 0 ≤ L) (h1 : L ≤ 9) : ((1 : Int32) <<< (z L &&& 31)) = z ((2 ^ L.toNat : Nat) : Int) := by
  have : L = 0 ∨ L = 1 ∨ L = 2 ∨ L = 3 ∨ L = 4 ∨ L = 5 ∨ L = 6 ∨ L = 7 ∨ L = 8 ∨ L = 9 := by omega
  rcases this with rfl | rfl | rfl | rfl | rfl | rfl | rfl | rfl | rfl | rfl <;> decide +kernel
theorem pw_512 {L : Int} (h0 : 0 ≤ L) (h1 : L ≤ 9) : 1 ≤ 2 ^ L.toNat ∧ 2 ^ L.toNat ≤ 512 := by
  have : L = 0 ∨ L = 1 ∨ L = 2 ∨ L = 3 ∨ L = 4 ∨ L = 5 ∨ L = 6 ∨ L = 7 ∨ L = 8 ∨ L = 9 := by omega
  rcases this with rfl | rfl | rfl | rfl | rfl | rfl | rfl | rfl | rfl | rfl <;> decide
def tb (i l : Int) : Bool := i.toNat.testBit l.toNat
theorem bt_tb {i : Int} (h : 0 ≤ i) {l : Nat} (hl : l < 32) : bt (z i) l = tb i l := by
  unfold tb
  rw [z_nI' h, bt_nI hl, show ((l : Nat) : Int).toNat = l by omega]
def pc (i : Int) : Int := sm (fun k => if tb i k = true then 1 else 0) 10
theorem pc_rg (i : Int) : 0 ≤ pc i ∧ pc i ≤ 10 := by
  have := sm_rg (f := fun k => if tb i k = true then 1 else 0) (c := 1) (n := 10) (by omega) (by omega) (fun j _ _ => by split <;> omega)
  unfold pc
  omega
theorem pc_0 : pc 0 = 0 := by decide +kernel
theorem x_pc {i : Int} {h : PH} {Q : Int32 → PH → Prop} (h0 : 0 ≤ i) (h1 : i < 512) (hq : pc i ≤ 9 → Q (z (pc i)) h) : w_J6_bitCount_0f7a4 (z i) h Q := by
  rw [z_nI' h0]
  refine x_bitI (by omega) ?_
  have e := bcI_tab ⟨i.toNat, by omega⟩
  simp only at e
  have e9 : tb i 9 = false := by
    unfold tb
    exact Nat.testBit_lt_two_pow (by show i.toNat < 2 ^ 9; omega)
  have e10 : pc i = sm (bc i.toNat) 9 := by
    have s : pc i = sm (fun k => if tb i k = true then 1 else 0) 9 + (if tb i 9 = true then 1 else 0) := sm_s (f := fun k => if tb i k = true then 1 else 0) (n := 9) (by omega)
    rw [s, e9, if_neg (by decide), Int.add_zero]
    exact sm_cong (fun k k0 k1 => rfl)
  have r := sm_rg (f := bc i.toNat) (c := 1) (n := 9) (by omega) (by omega) (fun j _ _ => by unfold bc; split <;> omega)
  rw [← z_nI, e, ← e10]
  exact hq (by omega)
theorem m_pc {i : Int} {h : PH} {Q : Int32 → PH → Prop} (h0 : 0 ≤ i) (hq : Q (z (pc i)) h) : w_X10_bitsOf (z i) h Q := by
  refine m_bitsOf ?_
  have e : sm (fun k => if bt (z i) k.toNat = true then 1 else 0) 10 = pc i := sm_cong (fun k k0 k1 => by
    rw [bt_tb h0 (by omega), show ((k.toNat : Nat) : Int) = k by omega])
  rw [e]
  exact hq
def wS (a : Wd) (i : Int) : Wd := upF a 1 3 (fun l => if a.f 1 3 l = 1 ∨ tb i l = true then 1 else 0)
def dj (a : Wd) (i : Int) : Bool := decide (ff (fun l => tb i l && decide (a.f 1 3 l = 1)) (a.n 1) = -1)
def hdB (a : Wd) (n d : Int) : Bool := decide (ff (fun m => decide (a.f 3 2 n ≤ m) && decide (m ≤ a.f 3 3 n) && decide (1 ≤ rem a (a.f 3 4 n) d m)) 48 ≠ -1)
def hbB (a : Wd) (n p i : Int) : Bool := decide (a.f 3 5 n = 0) && decide (far (wS a i) (-1) (a.f 3 0 n) p < 100000) && hdB a n (far (wS a i) (-1) (a.f 3 0 n) p)
def wb (a : Wd) (n p i best : Int) : Int := if dj a i = true ∧ (best < 0 ∨ pc i < pc best) ∧ hbB a n p i = false then i else best
def wbN (a : Wd) (n p : Int) : Nat → Int
  | 0 => -2
  | i + 1 => wb a n p i (wbN a n p i)
def a_walls (a : Wd) (n p : Int) : Int := if (0 ≤ n ∧ n < a.n 3) ∧ (0 ≤ p ∧ p < a.n 0) then wbN a n p (2 ^ (a.n 1).toNat) else -1
theorem wbN_s {a : Wd} {n p i : Int} (h : 0 ≤ i) : wbN a n p (i + 1).toNat = wb a n p i (wbN a n p i.toNat) := by
  rw [show (i + 1).toNat = i.toNat + 1 by omega]
  show wb a n p ((i.toNat : Nat) : Int) _ = _
  rw [show ((i.toNat : Nat) : Int) = i by omega]
theorem wbN_rg (a : Wd) (n p : Int) : ∀ i : Nat, wbN a n p i = -2 ∨ (0 ≤ wbN a n p i ∧ wbN a n p i < i)
  | 0 => Or.inl rfl
  | i + 1 => by
    have ih := wbN_rg a n p i
    show wb a n p i (wbN a n p i) = -2 ∨ _
    show wb a n p i (wbN a n p i) = -2 ∨ (0 ≤ wb a n p i (wbN a n p i) ∧ wb a n p i (wbN a n p i) < ((i + 1 : Nat) : Int))
    unfold wb
    split
    · exact Or.inr (by omega)
    · rcases ih with e | e
      · exact Or.inl e
      · exact Or.inr (by omega)
theorem wbN_st {a : Wd} {n p : Int} (h : a.f 3 5 n ≠ 0) : ∀ i : Nat, wbN a n p (i + 1) = 0
  | 0 => by
    show wb a n p 0 (-2) = 0
    unfold wb
    split
    · rfl
    · rename_i hn
      exact absurd ⟨decide_eq_true (ff_no (fun j _ _ => by unfold tb; rw [show (0 : Int).toNat = 0 from rfl, Nat.zero_testBit]; rfl)), Or.inl (by omega), by unfold hbB; rw [decide_eq_false h]; rfl⟩ hn
  | i + 1 => by
    show wb a n p ((i + 1 : Nat) : Int) (wbN a n p (i + 1)) = 0
    rw [wbN_st h i]
    unfold wb
    rw [if_neg]
    rintro ⟨_, x | x, _⟩
    · omega
    · have := pc_rg ((i + 1 : Nat) : Int)
      rw [pc_0] at x
      omega
theorem hd_ex {a : Wd} {n d : Int} (O : 0 ≤ a.f 3 2 n ∧ a.f 3 3 n ≤ 47) : hdB a n d = true ↔ ∃ m, a.f 3 2 n ≤ m ∧ m ≤ a.f 3 3 n ∧ 1 ≤ rem a (a.f 3 4 n) d m := by
  unfold hdB
  rw [decide_eq_true_eq]
  rcases ff_ca (fun m => decide (a.f 3 2 n ≤ m) && decide (m ≤ a.f 3 3 n) && decide (1 ≤ rem a (a.f 3 4 n) d m)) 48 with ⟨e, hn⟩ | ⟨h1, h2, h3, h4⟩
  · refine ⟨fun x => absurd e x, fun ⟨m, m1, m2, m3⟩ => ?_⟩
    have := hn m (by omega) (by omega)
    simp [m1, m2, m3] at this
  · refine ⟨fun _ => ?_, fun _ => by omega⟩
    simp only [Bool.and_eq_true, decide_eq_true_eq] at h3
    exact ⟨_, h3.1.1, h3.1.2, h3.2⟩
theorem wS_ok {a : Wd} {i : Int} (O : OkL a) : OkL (wS a i) := by
  obtain ⟨o1, o2, o3, o4, o5⟩ := O
  refine ⟨o1, o2, o3, fun j j0 j1 => ⟨(o4 j j0 j1).1, (o4 j j0 j1).2.1, (o4 j j0 j1).2.2.1, (o4 j j0 j1).2.2.2.1, ?_⟩, o5⟩
  show (if a.f 1 3 j = 1 ∨ tb i j = true then (1 : Int) else 0) = 0 ∨ (if a.f 1 3 j = 1 ∨ tb i j = true then (1 : Int) else 0) = 1
  split
  · exact Or.inr rfl
  · exact Or.inl rfl
/-- from where the noise is heard, as far as asked -/
def CcX (h : PH) (a : Wd) (n : Int) : Prop := ∀ d : Int, 0 ≤ d → d ≤ 90 → gI h 138 d.toNat = z (-1) ∨ gI h 138 d.toNat = z (bI (hdB a n d))
section WALLX
variable {h : PH} {w : Nat} {s : St} {a : Wd}
theorem x_build {Q : Int32 → PH → Prop} {i : Int} {e : Int → Int} (H : WX h w a) (T : WX h 77 (upF a 1 3 e)) (N : Now a) (hw : w = 8 ∨ w = 31) (eP : gP h 0 3 = w + 1) (hi : 0 ≤ i ∧ i < 512) (hT : dj a i = true → ∀ g, (∀ c k, ¬ (c = 81) → At h g c k) → WX g 77 (wS a i) → Q 1 g) (hF : dj a i = false → ∀ g e', (∀ c k, ¬ (c = 81) → At h g c k) → WX g 77 (upF a 1 3 e') → Q 0 g) : w_X9_buildOnTrial (z i) h Q := by
  have l9 := N.1.2.1
  unfold w_X9_buildOnTrial
  refine for10 (a.n 1) (fun l g => (∀ c k, ¬ (c = 81) → At h g c k) ∧ (∀ j, 0 ≤ j → j < l → (tb i j && decide (a.f 1 3 j = 1)) = false) ∧ ∃ e', WX g 77 (upF a 1 3 e') ∧ ∀ j, 0 ≤ j → j < l → e' j = if a.f 1 3 j = 1 ∨ tb i j = true then 1 else 0) 0 rfl (by omega) (by omega) (by omega) ⟨fun c k _ => At.rf h c k, fun j j0 j1 => by omega, e, T, fun j j0 j1 => by omega⟩ ?_ ?_
  · rintro kb l g l0 l1 ⟨hf, hd, e', hT', he⟩ hk
    have eg : gP g 0 3 = w + 1 := by rw [(hf 0 3 (by omega)).2.2]; exact eP
    have Hg : WX g w a := H.at' (fun c k b1 b2 b3 b4 b5 b6 => hf c k (by omega))
    have o5 := (N.1.2.2.2.1 l l0 l1).2.2.2.2
    unfold w_X9_buildOnTrial_2
    rw [eg, show w + 1 - 1 = w by omega, show gI g (w + 3) 3 = z (a.n 1) from (Hg.n0 1 (by decide)).1]
    refine ⟨by omega, oX_w hw, ?_⟩
    rw [if_neg (by rw [z_le (by omega) (by omega) (by omega) (by omega)]; omega)]
    refine ⟨by omega, oX_w hw, ?_⟩
    refine Hg.at 1 3 (by decide) rfl (by decide) rfl rfl l0 l1 ?_
    rintro _ rfl
    rw [bitI l0 (by omega), bt_tb hi.1 (by omega), show ((l.toNat : Nat) : Int) = l by omega]
    have go : ¬ (a.f 1 3 l = 1 ∧ tb i l = true) → w_X9_buildOnTrial_49 Q kb (z i) (z l) (z (a.f 1 3 l)) (z (if tb i l = true then 1 else 0)) g := by
      intro hn
      unfold w_X9_buildOnTrial_49
      rw [z_add]
      refine x_putW (u := a.f 1 3 l + (if tb i l = true then 1 else 0)) hT' 1 3 (by decide) rfl (by decide) rfl rfl rfl l0 l1 (fun g' f' W' => ?_)
      rw [z_inc]
      refine hk g' ⟨fun c k hc => (hf c k hc).tr (f' c k hc), fun j j0 j1 => ?_, fun j => if j = l then a.f 1 3 l + (if tb i l = true then 1 else 0) else e' j, W'.ext (fun r hr => rfl) (fun r c k hr hc k0 k1 => ?_) (fun c => rfl) rfl rfl, fun j j0 j1 => ?_⟩
      · by_cases ej : j = l
        · rw [ej]
          cases hb : tb i l with
          | false => rfl
          | true => rw [decide_eq_false (fun x => hn ⟨x, hb⟩)]; rfl
        · exact hd j j0 (by omega)
      · by_cases er : r = 1 ∧ c = 3
        · obtain ⟨rfl, rfl⟩ := er
          rw [upF_in, upF_in, upF_in]
        · rw [upF_out er, upF_out er, upF_out er]
      · by_cases ej : j = l
        · subst ej
          show (if j = j then a.f 1 3 j + (if tb i j = true then 1 else 0) else e' j) = _
          rw [if_pos rfl]
          rcases o5 with c | c
          · rw [c]
            by_cases hb : tb i j = true
            · rw [if_pos hb, if_pos (Or.inr hb)]; rfl
            · rw [if_neg hb, if_neg (fun x => by rcases x with x | x; omega; exact hb x)]; rfl
          · rw [if_neg (fun x => hn ⟨c, x⟩), if_pos (Or.inl c), c]; rfl
        · show (if j = l then _ else e' j) = _
          rw [if_neg ej]
          exact he j j0 (by omega)
    by_cases c1 : a.f 1 3 l = 1
    · rw [if_pos (show z (a.f 1 3 l) = 1 by rw [c1]; rfl)]
      cases hb : tb i l with
      | true =>
        rw [if_pos (show z (if true = true then (1 : Int) else 0) = 1 from rfl)]
        refine hF ?_ g e' hf hT'
        unfold dj
        rw [ff_yes l0 l1 (by rw [hb, decide_eq_true c1]; rfl) hd, decide_eq_false (by omega)]
      | false =>
        rw [hb] at go
        rw [if_neg (show ¬ z (if false = true then (1 : Int) else 0) = 1 by decide)]
        exact go (fun x => absurd x.2 (by decide))
    · rw [if_neg (show ¬ z (a.f 1 3 l) = 1 from z_ne (by omega) (by omega) (by decide) (by decide) c1)]
      exact go (fun x => c1 x.1)
  · rintro kb g ⟨hf, hd, e', hT', he⟩
    have eg : gP g 0 3 = w + 1 := by rw [(hf 0 3 (by omega)).2.2]; exact eP
    have Hg : WX g w a := H.at' (fun c k b1 b2 b3 b4 b5 b6 => hf c k (by omega))
    unfold w_X9_buildOnTrial_2
    rw [eg, show w + 1 - 1 = w by omega, show gI g (w + 3) 3 = z (a.n 1) from (Hg.n0 1 (by decide)).1]
    refine ⟨by omega, oX_w hw, ?_⟩
    rw [if_pos (by rw [z_le (by omega) (by omega) (by omega) (by omega)]; omega)]
    refine hT ?_ g hf (hT'.ext (fun r hr => rfl) (fun r c k hr hc k0 k1 => ?_) (fun c => rfl) rfl rfl)
    · unfold dj
      rw [ff_no hd]; rfl
    · unfold wS
      by_cases er : r = 1 ∧ c = 3
      · obtain ⟨rfl, rfl⟩ := er
        rw [upF_in, upF_in]
        exact (he k k0 k1).symm
      · rw [upF_out er, upF_out er]
theorem x_reach {Q : Int32 → PH → Prop} {i n p : Int} (T : WX h 77 (wS a i)) (N : Now a) (C : CcX h a n) (hn : 0 ≤ n ∧ n < a.n 3) (hp : 0 ≤ p ∧ p < a.n 0) (h5 : a.f 3 5 n = 0) (hq : ∀ g, (∀ c k, ¬ ((77 ≤ c ∧ c ≤ 99) ∨ c = 107 ∨ c = 138) → At h g c k) → WX g 77 (wS a i) → CcX g a n → Q (z (bI (hbB a n p i))) g) : w_X9_trialReaches (z n) (z p) h Q := by
  have OL := wS_ok (i := i) N.1
  have h6 := N.1.1
  obtain ⟨o1, o2, o3, o4, o5⟩ := N.2.1.2 n hn.1 hn.2
  have nl := (N.2.2.2.2.2.2.2.1 n hn.1 hn.2).2
  have F3 := (far_gd (-1) OL).2.2.1
  have F90 := far_90 (g := -1) OL (p := a.f 3 0 n) (q := p) o1 hp
  have eb : hbB a n p i = (decide (far (wS a i) (-1) (a.f 3 0 n) p < 100000) && hdB a n (far (wS a i) (-1) (a.f 3 0 n) p)) := by unfold hbB; rw [decide_eq_true h5, Bool.true_and]
  rw [eb] at hq
  clear eb
  generalize hFF : far (wS a i) (-1) = F at *
  unfold w_X9_trialReaches
  refine x_ways (g := -1) T OL rfl (by omega) (by omega) (fun g1 f1 X1 => ?_)
  rw [hFF] at X1
  have T1 : WX g1 77 (wS a i) := T.at' (fun c k b1 b2 b3 b4 b5 b6 => f1 c k (by omega))
  refine T1.at 3 0 (by decide) rfl (by decide) rfl rfl hn.1 hn.2 ?_
  rw [show (wS a i).f 3 0 n = a.f 3 0 n from rfl]
  refine x_way X1 (by omega) (by omega) (F3 _ _) ?_
  have f3 := F3 (a.f 3 0 n) p
  have C1 : CcX g1 a n := fun d d0 d1 => by rw [(f1 138 _ (by omega)).1]; exact C d d0 d1
  have ff1 : ∀ c k, ¬ ((77 ≤ c ∧ c ≤ 99) ∨ c = 107 ∨ c = 138) → At h g1 c k := fun c k hc => f1 c k (by omega)
  rw [zn_0]
  by_cases c0 : F (a.f 3 0 n) p < 100000
  · have f90 := F90 c0
    rw [if_pos c0, if_neg (by rw [z_lt (by omega) (by omega) (by omega) (by omega)]; omega)]
    rw [decide_eq_true c0, Bool.true_and] at hq
    generalize hd : F (a.f 3 0 n) p = d at *
    show (if z d ≤ 90 then _ else _)
    rw [if_pos (show z d ≤ 90 by rw [show (90 : Int32) = z 90 from rfl, z_le (by omega) (by omega) (by omega) (by omega)]; omega), z_iN (a := d) (by omega) (by omega)]
    refine ⟨z_in (by omega) (by omega) (by omega), ?_⟩
    have fin : ∀ g, (∀ c k, ¬ ((77 ≤ c ∧ c ≤ 99) ∨ c = 107 ∨ c = 138) → At h g c k) → WX g 77 (wS a i) → CcX g a n → gI g 138 d.toNat = z (bI (hdB a n d)) → w_X9_trialReaches_118 Q (z d) g := by
      intro g f T' C' e
      unfold w_X9_trialReaches_118
      rw [z_iN (a := d) (by omega) (by omega), e]
      refine ⟨z_in (by omega) (by omega) (by omega), ?_⟩
      have := hq g f T' C'
      cases hb : hdB a n d with
      | true => rw [hb] at this; rw [if_pos (show z (bI true) = 1 from rfl)]; exact this
      | false => rw [hb] at this; rw [if_neg (show ¬ z (bI false) = 1 by decide)]; exact this
    by_cases cc : gI g1 138 d.toNat = z (-1)
    · rw [cc, if_pos (show z (-1) = -1 from rfl)]
      refine T1.at 3 2 (by decide) rfl (by decide) rfl rfl hn.1 hn.2 ?_
      refine T1.at 3 3 (by decide) rfl (by decide) rfl rfl hn.1 hn.2 ?_
      refine T1.at 3 4 (by decide) rfl (by decide) rfl rfl hn.1 hn.2 ?_
      rw [show (wS a i).f 3 2 n = a.f 3 2 n from rfl, show (wS a i).f 3 3 n = a.f 3 3 n from rfl, show (wS a i).f 3 4 n = a.f 3 4 n from rfl]
      refine x_mh T1 N.2.2.2.2.1 X1 (by omega) (by omega) (by omega) (F3 _ _) (by omega) (by omega) (fun g2 v f2 hv hb => ?_)
      rw [hd] at hb
      have hb' : ∀ m : Int, 0 ≤ m → m < 48 → v.testBit m.toNat = (decide (a.f 3 2 n ≤ m) && decide (m ≤ a.f 3 3 n) && decide (1 ≤ rem a (a.f 3 4 n) d m)) := fun m m0 m1 => by
        rw [hb m m0 m1, decide_eq_true c0, Bool.and_true]; rfl
      have ex := hd_ex (a := a) (n := n) (d := d) ⟨o3.1, o3.2.2⟩
      have ff2 : ∀ c k, ¬ ((77 ≤ c ∧ c ≤ 99) ∨ c = 107 ∨ c = 138) → At h g2 c k := fun c k hc => (ff1 c k hc).tr (f2 c k (by omega))
      have T2 : WX g2 77 (wS a i) := T1.at' (fun c k b1 b2 b3 b4 b5 b6 => f2 c k (by omega))
      have C2 : CcX g2 a n := fun d d0 d1 => by rw [(f2 138 _ (by omega)).1]; exact C1 d d0 d1
      have s117 : ∀ b : Bool, hdB a n d = b → w_X9_trialReaches_117 Q (z d) (z d) (z (bI b)) g2 := by
        intro b ebb
        unfold w_X9_trialReaches_117
        rw [z_iN (a := d) (by omega) (by omega)]
        refine ⟨z_in (by omega) (by omega) (by omega), ?_⟩
        rintro _ rfl
        have F5 : ∀ c k, ¬ (c = 138 ∧ k = d.toNat) → At g2 (sI g2 138 d.toNat (z (bI b))) c k := fun c k hc => (At.rf g2 c k).sI hc
        refine fin _ (fun c k hc => (ff2 c k hc).tr (F5 c k (by omega))) (T2.at' (fun c k b1 b2 b3 b4 b5 b6 => F5 c k (by omega))) (fun d' d0 d1 => ?_) (by rw [gI_in rfl rfl, ebb])
        by_cases e : d' = d
        · rw [e, gI_in rfl rfl]; exact Or.inr (by rw [ebb])
        · rw [(F5 138 _ (by omega)).1]; exact C2 d' d0 d1
      by_cases ev : v = 0
      · rw [if_pos (show lg_cmp (lN v) 0 = z 0 from (lN_z hv).mpr ev)]
        refine s117 false ?_
        cases hc : hdB a n d with
        | false => rfl
        | true =>
          obtain ⟨m, m1, m2, m3⟩ := ex.mp hc
          have := hb' m (by omega) (by omega)
          rw [ev, Nat.zero_testBit, decide_eq_true m1, decide_eq_true m2, decide_eq_true m3] at this
          exact absurd this (by decide)
      · rw [if_neg (show ¬ lg_cmp (lN v) 0 = z 0 from fun x => ev ((lN_z hv).mp x))]
        refine s117 true ?_
        cases hc : hdB a n d with
        | true => rfl
        | false =>
          exfalso
          apply ev
          apply Nat.eq_of_testBit_eq
          intro j
          rw [Nat.zero_testBit]
          by_cases hj : j < 48
          · have b := hb' j (by omega) (by omega)
            rw [show ((j : Nat) : Int).toNat = j by omega] at b
            rw [b]
            cases hx : (decide (a.f 3 2 n ≤ (j : Int)) && decide ((j : Int) ≤ a.f 3 3 n) && decide (1 ≤ rem a (a.f 3 4 n) d (j : Int))) with
            | false => rfl
            | true =>
              simp only [Bool.and_eq_true, decide_eq_true_eq] at hx
              rw [ex.mpr ⟨_, hx.1.1, hx.1.2, hx.2⟩] at hc
              exact absurd hc (by decide)
          · exact Nat.testBit_lt_two_pow (Nat.lt_of_lt_of_le hv (Nat.pow_le_pow_right (by decide) (by omega)))
    · rw [if_neg (show ¬ gI g1 138 d.toNat = -1 from cc)]
      rcases C1 d (by omega) (by omega) with x | x
      · exact absurd x cc
      · exact fin g1 ff1 T1 C1 x
  · rw [if_neg c0, if_pos (by rw [z_lt (by omega) (by omega) (by omega) (by omega)]; omega)]
    rw [decide_eq_false c0, Bool.false_and] at hq
    exact hq g1 ff1 T1 C1
theorem xs_walls {Q : Int32 → PH → Prop} {n p : Int} (I : IX h w s) (hn : i32 n) (hp : i32 p) (hq : ∀ g, IX g w s → KpX h g → Q (z (a_walls s.a n p)) g) : w_X9_walls (z n) (z p) h Q := by
  obtain ⟨p1, p2, p3⟩ := I.1.p
  have n1 := I.1.1
  have n3 := I.1.2.2.1
  have n4 := I.1.2.2.2.1
  have hw := I.w
  have l9 := n4.1.2.1
  have P5 := pw_512 l9.1 l9.2
  have ln := n4.2.2.2.2.2.2.2.2.2.2.2.2.2.2.2.2.2.2
  have ref : ¬ ((0 ≤ n ∧ n < s.a.n 3) ∧ (0 ≤ p ∧ p < s.a.n 0)) → Q (-1) h := fun c => by
    have e : a_walls s.a n p = -1 := if_neg c
    rw [e] at hq
    exact hq h I (KpX.rf h)
  unfold w_X9_walls
  rw [p3]
  refine ⟨p1, oX_w n1, ?_⟩
  refine x_has (n3.rw 3 (by decide)) rfl hn.1 hn.2 (fun c1 c2 => ?_) (fun c1 => ?_)
  · rw [if_neg (by decide), p3]
    refine ⟨p1, oX_w n1, ?_⟩
    refine x_has (n3.rw 0 (by decide)) rfl hp.1 hp.2 (fun c3 c4 => ?_) (fun c3 => ?_)
    · rw [if_neg (by decide), p3]
      refine ⟨p1, oX_w n1, ?_⟩
      refine n3.at 3 5 (by decide) rfl (by decide) rfl rfl c1 c2 ?_
      have o5 := (n4.2.1.2 n c1 c2).2.2.2.2
      have ea : a_walls s.a n p = wbN s.a n p (2 ^ (s.a.n 1).toNat) := if_pos ⟨⟨c1, c2⟩, c3, c4⟩
      rw [ea] at hq
      by_cases c5 : s.a.f 3 5 n = 0
      · rw [if_pos (show z (s.a.f 3 5 n) = 0 by rw [c5]; rfl), p3]
        refine ⟨p1, oX_w n1, ?_⟩
        refine x_copyW n3 I.2.2.1 (by unfold isW; omega) (by unfold isW; omega) (by omega) (by omega) (by omega) (fun g1 f1 W1 _ => ?_)
        refine for10 91 (fun d g => (∀ c k, ¬ (c = 138) → At g1 g c k) ∧ ∀ d' : Int, 0 ≤ d' → d' < d → gI g 138 d'.toNat = z (-1)) 0 rfl (by omega) (by omega) (by omega) ⟨fun c k _ => At.rf g1 c k, fun d' d0 d1 => by omega⟩ ?_ ?_
        · rintro kb d g d0 d1 ⟨hf, hd⟩ hk
          unfold w_X9_walls_60
          rw [if_neg (show ¬ (90 : Int32) < z d by rw [show (90 : Int32) = z 90 from rfl, z_lt (by omega) (by omega) (by omega) (by omega)]; omega), z_iN (a := d) (by omega) (by omega), z_inc]
          refine ⟨z_in (by omega) (by omega) (by omega), ?_⟩
          rintro _ rfl
          refine hk _ ⟨fun c k hc => (hf c k hc).sI (by omega), fun d' e0 e1 => ?_⟩
          by_cases e : d' = d
          · rw [e, gI_in rfl rfl]; rfl
          · rw [gI_out (by omega)]; exact hd d' e0 (by omega)
        · rintro kb g ⟨hf, hd⟩
          unfold w_X9_walls_60
          rw [if_pos (show (90 : Int32) < z 91 by decide)]
          have W2 : WX g 77 (upF s.a 1 3 (s.a.f 1 3)) := (W1.at' (fun c k b1 b2 b3 b4 b5 b6 => hf c k (by omega))).ext (fun r hr => rfl) (fun r c k hr hc k0 k1 => by
            by_cases er : r = 1 ∧ c = 3
            · obtain ⟨rfl, rfl⟩ := er
              rw [upF_in]
            · rw [upF_out er]) (fun c => rfl) rfl rfl
          have f2 : ∀ c k, ¬ ((77 ≤ c ∧ c ≤ 99) ∨ c = 107 ∨ c = 138) → At h g c k := fun c k hc => (f1 c k (by omega)).tr (hf c k (by omega))
          have C2 : CcX g s.a n := fun d d0 d1 => Or.inl (hd d d0 (by omega))
          refine for32 ((2 ^ (s.a.n 1).toNat : Nat) : Int) (fun i x y g' => (∀ c k, ¬ ((77 ≤ c ∧ c ≤ 99) ∨ c = 107 ∨ c = 138) → At h g' c k) ∧ (∃ e, WX g' 77 (upF s.a 1 3 e)) ∧ CcX g' s.a n ∧ x = z (wbN s.a n p i.toNat) ∧ y = z (if wbN s.a n p i.toNat < 0 then 10 else pc (wbN s.a n p i.toNat))) 0 rfl (by omega) (by omega) (by omega) ⟨f2, ⟨_, W2⟩, C2, rfl, rfl⟩ ?_ ?_
          · clear hf hd W2 f2 C2 g
            rintro kb2 i _ _ g i0 i1 ⟨hf, ⟨e, hT⟩, hC, rfl, rfl⟩ hk
            have eg : gP g 0 3 = w + 1 := by rw [(hf 0 3 (by omega)).2.2]; exact I.1.2.1
            have Hg : WX g w s.a := n3.at' (fun c k b1 b2 b3 b4 b5 b6 => hf c k (by omega))
            have rb := wbN_rg s.a n p i.toNat
            rw [wbN_s i0] at hk
            generalize wbN s.a n p i.toNat = B at *
            have rp := pc_rg B
            unfold w_X9_walls_89
            rw [eg, show w + 1 - 1 = w by omega, show gI g (w + 3) 3 = z (s.a.n 1) from (Hg.n0 1 (by decide)).1, shl_pw l9.1 l9.2]
            refine ⟨by omega, oX_w n1, ?_⟩
            rw [if_neg (by rw [z_le (by omega) (by omega) (by omega) (by omega)]; omega)]
            refine x_pc i0 (by omega) (fun p9 => ?_)
            have ri := pc_rg i
            have same : wb s.a n p i B = B → ∀ g', (∀ c k, ¬ ((77 ≤ c ∧ c ≤ 99) ∨ c = 107 ∨ c = 138) → At h g' c k) → (∃ e, WX g' 77 (upF s.a 1 3 e)) → CcX g' s.a n → kb2 (z B) (z (if B < 0 then 10 else pc B)) (z i + 1) g' := by
              intro e g' f' T' C'
              rw [z_inc]
              rw [e] at hk
              exact hk _ _ g' ⟨f', T', C', rfl, rfl⟩
            by_cases c6 : (if B < 0 then 10 else pc B) ≤ pc i
            · rw [if_pos (by rw [z_le (by split <;> omega) (by split <;> omega) (by omega) (by omega)]; exact c6)]
              refine same ?_ g hf ⟨e, hT⟩ hC
              unfold wb
              rw [if_neg]
              rintro ⟨_, x | x, _⟩
              · rw [if_pos x] at c6; omega
              · split at c6 <;> omega
            · rw [if_neg (by rw [z_le (by split <;> omega) (by split <;> omega) (by omega) (by omega)]; exact c6)]
              have c7 : B < 0 ∨ pc i < pc B := by
                by_cases c : B < 0
                · exact Or.inl c
                · rw [if_neg c] at c6; exact Or.inr (by omega)
              refine x_build Hg hT n4 hw eg ⟨i0, by omega⟩ (fun ed g2 f2 W2 => ?_) (fun ed g2 e2 f2 W2 => ?_)
              · rw [if_neg (by decide)]
                have f3 : ∀ c k, ¬ ((77 ≤ c ∧ c ≤ 99) ∨ c = 107 ∨ c = 138) → At h g2 c k := fun c k hc => (hf c k hc).tr (f2 c k (by omega))
                have C3 : CcX g2 s.a n := fun d d0 d1 => by rw [(f2 138 _ (by omega)).1]; exact hC d d0 d1
                refine x_reach (i := i) W2 n4 C3 ⟨c1, c2⟩ ⟨c3, c4⟩ c5 (fun g3 f4 W4 C4 => ?_)
                have f5 : ∀ c k, ¬ ((77 ≤ c ∧ c ≤ 99) ∨ c = 107 ∨ c = 138) → At h g3 c k := fun c k hc => (f3 c k hc).tr (f4 c k hc)
                cases hb : hbB s.a n p i with
                | false =>
                  rw [if_pos (show z (bI false) = 0 from rfl), z_inc]
                  have e : wb s.a n p i B = i := by unfold wb; rw [if_pos ⟨ed, c7, hb⟩]
                  rw [e] at hk
                  exact hk _ _ g3 ⟨f5, ⟨_, W4⟩, C4, rfl, by rw [if_neg (by omega)]⟩
                | true =>
                  rw [if_neg (show ¬ z (bI true) = 0 by decide)]
                  exact same (by unfold wb; rw [if_neg (fun x => by rw [hb] at x; exact absurd x.2.2 (by decide))]) g3 f5 ⟨_, W4⟩ C4
              · rw [if_pos rfl]
                exact same (by unfold wb; rw [if_neg (fun x => by rw [ed] at x; exact absurd x.1 (by decide))]) g2 (fun c k hc => (hf c k hc).tr (f2 c k (by omega))) ⟨_, W2⟩ (fun d d0 d1 => by rw [(f2 138 _ (by omega)).1]; exact hC d d0 d1)
          · clear hf hd W2 f2 C2 g
            rintro kb2 _ _ g ⟨hf, ⟨e, hT⟩, hC, rfl, rfl⟩
            have eg : gP g 0 3 = w + 1 := by rw [(hf 0 3 (by omega)).2.2]; exact I.1.2.1
            have Hg : WX g w s.a := n3.at' (fun c k b1 b2 b3 b4 b5 b6 => hf c k (by omega))
            unfold w_X9_walls_89
            rw [eg, show w + 1 - 1 = w by omega, show gI g (w + 3) 3 = z (s.a.n 1) from (Hg.n0 1 (by decide)).1, shl_pw l9.1 l9.2]
            refine ⟨by omega, oX_w n1, ?_⟩
            rw [if_pos (by rw [z_le (by omega) (by omega) (by omega) (by omega)]; omega)]
            have ff : ∀ c k, ¬ scrX w c k → At h g c k := fun c k hc => hf c k (by unfold scrX at hc; omega)
            have N3 : NX g w (mkd (fl h) s.a) := I.gh.at' (fun k => hf 0 k (by omega)) (fun c k b1 b2 b3 => hf c k (by omega)) (fun c k b1 b2 => hf c k (by omega))
            have r := I.fin N3 hT.ws ff
            exact hq g r.1 r.2
      · rw [if_neg (show ¬ z (s.a.f 3 5 n) = 0 from z_ne (by omega) (by omega) (by decide) (by decide) c5)]
        have e0 : wbN s.a n p (2 ^ (s.a.n 1).toNat) = 0 := by
          rw [show 2 ^ (s.a.n 1).toNat = (2 ^ (s.a.n 1).toNat - 1) + 1 by omega]
          exact wbN_st c5 _
        rw [e0] at hq
        exact hq h I (KpX.rf h)
    · rw [if_pos rfl]
      exact ref (fun x => c3 x.2)
  · rw [if_pos rfl]
    exact ref (fun x => c1 x.1)
end WALLX
