/-! ===== thieves by the reference ===== -/
def FdM (g : PH) (s : St) (k : Int) : Prop := ∃ j, (0 ≤ j ∧ j < 960 * s.a.n 0) ∧ okI s j = true ∧ cn (okI s) j = k ∧ gI g 0 101 = z (j / 960) ∧ gI g 0 102 = z (j / 20 % 48) ∧ gI g 0 103 = z (j % 20 + 1)
def StM (g : PH) (s : St) : Prop := ∀ t : Int, 0 ≤ t → t < knm s → gI g 71 t.toNat = z (bI (stk1 s t))
def conP (s : St) (p m l k : Int) : Prop := stk1 s k = false → (s.nt 0 k = 1 → fst s.a (far s.a (-1)) (s.nt 1 k) (s.nt 2 k) = -1 → s.nt 2 k = m ∧ car s.a (far s.a (-1)) p l (s.nt 1 k) m = true) ∧ (s.nt 0 k = 0 → fst s.a (far s.a (-1)) (s.nt 1 k) (s.nt 2 k) = -1 ∧ (s.nt 2 k = m → car s.a (far s.a (-1)) p l (s.nt 1 k) m = false))
section THM
variable {h : PH} {s : St}
theorem m_areSo {Q : Int32 → PH → Prop} {p m l : Int} (M : MT h s.a) (FF : FM h (far s.a (-1))) (S : FS h s.a (far s.a (-1))) (N : NtM h s) (ST : StM h s) (n4 : Now s.a) (O : OkNt (s.a.n 0) s.nn s.nt s.kb) (hp : 0 ≤ p ∧ p < s.a.n 0) (hm : 0 ≤ m ∧ m < 48) (hl : 1 ≤ l ∧ l ≤ 20) (hT : ∀ g, (∀ c k, ¬ lawC c k → At h g c k) → asoP s p m l → Q 1 g) (hF : ∀ g, (∀ c k, ¬ lawC c k → At h g c k) → ¬ asoP s p m l → Q 0 g) : w_X10_areSo (z p) (z m) (z l) h Q := by
  have h6 := n4.1.1
  have F3 := (far_gd (-1) n4.1).2.2.1
  have kr := knm_rg O
  have ON := n4.2.1
  have ON1 := ON.1
  unfold w_X10_areSo
  refine for10 (knm s) (fun i g => (∀ c k, ¬ lawC c k → At h g c k) ∧ ∀ k, 0 ≤ k → k < i → conP s p m l k) 0 rfl (by omega) (by omega) (by omega) ⟨fun c k _ => At.rf h c k, fun k k0 k1 => by omega⟩ ?_ ?_
  · rintro kb i g i0 i1 ⟨hf, hJ⟩ hk
    have Ng : NtM g s := N.at' (fun k hk => hf 0 k (by unfold lawC; omega)) (fun c k b1 b2 => hf c k (by unfold lawC; omega))
    have on := O.2.2 i i0 (by omega)
    have t3 := Ng.2.2 i i0 (by omega)
    have e71 : gI g 71 i.toNat = z (bI (stk1 s i)) := by rw [(hf 71 _ (by unfold lawC; omega)).1]; exact ST i i0 i1
    have good : ∀ g', (∀ c k, ¬ lawC c k → At g g' c k) → conP s p m l i → kb (z i + 1) g' := by
      intro g' f' hc
      rw [z_inc]
      refine hk g' ⟨fun c k hc => (hf c k hc).tr (f' c k hc), fun k k0 k1 => ?_⟩
      by_cases e : k = i
      · rw [e]; exact hc
      · exact hJ k k0 (by omega)
    have bad : ∀ g', (∀ c k, ¬ lawC c k → At g g' c k) → ¬ conP s p m l i → Q 0 g' := fun g' f' hc => hF g' (fun c k hc => (hf c k hc).tr (f' c k hc)) (fun x => hc (x i i0 i1))
    unfold w_X10_areSo_3
    refine knM Ng O ?_
    have ek : (if s.kb = -1 then s.nn else s.kb) = knm s := rfl
    rw [ek, if_neg (by rw [z_le (by omega) (by omega) (by omega) (by omega)]; omega), z_iN (a := i) (by omega) (by omega)]
    refine ⟨z_in (by omega) (by omega) (by omega), ?_⟩
    rw [e71]
    cases hb : stk1 s i with
    | true =>
      rw [if_neg (show ¬ z (bI true) = 0 by decide)]
      exact good g (fun c k _ => At.rf g c k) (fun x => by rw [hb] at x; exact absurd x (by decide))
    | false =>
      rw [if_pos (show z (bI false) = 0 from rfl)]
      refine ⟨z_in (by omega) (by omega) (by omega), ?_⟩
      by_cases c2 : s.nt 0 i = 2
      · have ot : 0 ≤ s.nt 1 i ∧ s.nt 1 i < i := by
          rcases on with x | x
          · omega
          · exact x.2.1
        rw [t3.2 c2, if_neg (show ¬ z (s.nt 1 i) = -1 from z_ne (by omega) (by omega) (by decide) (by decide) (show s.nt 1 i ≠ -1 by omega))]
        exact good g (fun c k _ => At.rf g c k) (fun _ => ⟨fun x => by omega, fun x => by omega⟩)
      · have on' : (s.nt 0 i = 0 ∨ s.nt 0 i = 1) ∧ (0 ≤ s.nt 1 i ∧ s.nt 1 i < s.a.n 0) ∧ (0 ≤ s.nt 2 i ∧ s.nt 2 i < 48) := by
          rcases on with x | x
          · exact x
          · exact absurd x.1 c2
        obtain ⟨o1, o2, o3⟩ := on'
        obtain ⟨e67, e68, e69, e70⟩ := t3.1 (by omega)
        rw [e70, if_pos rfl, e67, e68, zn_48, z_mul, z_add, z_iN (a := 48 * s.nt 1 i + s.nt 2 i) (by omega) (by omega), (hf 51 _ (by unfold lawC; omega)).1, S _ _ o2.1 o2.2 o3.1 o3.2]
        refine ⟨z_in (by omega) (by omega) (by omega), z_in (by omega) (by omega) (by omega), z_in (by omega) (by omega) (by omega), ?_⟩
        have bf := fst_rg ON (far s.a (-1)) (s.nt 1 i) (s.nt 2 i)
        have at1 : ∀ g', (∀ c k, ¬ lawC c k → At g g' c k) → (fst s.a (far s.a (-1)) (s.nt 1 i) (s.nt 2 i) ≠ -1 ∨ (s.nt 2 i = m ∧ car s.a (far s.a (-1)) p l (s.nt 1 i) m = true)) → w_X10_areSo_91 (fun h13 => Q 0 h13) Q kb (z p) (z m) (z l) (z i) g' := by
          intro g' f' hx
          unfold w_X10_areSo_91 w_X10_areSo_96
          rw [z_iN (a := i) (by omega) (by omega), (f' 69 _ (by unfold lawC; omega)).1, e69]
          refine ⟨z_in (by omega) (by omega) (by omega), ?_⟩
          rcases o1 with c0 | c1
          · rw [if_neg (by rw [c0]; decide)]
            refine bad g' f' (fun hc => ?_)
            have h0 := (hc hb).2 c0
            rcases hx with y | y
            · exact y h0.1
            · have := h0.2 y.1; rw [y.2] at this; exact absurd this (by decide)
          · rw [if_pos (show (1 : Int32) = z (s.nt 0 i) by rw [c1]; rfl)]
            refine good g' f' (fun _ => ⟨fun _ y => ?_, fun y => by omega⟩)
            rcases hx with x | x
            · exact absurd y x
            · exact x
        have at0 : ∀ g', (∀ c k, ¬ lawC c k → At g g' c k) → fst s.a (far s.a (-1)) (s.nt 1 i) (s.nt 2 i) = -1 → ¬ (s.nt 2 i = m ∧ car s.a (far s.a (-1)) p l (s.nt 1 i) m = true) → w_X10_areSo_95 (fun h13 => Q 0 h13) Q kb (z p) (z m) (z l) (z i) g' := by
          intro g' f' hx hy
          unfold w_X10_areSo_95 w_X10_areSo_96
          rw [z_iN (a := i) (by omega) (by omega), (f' 69 _ (by unfold lawC; omega)).1, e69]
          refine ⟨z_in (by omega) (by omega) (by omega), ?_⟩
          rcases o1 with c0 | c1
          · rw [if_pos (show (0 : Int32) = z (s.nt 0 i) by rw [c0]; rfl)]
            refine good g' f' (fun _ => ⟨fun y => by omega, fun _ => ⟨hx, fun em => ?_⟩⟩)
            cases hc : car s.a (far s.a (-1)) p l (s.nt 1 i) m with
            | false => rfl
            | true => exact absurd ⟨em, hc⟩ hy
          · rw [if_neg (by rw [c1]; decide)]
            exact bad g' f' (fun hc => hy ((hc hb).1 c1 hx))
        by_cases d1 : fst s.a (far s.a (-1)) (s.nt 1 i) (s.nt 2 i) = -1
        · rw [if_pos (show z (fst s.a (far s.a (-1)) (s.nt 1 i) (s.nt 2 i)) = -1 by rw [d1]; rfl)]
          refine ⟨z_in (by omega) (by omega) (by omega), ?_⟩
          by_cases d2 : s.nt 2 i = m
          · rw [if_pos (congrArg z d2)]
            refine ⟨z_in (by omega) (by omega) (by omega), ?_⟩
            obtain ⟨fr, K⟩ := M.2.2.2.2.2.2.2.1
            refine m_carries (K.at' (fun c k b1 b2 => hf c k (by unfold lawC; omega))) n4.2.2.2.2.1 (FF.at' (fun k => hf 50 k (by unfold lawC; omega))) (F3 _ _) (by omega) (by omega) (by omega) hm (fun g' f' => ?_)
            cases hc : car s.a (far s.a (-1)) p l (s.nt 1 i) m with
            | false =>
              rw [if_pos (show z (if false = true then (1 : Int) else 0) = 0 from rfl)]
              exact at0 g' f' d1 (fun x => by rw [hc] at x; exact absurd x.2 (by decide))
            | true =>
              rw [if_neg (show ¬ z (if true = true then (1 : Int) else 0) = 0 by decide)]
              exact at1 g' f' (Or.inr ⟨d2, hc⟩)
          · rw [if_neg (z_ne (by omega) (by omega) (by omega) (by omega) d2)]
            exact at0 g (fun c k _ => At.rf g c k) d1 (fun x => d2 x.1)
        · rw [if_neg (show ¬ z (fst s.a (far s.a (-1)) (s.nt 1 i) (s.nt 2 i)) = -1 from z_ne (by omega) (by omega) (by decide) (by decide) d1)]
          exact at1 g (fun c k _ => At.rf g c k) (Or.inl d1)
  · rintro kb g ⟨hf, hJ⟩
    have Ng : NtM g s := N.at' (fun k hk => hf 0 k (by unfold lawC; omega)) (fun c k b1 b2 => hf c k (by unfold lawC; omega))
    unfold w_X10_areSo_3
    refine knM Ng O ?_
    have ek : (if s.kb = -1 then s.nn else s.kb) = knm s := rfl
    rw [ek, if_pos (by rw [z_le (by omega) (by omega) (by omega) (by omega)]; omega)]
    exact hT g hf hJ
def thM (c k : Nat) : Prop := lawC c k ∨ (c = 0 ∧ 101 ≤ k ∧ k ≤ 103)
theorem m_layThieves {Q : Int32 → PH → Prop} {k : Int} (J : IM h s) (hk0 : -1 ≤ k ∧ k < 2147483648) (hq : ∀ g, (∀ c k, ¬ scrM c k → At h g c k) → (0 ≤ k → k < cn (okI s) (960 * s.a.n 0) → FdM g s k) → Q (z (cn (okI s) (960 * s.a.n 0))) g) : w_X10_layThieves (z k) h Q := by
  have n4 := J.1.2.2
  have h6 := n4.1.1
  have N := J.2.2.2.1
  have O := J.2.2.2.2.2.2.2.2.2.2.2.1
  have kr := knm_rg O
  have ek : (if s.kb = -1 then s.nn else s.kb) = knm s := rfl
  have cr : ∀ i : Int, 0 ≤ i → 0 ≤ cn (okI s) i ∧ cn (okI s) i ≤ i * 1 := fun i i0 => cn_rg (okI s) i0
  have ntm : ∀ g, (∀ c k, ¬ (c = 71) → At h g c k) → NtM g s := fun g hf => N.at' (fun k hk => hf 0 k (by omega)) (fun c k b1 b2 => hf c k (by omega))
  unfold w_X10_layThieves
  refine for10 (knm s) (fun i g => (∀ c k, ¬ (c = 71) → At h g c k) ∧ ∀ t : Int, 0 ≤ t → t < i → gI g 71 t.toNat = z 0) 0 rfl (by omega) (by omega) (by omega) ⟨fun c k _ => At.rf h c k, fun t t0 t1 => by omega⟩ ?_ ?_
  · rintro kb i g i0 i1 ⟨hf, hJ⟩ hk
    unfold w_X10_layThieves_2
    refine knM (ntm g hf) O ?_
    rw [ek, if_neg (by rw [z_le (by omega) (by omega) (by omega) (by omega)]; omega), z_iN (by omega) (by omega), z_inc]
    refine ⟨z_in (by omega) (by omega) (by omega), ?_⟩
    rintro _ rfl
    refine hk _ ⟨fun c k hc => (hf c k hc).sI (by omega), fun t t0 t1 => ?_⟩
    by_cases e : t = i
    · rw [e, gI_in rfl rfl]; rfl
    · rw [gI_out (by omega)]; exact hJ t t0 (by omega)
  · rintro kb g ⟨hf, hJ⟩
    unfold w_X10_layThieves_2
    refine knM (ntm g hf) O ?_
    rw [ek, if_pos (by rw [z_le (by omega) (by omega) (by omega) (by omega)]; omega)]
    refine knM (ntm g hf) O ?_
    rintro _ rfl
    rw [ek, zn_1, z_sub]
    refine down1 (fun i g' => (∀ c k, ¬ (c = 71) → At h g' c k) ∧ ∀ t : Int, 0 ≤ t → t < knm s → gI g' 71 t.toNat = z (bI (stq s.nt (knm s) (knm s - 1 - i).toNat t))) (knm s - 1) rfl (by omega) (by omega) ⟨hf, fun t t0 t1 => ?_⟩ ?_ ?_
    · rw [hJ t t0 t1, show (knm s - 1 - (knm s - 1)).toNat = 0 by omega]; rfl
    · clear hf hJ g
      rintro kb i g i0 i1 ⟨hf, hJ⟩ hk
      have t3 := (ntm g hf).2.2 i i0 (by omega)
      have on := O.2.2 i i0 (by omega)
      have h24 := hJ i i0 (by omega)
      have stop : (∀ t : Int, stq s.nt (knm s) (knm s - 1 - (i - 1)).toNat t = stq s.nt (knm s) (knm s - 1 - i).toNat t) → kb (z (i - 1)) g := fun e => hk g ⟨hf, fun t t0 t1 => by rw [e t]; exact hJ t t0 t1⟩
      unfold w_X10_layThieves_30
      rw [zn_0, if_neg (by rw [z_lt (by omega) (by omega) (by omega) (by omega)]; omega), z_m1, z_add, show i + -1 = i - 1 by omega, z_iN (a := i) (by omega) (by omega), h24]
      refine ⟨z_in (by omega) (by omega) (by omega), ?_⟩
      cases hb : stq s.nt (knm s) (knm s - 1 - i).toNat i with
      | true =>
        rw [if_neg (show ¬ z (bI true) = z 0 by decide)]
        exact stop (fun t => by rw [stq_s (by omega), hb]; simp)
      | false =>
        rw [if_pos (show z (bI false) = z 0 from rfl)]
        refine ⟨z_in (by omega) (by omega) (by omega), ?_⟩
        by_cases c2 : s.nt 0 i = 2
        · have ot : 0 ≤ s.nt 1 i ∧ s.nt 1 i < i := by
            rcases on with x | x
            · omega
            · exact x.2.1
          rw [t3.2 c2, if_neg (z_ne (by omega) (by omega) (by omega) (by omega) (by omega)), z_iN (a := s.nt 1 i) (by omega) (by omega)]
          refine ⟨z_in (by omega) (by omega) (by omega), z_in (by omega) (by omega) (by omega), ?_⟩
          rintro _ rfl
          refine hk _ ⟨fun c k hc => (hf c k hc).sI (by omega), fun t t0 t1 => ?_⟩
          rw [stq_s (by omega), hb, decide_eq_true c2]
          by_cases e : t = s.nt 1 i
          · rw [e, gI_in rfl rfl, decide_eq_true rfl]
            simp
            rfl
          · rw [gI_out (by omega), hJ t t0 t1, decide_eq_false (fun x => e x.symm)]
            simp
        · have e70 : gI g 70 i.toNat = -1 := (t3.1 (by rcases on with x | x <;> omega)).2.2.2
          rw [e70, if_pos (show (-1 : Int32) = z (-1) from rfl)]
          exact stop (fun t => by rw [stq_s (by omega), decide_eq_false c2]; simp)
    · clear hf hJ g
      rintro kb g ⟨hf, hJ⟩
      unfold w_X10_layThieves_30
      rw [zn_0, if_pos (by rw [z_lt (by omega) (by omega) (by omega) (by omega)]; omega)]
      have ST : StM g s := fun t t0 t1 => by rw [hJ t t0 t1, show (knm s - 1 - -1).toNat = (knm s).toNat by omega]; rfl
      refine m_layDay (J.1.1.at' (fun c k b1 b2 => hf c k (by omega))) (J.1.2.1.at' (fun c k b1 b2 => hf c k (by omega))) n4 (fun g1 f1 Dy => ?_)
      have ST1 : StM g1 s := fun t t0 t1 => by rw [(f1 71 _ (by unfold dayR; omega)).1]; exact ST t t0 t1
      have N1 : NtM g1 s := (ntm g hf).at' (fun k hk => f1 0 k (by unfold dayR; omega)) (fun c k b1 b2 => f1 c k (by unfold dayR; omega))
      have F1 : ∀ c k, ¬ scrM c k → At h g1 c k := fun c k hc => (hf c k (by unfold scrM at hc; omega)).tr (f1 c k (by unfold scrM at hc; unfold dayR; omega))
      obtain ⟨dM, dD, dN, dF, dS, dH, dW⟩ := Dy
      clear hf hJ ST f1
      have dk : ∀ g, (∀ c k, ¬ thM c k → At g1 g c k) → MT g s.a ∧ FM g (far s.a (-1)) ∧ FS g s.a (far s.a (-1)) ∧ NtM g s ∧ StM g s := fun g hg => ⟨dM.at' (fun c k b1 b2 => hg c k (by unfold thM lawC; omega)), dF.at' (fun k => hg 50 k (by unfold thM lawC; omega)), fun p m c1 c2 c3 c4 => by rw [(hg 51 _ (by unfold thM lawC; omega)).1]; exact dS p m c1 c2 c3 c4, N1.at' (fun k hk => hg 0 k (by unfold thM lawC; omega)) (fun c k b1 b2 => hg c k (by unfold thM lawC; omega)), fun t t0 t1 => by rw [(hg 71 _ (by unfold thM lawC; omega)).1]; exact ST1 t t0 t1⟩
      refine for21 (s.a.n 0) (fun p x g => x = z (cn (okI s) (960 * p)) ∧ (∀ c k, ¬ thM c k → At g1 g c k) ∧ (0 ≤ k → k < cn (okI s) (960 * p) → FdM g s k)) 0 rfl (by omega) (by omega) (by omega) ⟨rfl, fun c k _ => At.rf g1 c k, fun x y => by have : cn (okI s) (960 * 0) = 0 := rfl; omega⟩ ?_ ?_
      · rintro kb2 p _ g p0 p1 ⟨rfl, hf, hd⟩ hk2
        unfold w_X10_layThieves_79
        rw [iN_0, (dk g hf).1.1.1, if_neg (by rw [z_le (by omega) (by omega) (by omega) (by omega)]; omega), z_inc]
        refine for21 48 (fun m x g => x = z (cn (okI s) (960 * p + 20 * m)) ∧ (∀ c k, ¬ thM c k → At g1 g c k) ∧ (0 ≤ k → k < cn (okI s) (960 * p + 20 * m) → FdM g s k)) 0 rfl (by omega) (by omega) (by omega) ⟨by rw [show 960 * p + 20 * 0 = 960 * p by omega], hf, by rw [show 960 * p + 20 * 0 = 960 * p by omega]; exact hd⟩ ?_ ?_
        · clear hf hd g
          rintro kb3 m _ g m0 m1 ⟨rfl, hf, hd⟩ hk3
          unfold w_X10_layThieves_92
          rw [zn_48, if_neg (by rw [z_le (by omega) (by omega) (by omega) (by omega)]; omega), z_inc]
          refine for21 21 (fun l x g => x = z (cn (okI s) (960 * p + 20 * m + (l - 1))) ∧ (∀ c k, ¬ thM c k → At g1 g c k) ∧ (0 ≤ k → k < cn (okI s) (960 * p + 20 * m + (l - 1)) → FdM g s k)) 1 rfl (by omega) (by omega) (by omega) ⟨by rw [show 960 * p + 20 * m + (1 - 1) = 960 * p + 20 * m by omega], hf, by rw [show 960 * p + 20 * m + (1 - 1) = 960 * p + 20 * m by omega]; exact hd⟩ ?_ ?_
          · clear hf hd g
            rintro kb4 l _ g l0 l1 ⟨rfl, hf, hd⟩ hk4
            obtain ⟨M', FF', S', N', ST'⟩ := dk g hf
            unfold w_X10_layThieves_102
            rw [zn_20, if_neg (by rw [z_lt (by omega) (by omega) (by omega) (by omega)]; omega)]
            have ei : 960 * p + 20 * m + (l + 1 - 1) = 960 * p + 20 * m + (l - 1) + 1 := by omega
            rw [ei] at hk4
            have eo : okI s (960 * p + 20 * m + (l - 1)) = aso s p m l := okI_at ⟨m0, m1⟩ (by omega)
            have es := cn_s (f := okI s) (i := 960 * p + 20 * m + (l - 1)) (by omega)
            have cb := cr (960 * p + 20 * m + (l - 1)) (by omega)
            have ji : 0 ≤ 960 * p + 20 * m + (l - 1) ∧ 960 * p + 20 * m + (l - 1) < 960 * s.a.n 0 := by omega
            have d1 : (960 * p + 20 * m + (l - 1)) / 960 = p := by omega
            have d2 : (960 * p + 20 * m + (l - 1)) / 20 % 48 = m := by omega
            have d3 : (960 * p + 20 * m + (l - 1)) % 20 + 1 = l := by omega
            generalize 960 * p + 20 * m + (l - 1) = j at *
            refine m_areSo M' FF' S' N' ST' n4 O ⟨p0, p1⟩ ⟨m0, m1⟩ (by omega) (fun g2 f2 ft => ?_) (fun g2 f2 ft => ?_)
            · rw [if_neg (by decide), z_inc, z_inc]
              have oj : okI s j = true := by rw [eo]; exact aso_T ft
              rw [oj, if_pos rfl] at es
              by_cases e : cn (okI s) j = k
              · rw [if_pos (congrArg z e)]
                rintro _ rfl _ rfl _ rfl
                refine hk4 _ _ ⟨by rw [es], fun c k hc => ((((hf c k hc).tr (f2 c k (fun x => hc (Or.inl x)))).sI (by unfold thM at hc; omega)).sI (by unfold thM at hc; omega)).sI (by unfold thM at hc; omega), fun _ _ => ⟨j, ji, oj, e, ?_, ?_, ?_⟩⟩
                · rw [gI_out (by omega), gI_out (by omega), gI_in rfl rfl, d1]
                · rw [gI_out (by omega), gI_in rfl rfl, d2]
                · rw [gI_in rfl rfl, d3]
              · rw [if_neg (z_ne (by omega) (by omega) (by omega) (by omega) e)]
                refine hk4 _ _ ⟨by rw [es], fun c k hc => (hf c k hc).tr (f2 c k (fun x => hc (Or.inl x))), fun y1 y2 => ?_⟩
                obtain ⟨j', x1, x2, x3, x4, x5, x6⟩ := hd y1 (by omega)
                exact ⟨j', x1, x2, x3, by rw [(f2 0 101 (by unfold lawC; omega)).1]; exact x4, by rw [(f2 0 102 (by unfold lawC; omega)).1]; exact x5, by rw [(f2 0 103 (by unfold lawC; omega)).1]; exact x6⟩
            · rw [if_pos rfl, z_inc]
              have oj : okI s j = false := by rw [eo]; exact aso_F ft
              rw [oj, if_neg (by decide), Int.add_zero] at es
              refine hk4 _ _ ⟨by rw [es], fun c k hc => (hf c k hc).tr (f2 c k (fun x => hc (Or.inl x))), fun y1 y2 => ?_⟩
              obtain ⟨j', x1, x2, x3, x4, x5, x6⟩ := hd y1 (by omega)
              exact ⟨j', x1, x2, x3, by rw [(f2 0 101 (by unfold lawC; omega)).1]; exact x4, by rw [(f2 0 102 (by unfold lawC; omega)).1]; exact x5, by rw [(f2 0 103 (by unfold lawC; omega)).1]; exact x6⟩
          · clear hf hd g
            rintro kb4 _ g ⟨rfl, hf, hd⟩
            unfold w_X10_layThieves_102
            rw [zn_20, if_pos (by rw [z_lt (by omega) (by omega) (by omega) (by omega)]; omega)]
            rw [show 960 * p + 20 * m + ((21 : Int) - 1) = 960 * p + 20 * (m + 1) by omega] at hd ⊢
            exact hk3 _ _ ⟨rfl, hf, hd⟩
        · clear hf hd g
          rintro kb3 _ g ⟨rfl, hf, hd⟩
          unfold w_X10_layThieves_92
          rw [zn_48, if_pos (by rw [z_le (by omega) (by omega) (by omega) (by omega)]; omega)]
          rw [show 960 * p + 20 * 48 = 960 * (p + 1) by omega] at hd ⊢
          exact hk2 _ _ ⟨rfl, hf, hd⟩
      · rintro kb2 _ g ⟨rfl, hf, hd⟩
        unfold w_X10_layThieves_79
        rw [iN_0, (dk g hf).1.1.1, if_pos (by rw [z_le (by omega) (by omega) (by omega) (by omega)]; omega)]
        exact hq g (fun c k hc => (F1 c k hc).tr (hf c k (fun x => hc (by unfold thM lawC at x; unfold scrM; omega)))) hd
theorem ms_thieves {Q : Int32 → PH → Prop} (J : IM h s) (hq : ∀ g, IM g s → Q (z (a_thieves s)) g) : w_X10_thieves h Q := by
  unfold w_X10_thieves
  rintro _ rfl
  have J1 := J.fr (fr0 h 0)
  rw [z_m1]
  exact m_layThieves (k := -1) J1 (by omega) (fun g f _ => hq g (J1.fr f))
theorem ms_thief {Q : Int32 → PH → Prop} {k v : Int} (J : IM h s) (hk : i32 k) (hv : i32 v) (hq : ∀ g, IM g s → Q (z (a_thief s k v)) g) : w_X10_thief (z k) (z v) h Q := by
  unfold w_X10_thief
  rintro _ rfl
  have J1 := J.fr (fr0 h 0)
  generalize sI h 0 0 0 = h1 at J1
  have hk1 := hk.1
  have hk2 := hk.2
  have hv1 := hv.1
  have hv2 := hv.2
  have h6 := J1.1.2.2.1.1
  have ref : ¬ (0 ≤ k ∧ (0 ≤ v ∧ v ≤ 2)) → Q (-1) h1 := fun c => by
    have e : a_thief s k v = -1 := if_neg c
    rw [e] at hq
    exact hq h1 J1
  rw [zn_0]
  by_cases c1 : k < 0
  · rw [if_pos (by rw [z_lt (by omega) (by omega) (by omega) (by omega)]; omega)]; exact ref (by omega)
  · rw [if_neg (by rw [z_lt (by omega) (by omega) (by omega) (by omega)]; omega)]
    by_cases c2 : v < 0
    · rw [if_pos (by rw [z_lt (by omega) (by omega) (by omega) (by omega)]; omega)]; exact ref (by omega)
    · rw [if_neg (by rw [z_lt (by omega) (by omega) (by omega) (by omega)]; omega), zn_2]
      by_cases c3 : v ≤ 2
      · rw [if_pos (by rw [z_le (by omega) (by omega) (by omega) (by omega)]; omega)]
        have hc : 0 ≤ k ∧ (0 ≤ v ∧ v ≤ 2) := by omega
        have cr := cn_rg (okI s) (n := 960 * s.a.n 0) (by omega)
        refine m_layThieves (k := k) J1 (by omega) (fun g f F => ?_)
        by_cases c4 : k < cn (okI s) (960 * s.a.n 0)
        · rw [if_pos (by rw [z_lt (by omega) (by omega) (by omega) (by omega)]; omega)]
          obtain ⟨j, j0, oj, ej, e5, e6, e7⟩ := F hc.1 c4
          have ekt : kth (okI s) (960 * s.a.n 0) k = j := by rw [← ej]; exact kth_at j0.1 j0.2 oj
          have e : a_thief s k v = (if v = 0 then j / 960 else if v = 1 then j / 20 % 48 else j % 20 + 1) := by unfold a_thief; rw [if_pos hc, if_neg (by omega), ekt]
          rw [e] at hq
          have h' := hq g (J1.fr f)
          by_cases v0 : v = 0
          · rw [if_pos (congrArg z v0), e5]
            rw [if_pos v0] at h'; exact h'
          · rw [if_neg (z_ne (by omega) (by omega) (by omega) (by omega) v0), zn_1]
            rw [if_neg v0] at h'
            by_cases v1 : v = 1
            · rw [if_pos (congrArg z v1), e6]
              rw [if_pos v1] at h'; exact h'
            · rw [if_neg (z_ne (by omega) (by omega) (by omega) (by omega) v1), e7]
              rw [if_neg v1] at h'; exact h'
        · rw [if_neg (by rw [z_lt (by omega) (by omega) (by omega) (by omega)]; omega)]
          have e : a_thief s k v = -2 := by unfold a_thief; rw [if_pos hc, if_pos (by omega)]
          rw [e] at hq
          exact hq g (J1.fr f)
      · rw [if_neg (by rw [z_le (by omega) (by omega) (by omega) (by omega)]; omega)]; exact ref (by omega)
end THM
