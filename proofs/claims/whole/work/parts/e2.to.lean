/-! ===== the reader of the class: links, heirs, dogs, what is told once ===== -/
theorem ff_ne {p : Int → Bool} {n : Int} : ff p n ≠ -1 ↔ ∃ k, (0 ≤ k ∧ k < n) ∧ p k = true := by
  rcases ff_ca p n with ⟨e, no⟩ | ⟨a, b, c, d⟩
  · rw [e]
    refine ⟨fun x => absurd rfl x, ?_⟩
    rintro ⟨k, ⟨k0, k1⟩, kp⟩
    rw [no k k0 k1] at kp
    exact absurd kp (by decide)
  · exact ⟨fun _ => ⟨_, ⟨a, b⟩, c⟩, fun _ => by omega⟩
def lk1 (a : Wd) (x v : Int) : Bool := decide (ff (fun k => decide (a.f 1 0 k = x) && decide (a.f 1 1 k = v)) (a.n 1) ≠ -1)
theorem lkd_or (a : Wd) (x v : Int) : lkd a x v = (lk1 a x v || lk1 a v x) := by
  have h : lkd a x v = true ↔ (lk1 a x v || lk1 a v x) = true := by
    unfold lkd lk1
    rw [Bool.or_eq_true, decide_eq_true_eq, decide_eq_true_eq, decide_eq_true_eq, ff_ne, ff_ne, ff_ne]
    constructor
    · rintro ⟨k, hk, e⟩
      rcases Bool.or_eq_true _ _ ▸ e with e | e
      · exact Or.inl ⟨k, hk, e⟩
      · exact Or.inr ⟨k, hk, e⟩
    · rintro (⟨k, hk, e⟩ | ⟨k, hk, e⟩)
      · exact ⟨k, hk, by show (_ || _) = true; rw [Bool.or_eq_true]; exact Or.inl e⟩
      · exact ⟨k, hk, by show (_ || _) = true; rw [Bool.or_eq_true]; exact Or.inr e⟩
  cases c : lkd a x v
  · cases c2 : (lk1 a x v || lk1 a v x)
    · rfl
    · rw [h.mpr c2] at c; exact absurd c (by decide)
  · rw [h.mp c]
section YST2
variable {h g : PH} {v : Nat} {T : Int → Int} {L p : Int} {s : PS} {r0 : PR}
theorem x_isLinked {Q : Int32 → PH → Prop} {x y : Int} (O : OkPs s) (R : RdS h v T L s) (hx : 0 ≤ x ∧ x < 100) (hy : 0 ≤ y ∧ y < 100) (hq : Q (z (bI (lk1 s.a x y))) h) : w_X5_isLinked (z x) (z y) h Q := by
  have W := R.2.2.2.1
  have n1 := W.n0 1 (by omega)
  have cm : cM 1 = 9 := rfl
  have z0 := (O.1.1 0 (by omega)).1
  have c0 : capT 0 = 6 := rfl
  have rows := (O.1.1 1 (by omega)).2
  unfold lk1 at hq
  unfold w_X5_isLinked
  refine for10 (s.a.n 1) (fun i g => g = h ∧ ∀ j, 0 ≤ j → j < i → (decide (s.a.f 1 0 j = x) && decide (s.a.f 1 1 j = y)) = false) 0 rfl (by omega) (by omega) (by omega) ⟨rfl, fun j j0 j1 => by omega⟩ ?_ ?_
  · rintro kb i g i0 i1 ⟨rfl, hJ⟩ hn
    have b := rows i i0 i1
    unfold OkRw at b
    rw [if_neg (by decide), if_pos rfl] at b
    have b0 := b.1
    have b1 := b.2.1
    unfold w_X5_isLinked_2
    refine ⟨R.o1, R.o2, ?_⟩
    have o3 := R.o2
    rw [R.w] at o3
    rw [R.w, n1.1, if_neg (by rw [z_le (by omega) (by omega) (by omega) (by omega)]; omega)]
    refine ⟨R.o1, o3, ?_⟩
    refine W.at 1 0 (by omega) rfl (by decide) rfl rfl i0 i1 ?_
    have next : ¬ (s.a.f 1 0 i = x ∧ s.a.f 1 1 i = y) → kb (z i + 1) g := fun c => by
      rw [z_inc]
      refine hn _ ⟨rfl, fun j j0 j1 => ?_⟩
      by_cases e : j = i
      · rw [e, Bool.and_eq_false_iff, decide_eq_false_iff_not, decide_eq_false_iff_not]
        by_cases c1 : s.a.f 1 0 i = x
        · exact Or.inr (fun c2 => c ⟨c1, c2⟩)
        · exact Or.inl c1
      · exact hJ j j0 (by omega)
    by_cases c1 : s.a.f 1 0 i = x
    · rw [if_pos (by rw [c1])]
      refine ⟨R.o1, R.o2, ?_⟩
      rw [R.w]
      refine W.at 1 1 (by omega) rfl (by decide) rfl rfl i0 i1 ?_
      by_cases c2 : s.a.f 1 1 i = y
      · rw [if_pos (by rw [c2])]
        rw [ff_yes i0 i1 (by rw [Bool.and_eq_true, decide_eq_true_eq, decide_eq_true_eq]; exact ⟨c1, c2⟩) hJ, decide_eq_true (by omega)] at hq
        exact hq
      · rw [if_neg (z_ne (by replace b1 : 0 ≤ s.a.f 1 1 i ∧ s.a.f 1 1 i < s.a.n 0 := b1; omega) (by replace b1 : 0 ≤ s.a.f 1 1 i ∧ s.a.f 1 1 i < s.a.n 0 := b1; omega) (by omega) (by omega) c2)]
        exact next (fun e => c2 e.2)
    · rw [if_neg (z_ne (by replace b0 : 0 ≤ s.a.f 1 0 i ∧ s.a.f 1 0 i < s.a.n 0 := b0; omega) (by replace b0 : 0 ≤ s.a.f 1 0 i ∧ s.a.f 1 0 i < s.a.n 0 := b0; omega) (by omega) (by omega) c1)]
      exact next (fun e => c1 e.1)
  · rintro kb g ⟨rfl, hJ⟩
    unfold w_X5_isLinked_2
    refine ⟨R.o1, R.o2, ?_⟩
    rw [R.w, n1.1, if_pos (by rw [z_le (by omega) (by omega) (by omega) (by omega)]; omega)]
    rw [ff_no hJ, decide_eq_false (fun x => x rfl)] at hq
    exact hq
theorem x_readLink {Q : Int32 → PH → Prop} (O : OkPs s) (R : RdS h v T L s) (hp : 0 ≤ p ∧ p ≤ L) (t0 : TcX h T L p) (hF : ∀ g k u, lnLink T L s p = .inl (k, u) → Fa v h g k u → Q 0 g) (hT : ∀ g s' q, lnLink T L s p = .inr (s', q) → RdS g v T L s' → Fr v h g → gI g 3 3 = z q → Q 1 g) : w_X5_readLink h Q := by
  have P1 := R.nx hp
  generalize e0 : lnLink T L s p = r0 at hF hT
  have z0 := (O.1.1 0 (by omega)).1
  have c0 : capT 0 = 6 := rfl
  unfold lnLink at e0
  unfold w_X5_readLink
  have R0 := R
  have F0 := Fr.rf v h
  refine ⟨R0.o1, R0.o2, ?_⟩
  rw [R0.w]
  refine x_hasRoom (r := 1) (m := 9) R0 (by omega) rfl rfl (by omega) t0.2.1 (fun hn => ?_) (fun hn g F => ?_)
  rotate_left
  · rw [if_pos rfl]
    rw [if_neg hn] at e0
    exact hF g 2 _ e0.symm (Fa.tr F0 F)
  rw [if_neg (by decide)]
  rw [if_pos hn] at e0
  refine ⟨R0.o1, R0.o2, ?_⟩
  rw [R0.w]
  refine y_told0 (j := 0) O R0 P1 t0.1 rfl rfl (by omega) e0 (fun g k eq F => by rw [if_pos rfl]; exact hF g k _ eq (Fa.tr F0 F)) (fun g1 x e1 l1a l1b R1 G1 t1 c1 D1 => ?_)
  rw [if_neg (by decide)]
  have F1 := F0.tr G1
  have d_0 := c1
  have P2 := R.nx P1
  refine ⟨R1.o1, R1.o2, ?_⟩
  rw [R1.w]
  refine y_told0 (j := 1) O R1 P2 t1.1 rfl rfl (by omega) e1 (fun g k eq F => by rw [if_pos rfl]; exact hF g k _ eq (Fa.tr F1 F)) (fun g2 y e2 l2a l2b R2 G2 t2 c2 D2 => ?_)
  rw [if_neg (by decide)]
  have F2 := F1.tr G2
  replace d_0 := (D2 0 (by decide)).trans d_0
  have d_1 := c2
  have P3 := R.nx P2
  rw [show iN 0 = 0 from rfl, show iN 1 = 1 from rfl, d_0, d_1]
  by_cases c : x = y
  · rw [if_pos (by rw [c])]
    rw [if_pos c] at e2
    exact x_refuse (k := 5) R2 rfl t2.2.1 (fun g F => ⟨Or.inl rfl, hF g 5 _ e2.symm (Fa.tr F2 F)⟩)
  rw [if_neg (z_ne (by omega) (by omega) (by omega) (by omega) c)]
  rw [if_neg c, lkd_or] at e2
  have bad : ∀ b : Bool, (lk1 s.a x y || lk1 s.a y x) = true → w_X5_readLink_107 Q g2 := fun _ b => by
    rw [if_pos b] at e2
    unfold w_X5_readLink_107
    exact x_refuse (k := 3) R2 rfl t2.2.1 (fun g F => ⟨Or.inl rfl, hF g 3 _ e2.symm (Fa.tr F2 F)⟩)
  refine x_isLinked (x := x) (y := y) O R2 (by omega) (by omega) ?_
  cases c1 : lk1 s.a x y with
  | true =>
    rw [if_neg (show ¬ z (bI true) = 0 by decide)]
    exact bad true (by rw [c1]; rfl)
  | false =>
  rw [if_pos (show z (bI false) = 0 from rfl)]
  rw [d_0, d_1]
  refine x_isLinked (x := y) (y := x) O R2 (by omega) (by omega) ?_
  cases c2' : lk1 s.a y x with
  | true =>
    rw [if_neg (show ¬ z (bI true) = 0 by decide)]
    exact bad true (by rw [c1, c2']; rfl)
  | false =>
  rw [if_pos (show z (bI false) = 0 from rfl)]
  rw [c1, c2', if_neg (show ¬ (false || false) = true by decide)] at e2
  clear bad
  rintro _ rfl
  rw [show iN 3 = 3 from rfl]
  have es : ∀ c k, ¬ stC c k → At g2 (sI g2 5 3 0) c k := fun c k hc => (At.rf g2 c k).sI (by unfold stC at hc; omega)
  have t3' : gI (sI g2 5 3 0) 3 3 = z (tE T L (tE T L (tE T L p))) := by rw [gI_out (by omega)]; exact t2.1
  have R2' := R2.at' es
  have F2' := F2.tr (st_fr R.hv es)
  have d_3 : gI (sI g2 5 3 0) 5 3 = z 0 := gI_in rfl rfl
  replace d_0 : gI (sI g2 5 3 0) 5 0 = z x := by rw [gI_out (by omega)]; exact d_0
  replace d_1 : gI (sI g2 5 3 0) 5 1 = z y := by rw [gI_out (by omega)]; exact d_1
  generalize sI g2 5 3 0 = g2' at *
  refine y_num (j := 2) R2' P3 t3' rfl (by omega) rfl rfl (by omega) (by omega) e2 (fun g k eq F => by rw [if_pos rfl]; exact hF g k _ eq (Fa.tr F2' F)) (fun g3 l e3 l3a l3b R3 G3 t3 c3 D3 => ?_)
  rw [if_neg (by decide)]
  have F3 := F2'.tr G3
  replace d_0 := (D3 0 (by decide)).trans d_0
  replace d_1 := (D3 1 (by decide)).trans d_1
  replace d_3 := (D3 3 (by decide)).trans d_3
  have d_2 := c3
  have P4 := R.nx P3
  refine y_end R3 P4 t3.1 e3 (fun g k eq F => by rw [if_pos rfl]; exact hF g k _ eq (Fa.tr F3 F)) (fun g4 e4 R4 G4 t4 D4 => ?_)
  rw [if_neg (by decide)]
  have F4 := F3.tr G4
  replace d_0 := (D4 0).trans d_0
  replace d_1 := (D4 1).trans d_1
  replace d_3 := (D4 3).trans d_3
  replace d_2 := (D4 2).trans d_2
  refine ⟨R4.o1, R4.o2, ?_⟩
  rw [R4.w]
  refine y_add (r := 1) (f := rowf x y l 0 0) R4 (by omega) rfl hn t4 (fun c hc hw => ?_) rfl (fun g5 R5 G5 u5 => ?_)
  · have : c = 0 ∨ c = 1 ∨ c = 2 ∨ c = 3 ∨ c = 4 := by omega
    rcases this with rfl | rfl | rfl | rfl | rfl
    · exact d_0
    · exact d_1
    · exact d_2
    · exact d_3
    · exact absurd hw (by decide)
  · rw [if_neg (by decide)]
    exact hT g5 _ _ e4 R5 (F4.tr G5) u5
theorem x_readHeir {Q : Int32 → PH → Prop} (O : OkPs s) (R : RdS h v T L s) (hp : 0 ≤ p ∧ p ≤ L) (t0 : TcX h T L p) (hF : ∀ g k u, lnHeir T L s p = .inl (k, u) → Fa v h g k u → Q 0 g) (hT : ∀ g s' q, lnHeir T L s p = .inr (s', q) → RdS g v T L s' → Fr v h g → gI g 3 3 = z q → Q 1 g) : w_X5_readHeir h Q := by
  have P1 := R.nx hp
  generalize e0 : lnHeir T L s p = r0 at hF hT
  have z2 := (O.1.1 2 (by omega)).1
  have c0 : capT 2 = 4 := rfl
  unfold lnHeir at e0
  unfold w_X5_readHeir
  have R0 := R
  have F0 := Fr.rf v h
  refine ⟨R0.o1, R0.o2, ?_⟩
  rw [R0.w]
  refine y_told2 (j := 0) O R0 P1 t0.1 rfl rfl (by omega) e0 (fun g k eq F => by rw [if_pos rfl]; exact hF g k _ eq (Fa.tr F0 F)) (fun g1 x e1 l1a l1b R1 G1 t1 c1 D1 => ?_)
  rw [if_neg (by decide)]
  have F1 := F0.tr G1
  have d_0 := c1
  have P2 := R.nx P1
  have ro := (O.1.1 2 (by omega)).2 x l1a l1b
  unfold OkRw at ro
  rw [if_neg (by decide), if_neg (by decide), if_pos rfl] at ro
  replace ro : -1 ≤ s.a.f 2 2 x ∧ s.a.f 2 2 x < s.a.n 2 := ro.2.2
  refine ⟨R1.o1, R1.o2, ?_⟩
  rw [R1.w]
  rw [show iN 0 = 0 from rfl, d_0]
  refine R1.2.2.2.1.at 2 2 (by omega) rfl (by decide) rfl rfl l1a l1b ?_
  by_cases c : s.a.f 2 2 x = -1
  rotate_left
  · rw [if_neg (show ¬ z (s.a.f 2 2 x) = -1 from z_ne (by omega) (by omega) (by decide) (by decide) c)]
    rw [if_neg c] at e1
    exact x_refuse (k := 3) R1 rfl t1.2.1 (fun g F => ⟨Or.inl rfl, hF g 3 _ e1.symm (Fa.tr F1 F)⟩)
  rw [if_pos (by rw [c]; rfl)]
  rw [if_pos c] at e1
  refine ⟨R1.o1, R1.o2, ?_⟩
  rw [R1.w]
  refine y_told2 (j := 1) O R1 P2 t1.1 rfl rfl (by omega) e1 (fun g k eq F => by rw [if_pos rfl]; exact hF g k _ eq (Fa.tr F1 F)) (fun g2 y e2 l2a l2b R2 G2 t2 c2 D2 => ?_)
  rw [if_neg (by decide)]
  have F2 := F1.tr G2
  replace d_0 := (D2 0 (by decide)).trans d_0
  have d_1 := c2
  have P3 := R.nx P2
  rw [show iN 1 = 1 from rfl, d_0, d_1]
  by_cases c' : x = y
  · rw [if_pos (by rw [c'])]
    rw [if_pos c'] at e2
    exact x_refuse (k := 5) R2 rfl t2.2.1 (fun g F => ⟨Or.inl rfl, hF g 5 _ e2.symm (Fa.tr F2 F)⟩)
  rw [if_neg (z_ne (by omega) (by omega) (by omega) (by omega) c')]
  rw [if_neg c'] at e2
  refine ⟨R2.o1, R2.o2, ?_⟩
  rw [R2.w]
  refine x_putR (r := 2) (c := 2) (k := x) (u := y) R2 (by omega) rfl (by decide) rfl rfl rfl l1a l1b (fun g3 R3 G3 t3 => ?_)
  have F3 := F2.tr G3
  refine y_end R3 P3 (t3.trans t2.1) e2 (fun g k eq F => ⟨Or.inl rfl, hF g k _ eq (Fa.tr F3 F)⟩) (fun g4 e4 R4 G4 t4 D4 => ?_)
  exact ⟨Or.inr rfl, hT g4 _ _ e4 R4 (F3.tr G4) t4⟩
theorem x_readDog {Q : Int32 → PH → Prop} (O : OkPs s) (R : RdS h v T L s) (hp : 0 ≤ p ∧ p ≤ L) (t0 : TcX h T L p) (hF : ∀ g k u, lnDog T L s p = .inl (k, u) → Fa v h g k u → Q 0 g) (hT : ∀ g s' q, lnDog T L s p = .inr (s', q) → RdS g v T L s' → Fr v h g → gI g 3 3 = z q → Q 1 g) : w_X5_readDog h Q := by
  have P1 := R.nx hp
  generalize e0 : lnDog T L s p = r0 at hF hT
  have z0 := (O.1.1 0 (by omega)).1
  have c0 : capT 0 = 6 := rfl
  unfold lnDog at e0
  unfold w_X5_readDog
  have R0 := R
  have F0 := Fr.rf v h
  refine ⟨R0.o1, R0.o2, ?_⟩
  rw [R0.w]
  refine y_told0 (j := 0) O R0 P1 t0.1 rfl rfl (by omega) e0 (fun g k eq F => by rw [if_pos rfl]; exact hF g k _ eq (Fa.tr F0 F)) (fun g1 x e1 l1a l1b R1 G1 t1 c1 D1 => ?_)
  rw [if_neg (by decide)]
  have F1 := F0.tr G1
  have d_0 := c1
  have P2 := R.nx P1
  have ro := (O.1.1 0 (by omega)).2 x l1a l1b
  unfold OkRw at ro
  rw [if_pos rfl] at ro
  replace ro : 0 ≤ s.a.f 0 1 x ∧ s.a.f 0 1 x ≤ 20 := ro.2
  refine ⟨R1.o1, R1.o2, ?_⟩
  rw [R1.w]
  rw [show iN 0 = 0 from rfl, d_0]
  refine R1.2.2.2.1.at 0 1 (by omega) rfl (by decide) rfl rfl l1a l1b ?_
  rw [zn_0]
  by_cases c : s.a.f 0 1 x ≤ 0
  rotate_left
  · rw [if_neg (by rw [z_le (by omega) (by omega) (by omega) (by omega)]; omega)]
    rw [if_neg c] at e1
    exact x_refuse (k := 3) R1 rfl t1.2.1 (fun g F => ⟨Or.inl rfl, hF g 3 _ e1.symm (Fa.tr F1 F)⟩)
  rw [if_pos (by rw [z_le (by omega) (by omega) (by omega) (by omega)]; omega)]
  rw [if_pos c] at e1
  have zz : z 0 = 0 := rfl
  refine y_num (j := 1) R1 P2 t1.1 rfl (by omega) rfl rfl (by omega) (by omega) e1 (fun g k eq F => by rw [zz, if_pos rfl]; exact hF g k _ eq (Fa.tr F1 F)) (fun g2 y e2 l2a l2b R2 G2 t2 c2 D2 => ?_)
  rw [zz, if_neg (by decide)]
  have F2 := F1.tr G2
  replace d_0 := (D2 0 (by decide)).trans d_0
  have d_1 := c2
  have P3 := R.nx P2
  refine ⟨R2.o1, R2.o2, ?_⟩
  rw [R2.w]
  rw [show iN 1 = 1 from rfl]
  refine x_putR (r := 0) (c := 1) (k := x) (u := y) R2 (by omega) rfl (by decide) d_0 rfl d_1 l1a l1b (fun g3 R3 G3 t3 => ?_)
  have F3 := F2.tr G3
  refine y_end R3 P3 (t3.trans t2.1) e2 (fun g k eq F => ⟨Or.inl rfl, hF g k _ eq (Fa.tr F3 F)⟩) (fun g4 e4 R4 G4 t4 D4 => ?_)
  exact ⟨Or.inr rfl, hT g4 _ _ e4 R4 (F3.tr G4) t4⟩
theorem x_readOnce {Q : Int32 → PH → Prop} (O : OkPs s) (R : RdS h v T L s) (hp : 0 ≤ p ∧ p ≤ L) (t0 : TcX h T L p) {i : Nat} {lo hi : Int} {x1 x2 x3 : Int32} (hi' : i < 3) (ex : x1 = z i) (e2' : x2 = z lo) (e3' : x3 = z hi) (hl : 0 ≤ lo ∧ lo ≤ 99999) (hh : 0 ≤ hi ∧ hi ≤ 99999) (hon : -1 ≤ s.on i ∧ s.on i ≤ 99999) (hF : ∀ g k u, lnOnce T L s p i lo hi = .inl (k, u) → Fa v h g k u → Q 0 g) (hT : ∀ g s' q, lnOnce T L s p i lo hi = .inr (s', q) → RdS g v T L s' → Fr v h g → gI g 3 3 = z q → Q 1 g) : w_X5_readOnce x1 x2 x3 h Q := by
  have P1 := R.nx hp
  generalize e0 : lnOnce T L s p i lo hi = r0 at hF hT
  have hv := R.1
  subst ex e2' e3'
  have on := R.2.2.2.2.1 i hi'
  unfold lnOnce at e0
  unfold w_X5_readOnce
  have R0 := R
  have F0 := Fr.rf v h
  refine ⟨z_in (by omega) (by omega) (by omega), ?_⟩
  rw [z_iN (a := ((i : Nat) : Int)) (by omega) (by omega), show ((i : Nat) : Int).toNat = i by omega, on]
  by_cases c : s.on i = -1
  rotate_left
  · rw [if_neg (show ¬ z (s.on i) = -1 from z_ne (by omega) (by omega) (by decide) (by decide) c)]
    rw [if_neg c] at e0
    exact x_refuse (k := 3) R rfl t0.2.1 (fun g F => ⟨Or.inl rfl, hF g 3 _ e0.symm F⟩)
  rw [if_pos (by rw [c]; rfl)]
  rw [if_pos c] at e0
  refine y_num (j := 0) R0 P1 t0.1 rfl (by omega) rfl rfl (by omega) (by omega) e0 (fun g k eq F => by rw [if_pos rfl]; exact hF g k _ eq (Fa.tr F0 F)) (fun g1 y e1 l1a l1b R1 G1 t1 c1 D1 => ?_)
  rw [if_neg (by decide)]
  have F1 := F0.tr G1
  have d_0 := c1
  have P2 := R.nx P1
  refine ⟨z_in (by omega) (by omega) (by omega), ?_⟩
  rintro _ rfl
  rw [show iN 0 = 0 from rfl, d_0]
  obtain ⟨r1, r2, r3, r4, r5, r6⟩ := R1
  have R2 : RdS (sI g1 6 i (z y)) v T L (s.put i y) := ⟨r1, r2, r3.at' (fun c k hc => (At.rf g1 c k).sI (by omega)), r4.at' (fun c k b1 b2 _ _ _ _ => (At.rf g1 c k).sI (by omega)), fun j hj => by
    show gI (sI g1 6 i (z y)) 6 j = z (if j = i then y else s.on j)
    by_cases ej : j = i
    · rw [if_pos ej, gI_in rfl ej]
    · rw [if_neg ej, gI_out (by omega)]; exact r5 j hj, by rw [gI_out (by omega)]; exact r6⟩
  have F2 : Fr v h (sI g1 6 i (z y)) := fun c k hc => (F1 c k hc).sI (by unfold rdC at hc; omega)
  refine y_end R2 P2 (by rw [gI_out (by omega)]; exact t1.1) e1 (fun g k eq F => ⟨Or.inl rfl, hF g k _ eq (Fa.tr F2 F)⟩) (fun g4 e4 R4 G4 t4 D4 => ?_)
  exact ⟨Or.inr rfl, hT g4 _ _ e4 R4 (F2.tr G4) t4⟩
end YST2
