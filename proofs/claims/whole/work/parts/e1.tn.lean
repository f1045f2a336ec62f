/-! ===== the reader of the class: lines ===== -/
section YST
variable {h g : PH} {v : Nat} {T : Int → Int} {L p : Int} {s : PS} {r0 : PR}
theorem nx0 (hT : ∀ k, 0 ≤ T k ∧ T k < 256) (hp : 0 ≤ p ∧ p ≤ L) : 0 ≤ tE T L p ∧ tE T L p ≤ L := by
  have := tok_rg (T := T) hT hp
  omega
theorem RdS.nx (R : RdS h v T L s) (hp : 0 ≤ p ∧ p ≤ L) : 0 ≤ tE T L p ∧ tE T L p ≤ L := nx0 R.2.2.1.2.2.2.2.1 hp
theorem OkPs.nm0 (O : OkPs s) : ∀ k, 0 ≤ k → k < s.a.n 0 → 0 ≤ s.a.f 0 0 k ∧ s.a.f 0 0 k < 1073741824 := fun k k0 k1 => by
  have := (O.1.1 0 (by omega)).2 k k0 k1
  unfold OkRw at this
  rw [if_pos rfl] at this
  exact this.1
theorem OkPs.nm2 (O : OkPs s) : ∀ k, 0 ≤ k → k < s.a.n 2 → 0 ≤ s.a.f 2 0 k ∧ s.a.f 2 0 k < 1073741824 := fun k k0 k1 => by
  have := (O.1.1 2 (by omega)).2 k k0 k1
  unfold OkRw at this
  rw [if_neg (by decide), if_neg (by decide), if_pos rfl] at this
  exact this.1
theorem y_told0 {Q : Int32 → PH → Prop} {t j : Nat} {x2 : Int32} {K : Int → Int → PR} (O : OkPs s) (R : RdS h v T L s) (hp : 0 ≤ p ∧ p ≤ L) (e : gI h 3 3 = z p) (ht : t = v + 1) (ex : x2 = z j) (hj : j < 5) (e0 : pTold T L s.a 0 K p = r0)
    (hF : ∀ g k, r0 = .inl (k, tS T L p) → Fa v h g k (tS T L p) → Q 0 g)
    (hT : ∀ g i, K i p = r0 → 0 ≤ i → i < s.a.n 0 → RdS g v T L s → Fr v h g → TcX g T L p → gI g 5 j = z i → (∀ k, k ≠ j → gI g 5 k = gI h 5 k) → Q 1 g) : w_X5_takeTold t x2 h Q := x_takeTold (K := K) R hp e (Or.inl rfl) ht ex hj O.nm0 (fun g k eq F => hF g k (e0.symm.trans eq) F) (fun g i eq a b _ c d f x w => hT g i (eq.symm.trans e0) a b c d f x w)
theorem y_told2 {Q : Int32 → PH → Prop} {t j : Nat} {x2 : Int32} {K : Int → Int → PR} (O : OkPs s) (R : RdS h v T L s) (hp : 0 ≤ p ∧ p ≤ L) (e : gI h 3 3 = z p) (ht : t = v + 5) (ex : x2 = z j) (hj : j < 5) (e0 : pTold T L s.a 2 K p = r0)
    (hF : ∀ g k, r0 = .inl (k, tS T L p) → Fa v h g k (tS T L p) → Q 0 g)
    (hT : ∀ g i, K i p = r0 → 0 ≤ i → i < s.a.n 2 → RdS g v T L s → Fr v h g → TcX g T L p → gI g 5 j = z i → (∀ k, k ≠ j → gI g 5 k = gI h 5 k) → Q 1 g) : w_X5_takeTold t x2 h Q := x_takeTold (K := K) R hp e (Or.inr rfl) ht ex hj O.nm2 (fun g k eq F => hF g k (e0.symm.trans eq) F) (fun g i eq a b _ c d f x w => hT g i (eq.symm.trans e0) a b c d f x w)
theorem y_num {Q : Int32 → PH → Prop} {j : Nat} {lo hi : Int} {x1 x2 x3 : Int32} {K : Int → Int → PR} (R : RdS h v T L s) (hp : 0 ≤ p ∧ p ≤ L) (e : gI h 3 3 = z p) (ex : x1 = z j) (hj : j < 5) (e2 : x2 = z lo) (e3 : x3 = z hi) (hl : 0 ≤ lo ∧ lo ≤ 99999) (hh : 0 ≤ hi ∧ hi ≤ 99999) (e0 : pNum T L lo hi K p = r0)
    (hF : ∀ g k, r0 = .inl (k, tS T L p) → Fa v h g k (tS T L p) → Q 0 g)
    (hT : ∀ g i, K i p = r0 → lo ≤ i → i ≤ hi → RdS g v T L s → Fr v h g → TcX g T L p → gI g 5 j = z i → (∀ k, k ≠ j → gI g 5 k = gI h 5 k) → Q 1 g) : w_X5_takeNumber x1 x2 x3 h Q := x_takeNum (K := K) R hp e ex hj e2 e3 hl hh (fun g k eq F => hF g k (e0.symm.trans eq) F) (fun g i eq a b _ c d f x w => hT g i (eq.symm.trans e0) a b c d f x w)
theorem y_end {Q : Int32 → PH → Prop} {s' : PS} (R : RdS h v T L s) (hp : 0 ≤ p ∧ p ≤ L) (e : gI h 3 3 = z p) (e0 : pEnd T L s' p = r0)
    (hF : ∀ g k, r0 = .inl (k, tS T L p) → Fa v h g k (tS T L p) → Q 0 g)
    (hT : ∀ g, r0 = .inr (s', tE T L p) → RdS g v T L s → Fr v h g → gI g 3 3 = z (tE T L p) → (∀ k, gI g 5 k = gI h 5 k) → Q 1 g) : w_X5_takeEnd h Q := x_takeEnd (s' := s') R hp e (fun g k eq F => hF g k (e0.symm.trans eq) F) (fun g eq a b c d => hT g (e0.symm.trans eq) a b c d)
theorem y_add {Q : Int32 → PH → Prop} {r t : Nat} {f : Nat → Int} {q : Int} (R : RdS h v T L s) (hr : r < 7) (ht : t = v + 1 + 2 * r) (hn : s.a.n r < capT r) (e : gI h 3 3 = z q) (hf : ∀ c : Nat, c < 5 → (c : Int) < cW r → gI h 5 c = z (f c)) (h5 : f 5 = 0)
    (hq : ∀ g, RdS g v T L (s.wd (adR s.a r f)) → Fr v h g → gI g 3 3 = z q → Q 1 g) : w_X5_addRow t h Q := by
  have : r = 0 ∨ r = 1 ∨ r = 2 ∨ r = 3 ∨ r = 4 ∨ r = 5 ∨ r = 6 := by omega
  have cm : capT r ≤ cM r := by rcases this with rfl | rfl | rfl | rfl | rfl | rfl | rfl <;> decide
  exact x_addRow R hr ht (by omega) hf h5 (fun g R1 f1 e1 => hq g R1 f1 (e1.trans e))
theorem x_readPlace {Q : Int32 → PH → Prop} (O : OkPs s) (R : RdS h v T L s) (hp : 0 ≤ p ∧ p ≤ L) (t0 : TcX h T L p) (hF : ∀ g k u, lnPlace T L s p = .inl (k, u) → Fa v h g k u → Q 0 g) (hT : ∀ g s' q, lnPlace T L s p = .inr (s', q) → RdS g v T L s' → Fr v h g → gI g 3 3 = z q → Q 1 g) : w_X5_readPlace h Q := by
  have P1 := R.nx hp
  generalize e0 : lnPlace T L s p = r0 at hF hT
  unfold lnPlace at e0
  unfold w_X5_readPlace
  rintro _ rfl
  rw [show iN 1 = 1 from rfl]
  have d_1 : gI (sI h 5 1 (0)) 5 1 = z (0) := gI_in rfl rfl
  have es : ∀ c k, ¬ stC c k → At h (sI h 5 1 (0)) c k := fun c k hc => (At.rf h c k).sI (by unfold stC at hc; omega)
  have t0' : TcX (sI h 5 1 (0)) T L p := by
    obtain ⟨a1, a2, a3, m, a4, a5⟩ := t0
    exact ⟨by rw [gI_out (by omega)]; exact a1, by rw [gI_out (by omega)]; exact a2, by rw [gI_out (by omega)]; exact a3, m, by rw [gI_out (by omega)]; exact a4, a5⟩
  have R0 := R.at' es
  have F0 := st_fr R.hv es
  clear t0 es
  generalize sI h 5 1 (0) = g0 at *
  refine ⟨R0.o1, R0.o2, ?_⟩
  rw [R0.w]
  refine x_hasRoom (r := 0) (m := 6) R0 (by omega) rfl rfl (by omega) t0'.2.1 (fun hn => ?_) (fun hn g F => ?_)
  rotate_left
  · rw [if_pos rfl]
    rw [if_neg hn] at e0
    exact hF g 2 _ e0.symm (Fa.tr F0 F)
  rw [if_neg (by decide)]
  rw [if_pos hn] at e0
  refine ⟨R0.o1, R0.o2, ?_⟩
  rw [R0.w]
  refine x_takeNewName (r := 0) (K := fun v p1 => pEnd T L (s.wd (adR s.a 0 (rowf v 0 0 0 0))) (tE T L p1)) R0 P1 t0'.1 (Or.inl rfl) rfl O.nm0 (fun g k eq F => by rw [if_pos rfl]; exact hF g k _ (e0.symm.trans eq) (Fa.tr F0 F)) (fun g1 nm e1' l1 R1 G1 t1 c1 D1 => ?_)
  rw [if_neg (by decide)]
  have e1 := e1'.symm.trans e0
  have F1 := F0.tr G1
  replace d_1 := (D1 1 (by decide)).trans d_1
  have d_0 := c1
  have P2 := R.nx P1
  refine y_end R1 P2 t1.1 e1 (fun g k eq F => by rw [if_pos rfl]; exact hF g k _ eq (Fa.tr F1 F)) (fun g2 e2 R2 G2 t2 D2 => ?_)
  rw [if_neg (by decide)]
  have F2 := F1.tr G2
  replace d_1 := (D2 1).trans d_1
  replace d_0 := (D2 0).trans d_0
  refine ⟨R2.o1, R2.o2, ?_⟩
  rw [R2.w]
  refine y_add (r := 0) (f := rowf nm 0 0 0 0) R2 (by omega) rfl hn t2 (fun c hc hw => ?_) rfl (fun g3 R3 G3 u3 => ?_)
  · have : c = 0 ∨ c = 1 ∨ c = 2 ∨ c = 3 ∨ c = 4 := by omega
    rcases this with rfl | rfl | rfl | rfl | rfl
    · exact d_0
    · exact d_1
    · exact absurd hw (by decide)
    · exact absurd hw (by decide)
    · exact absurd hw (by decide)
  · rw [if_neg (by decide)]
    exact hT g3 _ _ e2 R3 (F2.tr G3) u3
theorem x_readOwner {Q : Int32 → PH → Prop} (O : OkPs s) (R : RdS h v T L s) (hp : 0 ≤ p ∧ p ≤ L) (t0 : TcX h T L p) (hF : ∀ g k u, lnOwner T L s p = .inl (k, u) → Fa v h g k u → Q 0 g) (hT : ∀ g s' q, lnOwner T L s p = .inr (s', q) → RdS g v T L s' → Fr v h g → gI g 3 3 = z q → Q 1 g) : w_X5_readOwner h Q := by
  have P1 := R.nx hp
  generalize e0 : lnOwner T L s p = r0 at hF hT
  unfold lnOwner at e0
  unfold w_X5_readOwner
  rintro _ rfl
  rw [show iN 2 = 2 from rfl]
  have d_2 : gI (sI h 5 2 (-1)) 5 2 = z (-1) := gI_in rfl rfl
  have es : ∀ c k, ¬ stC c k → At h (sI h 5 2 (-1)) c k := fun c k hc => (At.rf h c k).sI (by unfold stC at hc; omega)
  have t0' : TcX (sI h 5 2 (-1)) T L p := by
    obtain ⟨a1, a2, a3, m, a4, a5⟩ := t0
    exact ⟨by rw [gI_out (by omega)]; exact a1, by rw [gI_out (by omega)]; exact a2, by rw [gI_out (by omega)]; exact a3, m, by rw [gI_out (by omega)]; exact a4, a5⟩
  have R0 := R.at' es
  have F0 := st_fr R.hv es
  clear t0 es
  generalize sI h 5 2 (-1) = g0 at *
  refine ⟨R0.o1, R0.o2, ?_⟩
  rw [R0.w]
  refine x_hasRoom (r := 2) (m := 4) R0 (by omega) rfl rfl (by omega) t0'.2.1 (fun hn => ?_) (fun hn g F => ?_)
  rotate_left
  · rw [if_pos rfl]
    rw [if_neg hn] at e0
    exact hF g 2 _ e0.symm (Fa.tr F0 F)
  rw [if_neg (by decide)]
  rw [if_pos hn] at e0
  refine ⟨R0.o1, R0.o2, ?_⟩
  rw [R0.w]
  refine x_takeNewName (r := 2) (K := fun v p1 => pNum T L 0 999 (fun c p2 => pEnd T L (s.wd (adR s.a 2 (rowf v c (-1) 0 0))) (tE T L p2)) (tE T L p1)) R0 P1 t0'.1 (Or.inr rfl) rfl O.nm2 (fun g k eq F => by rw [if_pos rfl]; exact hF g k _ (e0.symm.trans eq) (Fa.tr F0 F)) (fun g1 nm e1' l1 R1 G1 t1 c1 D1 => ?_)
  rw [if_neg (by decide)]
  have e1 := e1'.symm.trans e0
  have F1 := F0.tr G1
  replace d_2 := (D1 2 (by decide)).trans d_2
  have d_0 := c1
  have P2 := R.nx P1
  refine y_num (j := 1) R1 P2 t1.1 rfl (by omega) rfl rfl (by omega) (by omega) e1 (fun g k eq F => by rw [if_pos rfl]; exact hF g k _ eq (Fa.tr F1 F)) (fun g2 co e2 l2a l2b R2 G2 t2 c2 D2 => ?_)
  rw [if_neg (by decide)]
  have F2 := F1.tr G2
  replace d_2 := (D2 2 (by decide)).trans d_2
  replace d_0 := (D2 0 (by decide)).trans d_0
  have d_1 := c2
  have P3 := R.nx P2
  refine y_end R2 P3 t2.1 e2 (fun g k eq F => by rw [if_pos rfl]; exact hF g k _ eq (Fa.tr F2 F)) (fun g3 e3 R3 G3 t3 D3 => ?_)
  rw [if_neg (by decide)]
  have F3 := F2.tr G3
  replace d_2 := (D3 2).trans d_2
  replace d_0 := (D3 0).trans d_0
  replace d_1 := (D3 1).trans d_1
  refine ⟨R3.o1, R3.o2, ?_⟩
  rw [R3.w]
  refine y_add (r := 2) (f := rowf nm co (-1) 0 0) R3 (by omega) rfl hn t3 (fun c hc hw => ?_) rfl (fun g4 R4 G4 u4 => ?_)
  · have : c = 0 ∨ c = 1 ∨ c = 2 ∨ c = 3 ∨ c = 4 := by omega
    rcases this with rfl | rfl | rfl | rfl | rfl
    · exact d_0
    · exact d_1
    · exact d_2
    · exact absurd hw (by decide)
    · exact absurd hw (by decide)
  · rw [if_neg (by decide)]
    exact hT g4 _ _ e3 R4 (F3.tr G4) u4
theorem x_readNoise {Q : Int32 → PH → Prop} (O : OkPs s) (R : RdS h v T L s) (hp : 0 ≤ p ∧ p ≤ L) (t0 : TcX h T L p) (hF : ∀ g k u, lnNoise T L s p = .inl (k, u) → Fa v h g k u → Q 0 g) (hT : ∀ g s' q, lnNoise T L s p = .inr (s', q) → RdS g v T L s' → Fr v h g → gI g 3 3 = z q → Q 1 g) : w_X5_readNoise h Q := by
  have P1 := R.nx hp
  generalize e0 : lnNoise T L s p = r0 at hF hT
  unfold lnNoise at e0
  unfold w_X5_readNoise
  have R0 := R
  have F0 := Fr.rf v h
  refine ⟨R0.o1, R0.o2, ?_⟩
  rw [R0.w]
  refine x_hasRoom (r := 3) (m := 8) R0 (by omega) rfl rfl (by omega) t0.2.1 (fun hn => ?_) (fun hn g F => ?_)
  rotate_left
  · rw [if_pos rfl]
    rw [if_neg hn] at e0
    exact hF g 2 _ e0.symm (Fa.tr F0 F)
  rw [if_neg (by decide)]
  rw [if_pos hn] at e0
  refine ⟨R0.o1, R0.o2, ?_⟩
  rw [R0.w]
  refine y_told0 (j := 0) O R0 P1 t0.1 rfl rfl (by omega) e0 (fun g k eq F => by rw [if_pos rfl]; exact hF g k _ eq (Fa.tr F0 F)) (fun g1 x e1 l1a l1b R1 G1 t1 c1 D1 => ?_)
  rw [if_neg (by decide)]
  have F1 := F0.tr G1
  have d_0 := c1
  have P2 := R.nx P1
  refine ⟨R1.o1, R1.o2, ?_⟩
  rw [R1.w]
  refine y_told2 (j := 1) O R1 P2 t1.1 rfl rfl (by omega) e1 (fun g k eq F => by rw [if_pos rfl]; exact hF g k _ eq (Fa.tr F1 F)) (fun g2 o e2 l2a l2b R2 G2 t2 c2 D2 => ?_)
  rw [if_neg (by decide)]
  have F2 := F1.tr G2
  replace d_0 := (D2 0 (by decide)).trans d_0
  have d_1 := c2
  have P3 := R.nx P2
  refine y_num (j := 2) R2 P3 t2.1 rfl (by omega) rfl rfl (by omega) (by omega) e2 (fun g k eq F => by rw [if_pos rfl]; exact hF g k _ eq (Fa.tr F2 F)) (fun g3 f e3 l3a l3b R3 G3 t3 c3 D3 => ?_)
  rw [if_neg (by decide)]
  have F3 := F2.tr G3
  replace d_0 := (D3 0 (by decide)).trans d_0
  replace d_1 := (D3 1 (by decide)).trans d_1
  have d_2 := c3
  have P4 := R.nx P3
  rw [show iN 2 = 2 from rfl, d_2]
  refine y_num (j := 3) R3 P4 t3.1 rfl (by omega) rfl rfl (by omega) (by omega) e3 (fun g k eq F => by rw [if_pos rfl]; exact hF g k _ eq (Fa.tr F3 F)) (fun g4 t e4 l4a l4b R4 G4 t4 c4 D4 => ?_)
  rw [if_neg (by decide)]
  have F4 := F3.tr G4
  replace d_0 := (D4 0 (by decide)).trans d_0
  replace d_1 := (D4 1 (by decide)).trans d_1
  replace d_2 := (D4 2 (by decide)).trans d_2
  have d_3 := c4
  have P5 := R.nx P4
  refine y_num (j := 4) R4 P5 t4.1 rfl (by omega) rfl rfl (by omega) (by omega) e4 (fun g k eq F => by rw [if_pos rfl]; exact hF g k _ eq (Fa.tr F4 F)) (fun g5 l e5 l5a l5b R5 G5 t5 c5 D5 => ?_)
  rw [if_neg (by decide)]
  have F5 := F4.tr G5
  replace d_0 := (D5 0 (by decide)).trans d_0
  replace d_1 := (D5 1 (by decide)).trans d_1
  replace d_2 := (D5 2 (by decide)).trans d_2
  replace d_3 := (D5 3 (by decide)).trans d_3
  have d_4 := c5
  have P6 := R.nx P5
  refine y_end R5 P6 t5.1 e5 (fun g k eq F => by rw [if_pos rfl]; exact hF g k _ eq (Fa.tr F5 F)) (fun g6 e6 R6 G6 t6 D6 => ?_)
  rw [if_neg (by decide)]
  have F6 := F5.tr G6
  replace d_0 := (D6 0).trans d_0
  replace d_1 := (D6 1).trans d_1
  replace d_2 := (D6 2).trans d_2
  replace d_3 := (D6 3).trans d_3
  replace d_4 := (D6 4).trans d_4
  refine ⟨R6.o1, R6.o2, ?_⟩
  rw [R6.w]
  refine y_add (r := 3) (f := rowf x o f t l) R6 (by omega) rfl hn t6 (fun c hc hw => ?_) rfl (fun g7 R7 G7 u7 => ?_)
  · have : c = 0 ∨ c = 1 ∨ c = 2 ∨ c = 3 ∨ c = 4 := by omega
    rcases this with rfl | rfl | rfl | rfl | rfl
    · exact d_0
    · exact d_1
    · exact d_2
    · exact d_3
    · exact d_4
  · rw [if_neg (by decide)]
    exact hT g7 _ _ e6 R7 (F6.tr G7) u7
theorem x_readTask {Q : Int32 → PH → Prop} (O : OkPs s) (R : RdS h v T L s) (hp : 0 ≤ p ∧ p ≤ L) (t0 : TcX h T L p) (hF : ∀ g k u, lnTask T L s p = .inl (k, u) → Fa v h g k u → Q 0 g) (hT : ∀ g s' q, lnTask T L s p = .inr (s', q) → RdS g v T L s' → Fr v h g → gI g 3 3 = z q → Q 1 g) : w_X5_readTask h Q := by
  have P1 := R.nx hp
  generalize e0 : lnTask T L s p = r0 at hF hT
  unfold lnTask at e0
  unfold w_X5_readTask
  have R0 := R
  have F0 := Fr.rf v h
  refine ⟨R0.o1, R0.o2, ?_⟩
  rw [R0.w]
  refine x_hasRoom (r := 6) (m := 4) R0 (by omega) rfl rfl (by omega) t0.2.1 (fun hn => ?_) (fun hn g F => ?_)
  rotate_left
  · rw [if_pos rfl]
    rw [if_neg hn] at e0
    exact hF g 2 _ e0.symm (Fa.tr F0 F)
  rw [if_neg (by decide)]
  rw [if_pos hn] at e0
  refine ⟨R0.o1, R0.o2, ?_⟩
  rw [R0.w]
  refine y_told2 (j := 0) O R0 P1 t0.1 rfl rfl (by omega) e0 (fun g k eq F => by rw [if_pos rfl]; exact hF g k _ eq (Fa.tr F0 F)) (fun g1 o e1 l1a l1b R1 G1 t1 c1 D1 => ?_)
  rw [if_neg (by decide)]
  have F1 := F0.tr G1
  have d_0 := c1
  have P2 := R.nx P1
  refine ⟨R1.o1, R1.o2, ?_⟩
  rw [R1.w]
  refine y_told0 (j := 1) O R1 P2 t1.1 rfl rfl (by omega) e1 (fun g k eq F => by rw [if_pos rfl]; exact hF g k _ eq (Fa.tr F1 F)) (fun g2 x e2 l2a l2b R2 G2 t2 c2 D2 => ?_)
  rw [if_neg (by decide)]
  have F2 := F1.tr G2
  replace d_0 := (D2 0 (by decide)).trans d_0
  have d_1 := c2
  have P3 := R.nx P2
  refine y_num (j := 2) R2 P3 t2.1 rfl (by omega) rfl rfl (by omega) (by omega) e2 (fun g k eq F => by rw [if_pos rfl]; exact hF g k _ eq (Fa.tr F2 F)) (fun g3 d e3 l3a l3b R3 G3 t3 c3 D3 => ?_)
  rw [if_neg (by decide)]
  have F3 := F2.tr G3
  replace d_0 := (D3 0 (by decide)).trans d_0
  replace d_1 := (D3 1 (by decide)).trans d_1
  have d_2 := c3
  have P4 := R.nx P3
  refine y_num (j := 3) R3 P4 t3.1 rfl (by omega) rfl rfl (by omega) (by omega) e3 (fun g k eq F => by rw [if_pos rfl]; exact hF g k _ eq (Fa.tr F3 F)) (fun g4 l e4 l4a l4b R4 G4 t4 c4 D4 => ?_)
  rw [if_neg (by decide)]
  have F4 := F3.tr G4
  replace d_0 := (D4 0 (by decide)).trans d_0
  replace d_1 := (D4 1 (by decide)).trans d_1
  replace d_2 := (D4 2 (by decide)).trans d_2
  have d_3 := c4
  have P5 := R.nx P4
  refine y_end R4 P5 t4.1 e4 (fun g k eq F => by rw [if_pos rfl]; exact hF g k _ eq (Fa.tr F4 F)) (fun g5 e5 R5 G5 t5 D5 => ?_)
  rw [if_neg (by decide)]
  have F5 := F4.tr G5
  replace d_0 := (D5 0).trans d_0
  replace d_1 := (D5 1).trans d_1
  replace d_2 := (D5 2).trans d_2
  replace d_3 := (D5 3).trans d_3
  refine ⟨R5.o1, R5.o2, ?_⟩
  rw [R5.w]
  refine y_add (r := 6) (f := rowf o x d l 0) R5 (by omega) rfl hn t5 (fun c hc hw => ?_) rfl (fun g6 R6 G6 u6 => ?_)
  · have : c = 0 ∨ c = 1 ∨ c = 2 ∨ c = 3 ∨ c = 4 := by omega
    rcases this with rfl | rfl | rfl | rfl | rfl
    · exact d_0
    · exact d_1
    · exact d_2
    · exact d_3
    · exact absurd hw (by decide)
  · rw [if_neg (by decide)]
    exact hT g6 _ _ e5 R6 (F5.tr G6) u6
theorem x_readHolding {Q : Int32 → PH → Prop} (O : OkPs s) (R : RdS h v T L s) (hp : 0 ≤ p ∧ p ≤ L) (t0 : TcX h T L p) {r t2 : Nat} {m : Int} {x2 : Int32} (hr : (r = 4 ∧ m = 8) ∨ (r = 5 ∧ m = 6)) (ht : t2 = v + 1 + 2 * r) (ex : x2 = z m) (hF : ∀ g k u, lnHold T L s p r m = .inl (k, u) → Fa v h g k u → Q 0 g) (hT : ∀ g s' q, lnHold T L s p r m = .inr (s', q) → RdS g v T L s' → Fr v h g → gI g 3 3 = z q → Q 1 g) : w_X5_readHolding t2 x2 h Q := by
  have P1 := R.nx hp
  generalize e0 : lnHold T L s p r m = r0 at hF hT
  unfold lnHold at e0
  unfold w_X5_readHolding
  have R0 := R
  have F0 := Fr.rf v h
  have hcw : cW r = 4 := by rcases hr with ⟨rfl, -⟩ | ⟨rfl, -⟩ <;> rfl
  have hr7 : r < 7 := by omega
  refine x_hasRoom (r := r) (m := m) R0 (by omega) ht ex (by omega) t0.2.1 (fun hn => ?_) (fun hn g F => ?_)
  rotate_left
  · rw [if_pos rfl]
    rw [if_neg hn] at e0
    exact hF g 2 _ e0.symm F
  rw [if_neg (by decide)]
  rw [if_pos hn] at e0
  have hn : s.a.n r < capT r := by rcases hr with ⟨rfl, rfl⟩ | ⟨rfl, rfl⟩ <;> exact hn
  refine ⟨R0.o1, R0.o2, ?_⟩
  rw [R0.w]
  refine y_told2 (j := 0) O R0 P1 t0.1 rfl rfl (by omega) e0 (fun g k eq F => by rw [if_pos rfl]; exact hF g k _ eq (Fa.tr F0 F)) (fun g1 o e1 l1a l1b R1 G1 t1 c1 D1 => ?_)
  rw [if_neg (by decide)]
  have F1 := F0.tr G1
  have d_0 := c1
  have P2 := R.nx P1
  refine ⟨R1.o1, R1.o2, ?_⟩
  rw [R1.w]
  refine y_told0 (j := 1) O R1 P2 t1.1 rfl rfl (by omega) e1 (fun g k eq F => by rw [if_pos rfl]; exact hF g k _ eq (Fa.tr F1 F)) (fun g2 x e2 l2a l2b R2 G2 t2 c2 D2 => ?_)
  rw [if_neg (by decide)]
  have F2 := F1.tr G2
  replace d_0 := (D2 0 (by decide)).trans d_0
  have d_1 := c2
  have P3 := R.nx P2
  refine y_num (j := 2) R2 P3 t2.1 rfl (by omega) rfl rfl (by omega) (by omega) e2 (fun g k eq F => by rw [if_pos rfl]; exact hF g k _ eq (Fa.tr F2 F)) (fun g3 f e3 l3a l3b R3 G3 t3 c3 D3 => ?_)
  rw [if_neg (by decide)]
  have F3 := F2.tr G3
  replace d_0 := (D3 0 (by decide)).trans d_0
  replace d_1 := (D3 1 (by decide)).trans d_1
  have d_2 := c3
  have P4 := R.nx P3
  rw [show iN 2 = 2 from rfl, d_2]
  refine y_num (j := 3) R3 P4 t3.1 rfl (by omega) rfl rfl (by omega) (by omega) e3 (fun g k eq F => by rw [if_pos rfl]; exact hF g k _ eq (Fa.tr F3 F)) (fun g4 t e4 l4a l4b R4 G4 t4 c4 D4 => ?_)
  rw [if_neg (by decide)]
  have F4 := F3.tr G4
  replace d_0 := (D4 0 (by decide)).trans d_0
  replace d_1 := (D4 1 (by decide)).trans d_1
  replace d_2 := (D4 2 (by decide)).trans d_2
  have d_3 := c4
  have P5 := R.nx P4
  refine y_end R4 P5 t4.1 e4 (fun g k eq F => by rw [if_pos rfl]; exact hF g k _ eq (Fa.tr F4 F)) (fun g5 e5 R5 G5 t5 D5 => ?_)
  rw [if_neg (by decide)]
  have F5 := F4.tr G5
  replace d_0 := (D5 0).trans d_0
  replace d_1 := (D5 1).trans d_1
  replace d_2 := (D5 2).trans d_2
  replace d_3 := (D5 3).trans d_3
  refine y_add (r := r) (f := rowf o x f t 0) R5 (by omega) ht hn t5 (fun c hc hw => ?_) rfl (fun g6 R6 G6 u6 => ?_)
  · have : c = 0 ∨ c = 1 ∨ c = 2 ∨ c = 3 ∨ c = 4 := by omega
    rcases this with rfl | rfl | rfl | rfl | rfl
    · exact d_0
    · exact d_1
    · exact d_2
    · exact d_3
    · exact absurd hw (by rw [hcw]; decide)
  · rw [if_neg (by decide)]
    exact hT g6 _ _ e5 R6 (F5.tr G6) u6
end YST
