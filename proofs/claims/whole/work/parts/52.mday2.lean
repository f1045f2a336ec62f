theorem z_inc (a : Int) : z a + 1 = z (a + 1) := z_add a 1
theorem m_claimed {a : Wd} {p m : Int} {h : PH} {Q : Int32 → PH → Prop} (H : HM h a) (O : OkC a) (hp : -1000 ≤ p ∧ p ≤ 1000) (hm : -1000 ≤ m ∧ m ≤ 1000) (h6 : a.n 0 ≤ 6) (hq : Q (z (clo a p m)) h) : w_X10_claimed (z p) (z m) h Q := by
  have O1 := O.1
  unfold w_X10_claimed
  refine for10 (a.n 4) (fun i g => h = g ∧ ∀ c, 0 ≤ c → c < i → (decide (a.f 4 1 c = p) && decide (a.f 4 2 c ≤ m) && decide (m ≤ a.f 4 3 c)) = false) 0 rfl (by omega) (by omega) (by omega) ⟨rfl, fun c c1 c2 => by omega⟩ ?_ ?_
  · rintro kb i _ i0 i1 ⟨rfl, hJ⟩ hk
    obtain ⟨e1, e2, e3, e4⟩ := H.2 i i0 i1
    obtain ⟨o1, o2, o3⟩ := O.2 i i0 i1
    have nxt : (decide (a.f 4 1 i = p) && decide (a.f 4 2 i ≤ m) && decide (m ≤ a.f 4 3 i)) = false → kb (z i + 1) h := by
      intro hb
      rw [zn_1, z_add]
      refine hk _ ⟨rfl, fun c c1 c2 => ?_⟩
      by_cases e : c = i
      · rw [e]; exact hb
      · exact hJ c c1 (by omega)
    unfold w_X10_claimed_2
    rw [H.1, if_neg (by rw [z_le (by omega) (by omega) (by omega) (by omega)]; omega), z_iN (by omega) (by omega), e2, e3, e4]
    refine ⟨z_in (by omega) (by omega) (by omega), ?_⟩
    by_cases c1 : a.f 4 1 i = p
    · rw [if_pos (congrArg z c1)]
      refine ⟨z_in (by omega) (by omega) (by omega), ?_⟩
      by_cases c2 : m < a.f 4 2 i
      · rw [if_pos (by rw [z_lt (by omega) (by omega) (by omega) (by omega)]; omega)]
        exact nxt (by rw [decide_eq_false (by omega : ¬ a.f 4 2 i ≤ m)]; simp)
      · rw [if_neg (by rw [z_lt (by omega) (by omega) (by omega) (by omega)]; omega)]
        refine ⟨z_in (by omega) (by omega) (by omega), ?_⟩
        by_cases c3 : a.f 4 3 i < m
        · rw [if_pos (by rw [z_lt (by omega) (by omega) (by omega) (by omega)]; omega)]
          exact nxt (by rw [decide_eq_false (by omega : ¬ m ≤ a.f 4 3 i)]; simp)
        · rw [if_neg (by rw [z_lt (by omega) (by omega) (by omega) (by omega)]; omega)]
          refine ⟨z_in (by omega) (by omega) (by omega), ?_⟩
          have ec : clm a p m = i := ff_yes i0 i1 (by rw [decide_eq_true c1, decide_eq_true (by omega : a.f 4 2 i ≤ m), decide_eq_true (by omega : m ≤ a.f 4 3 i)]; rfl) hJ
          rw [z_iN (by omega) (by omega), e1]
          unfold clo at hq
          rw [ec, if_neg (by omega)] at hq
          exact hq
    · rw [if_neg (z_ne (by omega) (by omega) (by omega) (by omega) c1)]
      exact nxt (by rw [decide_eq_false c1]; rfl)
  · rintro kb _ ⟨rfl, hJ⟩
    unfold w_X10_claimed_2
    rw [H.1, if_pos (by rw [z_le (by omega) (by omega) (by omega) (by omega)]; omega)]
    unfold clo at hq
    rw [show clm a p m = -1 from ff_no hJ, if_pos rfl] at hq
    exact hq
def WM (h : PH) (a : Wd) (F : Int → Int → Int) : Prop := ∀ p m : Int, 0 ≤ p → p < a.n 0 → 0 ≤ m → m < 48 → gI h 56 (48 * p + m).toNat = z (whs a F p m)
theorem WM.k {h : PH} {a : Wd} {F : Int → Int → Int} (S : WM h a F) {k : Int} (h0 : 0 ≤ k) (h1 : k < 48 * a.n 0) : gI h 56 k.toNat = z (whs a F (k / 48) (k % 48)) := by
  have := S (k / 48) (k % 48) (by omega) (by omega) (by omega) (by omega)
  rw [show 48 * (k / 48) + k % 48 = k by omega] at this
  exact this
theorem m_whose {a : Wd} {F : Int → Int → Int} {h : PH} {Q : PH → Prop} (e20 : gI h 2 0 = z (a.n 0)) (S : FS h a F) (NN : NM h a) (H : HM h a) (O : OkN a) (OC : OkC a) (h6 : 0 ≤ a.n 0 ∧ a.n 0 ≤ 6)
    (hq : ∀ g, (∀ c k, ¬ (c = 56) → At h g c k) → WM g a F → Q g) : w_X10_layWhose h Q := by
  have O1 := O.1
  unfold w_X10_layWhose
  refine for10 (a.n 0) (fun p g => (∀ c k, ¬ (c = 56) → At h g c k) ∧ ∀ q m : Int, 0 ≤ q → q < p → 0 ≤ m → m < 48 → gI g 56 (48 * q + m).toNat = z (whs a F q m)) 0 rfl (by omega) (by omega) (by omega) ⟨fun c k _ => At.rf h c k, fun q m c1 c2 => by omega⟩ ?_ ?_
  · rintro kb p g p0 p1 ⟨hf, hJ⟩ hk
    unfold w_X10_layWhose_2
    rw [iN_0, (hf 2 0 (by omega)).1, e20, if_neg (by rw [z_le (by omega) (by omega) (by omega) (by omega)]; omega), zn_1, z_add]
    refine for21 48 (fun m last g => last = z (lst a F p m.toNat) ∧ (∀ c k, ¬ (c = 56) → At h g c k) ∧ (∀ q m : Int, 0 ≤ q → q < p → 0 ≤ m → m < 48 → gI g 56 (48 * q + m).toNat = z (whs a F q m)) ∧ ∀ m' : Int, 0 ≤ m' → m' < m → gI g 56 (48 * p + m').toNat = z (whs a F p m')) 0 rfl (by omega) (by omega) (by omega) ⟨rfl, hf, hJ, fun m c1 c2 => by omega⟩ ?_ ?_
    · clear hJ hf g
      rintro kb2 m _ g m0 m1 ⟨rfl, hf, hJ, hL⟩ hk2
      have ls : lst a F p (m + 1).toNat = if fst a F p m = -1 then lst a F p m.toNat else a.f 3 1 (fst a F p m) := by
        rw [show (m + 1).toNat = m.toNat + 1 by omega]
        show (if fst a F p ((m.toNat : Nat) : Int) = -1 then _ else a.f 3 1 (fst a F p ((m.toNat : Nat) : Int))) = _
        rw [show ((m.toNat : Nat) : Int) = m by omega]
      have fin : ∀ (l v : Int32), l = z (lst a F p (m + 1).toNat) → v = z (whs a F p m) → kb2 l (z (m + 1)) (sI g 56 (48 * p + m).toNat v) := by
        intro l v hl hv
        refine hk2 _ _ ⟨hl, fun c k b1 => (hf c k b1).sI (by omega), fun q m' c1 c2 c3 c4 => ?_, fun m' c1 c2 => ?_⟩
        · rw [gI_out (by omega)]; exact hJ q m' c1 c2 c3 c4
        · by_cases e : m' = m
          · rw [gI_in rfl (by omega), hv, e]
          · rw [gI_out (by omega)]; exact hL m' c1 (by omega)
      have bf := fst_rg O F p m
      have bc := clo_rg OC p m
      unfold w_X10_layWhose_17
      rw [zn_48, if_neg (by rw [z_le (by omega) (by omega) (by omega) (by omega)]; omega)]
      rintro _ rfl
      rw [z_inc, z_mul, z_add, z_iN (by omega) (by omega), (hf 51 _ (by omega)).1, S p m p0 p1 m0 m1]
      refine ⟨z_in (by omega) (by omega) (by omega), ?_⟩
      by_cases c1 : fst a F p m = -1
      · rw [if_pos (by rw [c1]; rfl)]
        refine m_claimed (H.at' (hf 0 70 (by omega)) (fun c k b1 b2 => hf c k (by omega))) OC (by omega) (by omega) h6.2 ?_
        by_cases c2 : clo a p m = -1
        · rw [if_pos (by rw [c2]; rfl)]
          refine ⟨z_in (by omega) (by omega) (by omega), ?_⟩
          rintro _ rfl
          exact fin _ _ (by rw [ls, if_pos c1]) (by unfold whs; rw [if_pos c1, if_pos c2])
        · rw [if_neg (by rw [z_m1]; exact z_ne (by omega) (by omega) (by omega) (by omega) c2)]
          refine ⟨z_in (by omega) (by omega) (by omega), ?_⟩
          rintro _ rfl
          exact fin _ _ (by rw [ls, if_pos c1]) (by unfold whs; rw [if_pos c1, if_neg c2])
      · rw [if_neg (by rw [z_m1]; exact z_ne (by omega) (by omega) (by omega) (by omega) c1)]
        refine ⟨z_in (by omega) (by omega) (by omega), z_in (by omega) (by omega) (by omega), ?_⟩
        rintro _ rfl
        refine ⟨z_in (by omega) (by omega) (by omega), ?_⟩
        rintro _ rfl
        rw [z_iN (by omega) (by omega), (hf 46 _ (by omega)).1, (NN.2 _ (by omega) bf.2).2.1]
        exact fin _ _ (by rw [ls, if_neg c1]) (by unfold whs; rw [if_neg c1]; rfl)
    · clear hJ hf g
      rintro kb2 _ g ⟨rfl, hf, hJ, hL⟩
      unfold w_X10_layWhose_17
      rw [zn_48, if_pos (by rw [z_le (by omega) (by omega) (by omega) (by omega)]; omega)]
      refine hk _ ⟨hf, fun q m c1 c2 c3 c4 => ?_⟩
      by_cases e : q = p
      · rw [e]; exact hL m c3 c4
      · exact hJ q m c1 (by omega) c3 c4
  · rintro kb g ⟨hf, hJ⟩
    unfold w_X10_layWhose_2
    rw [iN_0, (hf 2 0 (by omega)).1, e20, if_pos (by rw [z_le (by omega) (by omega) (by omega) (by omega)]; omega)]
    exact hq g hf hJ
/-- a kept day of the reference -/
def MD (h : PH) (d : Int) (a : Wd) : Prop := gI h 34 d.toNat = z (a.n 3) ∧
  (∀ n : Int, 0 ≤ n → n < a.n 3 → gI h 35 (12 * d + n).toNat = z (a.f 3 0 n) ∧ gI h 36 (12 * d + n).toNat = z (a.f 3 1 n) ∧ gI h 37 (12 * d + n).toNat = z (a.f 3 2 n) ∧ gI h 38 (12 * d + n).toNat = z (a.f 3 3 n) ∧ gI h 39 (12 * d + n).toNat = z (a.f 3 4 n)) ∧
  (∀ n : Int, 0 ≤ n → n < 32 → (bt (gI h 40 d.toNat) n.toNat = true ↔ n < a.n 3 ∧ a.f 3 5 n = 1)) ∧
  (∀ c : Int, 0 ≤ c → c < a.n 4 → gI h 41 (8 * d + c).toNat = z (a.f 4 0 c)) ∧
  (∀ l : Int, 0 ≤ l → l < 32 → (bt (gI h 42 d.toNat) l.toNat = true ↔ l < a.n 1 ∧ a.f 1 3 l = 1)) ∧
  (∀ o : Int, 0 ≤ o → o < a.n 2 → gI h 43 (4 * d + o).toNat = z (a.f 2 1 o)) ∧ gI h 44 d.toNat = z (a.f 7 2 0)
theorem MD.at' {h g : PH} {d : Int} {a : Wd} (N : MD h d a) (e : ∀ c k, 34 ≤ c → c < 45 → At h g c k) : MD g d a := by
  have E : ∀ c k, 34 ≤ c → c < 45 → gI g c k = gI h c k := fun c k a b => (e c k a b).1
  obtain ⟨n1, n2, n3, n4, n5, n6, n7⟩ := N
  refine ⟨?_, fun n b1 b2 => ?_, fun n b1 b2 => ?_, fun n b1 b2 => ?_, fun n b1 b2 => ?_, fun n b1 b2 => ?_, ?_⟩
  all_goals repeat rw [E _ _ (by omega) (by omega)]
  · exact n1
  · exact n2 n b1 b2
  · exact n3 n b1 b2
  · exact n4 n b1 b2
  · exact n5 n b1 b2
  · exact n6 n b1 b2
  · exact n7
theorem m_layNoises' {a : Wd} {h : PH} {Q : PH → Prop} (D : MD h 0 a) (O : OkN a) (h12 : a.n 3 ≤ 12) (hl : ∀ n, 0 ≤ n → n < a.n 3 → 1 ≤ a.f 3 4 n)
    (hq : ∀ g, (∀ c k, ¬ (45 ≤ c ∧ c < 50) → ¬ (c = 0 ∧ k = 62) → At h g c k) → NM g a → (∀ n : Int, 0 ≤ n → n < a.n 3 → gI g 49 n.toNat = z (if a.f 3 5 n = 1 then 0 else a.f 3 4 n)) → Q g) : w_X10_layNoises h Q := by
  have O1 := O.1
  obtain ⟨d1, d2, d3, d4, d5, d6, d7⟩ := D
  unfold w_X10_layNoises
  rintro _ rfl
  rw [iN_0, show gI h 34 0 = z (a.n 3) from d1]
  refine for10 (a.n 3) (fun i g => (∀ c k, ¬ (45 ≤ c ∧ c < 50) → ¬ (c = 0 ∧ k = 62) → At h g c k) ∧ gI g 0 62 = z (a.n 3) ∧ ∀ n : Int, 0 ≤ n → n < i → gI g 45 n.toNat = z (a.f 3 0 n) ∧ gI g 46 n.toNat = z (a.f 3 1 n) ∧ gI g 47 n.toNat = z (a.f 3 2 n) ∧ gI g 48 n.toNat = z (a.f 3 3 n) ∧ gI g 49 n.toNat = z (if a.f 3 5 n = 1 then 0 else a.f 3 4 n)) 0 rfl (by omega) (by omega) (by omega) ⟨fun c k _ b => (At.rf h c k).sI b, gI_in rfl rfl, fun n c1 c2 => by omega⟩ ?_ ?_
  · rintro kb i g i0 i1 ⟨hf, h62, hJ⟩ hk
    obtain ⟨e1, e2, e3, e4, e5⟩ := d2 i i0 i1
    simp only [show 12 * (0 : Int) + i = i by omega] at e1 e2 e3 e4 e5
    unfold w_X10_layNoises_12
    have g35 : gI g 35 i.toNat = z (a.f 3 0 i) := by rw [(hf 35 _ (by omega) (by omega)).1]; exact e1
    have g36 : gI g 36 i.toNat = z (a.f 3 1 i) := by rw [(hf 36 _ (by omega) (by omega)).1]; exact e2
    have g37 : gI g 37 i.toNat = z (a.f 3 2 i) := by rw [(hf 37 _ (by omega) (by omega)).1]; exact e3
    have g38 : gI g 38 i.toNat = z (a.f 3 3 i) := by rw [(hf 38 _ (by omega) (by omega)).1]; exact e4
    have g39 : gI g 39 i.toNat = z (a.f 3 4 i) := by rw [(hf 39 _ (by omega) (by omega)).1]; exact e5
    have g40 : gI g 40 0 = gI h 40 0 := (hf 40 _ (by omega) (by omega)).1
    rw [h62, if_neg (by rw [z_le (by omega) (by omega) (by omega) (by omega)]; omega), z_iN (by omega) (by omega), iN_0, g35]
    refine ⟨z_in (by omega) (by omega) (by omega), z_in (by omega) (by omega) (by omega), ?_⟩
    rintro _ rfl
    rw [gI_out (by omega), g36]
    refine ⟨z_in (by omega) (by omega) (by omega), z_in (by omega) (by omega) (by omega), ?_⟩
    rintro _ rfl
    rw [gI_out (by omega), gI_out (by omega), g37]
    refine ⟨z_in (by omega) (by omega) (by omega), z_in (by omega) (by omega) (by omega), ?_⟩
    rintro _ rfl
    rw [gI_out (by omega), gI_out (by omega), gI_out (by omega), g38]
    refine ⟨z_in (by omega) (by omega) (by omega), z_in (by omega) (by omega) (by omega), ?_⟩
    rintro _ rfl
    rw [show gI (sI (sI (sI (sI g 45 i.toNat (z (a.f 3 0 i))) 46 i.toNat (z (a.f 3 1 i))) 47 i.toNat (z (a.f 3 2 i))) 48 i.toNat (z (a.f 3 3 i))) 40 0 = gI h 40 0 by rw [gI_out (by omega), gI_out (by omega), gI_out (by omega), gI_out (by omega), g40]]
    rw [show gI (sI (sI (sI (sI g 45 i.toNat (z (a.f 3 0 i))) 46 i.toNat (z (a.f 3 1 i))) 47 i.toNat (z (a.f 3 2 i))) 48 i.toNat (z (a.f 3 3 i))) 39 i.toNat = z (a.f 3 4 i) by rw [gI_out (by omega), gI_out (by omega), gI_out (by omega), gI_out (by omega), g39]]
    rw [bitI i0 (by omega)]
    have fin : ∀ v : Int32, v = z (if a.f 3 5 i = 1 then 0 else a.f 3 4 i) → kb (z i + 1) (sI (sI (sI (sI (sI g 45 i.toNat (z (a.f 3 0 i))) 46 i.toNat (z (a.f 3 1 i))) 47 i.toNat (z (a.f 3 2 i))) 48 i.toNat (z (a.f 3 3 i))) 49 i.toNat v) := by
      intro v hv
      rw [zn_1, z_add]
      refine hk _ ⟨fun c k b1 b2 => (((((hf c k b1 b2).sI (by omega)).sI (by omega)).sI (by omega)).sI (by omega)).sI (by omega), ?_, fun n c1 c2 => ?_⟩
      · rw [gI_out (by omega), gI_out (by omega), gI_out (by omega), gI_out (by omega), gI_out (by omega)]; exact h62
      · by_cases e : n = i
        · subst e
          refine ⟨?_, ?_, ?_, ?_, ?_⟩
          · rw [gI_out (by omega), gI_out (by omega), gI_out (by omega), gI_out (by omega), gI_in rfl rfl]
          · rw [gI_out (by omega), gI_out (by omega), gI_out (by omega), gI_in rfl rfl]
          · rw [gI_out (by omega), gI_out (by omega), gI_in rfl rfl]
          · rw [gI_out (by omega), gI_in rfl rfl]
          · rw [gI_in rfl rfl]; exact hv
        · have := hJ n c1 (by omega)
          obtain ⟨q1, q2, q3, q4, q5⟩ := this
          refine ⟨?_, ?_, ?_, ?_, ?_⟩ <;> (repeat rw [gI_out (by omega)]) <;> assumption
    have hb : bt (gI h 40 0) i.toNat = true ↔ i < a.n 3 ∧ a.f 3 5 i = 1 := d3 i i0 (by omega)
    by_cases c1 : a.f 3 5 i = 1
    · rw [if_pos (by rw [if_pos (hb.mpr ⟨i1, c1⟩)]; rfl)]
      refine ⟨z_in (by omega) (by omega) (by omega), ?_⟩
      rintro _ rfl
      exact fin _ (by rw [if_pos c1]; rfl)
    · rw [if_neg (by rw [if_neg (fun q => c1 (hb.mp q).2)]; decide)]
      refine ⟨z_in (by omega) (by omega) (by omega), z_in (by omega) (by omega) (by omega), ?_⟩
      rintro _ rfl
      exact fin _ (by rw [if_neg c1])
  · rintro kb g ⟨hf, h62, hJ⟩
    unfold w_X10_layNoises_12
    rw [h62, if_pos (by rw [z_le (by omega) (by omega) (by omega) (by omega)]; omega)]
    refine hq g hf ⟨h62, fun n c1 c2 => ?_⟩ (fun n c1 c2 => (hJ n c1 c2).2.2.2.2)
    obtain ⟨e1, e2, e3, e4, e5⟩ := hJ n c1 c2
    obtain ⟨o1, o2, o3, o4, o5⟩ := O.2 n c1 c2
    have := hl n c1 c2
    refine ⟨e1, e2, e3, e4, _, e5, ?_, ?_, ?_⟩
    · split <;> omega
    · split <;> omega
    · intro hh
      rcases o5 with q | q
      · rw [if_neg (by omega)]; exact ⟨q, rfl⟩
      · rw [if_pos q] at hh; omega
theorem m_layNoises {a : Wd} {h : PH} {Q : PH → Prop} (D : MD h 0 a) (O : OkN a) (h12 : a.n 3 ≤ 12) (hl : ∀ n, 0 ≤ n → n < a.n 3 → 1 ≤ a.f 3 4 n)
    (hq : ∀ g, (∀ c k, ¬ (45 ≤ c ∧ c < 50) → ¬ (c = 0 ∧ k = 62) → At h g c k) → NM g a → Q g) : w_X10_layNoises h Q := m_layNoises' D O h12 hl (fun g f N _ => hq g f N)
