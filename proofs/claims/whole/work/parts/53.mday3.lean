theorem m_layClaims {a : Wd} {h : PH} {Q : PH → Prop} (M : MT h a) (D : MD h 0 a) (O : OkC a) (h8 : a.n 4 ≤ 8)
    (hq : ∀ g, (∀ c k, ¬ (52 ≤ c ∧ c < 56) → ¬ (c = 0 ∧ k = 70) → At h g c k) → HM g a → Q g) : w_X10_layClaims h Q := by
  have O1 := O.1
  unfold w_X10_layClaims
  rintro _ rfl
  rw [iN_4, M.1.2.2.2.1]
  refine for10 (a.n 4) (fun i g => (∀ c k, ¬ (52 ≤ c ∧ c < 56) → ¬ (c = 0 ∧ k = 70) → At h g c k) ∧ gI g 0 70 = z (a.n 4) ∧ ∀ c : Int, 0 ≤ c → c < i → gI g 52 c.toNat = z (a.f 4 0 c) ∧ gI g 53 c.toNat = z (a.f 4 1 c) ∧ gI g 54 c.toNat = z (a.f 4 2 c) ∧ gI g 55 c.toNat = z (a.f 4 3 c)) 0 rfl (by omega) (by omega) (by omega) ⟨fun c k _ b => (At.rf h c k).sI b, gI_in rfl rfl, fun n c1 c2 => by omega⟩ ?_ ?_
  · rintro kb i g i0 i1 ⟨hf, h70, hJ⟩ hk
    have e0 := D.2.2.2.1 i i0 i1
    rw [show 8 * (0 : Int) + i = i by omega] at e0
    obtain ⟨e1, e2, e3⟩ := M.2.2.2.2.1 i i0 i1
    have g41 : gI g 41 i.toNat = z (a.f 4 0 i) := by rw [(hf 41 _ (by omega) (by omega)).1]; exact e0
    have g16 : gI g 16 i.toNat = z (a.f 4 1 i) := by rw [(hf 16 _ (by omega) (by omega)).1]; exact e1
    have g17 : gI g 17 i.toNat = z (a.f 4 2 i) := by rw [(hf 17 _ (by omega) (by omega)).1]; exact e2
    have g18 : gI g 18 i.toNat = z (a.f 4 3 i) := by rw [(hf 18 _ (by omega) (by omega)).1]; exact e3
    unfold w_X10_layClaims_12
    rw [h70, if_neg (by rw [z_le (by omega) (by omega) (by omega) (by omega)]; omega), z_iN (by omega) (by omega), g41]
    refine ⟨z_in (by omega) (by omega) (by omega), z_in (by omega) (by omega) (by omega), ?_⟩
    rintro _ rfl
    rw [gI_out (by omega), g16]
    refine ⟨z_in (by omega) (by omega) (by omega), z_in (by omega) (by omega) (by omega), ?_⟩
    rintro _ rfl
    rw [gI_out (by omega), gI_out (by omega), g17]
    refine ⟨z_in (by omega) (by omega) (by omega), z_in (by omega) (by omega) (by omega), ?_⟩
    rintro _ rfl
    rw [gI_out (by omega), gI_out (by omega), gI_out (by omega), g18]
    refine ⟨z_in (by omega) (by omega) (by omega), z_in (by omega) (by omega) (by omega), ?_⟩
    rintro _ rfl
    rw [z_inc]
    refine hk _ ⟨fun c k b1 b2 => ((((hf c k b1 b2).sI (by omega)).sI (by omega)).sI (by omega)).sI (by omega), ?_, fun n c1 c2 => ?_⟩
    · rw [gI_out (by omega), gI_out (by omega), gI_out (by omega), gI_out (by omega)]; exact h70
    · by_cases e : n = i
      · subst e
        refine ⟨?_, ?_, ?_, ?_⟩
        · rw [gI_out (by omega), gI_out (by omega), gI_out (by omega), gI_in rfl rfl]
        · rw [gI_out (by omega), gI_out (by omega), gI_in rfl rfl]
        · rw [gI_out (by omega), gI_in rfl rfl]
        · rw [gI_in rfl rfl]
      · have := hJ n c1 (by omega)
        obtain ⟨q1, q2, q3, q4⟩ := this
        refine ⟨?_, ?_, ?_, ?_⟩ <;> (repeat rw [gI_out (by omega)]) <;> assumption
  · rintro kb g ⟨hf, h70, hJ⟩
    unfold w_X10_layClaims_12
    rw [h70, if_pos (by rw [z_le (by omega) (by omega) (by omega) (by omega)]; omega)]
    exact hq g hf ⟨h70, hJ⟩
/-- a world as it is now: all numbers in their bounds -/
def Now (a : Wd) : Prop := OkL a ∧ OkN a ∧ OkC a ∧ OkR a ∧ Wf a.fd ∧ Wf a.wo ∧ a.n 3 ≤ 12 ∧ (∀ n, 0 ≤ n → n < a.n 3 → (0 ≤ a.f 3 1 n ∧ a.f 3 1 n < a.n 2) ∧ 1 ≤ a.f 3 4 n) ∧ a.n 4 ≤ 8 ∧ (∀ c, 0 ≤ c → c < a.n 4 → a.f 4 0 c < a.n 2) ∧ (0 ≤ a.n 2 ∧ a.n 2 ≤ 4) ∧
  (∀ o, 0 ≤ o → o < a.n 2 → (0 ≤ a.f 2 0 o ∧ a.f 2 0 o < 1073741824) ∧ (0 ≤ a.f 2 1 o ∧ a.f 2 1 o ≤ 3996) ∧ (-1 ≤ a.f 2 2 o ∧ a.f 2 2 o < a.n 2)) ∧ (sm (a.f 2 1) (a.n 2) ≤ 3996) ∧
  (0 ≤ a.n 6 ∧ a.n 6 ≤ 4) ∧ (∀ t, 0 ≤ t → t < a.n 6 → (0 ≤ a.f 6 0 t ∧ a.f 6 0 t < a.n 2) ∧ (0 ≤ a.f 6 1 t ∧ a.f 6 1 t < a.n 0) ∧ (1 ≤ a.f 6 2 t ∧ a.f 6 2 t ≤ 12) ∧ (1 ≤ a.f 6 3 t ∧ a.f 6 3 t ≤ 20)) ∧
  (∀ p, 0 ≤ p → p < a.n 0 → (0 ≤ a.f 0 0 p ∧ a.f 0 0 p < 1073741824) ∧ (0 ≤ a.f 0 1 p ∧ a.f 0 1 p ≤ 20)) ∧ (0 ≤ a.f 7 2 0 ∧ a.f 7 2 0 ≤ 48) ∧ (0 ≤ a.f 7 1 0 ∧ a.f 7 1 0 ≤ 9) ∧ a.fd.length + a.wo.length ≤ 64
/-- what a day laid out changes -/
def dayR (c k : Nat) : Prop := (45 ≤ c ∧ c ≤ 56) ∨ c = 32 ∨ c = 33 ∨ (c = 0 ∧ (k = 48 ∨ k = 62 ∨ k = 70))
def Day (h : PH) (a : Wd) : Prop := MT h a ∧ MD h 0 a ∧ NM h a ∧ FM h (far a (-1)) ∧ FS h a (far a (-1)) ∧ HM h a ∧ WM h a (far a (-1))
theorem WB.of {h : PH} {a : Wd} (D : MD h 0 a) (O : OkL a) : WB (gI h 42 0) a := by
  intro l l0 l1
  have O2 := O.2.1
  have b := D.2.2.2.2.1 l l0 (by omega)
  obtain ⟨q1, q2, q3, q4, q5⟩ := O.2.2.2.1 l l0 l1
  have b' : bt (gI h 42 0) l.toNat = true ↔ l < a.n 1 ∧ a.f 1 3 l = 1 := b
  rcases q5 with e | e
  · rw [e, if_neg (fun x => by have := (b'.mp x).2; omega)]
  · rw [e, if_pos (b'.mpr ⟨l1, e⟩)]
theorem m_layDay {a : Wd} {h : PH} {Q : PH → Prop} (M : MT h a) (D : MD h 0 a) (N : Now a) (hq : ∀ g, (∀ c k, ¬ dayR c k → At h g c k) → Day g a → Q g) : w_X10_layDay h Q := by
  obtain ⟨OL, ON, OC, OR, W1, W2, n12, nl, n8, n9, n10, n11, n13, n14, n15, n16⟩ := N
  unfold w_X10_layDay
  refine m_layNoises D ON n12 (fun n c1 c2 => (nl n c1 c2).2) (fun g1 f1 N1 => ?_)
  have D1 : MD g1 0 a := D.at' (fun c k b1 b2 => f1 c k (by omega) (by omega))
  have M1 : MT g1 a := M.at' (fun c k b1 b2 => f1 c k (by omega) (by omega))
  have F3 := (far_gd (-1) OL).2.2.1
  refine m_far (g := -1) M1 OL (WB.of D1 OL) rfl (by omega) (fun g2 f2 F2 => ?_)
  have D2 : MD g2 0 a := D1.at' (fun c k b1 b2 => f2 c k (by omega))
  have M2 : MT g2 a := M1.at' (fun c k b1 b2 => f2 c k (by omega))
  have N2 : NM g2 a := N1.at' (f2 0 62 (by omega)) (fun c k b1 b2 => f2 c k (by omega))
  refine m_first M2 W1 F2 N2 ON F3 OL.1 (fun g3 f3 S3 => ?_)
  have D3 : MD g3 0 a := D2.at' (fun c k b1 b2 => f3 c k (by unfold lawC; omega) (by omega))
  have M3 : MT g3 a := M2.at' (fun c k b1 b2 => f3 c k (by unfold lawC; omega) (by omega))
  have N3 : NM g3 a := N2.at' (f3 0 62 (by unfold lawC; omega) (by omega)) (fun c k b1 b2 => f3 c k (by unfold lawC; omega) (by omega))
  have F3' : FM g3 (far a (-1)) := F2.at' (fun k => f3 50 k (by unfold lawC; omega) (by omega))
  refine m_layClaims M3 D3 OC n8 (fun g4 f4 H4 => ?_)
  have D4 : MD g4 0 a := D3.at' (fun c k b1 b2 => f4 c k (by omega) (by omega))
  have M4 : MT g4 a := M3.at' (fun c k b1 b2 => f4 c k (by omega) (by omega))
  have N4 : NM g4 a := N3.at' (f4 0 62 (by omega) (by omega)) (fun c k b1 b2 => f4 c k (by omega) (by omega))
  have F4 : FM g4 (far a (-1)) := F3'.at' (fun k => f4 50 k (by omega) (by omega))
  have S4 : FS g4 a (far a (-1)) := fun p m c1 c2 c3 c4 => by rw [(f4 51 _ (by omega) (by omega)).1]; exact S3 p m c1 c2 c3 c4
  refine m_whose M4.1.1 S4 N4 H4 ON OC OL.1 (fun g5 f5 W5 => ?_)
  refine hq g5 (fun c k hc => ?_) ⟨M4.at' (fun c k b1 b2 => f5 c k (by omega)), D4.at' (fun c k b1 b2 => f5 c k (by omega)), N4.at' (f5 0 62 (by omega)) (fun c k b1 b2 => f5 c k (by omega)), F4.at' (fun k => f5 50 k (by omega)), fun p m c1 c2 c3 c4 => by rw [(f5 51 _ (by omega)).1]; exact S4 p m c1 c2 c3 c4, H4.at' (f5 0 70 (by omega)) (fun c k b1 b2 => f5 c k (by omega)), W5⟩
  unfold dayR at hc
  exact ((((f1 c k (by omega) (by omega)).tr (f2 c k (by omega))).tr (f3 c k (by unfold lawC; omega) (by omega))).tr (f4 c k (by omega) (by omega))).tr (f5 c k (by omega))
theorem m_hasRight {a : Wd} {o p m : Int} {h : PH} {Q : Int32 → PH → Prop} (M : MT h a) (O : OkR a) (ho : -10 ≤ o ∧ o ≤ 10) (hp : 0 ≤ p ∧ p < 6) (hm : 0 ≤ m ∧ m < 48) (h6 : a.n 0 ≤ 6) (hq : Q (z (if hasR a o p m = true then 1 else 0)) h) : w_X10_hasRight (z o) (z p) (z m) h Q := by
  have O1 := O.1
  have e25 : gI h 2 5 = z (a.n 5) := M.1.2.2.2.2.1
  unfold w_X10_hasRight
  refine for10 (a.n 5) (fun i g => h = g ∧ ∀ r, 0 ≤ r → r < i → (decide (a.f 5 0 r = o) && decide (a.f 5 1 r = p) && decide (a.f 5 2 r ≤ m) && decide (m ≤ a.f 5 3 r)) = false) 0 rfl (by omega) (by omega) (by omega) ⟨rfl, fun c c1 c2 => by omega⟩ ?_ ?_
  · rintro kb i _ i0 i1 ⟨rfl, hJ⟩ hk
    obtain ⟨e1, e2, e3, e4⟩ := M.2.2.2.2.2.1 i i0 i1
    obtain ⟨o1, o2, o3⟩ := O.2 i i0 i1
    have nxt : (decide (a.f 5 0 i = o) && decide (a.f 5 1 i = p) && decide (a.f 5 2 i ≤ m) && decide (m ≤ a.f 5 3 i)) = false → kb (z i + 1) h := by
      intro hb
      rw [z_inc]
      refine hk _ ⟨rfl, fun c c1 c2 => ?_⟩
      by_cases e : c = i
      · rw [e]; exact hb
      · exact hJ c c1 (by omega)
    unfold w_X10_hasRight_3
    rw [iN_5, e25, if_neg (by rw [z_le (by omega) (by omega) (by omega) (by omega)]; omega), z_iN (by omega) (by omega), e1, e2, e3, e4]
    refine ⟨z_in (by omega) (by omega) (by omega), ?_⟩
    by_cases c0 : a.f 5 0 i = o
    · rw [if_pos (congrArg z c0)]
      refine ⟨z_in (by omega) (by omega) (by omega), ?_⟩
      by_cases c1 : a.f 5 1 i = p
      · rw [if_pos (congrArg z c1)]
        refine ⟨z_in (by omega) (by omega) (by omega), ?_⟩
        by_cases c2 : m < a.f 5 2 i
        · rw [if_pos (by rw [z_lt (by omega) (by omega) (by omega) (by omega)]; omega)]
          exact nxt (by rw [decide_eq_false (by omega : ¬ a.f 5 2 i ≤ m)]; simp)
        · rw [if_neg (by rw [z_lt (by omega) (by omega) (by omega) (by omega)]; omega)]
          refine ⟨z_in (by omega) (by omega) (by omega), ?_⟩
          by_cases c3 : a.f 5 3 i < m
          · rw [if_pos (by rw [z_lt (by omega) (by omega) (by omega) (by omega)]; omega)]
            exact nxt (by rw [decide_eq_false (by omega : ¬ m ≤ a.f 5 3 i)]; simp)
          · rw [if_neg (by rw [z_lt (by omega) (by omega) (by omega) (by omega)]; omega)]
            have : hasR a o p m = true := by
              unfold hasR
              rw [ff_yes i0 i1 (by rw [decide_eq_true c0, decide_eq_true c1, decide_eq_true (by omega : a.f 5 2 i ≤ m), decide_eq_true (by omega : m ≤ a.f 5 3 i)]; rfl) hJ]
              exact decide_eq_true (by omega)
            rw [this] at hq
            exact hq
      · rw [if_neg (z_ne (by omega) (by omega) (by omega) (by omega) c1)]
        exact nxt (by rw [decide_eq_false c1]; simp)
    · rw [if_neg (z_ne (by omega) (by omega) (by omega) (by omega) c0)]
      exact nxt (by rw [decide_eq_false c0]; simp)
  · rintro kb _ ⟨rfl, hJ⟩
    unfold w_X10_hasRight_3
    rw [iN_5, e25, if_pos (by rw [z_le (by omega) (by omega) (by omega) (by omega)]; omega)]
    have : hasR a o p m = false := by
      unfold hasR
      rw [ff_no hJ]; rfl
    rw [this] at hq
    exact hq
theorem agn_rg {a : Wd} (O : OkC a) (o p m : Int) : -1 ≤ agn a o p m ∧ agn a o p m < 4 := by
  have := clo_rg O p m
  unfold agn
  split <;> omega
theorem m_against {a : Wd} {o p m : Int} {h : PH} {Q : Int32 → PH → Prop} (M : MT h a) (H : HM h a) (OC : OkC a) (O : OkR a) (ho : -1 ≤ o ∧ o ≤ 10) (hp : 0 ≤ p ∧ p < 6) (hm : 0 ≤ m ∧ m < 48) (h6 : a.n 0 ≤ 6) (hq : Q (z (agn a o p m)) h) : w_X10_against (z o) (z p) (z m) h Q := by
  unfold w_X10_against
  have b := clo_rg OC p m
  refine m_claimed H OC (by omega) (by omega) h6 ?_
  unfold agn at hq
  by_cases c1 : clo a p m = -1
  · rw [if_pos (by rw [c1]; rfl)]
    rw [if_pos (Or.inl c1)] at hq
    exact hq
  · rw [if_neg (by rw [z_m1]; exact z_ne (by omega) (by omega) (by omega) (by omega) c1)]
    by_cases c2 : clo a p m = o
    · rw [if_pos (by rw [c2])]
      rw [if_pos (Or.inr (Or.inl c2))] at hq
      exact hq
    · rw [if_neg (z_ne (by omega) (by omega) (by omega) (by omega) c2)]
      refine m_hasRight M O (by omega) hp hm h6 ?_
      cases c3 : hasR a o p m with
      | false =>
        rw [if_pos (show z (if false = true then (1 : Int) else 0) = 0 from rfl)]
        rw [if_neg (by rw [c3]; simp [c1, c2])] at hq
        exact hq
      | true =>
        rw [if_neg (show ¬ z (if true = true then (1 : Int) else 0) = 0 by decide)]
        rw [if_pos (Or.inr (Or.inr c3))] at hq
        exact hq
/-- trespasses -/
def tr1 (a : Wd) (F : Int → Int → Int) (by_ on n p m : Int) : Int := if hr a F n p m = true ∧ agn a (a.f 3 1 n) p m ≠ -1 ∧ (by_ = -1 ∨ by_ = a.f 3 1 n) ∧ (on = -1 ∨ on = agn a (a.f 3 1 n) p m) then 1 else 0
def trs (a : Wd) (F : Int → Int → Int) (by_ on : Int) : Int := sm (fun k => sm (fun n => tr1 a F by_ on n (k / 48) (k % 48)) (a.n 3)) (48 * a.n 0)
theorem tr1_rg (a : Wd) (F : Int → Int → Int) (by_ on n p m : Int) : 0 ≤ tr1 a F by_ on n p m ∧ tr1 a F by_ on n p m ≤ 1 := by unfold tr1; split <;> omega
set_option maxHeartbeats 2000000 in
theorem m_trespasses {a : Wd} {by_ on : Int} {h : PH} {Q : Int32 → PH → Prop} (Dy : Day h a) (N : Now a) (hb : -1 ≤ by_ ∧ by_ < 4) (ho : -1 ≤ on ∧ on < 4)
    (hq : ∀ g, (∀ c k, ¬ lawC c k → At h g c k) → Q (z (trs a (far a (-1)) by_ on)) g) : w_X10_trespasses (z by_) (z on) h Q := by
  obtain ⟨OL, ON, OC, OR, W1, W2, n12, nl, n8, n9, n10, n11, n13, n14, n15, n16⟩ := N
  have F3 := (far_gd (-1) OL).2.2.1
  have OL1 := OL.1
  have ON1 := ON.1
  generalize hFF : far a (-1) = F at *
  have dk : ∀ g, (∀ c k, ¬ lawC c k → At h g c k) → MT g a ∧ NM g a ∧ FM g F ∧ HM g a := by
    intro g hg
    obtain ⟨M, D, NN, FF, S, H, WW⟩ := Dy
    rw [hFF] at FF
    exact ⟨M.at' (fun c k b1 b2 => hg c k (by unfold lawC; omega)), NN.at' (hg 0 62 (by unfold lawC; omega)) (fun c k b1 b2 => hg c k (by unfold lawC; omega)), FF.at' (fun k => hg 50 k (by unfold lawC; omega)), H.at' (hg 0 70 (by unfold lawC; omega)) (fun c k b1 b2 => hg c k (by unfold lawC; omega))⟩
  have rg1 : ∀ k : Int, 0 ≤ sm (fun n => tr1 a F by_ on n (k / 48) (k % 48)) (a.n 3) ∧ sm (fun n => tr1 a F by_ on n (k / 48) (k % 48)) (a.n 3) ≤ a.n 3 * 1 := fun k => sm_rg (by omega) (by omega) (fun j _ _ => tr1_rg ..)
  have rg2 : ∀ k : Int, 0 ≤ k → 0 ≤ sm (fun k => sm (fun n => tr1 a F by_ on n (k / 48) (k % 48)) (a.n 3)) k ∧ sm (fun k => sm (fun n => tr1 a F by_ on n (k / 48) (k % 48)) (a.n 3)) k ≤ k * 13 := fun k hk => sm_rg hk (by omega) (fun j _ _ => by have := rg1 j; omega)
  unfold trs at hq
  generalize hG : (fun k => sm (fun n => tr1 a F by_ on n (k / 48) (k % 48)) (a.n 3)) = G at *
  have hGk : ∀ p m : Int, 0 ≤ m → m < 48 → G (48 * p + m) = sm (fun n => tr1 a F by_ on n p m) (a.n 3) := by
    intro p m m0 m1
    rw [← hG]
    show sm (fun n => tr1 a F by_ on n ((48 * p + m) / 48) ((48 * p + m) % 48)) (a.n 3) = _
    rw [show (48 * p + m) / 48 = p by omega, show (48 * p + m) % 48 = m by omega]
  unfold w_X10_trespasses
  refine for21 (a.n 0) (fun p s g => s = z (sm G (48 * p)) ∧ ∀ c k, ¬ lawC c k → At h g c k) 0 rfl (by omega) (by omega) (by omega) ⟨rfl, fun c k _ => At.rf h c k⟩ ?_ ?_
  · rintro kb p _ g p0 p1 ⟨rfl, hf⟩ hk
    unfold w_X10_trespasses_5
    rw [iN_0, (dk g hf).1.1.1, if_neg (by rw [z_le (by omega) (by omega) (by omega) (by omega)]; omega), z_inc]
    refine for21 48 (fun m s g => s = z (sm G (48 * p + m)) ∧ ∀ c k, ¬ lawC c k → At h g c k) 0 rfl (by omega) (by omega) (by omega) ⟨by rw [show 48 * p + 0 = 48 * p by omega], hf⟩ ?_ ?_
    · clear hf g
      rintro kb2 m _ g m0 m1 ⟨rfl, hf⟩ hk2
      unfold w_X10_trespasses_19
      rw [zn_48, if_neg (by rw [z_le (by omega) (by omega) (by omega) (by omega)]; omega), z_inc]
      have hgk := hGk p m m0 m1
      have hr2 := rg2 (48 * p + m) (by omega)
      refine for21 (a.n 3) (fun n s g => s = z (sm G (48 * p + m) + sm (fun n => tr1 a F by_ on n p m) n) ∧ ∀ c k, ¬ lawC c k → At h g c k) 0 rfl (by omega) (by omega) (by omega) ⟨by rw [sm_0, Int.add_zero], hf⟩ ?_ ?_
      · clear hf g
        rintro kb3 n _ g j0 j1 ⟨rfl, hf⟩ hk3
        obtain ⟨M, NN, FF, H⟩ := dk g hf
        obtain ⟨fr, K⟩ := M.2.2.2.2.2.2.2.1
        obtain ⟨o1, o2, o3, o4, o5⟩ := ON.2 n j0 j1
        have hr3 := sm_rg (f := fun n => tr1 a F by_ on n p m) (c := 1) j0 (by omega) (fun j _ _ => tr1_rg ..)
        have bA := agn_rg OC (a.f 3 1 n) p m
        unfold w_X10_trespasses_29
        rw [NN.1, if_neg (by rw [z_le (by omega) (by omega) (by omega) (by omega)]; omega)]
        have fin : ∀ (v : Int) (g' : PH), (∀ c k, ¬ lawC c k → At h g' c k) → v = tr1 a F by_ on n p m → kb3 (z (sm G (48 * p + m) + sm (fun n => tr1 a F by_ on n p m) n) + z v) (z n + 1) g' := by
          intro v g' hg' hv
          rw [z_inc, z_add]
          refine hk3 _ _ ⟨?_, hg'⟩
          rw [sm_s j0, hv, Int.add_assoc]
        have f110 : ∀ (s0 : Int32) (g' : PH), (∀ c k, ¬ lawC c k → At h g' c k) → tr1 a F by_ on n p m = 0 → s0 = z (sm G (48 * p + m) + sm (fun n => tr1 a F by_ on n p m) n) → w_X10_trespasses_110 Q kb3 (z by_) (z on) (z p) (z m) (z n) s0 g' := by
          rintro s0 g' hg' hv rfl
          unfold w_X10_trespasses_110
          rintro _ rfl
          exact fin 0 g' hg' hv.symm
        have f106 : ∀ (s0 : Int32) (g' : PH), (∀ c k, ¬ lawC c k → At h g' c k) → tr1 a F by_ on n p m = 1 → s0 = z (sm G (48 * p + m) + sm (fun n => tr1 a F by_ on n p m) n) → w_X10_trespasses_106 Q kb3 (z by_) (z on) (z p) (z m) (z n) s0 g' := by
          rintro s0 g' hg' hv rfl
          unfold w_X10_trespasses_106
          rintro _ rfl
          exact fin 1 g' hg' hv.symm
        refine m_hears K W1 FF NN ON F3 (by omega) ⟨j0, j1⟩ (by omega) (by omega) (fun g' hg' => ?_)
        have hf' : ∀ c k, ¬ lawC c k → At h g' c k := fun c k hc => (hf c k hc).tr (hg' c k hc)
        obtain ⟨M', NN', FF', H'⟩ := dk g' hf'
        cases hb2 : hr a F n p m with
        | false =>
          rw [if_pos (show z (if false = true then (1 : Int) else 0) = 0 from rfl)]
          unfold w_X10_trespasses_70
          rw [if_pos rfl]
          exact f110 _ g' hf' (by unfold tr1; rw [hb2]; simp) rfl
        | true =>
          rw [if_neg (show ¬ z (if true = true then (1 : Int) else 0) = 0 by decide)]
          refine ⟨z_in (by omega) (by omega) (by omega), ?_⟩
          rw [z_iN (by omega) (by omega), (NN'.2 n j0 j1).2.1]
          refine m_against M' H' OC OR (by omega) (by omega) (by omega) (by omega) ?_
          unfold w_X10_trespasses_70
          by_cases d1 : agn a (a.f 3 1 n) p m = -1
          · rw [if_pos (by rw [d1]; rfl)]
            exact f110 _ g' hf' (by unfold tr1; rw [if_neg (by simp [d1])]) rfl
          · rw [if_neg (by rw [z_m1]; exact z_ne (by omega) (by omega) (by omega) (by omega) d1)]
            have f95 : (by_ = -1 ∨ by_ = a.f 3 1 n) → w_X10_trespasses_95 Q kb3 (z by_) (z on) (z p) (z m) (z n) (z (agn a (a.f 3 1 n) p m)) (z (sm G (48 * p + m) + sm (fun n => tr1 a F by_ on n p m) n)) g' := by
              intro hby
              unfold w_X10_trespasses_95
              by_cases d2 : on = -1
              · rw [if_pos (by rw [d2]; rfl)]
                exact f106 _ g' hf' (by unfold tr1; rw [if_pos ⟨hb2, d1, hby, Or.inl d2⟩]) rfl
              · rw [if_neg (by rw [z_m1]; exact z_ne (by omega) (by omega) (by omega) (by omega) d2)]
                by_cases d3 : on = agn a (a.f 3 1 n) p m
                · rw [if_pos (by rw [d3])]
                  exact f106 _ g' hf' (by unfold tr1; rw [if_pos ⟨hb2, d1, hby, Or.inr d3⟩]) rfl
                · rw [if_neg (z_ne (by omega) (by omega) (by omega) (by omega) d3)]
                  exact f110 _ g' hf' (by unfold tr1; rw [if_neg (by intro x; rcases x.2.2.2 with y | y; exact d2 y; exact d3 y)]) rfl
            by_cases d2 : by_ = -1
            · rw [if_pos (by rw [d2]; rfl)]
              exact f95 (Or.inl d2)
            · rw [if_neg (by rw [z_m1]; exact z_ne (by omega) (by omega) (by omega) (by omega) d2)]
              refine ⟨z_in (by omega) (by omega) (by omega), ?_⟩
              rw [z_iN (by omega) (by omega), (NN'.2 n j0 j1).2.1]
              by_cases d3 : by_ = a.f 3 1 n
              · rw [if_pos (by rw [d3])]
                exact f95 (Or.inr d3)
              · rw [if_neg (z_ne (by omega) (by omega) (by omega) (by omega) d3)]
                exact f110 _ g' hf' (by unfold tr1; rw [if_neg (by intro x; rcases x.2.2.1 with y | y; exact d2 y; exact d3 y)]) rfl
      · clear hf g
        rintro kb3 _ g ⟨rfl, hf⟩
        unfold w_X10_trespasses_29
        rw [(dk g hf).2.1.1, if_pos (by rw [z_le (by omega) (by omega) (by omega) (by omega)]; omega)]
        refine hk2 _ _ ⟨?_, hf⟩
        rw [show 48 * p + (m + 1) = 48 * p + m + 1 by omega, sm_s (by omega), hgk]
    · clear hf g
      rintro kb2 _ g ⟨rfl, hf⟩
      unfold w_X10_trespasses_19
      rw [zn_48, if_pos (by rw [z_le (by omega) (by omega) (by omega) (by omega)]; omega)]
      refine hk _ _ ⟨?_, hf⟩
      rw [show 48 * (p + 1) = 48 * p + 48 by omega]
  · rintro kb _ g ⟨rfl, hf⟩
    unfold w_X10_trespasses_5
    rw [iN_0, (dk g hf).1.1.1, if_pos (by rw [z_le (by omega) (by omega) (by omega) (by omega)]; omega)]
    exact hq g hf
