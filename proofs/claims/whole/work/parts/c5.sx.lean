section PLREF
variable {h : PH} {a : Wd}
def PlM (h : PH) (P : List (Int × Int)) : Prop := ∀ (i : Nat) (q : Int × Int), P[i]? = some q → gI h 62 i = z q.1 ∧ gI h 63 i = z q.2
def OkP (a : Wd) (P : List (Int × Int)) : Prop := ∀ q ∈ P, (0 ≤ q.1 ∧ q.1 < a.n 6) ∧ 0 ≤ q.2 ∧ q.2 + a.f 6 2 q.1 ≤ 48
def BestM (h : PH) (b : Option (Int × List (Int × Int))) : Prop := (b = none → gI h 0 92 = z (-1)) ∧ ∀ e P, b = some (e, P) → gI h 0 92 = z e ∧ (0 ≤ e ∧ e ≤ 47) ∧ ∀ (i : Nat) q, P[i]? = some q → gI h 64 i = z q.1 ∧ gI h 65 i = z q.2
def plC (c k : Nat) : Prop := (62 ≤ c ∧ c ≤ 65) ∨ (c = 0 ∧ k = 92)
theorem op_iff {P : List (Int × Int)} {t x : Int} : opn a P t x = true ↔ ∀ d, 0 ≤ d → d < a.f 6 2 t → bad a t (x + d) = false ∧ tkn a P (a.f 6 0 t) (x + d) = false := by
  unfold opn
  rw [decide_eq_true_eq]
  rcases ff_ca (fun d => bad a t (x + d) || tkn a P (a.f 6 0 t) (x + d)) (a.f 6 2 t) with ⟨e, hn⟩ | ⟨h1, h2, h3, h4⟩
  · refine ⟨fun _ d d0 d1 => ?_, fun _ => e⟩
    have := hn d d0 d1
    simpa using this
  · refine ⟨fun x => by omega, fun x => ?_⟩
    have := x _ h1 h2
    rw [this.1, this.2] at h3
    exact absurd h3 (by decide)
theorem tk_no {P : List (Int × Int)} {o m : Int} (h : ∀ q ∈ P, ¬ (a.f 6 0 q.1 = o ∧ q.2 ≤ m ∧ m < q.2 + a.f 6 2 q.1)) : tkn a P o m = false := by
  unfold tkn
  rw [List.any_eq_false]
  intro q hq
  have := h q hq
  simp only [Bool.and_eq_true, decide_eq_true_eq]
  exact fun x => this ⟨x.1.1, x.1.2, x.2⟩
theorem tk_yes {P : List (Int × Int)} {o m : Int} {q : Int × Int} (hq : q ∈ P) (h : a.f 6 0 q.1 = o ∧ q.2 ≤ m ∧ m < q.2 + a.f 6 2 q.1) : tkn a P o m = true := by
  unfold tkn
  rw [List.any_eq_true]
  exact ⟨q, hq, by rw [decide_eq_true h.1, decide_eq_true h.2.1, decide_eq_true h.2.2]; rfl⟩
theorem m_isOpen {Q : Int32 → PH → Prop} {P : List (Int × Int)} {t x : Int} (M : MT h a) (N : Now a) (B : BdM h a (48 * a.n 6)) (hP : PlM h P) (ok : OkP a P) (hl : P.length ≤ 4) (ht : 0 ≤ t ∧ t < a.n 6) (hx : 0 ≤ x ∧ x + a.f 6 2 t ≤ 48) (hq : Q (z (bI (opn a P t x))) h) : w_X10_isOpen (z P.length) (z t) (z x) h Q := by
  have n14 := N.2.2.2.2.2.2.2.2.2.2.2.2.2
  have nr := n14.1
  obtain ⟨o1, o2, o3, o4⟩ := n14.2.1 t ht.1 ht.2
  have n2 := N.2.2.2.2.2.2.2.2.2.2.1
  have tsk := M.2.2.2.2.2.2.1
  obtain ⟨t1, t2, t3, t4⟩ := tsk t ht.1 ht.2
  have no : ¬ opn a P t x = true → Q 0 h := fun c => by rw [Bool.eq_false_iff.mpr c] at hq; exact hq
  unfold w_X10_isOpen
  rw [z_iN (a := t) (by omega) (by omega), t3]
  refine ⟨z_in (by omega) (by omega) (by omega), ?_⟩
  rintro _ rfl
  rw [z_add, zn_1, z_sub]
  refine for10 (x + a.f 6 2 t) (fun m g => h = g ∧ ∀ d, 0 ≤ d → d < m - x → bad a t (x + d) = false) x rfl (by omega) (by omega) (by omega) ⟨rfl, fun d d0 d1 => by omega⟩ ?_ ?_
  · rintro kb m _ m0 m1 ⟨rfl, hJ⟩ hn
    unfold w_X10_isOpen_15
    have eb := B (48 * t + m) (by omega) (by omega)
    rw [show (48 * t + m) / 48 = t by omega, show (48 * t + m) % 48 = m by omega] at eb
    rw [if_neg (by rw [z_lt (by omega) (by omega) (by omega) (by omega)]; omega), zn_48, z_mul, z_add, z_iN (a := 48 * t + m) (by omega) (by omega), eb, z_inc]
    refine ⟨z_in (by omega) (by omega) (by omega), ?_⟩
    cases hb : bad a t m with
    | true =>
      rw [if_neg (show ¬ z (bI true) = 0 by decide)]
      refine no (fun c => ?_)
      have := (op_iff.mp c (m - x) (by omega) (by omega)).1
      rw [show x + (m - x) = m by omega, hb] at this
      exact absurd this (by decide)
    | false =>
      rw [if_pos (show z (bI false) = 0 from rfl)]
      refine hn h ⟨rfl, fun d d0 d1 => ?_⟩
      by_cases e : d = m - x
      · rw [e, show x + (m - x) = m by omega]; exact hb
      · exact hJ d d0 (by omega)
  · rintro kb _ ⟨rfl, hJ⟩
    unfold w_X10_isOpen_15
    rw [if_pos (by rw [z_lt (by omega) (by omega) (by omega) (by omega)]; omega)]
    refine for10 (P.length : Int) (fun i g => h = g ∧ ∀ (k : Nat) q, (k : Int) < i → P[k]? = some q → ¬ (a.f 6 0 q.1 = a.f 6 0 t ∧ q.2 ≤ x + a.f 6 2 t - 1 ∧ x ≤ q.2 + a.f 6 2 q.1 - 1)) 0 rfl (by omega) (by omega) (by omega) ⟨rfl, fun k q k0 => by omega⟩ ?_ ?_
    · rintro kb2 i _ i0 i1 ⟨rfl, hK⟩ hn
      have il : i.toNat < P.length := by omega
      have eP : P[i.toNat]? = some P[i.toNat] := List.getElem?_eq_getElem il
      have hm : P[i.toNat] ∈ P := List.getElem_mem il
      obtain ⟨p1, p2⟩ := hP _ _ eP
      obtain ⟨k1, k2, k3⟩ := ok _ hm
      have nxt : ¬ (a.f 6 0 P[i.toNat].1 = a.f 6 0 t ∧ P[i.toNat].2 ≤ x + a.f 6 2 t - 1 ∧ x ≤ P[i.toNat].2 + a.f 6 2 P[i.toNat].1 - 1) → kb2 (z (i + 1)) h := fun c => hn h ⟨rfl, fun k q c1 c2 => by
        by_cases e : k = i.toNat
        · rw [e, eP] at c2
          injection c2 with c2
          rw [← c2]; exact c
        · exact hK k q (by omega) c2⟩
      generalize P[i.toNat] = q at *
      obtain ⟨u1, u2, u3, u4⟩ := tsk q.1 k1.1 k1.2
      obtain ⟨v1, v2, v3, v4⟩ := n14.2.1 q.1 k1.1 k1.2
      unfold w_X10_isOpen_48
      rw [if_neg (by rw [z_le (by omega) (by omega) (by omega) (by omega)]; omega), z_iN (a := i) (by omega) (by omega), p1, p2, z_inc]
      refine ⟨z_in (by omega) (by omega) (by omega), ?_⟩
      rintro _ rfl
      rw [z_iN (a := q.1) (by omega) (by omega), z_iN (a := t) (by omega) (by omega), u1, t1, u3]
      refine ⟨z_in (by omega) (by omega) (by omega), z_in (by omega) (by omega) (by omega), ?_⟩
      by_cases c1 : a.f 6 0 q.1 = a.f 6 0 t
      · rw [if_pos (by rw [c1])]
        refine ⟨z_in (by omega) (by omega) (by omega), ?_⟩
        by_cases c2 : x + a.f 6 2 t - 1 < q.2
        · rw [if_pos (by rw [z_lt (by omega) (by omega) (by omega) (by omega)]; omega)]
          exact nxt (by omega)
        · rw [if_neg (by rw [z_lt (by omega) (by omega) (by omega) (by omega)]; omega)]
          refine ⟨z_in (by omega) (by omega) (by omega), z_in (by omega) (by omega) (by omega), ?_⟩
          rw [z_add, zn_1, z_sub]
          by_cases c3 : q.2 + a.f 6 2 q.1 - 1 < x
          · rw [if_pos (by rw [z_lt (by omega) (by omega) (by omega) (by omega)]; omega)]
            exact nxt (by omega)
          · rw [if_neg (by rw [z_lt (by omega) (by omega) (by omega) (by omega)]; omega)]
            refine no (fun c => ?_)
            have := (op_iff.mp c (max x q.2 - x) (by omega) (by omega)).2
            rw [tk_yes hm ⟨c1, by omega, by omega⟩] at this
            exact absurd this (by decide)
      · rw [if_neg (z_ne (by omega) (by omega) (by omega) (by omega) c1)]
        exact nxt (fun x => c1 x.1)
    · rintro kb2 _ ⟨rfl, hK⟩
      unfold w_X10_isOpen_48
      rw [if_pos (by rw [z_le (by omega) (by omega) (by omega) (by omega)]; omega)]
      have e : opn a P t x = true := op_iff.mpr (fun d d0 d1 => ⟨hJ d d0 (by omega), tk_no (fun q hq c => by
        obtain ⟨k, hk⟩ := List.getElem?_of_mem hq
        have hkl := (List.getElem?_eq_some_iff.mp hk).1
        exact hK k q (by omega) hk ⟨c.1, by omega, by omega⟩)⟩)
      rw [e] at hq
      exact hq
theorem enF_rg (N : Now a) : ∀ (P : List (Int × Int)) (e : Int), OkP a P → (-1 ≤ e ∧ e ≤ 47) → (P ≠ [] ∨ 0 ≤ e) → 0 ≤ enF a e P ∧ enF a e P ≤ 47
  | [], e, _, b, c => by
    show 0 ≤ e ∧ e ≤ 47
    rcases c with c | c
    · exact absurd rfl c
    · omega
  | q :: P, e, ok, b, c => by
    obtain ⟨k1, k2, k3⟩ := ok q (by simp)
    obtain ⟨v1, v2, v3, v4⟩ := N.2.2.2.2.2.2.2.2.2.2.2.2.2.2.1 q.1 k1.1 k1.2
    exact enF_rg N P (max e (q.2 + a.f 6 2 q.1 - 1)) (fun x hx => ok x (by simp [hx])) (by omega) (Or.inr (by omega))
theorem enF_r1 (N : Now a) (P : List (Int × Int)) (ok : OkP a P) : -1 ≤ enF a (-1) P ∧ enF a (-1) P ≤ 47 := by
  cases P with
  | nil => show -1 ≤ (-1 : Int) ∧ (-1 : Int) ≤ 47; omega
  | cons q P => have := enF_rg N (q :: P) (-1) ok (by omega) (Or.inl (by simp)); omega
end PLREF
