/-! ===== FAR ===== -/
def ini (a : Wd) (g : Int) : Nat → Int → Int → Int
  | 0 => fun p q => if p = q then 0 else 100000
  | l + 1 => fun p q => if (l : Int) ≠ g ∧ ((p = a.f 1 0 l ∧ q = a.f 1 1 l) ∨ (p = a.f 1 1 l ∧ q = a.f 1 0 l)) then a.f 1 2 l + a.f 1 3 l * a.f 7 0 0 else ini a g l p q
def par (m : Int) (E : Int → Int → Int) : Int → Int → Int := fun p q => min (E p q) (E p m + E m q)
def fwN (E : Int → Int → Int) : Nat → Int → Int → Int
  | 0 => E
  | m + 1 => par m (fwN E m)
def far (a : Wd) (g : Int) : Int → Int → Int := fwN (ini a g (a.n 1).toNat) (a.n 0).toNat
def OkL (a : Wd) : Prop := (0 ≤ a.n 0 ∧ a.n 0 ≤ 6) ∧ (0 ≤ a.n 1 ∧ a.n 1 ≤ 9) ∧ (1 ≤ a.f 7 0 0 ∧ a.f 7 0 0 ≤ 9) ∧ (∀ l, 0 ≤ l → l < a.n 1 → (0 ≤ a.f 1 0 l ∧ a.f 1 0 l < a.n 0) ∧ (0 ≤ a.f 1 1 l ∧ a.f 1 1 l < a.n 0) ∧ a.f 1 0 l ≠ a.f 1 1 l ∧ (1 ≤ a.f 1 2 l ∧ a.f 1 2 l ≤ 9) ∧ (a.f 1 3 l = 0 ∨ a.f 1 3 l = 1)) ∧ (∀ l m, 0 ≤ l → l < m → m < a.n 1 → ¬ ((a.f 1 0 l = a.f 1 0 m ∧ a.f 1 1 l = a.f 1 1 m) ∨ (a.f 1 0 l = a.f 1 1 m ∧ a.f 1 1 l = a.f 1 0 m)))
def gdF (E : Int → Int → Int) (n : Int) : Prop := (∀ p, E p p = 0) ∧ (∀ p q, E p q = E q p) ∧ (∀ p q, 0 ≤ E p q ∧ E p q ≤ 100000) ∧ (∀ p q, (p < 0 ∨ n ≤ p ∨ q < 0 ∨ n ≤ q) → p ≠ q → E p q = 100000)
theorem OkL.len {a : Wd} (O : OkL a) {l : Int} (h1 : 0 ≤ l) (h2 : l < a.n 1) : 1 ≤ a.f 1 2 l + a.f 1 3 l * a.f 7 0 0 ∧ a.f 1 2 l + a.f 1 3 l * a.f 7 0 0 ≤ 18 := by
  obtain ⟨o1, o2, o3, o4, o5⟩ := O
  obtain ⟨q1, q2, q3, q4, q5⟩ := o4 l h1 h2
  rcases q5 with e | e <;> rw [e] <;> omega
theorem ini_gd {a : Wd} (g : Int) (O : OkL a) : ∀ l : Nat, (l : Int) ≤ a.n 1 → gdF (ini a g l) (a.n 0) ∧ (∀ p q, p ≠ q → ini a g l p q < 100000 → 1 ≤ ini a g l p q ∧ ini a g l p q ≤ 18)
  | 0, _ => by
    refine ⟨⟨fun p => if_pos rfl, fun p q => ?_, fun p q => ?_, fun p q _ hn => if_neg hn⟩, fun p q hn h => ?_⟩
    · show (if p = q then (0 : Int) else 100000) = if q = p then 0 else 100000
      by_cases e : p = q
      · rw [if_pos e, if_pos e.symm]
      · rw [if_neg e, if_neg (fun x => e x.symm)]
    · show 0 ≤ (if p = q then (0 : Int) else 100000) ∧ (if p = q then (0 : Int) else 100000) ≤ 100000
      split <;> omega
    · rw [show ini a g 0 p q = 100000 from if_neg hn] at h; omega
  | l + 1, hl => by
    obtain ⟨⟨g1, g2, g3, g4⟩, g5⟩ := ini_gd g O l (by omega)
    have b := O.len (l := (l : Int)) (by omega) (by omega)
    obtain ⟨o1, o2, o3, o4, o5⟩ := O
    obtain ⟨q1, q2, q3, q4, q5⟩ := o4 l (by omega) (by omega)
    generalize hv : a.f 1 2 l + a.f 1 3 l * a.f 7 0 0 = v at b
    have ee : ∀ p q, ini a g (l + 1) p q = if (l : Int) ≠ g ∧ ((p = a.f 1 0 l ∧ q = a.f 1 1 l) ∨ (p = a.f 1 1 l ∧ q = a.f 1 0 l)) then v else ini a g l p q := fun p q => by rw [← hv]; rfl
    refine ⟨⟨fun p => ?_, fun p q => ?_, fun p q => ?_, fun p q hh hn => ?_⟩, fun p q hn h => ?_⟩
    · rw [ee, if_neg (by omega)]; exact g1 p
    · rw [ee, ee]
      by_cases c : (l : Int) ≠ g ∧ ((p = a.f 1 0 l ∧ q = a.f 1 1 l) ∨ (p = a.f 1 1 l ∧ q = a.f 1 0 l))
      · rw [if_pos c, if_pos (by omega)]
      · rw [if_neg c, if_neg (by omega)]; exact g2 p q
    · rw [ee]
      have := g3 p q
      split <;> omega
    · rw [ee, if_neg (by omega)]; exact g4 p q hh hn
    · rw [ee] at h ⊢
      by_cases c : (l : Int) ≠ g ∧ ((p = a.f 1 0 l ∧ q = a.f 1 1 l) ∨ (p = a.f 1 1 l ∧ q = a.f 1 0 l))
      · rw [if_pos c] at h ⊢; omega
      · rw [if_neg c] at h ⊢; exact g5 p q hn h
theorem ini_no {a : Wd} (g : Int) (O : OkL a) {m : Int} (hm : 0 ≤ m) (hm2 : m < a.n 1) : ∀ l : Nat, (l : Int) ≤ m → ini a g l (a.f 1 0 m) (a.f 1 1 m) = 100000 ∧ ini a g l (a.f 1 1 m) (a.f 1 0 m) = 100000
  | 0, _ => by
    obtain ⟨o1, o2, o3, o4, o5⟩ := O
    obtain ⟨q1, q2, q3, q4, q5⟩ := o4 m hm hm2
    exact ⟨if_neg q3, if_neg (fun e => q3 e.symm)⟩
  | l + 1, hl => by
    have ih := ini_no g O hm hm2 l (by omega)
    obtain ⟨o1, o2, o3, o4, o5⟩ := O
    have d := o5 l m (by omega) (by omega) hm2
    refine ⟨?_, ?_⟩
    · show (if _ then _ else _) = _
      rw [if_neg (by omega)]; exact ih.1
    · show (if _ then _ else _) = _
      rw [if_neg (by omega)]; exact ih.2
theorem par_gd {E : Int → Int → Int} {n m : Int} (G : gdF E n) : gdF (par m E) n := by
  obtain ⟨g1, g2, g3, g4⟩ := G
  refine ⟨fun p => ?_, fun p q => ?_, fun p q => ?_, fun p q hh hn => ?_⟩
  · have a := g3 p m
    have b := g3 m p
    have c := g1 p
    unfold par; omega
  · have a := g2 p q
    have b := g2 p m
    have c := g2 m q
    unfold par; omega
  · have a := g3 p q
    have b := g3 p m
    have c := g3 m q
    unfold par; omega
  · have a := g4 p q hh hn
    have b := g3 p m
    have c := g3 m q
    unfold par
    by_cases e1 : p = m
    · subst e1; omega
    · by_cases e2 : m = q
      · subst e2; omega
      · rcases hh with h | h | h | h
        · have := g4 p m (by omega) e1; omega
        · have := g4 p m (by omega) e1; omega
        · have := g4 m q (by omega) e2; omega
        · have := g4 m q (by omega) e2; omega
theorem par_off {E : Int → Int → Int} {n m : Int} (G : gdF E n) (h : m < 0 ∨ n ≤ m) : par m E = E := by
  obtain ⟨g1, g2, g3, g4⟩ := G
  funext p q
  have a := g3 p q
  have b := g3 p m
  have c := g3 m q
  unfold par
  by_cases e1 : p = m
  · subst e1
    have := g1 p
    omega
  · have := g4 p m (by omega) e1
    omega
theorem fwN_gd {E : Int → Int → Int} {n : Int} (G : gdF E n) : ∀ m : Nat, gdF (fwN E m) n
  | 0 => G
  | m + 1 => par_gd (fwN_gd G m)
theorem fwN_off {E : Int → Int → Int} {n : Int} (hn : 0 ≤ n) (G : gdF E n) : ∀ d : Nat, fwN E (n.toNat + d) = fwN E n.toNat
  | 0 => rfl
  | d + 1 => by
    show par ((n.toNat + d : Nat) : Int) (fwN E (n.toNat + d)) = _
    rw [par_off (fwN_gd G _) (by omega)]
    exact fwN_off hn G d
theorem far_gd {a : Wd} (g : Int) (O : OkL a) : gdF (far a g) (a.n 0) := fwN_gd (ini_gd g O (a.n 1).toNat (by have := O.2.1; omega)).1 _
/-! the triangle, the last link of a way, and how far a way can be -/
theorem fwN_tri {E : Int → Int → Int} {n : Int} (G : gdF E n) : ∀ m : Nat, ∀ p q r, 0 ≤ r → r < (m : Int) → fwN E m p q ≤ fwN E m p r + fwN E m r q
  | 0, p, q, r, h1, h2 => by omega
  | m + 1, p, q, r, h1, h2 => by
    have ih := fwN_tri G m
    obtain ⟨g1, g2, g3, g4⟩ := fwN_gd G m
    have e : ∀ p q, fwN E (m + 1) p q = min (fwN E m p q) (fwN E m p m + fwN E m m q) := fun p q => rfl
    rw [e p q, e p r, e r q]
    by_cases c : r = (m : Int)
    · subst c
      have a1 := g1 (m : Int)
      have a2 := g3 p m
      have a3 := g3 m q
      omega
    · have a1 := ih p q r h1 (by omega)
      have a2 := ih p m r h1 (by omega)
      have a3 := ih m q r h1 (by omega)
      have a4 := g3 p m
      have a5 := g3 m r
      have a6 := g3 r m
      have a7 := g3 m q
      omega
theorem fwN_le {E : Int → Int → Int} : ∀ (m : Nat) (p q : Int), fwN E m p q ≤ E p q
  | 0, p, q => Int.le_refl _
  | m + 1, p, q => by
    have := fwN_le (E := E) m p q
    show min _ _ ≤ _
    omega
theorem fwN_pre {E : Int → Int → Int} {n : Int} (G : gdF E n) : ∀ (m : Nat) (p q : Int), p ≠ q → fwN E m p q < 100000 → ∃ r, r ≠ q ∧ E r q < 100000 ∧ fwN E m p r + E r q ≤ fwN E m p q
  | 0, p, q, hn, h => ⟨p, hn, h, by have := G.1 p; show E p p + _ ≤ E p q; omega⟩
  | m + 1, p, q, hn, h => by
    obtain ⟨g1, g2, g3, g4⟩ := fwN_gd G m
    have e : ∀ p q, fwN E (m + 1) p q = min (fwN E m p q) (fwN E m p m + fwN E m m q) := fun p q => rfl
    rw [e] at h
    by_cases c : fwN E m p q ≤ fwN E m p m + fwN E m m q
    · obtain ⟨r, r1, r2, r3⟩ := fwN_pre G m p q hn (by omega)
      refine ⟨r, r1, r2, ?_⟩
      rw [e, e]
      omega
    · have a1 := g3 p m
      have hmq : (m : Int) ≠ q := by
        intro x
        rw [← x] at c
        have := g1 (m : Int)
        omega
      obtain ⟨r, r1, r2, r3⟩ := fwN_pre G m m q hmq (by omega)
      refine ⟨r, r1, r2, ?_⟩
      rw [e, e]
      omega
def u01 (x d : Int) : Int := if x < d then 1 else 0
theorem u01_rg (x d : Int) : 0 ≤ u01 x d ∧ u01 x d ≤ 1 := by unfold u01; split <;> omega
theorem u01_mo {x c d : Int} (h : c ≤ d) : u01 x c ≤ u01 x d := by unfold u01; split <;> split <;> omega
theorem u01_self (x : Int) : u01 x x = 0 := if_neg (by omega)
theorem u01_yes {x d : Int} (h : x < d) : u01 x d = 1 := if_pos h
def cl6 (f : Int → Int) (d : Int) : Int := u01 (f 0) d + u01 (f 1) d + u01 (f 2) d + u01 (f 3) d + u01 (f 4) d + u01 (f 5) d
theorem cl6_0 (f : Int → Int) (d : Int) : 0 ≤ cl6 f d := by
  have a0 := u01_rg (f 0) d
  have a1 := u01_rg (f 1) d
  have a2 := u01_rg (f 2) d
  have a3 := u01_rg (f 3) d
  have a4 := u01_rg (f 4) d
  have a5 := u01_rg (f 5) d
  unfold cl6; omega
theorem cl6_lt {f : Int → Int} {r d : Int} (h1 : 0 ≤ r) (h2 : r < 6) (h : f r < d) : cl6 f (f r) + 1 ≤ cl6 f d := by
  have e : r = 0 ∨ r = 1 ∨ r = 2 ∨ r = 3 ∨ r = 4 ∨ r = 5 := by omega
  have a0 := u01_mo (x := f 0) (Int.le_of_lt h)
  have a1 := u01_mo (x := f 1) (Int.le_of_lt h)
  have a2 := u01_mo (x := f 2) (Int.le_of_lt h)
  have a3 := u01_mo (x := f 3) (Int.le_of_lt h)
  have a4 := u01_mo (x := f 4) (Int.le_of_lt h)
  have a5 := u01_mo (x := f 5) (Int.le_of_lt h)
  have b := u01_self (f r)
  have c := u01_yes h
  unfold cl6
  rcases e with rfl | rfl | rfl | rfl | rfl | rfl <;> omega
theorem cl6_le {f : Int → Int} {q : Int} (h1 : 0 ≤ q) (h2 : q < 6) : cl6 f (f q) ≤ 5 := by
  have e : q = 0 ∨ q = 1 ∨ q = 2 ∨ q = 3 ∨ q = 4 ∨ q = 5 := by omega
  have a0 := u01_rg (f 0) (f q)
  have a1 := u01_rg (f 1) (f q)
  have a2 := u01_rg (f 2) (f q)
  have a3 := u01_rg (f 3) (f q)
  have a4 := u01_rg (f 4) (f q)
  have a5 := u01_rg (f 5) (f q)
  have b := u01_self (f q)
  unfold cl6
  rcases e with rfl | rfl | rfl | rfl | rfl | rfl <;> omega
theorem far_90 {a : Wd} {g : Int} (O : OkL a) {p q : Int} (hp : 0 ≤ p ∧ p < a.n 0) (hq : 0 ≤ q ∧ q < a.n 0) (h : far a g p q < 100000) : far a g p q ≤ 90 := by
  have hi := ini_gd g O (a.n 1).toNat (by have := O.2.1; omega)
  have hO := O.1
  have key : ∀ (d : Nat) (q : Int), 0 ≤ q → q < a.n 0 → far a g p q < 100000 → (far a g p q).toNat ≤ d → far a g p q ≤ 18 * cl6 (far a g p) (far a g p q) := by
    intro d
    induction d with
    | zero =>
      intro q b1 b2 b3 b4
      have := (far_gd g O).2.2.1 p q
      have := cl6_0 (far a g p) (far a g p q)
      omega
    | succ d ih =>
      intro q b1 b2 b3 b4
      have g3 := (far_gd g O).2.2.1
      have c0 := cl6_0 (far a g p) (far a g p q)
      by_cases e : p = q
      · have := (far_gd g O).1 p
        rw [← e] at c0 ⊢
        omega
      · obtain ⟨r, r1, r2, r3⟩ := fwN_pre hi.1 (a.n 0).toNat p q e b3
        have w := hi.2 r q r1 r2
        have hr : 0 ≤ r ∧ r < a.n 0 := by
          by_cases c : 0 ≤ r ∧ r < a.n 0
          · exact c
          · have := hi.1.2.2.2 r q (by omega) r1; omega
        have t := fwN_tri hi.1 (a.n 0).toNat p q r hr.1 (by omega)
        have l := fwN_le (E := ini a g (a.n 1).toNat) (a.n 0).toNat r q
        have r3' : far a g p r + ini a g (a.n 1).toNat r q ≤ far a g p q := r3
        have t' : far a g p q ≤ far a g p r + far a g r q := t
        have l' : far a g r q ≤ ini a g (a.n 1).toNat r q := l
        have z1 := g3 p r
        have i := ih r hr.1 hr.2 (by omega) (by omega)
        have k := cl6_lt (f := far a g p) (r := r) (d := far a g p q) hr.1 (by omega) (by omega)
        omega
  have k1 := key (far a g p q).toNat q hq.1 hq.2 h (Nat.le_refl _)
  have k2 := cl6_le (f := far a g p) hq.1 (by omega : q < 6)
  omega
theorem fwN_sm {E : Int → Int → Int} {n : Int} (G : gdF E n) (hE : ∀ p q, E p q < 100000 → E p q ≤ 18) : ∀ (m : Nat) (p q : Int), fwN E m p q < 100000 → fwN E m p q ≤ 18 * 2 ^ m
  | 0, p, q, h => by have := hE p q h; show E p q ≤ _; omega
  | m + 1, p, q, h => by
    have ih := fwN_sm G hE m
    obtain ⟨g1, g2, g3, g4⟩ := fwN_gd G m
    have e : fwN E (m + 1) p q = min (fwN E m p q) (fwN E m p m + fwN E m m q) := rfl
    have e2 : (18 : Int) * 2 ^ (m + 1) = 18 * 2 ^ m + 18 * 2 ^ m := by rw [Int.pow_succ]; omega
    have a1 := ih p q
    have a2 := ih p m
    have a3 := ih m q
    have b1 := g3 p m
    have b2 := g3 m q
    have b3 : (0 : Int) ≤ 18 * 2 ^ m := Int.mul_nonneg (by omega) (Int.pow_nonneg (by omega))
    rw [e2]
    rw [e] at h ⊢
    omega
theorem ini_sm {a : Wd} (g : Int) (O : OkL a) (l : Nat) (hl : (l : Int) ≤ a.n 1) (p q : Int) (h : ini a g l p q < 100000) : ini a g l p q ≤ 18 := by
  have G := ini_gd g O l hl
  by_cases e : p = q
  · have := G.1.1 p; subst e; omega
  · exact (G.2 p q e h).2
theorem pow6 {m : Int} (h0 : 0 ≤ m) (h1 : m < 6) : (18 : Int) * 2 ^ m.toNat ≤ 1000 := by
  have e : m = 0 ∨ m = 1 ∨ m = 2 ∨ m = 3 ∨ m = 4 ∨ m = 5 := by omega
  rcases e with rfl | rfl | rfl | rfl | rfl | rfl <;> decide
