/-! ===== the reference's reader: steps ===== -/
/-- a token at hand, and no fault's place is told -/
def TcM (h : PH) (T : Int → Int) (L p : Int) : Prop := (gI h 0 36 = z (tE T L p) ∧ gI h 0 41 = z (-1)) ∧ gI h 0 37 = z (tS T L p) ∧ gI h 0 38 = z (mk (tK T L p)) ∧ ∃ v, gI h 0 39 = z v ∧ vr (tK T L p) v (tV T L p)
def msF (h g : PH) : Prop := ∀ c k, ¬ (c = 0 ∧ 36 ≤ k ∧ k ≤ 41) → At h g c k
theorem msF.rf (h : PH) : msF h h := fun c k _ => At.rf h c k
theorem msF.tr {h g f : PH} (a : msF h g) (b : msF g f) : msF h f := fun c k hc => (a c k hc).tr (b c k hc)
/-- a fault is told, and it is the text's -/
def FtF {α : Type} (h : PH) (r : (Int × Int) ⊕ α) : Prop := ∃ k u, (1 ≤ k ∧ k ≤ 5) ∧ gI h 0 40 = z k ∧ gI h 0 41 = z u ∧ r = .inl (k, u)
/-- a fault, or a token is at hand and P tells what is left -/
def Hm {α : Type} (h : PH) (T : Int → Int) (L : Int) (r : (Int × Int) ⊕ α) (P : Int → (Int × Int) ⊕ α) : Prop := FtF h r ∨ (gI h 0 40 = z 0 ∧ ∃ p, (0 ≤ p ∧ p ≤ L) ∧ TcM h T L p ∧ r = P p)
section MST
variable {α : Type} {h g : PH} {T : Int → Int} {L p : Int} {r : (Int × Int) ⊕ α} {P : Int → (Int × Int) ⊕ α}
theorem FtF.at' (F : FtF h r) (e : ∀ k, 40 ≤ k → k ≤ 41 → At h g 0 k) : FtF g r := by
  obtain ⟨k, u, a, b, c, d⟩ := F
  exact ⟨k, u, a, by rw [(e 40 (by omega) (by omega)).1]; exact b, by rw [(e 41 (by omega) (by omega)).1]; exact c, d⟩
theorem TcM.at' (t : TcM h T L p) (e : ∀ k, 36 ≤ k → k ≤ 41 → At h g 0 k) : TcM g T L p := by
  obtain ⟨a1, a2, a3, m, a4, a5⟩ := t
  exact ⟨⟨by rw [(e 36 (by omega) (by omega)).1]; exact a1.1, by rw [(e 41 (by omega) (by omega)).1]; exact a1.2⟩, by rw [(e 37 (by omega) (by omega)).1]; exact a2, by rw [(e 38 (by omega) (by omega)).1]; exact a3, m, by rw [(e 39 (by omega) (by omega)).1]; exact a4, a5⟩
theorem Hm.at' (H : Hm h T L r P) (e : ∀ k, 36 ≤ k → k ≤ 41 → At h g 0 k) : Hm g T L r P := by
  rcases H with F | ⟨a, p, b, t, d⟩
  · exact Or.inl (F.at' (fun k k0 k1 => e k (by omega) k1))
  · exact Or.inr ⟨by rw [(e 40 (by omega) (by omega)).1]; exact a, p, b, t.at' (fun k k0 k1 => e k k0 (by omega)), d⟩
theorem ScM.ms (S : ScM h T L) (f : msF h g) : ScM g T L := S.at' (fun c k hc => f c k (by omega))
theorem FtF.ne (F : FtF h r) : ¬ gI h 0 40 = 0 := by
  obtain ⟨k, u, a, b, -⟩ := F
  rw [b]
  exact z_ne (b := 0) (by omega) (by omega) (by decide) (by decide) (by omega)
theorem m_wrongN {Q : PH → Prop} {k : Int} {x : Int32} (e40 : gI h 0 40 = z 0) (t : TcM h T L p) (ex : x = z k) (hk : 1 ≤ k ∧ k ≤ 5) (er : r = .inl (k, tS T L p)) (hq : ∀ g, msF h g → FtF g r → Q g) : w_X10_wrong x h Q := by
  subst ex
  unfold w_X10_wrong
  rw [e40, if_pos (show z 0 = 0 from rfl)]
  rintro _ rfl _ rfl
  rw [gI_out (by omega), t.2.1]
  exact hq _ (fun c q hc => ((At.rf h c q).sI (by omega)).sI (by omega)) ⟨k, tS T L p, hk, by rw [gI_out (by omega), gI_in rfl rfl], gI_in rfl rfl, er⟩
theorem m_wrongY {Q : PH → Prop} {x : Int32} (F : FtF h r) (hq : Q h) : w_X10_wrong x h Q := by
  unfold w_X10_wrong
  rw [if_neg F.ne]
  exact hq
theorem m_tok {Q : PH → Prop} (S : ScM h T L) (hp : 0 ≤ p ∧ p ≤ L) (t : TcM h T L p) (hq : ∀ g, (∀ c q, ¬ (c = 0 ∧ 36 ≤ q ∧ q ≤ 39) → At h g c q) → (0 ≤ tE T L p ∧ tE T L p ≤ L) → TcM g T L (tE T L p) → Q g) : w_X10_token h Q := by
  have n := nx0 (T := T) S.2.2.2 hp
  exact m_token S n t.1.1 (fun g f t' => hq g f n ⟨⟨t'.1, by rw [(f 0 41 (by omega)).1]; exact t.1.2⟩, t'.2⟩)
theorem m_goOn {Q : PH → Prop} (S : ScM h T L) (H : Hm h T L r (fun p => P (tE T L p))) (hq : ∀ g, msF h g → Hm g T L r P → Q g) : w_X10_goOn h Q := by
  unfold w_X10_goOn
  rcases H with F | ⟨e, p, hp, t, er⟩
  · rw [if_neg F.ne]
    exact hq h (msF.rf h) (Or.inl F)
  · rw [e, if_pos (show z 0 = 0 from rfl)]
    refine m_tok S hp t (fun g f n t' => ?_)
    exact hq g (fun c q hc => f c q (by omega)) (Or.inr ⟨by rw [(f 0 40 (by omega)).1]; exact e, _, n, t', er⟩)
theorem mk_iff {k : Int} (hk : 0 ≤ k ∧ k ≤ 5) : (mk k = 0 ↔ k = 4) ∧ (mk k = 1 ↔ k = 3) ∧ (mk k = 2 ↔ k = 2) ∧ (mk k = 3 ↔ k = 5) ∧ (mk k = 4 ↔ k = 0) ∧ (0 ≤ mk k ∧ mk k ≤ 5) := by
  have : k = 0 ∨ k = 1 ∨ k = 2 ∨ k = 3 ∨ k = 4 ∨ k = 5 := by omega
  rcases this with rfl | rfl | rfl | rfl | rfl | rfl <;> decide
end MST
section MST2
variable {h g : PH} {T : Int → Int} {L p : Int} {r : PR}
theorem m_numeral {Q : Int32 → PH → Prop} {lo hi : Int} {x1 x2 : Int32} {K : Int → Int → PR} (S : ScM h T L) (e1 : x1 = z lo) (e2 : x2 = z hi) (hl : 0 ≤ lo ∧ lo ≤ hi ∧ hi ≤ 99999) (H : Hm h T L r (pNum T L lo hi (fun v p => K v (tE T L p)))) (hq : ∀ g v, msF h g → lo ≤ v → v ≤ hi → Hm g T L r (K v) → Q (z v) g) : w_X10_numeral x1 x2 h Q := by
  subst e1 e2
  have n46F : ∀ g, msF h g → FtF g r → w_X10_numeral_46 Q (z lo) g := fun g f F => by
    unfold w_X10_numeral_46
    rw [if_neg F.ne]
    exact hq g lo f (Int.le_refl _) hl.2.1 (Or.inl F)
  unfold w_X10_numeral
  rcases H with F | ⟨e, p, hp, t, er⟩
  · rw [if_neg F.ne]
    exact hq h lo (msF.rf h) (Int.le_refl _) hl.2.1 (Or.inl F)
  · have tr := tok_rg (T := T) S.2.2.2 hp
    have mi := mk_iff tr.2.2.2.2.1
    obtain ⟨u1, u2, u3, m, u4, u5⟩ := id t
    unfold pNum pF at er
    rw [e, if_pos (show z 0 = 0 from rfl), u3]
    by_cases k2 : tK T L p = 2
    · rw [if_pos (by rw [mi.2.2.1.mpr k2]; rfl), u4]
      rw [if_pos k2] at er
      have em := u5.1 k2
      have tv := tr.2.2.2.2.2.1 k2
      have bad : ¬ (lo ≤ tV T L p ∧ tV T L p ≤ hi) → w_X10_numeral_41 Q (z lo) h := fun c => by
        rw [if_neg c] at er
        unfold w_X10_numeral_41
        exact m_wrongN (k := 2) e t rfl (by omega) er (fun g f F => n46F g f F)
      by_cases c1 : m < lo
      · rw [if_pos (by rw [z_lt (by omega) (by omega) (by omega) (by omega)]; omega)]; exact bad (by omega)
      · rw [if_neg (by rw [z_lt (by omega) (by omega) (by omega) (by omega)]; omega)]
        by_cases c2 : m ≤ hi
        · rw [if_pos (by rw [z_le (by omega) (by omega) (by omega) (by omega)]; omega)]
          have nt : m = tV T L p := by omega
          rw [if_pos (by omega), ← nt] at er
          unfold w_X10_numeral_46
          rw [e, if_pos (show z 0 = 0 from rfl)]
          rintro _ rfl
          refine m_tok S hp t (fun g f n t' => ?_)
          rw [u4]
          exact hq g m (fun c q hc => f c q (by omega)) (by omega) c2 (Or.inr ⟨by rw [(f 0 40 (by omega)).1]; exact e, _, n, t', er⟩)
        · rw [if_neg (by rw [z_le (by omega) (by omega) (by omega) (by omega)]; omega)]; exact bad (by omega)
    · rw [if_neg (show ¬ z (mk (tK T L p)) = 2 from z_ne (by omega) (by omega) (by decide) (by decide) (fun x => k2 (mi.2.2.1.mp x)))]
      rw [if_neg k2] at er
      exact m_wrongN (k := 1) e t rfl (by omega) er (fun g f F => n46F g f F)
/-- names told so far -/
def NmM (h : PH) (c : Nat) (fr : Int) (a : Wd) (q : Nat) : Prop := (0 ≤ fr ∧ fr + a.n q ≤ (alM c : Int)) ∧ alM c ≤ 1000 ∧ (0 ≤ a.n q ∧ a.n q ≤ 6) ∧ ∀ k, 0 ≤ k → k < a.n q → gI h c (fr + k).toNat = z (a.f q 0 k) ∧ -2147483648 ≤ a.f q 0 k ∧ a.f q 0 k < 2147483648
theorem NmM.ms {c q : Nat} {fr : Int} {a : Wd} (N : NmM h c fr a q) (hc : c ≠ 0) (f : msF h g) : NmM g c fr a q := ⟨N.1, N.2.1, N.2.2.1, fun k k0 k1 => by rw [(f c _ (by omega)).1]; exact N.2.2.2 k k0 k1⟩
theorem m_fnd {Q : Int32 → PH → Prop} {c q : Nat} {fr n : Int} {a : Wd} {x1 x2 x3 : Int32} (N : NmM h c fr a q) (e1 : x1 = z fr) (e2 : x2 = z (a.n q)) (e3 : x3 = z n) (hn : 0 ≤ n ∧ n < 1073741824) (hq : Q (z (fnd a q n)) h) : w_X10_found c x1 x2 x3 h Q := m_found (f := a.f q 0) e1 e2 e3 (by omega) N.2.2.1.1 N.1 N.2.1 N.2.2.2 hq
theorem m_fresh {Q : Int32 → PH → Prop} {c q : Nat} {fr : Int} {a : Wd} {x2 x3 : Int32} {K : Int → Int → PR} (S : ScM h T L) (hc : c ≠ 0) (N : NmM h c fr a q) (e1 : x2 = z fr) (e2 : x3 = z (a.n q)) (H : Hm h T L r (pNew T L a q (fun v p => K v (tE T L p)))) (hq : ∀ g v, msF h g → Hm g T L r (K v) → Q (z v) g) : w_X10_fresh c x2 x3 h Q := by
  have n44F : ∀ g, msF h g → FtF g r → w_X10_fresh_44 c Q g := fun g f F => by
    unfold w_X10_fresh_44
    rw [if_neg F.ne]
    exact hq g 0 f (Or.inl F)
  unfold w_X10_fresh
  rcases H with F | ⟨e, p, hp, t, er⟩
  · rw [if_neg F.ne]
    exact hq h 0 (msF.rf h) (Or.inl F)
  · have tr := tok_rg (T := T) S.2.2.2 hp
    have mi := mk_iff tr.2.2.2.2.1
    obtain ⟨u1, u2, u3, m, u4, u5⟩ := id t
    unfold pNew pF at er
    rw [e, if_pos (show z 0 = 0 from rfl), u3]
    by_cases k3 : tK T L p = 3
    · rw [if_pos (by rw [mi.2.1.mpr k3]; rfl), u4]
      rw [if_pos k3] at er
      have em : m = tV T L p := u5.2 (by omega)
      have tv := tr.2.2.2.2.2.2.1 k3
      rw [← em] at tv er
      refine m_fnd N e1 e2 rfl tv ?_
      have fr := fnd_rg (n := m) N.2.2.1.1
      have n6 := N.2.2.1
      by_cases c0 : fnd a q m = -1
      · rw [if_pos (by rw [c0]; rfl)]
        rw [if_pos c0] at er
        unfold w_X10_fresh_44
        rw [e, if_pos (show z 0 = 0 from rfl)]
        rintro _ rfl
        refine m_tok S hp t (fun g f n t' => ?_)
        rw [u4]
        exact hq g m (fun c q hc => f c q (by omega)) (Or.inr ⟨by rw [(f 0 40 (by omega)).1]; exact e, _, n, t', er⟩)
      · rw [if_neg (show ¬ z (fnd a q m) = -1 from z_ne (by omega) (by omega) (by decide) (by decide) c0)]
        rw [if_neg c0] at er
        exact m_wrongN (k := 3) e t rfl (by omega) er (fun g f F => n44F g f F)
    · rw [if_neg (show ¬ z (mk (tK T L p)) = 1 from z_ne (by omega) (by omega) (by decide) (by decide) (fun x => k3 (mi.2.1.mp x)))]
      rw [if_neg k3] at er
      exact m_wrongN (k := 1) e t rfl (by omega) er (fun g f F => n44F g f F)
/-- the index of a name at hand; 0 with a fault -/
theorem m_atHand {Q : Int32 → PH → Prop} {c q : Nat} {fr : Int} {a : Wd} {x2 x3 : Int32} {K : Int → Int → PR} (S : ScM h T L) (hc : c ≠ 0) (N : NmM h c fr a q) (e1 : x2 = z fr) (e2 : x3 = z (a.n q)) (H : Hm h T L r (pTold T L a q K)) (hq : ∀ g i, msF h g → (0 ≤ i ∧ (i = 0 ∨ i < a.n q)) → Hm g T L r (K i) → (gI g 0 40 = z 0 → i < a.n q) → Q (z i) g) : w_X10_atHand c x2 x3 h Q := by
  have n44F : ∀ g, msF h g → FtF g r → w_X10_atHand_44 c Q x2 x3 g := fun g f F => by
    unfold w_X10_atHand_44
    rw [if_neg F.ne]
    exact hq g 0 f (by omega) (Or.inl F) (fun x => absurd x F.ne)
  unfold w_X10_atHand
  rcases H with F | ⟨e, p, hp, t, er⟩
  · rw [if_neg F.ne]
    exact hq h 0 (msF.rf h) (by omega) (Or.inl F) (fun x => absurd x F.ne)
  · have tr := tok_rg (T := T) S.2.2.2 hp
    have mi := mk_iff tr.2.2.2.2.1
    obtain ⟨u1, u2, u3, m, u4, u5⟩ := id t
    unfold pTold pF at er
    rw [e, if_pos (show z 0 = 0 from rfl), u3]
    by_cases k3 : tK T L p = 3
    · rw [if_pos (by rw [mi.2.1.mpr k3]; rfl), u4]
      rw [if_pos k3] at er
      have em : m = tV T L p := u5.2 (by omega)
      have tv := tr.2.2.2.2.2.2.1 k3
      rw [← em] at tv er
      refine m_fnd N e1 e2 rfl tv ?_
      have fr := fnd_rg (n := m) N.2.2.1.1
      have n6 := N.2.2.1
      by_cases c0 : fnd a q m = -1
      · rw [if_pos (by rw [c0]; rfl)]
        rw [if_pos c0] at er
        exact m_wrongN (k := 4) e t rfl (by omega) er (fun g f F => n44F g f F)
      · rw [if_neg (show ¬ z (fnd a q m) = -1 from z_ne (by omega) (by omega) (by decide) (by decide) c0)]
        rw [if_neg c0] at er
        unfold w_X10_atHand_44
        rw [e, if_pos (show z 0 = 0 from rfl), u4]
        refine m_fnd N e1 e2 rfl tv ?_
        exact hq h _ (msF.rf h) (by omega) (Or.inr ⟨e, p, hp, t, er⟩) (fun _ => fr.2)
    · rw [if_neg (show ¬ z (mk (tK T L p)) = 1 from z_ne (by omega) (by omega) (by decide) (by decide) (fun x => k3 (mi.2.1.mp x)))]
      rw [if_neg k3] at er
      exact m_wrongN (k := 1) e t rfl (by omega) er (fun g f F => n44F g f F)
theorem m_isSgn {Q : Int32 → PH → Prop} {n : Int} {x : Int32} (e : gI h 0 40 = z 0) (t : TcM h T L p) (hT : ∀ k, 0 ≤ T k ∧ T k < 256) (hp : 0 ≤ p ∧ p ≤ L) (ex : x = z n) (hn : 0 ≤ n ∧ n < 300) (hq : Q (z (bI (isS T L p n))) h) : w_X10_isSign x h Q := by
  subst ex
  obtain ⟨t2, t3, t4, m, t5, t6⟩ := t
  have tr := tok_rg (T := T) hT hp
  have mi := mk_iff tr.2.2.2.2.1
  unfold isS at hq
  unfold w_X10_isSign
  rw [e, if_pos (show z 0 = 0 from rfl), t4, t5]
  by_cases k5 : tK T L p = 5
  · rw [if_pos (by rw [mi.2.2.2.1.mpr k5]; rfl)]
    have em : m = tV T L p := t6.2 (by omega)
    have tv := tr.2.2.2.2.2.2.2.2 k5
    rw [decide_eq_true k5, ← em] at hq
    by_cases c : m = n
    · rw [if_pos (by rw [c])]
      rw [decide_eq_true c] at hq
      exact hq
    · rw [if_neg (z_ne (by omega) (by omega) (by omega) (by omega) c)]
      rw [decide_eq_false c] at hq
      exact hq
  · rw [if_neg (show ¬ z (mk (tK T L p)) = 3 from z_ne (by omega) (by omega) (by decide) (by decide) (fun x => k5 (mi.2.2.2.1.mp x)))]
    rw [decide_eq_false k5] at hq
    exact hq
theorem m_isWrd {Q : Int32 → PH → Prop} {n : Int} {x : Int32} (e : gI h 0 40 = z 0) (t : TcM h T L p) (hT : ∀ k, 0 ≤ T k ∧ T k < 256) (hp : 0 ≤ p ∧ p ≤ L) (ex : x = z n) (hn : 0 ≤ n ∧ n < 300) (hq : Q (z (bI (isWd T L p n))) h) : w_X10_isWord x h Q := by
  subst ex
  obtain ⟨t2, t3, t4, m, t5, t6⟩ := t
  have tr := tok_rg (T := T) hT hp
  have mi := mk_iff tr.2.2.2.2.1
  unfold isWd at hq
  unfold w_X10_isWord
  rw [e, if_pos (show z 0 = 0 from rfl), t4, t5]
  by_cases k5 : tK T L p = 4
  · rw [if_pos (by rw [mi.1.mpr k5]; rfl)]
    have em : m = tV T L p := t6.2 (by omega)
    have tv := tr.2.2.2.2.2.2.2.1 k5
    rw [decide_eq_true k5, ← em] at hq
    by_cases c : m = n
    · rw [if_pos (by rw [c])]
      rw [decide_eq_true c] at hq
      exact hq
    · rw [if_neg (z_ne (by omega) (by omega) (by omega) (by omega) c)]
      rw [decide_eq_false c] at hq
      exact hq
  · rw [if_neg (show ¬ z (mk (tK T L p)) = 0 from z_ne (by omega) (by omega) (by decide) (by decide) (fun x => k5 (mi.1.mp x)))]
    rw [decide_eq_false k5] at hq
    exact hq
theorem m_isSgnF {α : Type} {Q : Int32 → PH → Prop} {x : Int32} {r' : (Int × Int) ⊕ α} (F : FtF h r') (hq : Q 0 h) : w_X10_isSign x h Q := by
  unfold w_X10_isSign
  rw [if_neg F.ne]
  exact hq
/-- the end of a line -/
theorem m_671 {Q : PH → Prop} {s' : PS} (S : ScM h T L) (H : Hm h T L r (pEnd T L s')) (hq : ∀ g, (∀ c k, ¬ (c = 0 ∧ (k = 34 ∨ (36 ≤ k ∧ k ≤ 41))) → At h g c k) → (FtF g r ∨ (gI g 0 40 = z 0 ∧ ∃ q, (0 ≤ q ∧ q ≤ L) ∧ TcM g T L q ∧ r = .inr (s', q) ∧ gI g 0 34 = gI h 0 34 + 1)) → Q g) : w_X10_line_671 Q h := by
  unfold w_X10_line_671
  rcases H with F | ⟨e, p, hp, t, er⟩
  · rw [if_neg F.ne]
    exact hq h (fun c k _ => At.rf h c k) (Or.inl F)
  · unfold pEnd pF at er
    rw [e, if_pos (show z 0 = 0 from rfl)]
    refine m_isSgn e t S.2.2.2 hp (n := 59) rfl (by omega) ?_
    cases c : isS T L p 59 with
    | true =>
      rw [if_neg (show ¬ z (bI true) = 0 by decide)]
      rw [if_pos (isS_iff.mp c)] at er
      refine m_tok S hp t (fun g f n t' => ?_)
      unfold w_X10_line_700
      rintro _ rfl
      refine hq _ (fun c k hc => (f c k (by omega)).sI (by omega)) (Or.inr ⟨by rw [gI_out (by omega), (f 0 40 (by omega)).1]; exact e, _, n, t'.at' (fun k k0 k1 => (At.rf g 0 k).sI (by omega)), er, ?_⟩)
      rw [gI_in rfl rfl, (f 0 34 (by omega)).1]
    | false =>
      rw [if_pos (show z (bI false) = 0 from rfl)]
      have c' : ¬ (tK T L p = 5 ∧ tV T L p = 59) := fun x => by
        rw [isS_iff.mpr x] at c
        exact absurd c (by decide)
      rw [if_neg c'] at er
      refine m_wrongN (k := 1) e t rfl (by omega) er (fun g f F => ?_)
      unfold w_X10_line_700
      rintro _ rfl
      exact hq _ (fun c k hc => (f c k (by omega)).sI (by omega)) (Or.inl (F.at' (fun k k0 k1 => (At.rf g 0 k).sI (by omega))))
end MST2
