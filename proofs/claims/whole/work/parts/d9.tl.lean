/-! ===== the world that a text tells, in bounds ===== -/
def OkRw (n0 n2 : Int) (r : Nat) (v : Nat → Int) : Prop :=
  if r = 0 then (0 ≤ v 0 ∧ v 0 < 1073741824) ∧ (0 ≤ v 1 ∧ v 1 ≤ 20)
  else if r = 1 then (0 ≤ v 0 ∧ v 0 < n0) ∧ (0 ≤ v 1 ∧ v 1 < n0) ∧ v 0 ≠ v 1 ∧ (1 ≤ v 2 ∧ v 2 ≤ 9) ∧ v 3 = 0
  else if r = 2 then (0 ≤ v 0 ∧ v 0 < 1073741824) ∧ (0 ≤ v 1 ∧ v 1 ≤ 999) ∧ (-1 ≤ v 2 ∧ v 2 < n2)
  else if r = 3 then (0 ≤ v 0 ∧ v 0 < n0) ∧ (0 ≤ v 1 ∧ v 1 < n2) ∧ (0 ≤ v 2 ∧ v 2 ≤ v 3 ∧ v 3 ≤ 47) ∧ (1 ≤ v 4 ∧ v 4 ≤ 20) ∧ v 5 = 0
  else if r = 6 then (0 ≤ v 0 ∧ v 0 < n2) ∧ (0 ≤ v 1 ∧ v 1 < n0) ∧ (1 ≤ v 2 ∧ v 2 ≤ 12) ∧ (1 ≤ v 3 ∧ v 3 ≤ 20)
  else (0 ≤ v 0 ∧ v 0 < n2) ∧ (0 ≤ v 1 ∧ v 1 < n0) ∧ (0 ≤ v 2 ∧ v 2 ≤ v 3 ∧ v 3 ≤ 47)
def capT : Nat → Int
  | 0 => 6
  | 1 => 9
  | 2 => 4
  | 3 => 8
  | 4 => 8
  | 5 => 6
  | _ => 4
def OkTl (a : Wd) : Prop := (∀ r, r < 7 → (0 ≤ a.n r ∧ a.n r ≤ capT r) ∧ ∀ k, 0 ≤ k → k < a.n r → OkRw (a.n 0) (a.n 2) r (fun c => a.f r c k)) ∧ (∀ l m, 0 ≤ l → l < m → m < a.n 1 → ¬ ((a.f 1 0 l = a.f 1 0 m ∧ a.f 1 1 l = a.f 1 1 m) ∨ (a.f 1 0 l = a.f 1 1 m ∧ a.f 1 1 l = a.f 1 0 m))) ∧ (a.f 7 0 0 = 5 ∧ a.f 7 1 0 = 1 ∧ a.f 7 2 0 = 0 ∧ a.n 9 = 0)
theorem OkRw.mono {n0 n2 m0 m2 : Int} {r : Nat} {v u : Nat → Int} (h : OkRw n0 n2 r v) (h0 : n0 ≤ m0) (h2 : n2 ≤ m2) (e : ∀ c, u c = v c) : OkRw m0 m2 r u := by
  unfold OkRw at *
  rw [e 0, e 1, e 2, e 3, e 4, e 5]
  repeat' split
  all_goals (repeat' (split at h))
  all_goals omega
theorem OkTl.add {a : Wd} {r : Nat} {f : Nat → Int} (O : OkTl a) (hr : r < 7) (hn : a.n r < capT r) (hw : OkRw (if r = 0 then a.n 0 + 1 else a.n 0) (if r = 2 then a.n 2 + 1 else a.n 2) r f) (hl : r = 1 → ∀ l, 0 ≤ l → l < a.n 1 → ¬ ((a.f 1 0 l = f 0 ∧ a.f 1 1 l = f 1) ∨ (a.f 1 0 l = f 1 ∧ a.f 1 1 l = f 0))) : OkTl (adR a r f) := by
  obtain ⟨o1, o2, o3⟩ := O
  have e0 : (adR a r f).n 0 = if r = 0 then a.n 0 + 1 else a.n 0 := by
    by_cases c : r = 0
    · subst c; rw [if_pos rfl, adR_n]
    · rw [if_neg c, adR_n' (fun x => c x.symm)]
  have e2 : (adR a r f).n 2 = if r = 2 then a.n 2 + 1 else a.n 2 := by
    by_cases c : r = 2
    · subst c; rw [if_pos rfl, adR_n]
    · rw [if_neg c, adR_n' (fun x => c x.symm)]
  have g0 : a.n 0 ≤ (adR a r f).n 0 := by rw [e0]; split <;> omega
  have g2 : a.n 2 ≤ (adR a r f).n 2 := by rw [e2]; split <;> omega
  refine ⟨fun r' hr' => ⟨?_, fun k k0 k1 => ?_⟩, fun l m l0 l1 l2 => ?_, ?_⟩
  · by_cases c : r' = r
    · subst c
      have := (o1 r' hr').1
      rw [adR_n]
      omega
    · rw [adR_n' c]; exact (o1 r' hr').1
  · by_cases c : r' = r
    · subst c
      rw [adR_n] at k1
      by_cases ek : k = a.n r'
      · subst ek
        rw [e0, e2]
        exact hw.mono (Int.le_refl _) (Int.le_refl _) (fun c => adR_in a r' f c)
      · exact ((o1 r' hr').2 k k0 (by omega)).mono g0 g2 (fun c => adR_out (fun x => ek x.2))
    · rw [adR_n' c] at k1
      exact ((o1 r' hr').2 k k0 k1).mono g0 g2 (fun c' => adR_out (fun x => c x.1))
  · by_cases c : r = 1
    · subst c
      rw [adR_n] at l2
      rw [adR_out (r' := 1) (c := 0) (k := l) (by omega), adR_out (r' := 1) (c := 1) (k := l) (by omega)]
      by_cases em : m = a.n 1
      · subst em
        rw [adR_in, adR_in]
        exact hl rfl l l0 l1
      · rw [adR_out (r' := 1) (c := 0) (k := m) (by omega), adR_out (r' := 1) (c := 1) (k := m) (by omega)]
        exact o2 l m l0 l1 (by omega)
    · rw [adR_n' (fun x => c x.symm)] at l2
      rw [adR_out (r' := 1) (c := 0) (k := l) (by omega), adR_out (r' := 1) (c := 1) (k := l) (by omega), adR_out (r' := 1) (c := 0) (k := m) (by omega), adR_out (r' := 1) (c := 1) (k := m) (by omega)]
      exact o2 l m l0 l1 l2
  · rw [adR_out (r' := 7) (by omega), adR_out (r' := 7) (by omega), adR_out (r' := 7) (by omega), adR_n' (r' := 9) (by omega)]
    exact o3
theorem OkTl.up {a : Wd} {r c : Nat} {f : Int → Int} (O : OkTl a) (hr : r = 0 ∨ r = 2) (hw : ∀ k, 0 ≤ k → k < a.n r → OkRw (a.n 0) (a.n 2) r (fun c' => if c' = c then f k else a.f r c' k)) : OkTl (upF a r c f) := by
  obtain ⟨o1, o2, o3⟩ := O
  refine ⟨fun r' hr' => ⟨(o1 r' hr').1, fun k k0 k1 => ?_⟩, fun l m l0 l1 l2 => ?_, ?_⟩
  · by_cases e : r' = r
    · subst e
      refine (hw k k0 k1).mono (Int.le_refl _) (Int.le_refl _) (fun c' => ?_)
      by_cases e2 : c' = c
      · subst e2
        rw [upF_in, if_pos rfl]
      · rw [upF_out (fun x => e2 x.2), if_neg e2]
    · exact ((o1 r' hr').2 k k0 k1).mono (Int.le_refl _) (Int.le_refl _) (fun c' => upF_out (fun x => e x.1))
  · rw [upF_out (r' := 1) (c' := 0) (by omega), upF_out (r' := 1) (c' := 1) (by omega), upF_out (r' := 1) (c' := 0) (by omega), upF_out (r' := 1) (c' := 1) (by omega)]
    exact o2 l m l0 l1 l2
  · rw [upF_out (r' := 7) (by omega), upF_out (r' := 7) (by omega), upF_out (r' := 7) (by omega)]
    exact o3
def OkPs (s : PS) : Prop := OkTl s.a ∧ ((s.on 0 = -1 ∨ (1 ≤ s.on 0 ∧ s.on 0 ≤ 9)) ∧ (s.on 1 = -1 ∨ (0 ≤ s.on 1 ∧ s.on 1 ≤ 9)) ∧ (s.on 2 = -1 ∨ (0 ≤ s.on 2 ∧ s.on 2 ≤ 99999))) ∧ Wf s.a.fd ∧ Wf s.a.wo ∧ s.kc = s.a.fd.length + s.a.wo.length ∧ s.kc ≤ 64
theorem OkPs.wd {s : PS} {a : Wd} (O : OkPs s) (T : OkTl a) (e1 : a.fd = s.a.fd) (e2 : a.wo = s.a.wo) : OkPs (s.wd a) := by
  obtain ⟨o1, o2, o3, o4, o5, o6⟩ := O
  refine ⟨T, o2, ?_, ?_, ?_, o6⟩
  · show Wf a.fd
    rw [e1]; exact o3
  · show Wf a.wo
    rw [e2]; exact o4
  · show s.kc = a.fd.length + a.wo.length
    rw [e1, e2]; exact o5
theorem a0_ok : OkTl a0 := by
  refine ⟨fun r hr => ⟨?_, fun k k0 k1 => ?_⟩, fun l m l0 l1 l2 => ?_, rfl, rfl, rfl, rfl⟩
  · have : r = 0 ∨ r = 1 ∨ r = 2 ∨ r = 3 ∨ r = 4 ∨ r = 5 ∨ r = 6 := by omega
    rcases this with rfl | rfl | rfl | rfl | rfl | rfl | rfl <;> decide
  · replace k1 : k < 0 := k1
    omega
  · replace l2 : m < 0 := l2
    omega
theorem ps0_ok : OkPs ps0 := ⟨a0_ok, ⟨Or.inl rfl, Or.inl rfl, Or.inl rfl⟩, ⟨Or.inl rfl, fun k hk => absurd hk List.not_mem_nil, by decide⟩, ⟨Or.inl rfl, fun k hk => absurd hk List.not_mem_nil, by decide⟩, rfl, by decide⟩
section INV
variable {T : Int → Int} {L : Int} {s s' : PS} {p q : Int}
theorem pTold_ok {a : Wd} {r : Nat} {K : Int → Int → PR} {x : PS × Int} (h0 : 0 ≤ a.n r) (e : pTold T L a r K p = .inr x) : tK T L p = 3 ∧ ∃ i, (0 ≤ i ∧ i < a.n r) ∧ K i p = .inr x := by
  unfold pTold at e
  split at e
  · rename_i c
    split at e
    · cases e
    · rename_i c2
      have := ff_rg (fun j => decide (a.f r 0 j = tV T L p)) h0
      unfold fnd at *
      exact ⟨c, _, ⟨by omega, this.2⟩, e⟩
  · cases e
theorem pNew_ok {a : Wd} {r : Nat} {K : Int → Int → PR} {x : PS × Int} (e : pNew T L a r K p = .inr x) : tK T L p = 3 ∧ K (tV T L p) p = .inr x := by
  unfold pNew at e
  split at e
  · rename_i c
    split at e
    · exact ⟨c, e⟩
    · cases e
  · cases e
theorem pNum_ok {lo hi : Int} {K : Int → Int → PR} {x : PS × Int} (e : pNum T L lo hi K p = .inr x) : tK T L p = 2 ∧ ∃ v, (lo ≤ v ∧ v ≤ hi) ∧ K v p = .inr x := by
  unfold pNum at e
  split at e
  · rename_i c
    split at e
    · rename_i c2
      exact ⟨c, _, c2, e⟩
    · cases e
  · cases e
theorem pEnd_ok {s : PS} {x : PS × Int} (e : pEnd T L s p = .inr x) : tK T L p = 5 ∧ x = (s, tE T L p) := by
  unfold pEnd at e
  split at e
  · rename_i c
    injection e with e
    exact ⟨c.1, e.symm⟩
  · cases e
/-- a place behind p, in the text -/
def bh (L p q : Int) : Prop := p < q ∧ q ≤ L
theorem bh_nx {u : Int} (hT : ∀ k, 0 ≤ T k ∧ T k < 256) (p0 : 0 ≤ p) (b : bh L p u) (h : tK T L u ≠ 0) : bh L p (tE T L u) := by
  have := nx_lt hT ⟨by unfold bh at b; omega, b.2⟩ h
  unfold bh at *
  omega
theorem line_ok (hT : ∀ k, 0 ≤ T k ∧ T k < 256) (O : OkPs s) (hp : 0 ≤ p ∧ p ≤ L) (e : pLine T L s p = .inr (s', q)) : bh L (tE T L p - 1) q ∧ OkPs s' := by
  have O1 := O.1
  obtain ⟨w1, w2, w3⟩ := O1
  have z0 := (w1 0 (by omega)).1
  have z1 := (w1 1 (by omega)).1
  have z2 := (w1 2 (by omega)).1
  have z3 := (w1 3 (by omega)).1
  have z6 := (w1 6 (by omega)).1
  unfold pLine at e
  by_cases k4 : tK T L p = 4
  · rw [if_pos k4] at e
    have nx := nx_lt hT hp (by omega : tK T L p ≠ 0)
    have p0 : 0 ≤ tE T L p - 1 := by omega
    have b1 : bh L (tE T L p - 1) (tE T L p) := ⟨by omega, nx.2⟩
    by_cases kw0 : tV T L p = 0
    · rw [if_pos kw0] at e
      unfold lnPlace at e
      split at e
      · rename_i hn
        obtain ⟨k1, e⟩ := pNew_ok e
        have b2 := bh_nx hT p0 b1 (by omega : tK T L (tE T L p) ≠ 0)
        obtain ⟨k2, e⟩ := pEnd_ok e
        injection e with e1 e2
        subst e1 e2
        have tr := (tok_rg (T := T) (p := tE T L p) hT ⟨by unfold bh at b1; omega, b1.2⟩).2.2.2.2.2.2.1 k1
        refine ⟨bh_nx hT p0 b2 (by omega), O.wd (O.1.add (by omega) hn ?_ (fun x => by omega)) rfl rfl⟩
        unfold OkRw
        rw [if_pos rfl]
        exact ⟨tr, by show 0 ≤ (0 : Int) ∧ (0 : Int) ≤ 20; decide⟩
      · cases e
    rw [if_neg kw0] at e
    by_cases kw1 : tV T L p = 1
    · rw [if_pos kw1] at e
      unfold lnLink at e
      split at e
      · rename_i hn
        obtain ⟨k1, x, hx, e⟩ := pTold_ok z0.1 e
        have b2 := bh_nx hT p0 b1 (by omega : tK T L (tE T L p) ≠ 0)
        obtain ⟨k2, v, hv, e⟩ := pTold_ok z0.1 e
        have b3 := bh_nx hT p0 b2 (by omega)
        split at e
        · cases e
        rename_i hne
        split at e
        · cases e
        rename_i hlk
        obtain ⟨k3, l, hl, e⟩ := pNum_ok e
        have b4 := bh_nx hT p0 b3 (by omega)
        obtain ⟨k5, e⟩ := pEnd_ok e
        injection e with e1 e2
        subst e1 e2
        refine ⟨bh_nx hT p0 b4 (by omega), O.wd (O.1.add (by omega) hn ?_ (fun _ l l0 l1 => ?_)) rfl rfl⟩
        · unfold OkRw
          rw [if_neg (by decide), if_pos rfl, if_neg (by decide)]
          exact ⟨hx, hv, hne, hl, rfl⟩
        · unfold lkd at hlk
          rw [decide_eq_true_eq, Classical.not_not] at hlk
          rcases ff_ca (fun k => (decide (s.a.f 1 0 k = x) && decide (s.a.f 1 1 k = v)) || (decide (s.a.f 1 0 k = v) && decide (s.a.f 1 1 k = x))) (s.a.n 1) with ⟨_, no⟩ | ⟨y, _⟩
          · intro y
            have := no l l0 l1
            rcases y with ⟨y1, y2⟩ | ⟨y1, y2⟩
            · replace y1 : s.a.f 1 0 l = x := y1
              replace y2 : s.a.f 1 1 l = v := y2
              rw [y1, y2] at this
              simp at this
            · replace y1 : s.a.f 1 0 l = v := y1
              replace y2 : s.a.f 1 1 l = x := y2
              rw [y1, y2] at this
              simp at this
          · omega
      · cases e
    rw [if_neg kw1] at e
    by_cases kw2 : tV T L p = 2
    · rw [if_pos kw2] at e
      unfold lnOwner at e
      split at e
      · rename_i hn
        obtain ⟨k1, e⟩ := pNew_ok e
        have b2 := bh_nx hT p0 b1 (by omega : tK T L (tE T L p) ≠ 0)
        obtain ⟨k2, c, hc, e⟩ := pNum_ok e
        have b3 := bh_nx hT p0 b2 (by omega)
        obtain ⟨k3, e⟩ := pEnd_ok e
        injection e with e1 e2
        subst e1 e2
        have tr := (tok_rg (T := T) (p := tE T L p) hT ⟨by unfold bh at b1; omega, b1.2⟩).2.2.2.2.2.2.1 k1
        refine ⟨bh_nx hT p0 b3 (by omega), O.wd (O.1.add (by omega) hn ?_ (fun x => by omega)) rfl rfl⟩
        unfold OkRw
        rw [if_neg (by decide), if_neg (by decide), if_pos rfl, if_pos rfl]
        exact ⟨tr, hc, by show (-1 : Int) ≤ -1; decide, by show (-1 : Int) < _; omega⟩
      · cases e
    rw [if_neg kw2] at e
    by_cases kw3 : tV T L p = 3
    · rw [if_pos kw3] at e
      unfold lnHeir at e
      obtain ⟨k1, x, hx, e⟩ := pTold_ok z2.1 e
      have b2 := bh_nx hT p0 b1 (by omega : tK T L (tE T L p) ≠ 0)
      split at e
      · obtain ⟨k2, v, hv, e⟩ := pTold_ok z2.1 e
        have b3 := bh_nx hT p0 b2 (by omega)
        split at e
        · cases e
        obtain ⟨k3, e⟩ := pEnd_ok e
        injection e with e1 e2
        subst e1 e2
        refine ⟨bh_nx hT p0 b3 (by omega), O.wd (O.1.up (Or.inr rfl) (fun k k0 k1 => ?_)) rfl rfl⟩
        have old := (w1 2 (by omega)).2 k k0 k1
        unfold OkRw at old ⊢
        rw [if_neg (by decide), if_neg (by decide), if_pos rfl] at old ⊢
        refine ⟨old.1, old.2.1, ?_⟩
        show -1 ≤ (if k = x then v else s.a.f 2 2 k) ∧ (if k = x then v else s.a.f 2 2 k) < s.a.n 2
        have o3 := old.2.2
        split <;> omega
      · cases e
    rw [if_neg kw3] at e
    by_cases kw4 : tV T L p = 4
    · rw [if_pos kw4] at e
      unfold lnNoise at e
      split at e
      · rename_i hn
        obtain ⟨k1, x, hx, e⟩ := pTold_ok z0.1 e
        have b2 := bh_nx hT p0 b1 (by omega : tK T L (tE T L p) ≠ 0)
        obtain ⟨k2, o, ho, e⟩ := pTold_ok z2.1 e
        have b3 := bh_nx hT p0 b2 (by omega)
        obtain ⟨k3, f, hf, e⟩ := pNum_ok e
        have b4 := bh_nx hT p0 b3 (by omega)
        obtain ⟨k5, t, ht, e⟩ := pNum_ok e
        have b5 := bh_nx hT p0 b4 (by omega)
        obtain ⟨k6, l, hl, e⟩ := pNum_ok e
        have b6 := bh_nx hT p0 b5 (by omega)
        obtain ⟨k7, e⟩ := pEnd_ok e
        injection e with e1 e2
        subst e1 e2
        refine ⟨bh_nx hT p0 b6 (by omega), O.wd (O.1.add (by omega) hn ?_ (fun x => by omega)) rfl rfl⟩
        unfold OkRw
        rw [if_neg (by decide), if_neg (by decide), if_neg (by decide), if_pos rfl, if_neg (by decide), if_neg (by decide)]
        exact ⟨hx, ho, ⟨hf.1, ht.1, ht.2⟩, hl, rfl⟩
      · cases e
    have hold : ∀ r : Nat, r = 4 ∨ r = 5 → lnHold T L s p r (capT r) = .inr (s', q) → bh L (tE T L p - 1) q ∧ OkPs s' := fun r hr e => by
      unfold lnHold at e
      split at e
      · rename_i hn
        obtain ⟨k1, o, ho, e⟩ := pTold_ok z2.1 e
        have b2 := bh_nx hT p0 b1 (by omega : tK T L (tE T L p) ≠ 0)
        obtain ⟨k2, x, hx, e⟩ := pTold_ok z0.1 e
        have b3 := bh_nx hT p0 b2 (by omega)
        obtain ⟨k3, f, hf, e⟩ := pNum_ok e
        have b4 := bh_nx hT p0 b3 (by omega)
        obtain ⟨k5, t, ht, e⟩ := pNum_ok e
        have b5 := bh_nx hT p0 b4 (by omega)
        obtain ⟨k6, e⟩ := pEnd_ok e
        injection e with e1 e2
        subst e1 e2
        refine ⟨bh_nx hT p0 b5 (by omega), O.wd (O.1.add (by omega) hn ?_ (fun x => by omega)) rfl rfl⟩
        unfold OkRw
        rw [if_neg (by omega), if_neg (by omega), if_neg (by omega), if_neg (by omega), if_neg (by omega), if_neg (by omega), if_neg (by omega)]
        exact ⟨ho, hx, hf.1, ht.1, ht.2⟩
      · cases e
    rw [if_neg kw4] at e
    by_cases kw5 : tV T L p = 5
    · rw [if_pos kw5] at e
      exact hold 4 (Or.inl rfl) e
    rw [if_neg kw5] at e
    by_cases kw6 : tV T L p = 6
    · rw [if_pos kw6] at e
      exact hold 5 (Or.inr rfl) e
    clear hold
    rw [if_neg kw6] at e
    by_cases kw7 : tV T L p = 7
    · rw [if_pos kw7] at e
      unfold lnTask at e
      split at e
      · rename_i hn
        obtain ⟨k1, o, ho, e⟩ := pTold_ok z2.1 e
        have b2 := bh_nx hT p0 b1 (by omega : tK T L (tE T L p) ≠ 0)
        obtain ⟨k2, x, hx, e⟩ := pTold_ok z0.1 e
        have b3 := bh_nx hT p0 b2 (by omega)
        obtain ⟨k3, f, hf, e⟩ := pNum_ok e
        have b4 := bh_nx hT p0 b3 (by omega)
        obtain ⟨k5, t, ht, e⟩ := pNum_ok e
        have b5 := bh_nx hT p0 b4 (by omega)
        obtain ⟨k6, e⟩ := pEnd_ok e
        injection e with e1 e2
        subst e1 e2
        refine ⟨bh_nx hT p0 b5 (by omega), O.wd (O.1.add (by omega) hn ?_ (fun x => by omega)) rfl rfl⟩
        unfold OkRw
        rw [if_neg (by decide), if_neg (by decide), if_neg (by decide), if_neg (by decide), if_pos rfl, if_neg (by decide), if_neg (by decide)]
        exact ⟨ho, hx, hf, ht⟩
      · cases e
    rw [if_neg kw7] at e
    by_cases kw8 : tV T L p = 8
    · rw [if_pos kw8] at e
      unfold lnDog at e
      obtain ⟨k1, x, hx, e⟩ := pTold_ok z0.1 e
      have b2 := bh_nx hT p0 b1 (by omega : tK T L (tE T L p) ≠ 0)
      split at e
      · obtain ⟨k2, v, hv, e⟩ := pNum_ok e
        have b3 := bh_nx hT p0 b2 (by omega)
        obtain ⟨k3, e⟩ := pEnd_ok e
        injection e with e1 e2
        subst e1 e2
        refine ⟨bh_nx hT p0 b3 (by omega), O.wd (O.1.up (Or.inl rfl) (fun k k0 k1 => ?_)) rfl rfl⟩
        have old := (w1 0 (by omega)).2 k k0 k1
        unfold OkRw at old ⊢
        rw [if_pos rfl] at old ⊢
        refine ⟨old.1, ?_⟩
        show 0 ≤ (if k = x then v else s.a.f 0 1 k) ∧ (if k = x then v else s.a.f 0 1 k) ≤ 20
        have o3 := old.2
        split <;> omega
      · cases e
    have once : ∀ (i : Nat) (lo hi : Int), (i = 0 ∧ lo = 1 ∧ hi = 9) ∨ (i = 1 ∧ lo = 0 ∧ hi = 9) ∨ (i = 2 ∧ lo = 0 ∧ hi = 99999) → lnOnce T L s p i lo hi = .inr (s', q) → bh L (tE T L p - 1) q ∧ OkPs s' := fun i lo hi hi' e => by
      unfold lnOnce at e
      split at e
      · obtain ⟨k1, v, hv, e⟩ := pNum_ok e
        have b2 := bh_nx hT p0 b1 (by omega : tK T L (tE T L p) ≠ 0)
        obtain ⟨k2, e⟩ := pEnd_ok e
        injection e with e1 e2
        subst e1 e2
        refine ⟨bh_nx hT p0 b2 (by omega), O.1, ?_, O.2.2⟩
        have o2 := O.2.1
        show ((if 0 = i then v else s.on 0) = -1 ∨ (1 ≤ (if 0 = i then v else s.on 0) ∧ (if 0 = i then v else s.on 0) ≤ 9)) ∧ ((if 1 = i then v else s.on 1) = -1 ∨ (0 ≤ (if 1 = i then v else s.on 1) ∧ (if 1 = i then v else s.on 1) ≤ 9)) ∧ ((if 2 = i then v else s.on 2) = -1 ∨ (0 ≤ (if 2 = i then v else s.on 2) ∧ (if 2 = i then v else s.on 2) ≤ 99999))
        rcases hi' with ⟨rfl, rfl, rfl⟩ | ⟨rfl, rfl, rfl⟩ | ⟨rfl, rfl, rfl⟩
        · rw [if_pos rfl, if_neg (by decide), if_neg (by decide)]; exact ⟨Or.inr hv, o2.2⟩
        · rw [if_pos rfl, if_neg (by decide), if_neg (by decide)]; exact ⟨o2.1, Or.inr hv, o2.2.2⟩
        · rw [if_pos rfl, if_neg (by decide), if_neg (by decide)]; exact ⟨o2.1, o2.2.1, Or.inr hv⟩
      · cases e
    rw [if_neg kw8] at e
    by_cases kw9 : tV T L p = 9
    · rw [if_pos kw9] at e
      exact once 0 1 9 (Or.inl ⟨rfl, rfl, rfl⟩) e
    rw [if_neg kw9] at e
    by_cases kw10 : tV T L p = 10
    · rw [if_pos kw10] at e
      exact once 1 0 9 (Or.inr (Or.inl ⟨rfl, rfl, rfl⟩)) e
    rw [if_neg kw10] at e
    by_cases kw11 : tV T L p = 11
    · rw [if_pos kw11] at e
      exact once 2 0 99999 (Or.inr (Or.inr ⟨rfl, rfl, rfl⟩)) e
    clear once
    rw [if_neg kw11] at e
    by_cases kw12 : tV T L p = 12
    · rw [if_pos kw12] at e
      have law : ∀ k : Int, k = 0 ∨ k = 1 → tK T L (tE T L p) = 4 → lnLaw2 T L s k (tE T L p) = .inr (s', q) → bh L (tE T L p - 1) q ∧ OkPs s' := fun k hk k1 e => by
        have b2 := bh_nx hT p0 b1 (by omega : tK T L (tE T L p) ≠ 0)
        unfold lnLaw2 at e
        split at e
        · rename_i hl
          obtain ⟨o1, o2, o3, o4, o5, o6⟩ := O
          cases e2 : sy T L 701 false [] 0 s.kc [] (tE T L (tE T L p)) with
          | inl f => rw [e2] at e; cases e
          | inr y =>
            obtain ⟨out, c, u⟩ := y
            rw [e2] at e
            injection e with e
            injection e with e1 e3
            subst e1 e3
            obtain ⟨⟨d1, d2, d3, d4⟩, d5, d6⟩ := sy_ok (fr := s.kc) hT 701 false [] 0 s.kc [] _ ⟨by unfold bh at b2; omega, b2.2⟩ ⟨trivial, rfl, by show s.kc = s.kc + 0 + 0; omega, o6, rfl, fun k hk => absurd hk List.not_mem_nil⟩ e2
            have b3 : bh L (tE T L p - 1) u := by unfold bh at b2 ⊢; omega
            have wf : Wf out := ⟨Or.inr d1, d2, by omega⟩
            refine ⟨bh_nx hT p0 b3 (by omega), o1, o2, ?_⟩
            unfold PS.law at hl
            rcases hk with rfl | rfl
            · rw [if_pos rfl] at hl
              rw [hl] at o5
              replace o5 : s.kc = 0 + s.a.wo.length := o5
              refine ⟨wf, o4, ?_, d4⟩
              show c = out.length + s.a.wo.length
              omega
            · rw [if_neg (by decide)] at hl
              rw [hl] at o5
              replace o5 : s.kc = s.a.fd.length + 0 := o5
              refine ⟨o3, wf, ?_, d4⟩
              show c = s.a.fd.length + out.length
              omega
        · cases e
      unfold lnLaw at e
      split at e
      · rename_i hw
        exact law 0 (Or.inl rfl) (isWd_iff.mp hw).1 e
      split at e
      · rename_i hw
        exact law 1 (Or.inr rfl) (isWd_iff.mp hw).1 e
      · cases e
    rw [if_neg kw12] at e
    cases e
  · rw [if_neg k4] at e
    cases e
end INV
/-- what a good text tells is a world of calls -/
theorem OkPs.now {s : PS} (O : OkPs s) : Now s.fin ∧ s.fin.n 9 = 0 := by
  obtain ⟨⟨w1, w2, w3, w4, w5, w6⟩, ⟨o1, o2, -⟩, l1, l2, l3, l4⟩ := O
  have e : ∀ r c k, r ≠ 7 → s.fin.f r c k = s.a.f r c k := fun r c k h => by
    unfold PS.fin
    rw [upF_out (by omega), upF_out (by omega)]
  have e70 : s.fin.f 7 0 0 = if s.on 0 = -1 then 5 else s.on 0 := by
    unfold PS.fin
    rw [upF_out (by omega), upF_in]
  have e71 : s.fin.f 7 1 0 = if s.on 1 = -1 then 1 else s.on 1 := by
    unfold PS.fin
    rw [upF_in]
  have e72 : s.fin.f 7 2 0 = 0 := by
    unfold PS.fin
    rw [upF_out (by omega), upF_out (by omega)]
    exact w5
  have en : ∀ r, s.fin.n r = s.a.n r := fun r => rfl
  have efd : s.fin.fd = s.a.fd := rfl
  have ewo : s.fin.wo = s.a.wo := rfl
  have r0 := w1 0 (by omega)
  have r1 := w1 1 (by omega)
  have r2 := w1 2 (by omega)
  have r3 := w1 3 (by omega)
  have r4 := w1 4 (by omega)
  have r5 := w1 5 (by omega)
  have r6 := w1 6 (by omega)
  simp only [OkRw, capT, if_true, if_false, Nat.reduceEqDiff, reduceIte] at r0 r1 r2 r3 r4 r5 r6
  unfold Now OkL OkN OkC OkR
  simp only [en, efd, ewo, e70, e71, e72, e 0 _ _ (by decide), e 1 _ _ (by decide), e 2 _ _ (by decide), e 3 _ _ (by decide), e 4 _ _ (by decide), e 5 _ _ (by decide), e 6 _ _ (by decide)]
  refine ⟨⟨⟨r0.1, r1.1, by split <;> omega, fun l l0 l1 => ?_, w2⟩, ⟨by omega, fun n n0 n1 => ?_⟩, ⟨by omega, fun c c0 c1 => ?_⟩, ⟨r5.1, fun c c0 c1 => ?_⟩, l1, l2, by omega, fun n n0 n1 => ?_, r4.1.2, fun c c0 c1 => ?_, r2.1, fun o o0 o1 => ?_, ?_, r6.1, fun t t0 t1 => ?_, fun p p0 p1 => ?_, by omega, by split <;> omega, by omega⟩, w6⟩
  · have := r1.2 l l0 l1
    exact ⟨this.1, this.2.1, this.2.2.1, this.2.2.2.1, Or.inl this.2.2.2.2⟩
  · have := r3.2 n n0 n1
    have a := r2.1
    refine ⟨this.1, by omega, this.2.2.1, by omega, Or.inl this.2.2.2.2⟩
  · have := r4.2 c c0 c1
    have a := r2.1
    exact ⟨by omega, this.2.1, this.2.2⟩
  · have := r5.2 c c0 c1
    have a := r2.1
    exact ⟨by omega, this.2.1, this.2.2⟩
  · have := r3.2 n n0 n1
    exact ⟨this.2.1, this.2.2.2.1.1⟩
  · exact (r4.2 c c0 c1).1.2
  · have := r2.2 o o0 o1
    exact ⟨this.1, by omega, this.2.2⟩
  · rw [show s.fin.f 2 1 = s.a.f 2 1 from funext (fun k => e 2 1 k (by decide))]
    have := sm_rg (f := s.a.f 2 1) (n := s.a.n 2) (c := 999) r2.1.1 (by omega) (fun j j0 j1 => (r2.2 j j0 j1).2.1)
    omega
  · exact r6.2 t t0 t1
  · exact r0.2 p p0 p1
