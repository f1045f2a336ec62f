section PLCALL
variable {h : PH} {w : Nat} {s : St} {a : Wd}
theorem pl_len {n : Nat} : ∀ (l : List (List Int)) (b : Option (Int × List (Int × Int))), (∀ e P, b = some (e, P) → P.length = n) → (∀ c ∈ l, c.length = n) → ∀ e P, l.foldl (fun b c => upO a b (runP a c [])) b = some (e, P) → P.length = n
  | [], b, hb, _, e, P, hx => hb e P hx
  | c :: l, b, hb, hl, e, P, hx => by
    refine pl_len l (upO a b (runP a c [])) (fun e' P' hx' => ?_) (fun c' hc' => hl c' (by simp [hc'])) e P hx
    cases hr : runP a c [] with
    | none => rw [hr] at hx'; exact hb e' P' hx'
    | some P2 =>
      have len2 : P2.length = n := by
        have := congrArg List.length (runP_fst c [] P2 hr)
        rw [List.length_map] at this
        rw [this]
        exact hl c (by simp)
      rw [hr] at hx'
      cases b with
      | none =>
        have hx2 : some (enF a 0 P2, P2) = some (e', P') := hx'
        injection hx2 with hx2
        injection hx2 with _ x2
        rw [← x2]; exact len2
      | some y =>
        obtain ⟨e0, P0⟩ := y
        have hx2 : (if enF a 0 P2 < e0 then some (enF a 0 P2, P2) else some (e0, P0)) = some (e', P') := hx'
        by_cases c2 : enF a 0 P2 < e0
        · rw [if_pos c2] at hx2
          injection hx2 with hx2
          injection hx2 with _ x2
          rw [← x2]; exact len2
        · rw [if_neg c2] at hx2
          exact hb e' P' hx2
theorem plB_len (hn : 0 ≤ a.n 6 ∧ a.n 6 ≤ 4) {e : Int} {P : List (Int × Int)} (hx : plB a = some (e, P)) : P.length = (a.n 6).toNat := by
  obtain ⟨pl1, pl2, pl3, pl4⟩ := prm_len ⟨(a.n 6).toNat, by omega⟩
  refine pl_len (prm (a.n 6).toNat) none (fun e P x => by cases x) (fun c hc => ?_) e P hx
  have := List.all_eq_true.mp pl3 c hc
  rw [Bool.and_eq_true, decide_eq_true_eq] at this
  exact this.1
theorem x_planned {Q : PH → Prop} (I : IX h w s) (hq : ∀ g, IX g w s → KpX h g → (s.a.n 6 = 0 → gI g 122 6 = z (-1)) → (s.a.n 6 ≠ 0 → BestX g (plB s.a)) → Q g) : w_X9_freshAir h (fun z4 h3 => z4 = 100 ∧ w_X4_search (gP h 0 3 - 1) 100 h3 Q) := by
  have hw := I.w
  obtain ⟨p1, p2, p3⟩ := I.1.p
  refine x_freshAir1 I.1 (fun g1 f1 N1 e9 A1 => ⟨rfl, ?_⟩)
  rw [p3]
  refine x_search N1.2.2.1 A1 N1.2.2.2.1 hw (fun g2 f2 e0 eB => ?_)
  have N2 : NX g2 w s.a := N1.at' (fun k => f2 0 k (by unfold srC; omega)) (fun c k c1 c2 hc => f2 c k (by unfold lawR at hc; unfold srC; omega)) (fun c k c1 c2 => f2 c k (by unfold srC; omega))
  have F : ∀ c k, ¬ scrX w c k → At h g2 c k := fun c k hc => (f1 c k (by unfold scrX at hc; unfold airR; omega)).tr (f2 c k (by unfold scrX at hc; unfold srC; omega))
  refine hq g2 (I.fr N2 (I.2.2.1.fr (fun c k b1 b2 => (f1 c k (by unfold airR; omega)).tr (f2 c k (by unfold srC; omega)))) F) (Or.inr ⟨(F 0 12 (by unfold scrX; omega)).1, fun _ => by rw [(f2 0 9 (by unfold srC; omega)).1]; exact e9, fun c k c1 c2 => F c k (by unfold scrX; omega)⟩) e0 eB
theorem xs_plan {Q : Int32 → PH → Prop} (I : IX h w s) (hq : ∀ g, IX g w s → KpX h g → Q (z (a_plan s.a)) g) : w_X9_plan h Q := by
  have hw := I.w
  obtain ⟨p1, p2, p3⟩ := I.1.p
  unfold w_X9_plan
  refine ⟨p1, p2, x_planned I (fun g Ig K e0 eB => ?_)⟩
  have q := hq g Ig K
  unfold a_plan at q
  by_cases c : s.a.n 6 = 0
  · rw [if_pos c] at q
    rw [e0 c]; exact q
  · rw [if_neg c] at q
    have b := eB c
    cases hb : plB s.a with
    | none =>
      rw [hb] at b q
      rw [b.1 rfl]; exact q
    | some x =>
      obtain ⟨e, P⟩ := x
      rw [hb] at b q
      rw [(b.2 e P rfl).1]; exact q
theorem xs_planned {Q : Int32 → PH → Prop} {k c : Int} (hk : i32 k) (hc : i32 c) (I : IX h w s) (hq : ∀ g, IX g w s → KpX h g → Q (z (a_planned s.a k c)) g) : w_X9_planned (z k) (z c) h Q := by
  have k1 := hk.1
  have k2 := hk.2
  have c1 := hc.1
  have c2 := hc.2
  have hw := I.w
  have nr := I.1.2.2.2.1.2.2.2.2.2.2.2.2.2.2.2.2.2.1
  obtain ⟨p1, p2, p3⟩ := I.1.p
  have bad : ¬ (0 ≤ k ∧ (0 ≤ c ∧ c ≤ 1)) → Q (-1) h := fun e => by
    have := hq h I (KpX.rf h)
    unfold a_planned at this
    rw [if_neg e] at this
    exact this
  unfold w_X9_planned
  by_cases d1 : k < 0
  · rw [zn_0, if_pos (by rw [z_lt (by omega) (by omega) (by omega) (by omega)]; omega)]; exact bad (by omega)
  rw [zn_0, if_neg (by rw [z_lt (by omega) (by omega) (by omega) (by omega)]; omega)]
  by_cases d2 : c < 0
  · rw [if_pos (by rw [z_lt (by omega) (by omega) (by omega) (by omega)]; omega)]; exact bad (by omega)
  rw [if_neg (by rw [z_lt (by omega) (by omega) (by omega) (by omega)]; omega)]
  by_cases d3 : c ≤ 1
  · rw [if_pos (show z c ≤ 1 by rw [zn_1, z_le (by omega) (by omega) (by omega) (by omega)]; omega)]
    refine ⟨p1, p2, x_planned I (fun g Ig K e0 eB => ?_)⟩
    have q := hq g Ig K
    unfold a_planned at q
    rw [if_pos ⟨by omega, by omega, d3⟩] at q
    by_cases n0 : s.a.n 6 = 0
    · rw [e0 n0]
      rw [if_pos (show z (-1) < z 0 by decide)]
      rw [if_neg (by omega)] at q
      exact q
    · have b := eB n0
      cases hb : plB s.a with
      | none =>
        rw [hb] at b q
        rw [b.1 rfl, if_pos (show z (-2) < z 0 by decide)]
        simp only at q
        have : (if k < s.a.n 6 then (-2 : Int) else -2) = -2 := by split <;> rfl
        rw [this] at q
        exact q
      | some x =>
        obtain ⟨e, P⟩ := x
        have pl := plB_len nr hb
        rw [hb] at b q
        obtain ⟨y1, y2, y3⟩ := b.2 e P rfl
        rw [y1, if_neg (by rw [z_lt (by omega) (by omega) (by omega) (by omega)]; omega)]
        obtain ⟨r1, r2, r3⟩ := Ig.1.p
        rw [r3]
        refine ⟨r1, oX_w hw, ?_⟩
        have en : gI g (w + 13) 3 = z (s.a.n 6) := (Ig.1.2.2.1.n0 6 (by decide)).1
        rw [en]
        by_cases kn : k < s.a.n 6
        · rw [if_pos (by rw [z_lt (by omega) (by omega) (by omega) (by omega)]; omega)]
          rw [if_pos kn] at q
          have il : k.toNat < P.length := by omega
          have eP : P[k.toNat]? = some P[k.toNat] := List.getElem?_eq_getElem il
          obtain ⟨z1, z2⟩ := y3 k.toNat _ eP
          have eD : P.getD k.toNat (0, 0) = P[k.toNat] := by rw [List.getD_eq_getElem?_getD, eP]; rfl
          simp only [eD] at q
          by_cases c0 : c = 0
          · rw [if_pos (by rw [c0])]
            rw [if_pos c0] at q
            unfold w_X4_taskAt
            rw [zn_0, if_neg (by rw [z_lt (by omega) (by omega) (by omega) (by omega)]; omega), zn_4, if_neg (by rw [z_le (by omega) (by omega) (by omega) (by omega)]; omega), z_iN (a := k) (by omega) (by omega), z1]
            exact ⟨z_in (by omega) (by omega) (by omega), q⟩
          · rw [if_neg (z_ne (by omega) (by omega) (by omega) (by omega) c0)]
            rw [if_neg c0] at q
            unfold w_X4_startAt
            rw [zn_0, if_neg (by rw [z_lt (by omega) (by omega) (by omega) (by omega)]; omega), zn_4, if_neg (by rw [z_le (by omega) (by omega) (by omega) (by omega)]; omega), z_iN (a := k) (by omega) (by omega), z2]
            exact ⟨z_in (by omega) (by omega) (by omega), q⟩
        · rw [if_neg (by rw [z_lt (by omega) (by omega) (by omega) (by omega)]; omega)]
          rw [if_neg kn] at q
          exact q
  · rw [if_neg (show ¬ z c ≤ 1 by rw [zn_1, z_le (by omega) (by omega) (by omega) (by omega)]; omega)]
    exact bad (by omega)
end PLCALL
