section PLREC
variable {a : Wd}
theorem PlM.app {h : PH} {P : List (Int × Int)} {t x : Int} (hP : PlM h P) (hl : P.length < 4) : PlM (sI (sI h 62 P.length (z t)) 63 P.length (z x)) (P ++ [(t, x)]) := fun i q e => by
  rcases getq e with ⟨d1, d2⟩ | ⟨d1, d2⟩
  · rw [gI_out (by omega), gI_out (by omega), gI_out (by omega), gI_out (by omega)]
    exact hP i q d2
  · subst d1
    rw [d2, gI_out (by omega), gI_in rfl rfl, gI_in rfl rfl]
    exact ⟨rfl, rfl⟩
theorem PlM.pre {h : PH} {P : List (Int × Int)} {q : Int × Int} (hP : PlM h (P ++ [q])) : PlM h P := fun i r e => by
  have il := (List.getElem?_eq_some_iff.mp e).1
  refine hP i r ?_
  rw [List.getElem?_append, if_pos il]
  exact e
theorem PlM.at' {h g : PH} {P : List (Int × Int)} (hP : PlM h P) (e : ∀ c k, c = 62 ∨ c = 63 → At h g c k) : PlM g P := fun i q x => by
  rw [(e 62 _ (Or.inl rfl)).1, (e 63 _ (Or.inr rfl)).1]
  exact hP i q x
theorem BestM.at' {h g : PH} {b : Option (Int × List (Int × Int))} (hb : BestM h b) (e : ∀ c k, c = 64 ∨ c = 65 ∨ (c = 0 ∧ k = 92) → At h g c k) : BestM g b := ⟨fun x => by rw [(e 0 92 (by omega)).1]; exact hb.1 x, fun e' P x => by
  obtain ⟨y1, y2, y3⟩ := hb.2 e' P x
  refine ⟨by rw [(e 0 92 (by omega)).1]; exact y1, y2, fun i q hq => ?_⟩
  rw [(e 64 _ (by omega)).1, (e 65 _ (by omega)).1]; exact y3 i q hq⟩
theorem m_best {R : Int32 → Int32 → Int32 → PH → (PH → Prop) → Prop} {Q : PH → Prop} {h : PH} {P : List (Int × Int)} (N : Now a) (hP : PlM h P) (ok : OkP a P) (hl : P.length ≤ 4) (hne : P ≠ []) (hq : ∀ g, (∀ c q, ¬ plC c q → At h g c q) → PlM g P → BestM g (some (enF a 0 P, P)) → Q g) : w_X10_plans_28 R Q (z P.length) (z (enF a (-1) P)) h := by
  have er := enF_rg N P (-1) ok (by omega) (Or.inl hne)
  have e0 : enF a 0 P = enF a (-1) P := by
    have := enF_0 a P (-1)
    rw [show max (0 : Int) (-1) = 0 by omega] at this
    rw [this]; omega
  unfold w_X10_plans_28
  rintro _ rfl
  refine for10 (P.length : Int) (fun i g => (∀ c q, ¬ (c = 64 ∨ c = 65) → At (sI h 0 92 (z (enF a (-1) P))) g c q) ∧ ∀ (k : Nat) q, (k : Int) < i → P[k]? = some q → gI g 64 k = z q.1 ∧ gI g 65 k = z q.2) 0 rfl (by omega) (by omega) (by omega) ⟨fun c q _ => At.rf _ c q, fun k q k0 => by omega⟩ ?_ ?_
  · rintro kb i g i0 i1 ⟨hf, hK⟩ hn
    have il : i.toNat < P.length := by omega
    have eP : P[i.toNat]? = some P[i.toNat] := List.getElem?_eq_getElem il
    obtain ⟨p1, p2⟩ := hP _ _ eP
    unfold w_X10_plans_36
    rw [if_neg (by rw [z_le (by omega) (by omega) (by omega) (by omega)]; omega), z_iN (a := i) (by omega) (by omega), (hf 62 _ (by omega)).1, gI_out (by omega), p1, z_inc]
    refine ⟨z_in (by omega) (by omega) (by omega), z_in (by omega) (by omega) (by omega), ?_⟩
    rintro _ rfl
    refine ⟨z_in (by omega) (by omega) (by omega), z_in (by omega) (by omega) (by omega), ?_⟩
    rintro _ rfl
    rw [gI_out (by omega), (hf 63 _ (by omega)).1, gI_out (by omega), p2]
    refine hn _ ⟨fun c q hc => ((hf c q hc).sI (by omega)).sI (by omega), fun k q k0 e => ?_⟩
    by_cases c : k = i.toNat
    · rw [c, eP] at e
      injection e with e
      rw [← e, c, gI_out (by omega), gI_in rfl rfl, gI_in rfl rfl]
      exact ⟨rfl, rfl⟩
    · rw [gI_out (by omega), gI_out (by omega), gI_out (by omega), gI_out (by omega)]
      exact hK k q (by omega) e
  · rintro kb g ⟨hf, hK⟩
    unfold w_X10_plans_36
    rw [if_pos (by rw [z_le (by omega) (by omega) (by omega) (by omega)]; omega)]
    have F : ∀ c q, ¬ plC c q → At h g c q := fun c q hc => ((At.rf h c q).sI (by unfold plC at hc; omega)).tr (hf c q (by unfold plC at hc; omega))
    refine hq g F (hP.at' (fun c k hc => ((At.rf h c k).sI (by omega)).tr (hf c k (by omega)))) ⟨(fun x => by cases x), fun e P' x => ?_⟩
    injection x with x
    injection x with x1 x2
    subst x1 x2
    refine ⟨by rw [(hf 0 92 (by omega)).1, gI_in rfl rfl, e0], by rw [e0]; exact er, fun i q e => hK i q ?_ e⟩
    have := (List.getElem?_eq_some_iff.mp e).1
    omega
set_option maxHeartbeats 4000000 in
theorem m_plans (N : Now a) (hn1 : 1 ≤ a.n 6) : ∀ (k fuel : Nat) (mask : Int → Bool) (P : List (Int × Int)) (b : Option (Int × List (Int × Int))) (h : PH) (Q : PH → Prop) (x2 : Int32), k < fuel → P.length + k = (a.n 6).toNat → MT h a → BdM h a (48 * a.n 6) → PlM h P → OkP a P → BestM h b → (∀ l : Nat, l < 32 → bt x2 l = mask l) → (∀ g, (∀ c q, ¬ plC c q → At h g c q) → PlM g P → BestM g (dfs a (a.n 6).toNat k mask P b) → Q g) → RRP fuel (z P.length) x2 (z (enF a (-1) P)) h Q := by
  have n14 := N.2.2.2.2.2.2.2.2.2.2.2.2.2
  have nr := n14.1
  have n2 := N.2.2.2.2.2.2.2.2.2.2.1
  intro k
  induction k with
  | zero =>
    intro fuel mask P b h Q x2 hfu hlen M B hP ok hb hmask hq
    obtain ⟨f, rfl⟩ : ∃ f, fuel = f + 1 := ⟨fuel - 1, by omega⟩
    have e26 : gI h 2 6 = z (a.n 6) := M.1.2.2.2.2.2.1
    have hne : P ≠ [] := fun x => by rw [x] at hlen; simp at hlen; omega
    have er := enF_rg N P (-1) ok (by omega) (Or.inl hne)
    have e0 : enF a 0 P = enF a (-1) P := by
      have := enF_0 a P (-1)
      rw [show max (0 : Int) (-1) = 0 by omega] at this
      rw [this]; omega
    show w_X10_plans (RRP f) (z P.length) x2 (z (enF a (-1) P)) h Q
    unfold w_X10_plans
    rw [iN_6, e26, if_pos (by congr 1; omega)]
    have go : dfs a (a.n 6).toNat 0 mask P b = some (enF a 0 P, P) → w_X10_plans_28 (RRP f) Q (z P.length) (z (enF a (-1) P)) h := fun e => m_best N hP ok (by omega) hne (fun g f1 p1 b1 => hq g f1 p1 (by rw [e]; exact b1))
    cases b with
    | none =>
      rw [hb.1 rfl, if_pos (show z (-1) = -1 from rfl)]
      exact go rfl
    | some y =>
      obtain ⟨e1, P1⟩ := y
      obtain ⟨y1, y2, y3⟩ := hb.2 e1 P1 rfl
      have ed : dfs a (a.n 6).toNat 0 mask P (some (e1, P1)) = if enF a 0 P < e1 then some (enF a 0 P, P) else some (e1, P1) := rfl
      rw [y1, if_neg (show ¬ z e1 = -1 from z_ne (by omega) (by omega) (by decide) (by decide) (show e1 ≠ -1 by omega))]
      by_cases c : enF a (-1) P < e1
      · rw [if_pos (by rw [z_lt (by omega) (by omega) (by omega) (by omega)]; omega)]
        exact go (by rw [ed, if_pos (by omega)])
      · rw [if_neg (by rw [z_lt (by omega) (by omega) (by omega) (by omega)]; omega)]
        exact hq h (fun c q _ => At.rf h c q) hP (by rw [ed, if_neg (by omega)]; exact hb)
  | succ k ih =>
    intro fuel mask P b h Q x2 hfu hlen M B hP ok hb hmask hq
    obtain ⟨f, rfl⟩ : ∃ f, fuel = f + 1 := ⟨fuel - 1, by omega⟩
    have e26 : gI h 2 6 = z (a.n 6) := M.1.2.2.2.2.2.1
    have er := enF_r1 N P ok
    show w_X10_plans (RRP f) (z P.length) x2 (z (enF a (-1) P)) h Q
    unfold w_X10_plans
    rw [iN_6, e26, if_neg (z_ne (by omega) (by omega) (by omega) (by omega) (by omega))]
    refine for10 (a.n 6) (fun t g => (∀ c q, ¬ plC c q → At h g c q) ∧ PlM g P ∧ BestM g ((List.range t.toNat).foldl (fun b (t : Nat) => if mask (t : Int) = true then b else if est a P (t : Int) = -1 then b else dfs a (a.n 6).toNat k (mk1 mask (t : Int)) (P ++ [((t : Int), est a P t)]) b) b)) 0 rfl (by omega) (by omega) (by omega) ⟨fun c q _ => At.rf h c q, hP, hb⟩ ?_ ?_
    · rintro kb t g t0 t1 ⟨hf, hPg, hbg⟩ hk
      obtain ⟨o1, o2, o3, o4⟩ := n14.2.1 t t0 t1
      have Mg : MT g a := M.at' (fun c k b1 b2 => hf c k (by unfold plC; omega))
      have Bg : BdM g a (48 * a.n 6) := fun i i0 i1 => by rw [(hf 61 _ (by unfold plC; omega)).1]; exact B i i0 i1
      have u3 : gI g 25 t.toNat = z (a.f 6 2 t) := (Mg.2.2.2.2.2.2.1 t t0 t1).2.2.1
      have st : (List.range (t + 1).toNat).foldl (fun b (t : Nat) => if mask (t : Int) = true then b else if est a P (t : Int) = -1 then b else dfs a (a.n 6).toNat k (mk1 mask (t : Int)) (P ++ [((t : Int), est a P t)]) b) b = (fun b' => if mask t = true then b' else if est a P t = -1 then b' else dfs a (a.n 6).toNat k (mk1 mask t) (P ++ [(t, est a P t)]) b') ((List.range t.toNat).foldl (fun b (t : Nat) => if mask (t : Int) = true then b else if est a P (t : Int) = -1 then b else dfs a (a.n 6).toNat k (mk1 mask (t : Int)) (P ++ [((t : Int), est a P t)]) b) b) := by
        rw [show (t + 1).toNat = t.toNat + 1 by omega, List.range_succ, List.foldl_append]
        simp only [List.foldl_cons, List.foldl_nil, show ((t.toNat : Nat) : Int) = t by omega]
      rw [st] at hk
      clear st
      generalize (List.range t.toNat).foldl (fun b (t : Nat) => if mask (t : Int) = true then b else if est a P (t : Int) = -1 then b else dfs a (a.n 6).toNat k (mk1 mask (t : Int)) (P ++ [((t : Int), est a P t)]) b) b = b' at *
      have hk2 : ∀ g2, (∀ c q, ¬ plC c q → At h g2 c q) → PlM g2 P → BestM g2 (if mask t = true then b' else if est a P t = -1 then b' else dfs a (a.n 6).toNat k (mk1 mask t) (P ++ [(t, est a P t)]) b') → kb (z (t + 1)) g2 := fun g2 a1 a2 a3 => hk g2 ⟨a1, a2, a3⟩
      clear hk
      unfold w_X10_plans_80
      rw [iN_6, (hf 2 6 (by unfold plC; omega)).1, e26, if_neg (by rw [z_le (by omega) (by omega) (by omega) (by omega)]; omega), bitI t0 (by omega), hmask _ (by omega), show ((t.toNat : Nat) : Int) = t by omega, z_inc]
      cases hm : mask t with
      | true =>
        rw [if_pos (show z (if true = true then (1 : Int) else 0) = 1 from rfl)]
        exact hk2 g hf hPg (by rw [if_pos hm]; exact hbg)
      | false =>
        rw [if_neg (show ¬ z (if false = true then (1 : Int) else 0) = 1 by decide)]
        rw [if_neg (show ¬ mask t = true by rw [hm]; decide)] at hk2
        have lst : ∀ x : Int, 0 ≤ x → x ≤ 49 - a.f 6 2 t → (est a P t = -1 ∧ x = 49 - a.f 6 2 t) ∨ (est a P t = x ∧ x < 49 - a.f 6 2 t) → w_X10_plans_141 (RRP f) Q kb (z P.length) x2 (z (enF a (-1) P)) (z t) (z x) g := by
          intro x x0 x1 hx
          unfold w_X10_plans_141
          rw [z_iN (a := t) (by omega) (by omega), u3, z_add, zn_48, z_inc, z_inc]
          refine ⟨z_in (by omega) (by omega) (by omega), ?_⟩
          rcases hx with ⟨c1, c2⟩ | ⟨c1, c2⟩
          · rw [if_neg (by rw [z_le (by omega) (by omega) (by omega) (by omega)]; omega)]
            exact hk2 g hf hPg (by rw [if_pos c1]; exact hbg)
          · rw [if_pos (by rw [z_le (by omega) (by omega) (by omega) (by omega)]; omega)]
            rw [if_neg (by omega), c1] at hk2
            rw [z_iN (a := (P.length : Int)) (by omega) (by omega), show ((P.length : Int)).toNat = P.length by omega]
            refine ⟨z_in (by omega) (by omega) (by omega), ?_⟩
            rintro _ rfl
            refine ⟨z_in (by omega) (by omega) (by omega), ?_⟩
            rintro _ rfl
            rw [gI_out (by omega), gI_out (by omega), u3, z_add, show z (x + a.f 6 2 t) - 1 = z (x + a.f 6 2 t - 1) from by rw [zn_1, z_sub], z_mxI (by omega) (by omega) (by omega) (by omega)]
            refine ⟨z_in (by omega) (by omega) (by omega), ?_⟩
            have P2 := hPg.app (t := t) (x := x) (by omega)
            have e2 : max (enF a (-1) P) (x + a.f 6 2 t - 1) = enF a (-1) (P ++ [(t, x)]) := (enF_app a (-1) P (t, x)).symm
            have l2 : z ((P.length : Int) + 1) = z ((P ++ [(t, x)]).length : Nat) := by
              rw [List.length_append]; rfl
            rw [e2, l2]
            refine ih f (mk1 mask t) (P ++ [(t, x)]) b' _ _ _ (by omega) (by rw [List.length_append]; simp only [List.length_cons, List.length_nil]; omega) (Mg.at' (fun c k b1 b2 => ((At.rf g c k).sI (by omega)).sI (by omega))) (fun i i0 i1 => by rw [gI_out (by omega), gI_out (by omega)]; exact Bg i i0 i1) P2 (fun q hq => ?_) (hbg.at' (fun c k hc => ((At.rf g c k).sI (by omega)).sI (by omega))) (fun l hl => ?_) (fun g5 f5 p5 b5 => ?_)
            · rcases List.mem_append.mp hq with hq | hq
              · exact ok q hq
              · rw [List.mem_singleton.mp hq]
                exact ⟨⟨t0, t1⟩, x0, by simp only; omega⟩
            · rw [bt_on t0 (by omega) hl, hmask l hl]
              unfold mk1
              by_cases e : (l : Int) = t
              · rw [decide_eq_true e, decide_eq_true (by omega)]
              · rw [decide_eq_false e, decide_eq_false (by omega)]
            · refine hk2 g5 (fun c q hc => (((hf c q hc).sI (by unfold plC at hc; omega)).sI (by unfold plC at hc; omega)).tr (f5 c q hc)) p5.pre b5
        refine for10 (49 - a.f 6 2 t) (fun x g2 => g2 = g ∧ ∀ j, 0 ≤ j → j < x → opn a P t j = false) 0 rfl (by omega) (by omega) (by omega) ⟨rfl, fun j j0 j1 => by omega⟩ ?_ ?_
        · rintro kb3 x g2 x0 x1 ⟨e2, hJ⟩ hn3
          subst e2
          unfold w_X10_plans_108
          rw [z_iN (a := t) (by omega) (by omega), u3, z_add, zn_48, if_neg (by rw [z_lt (by omega) (by omega) (by omega) (by omega)]; omega), z_inc]
          refine ⟨z_in (by omega) (by omega) (by omega), ?_⟩
          refine m_isOpen Mg N Bg hPg ok (by omega) ⟨t0, t1⟩ ⟨x0, by omega⟩ ?_
          cases ho : opn a P t x with
          | false =>
            rw [if_pos (show z (bI false) = 0 from rfl)]
            exact hn3 g2 ⟨rfl, fun j j0 j1 => by
              by_cases e : j = x
              · rw [e]; exact ho
              · exact hJ j j0 (by omega)⟩
          | true =>
            rw [if_neg (show ¬ z (bI true) = 0 by decide)]
            exact lst x x0 (by omega) (Or.inr ⟨ff_yes x0 x1 ho hJ, x1⟩)
        · rintro kb3 g2 ⟨e2, hJ⟩
          subst e2
          unfold w_X10_plans_108
          rw [z_iN (a := t) (by omega) (by omega), u3, z_add, zn_48, if_pos (by rw [z_lt (by omega) (by omega) (by omega) (by omega)]; omega)]
          refine ⟨z_in (by omega) (by omega) (by omega), ?_⟩
          exact lst _ (by omega) (by omega) (Or.inl ⟨ff_no hJ, rfl⟩)
    · rintro kb g ⟨hf, hPg, hbg⟩
      unfold w_X10_plans_80
      rw [iN_6, (hf 2 6 (by unfold plC; omega)).1, e26, if_pos (by rw [z_le (by omega) (by omega) (by omega) (by omega)]; omega)]
      exact hq g hf hPg hbg
end PLREC
