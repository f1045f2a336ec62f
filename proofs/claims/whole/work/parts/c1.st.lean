/-! ===== an order's end, by the class ===== -/
def TkX (h : PH) (a : Wd) (P : List (Int × Int)) : Prop := ∀ o : Int, 0 ≤ o → o < 4 → ∃ v : Nat, gJ h 124 o.toNat = lN v ∧ v < 2 ^ 48 ∧ ∀ m : Int, 0 ≤ m → m < 48 → v.testBit m.toNat = tkn a P o m
def StX (h : PH) (P : List (Int × Int)) : Prop := ∀ (i : Nat) (q : Int × Int), P[i]? = some q → gI h 126 i = z q.2
theorem tkn_app (a : Wd) (P : List (Int × Int)) (q : Int × Int) (o m : Int) : tkn a (P ++ [q]) o m = (tkn a P o m || (decide (a.f 6 0 q.1 = o) && decide (q.2 ≤ m) && decide (m < q.2 + a.f 6 2 q.1))) := by
  unfold tkn
  rw [List.any_append]
  simp
theorem est_rg {a : Wd} {P : List (Int × Int)} {t : Int} (h : est a P t ≠ -1) (hl : 1 ≤ a.f 6 2 t ∧ a.f 6 2 t ≤ 12) : 0 ≤ est a P t ∧ est a P t + a.f 6 2 t ≤ 48 := by
  have := ff_rg (opn a P t) (n := 49 - a.f 6 2 t) (by omega)
  unfold est at *
  omega
section ENDO
variable {h : PH} {w : Nat} {a : Wd}
theorem getq {P : List (Int × Int)} {q q' : Int × Int} {i : Nat} (e : (P ++ [q])[i]? = some q') : (i < P.length ∧ P[i]? = some q') ∨ (i = P.length ∧ q' = q) := by
  rw [List.getElem?_append] at e
  by_cases c : i < P.length
  · rw [if_pos c] at e
    exact Or.inl ⟨c, e⟩
  · rw [if_neg c] at e
    by_cases c2 : i = P.length
    · rw [c2, Nat.sub_self] at e
      exact Or.inr ⟨c2, (Option.some.inj e).symm⟩
    · exfalso
      obtain ⟨k, hk⟩ : ∃ k, i - P.length = k + 1 := ⟨i - P.length - 1, by omega⟩
      rw [hk] at e
      cases e
set_option maxHeartbeats 2000000 in
theorem x_endOfOrder {Q : Int32 → PH → Prop} {n : Int} {L : List Int} (H : WX h w a) (N : Now a) (hw : w = 8 ∨ w = 31) (hn : 1 ≤ n ∧ n ≤ 4) (h6 : n = a.n 6) (B : BdX h a n) (O : OrX h n (fnL L)) (hL : L.length = n.toNat) (hLr : ∀ t ∈ L, 0 ≤ t ∧ t < n) (hq : ∀ g, (∀ c k, ¬ (c = 124 ∨ c = 126) → At h g c k) → (runP a L [] = none → Q (-2) g) ∧ (∀ P, runP a L [] = some P → StX g P → Q (z (enF a 0 P)) g)) : w_X4_endOfOrder w (z n) h Q := by
  have n2 := N.2.2.2.2.2.2.2.2.2.2.1
  have n14 := N.2.2.2.2.2.2.2.2.2.2.2.2.2
  unfold w_X4_endOfOrder
  refine for10 4 (fun o g => (∀ c k, ¬ (c = 124 ∨ c = 126) → At h g c k) ∧ ∀ o' : Int, 0 ≤ o' → o' < o → gJ g 124 o'.toNat = lN 0) 0 rfl (by omega) (by omega) (by omega) ⟨fun c k _ => At.rf h c k, fun o o0 o1 => by omega⟩ ?_ ?_
  · rintro kb o g o0 o1 ⟨hf, hJ⟩ hk
    unfold w_X4_endOfOrder_2
    rw [zn_4, if_neg (by rw [z_le (by omega) (by omega) (by omega) (by omega)]; omega), z_inc, z_iN (a := o) (by omega) (by omega)]
    refine ⟨z_in (by omega) (by omega) (by omega), ?_⟩
    rintro _ rfl
    refine hk _ ⟨fun c k hc => (hf c k hc).sJ (by omega), fun o' p0 p1 => ?_⟩
    by_cases e : o' = o
    · rw [e, gJ_in rfl rfl]; rfl
    · rw [gJ_out (by omega)]; exact hJ o' p0 (by omega)
  · rintro kb g ⟨hf, hJ⟩
    unfold w_X4_endOfOrder_2
    rw [zn_4, if_pos (by rw [z_le (by omega) (by omega) (by omega) (by omega)]; omega)]
    have T0 : TkX g a [] := fun o o0 o1 => ⟨0, hJ o o0 o1, by decide, fun m m0 m1 => by rw [Nat.zero_testBit]; rfl⟩
    refine for21 n (fun i x g => ∃ P : List (Int × Int), (∀ c k, ¬ (c = 124 ∨ c = 126) → At h g c k) ∧ (P.length : Int) = i ∧ runP a L [] = runP a (L.drop i.toNat) P ∧ TkX g a P ∧ StX g P ∧ x = z (enF a 0 P) ∧ (0 ≤ enF a 0 P ∧ enF a 0 P ≤ 47)) 0 rfl (by omega) (by omega) (by omega) ⟨[], hf, rfl, rfl, T0, (fun i q e => by cases e), rfl, by show 0 ≤ (0 : Int) ∧ (0 : Int) ≤ 47; omega⟩ ?_ ?_
    · clear T0 hJ hf g
      rintro kb2 i _ g i0 i1 ⟨P, hf, hPl, hr, hT, hS, rfl, he⟩ hk
      have il : i.toNat < L.length := by omega
      have hd : L.drop i.toNat = L[i.toNat] :: L.drop (i.toNat + 1) := List.drop_eq_getElem_cons il
      have hfn : fnL L i = L[i.toNat] := by
        unfold fnL
        rw [List.getD_eq_getElem?_getD, List.getElem?_eq_getElem il]; rfl
      have hm : L[i.toNat] ∈ L := List.getElem_mem il
      rw [← hfn] at hd hm
      have tr := hLr _ hm
      obtain ⟨t1, t2, t3, t4⟩ := n14.2.1 (fnL L i) tr.1 (by omega)
      have Hg : WX g w a := H.at' (fun c k b1 b2 b3 b4 b5 b6 => hf c k (by omega))
      have eo : gI g 125 i.toNat = z (fnL L i) := by rw [(hf 125 _ (by omega)).1]; exact O i i0 i1
      obtain ⟨v1, e1, b1, c1⟩ := B (fnL L i) tr.1 tr.2
      obtain ⟨v2, e2, b2, c2⟩ := hT (a.f 6 0 (fnL L i)) t1.1 (by omega)
      rw [hd] at hr
      have hr2 : runP a L [] = if est a P (fnL L i) = -1 then none else runP a (L.drop (i.toNat + 1)) (P ++ [(fnL L i, est a P (fnL L i))]) := hr
      have hr3 : (fnL L i : Int) = fnL L i := rfl
      generalize fnL L i = t at *
      unfold w_X4_endOfOrder_25
      rw [zn_4, if_neg (by rw [z_le (by omega) (by omega) (by omega) (by omega)]; omega), if_neg (by rw [z_le (by omega) (by omega) (by omega) (by omega)]; omega), z_inc, z_iN (a := i) (by omega) (by omega), eo]
      refine ⟨z_in (by omega) (by omega) (by omega), ?_⟩
      rintro _ rfl
      refine Hg.at 6 0 (by decide) rfl (by decide) rfl rfl tr.1 (by omega) ?_
      refine Hg.at 6 2 (by decide) rfl (by decide) rfl rfl tr.1 (by omega) ?_
      rw [zn_0, if_neg (by rw [z_lt (by omega) (by omega) (by omega) (by omega)]; omega), if_neg (by rw [z_le (by omega) (by omega) (by omega) (by omega)]; omega), if_neg (by rw [z_lt (by omega) (by omega) (by omega) (by omega)]; omega), if_pos (by rw [z_lt (by omega) (by omega) (by omega) (by omega)]; omega), z_iN (a := t) (by omega) (by omega), z_iN (a := a.f 6 0 t) (by omega) (by omega)]
      refine ⟨z_in (by omega) (by omega) (by omega), z_in (by omega) (by omega) (by omega), ?_⟩
      rw [(hf 123 _ (by omega)).2.1, e1, e2, l_or]
      refine x_earliest (f := fun m => bad a t m || tkn a P (a.f 6 0 t) m) t3 (Nat.or_lt_two_pow b1 b2) (fun m m0 m1 => by rw [Nat.testBit_or, c1 m m0 m1, c2 m m0 m1]) (fun r hr4 => ?_)
      have er : r = est a P t := by rw [hr4]; rfl
      by_cases c : est a P t = -1
      · rw [er, if_pos c, if_pos (show z (-2) = -2 from rfl)]
        rw [if_pos c] at hr2
        exact (hq g hf).1 hr2
      · have eg := est_rg c t3
        rw [er, if_neg c, if_neg (show ¬ z (est a P t) = -2 from z_ne (by omega) (by omega) (by decide) (by decide) (show est a P t ≠ -2 by omega))]
        rw [if_neg c] at hr2
        refine ⟨z_in (by omega) (by omega) (by omega), ?_⟩
        rintro _ rfl
        refine ⟨z_in (by omega) (by omega) (by omega), z_in (by omega) (by omega) (by omega), ?_⟩
        rintro _ rfl
        rintro _ rfl
        rw [show gJ (sI g 126 i.toNat (z (est a P t))) 124 (a.f 6 0 t).toNat = lN v2 from e2, l_msk (by omega) eg.1 (by omega), l_or, z_add, zn_1, z_sub, z_mxI (by omega) (by omega) (by omega) (by omega)]
        refine hk _ _ ⟨P ++ [(t, est a P t)], fun c k hc => ((hf c k hc).sI (by omega)).sJ (by omega), by rw [List.length_append]; simp; omega, by rw [hr2, show (i + 1).toNat = i.toNat + 1 by omega], fun o o0 o1 => ?_, fun k q e => ?_, by rw [enF_app], by rw [enF_app]; simp only; omega⟩
        · by_cases e : o = a.f 6 0 t
          · refine ⟨_, by rw [e, gJ_in rfl rfl], Nat.or_lt_two_pow b2 (msk_lt (by omega) eg.1 (by omega)), fun m m0 m1 => ?_⟩
            rw [Nat.testBit_or, c2 m m0 m1, msk_bit, tkn_app, e, decide_eq_true rfl, Bool.true_and]
            congr 1
            by_cases d1 : est a P t ≤ m
            · rw [decide_eq_true d1, decide_eq_true (by omega)]
              by_cases d2 : m < est a P t + a.f 6 2 t
              · rw [decide_eq_true d2, decide_eq_true (by omega)]
              · rw [decide_eq_false d2, decide_eq_false (by omega)]
            · rw [decide_eq_false d1, decide_eq_false (by omega)]; rfl
          · obtain ⟨v3, e3, b3, c3⟩ := hT o o0 o1
            refine ⟨v3, by rw [gJ_out (by omega)]; exact e3, b3, fun m m0 m1 => ?_⟩
            rw [c3 m m0 m1, tkn_app, decide_eq_false (fun x => e x.symm : ¬ a.f 6 0 (t, est a P t).1 = o)]
            simp
        · show gI (sI g 126 i.toNat (z (est a P t))) 126 k = _
          rcases getq e with ⟨d1, d2⟩ | ⟨d1, d2⟩
          · rw [gI_out (by omega)]
            exact hS k q d2
          · rw [d2, gI_in rfl (by omega)]
    · clear T0 hJ hf g
      rintro kb2 _ g ⟨P, hf, hPl, hr, hT, hS, rfl, he⟩
      unfold w_X4_endOfOrder_25
      rw [if_pos (by rw [z_le (by omega) (by omega) (by omega) (by omega)]; omega)]
      refine (hq g hf).2 P ?_ hS
      rw [hr, show L.drop n.toNat = [] from List.drop_eq_nil_of_le (by omega)]
      rfl
end ENDO
