/-! ===== worlds alike but for coins, the minute, the mark ===== -/
def SA (a b : Wd) : Prop := (∀ r, r ≠ 9 → b.n r = a.n r) ∧ (∀ r c k, ¬ (r = 2 ∧ c = 1) → ¬ (r = 7 ∧ c = 2) → b.f r c k = a.f r c k) ∧ b.fd = a.fd ∧ b.wo = a.wo
theorem SA.rf (a : Wd) : SA a a := ⟨fun _ _ => rfl, fun _ _ _ _ _ => rfl, rfl, rfl⟩
theorem SA.sy {a b : Wd} (S : SA a b) : SA b a := ⟨fun r hr => (S.1 r hr).symm, fun r c k h1 h2 => (S.2.1 r c k h1 h2).symm, S.2.2.1.symm, S.2.2.2.symm⟩
theorem SA.tr {a b c : Wd} (S : SA a b) (T : SA b c) : SA a c := ⟨fun r hr => (T.1 r hr).trans (S.1 r hr), fun r d k h1 h2 => (T.2.1 r d k h1 h2).trans (S.2.1 r d k h1 h2), T.2.2.1.trans S.2.2.1, T.2.2.2.trans S.2.2.2⟩
theorem SA.up {a : Wd} {f : Int → Int} : SA a (upF a 2 1 f) := ⟨fun _ _ => rfl, fun r c k h1 _ => upF_out h1, rfl, rfl⟩
theorem SA.up7 {a : Wd} {f : Int → Int} : SA a (upF a 7 2 f) := ⟨fun _ _ => rfl, fun r c k _ h2 => upF_out h2, rfl, rfl⟩
section SAx
variable {a b : Wd}
theorem ini_sa (S : SA a b) (g : Int) : ∀ l : Nat, ini b g l = ini a g l
  | 0 => rfl
  | l + 1 => by
    funext p q
    show (if (l : Int) ≠ g ∧ ((p = b.f 1 0 l ∧ q = b.f 1 1 l) ∨ (p = b.f 1 1 l ∧ q = b.f 1 0 l)) then b.f 1 2 l + b.f 1 3 l * b.f 7 0 0 else ini b g l p q) = (if (l : Int) ≠ g ∧ ((p = a.f 1 0 l ∧ q = a.f 1 1 l) ∨ (p = a.f 1 1 l ∧ q = a.f 1 0 l)) then a.f 1 2 l + a.f 1 3 l * a.f 7 0 0 else ini a g l p q)
    rw [ini_sa S g l, S.2.1 1 0 l (by decide) (by decide), S.2.1 1 1 l (by decide) (by decide), S.2.1 1 2 l (by decide) (by decide), S.2.1 1 3 l (by decide) (by decide), S.2.1 7 0 0 (by decide) (by decide)]
theorem far_sa (S : SA a b) (g : Int) : far b g = far a g := by
  unfold far
  rw [S.1 1 (by decide), S.1 0 (by decide), ini_sa S]
theorem rem_sa (S : SA a b) (x y m : Int) : rem b x y m = rem a x y m := by unfold rem; rw [S.2.2.1]
theorem car_sa (S : SA a b) (F : Int → Int → Int) (p l q m : Int) : car b F p l q m = car a F p l q m := by unfold car; rw [rem_sa S]
theorem hr_sa (S : SA a b) (F : Int → Int → Int) (n p m : Int) : hr b F n p m = hr a F n p m := by
  unfold hr
  rw [S.2.1 3 2 n (by decide) (by decide), S.2.1 3 3 n (by decide) (by decide), S.2.1 3 5 n (by decide) (by decide), S.2.1 3 0 n (by decide) (by decide), S.2.1 3 4 n (by decide) (by decide), car_sa S]
theorem fst_sa (S : SA a b) (F : Int → Int → Int) (p m : Int) : fst b F p m = fst a F p m := by
  unfold fst
  rw [S.1 3 (by decide)]
  exact ff_cong (fun n _ _ => hr_sa S F n p m)
theorem clm_sa (S : SA a b) (p m : Int) : clm b p m = clm a p m := by
  unfold clm
  rw [S.1 4 (by decide)]
  exact ff_cong (fun n _ _ => by rw [S.2.1 4 1 n (by decide) (by decide), S.2.1 4 2 n (by decide) (by decide), S.2.1 4 3 n (by decide) (by decide)])
theorem clo_sa (S : SA a b) (p m : Int) : clo b p m = clo a p m := by
  unfold clo
  rw [clm_sa S, S.2.1 4 0 _ (by decide) (by decide)]
theorem lst_sa (S : SA a b) (F : Int → Int → Int) (p : Int) : ∀ m, lst b F p m = lst a F p m
  | 0 => rfl
  | m + 1 => by
    show (if fst b F p m = -1 then lst b F p m else b.f 3 1 (fst b F p m)) = (if fst a F p m = -1 then lst a F p m else a.f 3 1 (fst a F p m))
    rw [fst_sa S, lst_sa S F p m, S.2.1 3 1 _ (by decide) (by decide)]
theorem whs_sa (S : SA a b) (F : Int → Int → Int) (p m : Int) : whs b F p m = whs a F p m := by
  unfold whs
  rw [fst_sa S, clo_sa S, lst_sa S]
theorem hasR_sa (S : SA a b) (o p m : Int) : hasR b o p m = hasR a o p m := by
  unfold hasR
  rw [S.1 5 (by decide)]
  rw [show ff (fun r => decide (b.f 5 0 r = o) && decide (b.f 5 1 r = p) && decide (b.f 5 2 r ≤ m) && decide (m ≤ b.f 5 3 r)) (a.n 5) = ff (fun r => decide (a.f 5 0 r = o) && decide (a.f 5 1 r = p) && decide (a.f 5 2 r ≤ m) && decide (m ≤ a.f 5 3 r)) (a.n 5) from ff_cong (fun n _ _ => by rw [S.2.1 5 0 n (by decide) (by decide), S.2.1 5 1 n (by decide) (by decide), S.2.1 5 2 n (by decide) (by decide), S.2.1 5 3 n (by decide) (by decide)])]
theorem agn_sa (S : SA a b) (o p m : Int) : agn b o p m = agn a o p m := by
  unfold agn
  rw [clo_sa S, hasR_sa S]
theorem AirX.sa {h : PH} {t : Nat} {F : Int → Int → Int} (S : SA a b) (A : AirX h t a F) : AirX h t b F := by
  obtain ⟨a1, a2, a3, a4, a5⟩ := A
  refine ⟨a1, fun n p c1 c2 c3 c4 => ?_, fun p c1 c2 => ?_, fun p m c1 c2 c3 c4 => ?_, fun p m c1 c2 c3 c4 => ?_⟩
  · rw [S.1 3 (by decide)] at c2
    rw [S.1 0 (by decide)] at c4
    exact (a2 n p c1 c2 c3 c4).ext (fun m _ _ => (hr_sa S F n p m).symm)
  · exact (a3 p c1 c2).ext (fun m _ _ => by rw [S.1 0 (by decide), fst_sa S])
  · rw [clo_sa S]; exact a4 p m c1 c2 c3 c4
  · rw [S.1 0 (by decide)] at c2
    rw [whs_sa S]; exact a5 p m c1 c2 c3 c4
end SAx
section SAy
variable {a b : Wd}
theorem a_far_sa (S : SA a b) (p q : Int) : a_far b p q = a_far a p q := by unfold a_far; rw [S.1 0 (by decide), far_sa S]
theorem a_heard_sa (S : SA a b) (p m : Int) : a_heard b p m = a_heard a p m := by unfold a_heard; rw [S.1 0 (by decide), far_sa S, fst_sa S]
theorem a_whose_sa (S : SA a b) (p m : Int) : a_whose b p m = a_whose a p m := by unfold a_whose; rw [S.1 0 (by decide), far_sa S, whs_sa S]
theorem silF_sa (S : SA a b) (p : Int) : silF b p = silF a p := by
  funext m
  unfold silF
  rw [far_sa S, fst_sa S]
theorem a_hush_sa (S : SA a b) (p : Int) : a_hush b p = a_hush a p := by unfold a_hush; rw [S.1 0 (by decide), silF_sa S]
theorem silAll_sa (S : SA a b) (F : Int → Int → Int) : silAll b F = silAll a F := by
  unfold silAll
  rw [S.1 0 (by decide)]
  exact sm_cong (fun k _ _ => by unfold sil; rw [fst_sa S])
theorem SA.upb (S : SA a b) {r c : Nat} {f g : Int → Int} (e : ∀ k, g k = f k) : SA (upF a r c f) (upF b r c g) := by
  refine ⟨S.1, fun r' c' k h1 h2 => ?_, S.2.2.1, S.2.2.2⟩
  by_cases er : r' = r ∧ c' = c
  · obtain ⟨rfl, rfl⟩ := er
    rw [upF_in, upF_in, e]
  · rw [upF_out er, upF_out er]
    exact S.2.1 r' c' k h1 h2
theorem SA.adb (S : SA a b) {f : Nat → Int} : SA (adR a 3 f) (adR b 3 f) := by
  have e3 := S.1 3 (by decide)
  refine ⟨fun r hr => ?_, fun r' c' k h1 h2 => ?_, S.2.2.1, S.2.2.2⟩
  · by_cases er : r = 3
    · subst er; rw [adR_n, adR_n, e3]
    · rw [adR_n' er, adR_n' er]; exact S.1 r hr
  · by_cases er : r' = 3 ∧ k = a.n 3
    · obtain ⟨rfl, rfl⟩ := er
      have e4 : (adR b 3 f).f 3 c' (a.n 3) = f c' := if_pos ⟨rfl, e3.symm⟩
      rw [e4, adR_in]
    · rw [adR_out er, adR_out (by rw [e3]; exact er)]
      exact S.2.1 r' c' k h1 h2
theorem soft_sa (S : SA a b) : SA (soft a) (soft b) := (S.upb (fun k => by rw [S.2.1 3 4 k (by decide) (by decide)])).upb (fun k => by rw [S.2.1 3 4 k (by decide) (by decide), S.2.1 3 5 k (by decide) (by decide)])
theorem tw_sa (S : SA a b) (k i : Int) : SA (tw a k i) (tw b k i) := by
  unfold tw
  by_cases c0 : k = 0
  · rw [if_pos c0, if_pos c0]; exact S.upb (fun _ => rfl)
  · rw [if_neg c0, if_neg c0]
    by_cases c1 : k = 1
    · rw [if_pos c1, if_pos c1]; exact S.upb (fun j => by rw [S.2.1 3 5 j (by decide) (by decide)])
    · rw [if_neg c1, if_neg c1]
      by_cases c2 : k = 2
      · rw [if_pos c2, if_pos c2]; exact S.upb (fun j => by rw [S.2.1 3 5 j (by decide) (by decide), S.2.1 3 1 j (by decide) (by decide)])
      · rw [if_neg c2, if_neg c2]
        by_cases c3 : k = 3
        · rw [if_pos c3, if_pos c3]; exact soft_sa S
        · rw [if_neg c3, if_neg c3]
          by_cases c5 : k = 5
          · rw [if_pos c5, if_pos c5]; exact S.adb
          · rw [if_neg c5, if_neg c5]; exact S
theorem canT_sa (S : SA a b) (k i : Int) : canT b k i = canT a k i := by unfold canT; rw [S.1 3 (by decide), S.1 2 (by decide), S.1 1 (by decide), S.1 0 (by decide)]
theorem a_tried_sa (S : SA a b) (k i : Int) : a_tried b k i = a_tried a k i := by unfold a_tried; rw [canT_sa S, far_sa (tw_sa S k i), silAll_sa (tw_sa S k i)]
end SAy
