/-! ===== the reader of the class: a law ===== -/
def wtk (h : PH) : List Int → Prop
  | [] => True
  | o :: st => gI h 7 st.length = z o ∧ wtk h st
theorem wtk_cong {h g : PH} : ∀ {st : List Int}, (∀ k, k < st.length → gI g 7 k = gI h 7 k) → wtk h st → wtk g st
  | [], _, _ => trivial
  | o :: st, e, ⟨a, b⟩ => ⟨by rw [e _ (by simp)]; exact a, wtk_cong (fun k hk => e k (by simp; omega)) b⟩
def LwX (h : PH) (v : Nat) (T : Int → Int) (L : Int) (s : PS) (k : Int) (st : List Int) (o c : Int) (out : List Int) : Prop := RdS h v T L (s.lay k out c) ∧ gI h 2 4 = z st.length ∧ wtk h st ∧ gI h 2 5 = z o
theorem kat_app {ks : List Int} {x : Int} {i : Nat} (h : i < ks.length) : kat (ks ++ [x]) i = kat ks i := by
  unfold kat
  rw [List.getD_eq_getElem?_getD, List.getD_eq_getElem?_getD, List.getElem?_append_left h]
theorem kat_new {ks : List Int} {x : Int} : kat (ks ++ [x]) ks.length = x := by
  unfold kat
  rw [List.getD_eq_getElem?_getD, List.getElem?_append_right (Nat.le_refl _), Nat.sub_self]
  rfl
theorem rk_tab : ∀ o : Fin 14, sRANKS (iN (z ((o.val : Nat) : Int))) = z (rk ((o.val : Nat) : Int)) := by decide +kernel
theorem rk_at {o : Int} (h : 0 ≤ o ∧ o ≤ 13) : sRANKS (iN (z o)) = z (rk o) := by
  have := rk_tab ⟨o.toNat, by omega⟩
  simp only [show ((o.toNat : Nat) : Int) = o by omega] at this
  exact this
theorem LX_app {h g : PH} {t : Nat} {ks : List Int} {x : Int} (l : LX h t ks) (hl : ks.length < 64) (e3 : gI g t 3 = z ((ks.length : Int) + 1)) (e4 : gI g t 4 = z (if -3 ∈ ks then 1 else if x = -3 then 1 else 0)) (en : gI g (t + 1) ks.length = z x) (eo : ∀ i, i ≠ ks.length → gI g (t + 1) i = gI h (t + 1) i) : LX g t (ks ++ [x]) := by
  obtain ⟨l1, l2, l3⟩ := l
  have e : (((ks ++ [x]).length : Nat) : Int) = (ks.length : Int) + 1 := by simp
  refine ⟨by rw [e, e3], fun i hi => ?_, ?_⟩
  · by_cases c : i = ks.length
    · rw [c, en, kat_new]
    · have hi' : i < ks.length := by
        have : (ks ++ [x]).length = ks.length + 1 := by simp
        omega
      rw [eo i c, l2 i hi', kat_app hi']
  · rw [e4]
    congr 1
    by_cases c : -3 ∈ ks
    · rw [if_pos c, if_pos (List.mem_append.mpr (Or.inl c))]
    · rw [if_neg c]
      by_cases c2 : x = -3
      · rw [if_pos c2, if_pos (List.mem_append.mpr (Or.inr (by rw [c2]; exact List.mem_singleton.mpr rfl)))]
      · rw [if_neg c2, if_neg (fun y => (List.mem_append.mp y).elim c (fun w => c2 (List.mem_singleton.mp w).symm))]
section LAWX
variable {h g : PH} {v t : Nat} {T : Int → Int} {L p k o c : Int} {s : PS} {st out : List Int}
theorem LwX.at' (W : LwX h v T L s k st o c out) (e : ∀ a b, ¬ (a = 3 ∧ 3 ≤ b ∧ b ≤ 6) → At h g a b) : LwX g v T L s k st o c out := by
  obtain ⟨w1, w2, w3, w4⟩ := W
  exact ⟨w1.at' (fun a b hc => e a b (by unfold stC at hc; omega)), by rw [(e 2 4 (by omega)).1]; exact w2, wtk_cong (fun b _ => (e 7 b (by omega)).1) w3, by rw [(e 2 5 (by omega)).1]; exact w4⟩
theorem lay_fd {s : PS} {k : Int} {out : List Int} {c : Int} : (s.lay k out c).a.fd = if k = 0 then out else s.a.fd := rfl
theorem lay_wo {s : PS} {k : Int} {out : List Int} {c : Int} : (s.lay k out c).a.wo = if k = 0 then s.a.wo else out := rfl
theorem x_ladd {Q : PH → Prop} {x : Int32} {kn : Int} (hk : (k = 0 ∧ t = v + 15) ∨ (k = 1 ∧ t = v + 19)) (W : LwX h v T L s k st o c out) (hl : out.length < 64) (ex : x = z kn) (hkn : kok kn) (hq : ∀ g, LwX g v T L s k st o c (out ++ [kn]) → (∀ a b, ¬ (a = t ∨ a = t + 1) → At h g a b) → Q g) : w_X1_add t x h Q := by
  subst ex
  obtain ⟨w1, w2, w3, w4⟩ := W
  have w1' := w1
  obtain ⟨r1, r2, r3, r4, r5, r6⟩ := w1'
  obtain ⟨m1, m2, m3, m4, m5, m6⟩ := r4
  have lx : LX h t out := by
    rcases hk with ⟨rfl, rfl⟩ | ⟨rfl, rfl⟩
    · exact m2
    · exact m3
  have kr : -1000 ≤ kn ∧ kn ≤ 10000 := by unfold kok at hkn; omega
  have go : ∀ f : Int, f = (if -3 ∈ out then 1 else if kn = -3 then 1 else 0) → (z f = 0 ∨ z f = 1) → w_X1_add_19 t Q (z kn) (z f) h := fun f ef hf => by
    unfold w_X1_add_19
    refine ⟨hf, ?_⟩
    rintro _ rfl
    rw [gI_out (by omega), lx.1, zn_64, if_neg (by rw [z_le (by omega) (by omega) (by omega) (by omega)]; omega), z_iN (by omega) (by omega)]
    refine ⟨z_in (by omega) (by omega) (by omega), ?_⟩
    rintro _ rfl _ rfl
    rw [gI_out (by omega), gI_out (by omega), lx.1, z_inc, show (((out.length : Nat) : Int)).toNat = out.length by omega]
    have fr : ∀ a b, ¬ (a = t ∨ a = t + 1) → At h (sI (sI (sI h t 4 (z f)) (t + 1) out.length (z kn)) t 3 (z ((out.length : Int) + 1))) a b := fun a b hc => (((At.rf h a b).sI (by omega)).sI (by omega)).sI (by omega)
    have LN : LX (sI (sI (sI h t 4 (z f)) (t + 1) out.length (z kn)) t 3 (z ((out.length : Int) + 1))) t (out ++ [kn]) := LX_app lx hl (gI_in rfl rfl) (by rw [gI_out (by omega), gI_out (by omega), gI_in rfl rfl, ef]) (by rw [gI_out (by omega), gI_in rfl rfl]) (fun i hi => by rw [gI_out (by omega), gI_out (by omega), gI_out (by omega)])
    clear lx
    generalize sI (sI (sI h t 4 (z f)) (t + 1) out.length (z kn)) t 3 (z ((out.length : Int) + 1)) = g at *
    refine hq g ⟨⟨r1, by rw [(fr 2 7 (by omega)).2.2]; exact r2, r3.at' (fun a b hc => fr a b (by omega)), ⟨fun r hr => ⟨(m1 r hr).1.at' (fun b => fr _ b (by omega)), fun j b b1 b2 b3 => ?_⟩, ?_, ?_, ?_, ?_, ?_⟩, fun i hi => by rw [(fr 6 i (by omega)).1]; exact r5 i hi, by rw [(fr 2 6 (by omega)).1]; exact r6⟩, by rw [(fr 2 4 (by omega)).1]; exact w2, wtk_cong (fun b _ => (fr 7 b (by omega)).1) w3, by rw [(fr 2 5 (by omega)).1]; exact w4⟩ fr
    · rw [(fr _ _ (by omega)).1]; exact (m1 r hr).2 j b b1 b2 b3
    · rcases hk with ⟨rfl, rfl⟩ | ⟨rfl, rfl⟩
      · exact LN
      · exact m2.at' (fun a b b1 b2 => fr a b (by omega))
    · rcases hk with ⟨rfl, rfl⟩ | ⟨rfl, rfl⟩
      · exact m3.at' (fun a b b1 b2 => fr a b (by omega))
      · exact LN
    · rw [(fr _ _ (by omega)).1]; exact m4
    · rw [(fr _ _ (by omega)).1]; exact m5
    · rw [(fr _ _ (by omega)).1]; exact m6
  unfold w_X1_add
  rw [lx.2.2]
  by_cases c1 : -3 ∈ out
  · rw [if_pos c1, if_neg (show ¬ z 1 = 0 by decide)]
    unfold w_X1_add_14
    exact go 1 (by rw [if_pos c1]) (Or.inr rfl)
  · rw [if_neg c1, if_pos (show z 0 = 0 from rfl)]
    by_cases c2 : kn = -3
    · rw [if_pos (by rw [c2]; rfl)]
      unfold w_X1_add_14
      exact go 1 (by rw [if_neg c1, if_pos c2]) (Or.inr rfl)
    · rw [if_neg (show ¬ z kn = -3 from z_ne (by omega) (by omega) (by decide) (by decide) c2)]
      exact go 0 (by rw [if_neg c1, if_neg c2]) (Or.inl rfl)
theorem x_lastRank {Q : Int32 → PH → Prop} (W : LwX h v T L s k st o c out) (hw : okw st) (hl : st.length ≤ 72) (hq : Q (z (top st)) h) : w_X5_lastRank h Q := by
  obtain ⟨-, w2, w3, -⟩ := W
  unfold w_X5_lastRank
  rw [w2]
  cases st with
  | nil =>
    rw [if_pos (show z (([] : List Int).length : Int) ≤ 0 by decide)]
    exact hq
  | cons a u =>
    have e : (((a :: u).length : Nat) : Int) = (u.length : Int) + 1 := by simp
    have hl' : u.length + 1 ≤ 72 := by simpa using hl
    rw [e, zn_0, if_neg (by rw [z_le (by omega) (by omega) (by omega) (by omega)]; omega), zn_72, if_neg (by rw [z_lt (by omega) (by omega) (by omega) (by omega)]; omega), zn_1, z_sub, show (u.length : Int) + 1 - 1 = (u.length : Int) by omega, z_iN (by omega) (by omega), show (((u.length : Nat) : Int)).toNat = u.length by omega, w3.1, rk_at hw.1]
    have a13 := hw.1
    exact ⟨z_in (by omega) (by omega) (by omega), z_in (by omega) (by omega) (by omega), hq⟩
theorem x_release {Q : PH → Prop} {x : Int32} {r : Int} (hk : (k = 0 ∧ t = v + 15) ∨ (k = 1 ∧ t = v + 19)) (W : LwX h v T L s k st o c out) (hw : okw st) (hl : st.length ≤ 72) (hn : no st + out.length ≤ 64) (ex : x = z r) (hr : 1 ≤ r ∧ r ≤ 7) (hq : ∀ g, LwX g v T L s k (rlS r st) o c (rlO r st out) → (∀ a b, ¬ (a = t ∨ a = t + 1 ∨ (a = 2 ∧ b = 4)) → At h g a b) → Q g) : w_X5_release t x h Q := by
  subst ex
  have hv := W.1.1
  unfold w_X5_release
  refine lp0_i (fun g => ∃ st' out', LwX g v T L s k st' o c out' ∧ (∀ a b, ¬ (a = t ∨ a = t + 1 ∨ (a = 2 ∧ b = 4)) → At h g a b) ∧ okw st' ∧ st'.length ≤ 72 ∧ no st' + out'.length ≤ 64 ∧ rlS r st' = rlS r st ∧ rlO r st' out' = rlO r st out) (fun g => (gI g 2 4).toInt.toNat) ?_ h ⟨st, out, W, fun a b _ => At.rf h a b, hw, hl, hn, rfl, rfl⟩
  rintro kb g ⟨st', out', W', fr, hw', hl', hn', e1, e2⟩ hx
  have fin : rlS r st' = st' → rlO r st' out' = out' → Q g := fun a b => by
    rw [a] at e1
    rw [b] at e2
    rw [e1, e2] at W'
    exact hq g W' fr
  unfold w_X5_release_0
  rw [W'.2.1]
  cases st' with
  | nil =>
    rw [if_pos (show z (([] : List Int).length : Int) ≤ 0 by decide)]
    exact fin rfl rfl
  | cons a u =>
    have e : (((a :: u).length : Nat) : Int) = (u.length : Int) + 1 := by simp
    have hl2 : u.length + 1 ≤ 72 := by simpa using hl'
    have eS : rlS r (a :: u) = if r ≤ rk a then rlS r u else a :: u := rfl
    have eO : rlO r (a :: u) out' = if r ≤ rk a then rlO r u (out' ++ [-10 - a]) else out' := rfl
    have ra := rk_rg a
    rw [e, zn_0, if_neg (by rw [z_le (by omega) (by omega) (by omega) (by omega)]; omega)]
    refine x_lastRank W' hw' hl' ?_
    rw [show top (a :: u) = rk a from rfl]
    by_cases cr : r ≤ rk a
    · rw [if_neg (by rw [z_lt (by omega) (by omega) (by omega) (by omega)]; omega)]
      rw [if_pos cr] at eS eO
      have a12 := rk_n13 (o := a) (by omega) hw'.1.2
      have a0 := hw'.1.1
      have eno : no (a :: u) = 1 + no u := by
        show (if a = 13 then (0 : Int) else 1) + no u = _
        rw [if_neg (by omega)]
      have nu := no_rg u
      rintro _ rfl
      rw [W'.2.1, e, zn_1, z_sub, show (u.length : Int) + 1 - 1 = (u.length : Int) by omega, gI_in rfl rfl, z_iN (by omega) (by omega), show (((u.length : Nat) : Int)).toNat = u.length by omega, gI_out (by omega), W'.2.2.1.1]
      refine ⟨z_in (by omega) (by omega) (by omega), ?_⟩
      have fr1 : ∀ x y, ¬ (x = 2 ∧ y = 4) → At g (sI g 2 4 (z (u.length : Int))) x y := fun x y hc => (At.rf g x y).sI hc
      have W1 : LwX (sI g 2 4 (z (u.length : Int))) v T L s k u o c out' := ⟨W'.1.at' (fun x y hc => fr1 x y (by unfold stC at hc; omega)), gI_in rfl rfl, wtk_cong (fun b _ => (fr1 7 b (by omega)).1) W'.2.2.1.2, by rw [gI_out (by omega)]; exact W'.2.2.2⟩
      refine x_ladd (kn := -10 - a) hk W1 (by omega) (by rw [show (-10 : Int32) = z (-10) from rfl, z_sub]) (Or.inr (Or.inr (by omega))) (fun g2 W2 f2 => ?_)
      refine hx g2 ⟨u, out' ++ [-10 - a], W2, fun x y hc => ((fr x y hc).tr (fr1 x y (by omega))).tr (f2 x y (by omega)), hw'.2, by omega, ?_, by rw [← eS]; exact e1, by rw [← eO]; exact e2⟩ ?_
      · have : (((out' ++ [-10 - a]).length : Nat) : Int) = (out'.length : Int) + 1 := by simp
        omega
      · rw [W2.2.1, W'.2.1, e, z_ti (by omega) (by omega), z_ti (by omega) (by omega)]
        omega
    · rw [if_pos (by rw [z_lt (by omega) (by omega) (by omega) (by omega)]; omega)]
      exact fin (by rw [eS, if_neg cr]) (by rw [eO, if_neg cr])
theorem x_hold {Q : Int32 → PH → Prop} {x : Int32} {j : Int} (W : LwX h v T L s k st o c out) (hl : st.length < 72) (ex : x = z j) (hq : ∀ g, LwX g v T L s k (j :: st) o c out → (∀ a b, ¬ (a = 7 ∨ (a = 2 ∧ b = 4)) → At h g a b) → Q 1 g) : w_X5_hold x h Q := by
  subst ex
  obtain ⟨w1, w2, w3, w4⟩ := W
  unfold w_X5_hold
  rw [w2, zn_72, if_neg (by rw [z_le (by omega) (by omega) (by omega) (by omega)]; omega), z_iN (by omega) (by omega), show (((st.length : Nat) : Int)).toNat = st.length by omega]
  refine ⟨z_in (by omega) (by omega) (by omega), ?_⟩
  rintro _ rfl _ rfl
  rw [gI_out (by omega), w2, z_inc]
  have fr : ∀ a b, ¬ (a = 7 ∨ (a = 2 ∧ b = 4)) → At h (sI (sI h 7 st.length (z j)) 2 4 (z ((st.length : Int) + 1))) a b := fun a b hc => ((At.rf h a b).sI (by omega)).sI (by omega)
  refine hq _ ⟨w1.at' (fun a b hc => fr a b (by unfold stC at hc; omega)), ?_, ⟨?_, ?_⟩, by rw [(fr 2 5 (by omega)).1]; exact w4⟩ fr
  · rw [gI_in rfl rfl]
    congr 1
  · rw [gI_out (by omega), gI_in rfl rfl]
  · exact wtk_cong (fun b hb => by rw [gI_out (by omega), gI_out (by omega)]) w3
theorem LwX.knot (W : LwX h v T L s k st o c out) : LwX (sI h 2 6 (z (c + 1))) v T L s k st o (c + 1) out := by
  obtain ⟨⟨r1, r2, r3, r4, r5, r6⟩, w2, w3, w4⟩ := W
  have fr : ∀ a b, ¬ (a = 2 ∧ b = 6) → At h (sI h 2 6 (z (c + 1))) a b := fun a b hc => (At.rf h a b).sI hc
  exact ⟨⟨r1, by rw [(fr 2 7 (by omega)).2.2]; exact r2, r3.at' (fun a b hc => fr a b (by omega)), r4.at' (fun a b b1 b2 _ _ _ _ => fr a b (by omega)), fun i hi => by rw [(fr 6 i (by omega)).1]; exact r5 i hi, gI_in rfl rfl⟩, by rw [gI_out (by omega)]; exact w2, wtk_cong (fun b _ => (fr 7 b (by omega)).1) w3, by rw [gI_out (by omega)]; exact w4⟩
theorem LwX.opens {o' : Int} (W : LwX h v T L s k st o c out) : LwX (sI h 2 5 (z o')) v T L s k st o' c out := by
  obtain ⟨w1, w2, w3, w4⟩ := W
  have fr : ∀ a b, ¬ (a = 2 ∧ b = 5) → At h (sI h 2 5 (z o')) a b := fun a b hc => (At.rf h a b).sI hc
  exact ⟨w1.at' (fun a b hc => fr a b (by unfold stC at hc; omega)), by rw [gI_out (by omega)]; exact w2, wtk_cong (fun b _ => (fr 7 b (by omega)).1) w3, gI_in rfl rfl⟩
end LAWX
