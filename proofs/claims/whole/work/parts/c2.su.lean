/-! ===== the search for a plan, by the class ===== -/
def BestX (h : PH) (b : Option (Int × List (Int × Int))) : Prop := (b = none → gI h 122 6 = z (-2)) ∧ ∀ e P, b = some (e, P) → gI h 122 6 = z e ∧ (0 ≤ e ∧ e ≤ 47) ∧ ∀ (i : Nat) q, P[i]? = some q → gI h 127 i = z q.1 ∧ gI h 128 i = z q.2
theorem runP_fst {a : Wd} : ∀ (ts : List Int) (P0 P : List (Int × Int)), runP a ts P0 = some P → P.map Prod.fst = P0.map Prod.fst ++ ts
  | [], P0, P, e => by
    injection e with e
    rw [e, List.append_nil]
  | t :: ts, P0, P, e => by
    have e' : (if est a P0 t = -1 then none else runP a ts (P0 ++ [(t, est a P0 t)])) = some P := e
    by_cases c : est a P0 t = -1
    · rw [if_pos c] at e'; cases e'
    · rw [if_neg c] at e'
      rw [runP_fst ts _ P e', List.map_append, List.append_assoc]
      rfl
theorem run_at {a : Wd} {L : List Int} {P : List (Int × Int)} (e : runP a L [] = some P) {i : Nat} {q : Int × Int} (hq : P[i]? = some q) : i < L.length ∧ fnL L i = q.1 := by
  have h := runP_fst L [] P e
  have h2 : (P.map Prod.fst)[i]? = some q.1 := by rw [List.getElem?_map, hq]; rfl
  rw [h] at h2
  have h3 : L[i]? = some q.1 := h2
  refine ⟨(List.getElem?_eq_some_iff.mp h3).1, ?_⟩
  unfold fnL
  rw [show ((i : Nat) : Int).toNat = i by omega, List.getD_eq_getElem?_getD, h3]
  rfl
theorem run_end {a : Wd} (tl : ∀ t, 0 ≤ t → t < a.n 6 → 1 ≤ a.f 6 2 t ∧ a.f 6 2 t ≤ 12) : ∀ (L : List Int) (P0 P : List (Int × Int)), (∀ t ∈ L, 0 ≤ t ∧ t < a.n 6) → (0 ≤ enF a 0 P0 ∧ enF a 0 P0 ≤ 47) → runP a L P0 = some P → 0 ≤ enF a 0 P ∧ enF a 0 P ≤ 47
  | [], P0, P, _, b, e => by
    injection e with e
    rw [← e]; exact b
  | t :: ts, P0, P, hL, b, e => by
    have e' : (if est a P0 t = -1 then none else runP a ts (P0 ++ [(t, est a P0 t)])) = some P := e
    have tr := hL t (by simp)
    by_cases c : est a P0 t = -1
    · rw [if_pos c] at e'; cases e'
    · rw [if_neg c] at e'
      have eg := est_rg c (tl t tr.1 tr.2)
      have l1 := tl t tr.1 tr.2
      refine run_end tl ts _ P (fun x hx => hL x (by simp [hx])) ?_ e'
      rw [enF_app]
      simp only
      omega
section SRCH
variable {h : PH} {w : Nat} {a : Wd}
def srC (w c k : Nat) : Prop := (123 ≤ c ∧ c ≤ 128) ∨ (c = 122 ∧ k = 6) ∨ c = w + 17 ∨ c = w + 18
set_option maxHeartbeats 2000000 in
theorem x_search {Q : PH → Prop} (H : WX h w a) (A : AirX h 100 a (far a (-1))) (N : Now a) (hw : w = 8 ∨ w = 31) (hq : ∀ g, (∀ c k, ¬ srC w c k → At h g c k) → (a.n 6 = 0 → gI g 122 6 = z (-1)) → (a.n 6 ≠ 0 → BestX g (plB a)) → Q g) : w_X4_search w 100 h Q := by
  have n14 := N.2.2.2.2.2.2.2.2.2.2.2.2.2
  have nr := n14.1
  have hn0 := (H.n0 6 (by decide)).1
  unfold w_X4_search
  rintro _ rfl
  rw [show gI h (w + 13) 3 = z (a.n 6) from hn0, zn_4, z_mnI (by omega) (by omega) (by omega) (by omega), show min (a.n 6) 4 = a.n 6 by omega]
  by_cases c0 : a.n 6 = 0
  · rw [if_pos (show z (a.n 6) = 0 by rw [c0]; rfl)]
    rintro _ rfl
    refine for10 0 (fun i g => g = sI h 122 6 (-1)) 0 rfl (by omega) (by omega) (by omega) rfl (fun kb i g i0 i1 _ _ => by omega) ?_
    rintro kb _ rfl
    unfold w_X4_search_29
    rw [c0, if_pos (by rw [z_le (by omega) (by omega) (by omega) (by omega)]; omega)]
    show (if z 0 ≤ (0 : Int32) then _ else _)
    rw [if_pos (show z 0 ≤ (0 : Int32) by decide)]
    refine lp2_i (fun x y g => x = 0 ∧ y = 0 ∧ g = sI h 122 6 (-1)) (fun _ _ _ => 0) ?_ _ _ _ ⟨rfl, rfl, rfl⟩
    rintro kb2 _ _ _ ⟨rfl, rfl, rfl⟩ _
    unfold w_X4_search_78
    rw [if_neg (by decide), if_pos (by rfl)]
    exact hq _ (fun c k hc => (At.rf h c k).sI (by unfold srC at hc; omega)) (fun _ => gI_in rfl rfl) (fun x => absurd c0 x)
  · rw [if_neg (show ¬ z (a.n 6) = 0 from z_ne (by omega) (by omega) (by decide) (by decide) c0)]
    rintro _ rfl
    have ct := chn_tab ⟨(a.n 6).toNat, by omega⟩ (show (a.n 6).toNat ≠ 0 by omega)
    obtain ⟨pl1, pl2, pl3, pl4⟩ := prm_len ⟨(a.n 6).toNat, by omega⟩
    have pl4 := pl4 (show (a.n 6).toNat ≠ 0 by omega)
    simp only at ct pl1 pl2 pl3 pl4
    have pin : ∀ L ∈ prm (a.n 6).toNat, L.length = (a.n 6).toNat ∧ ∀ t ∈ L, 0 ≤ t ∧ t < a.n 6 := fun L hL => by
      have := List.all_eq_true.mp pl3 L hL
      rw [Bool.and_eq_true, decide_eq_true_eq] at this
      refine ⟨this.1, fun t ht => ?_⟩
      have := List.all_eq_true.mp this.2 t ht
      rw [Bool.and_eq_true, decide_eq_true_eq, decide_eq_true_eq] at this
      omega
    refine for10 (a.n 6) (fun i g => (∀ c k, ¬ srC w c k → At h g c k) ∧ gI g 122 6 = z (-2) ∧ BdX g a i ∧ OrX g i (fun k => k)) 0 rfl (by omega) (by omega) (by omega) ⟨fun c k hc => (At.rf h c k).sI (by unfold srC at hc; omega), gI_in rfl rfl, fun t t0 t1 => by omega, fun k k0 k1 => by omega⟩ ?_ ?_
    · rintro kb i g i0 i1 ⟨hf, h6, hB, hO⟩ hk
      have Hg : WX g w a := H.at' (fun c k b1 b2 b3 b4 b5 b6 => hf c k (by unfold srC; omega))
      have Ag : AirX g 100 a (far a (-1)) := A.at' (fun c k b1 b2 => hf c k (by unfold srC; omega))
      unfold w_X4_search_29
      rw [if_neg (by rw [z_le (by omega) (by omega) (by omega) (by omega)]; omega), z_inc]
      refine x_forbiddenMinutes Hg Ag N hw ⟨i0, i1⟩ (fun g2 v f2 hv hb => ?_)
      rw [z_iN (a := i) (by omega) (by omega)]
      refine ⟨z_in (by omega) (by omega) (by omega), ?_⟩
      rintro _ rfl
      refine ⟨z_in (by omega) (by omega) (by omega), ?_⟩
      rintro _ rfl
      refine hk _ ⟨fun c k hc => (((hf c k hc).tr (f2 c k (by unfold srC at hc; omega))).sJ (by unfold srC at hc; omega)).sI (by unfold srC at hc; omega), ?_, fun t t0 t1 => ?_, fun k k0 k1 => ?_⟩
      · rw [gI_out (by omega)]
        show gI g2 122 6 = _
        rw [(f2 122 6 (by omega)).1]; exact h6
      · show ∃ v', gJ (sJ g2 123 i.toNat (lN v)) 123 t.toNat = lN v' ∧ _
        by_cases e : t = i
        · exact ⟨v, by rw [e, gJ_in rfl rfl], hv, fun m m0 m1 => by rw [e]; exact hb m m0 m1⟩
        · obtain ⟨v', e1, b1, c1⟩ := hB t t0 (by omega)
          exact ⟨v', by rw [gJ_out (by omega), (f2 123 _ (by omega)).2.1]; exact e1, b1, c1⟩
      · by_cases e : k = i
        · rw [e, gI_in rfl rfl]
        · rw [gI_out (by omega)]
          show gI g2 125 _ = _
          rw [(f2 125 _ (by omega)).1]; exact hO k k0 (by omega)
    · rintro kb g ⟨hf, h6, hB, hO⟩
      unfold w_X4_search_29
      rw [if_pos (by rw [z_le (by omega) (by omega) (by omega) (by omega)]; omega)]
      show (if z (a.n 6) ≤ (0 : Int32) then _ else _)
      rw [if_neg (show ¬ z (a.n 6) ≤ (0 : Int32) by rw [zn_0, z_le (by omega) (by omega) (by omega) (by omega)]; omega)]
      have st0 : ∃ L r, prm (a.n 6).toNat = L :: r ∧ OrX g (a.n 6) (fnL L) := by
        cases hp : prm (a.n 6).toNat with
        | nil => rw [hp] at pl2; exact absurd pl2 (by decide)
        | cons L r =>
          refine ⟨L, r, rfl, fun k k0 k1 => ?_⟩
          rw [hO k k0 k1]
          have := pl4 ⟨k.toNat, by omega⟩ (show k.toNat < (a.n 6).toNat by omega)
          rw [hp] at this
          simp only [List.getD_cons_zero, show ((k.toNat : Nat) : Int) = k by omega] at this
          rw [this]
      obtain ⟨L0, r0, hp0, hO0⟩ := st0
      have fin : ∀ g2, (∀ c k, ¬ srC w c k → At h g2 c k) → BestX g2 ((prm (a.n 6).toNat).foldl (fun b c => upO a b (runP a c [])) none) → Q g2 := fun g2 x y => hq g2 x (fun e => absurd e c0) (fun _ => y)
      refine lp2_i (fun x y g => ∃ pre suf, prm (a.n 6).toNat = pre ++ suf ∧ y = z pre.length ∧ chn (a.n 6).toNat suf = true ∧ (∀ c k, ¬ srC w c k → At h g c k) ∧ BdX g a (a.n 6) ∧ BestX g (pre.foldl (fun b c => upO a b (runP a c [])) none) ∧ ((x = 0 ∧ suf = []) ∨ (x = 1 ∧ ∃ L r, suf = L :: r ∧ OrX g (a.n 6) (fnL L)))) (fun _ y _ => (100 - y.toInt).toNat) ?_ 1 0 g ⟨[], prm (a.n 6).toNat, rfl, rfl, ct, hf, hB, ⟨fun _ => h6, fun e P x => by cases x⟩, Or.inr ⟨rfl, L0, r0, hp0, hO0⟩⟩
      clear hf h6 hB hO hO0 hp0 L0 r0 g
      rintro kb2 x _ g ⟨pre, suf, hp, rfl, hc, hf, hB, hb, hx⟩ hk
      have hlen : pre.length + suf.length ≤ 24 := by
        have := congrArg List.length hp
        rw [List.length_append] at this
        omega
      unfold w_X4_search_78
      rcases hx with ⟨rfl, rfl⟩ | ⟨rfl, L, r, rfl, hO⟩
      · rw [List.append_nil] at hp
        have := fin g hf (by rw [hp]; exact hb)
        by_cases c24 : 24 ≤ (pre.length : Int)
        · rw [if_pos (by rw [zn_24, z_le (by omega) (by omega) (by omega) (by omega)]; omega)]
          exact this
        · rw [if_neg (by rw [zn_24, z_le (by omega) (by omega) (by omega) (by omega)]; omega), if_pos rfl]
          exact this
      · have hl : pre.length < 24 := by simp only [List.length_cons] at hlen; omega
        rw [if_neg (by rw [zn_24, z_le (by omega) (by omega) (by omega) (by omega)]; omega), if_neg (by decide)]
        have hLm : L ∈ prm (a.n 6).toNat := by rw [hp]; simp
        obtain ⟨hLl, hLr⟩ := pin L hLm
        have Hg : WX g w a := H.at' (fun c k b1 b2 b3 b4 b5 b6 => hf c k (by unfold srC; omega))
        have ob : ∀ k, 0 ≤ k → k < a.n 6 → 0 ≤ fnL L k ∧ fnL L k < 100 := fun k k0 k1 => by
          have il : k.toNat < L.length := by omega
          have e : fnL L k = L[k.toNat] := by
            unfold fnL
            rw [List.getD_eq_getElem?_getD, List.getElem?_eq_getElem il]; rfl
          have := hLr _ (List.getElem_mem il)
          rw [e]; omega
        have tl : ∀ t, 0 ≤ t → t < a.n 6 → 1 ≤ a.f 6 2 t ∧ a.f 6 2 t ≤ 12 := fun t t0 t1 => (n14.2.1 t t0 t1).2.2.1
        have nxt : ∀ g3, (∀ c k, ¬ srC w c k → At h g3 c k) → BdX g3 a (a.n 6) → OrX g3 (a.n 6) (fnL L) → BestX g3 (upO a (pre.foldl (fun b c => upO a b (runP a c [])) none) (runP a L [])) → w_X4_search_157 w 100 Q kb2 (z (a.n 6)) (z pre.length) g3 := fun g3 hf3 hB3 hO3 hb3 => by
          have ef : (pre ++ [L]).foldl (fun b c => upO a b (runP a c [])) none = upO a (pre.foldl (fun b c => upO a b (runP a c [])) none) (runP a L []) := by
            rw [List.foldl_append]; rfl
          have el : z pre.length + 1 = z ((pre ++ [L]).length : Nat) := by
            rw [z_inc, List.length_append]; rfl
          have me : ∀ y : Nat, y = pre.length → (100 - (z ((pre ++ [L]).length : Nat)).toInt).toNat < (100 - (z pre.length).toInt).toNat := fun y _ => by
            rw [List.length_append, z_ti (by simp only [List.length_cons, List.length_nil]; omega) (by simp only [List.length_cons, List.length_nil]; omega), z_ti (by omega) (by omega)]
            simp only [List.length_cons, List.length_nil]
            omega
          unfold w_X4_search_157
          refine x_nextOrder (by omega) hO3 ob (fun e => ?_) (fun g4 o' f4 e O4 => ?_)
          · rw [el]
            refine hk 0 _ g3 ⟨pre ++ [L], [], ?_, rfl, rfl, hf3, hB3, by rw [ef]; exact hb3, Or.inl ⟨rfl, rfl⟩⟩ (me _ rfl)
            cases r with
            | nil => rw [hp, List.append_nil]
            | cons M r =>
              have hc' : ((match nxo (a.n 6).toNat (fnL L) with
                | none => false
                | some o => (List.range (a.n 6).toNat).all (fun k => decide (o k = fnL M k))) && chn (a.n 6).toNat (M :: r)) = true := hc
              rw [e] at hc'
              exact absurd hc' (by simp)
          · rw [el]
            cases r with
            | nil =>
              have hc' : (nxo (a.n 6).toNat (fnL L)).isNone = true := hc
              rw [e] at hc'
              exact Bool.noConfusion (show false = true from hc')
            | cons M r =>
              have hc' : ((match nxo (a.n 6).toNat (fnL L) with
                | none => false
                | some o => (List.range (a.n 6).toNat).all (fun k => decide (o k = fnL M k))) && chn (a.n 6).toNat (M :: r)) = true := hc
              rw [e, Bool.and_eq_true] at hc'
              refine hk 1 _ g4 ⟨pre ++ [L], M :: r, by rw [hp, List.append_assoc]; rfl, rfl, hc'.2, fun c k hc => (hf3 c k hc).tr (f4 c k (by unfold srC at hc; omega)), fun t t0 t1 => ?_, ?_, Or.inr ⟨rfl, M, r, rfl, fun k k0 k1 => ?_⟩⟩ (me _ rfl)
              · rw [(f4 123 _ (by omega)).2.1]; exact hB3 t t0 t1
              · rw [ef]
                refine ⟨fun x => by rw [(f4 122 6 (by omega)).1]; exact hb3.1 x, fun e P x => ?_⟩
                obtain ⟨y1, y2, y3⟩ := hb3.2 e P x
                refine ⟨by rw [(f4 122 6 (by omega)).1]; exact y1, y2, fun i q hq => ?_⟩
                rw [(f4 127 _ (by omega)).1, (f4 128 _ (by omega)).1]; exact y3 i q hq
              · rw [O4 k k0 k1]
                have := List.all_eq_true.mp hc'.1 k.toNat (List.mem_range.mpr (by omega))
                rw [decide_eq_true_eq, show ((k.toNat : Nat) : Int) = k by omega] at this
                rw [this]
        refine x_endOfOrder Hg N hw (by omega) rfl hB hO hLl hLr (fun g2 f2 => ?_)
        have F2 : ∀ c k, ¬ srC w c k → At h g2 c k := fun c k hc => (hf c k hc).tr (f2 c k (by unfold srC at hc; omega))
        have B2 : BdX g2 a (a.n 6) := fun t t0 t1 => by rw [(f2 123 _ (by omega)).2.1]; exact hB t t0 t1
        have O2 : OrX g2 (a.n 6) (fnL L) := fun k k0 k1 => by rw [(f2 125 _ (by omega)).1]; exact hO k k0 k1
        have b2 : BestX g2 (pre.foldl (fun b c => upO a b (runP a c [])) none) := ⟨fun x => by rw [(f2 122 6 (by omega)).1]; exact hb.1 x, fun e P x => by
          obtain ⟨y1, y2, y3⟩ := hb.2 e P x
          refine ⟨by rw [(f2 122 6 (by omega)).1]; exact y1, y2, fun i q hq => ?_⟩
          rw [(f2 127 _ (by omega)).1, (f2 128 _ (by omega)).1]; exact y3 i q hq⟩
        refine ⟨fun e => ?_, fun P e hS => ?_⟩
        · rw [if_pos rfl]
          exact nxt g2 F2 B2 O2 (by rw [e]; exact b2)
        · have er := run_end tl L [] P (fun t ht => hLr t ht) (by show 0 ≤ (0 : Int) ∧ (0 : Int) ≤ 47; omega) e
          rw [if_neg (show ¬ z (enF a 0 P) = -2 from z_ne (by omega) (by omega) (by decide) (by decide) (show enF a 0 P ≠ -2 by omega))]
          have udo : upO a (pre.foldl (fun b c => upO a b (runP a c [])) none) (runP a L []) = some (enF a 0 P, P) → w_X4_search_123 w 100 Q kb2 (z (a.n 6)) (z pre.length) (z (enF a 0 P)) g2 := fun eu => by
            unfold w_X4_search_123
            rintro _ rfl
            refine ⟨by decide, by decide, by decide, by decide, by decide, ?_⟩
            rintro _ rfl
            refine ⟨by decide, by decide, by decide, by decide, by decide, ?_⟩
            rintro _ rfl
            rw [iN_0, iN_4]
            refine nxt _ (fun c k hc => (((F2 c k hc).sI (by unfold srC at hc; omega)).cpI (by unfold srC at hc; omega)).cpI (by unfold srC at hc; omega)) (fun t t0 t1 => B2 t t0 t1) (fun k k0 k1 => ?_) ?_
            · rw [gI_cpI, if_neg (by omega), gI_cpI, if_neg (by omega), gI_out (by omega)]; exact O2 k k0 k1
            · rw [eu]
              refine ⟨(fun x => by cases x), fun e' P' x => ?_⟩
              injection x with x
              injection x with x1 x2
              subst x1 x2
              refine ⟨by rw [gI_cpI, if_neg (by omega), gI_cpI, if_neg (by omega), gI_in rfl rfl], er, fun i q hq => ?_⟩
              have ra := run_at e hq
              constructor
              · rw [gI_cpI, if_neg (by omega), gI_cpI, if_pos rfl, if_pos (by omega), gI_out (by omega), show 0 + (i - 0) = ((i : Nat) : Int).toNat by omega, O2 (i : Int) (by omega) (by omega), ra.2]
              · rw [gI_cpI, if_pos rfl, if_pos (by omega), gI_cpI, if_neg (by omega), gI_out (by omega), show 0 + (i - 0) = i by omega]
                exact hS i q hq
          cases hbb : pre.foldl (fun b c => upO a b (runP a c [])) none with
          | none =>
            rw [hbb] at b2 udo nxt
            rw [b2.1 rfl, if_pos (show z (-2) = -2 from rfl)]
            exact udo (by rw [e]; rfl)
          | some x =>
            obtain ⟨e0, P0⟩ := x
            rw [hbb] at b2 udo nxt
            obtain ⟨y1, y2, y3⟩ := b2.2 e0 P0 rfl
            have eu : upO a (some (e0, P0)) (runP a L []) = if enF a 0 P < e0 then some (enF a 0 P, P) else some (e0, P0) := by rw [e]; rfl
            rw [y1, if_neg (show ¬ z e0 = -2 from z_ne (by omega) (by omega) (by decide) (by decide) (show e0 ≠ -2 by omega))]
            by_cases c : e0 ≤ enF a 0 P
            · rw [if_pos (by rw [z_le (by omega) (by omega) (by omega) (by omega)]; omega)]
              exact nxt g2 F2 B2 O2 (by rw [eu, if_neg (by omega)]; exact b2)
            · rw [if_neg (by rw [z_le (by omega) (by omega) (by omega) (by omega)]; omega)]
              exact udo (by rw [eu, if_pos (by omega)])
end SRCH
