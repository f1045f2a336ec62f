/-! ===== the reference's reader: the levels of E ===== -/
section REXP2
variable {h g : PH} {T : Int → Int} {L p o c fr : Int} {st out : List Int} {r : SR} {R : Nat → PH → (PH → Prop) → Prop}
theorem PZ_primary : PZ (w_X10_primary R) r := fun h Q F hq => by
  unfold w_X10_primary
  rw [if_neg F.ne]
  exact hq
theorem PZ_product : PZ (w_X10_product R) r := fun h Q F hq => by
  unfold w_X10_product
  refine PZ_primary h _ F ?_
  refine lp0_i (fun g => g = h) (fun _ => 0) ?_ h rfl
  rintro kb g rfl hn
  unfold w_X10_product_4
  refine m_isSgnF F ?_
  rw [if_pos rfl]
  refine m_isSgnF F ?_
  rw [if_pos rfl]
  exact hq
theorem PZ_sum : PZ (w_X10_sum R) r := fun h Q F hq => by
  unfold w_X10_sum
  refine PZ_product h _ F ?_
  refine lp0_i (fun g => g = h) (fun _ => 0) ?_ h rfl
  rintro kb g rfl hn
  unfold w_X10_sum_4
  refine m_isSgnF F ?_
  rw [if_pos rfl]
  refine m_isSgnF F ?_
  rw [if_pos rfl]
  exact hq
theorem m_isWrdF {α : Type} {Q : Int32 → PH → Prop} {x : Int32} {r : (Int × Int) ⊕ α} (F : FtF h r) (hq : Q 0 h) : w_X10_isWord x h Q := by
  unfold w_X10_isWord
  rw [if_neg F.ne]
  exact hq
theorem PZ_negation : PZ (w_X10_negation R) r := fun h Q F hq => by
  unfold w_X10_negation
  refine m_isWrdF F ?_
  rw [if_pos rfl]
  refine PZ_sum h _ F ?_
  rw [if_neg F.ne]
  exact hq
theorem PZ_conjunction : PZ (w_X10_conjunction R) r := fun h Q F hq => by
  unfold w_X10_conjunction
  refine PZ_negation h _ F ?_
  refine lp0_i (fun g => g = h) (fun _ => 0) ?_ h rfl
  rintro kb g rfl hn
  unfold w_X10_conjunction_4
  refine m_isWrdF F ?_
  rw [if_pos rfl]
  exact hq
theorem PZ_expression : PZ (w_X10_expression R) r := fun h Q F hq => by
  unfold w_X10_expression
  refine PZ_conjunction h _ F ?_
  refine lp0_i (fun g => g = h) (fun _ => 0) ?_ h rfl
  rintro kb g rfl hn
  unfold w_X10_expression_4
  refine m_isWrdF F ?_
  rw [if_pos rfl]
  exact hq
theorem PostE.lev {l l' p0 p1 c0 c1 : Int} (P : PostE g T L r fr st o l p0 c0) (hp : p1 ≤ p0) (hc : c1 ≤ c0) (hl : ∀ q, 0 ≤ q → rkt T L q < l → (gI g 0 40 = z 0 → TcM g T L q → rkt T L q < l')) (hll : l ≤ 4 → l' ≤ 4) (h0 : 0 ≤ p1) : PostE g T L r fr st o l' p1 c1 := by
  rcases P with F | ⟨e, out, c, p, n, E, b, t, hn, nm, lv⟩
  · exact Or.inl F
  · refine Or.inr ⟨e, out, c, p, n, E, by omega, t, hn, by omega, ?_⟩
    rcases lv with ⟨a1, a2, a3⟩ | ⟨a1, a2, a3⟩
    · exact Or.inl ⟨hl p (by omega) a1 e t, a2, a3⟩
    · exact Or.inr ⟨hll a1, a2, a3⟩
/-- how much is left of a text, while no fault is told -/
def muE (g : PH) : Nat := if gI g 0 40 = 0 then (2000 - (gI g 0 37).toInt).toNat + 1 else 0
theorem mu_dec {g' : PH} {l q c0 : Int} (hT : ∀ k, 0 ≤ T k ∧ T k < 256) (hL : L ≤ 700) (e : gI g 0 40 = z 0) (hq : 0 ≤ q ∧ q ≤ L) (t : TcM g T L q) (k0 : tK T L q ≠ 0) (P : PostE g' T L r fr st o l (tE T L q) c0) : muE g' < muE g := by
  have tr := tok_rg (T := T) hT hq
  have a : muE g = (2000 - tS T L q).toNat + 1 := by
    unfold muE
    rw [e, if_pos (show z 0 = 0 from rfl), t.2.1, z_ti (by omega) (by omega)]
  rw [a]
  rcases P with F | ⟨e', out, c, p, n, E, b, t', -⟩
  · unfold muE
    rw [if_neg F.ne]
    omega
  · have tr' := tok_rg (T := T) (L := L) (p := p) hT (by omega)
    unfold muE
    rw [e', if_pos (show z 0 = 0 from rfl), t'.2.1, z_ti (by omega) (by omega)]
    have := tr.2.2.2.1 k0
    omega
theorem tc_val {k : Int} (t : TcM h T L p) (hk : 3 ≤ tK T L p) (hv : tV T L p = k) : gI h 0 39 = z k := by
  obtain ⟨-, -, -, m, u4, u5⟩ := t
  rw [u4, u5.2 hk, hv]
theorem rkt_7 (T : Int → Int) (L p : Int) : 0 ≤ rkt T L p ∧ rkt T L p < 7 ∧ rkt T L p ≠ 3 := by
  have := rkt_all T L p
  omega
theorem isS_no {v : Int} (h : isS T L p v = false) : ¬ (tK T L p = 5 ∧ tV T L p = v) := fun x => by
  rw [isS_iff.mpr x] at h
  exact absurd h (by decide)
theorem isW_no {v : Int} (h : isWd T L p v = false) : ¬ (tK T L p = 4 ∧ tV T L p = v) := fun x => by
  rw [isWd_iff.mpr x] at h
  exact absurd h (by decide)
theorem m_primary {m : Int} (hR : ∀ st' o', top st' < 1 → IC (R 0) T L r fr 1 st' o' (m - 1) false) (hZ : PZ (R 0) r) : IC (w_X10_primary R) T L r fr 7 st o m true := by
  intro h c out p n Q P hm hnt hq
  obtain ⟨e, S, E, hp, t, hn, I, ho, er⟩ := P
  have tr := tok_rg (T := T) S.2.2.2 hp
  have mi := mk_iff tr.2.2.2.2.1
  have nums := I.nums
  have fr0 := E.2.2.2.1
  obtain ⟨n', en⟩ : ∃ n', n = n' + 1 := ⟨n - 1, by omega⟩
  rw [en] at er
  unfold sy at er
  obtain ⟨u1, u2, u3, mm, u4, u5⟩ := id t
  -- faults pass
  have pF1 : ∀ (x : Int32) g, EF fr h g → FtF g r → w_X10_primary_162 R Q x g := fun x g f F => by
    unfold w_X10_primary_162
    refine m_knotF F ?_
    have a : ∀ s1 : Int32, w_X10_primary_176 R Q x s1 g := fun s1 => by
      have b : ∀ s2 : Int32, w_X10_primary_194 R Q s1 s2 g := fun s2 => by
        unfold w_X10_primary_194
        refine m_putsF F ?_
        refine m_goOnF F ?_
        exact hq g f (Or.inl F)
      unfold w_X10_primary_176
      by_cases c0 : x = 0
      · rw [if_pos c0]; exact b _
      · rw [if_neg c0]; exact b _
    by_cases c0 : x = 0
    · rw [if_pos c0]; exact a _
    · rw [if_neg c0]; exact a _
  -- a number or a name comes out
  have comes : ∀ (x s1 : Int) (kn : Int), kok kn → -10 < kn → tK T L p ≠ 0 → (x = 0 ∧ s1 = 1 ∨ x = 1 ∧ s1 = 0) → kso kn = s1 → (if z x = 0 then gI h 0 39 - 18 else gI h 0 39) = z (kva kn) → r = (if c < 64 then sy T L n' true st o (c + 1) (out ++ [kn]) (tE T L p) else pF T L 2 p) → w_X10_primary_162 R Q (z x) h := fun x s1 kn hkn k10 k0 hx hs hv er' => by
    have nx := nx_lt S.2.2.2 hp k0
    have el : (((out ++ [kn]).length : Nat) : Int) = (out.length : Int) + 1 := by simp
    unfold w_X10_primary_162
    refine m_knotN e E (by omega) (fun hc => ?_) (fun hc => ?_)
    · rw [if_pos hc] at er'
      have E1 : EM (sI h 0 45 (z (c + 1))) fr o (c + 1) out := by
        obtain ⟨a1, a2, a3, a4, a5⟩ := E
        exact ⟨by rw [gI_out (by omega)]; exact a1, by rw [gI_out (by omega)]; exact a2, gI_in rfl rfl, a4, fun i hi => ⟨by rw [gI_out (by omega)]; exact (a5 i hi).1, by rw [gI_out (by omega)]; exact (a5 i hi).2⟩⟩
      have f1 : ∀ a b, ¬ (a = 0 ∧ b = 45) → At h (sI h 0 45 (z (c + 1))) a b := fun a b hab => (At.rf h a b).sI hab
      have e1 : gI (sI h 0 45 (z (c + 1))) 0 40 = z 0 := by rw [gI_out (by omega)]; exact e
      have S1 : ScM (sI h 0 45 (z (c + 1))) T L := S.at' (fun a b hab => f1 a b (by omega))
      have t1 : TcM (sI h 0 45 (z (c + 1))) T L p := t.at' (fun k k0' k1' => f1 0 k (by omega))
      have v1 : gI (sI h 0 45 (z (c + 1))) 0 39 = gI h 0 39 := (f1 0 39 (by omega)).1
      generalize sI h 0 45 (z (c + 1)) = g1 at *
      have last : w_X10_primary_194 R Q (z s1) (z (kva kn)) g1 := by
        unfold w_X10_primary_194
        refine m_putsN (kn := kn) e1 E1 (by omega) (by rw [hs]) rfl (fun g2 f2 E2 => ?_)
        have e2 : gI g2 0 40 = z 0 := by rw [(f2 0 40 (by omega)).1]; exact e1
        have S2 : ScM g2 T L := S1.at' (fun a b hab => f2 a b (by omega))
        have t2 : TcM g2 T L p := t1.at' (fun k _ _ => f2 0 k (by omega))
        unfold w_X10_goOn
        rw [e2, if_pos (show z 0 = 0 from rfl)]
        refine m_tok S2 hp t2 (fun g3 f3 n3 t3 => ?_)
        have f3' : msF g2 g3 := fun a b hab => f3 a b (by omega)
        refine hq g3 (fun a b hab => ((f1 a b (by unfold exC at hab; omega)).tr (f2 a b (by unfold exC at hab; omega))).tr (f3 a b (by unfold exC at hab; omega))) (Or.inr ⟨by rw [(f3 0 40 (by omega)).1]; exact e2, _, c + 1, tE T L p, n', E2.ms f3', by omega, t3, by omega, by omega, Or.inl ⟨(rkt_7 T L _).2.1, I.name hkn k10 hc, er'⟩⟩)
      rcases hx with ⟨rfl, rfl⟩ | ⟨rfl, rfl⟩
      · rw [if_pos (show z 0 = 0 from rfl)]
        rw [if_pos (show z 0 = 0 from rfl)] at hv
        unfold w_X10_primary_176
        rw [if_pos (show z 0 = 0 from rfl), v1, hv]
        exact last
      · rw [if_neg (show ¬ z 1 = 0 by decide)]
        rw [if_neg (show ¬ z 1 = 0 by decide)] at hv
        unfold w_X10_primary_176
        rw [if_neg (show ¬ z 1 = 0 by decide), v1, hv]
        exact last
    · rw [if_neg (by omega)] at er'
      refine m_wrongN (k := 2) e t rfl (by omega) er' (fun g f F => ?_)
      have := pF1 (z x) g f.ef F
      unfold w_X10_primary_162 at this
      unfold w_X10_knot at this
      rw [if_neg F.ne] at this
      exact this
  unfold w_X10_primary
  rw [e, if_pos (show z 0 = 0 from rfl)]
  refine m_isSgn e t S.2.2.2 hp (n := 40) rfl (by omega) ?_
  cases c1 : isS T L p 40 with
  | true =>
    have k5 := isS_iff.mp c1
    have nx := nx_lt S.2.2.2 hp (by omega)
    rw [if_neg (show ¬ z (bI true) = 0 by decide), E.2.1]
    rw [if_pos c1] at er
    have f31 : ∀ g, EF fr h g → FtF g r → w_X10_primary_31 R Q g := fun g f F => by
      unfold w_X10_primary_31
      rw [if_neg F.ne]
      exact hq g f (Or.inl F)
    by_cases o8 : o = 8
    · rw [if_pos (by rw [o8]; rfl)]
      rw [if_neg (by omega)] at er
      exact m_wrongN (k := 2) e t rfl (by omega) er (fun g f F => f31 g f.ef F)
    · rw [if_neg (show ¬ z o = 8 from z_ne (by omega) (by omega) (by decide) (by decide) o8)]
      rw [if_pos (by omega)] at er
      unfold w_X10_primary_31
      rw [e, if_pos (show z 0 = 0 from rfl)]
      rintro _ rfl
      rw [E.2.1, z_inc]
      have f1 : ∀ a b, ¬ (a = 0 ∧ b = 44) → At h (sI h 0 44 (z (o + 1))) a b := fun a b hab => (At.rf h a b).sI hab
      have E1 : EM (sI h 0 44 (z (o + 1))) fr (o + 1) c out := by
        obtain ⟨a1, a2, a3, a4, a5⟩ := E
        exact ⟨by rw [gI_out (by omega)]; exact a1, gI_in rfl rfl, by rw [gI_out (by omega)]; exact a3, a4, fun i hi => ⟨by rw [gI_out (by omega)]; exact (a5 i hi).1, by rw [gI_out (by omega)]; exact (a5 i hi).2⟩⟩
      have e1 : gI (sI h 0 44 (z (o + 1))) 0 40 = z 0 := by rw [gI_out (by omega)]; exact e
      have S1 : ScM (sI h 0 44 (z (o + 1))) T L := S.at' (fun a b hab => f1 a b (by omega))
      have t1 : TcM (sI h 0 44 (z (o + 1))) T L p := t.at' (fun k k0' k1' => f1 0 k (by omega))
      generalize sI h 0 44 (z (o + 1)) = g1 at *
      have F1 : EF fr h g1 := fun a b hab => f1 a b (by unfold exC at hab; omega)
      refine m_tok S1 hp t1 (fun g2 f2 n2 t2 => ?_)
      have f2' : msF g1 g2 := fun a b hab => f2 a b (by omega)
      refine hR (13 :: st) (o + 1) (by show rk 13 < 1; decide) g2 c out (tE T L p) n' _ ⟨by rw [(f2 0 40 (by omega)).1]; exact e1, S1.ms f2', E1.ms f2', n2, t2, by omega, I.opn, by omega, er⟩ (by omega) (fun x => absurd x (by decide)) (fun g3 f3 P3 => ?_)
      have F3 : EF fr h g3 := (F1.tr f2'.ef).tr f3
      have S3 : ScM g3 T L := S.ef F3
      have f78 : ∀ g, EF fr h g → FtF g r → w_X10_primary_78 R Q g := fun g f F => by
        unfold w_X10_primary_78
        rw [if_neg F.ne]
        exact hq g f (Or.inl F)
      rcases P3 with F | ⟨e3, out3, c3, p3, n3, E3, hp3, t3, hn3, nm3, lv⟩
      · rw [if_neg F.ne]
        exact f78 g3 F3 F
      · have ra := rkt_all T L p3
        have e13 : no (13 :: st) = 0 + no st := rfl
        obtain ⟨n4, en4⟩ : ∃ n4, n3 = n4 + 1 := ⟨n3 - 1, by omega⟩
        rw [e3, if_pos (show z 0 = 0 from rfl)]
        refine m_isSgn e3 t3 S.2.2.2 (by omega) (n := 41) rfl (by omega) ?_
        cases c4 : isS T L p3 41 with
        | false =>
          rw [if_pos (show z (bI false) = 0 from rfl)]
          have er3 : r = pF T L 1 p3 := by
            rcases lv with ⟨q1, q2, q3⟩ | ⟨q1, q2, q3⟩
            · rw [q3, en4]
              unfold sy
              have j1 : jsg (tK T L p3) (tV T L p3) = -1 := by omega
              rw [if_neg (fun x => by omega), if_neg (by rw [c4]; exact fun x => absurd x.1 (by decide)), if_pos j1]
            · exact q3
          exact m_wrongN (k := 1) e3 t3 rfl (by omega) er3 (fun g f F => f78 g (F3.tr f.ef) F)
        | true =>
          rw [if_neg (show ¬ z (bI true) = 0 by decide)]
          have k41 := isS_iff.mp c4
          have nx3 := nx_lt (T := T) (L := L) (p := p3) S.2.2.2 (by omega) (by omega)
          rcases lv with ⟨q1, q2, q3⟩ | ⟨q1, q2, q3⟩
          · rw [en4] at q3
            unfold sy at q3
            have r13 : rlS 1 (13 :: st) = 13 :: st ∧ rlO 1 (13 :: st) out3 = out3 := ⟨if_neg (by decide), if_neg (by decide)⟩
            rw [if_neg (fun x => by omega), if_pos ⟨c4, by omega⟩, r13.1, r13.2, show o + 1 - 1 = o by omega] at q3
            have I3 := (q2.shut (by omega)).1
            rw [r13.1, r13.2, show o + 1 - 1 = o by omega] at I3
            unfold w_X10_primary_78
            rw [e3, if_pos (show z 0 = 0 from rfl)]
            rintro _ rfl
            rw [E3.2.1, zn_1, z_sub, show o + 1 - 1 = o by omega]
            have f4 : ∀ a b, ¬ (a = 0 ∧ b = 44) → At g3 (sI g3 0 44 (z o)) a b := fun a b hab => (At.rf g3 a b).sI hab
            have E4 : EM (sI g3 0 44 (z o)) fr o c3 out3 := by
              obtain ⟨a1, a2, a3, a4, a5⟩ := E3
              exact ⟨by rw [gI_out (by omega)]; exact a1, gI_in rfl rfl, by rw [gI_out (by omega)]; exact a3, a4, fun i hi => ⟨by rw [gI_out (by omega)]; exact (a5 i hi).1, by rw [gI_out (by omega)]; exact (a5 i hi).2⟩⟩
            have e4 : gI (sI g3 0 44 (z o)) 0 40 = z 0 := by rw [gI_out (by omega)]; exact e3
            have S4 : ScM (sI g3 0 44 (z o)) T L := S3.at' (fun a b hab => f4 a b (by omega))
            have t4 : TcM (sI g3 0 44 (z o)) T L p3 := t3.at' (fun k k0' k1' => f4 0 k (by omega))
            generalize sI g3 0 44 (z o) = g4 at *
            refine m_tok S4 (by omega) t4 (fun g5 f5 n5 t5 => ?_)
            have f5' : msF g4 g5 := fun a b hab => f5 a b (by omega)
            refine hq g5 ((F3.tr (fun a b hab => f4 a b (by unfold exC at hab; omega))).tr f5'.ef) (Or.inr ⟨by rw [(f5 0 40 (by omega)).1]; exact e4, out3, c3, tE T L p3, n4, E4.ms f5', by omega, t5, by omega, by omega, Or.inl ⟨(rkt_7 T L _).2.1, I3, q3⟩⟩)
          · exfalso
            omega
  | false =>
    have k40 := isS_no c1
    rw [if_pos (show z (bI false) = 0 from rfl), u3]
    rw [if_neg (by rw [c1]; decide), if_neg (fun x => by have := hnt rfl x.1; omega)] at er
    by_cases k2 : tK T L p = 2
    · rw [if_pos (by rw [mi.2.2.1.mpr k2]; rfl)]
      rw [if_neg (by omega), if_pos k2] at er
      have em := u5.1 k2
      have tv := tr.2.2.2.2.2.1 k2
      unfold w_X10_primary_114
      rw [if_neg (by decide), u4, zn_9999]
      by_cases c9 : mm ≤ 9999
      · rw [if_pos (by rw [z_le (by omega) (by omega) (by omega) (by omega)]; omega)]
        unfold w_X10_primary_137
        rw [if_neg (by decide)]
        have mt : mm = tV T L p := by omega
        refine comes 1 0 (tV T L p) (Or.inl (by omega)) (by omega) (by omega) (Or.inr ⟨rfl, rfl⟩) (by unfold kso; rw [if_pos (by omega)]) ?_ ?_
        · rw [if_neg (by decide), u4, mt]
          unfold kva
          rw [if_pos (by omega)]
        · rw [er]
          by_cases hc : c < 64
          · rw [if_pos ⟨hc, by omega⟩, if_pos hc]
          · rw [if_neg (fun x => hc x.1), if_neg hc]
      · rw [if_neg (by rw [z_le (by omega) (by omega) (by omega) (by omega)]; omega)]
        rw [if_neg (by omega)] at er
        exact m_wrongN (k := 2) e t rfl (by omega) er (fun g f F => pF1 _ g f.ef F)
    · rw [if_neg (show ¬ z (mk (tK T L p)) = 2 from z_ne (by omega) (by omega) (by decide) (by decide) (fun x => k2 (mi.2.2.1.mp x)))]
      unfold w_X10_primary_114
      rw [if_pos rfl]
      unfold w_X10_primary_137
      rw [if_pos rfl, u3]
      by_cases k4 : tK T L p = 4
      · rw [if_pos (by rw [mi.1.mpr k4]; rfl), u4]
        have em : mm = tV T L p := u5.2 (by omega)
        have tv := tr.2.2.2.2.2.2.2.1 k4
        rw [show (18 : Int32) = z 18 from rfl]
        by_cases k18 : 18 ≤ mm
        · rw [if_pos (by rw [z_le (by omega) (by omega) (by omega) (by omega)]; omega)]
          rw [if_pos ⟨k4, by omega⟩] at er
          refine comes 0 1 (-1 - (tV T L p - 18)) (Or.inr (Or.inl (by omega))) (by omega) (by omega) (Or.inl ⟨rfl, rfl⟩) (by unfold kso; rw [if_neg (by omega), if_pos (by omega)]) ?_ er
          rw [if_pos (show z 0 = 0 from rfl), u4, show (18 : Int32) = z 18 from rfl, z_sub]
          unfold kva
          rw [if_neg (by omega), if_pos (by omega)]
          congr 1
          omega
        · rw [if_neg (by rw [z_le (by omega) (by omega) (by omega) (by omega)]; omega)]
          rw [if_neg (by omega), if_neg (by omega)] at er
          unfold w_X10_primary_157
          exact m_wrongN (k := 1) e t rfl (by omega) er (fun g f F => pF1 _ g f.ef F)
      · rw [if_neg (show ¬ z (mk (tK T L p)) = 0 from z_ne (by omega) (by omega) (by decide) (by decide) (fun x => k4 (mi.1.mp x)))]
        rw [if_neg (by omega), if_neg (by omega)] at er
        unfold w_X10_primary_157
        exact m_wrongN (k := 1) e t rfl (by omega) er (fun g f F => pF1 _ g f.ef F)
end REXP2
