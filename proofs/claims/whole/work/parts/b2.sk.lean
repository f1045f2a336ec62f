/-! ===== shares, parts, leavers ===== -/
def subB (B H : Int) : Bool := decide ((z B &&& (z H ^^^ (-1))) = 0)
theorem sub_tab : ∀ B H : Fin 16, ∀ o : Fin 4, decide ((z ((B.val : Nat) : Int) &&& ((z ((H.val : Nat) : Int) &&& (((1 : Int32) <<< (z ((o.val : Nat) : Int) &&& 31)) ^^^ (-1))) ^^^ (-1))) = 0) = (subB ((B.val : Nat) : Int) ((H.val : Nat) : Int) && !tb ((B.val : Nat) : Int) ((o.val : Nat) : Int)) := by decide +kernel
theorem sub_pc : ∀ B H : Fin 16, ∀ o : Fin 4, (subB ((B.val : Nat) : Int) ((H.val : Nat) : Int) && !tb ((B.val : Nat) : Int) ((o.val : Nat) : Int)) = true → tb ((H.val : Nat) : Int) ((o.val : Nat) : Int) = true → pc ((B.val : Nat) : Int) + 1 ≤ pc ((H.val : Nat) : Int) ∧ pc ((H.val : Nat) : Int) ≤ 4 := by decide +kernel
def sU (B o : Int) : Int := ((B.toNat ||| 2 ^ o.toNat : Nat) : Int)
theorem sU_z {B o : Int} (hb : 0 ≤ B ∧ B < 16) (ho : 0 ≤ o ∧ o < 4) : z B ||| ((1 : Int32) <<< (z o &&& 31)) = z (sU B o) ∧ 0 ≤ sU B o ∧ sU B o < 16 := by
  have h2 : 2 ^ o.toNat < 2 ^ 4 := Nat.pow_lt_pow_right (by decide) (by omega)
  have hlt : B.toNat ||| 2 ^ o.toNat < 2 ^ 4 := Nat.or_lt_two_pow (by omega) h2
  refine ⟨?_, by unfold sU; omega, by unfold sU; omega⟩
  refine b_ext (fun i hi => ?_)
  rw [bt_on ho.1 (by omega) hi, bt_tb hb.1 hi, bt_tb (by unfold sU; omega) hi]
  unfold tb sU
  rw [show (((B.toNat ||| 2 ^ o.toNat : Nat) : Int)).toNat = B.toNat ||| 2 ^ o.toNat by omega, show ((i : Nat) : Int).toNat = i by omega, Nat.testBit_or, Nat.testBit_two_pow]
  by_cases c : o.toNat = i
  · rw [decide_eq_true c, decide_eq_true c.symm]
  · rw [decide_eq_false c, decide_eq_false (fun x => c x.symm)]
theorem and_tb : ∀ H : Fin 16, ∀ o : Fin 4, decide ((z ((H.val : Nat) : Int) &&& ((1 : Int32) <<< (z ((o.val : Nat) : Int) &&& 31))) = 0) = !tb ((H.val : Nat) : Int) ((o.val : Nat) : Int) := by decide +kernel
def fac (n : Int) : Int := if n ≤ 1 then 1 else if n = 2 then 2 else if n = 3 then 6 else 24
theorem fac_tab : ∀ n : Fin 5, sORDERS n.val = z (fac ((n.val : Nat) : Int)) := by decide +kernel
noncomputable def ptB (a : Wd) (j o B : Int) : Int := if (subB B (hB a j) && !tb B o) = true then (fac (pc B) * fac (pc (hB a j) - 1 - pc B)) * (wos a j (sU B o) - wos a j B) else 0
noncomputable def prt (a : Wd) (j o : Int) : Int := if tb (hB a j) o = true then sm (ptB a j o) 16 else 0
noncomputable def lvB (a : Wd) (j B : Int) : Bool := decide (1 ≤ B) && subB B (hB a j) && !decide (wos a j B * pcM a j (okS (hB a j)) ≤ wrt a (pcM a j al) (pcQ a j al) (pc (hB a j)) (pcF a j al) * pcM a j (okS B))
noncomputable def lvs (a : Wd) (j : Int) : Int := if ff (lvB a j) 16 = -1 then 0 else ff (lvB a j) 16
section PART
variable {h : PH} {w : Nat} {a : Wd} {j : Int}
theorem wos_rg (h6 : 0 ≤ a.n 0 ∧ a.n 0 ≤ 6) (B : Int) : 0 ≤ wos a j B ∧ wos a j B ≤ 100000 := by
  have m1 := pcM_rg h6 (okS B) (j := j)
  unfold wos
  split
  · omega
  · exact wrt_rg (by omega)
theorem x_partOf {Q : Int32 → PH → Prop} {o : Int} (H : WX h w a) (W : Wf a.wo) (hw : w = 8 ∨ w = 31) (O : HoX h 100 a (far a (-1))) (ON : OkN a) (OC : OkC a) (h6 : 0 ≤ a.n 0 ∧ a.n 0 ≤ 6) (P : PcA h a) (hj : 0 ≤ j ∧ j < pcN a) (ho : 0 ≤ o ∧ o < 4) (hq : ∀ g, (∀ c k, ¬ ((119 ≤ c ∧ c ≤ 121) ∨ c = w + 21 ∨ c = w + 22) → At h g c k) → Q (z (prt a j o)) g) : w_X3_partOf w 100 (z j) (z o) h Q := by
  have pr := pcN_rg h6
  have hb := hB_rg a j
  unfold w_X3_partOf
  refine x_survey P.1 (fun k k0 k1 => labA_S k0 k1) O ON OC h6 (by omega) (fun g1 f1 V1 => ?_)
  refine x_holders h6 V1 ?_
  rintro _ rfl
  have e1 := and_tb ⟨(hB a j).toNat, by omega⟩ ⟨o.toNat, by omega⟩
  simp only [show (((hB a j).toNat : Nat) : Int) = hB a j by omega, show ((o.toNat : Nat) : Int) = o by omega] at e1
  unfold prt at hq
  cases ht : tb (hB a j) o with
  | false =>
    rw [ht] at e1 hq
    rw [if_pos (of_decide_eq_true e1)]
    exact hq g1 (fun c k hc => f1 c k (by omega))
  | true =>
    rw [ht] at e1 hq
    rw [if_neg (of_decide_eq_false e1)]
    rw [if_pos rfl] at hq
    refine x_pc hb.1 (by omega) (fun h9 => ?_)
    rintro _ rfl
    rw [show z (pc (hB a j)) - 1 = z (pc (hB a j) - 1) from by rw [zn_1, z_sub]]
    refine for21 16 (fun B v g => (∀ c k, ¬ ((119 ≤ c ∧ c ≤ 121) ∨ c = w + 21 ∨ c = w + 22) → At h g c k) ∧ Sv g a j (48 * spS a) ∧ v = z (sm (ptB a j o) B)) 0 rfl (by omega) (by omega) (by omega) ⟨fun c k hc => f1 c k (by omega), V1, rfl⟩ ?_ ?_
    · rintro kb B _ g b0 b1 ⟨hf, hV, rfl⟩ hn
      have pB := pc_rg B
      have pH := pc_rg (hB a j)
      have e2 := sub_tab ⟨B.toNat, by omega⟩ ⟨(hB a j).toNat, by omega⟩ ⟨o.toNat, by omega⟩
      have e3 := sub_pc ⟨B.toNat, by omega⟩ ⟨(hB a j).toNat, by omega⟩ ⟨o.toNat, by omega⟩
      simp only [show ((B.toNat : Nat) : Int) = B by omega, show (((hB a j).toNat : Nat) : Int) = hB a j by omega, show ((o.toNat : Nat) : Int) = o by omega] at e2 e3
      have ss := sm_s (f := ptB a j o) (n := B) b0
      unfold w_X3_partOf_43
      rw [zn_16, if_neg (by rw [z_le (by omega) (by omega) (by omega) (by omega)]; omega), z_inc]
      refine x_pc b0 (by omega) (fun h9 => ?_)
      cases hc : (subB B (hB a j) && !tb B o) with
      | false =>
        rw [hc] at e2
        rw [if_neg (of_decide_eq_false e2)]
        refine hn _ _ ⟨hf, hV, ?_⟩
        rw [ss]
        unfold ptB
        rw [hc, if_neg (by decide), Int.add_zero]
      | true =>
        rw [hc] at e2
        rw [if_pos (of_decide_eq_true e2)]
        obtain ⟨e4, e5⟩ := e3 hc ht
        have fb1 := fac_tab ⟨(pc B).toNat, by omega⟩
        have fb2 := fac_tab ⟨(pc (hB a j) - 1 - pc B).toNat, by omega⟩
        simp only [show (((pc B).toNat : Nat) : Int) = pc B by omega, show (((pc (hB a j) - 1 - pc B).toNat : Nat) : Int) = pc (hB a j) - 1 - pc B by omega] at fb1 fb2
        rw [if_neg (by rw [z_lt (by omega) (by omega) (by omega) (by omega)]; omega), z_sub, z_iN (a := pc B) (by omega) (by omega), z_iN (a := pc (hB a j) - 1 - pc B) (by omega) (by omega), fb1, fb2, z_mul]
        refine ⟨z_in (by omega) (by omega) (by omega), z_in (by omega) (by omega) (by omega), ?_⟩
        rintro _ rfl
        obtain ⟨u1, u2⟩ := sU_z ⟨b0, b1⟩ ho
        rw [u1]
        have Hg : WX g w a := H.at' (fun c k b1 b2 b3 b4 b5 b6 => hf c k (by omega))
        refine x_worthOfSet Hg W hw h6 u2 hV (fun g2 f2 => ?_)
        have H2 : WX g2 w a := Hg.at' (fun c k b1 b2 b3 b4 b5 b6 => f2 c k (by omega))
        have V2 := hV.at' (fun c k _ _ => f2 c k (by omega))
        refine x_worthOfSet H2 W hw h6 ⟨b0, b1⟩ V2 (fun g3 f3 => ?_)
        rintro _ rfl
        refine hn _ _ ⟨fun c k hc => ((hf c k hc).tr (f2 c k (by omega))).tr (f3 c k (by omega)), V2.at' (fun c k _ _ => f3 c k (by omega)), ?_⟩
        rw [z_sub, z_mul, z_add, ss]
        unfold ptB
        rw [hc, if_pos rfl]
    · rintro kb _ g ⟨hf, hV, rfl⟩
      unfold w_X3_partOf_43
      rw [zn_16, if_pos (by rw [z_le (by omega) (by omega) (by omega) (by omega)]; omega)]
      exact hq g hf
theorem x_shareOf {Q : Int32 → PH → Prop} {o : Int} (O : HoX h 100 a (far a (-1))) (ON : OkN a) (OC : OkC a) (h6 : 0 ≤ a.n 0 ∧ a.n 0 ≤ 6) (P : PcA h a) (hj : 0 ≤ j ∧ j < pcN a) (ho : 0 ≤ o ∧ o < 4) (hq : ∀ g, (∀ c k, ¬ (119 ≤ c ∧ c ≤ 121) → At h g c k) → Q (z (pcM a j (okS ((2 ^ o.toNat : Nat) : Int)))) g) : w_X3_minutesOf 100 (z j) (z o) h Q := by
  have pr := pcN_rg h6
  have h2 : 2 ^ o.toNat < 2 ^ 4 := Nat.pow_lt_pow_right (by decide) (by omega)
  unfold w_X3_minutesOf
  refine x_survey P.1 (fun k k0 k1 => labA_S k0 k1) O ON OC h6 (by omega) (fun g1 f1 V1 => ?_)
  rw [shl_pw ho.1 (by omega)]
  have h3 : (0 : Int) ≤ ((2 ^ o.toNat : Nat) : Int) ∧ ((2 ^ o.toNat : Nat) : Int) < 16 := by
    generalize 2 ^ o.toNat = n at h2
    omega
  exact x_minutesOfSet h6 h3 V1 (hq g1 f1)
theorem x_leaversOf {Q : Int32 → PH → Prop} (H : WX h w a) (W : Wf a.wo) (hw : w = 8 ∨ w = 31) (O : HoX h 100 a (far a (-1))) (ON : OkN a) (OC : OkC a) (h6 : 0 ≤ a.n 0 ∧ a.n 0 ≤ 6) (P : PcX h a) (hj : 0 ≤ j ∧ j < pcN a) (hq : ∀ g, (∀ c k, ¬ ((119 ≤ c ∧ c ≤ 121) ∨ c = w + 21 ∨ c = w + 22) → At h g c k) → Q (z (lvs a j)) g) : w_X3_leaversOf w 100 (z j) h Q := by
  have pr := pcN_rg h6
  have hb := hB_rg a j
  have m1 := pcM_rg h6 al (j := j)
  have m2 := pcM_rg h6 (okS (hB a j)) (j := j)
  have wr := wrt_rg (a := a) (x1 := pcM a j al) (x2 := pcQ a j al) (x3 := pc (hB a j)) (x4 := pcF a j al) (by omega)
  unfold w_X3_leaversOf
  refine x_survey P.1.1 (fun k k0 k1 => labA_S k0 k1) O ON OC h6 (by omega) (fun g1 f1 V1 => ?_)
  refine x_holders h6 V1 ?_
  have P1 := P.1.at' (fun c k _ _ => f1 c k (by omega))
  refine x_at P1.2 rfl (c := 3) rfl hj.1 hj.2 (by omega) (by omega) ?_
  have e3 := P.2 j hj.1 hj.2 3 (by omega) (by omega)
  show ∀ y6 : Int64, y6 = (gI g1 (115 + 1) (j * 6 + 3).toNat).toInt64 → _
  rw [show gI g1 (115 + 1) (j * 6 + 3).toNat = z (pcol a j 3) from by rw [(f1 116 _ (by omega)).1]; exact e3]
  rintro _ rfl
  rw [show pcol a j 3 = wrt a (pcM a j al) (pcQ a j al) (pc (hB a j)) (pcF a j al) from rfl, zl_of (by omega) (by omega)]
  unfold lvs at hq
  refine for10 16 (fun B g => (∀ c k, ¬ ((119 ≤ c ∧ c ≤ 121) ∨ c = w + 21 ∨ c = w + 22) → At h g c k) ∧ Sv g a j (48 * spS a) ∧ ∀ q, 0 ≤ q → q < B → lvB a j q = false) 1 rfl (by omega) (by omega) (by omega) ⟨fun c k hc => f1 c k (by omega), V1, fun q q0 q1 => by unfold lvB; rw [decide_eq_false (by omega : ¬ 1 ≤ q)]; rfl⟩ ?_ ?_
  · rintro kb B g b0 b1 ⟨hf, hV, hl⟩ hn
    have skip : ∀ g2, (∀ c k, ¬ ((119 ≤ c ∧ c ≤ 121) ∨ c = w + 21 ∨ c = w + 22) → At h g2 c k) → Sv g2 a j (48 * spS a) → lvB a j B = false → kb (z (B + 1)) g2 := fun g2 a1 a2 a3 => hn g2 ⟨a1, a2, fun q q0 q1 => by
      by_cases e : q = B
      · rw [e]; exact a3
      · exact hl q q0 (by omega)⟩
    have lb : lvB a j B = (subB B (hB a j) && !decide (wos a j B * pcM a j (okS (hB a j)) ≤ wrt a (pcM a j al) (pcQ a j al) (pc (hB a j)) (pcF a j al) * pcM a j (okS B))) := by
      unfold lvB
      rw [decide_eq_true b0, Bool.true_and]
    unfold w_X3_leaversOf_27
    rw [zn_16, if_neg (by rw [z_le (by omega) (by omega) (by omega) (by omega)]; omega), z_inc]
    have sb : subB B (hB a j) = decide ((z B &&& (z (hB a j) ^^^ (-1))) = 0) := rfl
    cases hc : subB B (hB a j) with
    | false =>
      rw [hc] at sb lb
      rw [if_neg (of_decide_eq_false sb.symm)]
      exact skip g hf hV (by rw [lb]; rfl)
    | true =>
      rw [hc] at sb lb
      rw [if_pos (of_decide_eq_true sb.symm)]
      have Hg : WX g w a := H.at' (fun c k b1 b2 b3 b4 b5 b6 => hf c k (by omega))
      refine x_worthOfSet Hg W hw h6 ⟨by omega, b1⟩ hV (fun g2 f2 => ?_)
      have V2 := hV.at' (fun c k _ _ => f2 c k (by omega))
      have F2 : ∀ c k, ¬ ((119 ≤ c ∧ c ≤ 121) ∨ c = w + 21 ∨ c = w + 22) → At h g2 c k := fun c k hc => (hf c k hc).tr (f2 c k (by omega))
      refine x_minutesOfSet h6 hb V2 ?_
      refine x_minutesOfSet h6 ⟨by omega, b1⟩ V2 ?_
      have w1 := wos_rg (j := j) h6 B
      have m3 := pcM_rg h6 (okS B) (j := j)
      have q1 : wos a j B * pcM a j (okS (hB a j)) ≤ 100000 * 6912 := Int.mul_le_mul w1.2 m2.2 m2.1 (by omega)
      have q2 := Int.mul_nonneg w1.1 m2.1
      have q3 : wrt a (pcM a j al) (pcQ a j al) (pc (hB a j)) (pcF a j al) * pcM a j (okS B) ≤ 100000 * 6912 := Int.mul_le_mul wr.2 m3.2 m3.1 (by omega)
      have q4 := Int.mul_nonneg wr.1 m3.1
      rw [zl_of (by omega) (by omega), zl_of (by omega) (by omega), zl_of (by omega) (by omega), zl_mul, zl_mul]
      by_cases c : wos a j B * pcM a j (okS (hB a j)) ≤ wrt a (pcM a j al) (pcQ a j al) (pc (hB a j)) (pcF a j al) * pcM a j (okS B)
      · rw [if_pos (by rw [lg_cmp_le, zl_le (by omega) (by omega) (by omega) (by omega)]; exact c)]
        exact skip g2 F2 V2 (by rw [lb, decide_eq_true c]; rfl)
      · rw [if_neg (by rw [lg_cmp_le, zl_le (by omega) (by omega) (by omega) (by omega)]; exact c)]
        have e : ff (lvB a j) 16 = B := ff_yes (by omega) b1 (by rw [lb, decide_eq_false c]; rfl) (fun q q0 q1 => hl q q0 q1)
        rw [e, if_neg (by omega)] at hq
        exact hq g2 F2
  · rintro kb g ⟨hf, hV, hl⟩
    unfold w_X3_leaversOf_27
    rw [zn_16, if_pos (by rw [z_le (by omega) (by omega) (by omega) (by omega)]; omega)]
    rw [ff_no hl, if_pos rfl] at hq
    exact hq g hf
end PART
