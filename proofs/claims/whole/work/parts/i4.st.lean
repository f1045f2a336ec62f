/-! ===== what is there before the law begins: constants, texts, the words that stay ===== -/
abbrev nwL : List Cond := flatC (Jvm.Cond.and given_1 narrow_1)
def tmS (i : Nat) : Term := if i = 0 then .string RX7 15 else .string RX7 74
set_option maxRecDepth 40000 in
theorem nm_R : ∀ j, j < 14 → Cond.eq (.elem (.static "OwnedSilence$Reader" "RANKS" "[I") (.int (Int32.ofNat j))) (.int (sRANKS j)) ∈ nwL := by decide +kernel
set_option maxRecDepth 40000 in
theorem nm_O : ∀ j, j < 5 → Cond.eq (.elem (.static "OwnedSilence$Pieces" "ORDERS" "[I") (.int (Int32.ofNat j))) (.int (sORDERS j)) ∈ nwL := by decide +kernel
set_option maxRecDepth 40000 in
theorem nm_W : ∀ j, j < 120 → Cond.eq (.elem (.field (.string RX7 15) "java/lang/String" "value" "[B") (.int (Int32.ofNat j))) (.int (sBytW.getD j 0)) ∈ nwL := by decide +kernel
set_option maxRecDepth 40000 in
theorem nm_S : ∀ j, j < 10 → Cond.eq (.elem (.field (.string RX7 74) "java/lang/String" "value" "[B") (.int (Int32.ofNat j))) (.int (sBytS.getD j 0)) ∈ nwL := by decide +kernel
set_option maxRecDepth 40000 in
theorem nm_x : ∀ i, i < 2 → Cond.exactly (tmS i) "java/lang/String" ∈ nwL := by decide +kernel
set_option maxRecDepth 40000 in
theorem nm_c : ∀ i, i < 2 → Cond.eq (.field (tmS i) "java/lang/String" "coder" "B") (.int 0) ∈ nwL := by decide +kernel
set_option maxRecDepth 40000 in
theorem nm_a : ∀ i, i < 2 → Cond.arrayOf (.field (tmS i) "java/lang/String" "value" "[B") .byte ∈ nwL := by decide +kernel
set_option maxRecDepth 40000 in
theorem nm_l : ∀ i, i < 2 → Cond.eq (.length (.field (tmS i) "java/lang/String" "value" "[B")) (.int (Int32.ofNat (sLens.getD i 0))) ∈ nwL := by decide +kernel
set_option maxRecDepth 40000 in
theorem nm_n : Cond.not (Cond.eq (tmS 0) (tmS 1)) ∈ nwL := by decide +kernel
set_option maxRecDepth 40000 in
theorem nm_m : Cond.eq (.string RX7 15) (.string RX10 278) ∈ nwL := by decide +kernel
set_option maxRecDepth 40000 in
theorem nm_r1 : Cond.arrayOf (.static "OwnedSilence$Reader" "RANKS" "[I") .int ∈ nwL := by decide +kernel
set_option maxRecDepth 40000 in
theorem nm_r2 : Cond.eq (.length (.static "OwnedSilence$Reader" "RANKS" "[I")) (.int (Int32.ofNat 14)) ∈ nwL := by decide +kernel
set_option maxRecDepth 40000 in
theorem nm_o1 : Cond.arrayOf (.static "OwnedSilence$Pieces" "ORDERS" "[I") .int ∈ nwL := by decide +kernel
set_option maxRecDepth 40000 in
theorem nm_o2 : Cond.eq (.length (.static "OwnedSilence$Pieces" "ORDERS" "[I")) (.int (Int32.ofNat 5)) ∈ nwL := by decide +kernel
set_option maxRecDepth 40000 in
theorem nm_k : Cond.eq (.static "java/lang/String" "COMPACT_STRINGS" "Z") (.int 1) ∈ nwL := by decide +kernel
set_option maxRecDepth 40000 in
theorem nm_f : Cond.isRef (.static "jdk/internal/util/Preconditions" "SIOOBE_FORMATTER" "Ljava/util/function/BiFunction;") ∈ nwL := by decide +kernel
set_option maxRecDepth 40000 in
theorem nm_u : Cond.isRef (.static Bundle.tN "UNASSIGNED_STACK" Bundle.steD) ∈ nwL := by decide +kernel
set_option maxRecDepth 40000 in
theorem nm_v : Cond.isRef (.static Bundle.tN "SUPPRESSED_SENTINEL" Bundle.listD) ∈ nwL := by decide +kernel
set_option maxRecDepth 40000 in
theorem nm_ei : Cond.not (.castable EN EI) ∈ nwL := by decide +kernel
set_option maxRecDepth 40000 in
theorem nm_s1 : Cond.exactly (.string RX9 131) "java/lang/String" ∈ nwL := by decide +kernel
set_option maxRecDepth 40000 in
theorem nm_s2 : Cond.exactly (.string RX9 153) "java/lang/String" ∈ nwL := by decide +kernel
theorem tq_lsR : Cond.laysStatic "OwnedSilence$Reader" "RANKS" "[I" ∈ lw_tbl := List.mem_append_right _ (tb_m3 (List.mem_of_getElem? (i := 228) (by decide +kernel)))
theorem tq_lsO : Cond.laysStatic "OwnedSilence$Pieces" "ORDERS" "[I" ∈ lw_tbl := List.mem_append_right _ (tb_m5 (List.mem_of_getElem? (i := 10) (by decide +kernel)))
theorem tq_lsC : Cond.laysStatic "java/lang/String" "COMPACT_STRINGS" "Z" ∈ lw_tbl := List.mem_append_right _ (tb_m1 (List.mem_of_getElem? (i := 56) (by decide +kernel)))
theorem tq_lsF : Cond.laysStatic "jdk/internal/util/Preconditions" "SIOOBE_FORMATTER" "Ljava/util/function/BiFunction;" ∈ lw_tbl := List.mem_append_right _ (tb_m1 (List.mem_of_getElem? (i := 72) (by decide +kernel)))
theorem tq_lsU : Cond.laysStatic Bundle.tN "UNASSIGNED_STACK" Bundle.steD ∈ lw_tbl := List.mem_append_right _ (tb_m6 (List.mem_of_getElem? (i := 122) (by decide +kernel)))
theorem tq_lsV : Cond.laysStatic Bundle.tN "SUPPRESSED_SENTINEL" Bundle.listD ∈ lw_tbl := List.mem_append_right _ (tb_m6 (List.mem_of_getElem? (i := 124) (by decide +kernel)))
theorem tq_iiR : Cond.initialized "OwnedSilence$Reader" ∈ lw_tbl := List.mem_append_right _ (tb_m1 (List.mem_of_getElem? (i := 2) (by decide +kernel)))
theorem tq_iiO : Cond.initialized "OwnedSilence$Pieces" ∈ lw_tbl := List.mem_append_right _ (tb_m1 (List.mem_of_getElem? (i := 12) (by decide +kernel)))
theorem tq_iiC : Cond.initialized "java/lang/String" ∈ lw_tbl := List.mem_append_right _ (tb_m1 (List.mem_of_getElem? (i := 4) (by decide +kernel)))
theorem tq_iiF : Cond.initialized "jdk/internal/util/Preconditions" ∈ lw_tbl := List.mem_append_right _ (tb_m1 (List.mem_of_getElem? (i := 6) (by decide +kernel)))
theorem tq_iiT : Cond.initialized Bundle.tN ∈ lw_tbl := List.mem_append_right _ (tb_m1 (List.mem_of_getElem? (i := 18) (by decide +kernel)))
theorem tq_srW : Cond.stringRef RX7 15 sWORDS ∈ lw_tbl := List.mem_append_right _ (tb_m1 (List.mem_of_getElem? (i := 46) (by decide +kernel)))
theorem tq_srS : Cond.stringRef RX7 74 sSIGNS ∈ lw_tbl := List.mem_append_right _ (tb_m3 (List.mem_of_getElem? (i := 50) (by decide +kernel)))
theorem tq_srM : Cond.stringRef RX10 278 sWORDS ∈ lw_tbl := List.mem_append_right _ (tb_m8 (List.mem_of_getElem? (i := 62) (by decide +kernel)))
theorem tq_sr1 : Cond.stringRef RX9 131 "no such owner" ∈ lw_tbl := List.mem_append_right _ (tb_m6 (List.mem_of_getElem? (i := 135) (by decide +kernel)))
theorem tq_sr2 : Cond.stringRef RX9 153 "no such thing of an owner" ∈ lw_tbl := List.mem_append_right _ (tb_m6 (List.mem_of_getElem? (i := 174) (by decide +kernel)))
theorem tq_obR : Cond.declares (Bundle.initS ER) ∈ lw_tbl := List.mem_append_right _ (tb_m6 (List.mem_of_getElem? (i := 99) (by decide +kernel)))
theorem tq_obE : Cond.declares (Bundle.initS EE) ∈ lw_tbl := List.mem_append_right _ (tb_m6 (List.mem_of_getElem? (i := 101) (by decide +kernel)))
theorem tq_obT : Cond.declares (Bundle.initS Bundle.tN) ∈ lw_tbl := List.mem_append_right _ (tb_m6 (List.mem_of_getElem? (i := 103) (by decide +kernel)))
theorem tq_obI : Cond.castable EI EI ∈ lw_tbl := List.mem_append_right _ (tb_m6 (List.mem_of_getElem? (i := 97) (by decide +kernel)))
theorem tq_obN : Cond.castable EN EN ∈ lw_tbl := List.mem_append_right _ (tb_m6 (List.mem_of_getElem? (i := 167) (by decide +kernel)))
theorem vk_S.congr {N : Nat} {len : List Nat} {byt : List (List Int32)} {adK adV aK aV : Nat → Nat} {A : Nat → Prop} {U : State} {H : Heap} (h1 : ∀ i, i < N → aK i = adK i) (h2 : ∀ i, i < N → aV i = adV i) (h : vk_S N len byt adK adV A U H) : vk_S N len byt aK aV A U H :=
  ⟨fun i hi => by rw [h1 i hi, h2 i hi]; exact h.1 i hi, fun i j hi hj e => h.2 i j hi hj (by rw [← h1 i hi, ← h1 j hj]; exact e)⟩
def acs (t0 t1 t6 : Nat) (aK aV : Nat → Nat) (i : Nat) : Nat := if i < 1002 then (if i = 1000 then t0 else t1) else if i < 1004 then aK (i - 1002) else if i < 1006 then aV (i - 1004) else t6
theorem acs_K {t0 t1 t6 : Nat} {aK aV : Nat → Nat} {i : Nat} (h : i < 2) : acs t0 t1 t6 aK aV (1002 + i) = aK i := by
  unfold acs
  rw [if_neg (by omega), if_pos (by omega)]
  rw [Nat.add_sub_cancel_left]
theorem acs_V {t0 t1 t6 : Nat} {aK aV : Nat → Nat} {i : Nat} (h : i < 2) : acs t0 t1 t6 aK aV (1004 + i) = aV i := by
  unfold acs
  rw [if_neg (by omega), if_neg (by omega), if_pos (by omega)]
  rw [Nat.add_sub_cancel_left]
theorem start_xs {b : Nat} {s : State} (hts : ∀ w ∈ lw_tbl, w.before #[Value.ref b] s = true) (hgv : (Jvm.Cond.and given_1 narrow_1).before #[Value.ref b] s = true) : ∃ ac : Nat → Nat, XSA ac (fun q => s.heap.size ≤ q) s := by
  have hs := flat_of_before _ hgv
  have hA : ∀ a : Nat, a < s.heap.size → ¬ (fun q : Nat => s.heap.size ≤ q) a := fun a h => Nat.not_le.mpr h
  obtain ⟨t0, ht0, hT0⟩ := va_Tof (N := 14) (f := fun j => .int (sRANKS j)) (by decide) (hs _ nm_r1) (va_eqt (hs _ nm_r2)) (fun j hj => va_eqt (hs _ (nm_R j hj))) hA
  obtain ⟨t1, ht1, hT1⟩ := va_Tof (N := 5) (f := fun j => .int (sORDERS j)) (by decide) (hs _ nm_o1) (va_eqt (hs _ nm_o2)) (fun j hj => va_eqt (hs _ (nm_O j hj))) hA
  obtain ⟨aK, aV, hS, hE⟩ := vk_Sof (N := 2) (tm := tmS) (len := sLens) (byt := sByts) (args := #[Value.ref b]) (s := s) (A := fun q : Nat => s.heap.size ≤ q) (by decide) (fun i hi => hs _ (nm_x i hi)) (fun i hi => hs _ (nm_c i hi)) (fun i hi => hs _ (nm_a i hi)) (fun i hi => hs _ (nm_l i hi)) (fun i hi j hj => by
      match i, hi with
      | 0, _ => exact hs _ (nm_W j hj)
      | 1, _ => exact hs _ (nm_S j hj)) (fun i j hi hj hij => by
      match i, j, hi, hj with
      | 0, 0, _, _ => exact absurd rfl hij
      | 0, 1, _, _ => exact Or.inl (hs _ nm_n)
      | 1, 0, _, _ => exact Or.inr (hs _ nm_n)
      | 1, 1, _, _ => exact absurd rfl hij) hA
  have hE0 : (Term.string RX7 15).eval #[Value.ref b] s none [] s = some (.ref (aK 0)) := hE 0 (by decide)
  have hE1 : (Term.string RX7 74).eval #[Value.ref b] s none [] s = some (.ref (aK 1)) := hE 1 (by decide)
  have h6 : va_Zq "jdk/internal/util/Preconditions" "SIOOBE_FORMATTER" "Ljava/util/function/BiFunction;" (fun q => s.heap.size ≤ q) s s.heap := va_Zqof (hts _ tq_lsF) (hts _ tq_iiF) (hs _ nm_f) hA
  obtain ⟨t6, h6⟩ : ∃ t6 : Nat, va_Z "jdk/internal/util/Preconditions" "SIOOBE_FORMATTER" "Ljava/util/function/BiFunction;" .null (fun q => s.heap.size ≤ q) s s.heap ∨ va_Z "jdk/internal/util/Preconditions" "SIOOBE_FORMATTER" "Ljava/util/function/BiFunction;" (.ref t6) (fun q => s.heap.size ≤ q) s s.heap := by
    rcases h6 with h | ⟨t, h⟩
    · exact ⟨0, Or.inl h⟩
    · exact ⟨t, Or.inr h⟩
  refine ⟨acs t0 t1 t6 aK aV, va_Zref (hts _ tq_lsR) (hts _ tq_iiR) ht0 hA, hT0, va_Zref (hts _ tq_lsO) (hts _ tq_iiO) ht1 hA, hT1, vk_S.congr (fun i hi => acs_K hi) (fun i hi => acs_V hi) hS, vk_R.of (hts _ tq_srW) hE0, vk_R.of (hts _ tq_srS) hE1, vk_R.of (hts _ tq_srM) (va_eqR (hs _ nm_m) hE0), va_Zof (hts _ tq_lsC) (hts _ tq_iiC) (va_eqt (hs _ nm_k)) hA, h6⟩
theorem start_ox {b : Nat} {s : State} (hts : ∀ w ∈ lw_tbl, w.before #[Value.ref b] s = true) (hgv : (Jvm.Cond.and given_1 narrow_1).before #[Value.ref b] s = true) : ∃ o1 o2 : Nat, OX o1 o2 (fun q => s.heap.size ≤ q) s := by
  have hs := flat_of_before _ hgv
  have hA : ∀ a : Nat, a < s.heap.size → ¬ (fun q : Nat => s.heap.size ≤ q) a := fun a h => Nat.not_le.mpr h
  obtain ⟨o1, _, _, _, h1, -⟩ := Cond.exactly_spec (args := #[Value.ref b]) (first := s) (o := none) (s := s) (idx := []) (hs _ nm_s1)
  obtain ⟨o2, _, _, _, h2, -⟩ := Cond.exactly_spec (args := #[Value.ref b]) (first := s) (o := none) (s := s) (idx := []) (hs _ nm_s2)
  refine ⟨o1, o2, vx_Zqof (hts _ tq_lsU) (hts _ tq_iiT) (hs _ nm_u) hA, vx_Zqof (hts _ tq_lsV) (hts _ tq_iiT) (hs _ nm_v) hA, fun w hw => ?_, vk_R.of (hts _ tq_sr1) h1, vk_R.of (hts _ tq_sr2) h2, va_Nc.of (hs _ nm_ei)⟩
  simp only [OB, List.mem_cons, List.not_mem_nil, or_false] at hw
  rcases hw with rfl | rfl | rfl | rfl | rfl
  · exact va_Nw.of rfl (hts _ tq_obR)
  · exact va_Nw.of rfl (hts _ tq_obE)
  · exact va_Nw.of rfl (hts _ tq_obT)
  · exact va_Nw.of rfl (hts _ tq_obI)
  · exact va_Nw.of rfl (hts _ tq_obN)
theorem start_nt {b : Nat} {s : State} (hts : ∀ w ∈ lw_tbl, w.before #[Value.ref b] s = true) : ∀ w ∈ NT, va_Nw w s := by
  intro w hw
  have h1 := hts w (List.mem_filter.mp hw).1
  have h2 := (List.mem_filter.mp hw).2
  refine va_Nw.of ?_ h1
  cases w <;> first | rfl | cases h2
theorem start_ar {args : Array Value} {s : State} {t : FieldType} (h : (Cond.arrayClass t).before args s = true) (ho : ∀ C, t ≠ .object C) : ∃ c : ClassId, ArrOfT s c t ∧ va_RA s c t := by
  obtain ⟨c, k, comp, h1, h2, h3⟩ := Cond.arrayClass_spec h
  refine ⟨c, fun N x => ⟨(fun q hq => by cases hq), k, h2, comp, h3⟩, ?_⟩
  cases t <;> first | exact h1 | exact absurd rfl (ho _)
theorem start_K {b : Nat} {s : State} (hts : ∀ w ∈ lw_tbl, w.before #[Value.ref b] s = true) : ∃ (D : va_G) (ca : Nat → ClassId), va_K D classes [(ca 0, .int), (ca 1, .long), (ca 2, .byte), (ca 3, .boolean)] s := by
  obtain ⟨c0, s0, h0⟩ := u_known (C := RX0) (T := TX0) (N := 5) (n := 5) hts (fun w h => LT_tbl (cf_0.2.2.1 w h)) (hts _ (LT_tbl in_0))
  obtain ⟨c1, s1, h1⟩ := u_known (C := RX1) (T := TX1) (N := 5) (n := 5) hts (fun w h => LT_tbl (cf_1.2.2.1 w h)) (hts _ (LT_tbl in_1))
  obtain ⟨c2, s2, h2⟩ := u_known (C := RX2) (T := TX2) (N := 8) (n := 8) hts (fun w h => LT_tbl (cf_2.2.2.1 w h)) (hts _ (LT_tbl in_2))
  obtain ⟨c3, s3, h3⟩ := u_known (C := RX3) (T := TX3) (N := 7) (n := 7) hts (fun w h => LT_tbl (cf_3.2.2.1 w h)) (hts _ (LT_tbl in_3))
  obtain ⟨c4, s4, h4⟩ := u_known (C := RX4) (T := TX4) (N := 7) (n := 7) hts (fun w h => LT_tbl (cf_4.2.2.1 w h)) (hts _ (LT_tbl in_4))
  obtain ⟨c5, s5, h5⟩ := u_known (C := RX5) (T := TX5) (N := 10) (n := 10) hts (fun w h => LT_tbl (cf_5.2.2.1 w h)) (hts _ (LT_tbl in_5))
  obtain ⟨c6, s6, h6⟩ := u_known (C := RX6) (T := TX6) (N := 4) (n := 4) hts (fun w h => LT_tbl (cf_6.2.2.1 w h)) (hts _ (LT_tbl in_6))
  obtain ⟨c7, s7, h7⟩ := u_known (C := RX7) (T := TX7) (N := 7) (n := 7) hts (fun w h => LT_tbl (cf_7.2.2.1 w h)) (hts _ (LT_tbl in_7))
  obtain ⟨c8, s8, h8⟩ := u_known (C := RX8) (T := TX8) (N := 13) (n := 13) hts (fun w h => LT_tbl (cf_8.2.2.1 w h)) (hts _ (LT_tbl in_8))
  obtain ⟨c9, s9, h9⟩ := u_known (C := RX9) (T := TX9) (N := 18) (n := 18) hts (fun w h => LT_tbl (cf_9.2.2.1 w h)) (hts _ (LT_tbl in_9))
  obtain ⟨c10, s10, h10⟩ := u_known (C := RX10) (T := TX10) (N := 105) (n := 105) hts (fun w h => LT_tbl (cf_10.2.2.1 w h)) (hts _ (LT_tbl in_10))
  obtain ⟨cI, hI⟩ := start_ar (hts _ (LT_tbl ac_0)) (fun _ h => by cases h)
  obtain ⟨cJ, hJ⟩ := start_ar (hts _ (LT_tbl ac_1)) (fun _ h => by cases h)
  obtain ⟨cB, hB⟩ := start_ar (hts _ (LT_tbl ac_2)) (fun _ h => by cases h)
  obtain ⟨cZ, hZ⟩ := start_ar (hts _ (LT_tbl ac_3)) (fun _ h => by cases h)
  refine ⟨(fun k => ([c0, c1, c2, c3, c4, c5, c6, c7, c8, c9, c10] : List ClassId).getD k 0, fun k => ([s0, s1, s2, s3, s4, s5, s6, s7, s8, s9, s10] : List (Nat → Nat)).getD k (fun _ => 0)), fun k => ([cI, cJ, cB, cZ] : List ClassId).getD k 0, ⟨fun k q hq => ?_, fun k q hq => ?_⟩⟩
  · match k, hq with
    | 0, hq => cases hq; exact h0
    | 1, hq => cases hq; exact h1
    | 2, hq => cases hq; exact h2
    | 3, hq => cases hq; exact h3
    | 4, hq => cases hq; exact h4
    | 5, hq => cases hq; exact h5
    | 6, hq => cases hq; exact h6
    | 7, hq => cases hq; exact h7
    | 8, hq => cases hq; exact h8
    | 9, hq => cases hq; exact h9
    | 10, hq => cases hq; exact h10
    | k + 11, hq => simp [classes] at hq
  · match k, hq with
    | 0, hq => cases hq; exact hI
    | 1, hq => cases hq; exact hJ
    | 2, hq => cases hq; exact hB
    | 3, hq => cases hq; exact hZ
    | k + 4, hq => simp at hq
