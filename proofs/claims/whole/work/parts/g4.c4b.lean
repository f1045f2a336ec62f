theorem bl_10_cons (D : va_G) (ca ad : Nat → Nat) (B : Nat) : bl_10 D ca ad B = .inr (10, fsl (GM D ca (fun i => if i < 72 then B + i else ad i)) hM0 10 0) :: (List.range' 1 71).map (ce (GM D ca (fun i => if i < 72 then B + i else ad i)) hM0) := by
  unfold bl_10
  rw [List.range_eq_range', List.range'_succ, List.map_cons]
  rfl
set_option maxHeartbeats 4000000 in
set_option maxRecDepth 40000 in
theorem k0_X10_init {D : va_G} {ca ad : Nat → Nat} {B : Nat} {l : Launch} (hbg : Bg) : Mc D ca ad B l 10 71 4778 yX10_init cX10_init 1 [.ref (B + 0)] [.inr (10, d10)] (bl_10 D ca ad B) := by
  refine Met.ofW (cc := cX10_init) (maxL := 1) (ret := none) (by decide +kernel) rfl ?_
  intro p e s m args below meth c s₁ Bd hml hv
  obtain ⟨rfl, hBs, hP, hz, hK⟩ := hv
  have hx := Bd.exec
  have hb := Bd.bytes
  have hr := Bd.returns
  have hts0 := atoms_spec (ws := Cond.code yX10_init cX10_init 1 none :: LT) Bd.pre
  have hts : ∀ w ∈ LT, w.before _ s = true := fun w hw => hts0 w (List.mem_cons_of_mem _ hw)
  have hown : s.vm.findClass RX10 = some m.cls := findClass_of_methodNamed Bd.named
  have hlocks := Bd.notSynchronized
  have hin : meth.name = "<init>" := (name_of_methodNamed Bd.named Bd.method).1
  have hS : va_S (fun q => B ≤ q) s.heap s.heap [] := va_S.rf
  have hsz : s.heap.size = B + 1 := hz
  have hz : s.heap.size = B + (0 + 1) := hz
  have ho : ([] : List va_E).length = 0 := rfl
  have hP : va_P D classes (wsB B (([] : List va_E) ++ ([.inr (10, d10)] : List va_E))) s.heap := hP
  have hl := lv_entry ([.ref (B + 0)]) (n := 1) (Nat.le_of_ble_eq_true rfl)
  rw [lg_entry_eq]
  generalize (lg_sl ([.ref (B + 0)]) ++ List.replicate (1 - (lg_sl ([.ref (B + 0)])).length) Slot.unset).toArray = ls at hl ⊢
  have hl : lv_has ls 1 [(0, .ref (B + 0))] := hl
  obtain ⟨f0, ef0⟩ : ∃ z : List Value, z = d10 := ⟨_, rfl⟩
  rw [← ef0] at hP
  have lf0 : f0.length = 105 := by rw [ef0]; rfl
  refine lv_aload_n hx hb dX10_init_0 rfl (lv_at hl 0 rfl) ?_
  refine W.objInit hx hb hown (hts _ oi_X10) (hts _ oi_inst) (hts _ oi_code) rfl (by rw [hml]; exact hl.1) rfl dX10_init_1 (Nat.le_of_ble_eq_true rfl) (Nat.le_of_ble_eq_true rfl) ?_
  refine lv_aload_n hx hb dX10_init_4 rfl (lv_at hl 0 rfl) ?_
  refine lv_sipush (v := 700) hx hb dX10_init_5 (by decide) ?_
  refine cx_newa (t := 0) (atype := .int) (N := 700) hx hb hts hK rfl (by decide) ac_0 (a0 := (700, .inl (fun _ => 0))) (fun _ => rfl) (by decide) (by decide) (Nat.le_of_ble_eq_true rfl) ho (r := .inr (10, f0) :: ([] : List va_E)) (nr := 1) (by rw [List.length_cons, List.length_nil]) (r' := .inr (10, f0) :: (([] : List va_E) ++ [.inl (ca 0, 700, .inl (fun _ => 0))])) rfl hP hz hS (Nat.le_of_ble_eq_true rfl) (Nat.le_of_ble_eq_true rfl) dX10_init_8 (fun H hP hz hS => ?_)
  obtain ⟨t1, et1⟩ : ∃ z : List va_E, z = ([] : List va_E) ++ [.inl (ca 0, 700, .inl (fun _ => 0))] := ⟨_, rfl⟩
  have hP : va_P D classes (wsB B (([] : List va_E) ++ (.inr (10, f0) :: (([] : List va_E) ++ [.inl (ca 0, 700, .inl (fun _ => 0))])))) H := hP
  rw [← et1] at hP
  have lt1 : t1.length = 1 := by rw [et1, List.length_append, List.length_nil]; simp only [List.length_cons, List.length_append, List.length_nil, Nat.reduceAdd, Nat.zero_add, bl_6_len, bl_1_len, bl_8_len, bl_0_len, bl_3_len, bl_4_len, bl_2_len, bl_7_len, bl_5_len]
  refine cx_putF (v := .ref (B + (0 + 1))) hx hb hts hown hK cf_10 fl_X10_7 (by decide) rfl hin rfl rfl rfl (by rw [lf0]; decide) ho (fs' := f0.set 1 (.ref (B + (0 + 1)))) rfl (t := t1) (nr := 2) (by rw [lt1]) hP hz hS dX10_init_10 (fun H locs hP hz hS => ?_)
  obtain ⟨f1, ef1⟩ : ∃ z : List Value, z = f0.set 1 (.ref (B + (0 + 1))) := ⟨_, rfl⟩
  rw [← ef1] at hP
  have lf1 : f1.length = 105 := by rw [ef1, List.length_set, lf0]
  refine lv_aload_n hx hb dX10_init_13 rfl (lv_at hl 0 rfl) ?_
  refine lv_bipush (v := 22) hx hb dX10_init_14 (by decide) ?_
  refine cx_newa (t := 0) (atype := .int) (N := 22) hx hb hts hK rfl (by decide) ac_0 (a0 := (22, .inl (fun _ => 0))) (fun _ => rfl) (by decide) (by decide) (Nat.le_of_ble_eq_true rfl) ho (r := .inr (10, f1) :: t1) (nr := 2) (by rw [List.length_cons, lt1]) (r' := .inr (10, f1) :: (t1 ++ [.inl (ca 0, 22, .inl (fun _ => 0))])) rfl hP hz hS (Nat.le_of_ble_eq_true rfl) (Nat.le_of_ble_eq_true rfl) dX10_init_16 (fun H hP hz hS => ?_)
  have hP : va_P D classes (wsB B (([] : List va_E) ++ ((.inr (10, f1) :: t1) ++ [.inl (ca 0, 22, .inl (fun _ => 0))]))) H := hP
  refine lv_dup hx hb dX10_init_18 rfl ?_
  refine lv_iconst (v := 0) hx hb dX10_init_19 (by decide) ?_
  refine lv_iconst (v := 0) hx hb dX10_init_20 (by decide) ?_
  refine cx_iast (x := 0) (j := 0) (r0 := (.inr (10, f1) :: t1)) (nr := 2) hx hb hK (vpl (by decide)) ho (by rw [List.length_cons, lt1]) hP hz hS dX10_init_21 (fun H locs hP hz hS => ?_)
  refine lv_dup hx hb dX10_init_22 rfl ?_
  refine lv_iconst (v := 1) hx hb dX10_init_23 (by decide) ?_
  refine lv_iconst (v := 0) hx hb dX10_init_24 (by decide) ?_
  refine cx_iast (x := 0) (j := 1) (r0 := (.inr (10, f1) :: t1)) (nr := 2) hx hb hK (vpl (by decide)) ho (by rw [List.length_cons, lt1]) hP hz hS dX10_init_25 (fun H locs hP hz hS => ?_)
  refine lv_dup hx hb dX10_init_26 rfl ?_
  refine lv_iconst (v := 2) hx hb dX10_init_27 (by decide) ?_
  refine lv_iconst (v := 0) hx hb dX10_init_28 (by decide) ?_
  refine cx_iast (x := 0) (j := 2) (r0 := (.inr (10, f1) :: t1)) (nr := 2) hx hb hK (vpl (by decide)) ho (by rw [List.length_cons, lt1]) hP hz hS dX10_init_29 (fun H locs hP hz hS => ?_)
  refine lv_dup hx hb dX10_init_30 rfl ?_
  refine lv_iconst (v := 3) hx hb dX10_init_31 (by decide) ?_
  refine lv_iconst (v := 0) hx hb dX10_init_32 (by decide) ?_
  refine cx_iast (x := 0) (j := 3) (r0 := (.inr (10, f1) :: t1)) (nr := 2) hx hb hK (vpl (by decide)) ho (by rw [List.length_cons, lt1]) hP hz hS dX10_init_33 (fun H locs hP hz hS => ?_)
  refine lv_dup hx hb dX10_init_34 rfl ?_
  refine lv_iconst (v := 4) hx hb dX10_init_35 (by decide) ?_
  refine lv_iconst (v := 0) hx hb dX10_init_36 (by decide) ?_
  refine cx_iast (x := 0) (j := 4) (r0 := (.inr (10, f1) :: t1)) (nr := 2) hx hb hK (vpl (by decide)) ho (by rw [List.length_cons, lt1]) hP hz hS dX10_init_37 (fun H locs hP hz hS => ?_)
  refine lv_dup hx hb dX10_init_38 rfl ?_
  refine lv_iconst (v := 5) hx hb dX10_init_39 (by decide) ?_
  refine lv_iconst (v := 0) hx hb dX10_init_40 (by decide) ?_
  refine cx_iast (x := 0) (j := 5) (r0 := (.inr (10, f1) :: t1)) (nr := 2) hx hb hK (vpl (by decide)) ho (by rw [List.length_cons, lt1]) hP hz hS dX10_init_41 (fun H locs hP hz hS => ?_)
  refine lv_dup hx hb dX10_init_42 rfl ?_
  refine lv_bipush (v := 6) hx hb dX10_init_43 (by decide) ?_
  refine lv_iconst (v := 0) hx hb dX10_init_45 (by decide) ?_
  refine cx_iast (x := 0) (j := 6) (r0 := (.inr (10, f1) :: t1)) (nr := 2) hx hb hK (vpl (by decide)) ho (by rw [List.length_cons, lt1]) hP hz hS dX10_init_46 (fun H locs hP hz hS => ?_)
  refine lv_dup hx hb dX10_init_47 rfl ?_
  refine lv_bipush (v := 7) hx hb dX10_init_48 (by decide) ?_
  refine lv_iconst (v := 5) hx hb dX10_init_50 (by decide) ?_
  refine cx_iast (x := 5) (j := 7) (r0 := (.inr (10, f1) :: t1)) (nr := 2) hx hb hK (vpl (by decide)) ho (by rw [List.length_cons, lt1]) hP hz hS dX10_init_51 (fun H locs hP hz hS => ?_)
  refine lv_dup hx hb dX10_init_52 rfl ?_
  refine lv_bipush (v := 8) hx hb dX10_init_53 (by decide) ?_
  refine lv_iconst (v := 1) hx hb dX10_init_55 (by decide) ?_
  refine cx_iast (x := 1) (j := 8) (r0 := (.inr (10, f1) :: t1)) (nr := 2) hx hb hK (vpl (by decide)) ho (by rw [List.length_cons, lt1]) hP hz hS dX10_init_56 (fun H locs hP hz hS => ?_)
  refine lv_dup hx hb dX10_init_57 rfl ?_
  refine lv_bipush (v := 9) hx hb dX10_init_58 (by decide) ?_
  refine lv_iconst (v := 0) hx hb dX10_init_60 (by decide) ?_
  refine cx_iast (x := 0) (j := 9) (r0 := (.inr (10, f1) :: t1)) (nr := 2) hx hb hK (vpl (by decide)) ho (by rw [List.length_cons, lt1]) hP hz hS dX10_init_61 (fun H locs hP hz hS => ?_)
  refine lv_dup hx hb dX10_init_62 rfl ?_
  refine lv_bipush (v := 10) hx hb dX10_init_63 (by decide) ?_
  refine lv_iconst (v := 0) hx hb dX10_init_65 (by decide) ?_
  refine cx_iast (x := 0) (j := 10) (r0 := (.inr (10, f1) :: t1)) (nr := 2) hx hb hK (vpl (by decide)) ho (by rw [List.length_cons, lt1]) hP hz hS dX10_init_66 (fun H locs hP hz hS => ?_)
  refine lv_dup hx hb dX10_init_67 rfl ?_
  refine lv_bipush (v := 11) hx hb dX10_init_68 (by decide) ?_
  refine lv_iconst (v := 0) hx hb dX10_init_70 (by decide) ?_
  refine cx_iast (x := 0) (j := 11) (r0 := (.inr (10, f1) :: t1)) (nr := 2) hx hb hK (vpl (by decide)) ho (by rw [List.length_cons, lt1]) hP hz hS dX10_init_71 (fun H locs hP hz hS => ?_)
  refine lv_dup hx hb dX10_init_72 rfl ?_
  refine lv_bipush (v := 12) hx hb dX10_init_73 (by decide) ?_
  refine lv_iconst (v := 0) hx hb dX10_init_75 (by decide) ?_
  refine cx_iast (x := 0) (j := 12) (r0 := (.inr (10, f1) :: t1)) (nr := 2) hx hb hK (vpl (by decide)) ho (by rw [List.length_cons, lt1]) hP hz hS dX10_init_76 (fun H locs hP hz hS => ?_)
  refine lv_dup hx hb dX10_init_77 rfl ?_
  refine lv_bipush (v := 13) hx hb dX10_init_78 (by decide) ?_
  refine lv_iconst (v := 0) hx hb dX10_init_80 (by decide) ?_
  refine cx_iast (x := 0) (j := 13) (r0 := (.inr (10, f1) :: t1)) (nr := 2) hx hb hK (vpl (by decide)) ho (by rw [List.length_cons, lt1]) hP hz hS dX10_init_81 (fun H locs hP hz hS => ?_)
  refine lv_dup hx hb dX10_init_82 rfl ?_
  refine lv_bipush (v := 14) hx hb dX10_init_83 (by decide) ?_
  refine lv_iconst (v := 0) hx hb dX10_init_85 (by decide) ?_
  refine cx_iast (x := 0) (j := 14) (r0 := (.inr (10, f1) :: t1)) (nr := 2) hx hb hK (vpl (by decide)) ho (by rw [List.length_cons, lt1]) hP hz hS dX10_init_86 (fun H locs hP hz hS => ?_)
  refine lv_dup hx hb dX10_init_87 rfl ?_
  refine lv_bipush (v := 15) hx hb dX10_init_88 (by decide) ?_
  refine lv_iconst (v := 0) hx hb dX10_init_90 (by decide) ?_
  refine cx_iast (x := 0) (j := 15) (r0 := (.inr (10, f1) :: t1)) (nr := 2) hx hb hK (vpl (by decide)) ho (by rw [List.length_cons, lt1]) hP hz hS dX10_init_91 (fun H locs hP hz hS => ?_)
  refine lv_dup hx hb dX10_init_92 rfl ?_
  refine lv_bipush (v := 16) hx hb dX10_init_93 (by decide) ?_
  refine lv_iconst (v := 0) hx hb dX10_init_95 (by decide) ?_
  refine cx_iast (x := 0) (j := 16) (r0 := (.inr (10, f1) :: t1)) (nr := 2) hx hb hK (vpl (by decide)) ho (by rw [List.length_cons, lt1]) hP hz hS dX10_init_96 (fun H locs hP hz hS => ?_)
  refine lv_dup hx hb dX10_init_97 rfl ?_
  refine lv_bipush (v := 17) hx hb dX10_init_98 (by decide) ?_
  refine lv_iconst (v := 0) hx hb dX10_init_100 (by decide) ?_
  refine cx_iast (x := 0) (j := 17) (r0 := (.inr (10, f1) :: t1)) (nr := 2) hx hb hK (vpl (by decide)) ho (by rw [List.length_cons, lt1]) hP hz hS dX10_init_101 (fun H locs hP hz hS => ?_)
  refine lv_dup hx hb dX10_init_102 rfl ?_
  refine lv_bipush (v := 18) hx hb dX10_init_103 (by decide) ?_
  refine lv_iconst (v := 5) hx hb dX10_init_105 (by decide) ?_
  refine cx_iast (x := 5) (j := 18) (r0 := (.inr (10, f1) :: t1)) (nr := 2) hx hb hK (vpl (by decide)) ho (by rw [List.length_cons, lt1]) hP hz hS dX10_init_106 (fun H locs hP hz hS => ?_)
  refine lv_dup hx hb dX10_init_107 rfl ?_
  refine lv_bipush (v := 19) hx hb dX10_init_108 (by decide) ?_
  refine lv_iconst (v := 1) hx hb dX10_init_110 (by decide) ?_
  refine cx_iast (x := 1) (j := 19) (r0 := (.inr (10, f1) :: t1)) (nr := 2) hx hb hK (vpl (by decide)) ho (by rw [List.length_cons, lt1]) hP hz hS dX10_init_111 (fun H locs hP hz hS => ?_)
  refine lv_dup hx hb dX10_init_112 rfl ?_
  refine lv_bipush (v := 20) hx hb dX10_init_113 (by decide) ?_
  refine lv_iconst (v := 0) hx hb dX10_init_115 (by decide) ?_
  refine cx_iast (x := 0) (j := 20) (r0 := (.inr (10, f1) :: t1)) (nr := 2) hx hb hK (vpl (by decide)) ho (by rw [List.length_cons, lt1]) hP hz hS dX10_init_116 (fun H locs hP hz hS => ?_)
  refine lv_dup hx hb dX10_init_117 rfl ?_
  refine lv_bipush (v := 21) hx hb dX10_init_118 (by decide) ?_
  refine lv_iconst (v := 0) hx hb dX10_init_120 (by decide) ?_
  refine cx_iast (x := 0) (j := 21) (r0 := (.inr (10, f1) :: t1)) (nr := 2) hx hb hK (vpl (by decide)) ho (by rw [List.length_cons, lt1]) hP hz hS dX10_init_121 (fun H locs hP hz hS => ?_)
  obtain ⟨t2, et2⟩ : ∃ z : List va_E, z = t1 ++ [.inl (ca 0, 22, .inl (upd (upd (upd (upd (upd (upd (upd (upd (upd (upd (upd (upd (upd (upd (upd (upd (upd (upd (upd (upd (upd (upd (fun _ => 0) (iN 0) 0) (iN 1) 0) (iN 2) 0) (iN 3) 0) (iN 4) 0) (iN 5) 0) (iN 6) 0) (iN 7) 5) (iN 8) 1) (iN 9) 0) (iN 10) 0) (iN 11) 0) (iN 12) 0) (iN 13) 0) (iN 14) 0) (iN 15) 0) (iN 16) 0) (iN 17) 0) (iN 18) 5) (iN 19) 1) (iN 20) 0) (iN 21) 0))] := ⟨_, rfl⟩
  have hP : va_P D classes (wsB B (([] : List va_E) ++ (.inr (10, f1) :: (t1 ++ [.inl (ca 0, 22, .inl (upd (upd (upd (upd (upd (upd (upd (upd (upd (upd (upd (upd (upd (upd (upd (upd (upd (upd (upd (upd (upd (upd (fun _ => 0) (iN 0) 0) (iN 1) 0) (iN 2) 0) (iN 3) 0) (iN 4) 0) (iN 5) 0) (iN 6) 0) (iN 7) 5) (iN 8) 1) (iN 9) 0) (iN 10) 0) (iN 11) 0) (iN 12) 0) (iN 13) 0) (iN 14) 0) (iN 15) 0) (iN 16) 0) (iN 17) 0) (iN 18) 5) (iN 19) 1) (iN 20) 0) (iN 21) 0))])))) H := hP
  rw [← et2] at hP
  have lt2 : t2.length = 2 := by rw [et2, List.length_append, lt1]; simp only [List.length_cons, List.length_append, List.length_nil, Nat.reduceAdd, Nat.zero_add, bl_6_len, bl_1_len, bl_8_len, bl_0_len, bl_3_len, bl_4_len, bl_2_len, bl_7_len, bl_5_len]
  refine cx_putF (v := .ref (B + (0 + 2))) hx hb hts hown hK cf_10 fl_X10_13 (by decide) rfl hin rfl rfl rfl (by rw [lf1]; decide) ho (fs' := f1.set 3 (.ref (B + (0 + 2)))) rfl (t := t2) (nr := 3) (by rw [lt2]) hP hz hS dX10_init_122 (fun H locs hP hz hS => ?_)
  obtain ⟨f2, ef2⟩ : ∃ z : List Value, z = f1.set 3 (.ref (B + (0 + 2))) := ⟨_, rfl⟩
  rw [← ef2] at hP
  have lf2 : f2.length = 105 := by rw [ef2, List.length_set, lf1]
  refine lv_aload_n hx hb dX10_init_125 rfl (lv_at hl 0 rfl) ?_
  refine lv_bipush (v := 12) hx hb dX10_init_126 (by decide) ?_
  refine cx_newa (t := 0) (atype := .int) (N := 12) hx hb hts hK rfl (by decide) ac_0 (a0 := (12, .inl (fun _ => 0))) (fun _ => rfl) (by decide) (by decide) (Nat.le_of_ble_eq_true rfl) ho (r := .inr (10, f2) :: t2) (nr := 3) (by rw [List.length_cons, lt2]) (r' := .inr (10, f2) :: (t2 ++ [.inl (ca 0, 12, .inl (fun _ => 0))])) rfl hP hz hS (Nat.le_of_ble_eq_true rfl) (Nat.le_of_ble_eq_true rfl) dX10_init_128 (fun H hP hz hS => ?_)
  obtain ⟨t3, et3⟩ : ∃ z : List va_E, z = t2 ++ [.inl (ca 0, 12, .inl (fun _ => 0))] := ⟨_, rfl⟩
  have hP : va_P D classes (wsB B (([] : List va_E) ++ (.inr (10, f2) :: (t2 ++ [.inl (ca 0, 12, .inl (fun _ => 0))])))) H := hP
  rw [← et3] at hP
  have lt3 : t3.length = 3 := by rw [et3, List.length_append, lt2]; simp only [List.length_cons, List.length_append, List.length_nil, Nat.reduceAdd, Nat.zero_add, bl_6_len, bl_1_len, bl_8_len, bl_0_len, bl_3_len, bl_4_len, bl_2_len, bl_7_len, bl_5_len]
  refine cx_putF (v := .ref (B + (0 + 3))) hx hb hts hown hK cf_10 fl_X10_16 (by decide) rfl hin rfl rfl rfl (by rw [lf2]; decide) ho (fs' := f2.set 4 (.ref (B + (0 + 3)))) rfl (t := t3) (nr := 4) (by rw [lt3]) hP hz hS dX10_init_130 (fun H locs hP hz hS => ?_)
  obtain ⟨f3, ef3⟩ : ∃ z : List Value, z = f2.set 4 (.ref (B + (0 + 3))) := ⟨_, rfl⟩
  rw [← ef3] at hP
  have lf3 : f3.length = 105 := by rw [ef3, List.length_set, lf2]
  refine lv_aload_n hx hb dX10_init_133 rfl (lv_at hl 0 rfl) ?_
  refine lv_bipush (v := 18) hx hb dX10_init_134 (by decide) ?_
  refine cx_newa (t := 0) (atype := .int) (N := 18) hx hb hts hK rfl (by decide) ac_0 (a0 := (18, .inl (fun _ => 0))) (fun _ => rfl) (by decide) (by decide) (Nat.le_of_ble_eq_true rfl) ho (r := .inr (10, f3) :: t3) (nr := 4) (by rw [List.length_cons, lt3]) (r' := .inr (10, f3) :: (t3 ++ [.inl (ca 0, 18, .inl (fun _ => 0))])) rfl hP hz hS (Nat.le_of_ble_eq_true rfl) (Nat.le_of_ble_eq_true rfl) dX10_init_136 (fun H hP hz hS => ?_)
  obtain ⟨t4, et4⟩ : ∃ z : List va_E, z = t3 ++ [.inl (ca 0, 18, .inl (fun _ => 0))] := ⟨_, rfl⟩
  have hP : va_P D classes (wsB B (([] : List va_E) ++ (.inr (10, f3) :: (t3 ++ [.inl (ca 0, 18, .inl (fun _ => 0))])))) H := hP
  rw [← et4] at hP
  have lt4 : t4.length = 4 := by rw [et4, List.length_append, lt3]; simp only [List.length_cons, List.length_append, List.length_nil, Nat.reduceAdd, Nat.zero_add, bl_6_len, bl_1_len, bl_8_len, bl_0_len, bl_3_len, bl_4_len, bl_2_len, bl_7_len, bl_5_len]
  refine cx_putF (v := .ref (B + (0 + 4))) hx hb hts hown hK cf_10 fl_X10_19 (by decide) rfl hin rfl rfl rfl (by rw [lf3]; decide) ho (fs' := f3.set 5 (.ref (B + (0 + 4)))) rfl (t := t4) (nr := 5) (by rw [lt4]) hP hz hS dX10_init_138 (fun H locs hP hz hS => ?_)
  obtain ⟨f4, ef4⟩ : ∃ z : List Value, z = f3.set 5 (.ref (B + (0 + 4))) := ⟨_, rfl⟩
  rw [← ef4] at hP
  have lf4 : f4.length = 105 := by rw [ef4, List.length_set, lf3]
  refine lv_aload_n hx hb dX10_init_141 rfl (lv_at hl 0 rfl) ?_
  refine lv_bipush (v := 18) hx hb dX10_init_142 (by decide) ?_
  refine cx_newa (t := 0) (atype := .int) (N := 18) hx hb hts hK rfl (by decide) ac_0 (a0 := (18, .inl (fun _ => 0))) (fun _ => rfl) (by decide) (by decide) (Nat.le_of_ble_eq_true rfl) ho (r := .inr (10, f4) :: t4) (nr := 5) (by rw [List.length_cons, lt4]) (r' := .inr (10, f4) :: (t4 ++ [.inl (ca 0, 18, .inl (fun _ => 0))])) rfl hP hz hS (Nat.le_of_ble_eq_true rfl) (Nat.le_of_ble_eq_true rfl) dX10_init_144 (fun H hP hz hS => ?_)
  obtain ⟨t5, et5⟩ : ∃ z : List va_E, z = t4 ++ [.inl (ca 0, 18, .inl (fun _ => 0))] := ⟨_, rfl⟩
  have hP : va_P D classes (wsB B (([] : List va_E) ++ (.inr (10, f4) :: (t4 ++ [.inl (ca 0, 18, .inl (fun _ => 0))])))) H := hP
  rw [← et5] at hP
  have lt5 : t5.length = 5 := by rw [et5, List.length_append, lt4]; simp only [List.length_cons, List.length_append, List.length_nil, Nat.reduceAdd, Nat.zero_add, bl_6_len, bl_1_len, bl_8_len, bl_0_len, bl_3_len, bl_4_len, bl_2_len, bl_7_len, bl_5_len]
  refine cx_putF (v := .ref (B + (0 + 5))) hx hb hts hown hK cf_10 fl_X10_22 (by decide) rfl hin rfl rfl rfl (by rw [lf4]; decide) ho (fs' := f4.set 6 (.ref (B + (0 + 5)))) rfl (t := t5) (nr := 6) (by rw [lt5]) hP hz hS dX10_init_146 (fun H locs hP hz hS => ?_)
  obtain ⟨f5, ef5⟩ : ∃ z : List Value, z = f4.set 6 (.ref (B + (0 + 5))) := ⟨_, rfl⟩
  rw [← ef5] at hP
  have lf5 : f5.length = 105 := by rw [ef5, List.length_set, lf4]
  refine lv_aload_n hx hb dX10_init_149 rfl (lv_at hl 0 rfl) ?_
  refine lv_bipush (v := 18) hx hb dX10_init_150 (by decide) ?_
  refine cx_newa (t := 0) (atype := .int) (N := 18) hx hb hts hK rfl (by decide) ac_0 (a0 := (18, .inl (fun _ => 0))) (fun _ => rfl) (by decide) (by decide) (Nat.le_of_ble_eq_true rfl) ho (r := .inr (10, f5) :: t5) (nr := 6) (by rw [List.length_cons, lt5]) (r' := .inr (10, f5) :: (t5 ++ [.inl (ca 0, 18, .inl (fun _ => 0))])) rfl hP hz hS (Nat.le_of_ble_eq_true rfl) (Nat.le_of_ble_eq_true rfl) dX10_init_152 (fun H hP hz hS => ?_)
  obtain ⟨t6, et6⟩ : ∃ z : List va_E, z = t5 ++ [.inl (ca 0, 18, .inl (fun _ => 0))] := ⟨_, rfl⟩
  have hP : va_P D classes (wsB B (([] : List va_E) ++ (.inr (10, f5) :: (t5 ++ [.inl (ca 0, 18, .inl (fun _ => 0))])))) H := hP
  rw [← et6] at hP
  have lt6 : t6.length = 6 := by rw [et6, List.length_append, lt5]; simp only [List.length_cons, List.length_append, List.length_nil, Nat.reduceAdd, Nat.zero_add, bl_6_len, bl_1_len, bl_8_len, bl_0_len, bl_3_len, bl_4_len, bl_2_len, bl_7_len, bl_5_len]
  refine cx_putF (v := .ref (B + (0 + 6))) hx hb hts hown hK cf_10 fl_X10_25 (by decide) rfl hin rfl rfl rfl (by rw [lf5]; decide) ho (fs' := f5.set 7 (.ref (B + (0 + 6)))) rfl (t := t6) (nr := 7) (by rw [lt6]) hP hz hS dX10_init_154 (fun H locs hP hz hS => ?_)
  obtain ⟨f6, ef6⟩ : ∃ z : List Value, z = f5.set 7 (.ref (B + (0 + 6))) := ⟨_, rfl⟩
  rw [← ef6] at hP
  have lf6 : f6.length = 105 := by rw [ef6, List.length_set, lf5]
  refine lv_aload_n hx hb dX10_init_157 rfl (lv_at hl 0 rfl) ?_
  refine lv_bipush (v := 8) hx hb dX10_init_158 (by decide) ?_
  refine cx_newa (t := 0) (atype := .int) (N := 8) hx hb hts hK rfl (by decide) ac_0 (a0 := (8, .inl (fun _ => 0))) (fun _ => rfl) (by decide) (by decide) (Nat.le_of_ble_eq_true rfl) ho (r := .inr (10, f6) :: t6) (nr := 7) (by rw [List.length_cons, lt6]) (r' := .inr (10, f6) :: (t6 ++ [.inl (ca 0, 8, .inl (fun _ => 0))])) rfl hP hz hS (Nat.le_of_ble_eq_true rfl) (Nat.le_of_ble_eq_true rfl) dX10_init_160 (fun H hP hz hS => ?_)
  obtain ⟨t7, et7⟩ : ∃ z : List va_E, z = t6 ++ [.inl (ca 0, 8, .inl (fun _ => 0))] := ⟨_, rfl⟩
  have hP : va_P D classes (wsB B (([] : List va_E) ++ (.inr (10, f6) :: (t6 ++ [.inl (ca 0, 8, .inl (fun _ => 0))])))) H := hP
  rw [← et7] at hP
  have lt7 : t7.length = 7 := by rw [et7, List.length_append, lt6]; simp only [List.length_cons, List.length_append, List.length_nil, Nat.reduceAdd, Nat.zero_add, bl_6_len, bl_1_len, bl_8_len, bl_0_len, bl_3_len, bl_4_len, bl_2_len, bl_7_len, bl_5_len]
  refine cx_putF (v := .ref (B + (0 + 7))) hx hb hts hown hK cf_10 fl_X10_28 (by decide) rfl hin rfl rfl rfl (by rw [lf6]; decide) ho (fs' := f6.set 8 (.ref (B + (0 + 7)))) rfl (t := t7) (nr := 8) (by rw [lt7]) hP hz hS dX10_init_162 (fun H locs hP hz hS => ?_)
  obtain ⟨f7, ef7⟩ : ∃ z : List Value, z = f6.set 8 (.ref (B + (0 + 7))) := ⟨_, rfl⟩
  rw [← ef7] at hP
  have lf7 : f7.length = 105 := by rw [ef7, List.length_set, lf6]
  refine lv_aload_n hx hb dX10_init_165 rfl (lv_at hl 0 rfl) ?_
  refine lv_bipush (v := 8) hx hb dX10_init_166 (by decide) ?_
  refine cx_newa (t := 0) (atype := .int) (N := 8) hx hb hts hK rfl (by decide) ac_0 (a0 := (8, .inl (fun _ => 0))) (fun _ => rfl) (by decide) (by decide) (Nat.le_of_ble_eq_true rfl) ho (r := .inr (10, f7) :: t7) (nr := 8) (by rw [List.length_cons, lt7]) (r' := .inr (10, f7) :: (t7 ++ [.inl (ca 0, 8, .inl (fun _ => 0))])) rfl hP hz hS (Nat.le_of_ble_eq_true rfl) (Nat.le_of_ble_eq_true rfl) dX10_init_168 (fun H hP hz hS => ?_)
  obtain ⟨t8, et8⟩ : ∃ z : List va_E, z = t7 ++ [.inl (ca 0, 8, .inl (fun _ => 0))] := ⟨_, rfl⟩
  have hP : va_P D classes (wsB B (([] : List va_E) ++ (.inr (10, f7) :: (t7 ++ [.inl (ca 0, 8, .inl (fun _ => 0))])))) H := hP
  rw [← et8] at hP
  have lt8 : t8.length = 8 := by rw [et8, List.length_append, lt7]; simp only [List.length_cons, List.length_append, List.length_nil, Nat.reduceAdd, Nat.zero_add, bl_6_len, bl_1_len, bl_8_len, bl_0_len, bl_3_len, bl_4_len, bl_2_len, bl_7_len, bl_5_len]
  refine cx_putF (v := .ref (B + (0 + 8))) hx hb hts hown hK cf_10 fl_X10_31 (by decide) rfl hin rfl rfl rfl (by rw [lf7]; decide) ho (fs' := f7.set 9 (.ref (B + (0 + 8)))) rfl (t := t8) (nr := 9) (by rw [lt8]) hP hz hS dX10_init_170 (fun H locs hP hz hS => ?_)
  obtain ⟨f8, ef8⟩ : ∃ z : List Value, z = f7.set 9 (.ref (B + (0 + 8))) := ⟨_, rfl⟩
  rw [← ef8] at hP
  have lf8 : f8.length = 105 := by rw [ef8, List.length_set, lf7]
  refine lv_aload_n hx hb dX10_init_173 rfl (lv_at hl 0 rfl) ?_
  refine lv_bipush (v := 8) hx hb dX10_init_174 (by decide) ?_
  refine cx_newa (t := 0) (atype := .int) (N := 8) hx hb hts hK rfl (by decide) ac_0 (a0 := (8, .inl (fun _ => 0))) (fun _ => rfl) (by decide) (by decide) (Nat.le_of_ble_eq_true rfl) ho (r := .inr (10, f8) :: t8) (nr := 9) (by rw [List.length_cons, lt8]) (r' := .inr (10, f8) :: (t8 ++ [.inl (ca 0, 8, .inl (fun _ => 0))])) rfl hP hz hS (Nat.le_of_ble_eq_true rfl) (Nat.le_of_ble_eq_true rfl) dX10_init_176 (fun H hP hz hS => ?_)
  obtain ⟨t9, et9⟩ : ∃ z : List va_E, z = t8 ++ [.inl (ca 0, 8, .inl (fun _ => 0))] := ⟨_, rfl⟩
  have hP : va_P D classes (wsB B (([] : List va_E) ++ (.inr (10, f8) :: (t8 ++ [.inl (ca 0, 8, .inl (fun _ => 0))])))) H := hP
  rw [← et9] at hP
  have lt9 : t9.length = 9 := by rw [et9, List.length_append, lt8]; simp only [List.length_cons, List.length_append, List.length_nil, Nat.reduceAdd, Nat.zero_add, bl_6_len, bl_1_len, bl_8_len, bl_0_len, bl_3_len, bl_4_len, bl_2_len, bl_7_len, bl_5_len]
  refine cx_putF (v := .ref (B + (0 + 9))) hx hb hts hown hK cf_10 fl_X10_34 (by decide) rfl hin rfl rfl rfl (by rw [lf8]; decide) ho (fs' := f8.set 10 (.ref (B + (0 + 9)))) rfl (t := t9) (nr := 10) (by rw [lt9]) hP hz hS dX10_init_178 (fun H locs hP hz hS => ?_)
  obtain ⟨f9, ef9⟩ : ∃ z : List Value, z = f8.set 10 (.ref (B + (0 + 9))) := ⟨_, rfl⟩
  rw [← ef9] at hP
  have lf9 : f9.length = 105 := by rw [ef9, List.length_set, lf8]
  refine lv_aload_n hx hb dX10_init_181 rfl (lv_at hl 0 rfl) ?_
  refine lv_bipush (v := 16) hx hb dX10_init_182 (by decide) ?_
  refine cx_newa (t := 0) (atype := .int) (N := 16) hx hb hts hK rfl (by decide) ac_0 (a0 := (16, .inl (fun _ => 0))) (fun _ => rfl) (by decide) (by decide) (Nat.le_of_ble_eq_true rfl) ho (r := .inr (10, f9) :: t9) (nr := 10) (by rw [List.length_cons, lt9]) (r' := .inr (10, f9) :: (t9 ++ [.inl (ca 0, 16, .inl (fun _ => 0))])) rfl hP hz hS (Nat.le_of_ble_eq_true rfl) (Nat.le_of_ble_eq_true rfl) dX10_init_184 (fun H hP hz hS => ?_)
  obtain ⟨t10, et10⟩ : ∃ z : List va_E, z = t9 ++ [.inl (ca 0, 16, .inl (fun _ => 0))] := ⟨_, rfl⟩
  have hP : va_P D classes (wsB B (([] : List va_E) ++ (.inr (10, f9) :: (t9 ++ [.inl (ca 0, 16, .inl (fun _ => 0))])))) H := hP
  rw [← et10] at hP
  have lt10 : t10.length = 10 := by rw [et10, List.length_append, lt9]; simp only [List.length_cons, List.length_append, List.length_nil, Nat.reduceAdd, Nat.zero_add, bl_6_len, bl_1_len, bl_8_len, bl_0_len, bl_3_len, bl_4_len, bl_2_len, bl_7_len, bl_5_len]
  refine cx_putF (v := .ref (B + (0 + 10))) hx hb hts hown hK cf_10 fl_X10_37 (by decide) rfl hin rfl rfl rfl (by rw [lf9]; decide) ho (fs' := f9.set 11 (.ref (B + (0 + 10)))) rfl (t := t10) (nr := 11) (by rw [lt10]) hP hz hS dX10_init_186 (fun H locs hP hz hS => ?_)
  obtain ⟨f10, ef10⟩ : ∃ z : List Value, z = f9.set 11 (.ref (B + (0 + 10))) := ⟨_, rfl⟩
  rw [← ef10] at hP
  have lf10 : f10.length = 105 := by rw [ef10, List.length_set, lf9]
  refine lv_aload_n hx hb dX10_init_189 rfl (lv_at hl 0 rfl) ?_
  refine lv_bipush (v := 16) hx hb dX10_init_190 (by decide) ?_
  refine cx_newa (t := 0) (atype := .int) (N := 16) hx hb hts hK rfl (by decide) ac_0 (a0 := (16, .inl (fun _ => 0))) (fun _ => rfl) (by decide) (by decide) (Nat.le_of_ble_eq_true rfl) ho (r := .inr (10, f10) :: t10) (nr := 11) (by rw [List.length_cons, lt10]) (r' := .inr (10, f10) :: (t10 ++ [.inl (ca 0, 16, .inl (fun _ => 0))])) rfl hP hz hS (Nat.le_of_ble_eq_true rfl) (Nat.le_of_ble_eq_true rfl) dX10_init_192 (fun H hP hz hS => ?_)
  obtain ⟨t11, et11⟩ : ∃ z : List va_E, z = t10 ++ [.inl (ca 0, 16, .inl (fun _ => 0))] := ⟨_, rfl⟩
  have hP : va_P D classes (wsB B (([] : List va_E) ++ (.inr (10, f10) :: (t10 ++ [.inl (ca 0, 16, .inl (fun _ => 0))])))) H := hP
  rw [← et11] at hP
  have lt11 : t11.length = 11 := by rw [et11, List.length_append, lt10]; simp only [List.length_cons, List.length_append, List.length_nil, Nat.reduceAdd, Nat.zero_add, bl_6_len, bl_1_len, bl_8_len, bl_0_len, bl_3_len, bl_4_len, bl_2_len, bl_7_len, bl_5_len]
  refine cx_putF (v := .ref (B + (0 + 11))) hx hb hts hown hK cf_10 fl_X10_40 (by decide) rfl hin rfl rfl rfl (by rw [lf10]; decide) ho (fs' := f10.set 12 (.ref (B + (0 + 11)))) rfl (t := t11) (nr := 12) (by rw [lt11]) hP hz hS dX10_init_194 (fun H locs hP hz hS => ?_)
  obtain ⟨f11, ef11⟩ : ∃ z : List Value, z = f10.set 12 (.ref (B + (0 + 11))) := ⟨_, rfl⟩
  rw [← ef11] at hP
  have lf11 : f11.length = 105 := by rw [ef11, List.length_set, lf10]
  refine lv_aload_n hx hb dX10_init_197 rfl (lv_at hl 0 rfl) ?_
  refine lv_bipush (v := 16) hx hb dX10_init_198 (by decide) ?_
  refine cx_newa (t := 0) (atype := .int) (N := 16) hx hb hts hK rfl (by decide) ac_0 (a0 := (16, .inl (fun _ => 0))) (fun _ => rfl) (by decide) (by decide) (Nat.le_of_ble_eq_true rfl) ho (r := .inr (10, f11) :: t11) (nr := 12) (by rw [List.length_cons, lt11]) (r' := .inr (10, f11) :: (t11 ++ [.inl (ca 0, 16, .inl (fun _ => 0))])) rfl hP hz hS (Nat.le_of_ble_eq_true rfl) (Nat.le_of_ble_eq_true rfl) dX10_init_200 (fun H hP hz hS => ?_)
  obtain ⟨t12, et12⟩ : ∃ z : List va_E, z = t11 ++ [.inl (ca 0, 16, .inl (fun _ => 0))] := ⟨_, rfl⟩
  have hP : va_P D classes (wsB B (([] : List va_E) ++ (.inr (10, f11) :: (t11 ++ [.inl (ca 0, 16, .inl (fun _ => 0))])))) H := hP
  rw [← et12] at hP
  have lt12 : t12.length = 12 := by rw [et12, List.length_append, lt11]; simp only [List.length_cons, List.length_append, List.length_nil, Nat.reduceAdd, Nat.zero_add, bl_6_len, bl_1_len, bl_8_len, bl_0_len, bl_3_len, bl_4_len, bl_2_len, bl_7_len, bl_5_len]
  refine cx_putF (v := .ref (B + (0 + 12))) hx hb hts hown hK cf_10 fl_X10_43 (by decide) rfl hin rfl rfl rfl (by rw [lf11]; decide) ho (fs' := f11.set 13 (.ref (B + (0 + 12)))) rfl (t := t12) (nr := 13) (by rw [lt12]) hP hz hS dX10_init_202 (fun H locs hP hz hS => ?_)
  obtain ⟨f12, ef12⟩ : ∃ z : List Value, z = f11.set 13 (.ref (B + (0 + 12))) := ⟨_, rfl⟩
  rw [← ef12] at hP
  have lf12 : f12.length = 105 := by rw [ef12, List.length_set, lf11]
  refine lv_aload_n hx hb dX10_init_205 rfl (lv_at hl 0 rfl) ?_
  refine lv_bipush (v := 16) hx hb dX10_init_206 (by decide) ?_
  refine cx_newa (t := 0) (atype := .int) (N := 16) hx hb hts hK rfl (by decide) ac_0 (a0 := (16, .inl (fun _ => 0))) (fun _ => rfl) (by decide) (by decide) (Nat.le_of_ble_eq_true rfl) ho (r := .inr (10, f12) :: t12) (nr := 13) (by rw [List.length_cons, lt12]) (r' := .inr (10, f12) :: (t12 ++ [.inl (ca 0, 16, .inl (fun _ => 0))])) rfl hP hz hS (Nat.le_of_ble_eq_true rfl) (Nat.le_of_ble_eq_true rfl) dX10_init_208 (fun H hP hz hS => ?_)
  obtain ⟨t13, et13⟩ : ∃ z : List va_E, z = t12 ++ [.inl (ca 0, 16, .inl (fun _ => 0))] := ⟨_, rfl⟩
  have hP : va_P D classes (wsB B (([] : List va_E) ++ (.inr (10, f12) :: (t12 ++ [.inl (ca 0, 16, .inl (fun _ => 0))])))) H := hP
  rw [← et13] at hP
  have lt13 : t13.length = 13 := by rw [et13, List.length_append, lt12]; simp only [List.length_cons, List.length_append, List.length_nil, Nat.reduceAdd, Nat.zero_add, bl_6_len, bl_1_len, bl_8_len, bl_0_len, bl_3_len, bl_4_len, bl_2_len, bl_7_len, bl_5_len]
  refine cx_putF (v := .ref (B + (0 + 13))) hx hb hts hown hK cf_10 fl_X10_46 (by decide) rfl hin rfl rfl rfl (by rw [lf12]; decide) ho (fs' := f12.set 14 (.ref (B + (0 + 13)))) rfl (t := t13) (nr := 14) (by rw [lt13]) hP hz hS dX10_init_210 (fun H locs hP hz hS => ?_)
  obtain ⟨f13, ef13⟩ : ∃ z : List Value, z = f12.set 14 (.ref (B + (0 + 13))) := ⟨_, rfl⟩
  rw [← ef13] at hP
  have lf13 : f13.length = 105 := by rw [ef13, List.length_set, lf12]
  refine lv_aload_n hx hb dX10_init_213 rfl (lv_at hl 0 rfl) ?_
  refine lv_bipush (v := 16) hx hb dX10_init_214 (by decide) ?_
  refine cx_newa (t := 0) (atype := .int) (N := 16) hx hb hts hK rfl (by decide) ac_0 (a0 := (16, .inl (fun _ => 0))) (fun _ => rfl) (by decide) (by decide) (Nat.le_of_ble_eq_true rfl) ho (r := .inr (10, f13) :: t13) (nr := 14) (by rw [List.length_cons, lt13]) (r' := .inr (10, f13) :: (t13 ++ [.inl (ca 0, 16, .inl (fun _ => 0))])) rfl hP hz hS (Nat.le_of_ble_eq_true rfl) (Nat.le_of_ble_eq_true rfl) dX10_init_216 (fun H hP hz hS => ?_)
  obtain ⟨t14, et14⟩ : ∃ z : List va_E, z = t13 ++ [.inl (ca 0, 16, .inl (fun _ => 0))] := ⟨_, rfl⟩
  have hP : va_P D classes (wsB B (([] : List va_E) ++ (.inr (10, f13) :: (t13 ++ [.inl (ca 0, 16, .inl (fun _ => 0))])))) H := hP
  rw [← et14] at hP
  have lt14 : t14.length = 14 := by rw [et14, List.length_append, lt13]; simp only [List.length_cons, List.length_append, List.length_nil, Nat.reduceAdd, Nat.zero_add, bl_6_len, bl_1_len, bl_8_len, bl_0_len, bl_3_len, bl_4_len, bl_2_len, bl_7_len, bl_5_len]
  refine cx_putF (v := .ref (B + (0 + 14))) hx hb hts hown hK cf_10 fl_X10_49 (by decide) rfl hin rfl rfl rfl (by rw [lf13]; decide) ho (fs' := f13.set 15 (.ref (B + (0 + 14)))) rfl (t := t14) (nr := 15) (by rw [lt14]) hP hz hS dX10_init_218 (fun H locs hP hz hS => ?_)
  obtain ⟨f14, ef14⟩ : ∃ z : List Value, z = f13.set 15 (.ref (B + (0 + 14))) := ⟨_, rfl⟩
  rw [← ef14] at hP
  have lf14 : f14.length = 105 := by rw [ef14, List.length_set, lf13]
  refine lv_aload_n hx hb dX10_init_221 rfl (lv_at hl 0 rfl) ?_
  refine lv_bipush (v := 16) hx hb dX10_init_222 (by decide) ?_
  refine cx_newa (t := 0) (atype := .int) (N := 16) hx hb hts hK rfl (by decide) ac_0 (a0 := (16, .inl (fun _ => 0))) (fun _ => rfl) (by decide) (by decide) (Nat.le_of_ble_eq_true rfl) ho (r := .inr (10, f14) :: t14) (nr := 15) (by rw [List.length_cons, lt14]) (r' := .inr (10, f14) :: (t14 ++ [.inl (ca 0, 16, .inl (fun _ => 0))])) rfl hP hz hS (Nat.le_of_ble_eq_true rfl) (Nat.le_of_ble_eq_true rfl) dX10_init_224 (fun H hP hz hS => ?_)
  obtain ⟨t15, et15⟩ : ∃ z : List va_E, z = t14 ++ [.inl (ca 0, 16, .inl (fun _ => 0))] := ⟨_, rfl⟩
  have hP : va_P D classes (wsB B (([] : List va_E) ++ (.inr (10, f14) :: (t14 ++ [.inl (ca 0, 16, .inl (fun _ => 0))])))) H := hP
  rw [← et15] at hP
  have lt15 : t15.length = 15 := by rw [et15, List.length_append, lt14]; simp only [List.length_cons, List.length_append, List.length_nil, Nat.reduceAdd, Nat.zero_add, bl_6_len, bl_1_len, bl_8_len, bl_0_len, bl_3_len, bl_4_len, bl_2_len, bl_7_len, bl_5_len]
  refine cx_putF (v := .ref (B + (0 + 15))) hx hb hts hown hK cf_10 fl_X10_52 (by decide) rfl hin rfl rfl rfl (by rw [lf14]; decide) ho (fs' := f14.set 16 (.ref (B + (0 + 15)))) rfl (t := t15) (nr := 16) (by rw [lt15]) hP hz hS dX10_init_226 (fun H locs hP hz hS => ?_)
  obtain ⟨f15, ef15⟩ : ∃ z : List Value, z = f14.set 16 (.ref (B + (0 + 15))) := ⟨_, rfl⟩
  rw [← ef15] at hP
  have lf15 : f15.length = 105 := by rw [ef15, List.length_set, lf14]
  refine lv_aload_n hx hb dX10_init_229 rfl (lv_at hl 0 rfl) ?_
  refine lv_bipush (v := 16) hx hb dX10_init_230 (by decide) ?_
  refine cx_newa (t := 0) (atype := .int) (N := 16) hx hb hts hK rfl (by decide) ac_0 (a0 := (16, .inl (fun _ => 0))) (fun _ => rfl) (by decide) (by decide) (Nat.le_of_ble_eq_true rfl) ho (r := .inr (10, f15) :: t15) (nr := 16) (by rw [List.length_cons, lt15]) (r' := .inr (10, f15) :: (t15 ++ [.inl (ca 0, 16, .inl (fun _ => 0))])) rfl hP hz hS (Nat.le_of_ble_eq_true rfl) (Nat.le_of_ble_eq_true rfl) dX10_init_232 (fun H hP hz hS => ?_)
  obtain ⟨t16, et16⟩ : ∃ z : List va_E, z = t15 ++ [.inl (ca 0, 16, .inl (fun _ => 0))] := ⟨_, rfl⟩
  have hP : va_P D classes (wsB B (([] : List va_E) ++ (.inr (10, f15) :: (t15 ++ [.inl (ca 0, 16, .inl (fun _ => 0))])))) H := hP
  rw [← et16] at hP
  have lt16 : t16.length = 16 := by rw [et16, List.length_append, lt15]; simp only [List.length_cons, List.length_append, List.length_nil, Nat.reduceAdd, Nat.zero_add, bl_6_len, bl_1_len, bl_8_len, bl_0_len, bl_3_len, bl_4_len, bl_2_len, bl_7_len, bl_5_len]
  refine cx_putF (v := .ref (B + (0 + 16))) hx hb hts hown hK cf_10 fl_X10_55 (by decide) rfl hin rfl rfl rfl (by rw [lf15]; decide) ho (fs' := f15.set 17 (.ref (B + (0 + 16)))) rfl (t := t16) (nr := 17) (by rw [lt16]) hP hz hS dX10_init_234 (fun H locs hP hz hS => ?_)
  obtain ⟨f16, ef16⟩ : ∃ z : List Value, z = f15.set 17 (.ref (B + (0 + 16))) := ⟨_, rfl⟩
  rw [← ef16] at hP
  have lf16 : f16.length = 105 := by rw [ef16, List.length_set, lf15]
  refine lv_aload_n hx hb dX10_init_237 rfl (lv_at hl 0 rfl) ?_
  refine lv_bipush (v := 16) hx hb dX10_init_238 (by decide) ?_
  refine cx_newa (t := 0) (atype := .int) (N := 16) hx hb hts hK rfl (by decide) ac_0 (a0 := (16, .inl (fun _ => 0))) (fun _ => rfl) (by decide) (by decide) (Nat.le_of_ble_eq_true rfl) ho (r := .inr (10, f16) :: t16) (nr := 17) (by rw [List.length_cons, lt16]) (r' := .inr (10, f16) :: (t16 ++ [.inl (ca 0, 16, .inl (fun _ => 0))])) rfl hP hz hS (Nat.le_of_ble_eq_true rfl) (Nat.le_of_ble_eq_true rfl) dX10_init_240 (fun H hP hz hS => ?_)
  obtain ⟨t17, et17⟩ : ∃ z : List va_E, z = t16 ++ [.inl (ca 0, 16, .inl (fun _ => 0))] := ⟨_, rfl⟩
  have hP : va_P D classes (wsB B (([] : List va_E) ++ (.inr (10, f16) :: (t16 ++ [.inl (ca 0, 16, .inl (fun _ => 0))])))) H := hP
  rw [← et17] at hP
  have lt17 : t17.length = 17 := by rw [et17, List.length_append, lt16]; simp only [List.length_cons, List.length_append, List.length_nil, Nat.reduceAdd, Nat.zero_add, bl_6_len, bl_1_len, bl_8_len, bl_0_len, bl_3_len, bl_4_len, bl_2_len, bl_7_len, bl_5_len]
  refine cx_putF (v := .ref (B + (0 + 17))) hx hb hts hown hK cf_10 fl_X10_58 (by decide) rfl hin rfl rfl rfl (by rw [lf16]; decide) ho (fs' := f16.set 18 (.ref (B + (0 + 17)))) rfl (t := t17) (nr := 18) (by rw [lt17]) hP hz hS dX10_init_242 (fun H locs hP hz hS => ?_)
  obtain ⟨f17, ef17⟩ : ∃ z : List Value, z = f16.set 18 (.ref (B + (0 + 17))) := ⟨_, rfl⟩
  rw [← ef17] at hP
  have lf17 : f17.length = 105 := by rw [ef17, List.length_set, lf16]
  refine lv_aload_n hx hb dX10_init_245 rfl (lv_at hl 0 rfl) ?_
  refine lv_bipush (v := 16) hx hb dX10_init_246 (by decide) ?_
  refine cx_newa (t := 0) (atype := .int) (N := 16) hx hb hts hK rfl (by decide) ac_0 (a0 := (16, .inl (fun _ => 0))) (fun _ => rfl) (by decide) (by decide) (Nat.le_of_ble_eq_true rfl) ho (r := .inr (10, f17) :: t17) (nr := 18) (by rw [List.length_cons, lt17]) (r' := .inr (10, f17) :: (t17 ++ [.inl (ca 0, 16, .inl (fun _ => 0))])) rfl hP hz hS (Nat.le_of_ble_eq_true rfl) (Nat.le_of_ble_eq_true rfl) dX10_init_248 (fun H hP hz hS => ?_)
  obtain ⟨t18, et18⟩ : ∃ z : List va_E, z = t17 ++ [.inl (ca 0, 16, .inl (fun _ => 0))] := ⟨_, rfl⟩
  have hP : va_P D classes (wsB B (([] : List va_E) ++ (.inr (10, f17) :: (t17 ++ [.inl (ca 0, 16, .inl (fun _ => 0))])))) H := hP
  rw [← et18] at hP
  have lt18 : t18.length = 18 := by rw [et18, List.length_append, lt17]; simp only [List.length_cons, List.length_append, List.length_nil, Nat.reduceAdd, Nat.zero_add, bl_6_len, bl_1_len, bl_8_len, bl_0_len, bl_3_len, bl_4_len, bl_2_len, bl_7_len, bl_5_len]
  refine cx_putF (v := .ref (B + (0 + 18))) hx hb hts hown hK cf_10 fl_X10_61 (by decide) rfl hin rfl rfl rfl (by rw [lf17]; decide) ho (fs' := f17.set 19 (.ref (B + (0 + 18)))) rfl (t := t18) (nr := 19) (by rw [lt18]) hP hz hS dX10_init_250 (fun H locs hP hz hS => ?_)
  obtain ⟨f18, ef18⟩ : ∃ z : List Value, z = f17.set 19 (.ref (B + (0 + 18))) := ⟨_, rfl⟩
  rw [← ef18] at hP
  have lf18 : f18.length = 105 := by rw [ef18, List.length_set, lf17]
  refine lv_aload_n hx hb dX10_init_253 rfl (lv_at hl 0 rfl) ?_
  refine lv_bipush (v := 12) hx hb dX10_init_254 (by decide) ?_
  refine cx_newa (t := 0) (atype := .int) (N := 12) hx hb hts hK rfl (by decide) ac_0 (a0 := (12, .inl (fun _ => 0))) (fun _ => rfl) (by decide) (by decide) (Nat.le_of_ble_eq_true rfl) ho (r := .inr (10, f18) :: t18) (nr := 19) (by rw [List.length_cons, lt18]) (r' := .inr (10, f18) :: (t18 ++ [.inl (ca 0, 12, .inl (fun _ => 0))])) rfl hP hz hS (Nat.le_of_ble_eq_true rfl) (Nat.le_of_ble_eq_true rfl) dX10_init_256 (fun H hP hz hS => ?_)
  obtain ⟨t19, et19⟩ : ∃ z : List va_E, z = t18 ++ [.inl (ca 0, 12, .inl (fun _ => 0))] := ⟨_, rfl⟩
  have hP : va_P D classes (wsB B (([] : List va_E) ++ (.inr (10, f18) :: (t18 ++ [.inl (ca 0, 12, .inl (fun _ => 0))])))) H := hP
  rw [← et19] at hP
  have lt19 : t19.length = 19 := by rw [et19, List.length_append, lt18]; simp only [List.length_cons, List.length_append, List.length_nil, Nat.reduceAdd, Nat.zero_add, bl_6_len, bl_1_len, bl_8_len, bl_0_len, bl_3_len, bl_4_len, bl_2_len, bl_7_len, bl_5_len]
  refine cx_putF (v := .ref (B + (0 + 19))) hx hb hts hown hK cf_10 fl_X10_64 (by decide) rfl hin rfl rfl rfl (by rw [lf18]; decide) ho (fs' := f18.set 20 (.ref (B + (0 + 19)))) rfl (t := t19) (nr := 20) (by rw [lt19]) hP hz hS dX10_init_258 (fun H locs hP hz hS => ?_)
  obtain ⟨f19, ef19⟩ : ∃ z : List Value, z = f18.set 20 (.ref (B + (0 + 19))) := ⟨_, rfl⟩
  rw [← ef19] at hP
  have lf19 : f19.length = 105 := by rw [ef19, List.length_set, lf18]
  refine lv_aload_n hx hb dX10_init_261 rfl (lv_at hl 0 rfl) ?_
  refine lv_bipush (v := 12) hx hb dX10_init_262 (by decide) ?_
  refine cx_newa (t := 0) (atype := .int) (N := 12) hx hb hts hK rfl (by decide) ac_0 (a0 := (12, .inl (fun _ => 0))) (fun _ => rfl) (by decide) (by decide) (Nat.le_of_ble_eq_true rfl) ho (r := .inr (10, f19) :: t19) (nr := 20) (by rw [List.length_cons, lt19]) (r' := .inr (10, f19) :: (t19 ++ [.inl (ca 0, 12, .inl (fun _ => 0))])) rfl hP hz hS (Nat.le_of_ble_eq_true rfl) (Nat.le_of_ble_eq_true rfl) dX10_init_264 (fun H hP hz hS => ?_)
  obtain ⟨t20, et20⟩ : ∃ z : List va_E, z = t19 ++ [.inl (ca 0, 12, .inl (fun _ => 0))] := ⟨_, rfl⟩
  have hP : va_P D classes (wsB B (([] : List va_E) ++ (.inr (10, f19) :: (t19 ++ [.inl (ca 0, 12, .inl (fun _ => 0))])))) H := hP
  rw [← et20] at hP
  have lt20 : t20.length = 20 := by rw [et20, List.length_append, lt19]; simp only [List.length_cons, List.length_append, List.length_nil, Nat.reduceAdd, Nat.zero_add, bl_6_len, bl_1_len, bl_8_len, bl_0_len, bl_3_len, bl_4_len, bl_2_len, bl_7_len, bl_5_len]
  refine cx_putF (v := .ref (B + (0 + 20))) hx hb hts hown hK cf_10 fl_X10_67 (by decide) rfl hin rfl rfl rfl (by rw [lf19]; decide) ho (fs' := f19.set 21 (.ref (B + (0 + 20)))) rfl (t := t20) (nr := 21) (by rw [lt20]) hP hz hS dX10_init_266 (fun H locs hP hz hS => ?_)
  obtain ⟨f20, ef20⟩ : ∃ z : List Value, z = f19.set 21 (.ref (B + (0 + 20))) := ⟨_, rfl⟩
  rw [← ef20] at hP
  have lf20 : f20.length = 105 := by rw [ef20, List.length_set, lf19]
  refine lv_aload_n hx hb dX10_init_269 rfl (lv_at hl 0 rfl) ?_
  refine lv_bipush (v := 12) hx hb dX10_init_270 (by decide) ?_
  refine cx_newa (t := 0) (atype := .int) (N := 12) hx hb hts hK rfl (by decide) ac_0 (a0 := (12, .inl (fun _ => 0))) (fun _ => rfl) (by decide) (by decide) (Nat.le_of_ble_eq_true rfl) ho (r := .inr (10, f20) :: t20) (nr := 21) (by rw [List.length_cons, lt20]) (r' := .inr (10, f20) :: (t20 ++ [.inl (ca 0, 12, .inl (fun _ => 0))])) rfl hP hz hS (Nat.le_of_ble_eq_true rfl) (Nat.le_of_ble_eq_true rfl) dX10_init_272 (fun H hP hz hS => ?_)
  obtain ⟨t21, et21⟩ : ∃ z : List va_E, z = t20 ++ [.inl (ca 0, 12, .inl (fun _ => 0))] := ⟨_, rfl⟩
  have hP : va_P D classes (wsB B (([] : List va_E) ++ (.inr (10, f20) :: (t20 ++ [.inl (ca 0, 12, .inl (fun _ => 0))])))) H := hP
  rw [← et21] at hP
  have lt21 : t21.length = 21 := by rw [et21, List.length_append, lt20]; simp only [List.length_cons, List.length_append, List.length_nil, Nat.reduceAdd, Nat.zero_add, bl_6_len, bl_1_len, bl_8_len, bl_0_len, bl_3_len, bl_4_len, bl_2_len, bl_7_len, bl_5_len]
  refine cx_putF (v := .ref (B + (0 + 21))) hx hb hts hown hK cf_10 fl_X10_70 (by decide) rfl hin rfl rfl rfl (by rw [lf20]; decide) ho (fs' := f20.set 22 (.ref (B + (0 + 21)))) rfl (t := t21) (nr := 22) (by rw [lt21]) hP hz hS dX10_init_274 (fun H locs hP hz hS => ?_)
  obtain ⟨f21, ef21⟩ : ∃ z : List Value, z = f20.set 22 (.ref (B + (0 + 21))) := ⟨_, rfl⟩
  rw [← ef21] at hP
  have lf21 : f21.length = 105 := by rw [ef21, List.length_set, lf20]
  refine lv_aload_n hx hb dX10_init_277 rfl (lv_at hl 0 rfl) ?_
  refine lv_bipush (v := 12) hx hb dX10_init_278 (by decide) ?_
  refine cx_newa (t := 0) (atype := .int) (N := 12) hx hb hts hK rfl (by decide) ac_0 (a0 := (12, .inl (fun _ => 0))) (fun _ => rfl) (by decide) (by decide) (Nat.le_of_ble_eq_true rfl) ho (r := .inr (10, f21) :: t21) (nr := 22) (by rw [List.length_cons, lt21]) (r' := .inr (10, f21) :: (t21 ++ [.inl (ca 0, 12, .inl (fun _ => 0))])) rfl hP hz hS (Nat.le_of_ble_eq_true rfl) (Nat.le_of_ble_eq_true rfl) dX10_init_280 (fun H hP hz hS => ?_)
  obtain ⟨t22, et22⟩ : ∃ z : List va_E, z = t21 ++ [.inl (ca 0, 12, .inl (fun _ => 0))] := ⟨_, rfl⟩
  have hP : va_P D classes (wsB B (([] : List va_E) ++ (.inr (10, f21) :: (t21 ++ [.inl (ca 0, 12, .inl (fun _ => 0))])))) H := hP
  rw [← et22] at hP
  have lt22 : t22.length = 22 := by rw [et22, List.length_append, lt21]; simp only [List.length_cons, List.length_append, List.length_nil, Nat.reduceAdd, Nat.zero_add, bl_6_len, bl_1_len, bl_8_len, bl_0_len, bl_3_len, bl_4_len, bl_2_len, bl_7_len, bl_5_len]
  refine cx_putF (v := .ref (B + (0 + 22))) hx hb hts hown hK cf_10 fl_X10_73 (by decide) rfl hin rfl rfl rfl (by rw [lf21]; decide) ho (fs' := f21.set 23 (.ref (B + (0 + 22)))) rfl (t := t22) (nr := 23) (by rw [lt22]) hP hz hS dX10_init_282 (fun H locs hP hz hS => ?_)
  obtain ⟨f22, ef22⟩ : ∃ z : List Value, z = f21.set 23 (.ref (B + (0 + 22))) := ⟨_, rfl⟩
  rw [← ef22] at hP
  have lf22 : f22.length = 105 := by rw [ef22, List.length_set, lf21]
  refine lv_aload_n hx hb dX10_init_285 rfl (lv_at hl 0 rfl) ?_
  refine lv_bipush (v := 8) hx hb dX10_init_286 (by decide) ?_
  refine cx_newa (t := 0) (atype := .int) (N := 8) hx hb hts hK rfl (by decide) ac_0 (a0 := (8, .inl (fun _ => 0))) (fun _ => rfl) (by decide) (by decide) (Nat.le_of_ble_eq_true rfl) ho (r := .inr (10, f22) :: t22) (nr := 23) (by rw [List.length_cons, lt22]) (r' := .inr (10, f22) :: (t22 ++ [.inl (ca 0, 8, .inl (fun _ => 0))])) rfl hP hz hS (Nat.le_of_ble_eq_true rfl) (Nat.le_of_ble_eq_true rfl) dX10_init_288 (fun H hP hz hS => ?_)
  obtain ⟨t23, et23⟩ : ∃ z : List va_E, z = t22 ++ [.inl (ca 0, 8, .inl (fun _ => 0))] := ⟨_, rfl⟩
  have hP : va_P D classes (wsB B (([] : List va_E) ++ (.inr (10, f22) :: (t22 ++ [.inl (ca 0, 8, .inl (fun _ => 0))])))) H := hP
  rw [← et23] at hP
  have lt23 : t23.length = 23 := by rw [et23, List.length_append, lt22]; simp only [List.length_cons, List.length_append, List.length_nil, Nat.reduceAdd, Nat.zero_add, bl_6_len, bl_1_len, bl_8_len, bl_0_len, bl_3_len, bl_4_len, bl_2_len, bl_7_len, bl_5_len]
  refine cx_putF (v := .ref (B + (0 + 23))) hx hb hts hown hK cf_10 fl_X10_76 (by decide) rfl hin rfl rfl rfl (by rw [lf22]; decide) ho (fs' := f22.set 24 (.ref (B + (0 + 23)))) rfl (t := t23) (nr := 24) (by rw [lt23]) hP hz hS dX10_init_290 (fun H locs hP hz hS => ?_)
  obtain ⟨f23, ef23⟩ : ∃ z : List Value, z = f22.set 24 (.ref (B + (0 + 23))) := ⟨_, rfl⟩
  rw [← ef23] at hP
  have lf23 : f23.length = 105 := by rw [ef23, List.length_set, lf22]
  refine lv_aload_n hx hb dX10_init_293 rfl (lv_at hl 0 rfl) ?_
  refine lv_bipush (v := 8) hx hb dX10_init_294 (by decide) ?_
  refine cx_newa (t := 0) (atype := .int) (N := 8) hx hb hts hK rfl (by decide) ac_0 (a0 := (8, .inl (fun _ => 0))) (fun _ => rfl) (by decide) (by decide) (Nat.le_of_ble_eq_true rfl) ho (r := .inr (10, f23) :: t23) (nr := 24) (by rw [List.length_cons, lt23]) (r' := .inr (10, f23) :: (t23 ++ [.inl (ca 0, 8, .inl (fun _ => 0))])) rfl hP hz hS (Nat.le_of_ble_eq_true rfl) (Nat.le_of_ble_eq_true rfl) dX10_init_296 (fun H hP hz hS => ?_)
  obtain ⟨t24, et24⟩ : ∃ z : List va_E, z = t23 ++ [.inl (ca 0, 8, .inl (fun _ => 0))] := ⟨_, rfl⟩
  have hP : va_P D classes (wsB B (([] : List va_E) ++ (.inr (10, f23) :: (t23 ++ [.inl (ca 0, 8, .inl (fun _ => 0))])))) H := hP
  rw [← et24] at hP
  have lt24 : t24.length = 24 := by rw [et24, List.length_append, lt23]; simp only [List.length_cons, List.length_append, List.length_nil, Nat.reduceAdd, Nat.zero_add, bl_6_len, bl_1_len, bl_8_len, bl_0_len, bl_3_len, bl_4_len, bl_2_len, bl_7_len, bl_5_len]
  refine cx_putF (v := .ref (B + (0 + 24))) hx hb hts hown hK cf_10 fl_X10_79 (by decide) rfl hin rfl rfl rfl (by rw [lf23]; decide) ho (fs' := f23.set 25 (.ref (B + (0 + 24)))) rfl (t := t24) (nr := 25) (by rw [lt24]) hP hz hS dX10_init_298 (fun H locs hP hz hS => ?_)
  obtain ⟨f24, ef24⟩ : ∃ z : List Value, z = f23.set 25 (.ref (B + (0 + 24))) := ⟨_, rfl⟩
  rw [← ef24] at hP
  have lf24 : f24.length = 105 := by rw [ef24, List.length_set, lf23]
  refine lv_aload_n hx hb dX10_init_301 rfl (lv_at hl 0 rfl) ?_
  refine lv_bipush (v := 8) hx hb dX10_init_302 (by decide) ?_
  refine cx_newa (t := 0) (atype := .int) (N := 8) hx hb hts hK rfl (by decide) ac_0 (a0 := (8, .inl (fun _ => 0))) (fun _ => rfl) (by decide) (by decide) (Nat.le_of_ble_eq_true rfl) ho (r := .inr (10, f24) :: t24) (nr := 25) (by rw [List.length_cons, lt24]) (r' := .inr (10, f24) :: (t24 ++ [.inl (ca 0, 8, .inl (fun _ => 0))])) rfl hP hz hS (Nat.le_of_ble_eq_true rfl) (Nat.le_of_ble_eq_true rfl) dX10_init_304 (fun H hP hz hS => ?_)
  obtain ⟨t25, et25⟩ : ∃ z : List va_E, z = t24 ++ [.inl (ca 0, 8, .inl (fun _ => 0))] := ⟨_, rfl⟩
  have hP : va_P D classes (wsB B (([] : List va_E) ++ (.inr (10, f24) :: (t24 ++ [.inl (ca 0, 8, .inl (fun _ => 0))])))) H := hP
  rw [← et25] at hP
  have lt25 : t25.length = 25 := by rw [et25, List.length_append, lt24]; simp only [List.length_cons, List.length_append, List.length_nil, Nat.reduceAdd, Nat.zero_add, bl_6_len, bl_1_len, bl_8_len, bl_0_len, bl_3_len, bl_4_len, bl_2_len, bl_7_len, bl_5_len]
  refine cx_putF (v := .ref (B + (0 + 25))) hx hb hts hown hK cf_10 fl_X10_82 (by decide) rfl hin rfl rfl rfl (by rw [lf24]; decide) ho (fs' := f24.set 26 (.ref (B + (0 + 25)))) rfl (t := t25) (nr := 26) (by rw [lt25]) hP hz hS dX10_init_306 (fun H locs hP hz hS => ?_)
  obtain ⟨f25, ef25⟩ : ∃ z : List Value, z = f24.set 26 (.ref (B + (0 + 25))) := ⟨_, rfl⟩
  rw [← ef25] at hP
  have lf25 : f25.length = 105 := by rw [ef25, List.length_set, lf24]
  refine lv_aload_n hx hb dX10_init_309 rfl (lv_at hl 0 rfl) ?_
  refine lv_bipush (v := 8) hx hb dX10_init_310 (by decide) ?_
  refine cx_newa (t := 0) (atype := .int) (N := 8) hx hb hts hK rfl (by decide) ac_0 (a0 := (8, .inl (fun _ => 0))) (fun _ => rfl) (by decide) (by decide) (Nat.le_of_ble_eq_true rfl) ho (r := .inr (10, f25) :: t25) (nr := 26) (by rw [List.length_cons, lt25]) (r' := .inr (10, f25) :: (t25 ++ [.inl (ca 0, 8, .inl (fun _ => 0))])) rfl hP hz hS (Nat.le_of_ble_eq_true rfl) (Nat.le_of_ble_eq_true rfl) dX10_init_312 (fun H hP hz hS => ?_)
  obtain ⟨t26, et26⟩ : ∃ z : List va_E, z = t25 ++ [.inl (ca 0, 8, .inl (fun _ => 0))] := ⟨_, rfl⟩
  have hP : va_P D classes (wsB B (([] : List va_E) ++ (.inr (10, f25) :: (t25 ++ [.inl (ca 0, 8, .inl (fun _ => 0))])))) H := hP
  rw [← et26] at hP
  have lt26 : t26.length = 26 := by rw [et26, List.length_append, lt25]; simp only [List.length_cons, List.length_append, List.length_nil, Nat.reduceAdd, Nat.zero_add, bl_6_len, bl_1_len, bl_8_len, bl_0_len, bl_3_len, bl_4_len, bl_2_len, bl_7_len, bl_5_len]
  refine cx_putF (v := .ref (B + (0 + 26))) hx hb hts hown hK cf_10 fl_X10_85 (by decide) rfl hin rfl rfl rfl (by rw [lf25]; decide) ho (fs' := f25.set 27 (.ref (B + (0 + 26)))) rfl (t := t26) (nr := 27) (by rw [lt26]) hP hz hS dX10_init_314 (fun H locs hP hz hS => ?_)
  obtain ⟨f26, ef26⟩ : ∃ z : List Value, z = f25.set 27 (.ref (B + (0 + 26))) := ⟨_, rfl⟩
  rw [← ef26] at hP
  have lf26 : f26.length = 105 := by rw [ef26, List.length_set, lf25]
  refine lv_aload_n hx hb dX10_init_317 rfl (lv_at hl 0 rfl) ?_
  refine lv_bipush (v := 12) hx hb dX10_init_318 (by decide) ?_
  refine cx_newa (t := 0) (atype := .int) (N := 12) hx hb hts hK rfl (by decide) ac_0 (a0 := (12, .inl (fun _ => 0))) (fun _ => rfl) (by decide) (by decide) (Nat.le_of_ble_eq_true rfl) ho (r := .inr (10, f26) :: t26) (nr := 27) (by rw [List.length_cons, lt26]) (r' := .inr (10, f26) :: (t26 ++ [.inl (ca 0, 12, .inl (fun _ => 0))])) rfl hP hz hS (Nat.le_of_ble_eq_true rfl) (Nat.le_of_ble_eq_true rfl) dX10_init_320 (fun H hP hz hS => ?_)
  obtain ⟨t27, et27⟩ : ∃ z : List va_E, z = t26 ++ [.inl (ca 0, 12, .inl (fun _ => 0))] := ⟨_, rfl⟩
  have hP : va_P D classes (wsB B (([] : List va_E) ++ (.inr (10, f26) :: (t26 ++ [.inl (ca 0, 12, .inl (fun _ => 0))])))) H := hP
  rw [← et27] at hP
  have lt27 : t27.length = 27 := by rw [et27, List.length_append, lt26]; simp only [List.length_cons, List.length_append, List.length_nil, Nat.reduceAdd, Nat.zero_add, bl_6_len, bl_1_len, bl_8_len, bl_0_len, bl_3_len, bl_4_len, bl_2_len, bl_7_len, bl_5_len]
  refine cx_putF (v := .ref (B + (0 + 27))) hx hb hts hown hK cf_10 fl_X10_88 (by decide) rfl hin rfl rfl rfl (by rw [lf26]; decide) ho (fs' := f26.set 28 (.ref (B + (0 + 27)))) rfl (t := t27) (nr := 28) (by rw [lt27]) hP hz hS dX10_init_322 (fun H locs hP hz hS => ?_)
  obtain ⟨f27, ef27⟩ : ∃ z : List Value, z = f26.set 28 (.ref (B + (0 + 27))) := ⟨_, rfl⟩
  rw [← ef27] at hP
  have lf27 : f27.length = 105 := by rw [ef27, List.length_set, lf26]
  refine lv_aload_n hx hb dX10_init_325 rfl (lv_at hl 0 rfl) ?_
  refine lv_iconst (v := 4) hx hb dX10_init_326 (by decide) ?_
  refine cx_newa (t := 0) (atype := .int) (N := 4) hx hb hts hK rfl (by decide) ac_0 (a0 := (4, .inl (fun _ => 0))) (fun _ => rfl) (by decide) (by decide) (Nat.le_of_ble_eq_true rfl) ho (r := .inr (10, f27) :: t27) (nr := 28) (by rw [List.length_cons, lt27]) (r' := .inr (10, f27) :: (t27 ++ [.inl (ca 0, 4, .inl (fun _ => 0))])) rfl hP hz hS (Nat.le_of_ble_eq_true rfl) (Nat.le_of_ble_eq_true rfl) dX10_init_327 (fun H hP hz hS => ?_)
  obtain ⟨t28, et28⟩ : ∃ z : List va_E, z = t27 ++ [.inl (ca 0, 4, .inl (fun _ => 0))] := ⟨_, rfl⟩
  have hP : va_P D classes (wsB B (([] : List va_E) ++ (.inr (10, f27) :: (t27 ++ [.inl (ca 0, 4, .inl (fun _ => 0))])))) H := hP
  rw [← et28] at hP
  have lt28 : t28.length = 28 := by rw [et28, List.length_append, lt27]; simp only [List.length_cons, List.length_append, List.length_nil, Nat.reduceAdd, Nat.zero_add, bl_6_len, bl_1_len, bl_8_len, bl_0_len, bl_3_len, bl_4_len, bl_2_len, bl_7_len, bl_5_len]
  refine cx_putF (v := .ref (B + (0 + 28))) hx hb hts hown hK cf_10 fl_X10_91 (by decide) rfl hin rfl rfl rfl (by rw [lf27]; decide) ho (fs' := f27.set 29 (.ref (B + (0 + 28)))) rfl (t := t28) (nr := 29) (by rw [lt28]) hP hz hS dX10_init_329 (fun H locs hP hz hS => ?_)
  obtain ⟨f28, ef28⟩ : ∃ z : List Value, z = f27.set 29 (.ref (B + (0 + 28))) := ⟨_, rfl⟩
  rw [← ef28] at hP
  have lf28 : f28.length = 105 := by rw [ef28, List.length_set, lf27]
  refine lv_aload_n hx hb dX10_init_332 rfl (lv_at hl 0 rfl) ?_
  refine lv_iconst (v := 4) hx hb dX10_init_333 (by decide) ?_
  refine cx_newa (t := 0) (atype := .int) (N := 4) hx hb hts hK rfl (by decide) ac_0 (a0 := (4, .inl (fun _ => 0))) (fun _ => rfl) (by decide) (by decide) (Nat.le_of_ble_eq_true rfl) ho (r := .inr (10, f28) :: t28) (nr := 29) (by rw [List.length_cons, lt28]) (r' := .inr (10, f28) :: (t28 ++ [.inl (ca 0, 4, .inl (fun _ => 0))])) rfl hP hz hS (Nat.le_of_ble_eq_true rfl) (Nat.le_of_ble_eq_true rfl) dX10_init_334 (fun H hP hz hS => ?_)
  obtain ⟨t29, et29⟩ : ∃ z : List va_E, z = t28 ++ [.inl (ca 0, 4, .inl (fun _ => 0))] := ⟨_, rfl⟩
  have hP : va_P D classes (wsB B (([] : List va_E) ++ (.inr (10, f28) :: (t28 ++ [.inl (ca 0, 4, .inl (fun _ => 0))])))) H := hP
  rw [← et29] at hP
  have lt29 : t29.length = 29 := by rw [et29, List.length_append, lt28]; simp only [List.length_cons, List.length_append, List.length_nil, Nat.reduceAdd, Nat.zero_add, bl_6_len, bl_1_len, bl_8_len, bl_0_len, bl_3_len, bl_4_len, bl_2_len, bl_7_len, bl_5_len]
  refine cx_putF (v := .ref (B + (0 + 29))) hx hb hts hown hK cf_10 fl_X10_94 (by decide) rfl hin rfl rfl rfl (by rw [lf28]; decide) ho (fs' := f28.set 30 (.ref (B + (0 + 29)))) rfl (t := t29) (nr := 30) (by rw [lt29]) hP hz hS dX10_init_336 (fun H locs hP hz hS => ?_)
  obtain ⟨f29, ef29⟩ : ∃ z : List Value, z = f28.set 30 (.ref (B + (0 + 29))) := ⟨_, rfl⟩
  rw [← ef29] at hP
  have lf29 : f29.length = 105 := by rw [ef29, List.length_set, lf28]
  refine lv_aload_n hx hb dX10_init_339 rfl (lv_at hl 0 rfl) ?_
  refine lv_sipush (v := 128) hx hb dX10_init_340 (by decide) ?_
  refine cx_newa (t := 0) (atype := .int) (N := 128) hx hb hts hK rfl (by decide) ac_0 (a0 := (128, .inl (fun _ => 0))) (fun _ => rfl) (by decide) (by decide) (Nat.le_of_ble_eq_true rfl) ho (r := .inr (10, f29) :: t29) (nr := 30) (by rw [List.length_cons, lt29]) (r' := .inr (10, f29) :: (t29 ++ [.inl (ca 0, 128, .inl (fun _ => 0))])) rfl hP hz hS (Nat.le_of_ble_eq_true rfl) (Nat.le_of_ble_eq_true rfl) dX10_init_343 (fun H hP hz hS => ?_)
  obtain ⟨t30, et30⟩ : ∃ z : List va_E, z = t29 ++ [.inl (ca 0, 128, .inl (fun _ => 0))] := ⟨_, rfl⟩
  have hP : va_P D classes (wsB B (([] : List va_E) ++ (.inr (10, f29) :: (t29 ++ [.inl (ca 0, 128, .inl (fun _ => 0))])))) H := hP
  rw [← et30] at hP
  have lt30 : t30.length = 30 := by rw [et30, List.length_append, lt29]; simp only [List.length_cons, List.length_append, List.length_nil, Nat.reduceAdd, Nat.zero_add, bl_6_len, bl_1_len, bl_8_len, bl_0_len, bl_3_len, bl_4_len, bl_2_len, bl_7_len, bl_5_len]
  refine cx_putF (v := .ref (B + (0 + 30))) hx hb hts hown hK cf_10 fl_X10_97 (by decide) rfl hin rfl rfl rfl (by rw [lf29]; decide) ho (fs' := f29.set 31 (.ref (B + (0 + 30)))) rfl (t := t30) (nr := 31) (by rw [lt30]) hP hz hS dX10_init_345 (fun H locs hP hz hS => ?_)
  obtain ⟨f30, ef30⟩ : ∃ z : List Value, z = f29.set 31 (.ref (B + (0 + 30))) := ⟨_, rfl⟩
  rw [← ef30] at hP
  have lf30 : f30.length = 105 := by rw [ef30, List.length_set, lf29]
  refine lv_aload_n hx hb dX10_init_348 rfl (lv_at hl 0 rfl) ?_
  refine lv_sipush (v := 128) hx hb dX10_init_349 (by decide) ?_
  refine cx_newa (t := 0) (atype := .int) (N := 128) hx hb hts hK rfl (by decide) ac_0 (a0 := (128, .inl (fun _ => 0))) (fun _ => rfl) (by decide) (by decide) (Nat.le_of_ble_eq_true rfl) ho (r := .inr (10, f30) :: t30) (nr := 31) (by rw [List.length_cons, lt30]) (r' := .inr (10, f30) :: (t30 ++ [.inl (ca 0, 128, .inl (fun _ => 0))])) rfl hP hz hS (Nat.le_of_ble_eq_true rfl) (Nat.le_of_ble_eq_true rfl) dX10_init_352 (fun H hP hz hS => ?_)
  obtain ⟨t31, et31⟩ : ∃ z : List va_E, z = t30 ++ [.inl (ca 0, 128, .inl (fun _ => 0))] := ⟨_, rfl⟩
  have hP : va_P D classes (wsB B (([] : List va_E) ++ (.inr (10, f30) :: (t30 ++ [.inl (ca 0, 128, .inl (fun _ => 0))])))) H := hP
  rw [← et31] at hP
  have lt31 : t31.length = 31 := by rw [et31, List.length_append, lt30]; simp only [List.length_cons, List.length_append, List.length_nil, Nat.reduceAdd, Nat.zero_add, bl_6_len, bl_1_len, bl_8_len, bl_0_len, bl_3_len, bl_4_len, bl_2_len, bl_7_len, bl_5_len]
  refine cx_putF (v := .ref (B + (0 + 31))) hx hb hts hown hK cf_10 fl_X10_100 (by decide) rfl hin rfl rfl rfl (by rw [lf30]; decide) ho (fs' := f30.set 32 (.ref (B + (0 + 31)))) rfl (t := t31) (nr := 32) (by rw [lt31]) hP hz hS dX10_init_354 (fun H locs hP hz hS => ?_)
  obtain ⟨f31, ef31⟩ : ∃ z : List Value, z = f30.set 32 (.ref (B + (0 + 31))) := ⟨_, rfl⟩
  rw [← ef31] at hP
  have lf31 : f31.length = 105 := by rw [ef31, List.length_set, lf30]
  refine lv_aload_n hx hb dX10_init_357 rfl (lv_at hl 0 rfl) ?_
  refine lv_iconst (v := (-1)) hx hb dX10_init_358 (by decide) ?_
  refine cx_put (v := .int (-1)) hx hb hts hown hK cf_10 fl_X10_103 (by decide) rfl rfl rfl (by rw [lf31]; decide) ho (fs' := f31.set 43 (.int (-1))) rfl (t := t31) (nr := 32) (by rw [lt31]) hP hz hS dX10_init_359 (fun H locs hP hz hS => ?_)
  obtain ⟨f32, ef32⟩ : ∃ z : List Value, z = f31.set 43 (.int (-1)) := ⟨_, rfl⟩
  rw [← ef32] at hP
  have lf32 : f32.length = 105 := by rw [ef32, List.length_set, lf31]
  refine lv_aload_n hx hb dX10_init_362 rfl (lv_at hl 0 rfl) ?_
  refine lv_bipush (v := 6) hx hb dX10_init_363 (by decide) ?_
  refine cx_newa (t := 1) (atype := .long) (N := 6) hx hb hts hK rfl (by decide) ac_1 (a0 := (6, .inr (.inl (fun _ => 0)))) (fun _ => rfl) (by decide) (by decide) (Nat.le_of_ble_eq_true rfl) ho (r := .inr (10, f32) :: t31) (nr := 32) (by rw [List.length_cons, lt31]) (r' := .inr (10, f32) :: (t31 ++ [.inl (ca 1, 6, .inr (.inl (fun _ => 0)))])) rfl hP hz hS (Nat.le_of_ble_eq_true rfl) (Nat.le_of_ble_eq_true rfl) dX10_init_365 (fun H hP hz hS => ?_)
  obtain ⟨t32, et32⟩ : ∃ z : List va_E, z = t31 ++ [.inl (ca 1, 6, .inr (.inl (fun _ => 0)))] := ⟨_, rfl⟩
  have hP : va_P D classes (wsB B (([] : List va_E) ++ (.inr (10, f32) :: (t31 ++ [.inl (ca 1, 6, .inr (.inl (fun _ => 0)))])))) H := hP
  rw [← et32] at hP
  have lt32 : t32.length = 32 := by rw [et32, List.length_append, lt31]; simp only [List.length_cons, List.length_append, List.length_nil, Nat.reduceAdd, Nat.zero_add, bl_6_len, bl_1_len, bl_8_len, bl_0_len, bl_3_len, bl_4_len, bl_2_len, bl_7_len, bl_5_len]
  refine cx_putF (v := .ref (B + (0 + 32))) hx hb hts hown hK cf_10 fl_X10_107 (by decide) rfl hin rfl rfl rfl (by rw [lf32]; decide) ho (fs' := f32.set 46 (.ref (B + (0 + 32)))) rfl (t := t32) (nr := 33) (by rw [lt32]) hP hz hS dX10_init_367 (fun H locs hP hz hS => ?_)
  obtain ⟨f33, ef33⟩ : ∃ z : List Value, z = f32.set 46 (.ref (B + (0 + 32))) := ⟨_, rfl⟩
  rw [← ef33] at hP
  have lf33 : f33.length = 105 := by rw [ef33, List.length_set, lf32]
  refine lv_aload_n hx hb dX10_init_370 rfl (lv_at hl 0 rfl) ?_
  refine lv_bipush (v := 64) hx hb dX10_init_371 (by decide) ?_
  refine cx_newa (t := 1) (atype := .long) (N := 64) hx hb hts hK rfl (by decide) ac_1 (a0 := (64, .inr (.inl (fun _ => 0)))) (fun _ => rfl) (by decide) (by decide) (Nat.le_of_ble_eq_true rfl) ho (r := .inr (10, f33) :: t32) (nr := 33) (by rw [List.length_cons, lt32]) (r' := .inr (10, f33) :: (t32 ++ [.inl (ca 1, 64, .inr (.inl (fun _ => 0)))])) rfl hP hz hS (Nat.le_of_ble_eq_true rfl) (Nat.le_of_ble_eq_true rfl) dX10_init_373 (fun H hP hz hS => ?_)
  obtain ⟨t33, et33⟩ : ∃ z : List va_E, z = t32 ++ [.inl (ca 1, 64, .inr (.inl (fun _ => 0)))] := ⟨_, rfl⟩
  have hP : va_P D classes (wsB B (([] : List va_E) ++ (.inr (10, f33) :: (t32 ++ [.inl (ca 1, 64, .inr (.inl (fun _ => 0)))])))) H := hP
  rw [← et33] at hP
  have lt33 : t33.length = 33 := by rw [et33, List.length_append, lt32]; simp only [List.length_cons, List.length_append, List.length_nil, Nat.reduceAdd, Nat.zero_add, bl_6_len, bl_1_len, bl_8_len, bl_0_len, bl_3_len, bl_4_len, bl_2_len, bl_7_len, bl_5_len]
  refine cx_putF (v := .ref (B + (0 + 33))) hx hb hts hown hK cf_10 fl_X10_111 (by decide) rfl hin rfl rfl rfl (by rw [lf33]; decide) ho (fs' := f33.set 47 (.ref (B + (0 + 33)))) rfl (t := t33) (nr := 34) (by rw [lt33]) hP hz hS dX10_init_375 (fun H locs hP hz hS => ?_)
  obtain ⟨f34, ef34⟩ : ∃ z : List Value, z = f33.set 47 (.ref (B + (0 + 33))) := ⟨_, rfl⟩
  rw [← ef34] at hP
  have lf34 : f34.length = 105 := by rw [ef34, List.length_set, lf33]
  refine lv_aload_n hx hb dX10_init_378 rfl (lv_at hl 0 rfl) ?_
  refine lv_bipush (v := 22) hx hb dX10_init_379 (by decide) ?_
  refine cx_newa (t := 0) (atype := .int) (N := 22) hx hb hts hK rfl (by decide) ac_0 (a0 := (22, .inl (fun _ => 0))) (fun _ => rfl) (by decide) (by decide) (Nat.le_of_ble_eq_true rfl) ho (r := .inr (10, f34) :: t33) (nr := 34) (by rw [List.length_cons, lt33]) (r' := .inr (10, f34) :: (t33 ++ [.inl (ca 0, 22, .inl (fun _ => 0))])) rfl hP hz hS (Nat.le_of_ble_eq_true rfl) (Nat.le_of_ble_eq_true rfl) dX10_init_381 (fun H hP hz hS => ?_)
  obtain ⟨t34, et34⟩ : ∃ z : List va_E, z = t33 ++ [.inl (ca 0, 22, .inl (fun _ => 0))] := ⟨_, rfl⟩
  have hP : va_P D classes (wsB B (([] : List va_E) ++ (.inr (10, f34) :: (t33 ++ [.inl (ca 0, 22, .inl (fun _ => 0))])))) H := hP
  rw [← et34] at hP
  have lt34 : t34.length = 34 := by rw [et34, List.length_append, lt33]; simp only [List.length_cons, List.length_append, List.length_nil, Nat.reduceAdd, Nat.zero_add, bl_6_len, bl_1_len, bl_8_len, bl_0_len, bl_3_len, bl_4_len, bl_2_len, bl_7_len, bl_5_len]
  refine cx_putF (v := .ref (B + (0 + 34))) hx hb hts hown hK cf_10 fl_X10_114 (by decide) rfl hin rfl rfl rfl (by rw [lf34]; decide) ho (fs' := f34.set 49 (.ref (B + (0 + 34)))) rfl (t := t34) (nr := 35) (by rw [lt34]) hP hz hS dX10_init_383 (fun H locs hP hz hS => ?_)
  obtain ⟨f35, ef35⟩ : ∃ z : List Value, z = f34.set 49 (.ref (B + (0 + 34))) := ⟨_, rfl⟩
  rw [← ef35] at hP
  have lf35 : f35.length = 105 := by rw [ef35, List.length_set, lf34]
  refine lv_aload_n hx hb dX10_init_386 rfl (lv_at hl 0 rfl) ?_
  refine lv_sipush (v := 264) hx hb dX10_init_387 (by decide) ?_
  refine cx_newa (t := 0) (atype := .int) (N := 264) hx hb hts hK rfl (by decide) ac_0 (a0 := (264, .inl (fun _ => 0))) (fun _ => rfl) (by decide) (by decide) (Nat.le_of_ble_eq_true rfl) ho (r := .inr (10, f35) :: t34) (nr := 35) (by rw [List.length_cons, lt34]) (r' := .inr (10, f35) :: (t34 ++ [.inl (ca 0, 264, .inl (fun _ => 0))])) rfl hP hz hS (Nat.le_of_ble_eq_true rfl) (Nat.le_of_ble_eq_true rfl) dX10_init_390 (fun H hP hz hS => ?_)
  obtain ⟨t35, et35⟩ : ∃ z : List va_E, z = t34 ++ [.inl (ca 0, 264, .inl (fun _ => 0))] := ⟨_, rfl⟩
  have hP : va_P D classes (wsB B (([] : List va_E) ++ (.inr (10, f35) :: (t34 ++ [.inl (ca 0, 264, .inl (fun _ => 0))])))) H := hP
  rw [← et35] at hP
  have lt35 : t35.length = 35 := by rw [et35, List.length_append, lt34]; simp only [List.length_cons, List.length_append, List.length_nil, Nat.reduceAdd, Nat.zero_add, bl_6_len, bl_1_len, bl_8_len, bl_0_len, bl_3_len, bl_4_len, bl_2_len, bl_7_len, bl_5_len]
  refine cx_putF (v := .ref (B + (0 + 35))) hx hb hts hown hK cf_10 fl_X10_117 (by decide) rfl hin rfl rfl rfl (by rw [lf35]; decide) ho (fs' := f35.set 50 (.ref (B + (0 + 35)))) rfl (t := t35) (nr := 36) (by rw [lt35]) hP hz hS dX10_init_392 (fun H locs hP hz hS => ?_)
  obtain ⟨f36, ef36⟩ : ∃ z : List Value, z = f35.set 50 (.ref (B + (0 + 35))) := ⟨_, rfl⟩
  rw [← ef36] at hP
  have lf36 : f36.length = 105 := by rw [ef36, List.length_set, lf35]
  refine lv_aload_n hx hb dX10_init_395 rfl (lv_at hl 0 rfl) ?_
  refine lv_sipush (v := 264) hx hb dX10_init_396 (by decide) ?_
  refine cx_newa (t := 0) (atype := .int) (N := 264) hx hb hts hK rfl (by decide) ac_0 (a0 := (264, .inl (fun _ => 0))) (fun _ => rfl) (by decide) (by decide) (Nat.le_of_ble_eq_true rfl) ho (r := .inr (10, f36) :: t35) (nr := 36) (by rw [List.length_cons, lt35]) (r' := .inr (10, f36) :: (t35 ++ [.inl (ca 0, 264, .inl (fun _ => 0))])) rfl hP hz hS (Nat.le_of_ble_eq_true rfl) (Nat.le_of_ble_eq_true rfl) dX10_init_399 (fun H hP hz hS => ?_)
  obtain ⟨t36, et36⟩ : ∃ z : List va_E, z = t35 ++ [.inl (ca 0, 264, .inl (fun _ => 0))] := ⟨_, rfl⟩
  have hP : va_P D classes (wsB B (([] : List va_E) ++ (.inr (10, f36) :: (t35 ++ [.inl (ca 0, 264, .inl (fun _ => 0))])))) H := hP
  rw [← et36] at hP
  have lt36 : t36.length = 36 := by rw [et36, List.length_append, lt35]; simp only [List.length_cons, List.length_append, List.length_nil, Nat.reduceAdd, Nat.zero_add, bl_6_len, bl_1_len, bl_8_len, bl_0_len, bl_3_len, bl_4_len, bl_2_len, bl_7_len, bl_5_len]
  refine cx_putF (v := .ref (B + (0 + 36))) hx hb hts hown hK cf_10 fl_X10_120 (by decide) rfl hin rfl rfl rfl (by rw [lf36]; decide) ho (fs' := f36.set 51 (.ref (B + (0 + 36)))) rfl (t := t36) (nr := 37) (by rw [lt36]) hP hz hS dX10_init_401 (fun H locs hP hz hS => ?_)
  obtain ⟨f37, ef37⟩ : ∃ z : List Value, z = f36.set 51 (.ref (B + (0 + 36))) := ⟨_, rfl⟩
  rw [← ef37] at hP
  have lf37 : f37.length = 105 := by rw [ef37, List.length_set, lf36]
  refine lv_aload_n hx hb dX10_init_404 rfl (lv_at hl 0 rfl) ?_
  refine lv_sipush (v := 264) hx hb dX10_init_405 (by decide) ?_
  refine cx_newa (t := 0) (atype := .int) (N := 264) hx hb hts hK rfl (by decide) ac_0 (a0 := (264, .inl (fun _ => 0))) (fun _ => rfl) (by decide) (by decide) (Nat.le_of_ble_eq_true rfl) ho (r := .inr (10, f37) :: t36) (nr := 37) (by rw [List.length_cons, lt36]) (r' := .inr (10, f37) :: (t36 ++ [.inl (ca 0, 264, .inl (fun _ => 0))])) rfl hP hz hS (Nat.le_of_ble_eq_true rfl) (Nat.le_of_ble_eq_true rfl) dX10_init_408 (fun H hP hz hS => ?_)
  obtain ⟨t37, et37⟩ : ∃ z : List va_E, z = t36 ++ [.inl (ca 0, 264, .inl (fun _ => 0))] := ⟨_, rfl⟩
  have hP : va_P D classes (wsB B (([] : List va_E) ++ (.inr (10, f37) :: (t36 ++ [.inl (ca 0, 264, .inl (fun _ => 0))])))) H := hP
  rw [← et37] at hP
  have lt37 : t37.length = 37 := by rw [et37, List.length_append, lt36]; simp only [List.length_cons, List.length_append, List.length_nil, Nat.reduceAdd, Nat.zero_add, bl_6_len, bl_1_len, bl_8_len, bl_0_len, bl_3_len, bl_4_len, bl_2_len, bl_7_len, bl_5_len]
  refine cx_putF (v := .ref (B + (0 + 37))) hx hb hts hown hK cf_10 fl_X10_123 (by decide) rfl hin rfl rfl rfl (by rw [lf37]; decide) ho (fs' := f37.set 52 (.ref (B + (0 + 37)))) rfl (t := t37) (nr := 38) (by rw [lt37]) hP hz hS dX10_init_410 (fun H locs hP hz hS => ?_)
  obtain ⟨f38, ef38⟩ : ∃ z : List Value, z = f37.set 52 (.ref (B + (0 + 37))) := ⟨_, rfl⟩
  rw [← ef38] at hP
  have lf38 : f38.length = 105 := by rw [ef38, List.length_set, lf37]
  refine lv_aload_n hx hb dX10_init_413 rfl (lv_at hl 0 rfl) ?_
  refine lv_sipush (v := 264) hx hb dX10_init_414 (by decide) ?_
  refine cx_newa (t := 0) (atype := .int) (N := 264) hx hb hts hK rfl (by decide) ac_0 (a0 := (264, .inl (fun _ => 0))) (fun _ => rfl) (by decide) (by decide) (Nat.le_of_ble_eq_true rfl) ho (r := .inr (10, f38) :: t37) (nr := 38) (by rw [List.length_cons, lt37]) (r' := .inr (10, f38) :: (t37 ++ [.inl (ca 0, 264, .inl (fun _ => 0))])) rfl hP hz hS (Nat.le_of_ble_eq_true rfl) (Nat.le_of_ble_eq_true rfl) dX10_init_417 (fun H hP hz hS => ?_)
  obtain ⟨t38, et38⟩ : ∃ z : List va_E, z = t37 ++ [.inl (ca 0, 264, .inl (fun _ => 0))] := ⟨_, rfl⟩
  have hP : va_P D classes (wsB B (([] : List va_E) ++ (.inr (10, f38) :: (t37 ++ [.inl (ca 0, 264, .inl (fun _ => 0))])))) H := hP
  rw [← et38] at hP
  have lt38 : t38.length = 38 := by rw [et38, List.length_append, lt37]; simp only [List.length_cons, List.length_append, List.length_nil, Nat.reduceAdd, Nat.zero_add, bl_6_len, bl_1_len, bl_8_len, bl_0_len, bl_3_len, bl_4_len, bl_2_len, bl_7_len, bl_5_len]
  refine cx_putF (v := .ref (B + (0 + 38))) hx hb hts hown hK cf_10 fl_X10_126 (by decide) rfl hin rfl rfl rfl (by rw [lf38]; decide) ho (fs' := f38.set 53 (.ref (B + (0 + 38)))) rfl (t := t38) (nr := 39) (by rw [lt38]) hP hz hS dX10_init_419 (fun H locs hP hz hS => ?_)
  obtain ⟨f39, ef39⟩ : ∃ z : List Value, z = f38.set 53 (.ref (B + (0 + 38))) := ⟨_, rfl⟩
  rw [← ef39] at hP
  have lf39 : f39.length = 105 := by rw [ef39, List.length_set, lf38]
  refine lv_aload_n hx hb dX10_init_422 rfl (lv_at hl 0 rfl) ?_
  refine lv_sipush (v := 264) hx hb dX10_init_423 (by decide) ?_
  refine cx_newa (t := 0) (atype := .int) (N := 264) hx hb hts hK rfl (by decide) ac_0 (a0 := (264, .inl (fun _ => 0))) (fun _ => rfl) (by decide) (by decide) (Nat.le_of_ble_eq_true rfl) ho (r := .inr (10, f39) :: t38) (nr := 39) (by rw [List.length_cons, lt38]) (r' := .inr (10, f39) :: (t38 ++ [.inl (ca 0, 264, .inl (fun _ => 0))])) rfl hP hz hS (Nat.le_of_ble_eq_true rfl) (Nat.le_of_ble_eq_true rfl) dX10_init_426 (fun H hP hz hS => ?_)
  obtain ⟨t39, et39⟩ : ∃ z : List va_E, z = t38 ++ [.inl (ca 0, 264, .inl (fun _ => 0))] := ⟨_, rfl⟩
  have hP : va_P D classes (wsB B (([] : List va_E) ++ (.inr (10, f39) :: (t38 ++ [.inl (ca 0, 264, .inl (fun _ => 0))])))) H := hP
  rw [← et39] at hP
  have lt39 : t39.length = 39 := by rw [et39, List.length_append, lt38]; simp only [List.length_cons, List.length_append, List.length_nil, Nat.reduceAdd, Nat.zero_add, bl_6_len, bl_1_len, bl_8_len, bl_0_len, bl_3_len, bl_4_len, bl_2_len, bl_7_len, bl_5_len]
  refine cx_putF (v := .ref (B + (0 + 39))) hx hb hts hown hK cf_10 fl_X10_129 (by decide) rfl hin rfl rfl rfl (by rw [lf39]; decide) ho (fs' := f39.set 54 (.ref (B + (0 + 39)))) rfl (t := t39) (nr := 40) (by rw [lt39]) hP hz hS dX10_init_428 (fun H locs hP hz hS => ?_)
  obtain ⟨f40, ef40⟩ : ∃ z : List Value, z = f39.set 54 (.ref (B + (0 + 39))) := ⟨_, rfl⟩
  rw [← ef40] at hP
  have lf40 : f40.length = 105 := by rw [ef40, List.length_set, lf39]
  refine lv_aload_n hx hb dX10_init_431 rfl (lv_at hl 0 rfl) ?_
  refine lv_bipush (v := 22) hx hb dX10_init_432 (by decide) ?_
  refine cx_newa (t := 0) (atype := .int) (N := 22) hx hb hts hK rfl (by decide) ac_0 (a0 := (22, .inl (fun _ => 0))) (fun _ => rfl) (by decide) (by decide) (Nat.le_of_ble_eq_true rfl) ho (r := .inr (10, f40) :: t39) (nr := 40) (by rw [List.length_cons, lt39]) (r' := .inr (10, f40) :: (t39 ++ [.inl (ca 0, 22, .inl (fun _ => 0))])) rfl hP hz hS (Nat.le_of_ble_eq_true rfl) (Nat.le_of_ble_eq_true rfl) dX10_init_434 (fun H hP hz hS => ?_)
  obtain ⟨t40, et40⟩ : ∃ z : List va_E, z = t39 ++ [.inl (ca 0, 22, .inl (fun _ => 0))] := ⟨_, rfl⟩
  have hP : va_P D classes (wsB B (([] : List va_E) ++ (.inr (10, f40) :: (t39 ++ [.inl (ca 0, 22, .inl (fun _ => 0))])))) H := hP
  rw [← et40] at hP
  have lt40 : t40.length = 40 := by rw [et40, List.length_append, lt39]; simp only [List.length_cons, List.length_append, List.length_nil, Nat.reduceAdd, Nat.zero_add, bl_6_len, bl_1_len, bl_8_len, bl_0_len, bl_3_len, bl_4_len, bl_2_len, bl_7_len, bl_5_len]
  refine cx_putF (v := .ref (B + (0 + 40))) hx hb hts hown hK cf_10 fl_X10_132 (by decide) rfl hin rfl rfl rfl (by rw [lf40]; decide) ho (fs' := f40.set 55 (.ref (B + (0 + 40)))) rfl (t := t40) (nr := 41) (by rw [lt40]) hP hz hS dX10_init_436 (fun H locs hP hz hS => ?_)
  obtain ⟨f41, ef41⟩ : ∃ z : List Value, z = f40.set 55 (.ref (B + (0 + 40))) := ⟨_, rfl⟩
  rw [← ef41] at hP
  have lf41 : f41.length = 105 := by rw [ef41, List.length_set, lf40]
  refine lv_aload_n hx hb dX10_init_439 rfl (lv_at hl 0 rfl) ?_
  refine lv_sipush (v := 176) hx hb dX10_init_440 (by decide) ?_
  refine cx_newa (t := 0) (atype := .int) (N := 176) hx hb hts hK rfl (by decide) ac_0 (a0 := (176, .inl (fun _ => 0))) (fun _ => rfl) (by decide) (by decide) (Nat.le_of_ble_eq_true rfl) ho (r := .inr (10, f41) :: t40) (nr := 41) (by rw [List.length_cons, lt40]) (r' := .inr (10, f41) :: (t40 ++ [.inl (ca 0, 176, .inl (fun _ => 0))])) rfl hP hz hS (Nat.le_of_ble_eq_true rfl) (Nat.le_of_ble_eq_true rfl) dX10_init_443 (fun H hP hz hS => ?_)
  obtain ⟨t41, et41⟩ : ∃ z : List va_E, z = t40 ++ [.inl (ca 0, 176, .inl (fun _ => 0))] := ⟨_, rfl⟩
  have hP : va_P D classes (wsB B (([] : List va_E) ++ (.inr (10, f41) :: (t40 ++ [.inl (ca 0, 176, .inl (fun _ => 0))])))) H := hP
  rw [← et41] at hP
  have lt41 : t41.length = 41 := by rw [et41, List.length_append, lt40]; simp only [List.length_cons, List.length_append, List.length_nil, Nat.reduceAdd, Nat.zero_add, bl_6_len, bl_1_len, bl_8_len, bl_0_len, bl_3_len, bl_4_len, bl_2_len, bl_7_len, bl_5_len]
  refine cx_putF (v := .ref (B + (0 + 41))) hx hb hts hown hK cf_10 fl_X10_135 (by decide) rfl hin rfl rfl rfl (by rw [lf41]; decide) ho (fs' := f41.set 56 (.ref (B + (0 + 41)))) rfl (t := t41) (nr := 42) (by rw [lt41]) hP hz hS dX10_init_445 (fun H locs hP hz hS => ?_)
  obtain ⟨f42, ef42⟩ : ∃ z : List Value, z = f41.set 56 (.ref (B + (0 + 41))) := ⟨_, rfl⟩
  rw [← ef42] at hP
  have lf42 : f42.length = 105 := by rw [ef42, List.length_set, lf41]
  refine lv_aload_n hx hb dX10_init_448 rfl (lv_at hl 0 rfl) ?_
  refine lv_bipush (v := 22) hx hb dX10_init_449 (by decide) ?_
  refine cx_newa (t := 0) (atype := .int) (N := 22) hx hb hts hK rfl (by decide) ac_0 (a0 := (22, .inl (fun _ => 0))) (fun _ => rfl) (by decide) (by decide) (Nat.le_of_ble_eq_true rfl) ho (r := .inr (10, f42) :: t41) (nr := 42) (by rw [List.length_cons, lt41]) (r' := .inr (10, f42) :: (t41 ++ [.inl (ca 0, 22, .inl (fun _ => 0))])) rfl hP hz hS (Nat.le_of_ble_eq_true rfl) (Nat.le_of_ble_eq_true rfl) dX10_init_451 (fun H hP hz hS => ?_)
  obtain ⟨t42, et42⟩ : ∃ z : List va_E, z = t41 ++ [.inl (ca 0, 22, .inl (fun _ => 0))] := ⟨_, rfl⟩
  have hP : va_P D classes (wsB B (([] : List va_E) ++ (.inr (10, f42) :: (t41 ++ [.inl (ca 0, 22, .inl (fun _ => 0))])))) H := hP
  rw [← et42] at hP
  have lt42 : t42.length = 42 := by rw [et42, List.length_append, lt41]; simp only [List.length_cons, List.length_append, List.length_nil, Nat.reduceAdd, Nat.zero_add, bl_6_len, bl_1_len, bl_8_len, bl_0_len, bl_3_len, bl_4_len, bl_2_len, bl_7_len, bl_5_len]
  refine cx_putF (v := .ref (B + (0 + 42))) hx hb hts hown hK cf_10 fl_X10_138 (by decide) rfl hin rfl rfl rfl (by rw [lf42]; decide) ho (fs' := f42.set 57 (.ref (B + (0 + 42)))) rfl (t := t42) (nr := 43) (by rw [lt42]) hP hz hS dX10_init_453 (fun H locs hP hz hS => ?_)
  obtain ⟨f43, ef43⟩ : ∃ z : List Value, z = f42.set 57 (.ref (B + (0 + 42))) := ⟨_, rfl⟩
  rw [← ef43] at hP
  have lf43 : f43.length = 105 := by rw [ef43, List.length_set, lf42]
  refine lv_aload_n hx hb dX10_init_456 rfl (lv_at hl 0 rfl) ?_
  refine lv_bipush (v := 88) hx hb dX10_init_457 (by decide) ?_
  refine cx_newa (t := 0) (atype := .int) (N := 88) hx hb hts hK rfl (by decide) ac_0 (a0 := (88, .inl (fun _ => 0))) (fun _ => rfl) (by decide) (by decide) (Nat.le_of_ble_eq_true rfl) ho (r := .inr (10, f43) :: t42) (nr := 43) (by rw [List.length_cons, lt42]) (r' := .inr (10, f43) :: (t42 ++ [.inl (ca 0, 88, .inl (fun _ => 0))])) rfl hP hz hS (Nat.le_of_ble_eq_true rfl) (Nat.le_of_ble_eq_true rfl) dX10_init_459 (fun H hP hz hS => ?_)
  obtain ⟨t43, et43⟩ : ∃ z : List va_E, z = t42 ++ [.inl (ca 0, 88, .inl (fun _ => 0))] := ⟨_, rfl⟩
  have hP : va_P D classes (wsB B (([] : List va_E) ++ (.inr (10, f43) :: (t42 ++ [.inl (ca 0, 88, .inl (fun _ => 0))])))) H := hP
  rw [← et43] at hP
  have lt43 : t43.length = 43 := by rw [et43, List.length_append, lt42]; simp only [List.length_cons, List.length_append, List.length_nil, Nat.reduceAdd, Nat.zero_add, bl_6_len, bl_1_len, bl_8_len, bl_0_len, bl_3_len, bl_4_len, bl_2_len, bl_7_len, bl_5_len]
  refine cx_putF (v := .ref (B + (0 + 43))) hx hb hts hown hK cf_10 fl_X10_141 (by decide) rfl hin rfl rfl rfl (by rw [lf43]; decide) ho (fs' := f43.set 58 (.ref (B + (0 + 43)))) rfl (t := t43) (nr := 44) (by rw [lt43]) hP hz hS dX10_init_461 (fun H locs hP hz hS => ?_)
  obtain ⟨f44, ef44⟩ : ∃ z : List Value, z = f43.set 58 (.ref (B + (0 + 43))) := ⟨_, rfl⟩
  rw [← ef44] at hP
  have lf44 : f44.length = 105 := by rw [ef44, List.length_set, lf43]
  refine lv_aload_n hx hb dX10_init_464 rfl (lv_at hl 0 rfl) ?_
  refine lv_bipush (v := 22) hx hb dX10_init_465 (by decide) ?_
  refine cx_newa (t := 0) (atype := .int) (N := 22) hx hb hts hK rfl (by decide) ac_0 (a0 := (22, .inl (fun _ => 0))) (fun _ => rfl) (by decide) (by decide) (Nat.le_of_ble_eq_true rfl) ho (r := .inr (10, f44) :: t43) (nr := 44) (by rw [List.length_cons, lt43]) (r' := .inr (10, f44) :: (t43 ++ [.inl (ca 0, 22, .inl (fun _ => 0))])) rfl hP hz hS (Nat.le_of_ble_eq_true rfl) (Nat.le_of_ble_eq_true rfl) dX10_init_467 (fun H hP hz hS => ?_)
  obtain ⟨t44, et44⟩ : ∃ z : List va_E, z = t43 ++ [.inl (ca 0, 22, .inl (fun _ => 0))] := ⟨_, rfl⟩
  have hP : va_P D classes (wsB B (([] : List va_E) ++ (.inr (10, f44) :: (t43 ++ [.inl (ca 0, 22, .inl (fun _ => 0))])))) H := hP
  rw [← et44] at hP
  have lt44 : t44.length = 44 := by rw [et44, List.length_append, lt43]; simp only [List.length_cons, List.length_append, List.length_nil, Nat.reduceAdd, Nat.zero_add, bl_6_len, bl_1_len, bl_8_len, bl_0_len, bl_3_len, bl_4_len, bl_2_len, bl_7_len, bl_5_len]
  refine cx_putF (v := .ref (B + (0 + 44))) hx hb hts hown hK cf_10 fl_X10_144 (by decide) rfl hin rfl rfl rfl (by rw [lf44]; decide) ho (fs' := f44.set 59 (.ref (B + (0 + 44)))) rfl (t := t44) (nr := 45) (by rw [lt44]) hP hz hS dX10_init_469 (fun H locs hP hz hS => ?_)
  obtain ⟨f45, ef45⟩ : ∃ z : List Value, z = f44.set 59 (.ref (B + (0 + 44))) := ⟨_, rfl⟩
  rw [← ef45] at hP
  have lf45 : f45.length = 105 := by rw [ef45, List.length_set, lf44]
  refine lv_aload_n hx hb dX10_init_472 rfl (lv_at hl 0 rfl) ?_
  refine lv_bipush (v := 16) hx hb dX10_init_473 (by decide) ?_
  refine cx_newa (t := 0) (atype := .int) (N := 16) hx hb hts hK rfl (by decide) ac_0 (a0 := (16, .inl (fun _ => 0))) (fun _ => rfl) (by decide) (by decide) (Nat.le_of_ble_eq_true rfl) ho (r := .inr (10, f45) :: t44) (nr := 45) (by rw [List.length_cons, lt44]) (r' := .inr (10, f45) :: (t44 ++ [.inl (ca 0, 16, .inl (fun _ => 0))])) rfl hP hz hS (Nat.le_of_ble_eq_true rfl) (Nat.le_of_ble_eq_true rfl) dX10_init_475 (fun H hP hz hS => ?_)
  obtain ⟨t45, et45⟩ : ∃ z : List va_E, z = t44 ++ [.inl (ca 0, 16, .inl (fun _ => 0))] := ⟨_, rfl⟩
  have hP : va_P D classes (wsB B (([] : List va_E) ++ (.inr (10, f45) :: (t44 ++ [.inl (ca 0, 16, .inl (fun _ => 0))])))) H := hP
  rw [← et45] at hP
  have lt45 : t45.length = 45 := by rw [et45, List.length_append, lt44]; simp only [List.length_cons, List.length_append, List.length_nil, Nat.reduceAdd, Nat.zero_add, bl_6_len, bl_1_len, bl_8_len, bl_0_len, bl_3_len, bl_4_len, bl_2_len, bl_7_len, bl_5_len]
  refine cx_putF (v := .ref (B + (0 + 45))) hx hb hts hown hK cf_10 fl_X10_147 (by decide) rfl hin rfl rfl rfl (by rw [lf45]; decide) ho (fs' := f45.set 63 (.ref (B + (0 + 45)))) rfl (t := t45) (nr := 46) (by rw [lt45]) hP hz hS dX10_init_477 (fun H locs hP hz hS => ?_)
  obtain ⟨f46, ef46⟩ : ∃ z : List Value, z = f45.set 63 (.ref (B + (0 + 45))) := ⟨_, rfl⟩
  rw [← ef46] at hP
  have lf46 : f46.length = 105 := by rw [ef46, List.length_set, lf45]
  refine lv_aload_n hx hb dX10_init_480 rfl (lv_at hl 0 rfl) ?_
  refine lv_bipush (v := 16) hx hb dX10_init_481 (by decide) ?_
  refine cx_newa (t := 0) (atype := .int) (N := 16) hx hb hts hK rfl (by decide) ac_0 (a0 := (16, .inl (fun _ => 0))) (fun _ => rfl) (by decide) (by decide) (Nat.le_of_ble_eq_true rfl) ho (r := .inr (10, f46) :: t45) (nr := 46) (by rw [List.length_cons, lt45]) (r' := .inr (10, f46) :: (t45 ++ [.inl (ca 0, 16, .inl (fun _ => 0))])) rfl hP hz hS (Nat.le_of_ble_eq_true rfl) (Nat.le_of_ble_eq_true rfl) dX10_init_483 (fun H hP hz hS => ?_)
  obtain ⟨t46, et46⟩ : ∃ z : List va_E, z = t45 ++ [.inl (ca 0, 16, .inl (fun _ => 0))] := ⟨_, rfl⟩
  have hP : va_P D classes (wsB B (([] : List va_E) ++ (.inr (10, f46) :: (t45 ++ [.inl (ca 0, 16, .inl (fun _ => 0))])))) H := hP
  rw [← et46] at hP
  have lt46 : t46.length = 46 := by rw [et46, List.length_append, lt45]; simp only [List.length_cons, List.length_append, List.length_nil, Nat.reduceAdd, Nat.zero_add, bl_6_len, bl_1_len, bl_8_len, bl_0_len, bl_3_len, bl_4_len, bl_2_len, bl_7_len, bl_5_len]
  refine cx_putF (v := .ref (B + (0 + 46))) hx hb hts hown hK cf_10 fl_X10_150 (by decide) rfl hin rfl rfl rfl (by rw [lf46]; decide) ho (fs' := f46.set 64 (.ref (B + (0 + 46)))) rfl (t := t46) (nr := 47) (by rw [lt46]) hP hz hS dX10_init_485 (fun H locs hP hz hS => ?_)
  obtain ⟨f47, ef47⟩ : ∃ z : List Value, z = f46.set 64 (.ref (B + (0 + 46))) := ⟨_, rfl⟩
  rw [← ef47] at hP
  have lf47 : f47.length = 105 := by rw [ef47, List.length_set, lf46]
  refine lv_aload_n hx hb dX10_init_488 rfl (lv_at hl 0 rfl) ?_
  refine lv_bipush (v := 16) hx hb dX10_init_489 (by decide) ?_
  refine cx_newa (t := 0) (atype := .int) (N := 16) hx hb hts hK rfl (by decide) ac_0 (a0 := (16, .inl (fun _ => 0))) (fun _ => rfl) (by decide) (by decide) (Nat.le_of_ble_eq_true rfl) ho (r := .inr (10, f47) :: t46) (nr := 47) (by rw [List.length_cons, lt46]) (r' := .inr (10, f47) :: (t46 ++ [.inl (ca 0, 16, .inl (fun _ => 0))])) rfl hP hz hS (Nat.le_of_ble_eq_true rfl) (Nat.le_of_ble_eq_true rfl) dX10_init_491 (fun H hP hz hS => ?_)
  obtain ⟨t47, et47⟩ : ∃ z : List va_E, z = t46 ++ [.inl (ca 0, 16, .inl (fun _ => 0))] := ⟨_, rfl⟩
  have hP : va_P D classes (wsB B (([] : List va_E) ++ (.inr (10, f47) :: (t46 ++ [.inl (ca 0, 16, .inl (fun _ => 0))])))) H := hP
  rw [← et47] at hP
  have lt47 : t47.length = 47 := by rw [et47, List.length_append, lt46]; simp only [List.length_cons, List.length_append, List.length_nil, Nat.reduceAdd, Nat.zero_add, bl_6_len, bl_1_len, bl_8_len, bl_0_len, bl_3_len, bl_4_len, bl_2_len, bl_7_len, bl_5_len]
  refine cx_putF (v := .ref (B + (0 + 47))) hx hb hts hown hK cf_10 fl_X10_153 (by decide) rfl hin rfl rfl rfl (by rw [lf47]; decide) ho (fs' := f47.set 65 (.ref (B + (0 + 47)))) rfl (t := t47) (nr := 48) (by rw [lt47]) hP hz hS dX10_init_493 (fun H locs hP hz hS => ?_)
  obtain ⟨f48, ef48⟩ : ∃ z : List Value, z = f47.set 65 (.ref (B + (0 + 47))) := ⟨_, rfl⟩
  rw [← ef48] at hP
  have lf48 : f48.length = 105 := by rw [ef48, List.length_set, lf47]
  refine lv_aload_n hx hb dX10_init_496 rfl (lv_at hl 0 rfl) ?_
  refine lv_bipush (v := 16) hx hb dX10_init_497 (by decide) ?_
  refine cx_newa (t := 0) (atype := .int) (N := 16) hx hb hts hK rfl (by decide) ac_0 (a0 := (16, .inl (fun _ => 0))) (fun _ => rfl) (by decide) (by decide) (Nat.le_of_ble_eq_true rfl) ho (r := .inr (10, f48) :: t47) (nr := 48) (by rw [List.length_cons, lt47]) (r' := .inr (10, f48) :: (t47 ++ [.inl (ca 0, 16, .inl (fun _ => 0))])) rfl hP hz hS (Nat.le_of_ble_eq_true rfl) (Nat.le_of_ble_eq_true rfl) dX10_init_499 (fun H hP hz hS => ?_)
  obtain ⟨t48, et48⟩ : ∃ z : List va_E, z = t47 ++ [.inl (ca 0, 16, .inl (fun _ => 0))] := ⟨_, rfl⟩
  have hP : va_P D classes (wsB B (([] : List va_E) ++ (.inr (10, f48) :: (t47 ++ [.inl (ca 0, 16, .inl (fun _ => 0))])))) H := hP
  rw [← et48] at hP
  have lt48 : t48.length = 48 := by rw [et48, List.length_append, lt47]; simp only [List.length_cons, List.length_append, List.length_nil, Nat.reduceAdd, Nat.zero_add, bl_6_len, bl_1_len, bl_8_len, bl_0_len, bl_3_len, bl_4_len, bl_2_len, bl_7_len, bl_5_len]
  refine cx_putF (v := .ref (B + (0 + 48))) hx hb hts hown hK cf_10 fl_X10_156 (by decide) rfl hin rfl rfl rfl (by rw [lf48]; decide) ho (fs' := f48.set 66 (.ref (B + (0 + 48)))) rfl (t := t48) (nr := 49) (by rw [lt48]) hP hz hS dX10_init_501 (fun H locs hP hz hS => ?_)
  obtain ⟨f49, ef49⟩ : ∃ z : List Value, z = f48.set 66 (.ref (B + (0 + 48))) := ⟨_, rfl⟩
  rw [← ef49] at hP
  have lf49 : f49.length = 105 := by rw [ef49, List.length_set, lf48]
  refine lv_aload_n hx hb dX10_init_504 rfl (lv_at hl 0 rfl) ?_
  refine lv_bipush (v := 16) hx hb dX10_init_505 (by decide) ?_
  refine cx_newa (t := 0) (atype := .int) (N := 16) hx hb hts hK rfl (by decide) ac_0 (a0 := (16, .inl (fun _ => 0))) (fun _ => rfl) (by decide) (by decide) (Nat.le_of_ble_eq_true rfl) ho (r := .inr (10, f49) :: t48) (nr := 49) (by rw [List.length_cons, lt48]) (r' := .inr (10, f49) :: (t48 ++ [.inl (ca 0, 16, .inl (fun _ => 0))])) rfl hP hz hS (Nat.le_of_ble_eq_true rfl) (Nat.le_of_ble_eq_true rfl) dX10_init_507 (fun H hP hz hS => ?_)
  obtain ⟨t49, et49⟩ : ∃ z : List va_E, z = t48 ++ [.inl (ca 0, 16, .inl (fun _ => 0))] := ⟨_, rfl⟩
  have hP : va_P D classes (wsB B (([] : List va_E) ++ (.inr (10, f49) :: (t48 ++ [.inl (ca 0, 16, .inl (fun _ => 0))])))) H := hP
  rw [← et49] at hP
  have lt49 : t49.length = 49 := by rw [et49, List.length_append, lt48]; simp only [List.length_cons, List.length_append, List.length_nil, Nat.reduceAdd, Nat.zero_add, bl_6_len, bl_1_len, bl_8_len, bl_0_len, bl_3_len, bl_4_len, bl_2_len, bl_7_len, bl_5_len]
  refine cx_putF (v := .ref (B + (0 + 49))) hx hb hts hown hK cf_10 fl_X10_159 (by decide) rfl hin rfl rfl rfl (by rw [lf49]; decide) ho (fs' := f49.set 67 (.ref (B + (0 + 49)))) rfl (t := t49) (nr := 50) (by rw [lt49]) hP hz hS dX10_init_509 (fun H locs hP hz hS => ?_)
  obtain ⟨f50, ef50⟩ : ∃ z : List Value, z = f49.set 67 (.ref (B + (0 + 49))) := ⟨_, rfl⟩
  rw [← ef50] at hP
  have lf50 : f50.length = 105 := by rw [ef50, List.length_set, lf49]
  refine lv_aload_n hx hb dX10_init_512 rfl (lv_at hl 0 rfl) ?_
  refine lv_bipush (v := 36) hx hb dX10_init_513 (by decide) ?_
  refine cx_newa (t := 0) (atype := .int) (N := 36) hx hb hts hK rfl (by decide) ac_0 (a0 := (36, .inl (fun _ => 0))) (fun _ => rfl) (by decide) (by decide) (Nat.le_of_ble_eq_true rfl) ho (r := .inr (10, f50) :: t49) (nr := 50) (by rw [List.length_cons, lt49]) (r' := .inr (10, f50) :: (t49 ++ [.inl (ca 0, 36, .inl (fun _ => 0))])) rfl hP hz hS (Nat.le_of_ble_eq_true rfl) (Nat.le_of_ble_eq_true rfl) dX10_init_515 (fun H hP hz hS => ?_)
  obtain ⟨t50, et50⟩ : ∃ z : List va_E, z = t49 ++ [.inl (ca 0, 36, .inl (fun _ => 0))] := ⟨_, rfl⟩
  have hP : va_P D classes (wsB B (([] : List va_E) ++ (.inr (10, f50) :: (t49 ++ [.inl (ca 0, 36, .inl (fun _ => 0))])))) H := hP
  rw [← et50] at hP
  have lt50 : t50.length = 50 := by rw [et50, List.length_append, lt49]; simp only [List.length_cons, List.length_append, List.length_nil, Nat.reduceAdd, Nat.zero_add, bl_6_len, bl_1_len, bl_8_len, bl_0_len, bl_3_len, bl_4_len, bl_2_len, bl_7_len, bl_5_len]
  refine cx_putF (v := .ref (B + (0 + 50))) hx hb hts hown hK cf_10 fl_X10_162 (by decide) rfl hin rfl rfl rfl (by rw [lf50]; decide) ho (fs' := f50.set 68 (.ref (B + (0 + 50)))) rfl (t := t50) (nr := 51) (by rw [lt50]) hP hz hS dX10_init_517 (fun H locs hP hz hS => ?_)
  obtain ⟨f51, ef51⟩ : ∃ z : List Value, z = f50.set 68 (.ref (B + (0 + 50))) := ⟨_, rfl⟩
  rw [← ef51] at hP
  have lf51 : f51.length = 105 := by rw [ef51, List.length_set, lf50]
  refine lv_aload_n hx hb dX10_init_520 rfl (lv_at hl 0 rfl) ?_
  refine lv_sipush (v := 288) hx hb dX10_init_521 (by decide) ?_
  refine cx_newa (t := 0) (atype := .int) (N := 288) hx hb hts hK rfl (by decide) ac_0 (a0 := (288, .inl (fun _ => 0))) (fun _ => rfl) (by decide) (by decide) (Nat.le_of_ble_eq_true rfl) ho (r := .inr (10, f51) :: t50) (nr := 51) (by rw [List.length_cons, lt50]) (r' := .inr (10, f51) :: (t50 ++ [.inl (ca 0, 288, .inl (fun _ => 0))])) rfl hP hz hS (Nat.le_of_ble_eq_true rfl) (Nat.le_of_ble_eq_true rfl) dX10_init_524 (fun H hP hz hS => ?_)
  obtain ⟨t51, et51⟩ : ∃ z : List va_E, z = t50 ++ [.inl (ca 0, 288, .inl (fun _ => 0))] := ⟨_, rfl⟩
  have hP : va_P D classes (wsB B (([] : List va_E) ++ (.inr (10, f51) :: (t50 ++ [.inl (ca 0, 288, .inl (fun _ => 0))])))) H := hP
  rw [← et51] at hP
  have lt51 : t51.length = 51 := by rw [et51, List.length_append, lt50]; simp only [List.length_cons, List.length_append, List.length_nil, Nat.reduceAdd, Nat.zero_add, bl_6_len, bl_1_len, bl_8_len, bl_0_len, bl_3_len, bl_4_len, bl_2_len, bl_7_len, bl_5_len]
  refine cx_putF (v := .ref (B + (0 + 51))) hx hb hts hown hK cf_10 fl_X10_165 (by decide) rfl hin rfl rfl rfl (by rw [lf51]; decide) ho (fs' := f51.set 69 (.ref (B + (0 + 51)))) rfl (t := t51) (nr := 52) (by rw [lt51]) hP hz hS dX10_init_526 (fun H locs hP hz hS => ?_)
  obtain ⟨f52, ef52⟩ : ∃ z : List Value, z = f51.set 69 (.ref (B + (0 + 51))) := ⟨_, rfl⟩
  rw [← ef52] at hP
  have lf52 : f52.length = 105 := by rw [ef52, List.length_set, lf51]
  refine lv_aload_n hx hb dX10_init_529 rfl (lv_at hl 0 rfl) ?_
  refine lv_bipush (v := 16) hx hb dX10_init_530 (by decide) ?_
  refine cx_newa (t := 0) (atype := .int) (N := 16) hx hb hts hK rfl (by decide) ac_0 (a0 := (16, .inl (fun _ => 0))) (fun _ => rfl) (by decide) (by decide) (Nat.le_of_ble_eq_true rfl) ho (r := .inr (10, f52) :: t51) (nr := 52) (by rw [List.length_cons, lt51]) (r' := .inr (10, f52) :: (t51 ++ [.inl (ca 0, 16, .inl (fun _ => 0))])) rfl hP hz hS (Nat.le_of_ble_eq_true rfl) (Nat.le_of_ble_eq_true rfl) dX10_init_532 (fun H hP hz hS => ?_)
  obtain ⟨t52, et52⟩ : ∃ z : List va_E, z = t51 ++ [.inl (ca 0, 16, .inl (fun _ => 0))] := ⟨_, rfl⟩
  have hP : va_P D classes (wsB B (([] : List va_E) ++ (.inr (10, f52) :: (t51 ++ [.inl (ca 0, 16, .inl (fun _ => 0))])))) H := hP
  rw [← et52] at hP
  have lt52 : t52.length = 52 := by rw [et52, List.length_append, lt51]; simp only [List.length_cons, List.length_append, List.length_nil, Nat.reduceAdd, Nat.zero_add, bl_6_len, bl_1_len, bl_8_len, bl_0_len, bl_3_len, bl_4_len, bl_2_len, bl_7_len, bl_5_len]
  refine cx_putF (v := .ref (B + (0 + 52))) hx hb hts hown hK cf_10 fl_X10_168 (by decide) rfl hin rfl rfl rfl (by rw [lf52]; decide) ho (fs' := f52.set 71 (.ref (B + (0 + 52)))) rfl (t := t52) (nr := 53) (by rw [lt52]) hP hz hS dX10_init_534 (fun H locs hP hz hS => ?_)
  obtain ⟨f53, ef53⟩ : ∃ z : List Value, z = f52.set 71 (.ref (B + (0 + 52))) := ⟨_, rfl⟩
  rw [← ef53] at hP
  have lf53 : f53.length = 105 := by rw [ef53, List.length_set, lf52]
  refine lv_aload_n hx hb dX10_init_537 rfl (lv_at hl 0 rfl) ?_
  refine lv_bipush (v := 16) hx hb dX10_init_538 (by decide) ?_
  refine cx_newa (t := 0) (atype := .int) (N := 16) hx hb hts hK rfl (by decide) ac_0 (a0 := (16, .inl (fun _ => 0))) (fun _ => rfl) (by decide) (by decide) (Nat.le_of_ble_eq_true rfl) ho (r := .inr (10, f53) :: t52) (nr := 53) (by rw [List.length_cons, lt52]) (r' := .inr (10, f53) :: (t52 ++ [.inl (ca 0, 16, .inl (fun _ => 0))])) rfl hP hz hS (Nat.le_of_ble_eq_true rfl) (Nat.le_of_ble_eq_true rfl) dX10_init_540 (fun H hP hz hS => ?_)
  obtain ⟨t53, et53⟩ : ∃ z : List va_E, z = t52 ++ [.inl (ca 0, 16, .inl (fun _ => 0))] := ⟨_, rfl⟩
  have hP : va_P D classes (wsB B (([] : List va_E) ++ (.inr (10, f53) :: (t52 ++ [.inl (ca 0, 16, .inl (fun _ => 0))])))) H := hP
  rw [← et53] at hP
  have lt53 : t53.length = 53 := by rw [et53, List.length_append, lt52]; simp only [List.length_cons, List.length_append, List.length_nil, Nat.reduceAdd, Nat.zero_add, bl_6_len, bl_1_len, bl_8_len, bl_0_len, bl_3_len, bl_4_len, bl_2_len, bl_7_len, bl_5_len]
  refine cx_putF (v := .ref (B + (0 + 53))) hx hb hts hown hK cf_10 fl_X10_171 (by decide) rfl hin rfl rfl rfl (by rw [lf53]; decide) ho (fs' := f53.set 72 (.ref (B + (0 + 53)))) rfl (t := t53) (nr := 54) (by rw [lt53]) hP hz hS dX10_init_542 (fun H locs hP hz hS => ?_)
  obtain ⟨f54, ef54⟩ : ∃ z : List Value, z = f53.set 72 (.ref (B + (0 + 53))) := ⟨_, rfl⟩
  rw [← ef54] at hP
  have lf54 : f54.length = 105 := by rw [ef54, List.length_set, lf53]
  refine lv_aload_n hx hb dX10_init_545 rfl (lv_at hl 0 rfl) ?_
  refine lv_bipush (v := 16) hx hb dX10_init_546 (by decide) ?_
  refine cx_newa (t := 0) (atype := .int) (N := 16) hx hb hts hK rfl (by decide) ac_0 (a0 := (16, .inl (fun _ => 0))) (fun _ => rfl) (by decide) (by decide) (Nat.le_of_ble_eq_true rfl) ho (r := .inr (10, f54) :: t53) (nr := 54) (by rw [List.length_cons, lt53]) (r' := .inr (10, f54) :: (t53 ++ [.inl (ca 0, 16, .inl (fun _ => 0))])) rfl hP hz hS (Nat.le_of_ble_eq_true rfl) (Nat.le_of_ble_eq_true rfl) dX10_init_548 (fun H hP hz hS => ?_)
  obtain ⟨t54, et54⟩ : ∃ z : List va_E, z = t53 ++ [.inl (ca 0, 16, .inl (fun _ => 0))] := ⟨_, rfl⟩
  have hP : va_P D classes (wsB B (([] : List va_E) ++ (.inr (10, f54) :: (t53 ++ [.inl (ca 0, 16, .inl (fun _ => 0))])))) H := hP
  rw [← et54] at hP
  have lt54 : t54.length = 54 := by rw [et54, List.length_append, lt53]; simp only [List.length_cons, List.length_append, List.length_nil, Nat.reduceAdd, Nat.zero_add, bl_6_len, bl_1_len, bl_8_len, bl_0_len, bl_3_len, bl_4_len, bl_2_len, bl_7_len, bl_5_len]
  refine cx_putF (v := .ref (B + (0 + 54))) hx hb hts hown hK cf_10 fl_X10_174 (by decide) rfl hin rfl rfl rfl (by rw [lf54]; decide) ho (fs' := f54.set 73 (.ref (B + (0 + 54)))) rfl (t := t54) (nr := 55) (by rw [lt54]) hP hz hS dX10_init_550 (fun H locs hP hz hS => ?_)
  obtain ⟨f55, ef55⟩ : ∃ z : List Value, z = f54.set 73 (.ref (B + (0 + 54))) := ⟨_, rfl⟩
  rw [← ef55] at hP
  have lf55 : f55.length = 105 := by rw [ef55, List.length_set, lf54]
  refine lv_aload_n hx hb dX10_init_553 rfl (lv_at hl 0 rfl) ?_
  refine lv_bipush (v := 16) hx hb dX10_init_554 (by decide) ?_
  refine cx_newa (t := 0) (atype := .int) (N := 16) hx hb hts hK rfl (by decide) ac_0 (a0 := (16, .inl (fun _ => 0))) (fun _ => rfl) (by decide) (by decide) (Nat.le_of_ble_eq_true rfl) ho (r := .inr (10, f55) :: t54) (nr := 55) (by rw [List.length_cons, lt54]) (r' := .inr (10, f55) :: (t54 ++ [.inl (ca 0, 16, .inl (fun _ => 0))])) rfl hP hz hS (Nat.le_of_ble_eq_true rfl) (Nat.le_of_ble_eq_true rfl) dX10_init_556 (fun H hP hz hS => ?_)
  obtain ⟨t55, et55⟩ : ∃ z : List va_E, z = t54 ++ [.inl (ca 0, 16, .inl (fun _ => 0))] := ⟨_, rfl⟩
  have hP : va_P D classes (wsB B (([] : List va_E) ++ (.inr (10, f55) :: (t54 ++ [.inl (ca 0, 16, .inl (fun _ => 0))])))) H := hP
  rw [← et55] at hP
  have lt55 : t55.length = 55 := by rw [et55, List.length_append, lt54]; simp only [List.length_cons, List.length_append, List.length_nil, Nat.reduceAdd, Nat.zero_add, bl_6_len, bl_1_len, bl_8_len, bl_0_len, bl_3_len, bl_4_len, bl_2_len, bl_7_len, bl_5_len]
  refine cx_putF (v := .ref (B + (0 + 55))) hx hb hts hown hK cf_10 fl_X10_177 (by decide) rfl hin rfl rfl rfl (by rw [lf55]; decide) ho (fs' := f55.set 74 (.ref (B + (0 + 55)))) rfl (t := t55) (nr := 56) (by rw [lt55]) hP hz hS dX10_init_558 (fun H locs hP hz hS => ?_)
  obtain ⟨f56, ef56⟩ : ∃ z : List Value, z = f55.set 74 (.ref (B + (0 + 55))) := ⟨_, rfl⟩
  rw [← ef56] at hP
  have lf56 : f56.length = 105 := by rw [ef56, List.length_set, lf55]
  refine lv_aload_n hx hb dX10_init_561 rfl (lv_at hl 0 rfl) ?_
  refine lv_sipush (v := 288) hx hb dX10_init_562 (by decide) ?_
  refine cx_newa (t := 0) (atype := .int) (N := 288) hx hb hts hK rfl (by decide) ac_0 (a0 := (288, .inl (fun _ => 0))) (fun _ => rfl) (by decide) (by decide) (Nat.le_of_ble_eq_true rfl) ho (r := .inr (10, f56) :: t55) (nr := 56) (by rw [List.length_cons, lt55]) (r' := .inr (10, f56) :: (t55 ++ [.inl (ca 0, 288, .inl (fun _ => 0))])) rfl hP hz hS (Nat.le_of_ble_eq_true rfl) (Nat.le_of_ble_eq_true rfl) dX10_init_565 (fun H hP hz hS => ?_)
  obtain ⟨t56, et56⟩ : ∃ z : List va_E, z = t55 ++ [.inl (ca 0, 288, .inl (fun _ => 0))] := ⟨_, rfl⟩
  have hP : va_P D classes (wsB B (([] : List va_E) ++ (.inr (10, f56) :: (t55 ++ [.inl (ca 0, 288, .inl (fun _ => 0))])))) H := hP
  rw [← et56] at hP
  have lt56 : t56.length = 56 := by rw [et56, List.length_append, lt55]; simp only [List.length_cons, List.length_append, List.length_nil, Nat.reduceAdd, Nat.zero_add, bl_6_len, bl_1_len, bl_8_len, bl_0_len, bl_3_len, bl_4_len, bl_2_len, bl_7_len, bl_5_len]
  refine cx_putF (v := .ref (B + (0 + 56))) hx hb hts hown hK cf_10 fl_X10_180 (by decide) rfl hin rfl rfl rfl (by rw [lf56]; decide) ho (fs' := f56.set 75 (.ref (B + (0 + 56)))) rfl (t := t56) (nr := 57) (by rw [lt56]) hP hz hS dX10_init_567 (fun H locs hP hz hS => ?_)
  obtain ⟨f57, ef57⟩ : ∃ z : List Value, z = f56.set 75 (.ref (B + (0 + 56))) := ⟨_, rfl⟩
  rw [← ef57] at hP
  have lf57 : f57.length = 105 := by rw [ef57, List.length_set, lf56]
  refine lv_aload_n hx hb dX10_init_570 rfl (lv_at hl 0 rfl) ?_
  refine lv_sipush (v := 144) hx hb dX10_init_571 (by decide) ?_
  refine cx_newa (t := 0) (atype := .int) (N := 144) hx hb hts hK rfl (by decide) ac_0 (a0 := (144, .inl (fun _ => 0))) (fun _ => rfl) (by decide) (by decide) (Nat.le_of_ble_eq_true rfl) ho (r := .inr (10, f57) :: t56) (nr := 57) (by rw [List.length_cons, lt56]) (r' := .inr (10, f57) :: (t56 ++ [.inl (ca 0, 144, .inl (fun _ => 0))])) rfl hP hz hS (Nat.le_of_ble_eq_true rfl) (Nat.le_of_ble_eq_true rfl) dX10_init_574 (fun H hP hz hS => ?_)
  obtain ⟨t57, et57⟩ : ∃ z : List va_E, z = t56 ++ [.inl (ca 0, 144, .inl (fun _ => 0))] := ⟨_, rfl⟩
  have hP : va_P D classes (wsB B (([] : List va_E) ++ (.inr (10, f57) :: (t56 ++ [.inl (ca 0, 144, .inl (fun _ => 0))])))) H := hP
  rw [← et57] at hP
  have lt57 : t57.length = 57 := by rw [et57, List.length_append, lt56]; simp only [List.length_cons, List.length_append, List.length_nil, Nat.reduceAdd, Nat.zero_add, bl_6_len, bl_1_len, bl_8_len, bl_0_len, bl_3_len, bl_4_len, bl_2_len, bl_7_len, bl_5_len]
  refine cx_putF (v := .ref (B + (0 + 57))) hx hb hts hown hK cf_10 fl_X10_183 (by decide) rfl hin rfl rfl rfl (by rw [lf57]; decide) ho (fs' := f57.set 78 (.ref (B + (0 + 57)))) rfl (t := t57) (nr := 58) (by rw [lt57]) hP hz hS dX10_init_576 (fun H locs hP hz hS => ?_)
  obtain ⟨f58, ef58⟩ : ∃ z : List Value, z = f57.set 78 (.ref (B + (0 + 57))) := ⟨_, rfl⟩
  rw [← ef58] at hP
  have lf58 : f58.length = 105 := by rw [ef58, List.length_set, lf57]
  refine lv_aload_n hx hb dX10_init_579 rfl (lv_at hl 0 rfl) ?_
  refine lv_sipush (v := 144) hx hb dX10_init_580 (by decide) ?_
  refine cx_newa (t := 0) (atype := .int) (N := 144) hx hb hts hK rfl (by decide) ac_0 (a0 := (144, .inl (fun _ => 0))) (fun _ => rfl) (by decide) (by decide) (Nat.le_of_ble_eq_true rfl) ho (r := .inr (10, f58) :: t57) (nr := 58) (by rw [List.length_cons, lt57]) (r' := .inr (10, f58) :: (t57 ++ [.inl (ca 0, 144, .inl (fun _ => 0))])) rfl hP hz hS (Nat.le_of_ble_eq_true rfl) (Nat.le_of_ble_eq_true rfl) dX10_init_583 (fun H hP hz hS => ?_)
  obtain ⟨t58, et58⟩ : ∃ z : List va_E, z = t57 ++ [.inl (ca 0, 144, .inl (fun _ => 0))] := ⟨_, rfl⟩
  have hP : va_P D classes (wsB B (([] : List va_E) ++ (.inr (10, f58) :: (t57 ++ [.inl (ca 0, 144, .inl (fun _ => 0))])))) H := hP
  rw [← et58] at hP
  have lt58 : t58.length = 58 := by rw [et58, List.length_append, lt57]; simp only [List.length_cons, List.length_append, List.length_nil, Nat.reduceAdd, Nat.zero_add, bl_6_len, bl_1_len, bl_8_len, bl_0_len, bl_3_len, bl_4_len, bl_2_len, bl_7_len, bl_5_len]
  refine cx_putF (v := .ref (B + (0 + 58))) hx hb hts hown hK cf_10 fl_X10_186 (by decide) rfl hin rfl rfl rfl (by rw [lf58]; decide) ho (fs' := f58.set 79 (.ref (B + (0 + 58)))) rfl (t := t58) (nr := 59) (by rw [lt58]) hP hz hS dX10_init_585 (fun H locs hP hz hS => ?_)
  obtain ⟨f59, ef59⟩ : ∃ z : List Value, z = f58.set 79 (.ref (B + (0 + 58))) := ⟨_, rfl⟩
  rw [← ef59] at hP
  have lf59 : f59.length = 105 := by rw [ef59, List.length_set, lf58]
  refine lv_aload_n hx hb dX10_init_588 rfl (lv_at hl 0 rfl) ?_
  refine lv_sipush (v := 144) hx hb dX10_init_589 (by decide) ?_
  refine cx_newa (t := 0) (atype := .int) (N := 144) hx hb hts hK rfl (by decide) ac_0 (a0 := (144, .inl (fun _ => 0))) (fun _ => rfl) (by decide) (by decide) (Nat.le_of_ble_eq_true rfl) ho (r := .inr (10, f59) :: t58) (nr := 59) (by rw [List.length_cons, lt58]) (r' := .inr (10, f59) :: (t58 ++ [.inl (ca 0, 144, .inl (fun _ => 0))])) rfl hP hz hS (Nat.le_of_ble_eq_true rfl) (Nat.le_of_ble_eq_true rfl) dX10_init_592 (fun H hP hz hS => ?_)
  obtain ⟨t59, et59⟩ : ∃ z : List va_E, z = t58 ++ [.inl (ca 0, 144, .inl (fun _ => 0))] := ⟨_, rfl⟩
  have hP : va_P D classes (wsB B (([] : List va_E) ++ (.inr (10, f59) :: (t58 ++ [.inl (ca 0, 144, .inl (fun _ => 0))])))) H := hP
  rw [← et59] at hP
  have lt59 : t59.length = 59 := by rw [et59, List.length_append, lt58]; simp only [List.length_cons, List.length_append, List.length_nil, Nat.reduceAdd, Nat.zero_add, bl_6_len, bl_1_len, bl_8_len, bl_0_len, bl_3_len, bl_4_len, bl_2_len, bl_7_len, bl_5_len]
  refine cx_putF (v := .ref (B + (0 + 59))) hx hb hts hown hK cf_10 fl_X10_189 (by decide) rfl hin rfl rfl rfl (by rw [lf59]; decide) ho (fs' := f59.set 80 (.ref (B + (0 + 59)))) rfl (t := t59) (nr := 60) (by rw [lt59]) hP hz hS dX10_init_594 (fun H locs hP hz hS => ?_)
  obtain ⟨f60, ef60⟩ : ∃ z : List Value, z = f59.set 80 (.ref (B + (0 + 59))) := ⟨_, rfl⟩
  rw [← ef60] at hP
  have lf60 : f60.length = 105 := by rw [ef60, List.length_set, lf59]
  refine lv_aload_n hx hb dX10_init_597 rfl (lv_at hl 0 rfl) ?_
  refine lv_sipush (v := 144) hx hb dX10_init_598 (by decide) ?_
  refine cx_newa (t := 0) (atype := .int) (N := 144) hx hb hts hK rfl (by decide) ac_0 (a0 := (144, .inl (fun _ => 0))) (fun _ => rfl) (by decide) (by decide) (Nat.le_of_ble_eq_true rfl) ho (r := .inr (10, f60) :: t59) (nr := 60) (by rw [List.length_cons, lt59]) (r' := .inr (10, f60) :: (t59 ++ [.inl (ca 0, 144, .inl (fun _ => 0))])) rfl hP hz hS (Nat.le_of_ble_eq_true rfl) (Nat.le_of_ble_eq_true rfl) dX10_init_601 (fun H hP hz hS => ?_)
  obtain ⟨t60, et60⟩ : ∃ z : List va_E, z = t59 ++ [.inl (ca 0, 144, .inl (fun _ => 0))] := ⟨_, rfl⟩
  have hP : va_P D classes (wsB B (([] : List va_E) ++ (.inr (10, f60) :: (t59 ++ [.inl (ca 0, 144, .inl (fun _ => 0))])))) H := hP
  rw [← et60] at hP
  have lt60 : t60.length = 60 := by rw [et60, List.length_append, lt59]; simp only [List.length_cons, List.length_append, List.length_nil, Nat.reduceAdd, Nat.zero_add, bl_6_len, bl_1_len, bl_8_len, bl_0_len, bl_3_len, bl_4_len, bl_2_len, bl_7_len, bl_5_len]
  refine cx_putF (v := .ref (B + (0 + 60))) hx hb hts hown hK cf_10 fl_X10_192 (by decide) rfl hin rfl rfl rfl (by rw [lf60]; decide) ho (fs' := f60.set 81 (.ref (B + (0 + 60)))) rfl (t := t60) (nr := 61) (by rw [lt60]) hP hz hS dX10_init_603 (fun H locs hP hz hS => ?_)
  obtain ⟨f61, ef61⟩ : ∃ z : List Value, z = f60.set 81 (.ref (B + (0 + 60))) := ⟨_, rfl⟩
  rw [← ef61] at hP
  have lf61 : f61.length = 105 := by rw [ef61, List.length_set, lf60]
  refine lv_aload_n hx hb dX10_init_606 rfl (lv_at hl 0 rfl) ?_
  refine lv_sipush (v := 192) hx hb dX10_init_607 (by decide) ?_
  refine cx_newa (t := 3) (atype := .boolean) (N := 192) hx hb hts hK rfl (by decide) ac_3 (a0 := (192, .inl (fun _ => 0))) (fun _ => rfl) (by decide) (by decide) (Nat.le_of_ble_eq_true rfl) ho (r := .inr (10, f61) :: t60) (nr := 61) (by rw [List.length_cons, lt60]) (r' := .inr (10, f61) :: (t60 ++ [.inl (ca 3, 192, .inl (fun _ => 0))])) rfl hP hz hS (Nat.le_of_ble_eq_true rfl) (Nat.le_of_ble_eq_true rfl) dX10_init_610 (fun H hP hz hS => ?_)
  obtain ⟨t61, et61⟩ : ∃ z : List va_E, z = t60 ++ [.inl (ca 3, 192, .inl (fun _ => 0))] := ⟨_, rfl⟩
  have hP : va_P D classes (wsB B (([] : List va_E) ++ (.inr (10, f61) :: (t60 ++ [.inl (ca 3, 192, .inl (fun _ => 0))])))) H := hP
  rw [← et61] at hP
  have lt61 : t61.length = 61 := by rw [et61, List.length_append, lt60]; simp only [List.length_cons, List.length_append, List.length_nil, Nat.reduceAdd, Nat.zero_add, bl_6_len, bl_1_len, bl_8_len, bl_0_len, bl_3_len, bl_4_len, bl_2_len, bl_7_len, bl_5_len]
  refine cx_putF (v := .ref (B + (0 + 61))) hx hb hts hown hK cf_10 fl_X10_195 (by decide) rfl hin rfl rfl rfl (by rw [lf61]; decide) ho (fs' := f61.set 87 (.ref (B + (0 + 61)))) rfl (t := t61) (nr := 62) (by rw [lt61]) hP hz hS dX10_init_612 (fun H locs hP hz hS => ?_)
  obtain ⟨f62, ef62⟩ : ∃ z : List Value, z = f61.set 87 (.ref (B + (0 + 61))) := ⟨_, rfl⟩
  rw [← ef62] at hP
  have lf62 : f62.length = 105 := by rw [ef62, List.length_set, lf61]
  refine lv_aload_n hx hb dX10_init_615 rfl (lv_at hl 0 rfl) ?_
  refine lv_iconst (v := 4) hx hb dX10_init_616 (by decide) ?_
  refine cx_newa (t := 0) (atype := .int) (N := 4) hx hb hts hK rfl (by decide) ac_0 (a0 := (4, .inl (fun _ => 0))) (fun _ => rfl) (by decide) (by decide) (Nat.le_of_ble_eq_true rfl) ho (r := .inr (10, f62) :: t61) (nr := 62) (by rw [List.length_cons, lt61]) (r' := .inr (10, f62) :: (t61 ++ [.inl (ca 0, 4, .inl (fun _ => 0))])) rfl hP hz hS (Nat.le_of_ble_eq_true rfl) (Nat.le_of_ble_eq_true rfl) dX10_init_617 (fun H hP hz hS => ?_)
  obtain ⟨t62, et62⟩ : ∃ z : List va_E, z = t61 ++ [.inl (ca 0, 4, .inl (fun _ => 0))] := ⟨_, rfl⟩
  have hP : va_P D classes (wsB B (([] : List va_E) ++ (.inr (10, f62) :: (t61 ++ [.inl (ca 0, 4, .inl (fun _ => 0))])))) H := hP
  rw [← et62] at hP
  have lt62 : t62.length = 62 := by rw [et62, List.length_append, lt61]; simp only [List.length_cons, List.length_append, List.length_nil, Nat.reduceAdd, Nat.zero_add, bl_6_len, bl_1_len, bl_8_len, bl_0_len, bl_3_len, bl_4_len, bl_2_len, bl_7_len, bl_5_len]
  refine cx_putF (v := .ref (B + (0 + 62))) hx hb hts hown hK cf_10 fl_X10_199 (by decide) rfl hin rfl rfl rfl (by rw [lf62]; decide) ho (fs' := f62.set 88 (.ref (B + (0 + 62)))) rfl (t := t62) (nr := 63) (by rw [lt62]) hP hz hS dX10_init_619 (fun H locs hP hz hS => ?_)
  obtain ⟨f63, ef63⟩ : ∃ z : List Value, z = f62.set 88 (.ref (B + (0 + 62))) := ⟨_, rfl⟩
  rw [← ef63] at hP
  have lf63 : f63.length = 105 := by rw [ef63, List.length_set, lf62]
  refine lv_aload_n hx hb dX10_init_622 rfl (lv_at hl 0 rfl) ?_
  refine lv_iconst (v := 4) hx hb dX10_init_623 (by decide) ?_
  refine cx_newa (t := 0) (atype := .int) (N := 4) hx hb hts hK rfl (by decide) ac_0 (a0 := (4, .inl (fun _ => 0))) (fun _ => rfl) (by decide) (by decide) (Nat.le_of_ble_eq_true rfl) ho (r := .inr (10, f63) :: t62) (nr := 63) (by rw [List.length_cons, lt62]) (r' := .inr (10, f63) :: (t62 ++ [.inl (ca 0, 4, .inl (fun _ => 0))])) rfl hP hz hS (Nat.le_of_ble_eq_true rfl) (Nat.le_of_ble_eq_true rfl) dX10_init_624 (fun H hP hz hS => ?_)
  obtain ⟨t63, et63⟩ : ∃ z : List va_E, z = t62 ++ [.inl (ca 0, 4, .inl (fun _ => 0))] := ⟨_, rfl⟩
  have hP : va_P D classes (wsB B (([] : List va_E) ++ (.inr (10, f63) :: (t62 ++ [.inl (ca 0, 4, .inl (fun _ => 0))])))) H := hP
  rw [← et63] at hP
  have lt63 : t63.length = 63 := by rw [et63, List.length_append, lt62]; simp only [List.length_cons, List.length_append, List.length_nil, Nat.reduceAdd, Nat.zero_add, bl_6_len, bl_1_len, bl_8_len, bl_0_len, bl_3_len, bl_4_len, bl_2_len, bl_7_len, bl_5_len]
  refine cx_putF (v := .ref (B + (0 + 63))) hx hb hts hown hK cf_10 fl_X10_202 (by decide) rfl hin rfl rfl rfl (by rw [lf63]; decide) ho (fs' := f63.set 89 (.ref (B + (0 + 63)))) rfl (t := t63) (nr := 64) (by rw [lt63]) hP hz hS dX10_init_626 (fun H locs hP hz hS => ?_)
  obtain ⟨f64, ef64⟩ : ∃ z : List Value, z = f63.set 89 (.ref (B + (0 + 63))) := ⟨_, rfl⟩
  rw [← ef64] at hP
  have lf64 : f64.length = 105 := by rw [ef64, List.length_set, lf63]
  refine lv_aload_n hx hb dX10_init_629 rfl (lv_at hl 0 rfl) ?_
  refine lv_iconst (v := 4) hx hb dX10_init_630 (by decide) ?_
  refine cx_newa (t := 0) (atype := .int) (N := 4) hx hb hts hK rfl (by decide) ac_0 (a0 := (4, .inl (fun _ => 0))) (fun _ => rfl) (by decide) (by decide) (Nat.le_of_ble_eq_true rfl) ho (r := .inr (10, f64) :: t63) (nr := 64) (by rw [List.length_cons, lt63]) (r' := .inr (10, f64) :: (t63 ++ [.inl (ca 0, 4, .inl (fun _ => 0))])) rfl hP hz hS (Nat.le_of_ble_eq_true rfl) (Nat.le_of_ble_eq_true rfl) dX10_init_631 (fun H hP hz hS => ?_)
  obtain ⟨t64, et64⟩ : ∃ z : List va_E, z = t63 ++ [.inl (ca 0, 4, .inl (fun _ => 0))] := ⟨_, rfl⟩
  have hP : va_P D classes (wsB B (([] : List va_E) ++ (.inr (10, f64) :: (t63 ++ [.inl (ca 0, 4, .inl (fun _ => 0))])))) H := hP
  rw [← et64] at hP
  have lt64 : t64.length = 64 := by rw [et64, List.length_append, lt63]; simp only [List.length_cons, List.length_append, List.length_nil, Nat.reduceAdd, Nat.zero_add, bl_6_len, bl_1_len, bl_8_len, bl_0_len, bl_3_len, bl_4_len, bl_2_len, bl_7_len, bl_5_len]
  refine cx_putF (v := .ref (B + (0 + 64))) hx hb hts hown hK cf_10 fl_X10_205 (by decide) rfl hin rfl rfl rfl (by rw [lf64]; decide) ho (fs' := f64.set 90 (.ref (B + (0 + 64)))) rfl (t := t64) (nr := 65) (by rw [lt64]) hP hz hS dX10_init_633 (fun H locs hP hz hS => ?_)
  obtain ⟨f65, ef65⟩ : ∃ z : List Value, z = f64.set 90 (.ref (B + (0 + 64))) := ⟨_, rfl⟩
  rw [← ef65] at hP
  have lf65 : f65.length = 105 := by rw [ef65, List.length_set, lf64]
  refine lv_aload_n hx hb dX10_init_636 rfl (lv_at hl 0 rfl) ?_
  refine lv_iconst (v := 4) hx hb dX10_init_637 (by decide) ?_
  refine cx_newa (t := 0) (atype := .int) (N := 4) hx hb hts hK rfl (by decide) ac_0 (a0 := (4, .inl (fun _ => 0))) (fun _ => rfl) (by decide) (by decide) (Nat.le_of_ble_eq_true rfl) ho (r := .inr (10, f65) :: t64) (nr := 65) (by rw [List.length_cons, lt64]) (r' := .inr (10, f65) :: (t64 ++ [.inl (ca 0, 4, .inl (fun _ => 0))])) rfl hP hz hS (Nat.le_of_ble_eq_true rfl) (Nat.le_of_ble_eq_true rfl) dX10_init_638 (fun H hP hz hS => ?_)
  obtain ⟨t65, et65⟩ : ∃ z : List va_E, z = t64 ++ [.inl (ca 0, 4, .inl (fun _ => 0))] := ⟨_, rfl⟩
  have hP : va_P D classes (wsB B (([] : List va_E) ++ (.inr (10, f65) :: (t64 ++ [.inl (ca 0, 4, .inl (fun _ => 0))])))) H := hP
  rw [← et65] at hP
  have lt65 : t65.length = 65 := by rw [et65, List.length_append, lt64]; simp only [List.length_cons, List.length_append, List.length_nil, Nat.reduceAdd, Nat.zero_add, bl_6_len, bl_1_len, bl_8_len, bl_0_len, bl_3_len, bl_4_len, bl_2_len, bl_7_len, bl_5_len]
  refine cx_putF (v := .ref (B + (0 + 65))) hx hb hts hown hK cf_10 fl_X10_208 (by decide) rfl hin rfl rfl rfl (by rw [lf65]; decide) ho (fs' := f65.set 91 (.ref (B + (0 + 65)))) rfl (t := t65) (nr := 66) (by rw [lt65]) hP hz hS dX10_init_640 (fun H locs hP hz hS => ?_)
  obtain ⟨f66, ef66⟩ : ∃ z : List Value, z = f65.set 91 (.ref (B + (0 + 65))) := ⟨_, rfl⟩
  rw [← ef66] at hP
  have lf66 : f66.length = 105 := by rw [ef66, List.length_set, lf65]
  refine lv_aload_n hx hb dX10_init_643 rfl (lv_at hl 0 rfl) ?_
  refine lv_bipush (v := 64) hx hb dX10_init_644 (by decide) ?_
  refine cx_newa (t := 0) (atype := .int) (N := 64) hx hb hts hK rfl (by decide) ac_0 (a0 := (64, .inl (fun _ => 0))) (fun _ => rfl) (by decide) (by decide) (Nat.le_of_ble_eq_true rfl) ho (r := .inr (10, f66) :: t65) (nr := 66) (by rw [List.length_cons, lt65]) (r' := .inr (10, f66) :: (t65 ++ [.inl (ca 0, 64, .inl (fun _ => 0))])) rfl hP hz hS (Nat.le_of_ble_eq_true rfl) (Nat.le_of_ble_eq_true rfl) dX10_init_646 (fun H hP hz hS => ?_)
  obtain ⟨t66, et66⟩ : ∃ z : List va_E, z = t65 ++ [.inl (ca 0, 64, .inl (fun _ => 0))] := ⟨_, rfl⟩
  have hP : va_P D classes (wsB B (([] : List va_E) ++ (.inr (10, f66) :: (t65 ++ [.inl (ca 0, 64, .inl (fun _ => 0))])))) H := hP
  rw [← et66] at hP
  have lt66 : t66.length = 66 := by rw [et66, List.length_append, lt65]; simp only [List.length_cons, List.length_append, List.length_nil, Nat.reduceAdd, Nat.zero_add, bl_6_len, bl_1_len, bl_8_len, bl_0_len, bl_3_len, bl_4_len, bl_2_len, bl_7_len, bl_5_len]
  refine cx_putF (v := .ref (B + (0 + 66))) hx hb hts hown hK cf_10 fl_X10_211 (by decide) rfl hin rfl rfl rfl (by rw [lf66]; decide) ho (fs' := f66.set 93 (.ref (B + (0 + 66)))) rfl (t := t66) (nr := 67) (by rw [lt66]) hP hz hS dX10_init_648 (fun H locs hP hz hS => ?_)
  obtain ⟨f67, ef67⟩ : ∃ z : List Value, z = f66.set 93 (.ref (B + (0 + 66))) := ⟨_, rfl⟩
  rw [← ef67] at hP
  have lf67 : f67.length = 105 := by rw [ef67, List.length_set, lf66]
  refine lv_aload_n hx hb dX10_init_651 rfl (lv_at hl 0 rfl) ?_
  refine lv_iconst (v := (-1)) hx hb dX10_init_652 (by decide) ?_
  refine cx_put (v := .int (-1)) hx hb hts hown hK cf_10 fl_X10_214 (by decide) rfl rfl rfl (by rw [lf67]; decide) ho (fs' := f67.set 95 (.int (-1))) rfl (t := t66) (nr := 67) (by rw [lt66]) hP hz hS dX10_init_653 (fun H locs hP hz hS => ?_)
  obtain ⟨f68, ef68⟩ : ∃ z : List Value, z = f67.set 95 (.int (-1)) := ⟨_, rfl⟩
  rw [← ef68] at hP
  have lf68 : f68.length = 105 := by rw [ef68, List.length_set, lf67]
  refine lv_aload_n hx hb dX10_init_656 rfl (lv_at hl 0 rfl) ?_
  refine lv_bipush (v := 24) hx hb dX10_init_657 (by decide) ?_
  refine cx_newa (t := 0) (atype := .int) (N := 24) hx hb hts hK rfl (by decide) ac_0 (a0 := (24, .inl (fun _ => 0))) (fun _ => rfl) (by decide) (by decide) (Nat.le_of_ble_eq_true rfl) ho (r := .inr (10, f68) :: t66) (nr := 67) (by rw [List.length_cons, lt66]) (r' := .inr (10, f68) :: (t66 ++ [.inl (ca 0, 24, .inl (fun _ => 0))])) rfl hP hz hS (Nat.le_of_ble_eq_true rfl) (Nat.le_of_ble_eq_true rfl) dX10_init_659 (fun H hP hz hS => ?_)
  obtain ⟨t67, et67⟩ : ∃ z : List va_E, z = t66 ++ [.inl (ca 0, 24, .inl (fun _ => 0))] := ⟨_, rfl⟩
  have hP : va_P D classes (wsB B (([] : List va_E) ++ (.inr (10, f68) :: (t66 ++ [.inl (ca 0, 24, .inl (fun _ => 0))])))) H := hP
  rw [← et67] at hP
  have lt67 : t67.length = 67 := by rw [et67, List.length_append, lt66]; simp only [List.length_cons, List.length_append, List.length_nil, Nat.reduceAdd, Nat.zero_add, bl_6_len, bl_1_len, bl_8_len, bl_0_len, bl_3_len, bl_4_len, bl_2_len, bl_7_len, bl_5_len]
  refine cx_putF (v := .ref (B + (0 + 67))) hx hb hts hown hK cf_10 fl_X10_217 (by decide) rfl hin rfl rfl rfl (by rw [lf68]; decide) ho (fs' := f68.set 96 (.ref (B + (0 + 67)))) rfl (t := t67) (nr := 68) (by rw [lt67]) hP hz hS dX10_init_661 (fun H locs hP hz hS => ?_)
  obtain ⟨f69, ef69⟩ : ∃ z : List Value, z = f68.set 96 (.ref (B + (0 + 67))) := ⟨_, rfl⟩
  rw [← ef69] at hP
  have lf69 : f69.length = 105 := by rw [ef69, List.length_set, lf68]
  refine lv_aload_n hx hb dX10_init_664 rfl (lv_at hl 0 rfl) ?_
  refine lv_bipush (v := 24) hx hb dX10_init_665 (by decide) ?_
  refine cx_newa (t := 0) (atype := .int) (N := 24) hx hb hts hK rfl (by decide) ac_0 (a0 := (24, .inl (fun _ => 0))) (fun _ => rfl) (by decide) (by decide) (Nat.le_of_ble_eq_true rfl) ho (r := .inr (10, f69) :: t67) (nr := 68) (by rw [List.length_cons, lt67]) (r' := .inr (10, f69) :: (t67 ++ [.inl (ca 0, 24, .inl (fun _ => 0))])) rfl hP hz hS (Nat.le_of_ble_eq_true rfl) (Nat.le_of_ble_eq_true rfl) dX10_init_667 (fun H hP hz hS => ?_)
  obtain ⟨t68, et68⟩ : ∃ z : List va_E, z = t67 ++ [.inl (ca 0, 24, .inl (fun _ => 0))] := ⟨_, rfl⟩
  have hP : va_P D classes (wsB B (([] : List va_E) ++ (.inr (10, f69) :: (t67 ++ [.inl (ca 0, 24, .inl (fun _ => 0))])))) H := hP
  rw [← et68] at hP
  have lt68 : t68.length = 68 := by rw [et68, List.length_append, lt67]; simp only [List.length_cons, List.length_append, List.length_nil, Nat.reduceAdd, Nat.zero_add, bl_6_len, bl_1_len, bl_8_len, bl_0_len, bl_3_len, bl_4_len, bl_2_len, bl_7_len, bl_5_len]
  refine cx_putF (v := .ref (B + (0 + 68))) hx hb hts hown hK cf_10 fl_X10_220 (by decide) rfl hin rfl rfl rfl (by rw [lf69]; decide) ho (fs' := f69.set 97 (.ref (B + (0 + 68)))) rfl (t := t68) (nr := 69) (by rw [lt68]) hP hz hS dX10_init_669 (fun H locs hP hz hS => ?_)
  obtain ⟨f70, ef70⟩ : ∃ z : List Value, z = f69.set 97 (.ref (B + (0 + 68))) := ⟨_, rfl⟩
  rw [← ef70] at hP
  have lf70 : f70.length = 105 := by rw [ef70, List.length_set, lf69]
  refine lv_aload_n hx hb dX10_init_672 rfl (lv_at hl 0 rfl) ?_
  refine lv_bipush (v := 24) hx hb dX10_init_673 (by decide) ?_
  refine cx_newa (t := 3) (atype := .boolean) (N := 24) hx hb hts hK rfl (by decide) ac_3 (a0 := (24, .inl (fun _ => 0))) (fun _ => rfl) (by decide) (by decide) (Nat.le_of_ble_eq_true rfl) ho (r := .inr (10, f70) :: t68) (nr := 69) (by rw [List.length_cons, lt68]) (r' := .inr (10, f70) :: (t68 ++ [.inl (ca 3, 24, .inl (fun _ => 0))])) rfl hP hz hS (Nat.le_of_ble_eq_true rfl) (Nat.le_of_ble_eq_true rfl) dX10_init_675 (fun H hP hz hS => ?_)
  obtain ⟨t69, et69⟩ : ∃ z : List va_E, z = t68 ++ [.inl (ca 3, 24, .inl (fun _ => 0))] := ⟨_, rfl⟩
  have hP : va_P D classes (wsB B (([] : List va_E) ++ (.inr (10, f70) :: (t68 ++ [.inl (ca 3, 24, .inl (fun _ => 0))])))) H := hP
  rw [← et69] at hP
  have lt69 : t69.length = 69 := by rw [et69, List.length_append, lt68]; simp only [List.length_cons, List.length_append, List.length_nil, Nat.reduceAdd, Nat.zero_add, bl_6_len, bl_1_len, bl_8_len, bl_0_len, bl_3_len, bl_4_len, bl_2_len, bl_7_len, bl_5_len]
  refine cx_putF (v := .ref (B + (0 + 69))) hx hb hts hown hK cf_10 fl_X10_223 (by decide) rfl hin rfl rfl rfl (by rw [lf70]; decide) ho (fs' := f70.set 98 (.ref (B + (0 + 69)))) rfl (t := t69) (nr := 70) (by rw [lt69]) hP hz hS dX10_init_677 (fun H locs hP hz hS => ?_)
  obtain ⟨f71, ef71⟩ : ∃ z : List Value, z = f70.set 98 (.ref (B + (0 + 69))) := ⟨_, rfl⟩
  rw [← ef71] at hP
  have lf71 : f71.length = 105 := by rw [ef71, List.length_set, lf70]
  refine lv_aload_n hx hb dX10_init_680 rfl (lv_at hl 0 rfl) ?_
  refine lv_bipush (v := 24) hx hb dX10_init_681 (by decide) ?_
  refine cx_newa (t := 0) (atype := .int) (N := 24) hx hb hts hK rfl (by decide) ac_0 (a0 := (24, .inl (fun _ => 0))) (fun _ => rfl) (by decide) (by decide) (Nat.le_of_ble_eq_true rfl) ho (r := .inr (10, f71) :: t69) (nr := 70) (by rw [List.length_cons, lt69]) (r' := .inr (10, f71) :: (t69 ++ [.inl (ca 0, 24, .inl (fun _ => 0))])) rfl hP hz hS (Nat.le_of_ble_eq_true rfl) (Nat.le_of_ble_eq_true rfl) dX10_init_683 (fun H hP hz hS => ?_)
  obtain ⟨t70, et70⟩ : ∃ z : List va_E, z = t69 ++ [.inl (ca 0, 24, .inl (fun _ => 0))] := ⟨_, rfl⟩
  have hP : va_P D classes (wsB B (([] : List va_E) ++ (.inr (10, f71) :: (t69 ++ [.inl (ca 0, 24, .inl (fun _ => 0))])))) H := hP
  rw [← et70] at hP
  have lt70 : t70.length = 70 := by rw [et70, List.length_append, lt69]; simp only [List.length_cons, List.length_append, List.length_nil, Nat.reduceAdd, Nat.zero_add, bl_6_len, bl_1_len, bl_8_len, bl_0_len, bl_3_len, bl_4_len, bl_2_len, bl_7_len, bl_5_len]
  refine cx_putF (v := .ref (B + (0 + 70))) hx hb hts hown hK cf_10 fl_X10_226 (by decide) rfl hin rfl rfl rfl (by rw [lf71]; decide) ho (fs' := f71.set 99 (.ref (B + (0 + 70)))) rfl (t := t70) (nr := 71) (by rw [lt70]) hP hz hS dX10_init_685 (fun H locs hP hz hS => ?_)
  obtain ⟨f72, ef72⟩ : ∃ z : List Value, z = f71.set 99 (.ref (B + (0 + 70))) := ⟨_, rfl⟩
  rw [← ef72] at hP
  have lf72 : f72.length = 105 := by rw [ef72, List.length_set, lf71]
  refine lv_aload_n hx hb dX10_init_688 rfl (lv_at hl 0 rfl) ?_
  refine lv_bipush (v := 24) hx hb dX10_init_689 (by decide) ?_
  refine cx_newa (t := 3) (atype := .boolean) (N := 24) hx hb hts hK rfl (by decide) ac_3 (a0 := (24, .inl (fun _ => 0))) (fun _ => rfl) (by decide) (by decide) (Nat.le_of_ble_eq_true rfl) ho (r := .inr (10, f72) :: t70) (nr := 71) (by rw [List.length_cons, lt70]) (r' := .inr (10, f72) :: (t70 ++ [.inl (ca 3, 24, .inl (fun _ => 0))])) rfl hP hz hS (Nat.le_of_ble_eq_true rfl) (Nat.le_of_ble_eq_true rfl) dX10_init_691 (fun H hP hz hS => ?_)
  obtain ⟨t71, et71⟩ : ∃ z : List va_E, z = t70 ++ [.inl (ca 3, 24, .inl (fun _ => 0))] := ⟨_, rfl⟩
  have hP : va_P D classes (wsB B (([] : List va_E) ++ (.inr (10, f72) :: (t70 ++ [.inl (ca 3, 24, .inl (fun _ => 0))])))) H := hP
  rw [← et71] at hP
  have lt71 : t71.length = 71 := by rw [et71, List.length_append, lt70]; simp only [List.length_cons, List.length_append, List.length_nil, Nat.reduceAdd, Nat.zero_add, bl_6_len, bl_1_len, bl_8_len, bl_0_len, bl_3_len, bl_4_len, bl_2_len, bl_7_len, bl_5_len]
  refine cx_putF (v := .ref (B + (0 + 71))) hx hb hts hown hK cf_10 fl_X10_229 (by decide) rfl hin rfl rfl rfl (by rw [lf72]; decide) ho (fs' := f72.set 100 (.ref (B + (0 + 71)))) rfl (t := t71) (nr := 72) (by rw [lt71]) hP hz hS dX10_init_693 (fun H locs hP hz hS => ?_)
  obtain ⟨f73, ef73⟩ : ∃ z : List Value, z = f72.set 100 (.ref (B + (0 + 71))) := ⟨_, rfl⟩
  rw [← ef73] at hP
  have lf73 : f73.length = 105 := by rw [ef73, List.length_set, lf72]
  have eb : bl_10 D ca ad B = .inr (10, f73) :: t71 := by rw [bl_10_cons, ← ef_10 ef0 ef1 ef2 ef3 ef4 ef5 ef6 ef7 ef8 ef9 ef10 ef11 ef12 ef13 ef14 ef15 ef16 ef17 ef18 ef19 ef20 ef21 ef22 ef23 ef24 ef25 ef26 ef27 ef28 ef29 ef30 ef31 ef32 ef33 ef34 ef35 ef36 ef37 ef38 ef39 ef40 ef41 ef42 ef43 ef44 ef45 ef46 ef47 ef48 ef49 ef50 ef51 ef52 ef53 ef54 ef55 ef56 ef57 ef58 ef59 ef60 ef61 ef62 ef63 ef64 ef65 ef66 ef67 ef68 ef69 ef70 ef71 ef72 ef73, ← et_10 et1 et2 et3 et4 et5 et6 et7 et8 et9 et10 et11 et12 et13 et14 et15 et16 et17 et18 et19 et20 et21 et22 et23 et24 et25 et26 et27 et28 et29 et30 et31 et32 et33 et34 et35 et36 et37 et38 et39 et40 et41 et42 et43 et44 et45 et46 et47 et48 et49 et50 et51 et52 et53 et54 et55 et56 et57 et58 et59 et60 et61 et62 et63 et64 et65 et66 et67 et68 et69 et70 et71]
  have hP : va_P D classes (wsB B (bl_10 D ca ad B)) H := by rw [eb]; exact hP
  refine W.cs (cells' := 71) (slots' := 4778) rfl rfl ?_
  exact c10_tail hbg hml Bd hsz hK hS hP hl
theorem k_X10_init {D : va_G} {ca ad : Nat → Nat} {B : Nat} {l : Launch} {cs0 : List va_E} {o : Nat} (ho : cs0.length = o) (hbg : Bg) : Mc D ca ad B l 10 71 4778 yX10_init cX10_init 1 [.ref (B + o)] (cs0 ++ [.inr (10, d10)]) (cs0 ++ bl_10 D ca ad (B + o)) := Mc.frame ho (k0_X10_init (B := B + o) hbg)
