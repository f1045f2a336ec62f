def bl_6 (ca : Nat → Nat) (B o : Nat) (w m9 : Int32) (N : Nat) : List va_E := .inr (6, [.int w, .int m9, .ref (B + (o + 1)), .int 0]) :: [.inl (ca 0, N, .inl (fun _ => 0))]
set_option maxHeartbeats 4000000 in
set_option maxRecDepth 40000 in
theorem k_X6_init {D : va_G} {ca ad : Nat → Nat} {B : Nat} {l : Launch} {cs0 : List va_E} {o : Nat} (ho : cs0.length = o) (w m9 : Int32) (N : Nat) (h1 : ¬ w * m9 < 0) (hN : (w * m9).toNatClampNeg = N) (hbt : N * 4 ≤ 536870912) : Mc D ca ad B l 1 1 N yX6_init cX6_init 3 [.ref (B + o), .int w, .int m9] (cs0 ++ [.inr (6, [.int 0, .int 0, .null, .int 0])]) (cs0 ++ bl_6 ca B o w m9 N) := by
  refine Met.ofW (cc := cX6_init) (maxL := 3) (ret := none) (by decide +kernel) rfl ?_
  intro p e s m args below meth c s₁ Bd hml hv
  obtain ⟨rfl, hBs, hP, hz, hK⟩ := hv
  have hx := Bd.exec
  have hb := Bd.bytes
  have hr := Bd.returns
  have hts0 := atoms_spec (ws := Cond.code yX6_init cX6_init 3 none :: LT) Bd.pre
  have hts : ∀ w ∈ LT, w.before _ s = true := fun w hw => hts0 w (List.mem_cons_of_mem _ hw)
  have hown : s.vm.findClass RX6 = some m.cls := findClass_of_methodNamed Bd.named
  have hlocks := Bd.notSynchronized
  have hin : meth.name = "<init>" := (name_of_methodNamed Bd.named Bd.method).1
  have hS : va_S (fun q => B ≤ q) s.heap s.heap [] := va_S.rf
  have hz : s.heap.size = B + (o + 1) := by rw [hz, List.length_append, ho]; rfl
  have hl := lv_entry ([.ref (B + o), .int w, .int m9]) (n := 3) (Nat.le_of_ble_eq_true rfl)
  rw [lg_entry_eq]
  generalize (lg_sl ([.ref (B + o), .int w, .int m9]) ++ List.replicate (3 - (lg_sl ([.ref (B + o), .int w, .int m9])).length) Slot.unset).toArray = ls at hl ⊢
  have hl : lv_has ls 3 [(0, .ref (B + o)), (1, .int w), (2, .int m9)] := hl
  refine lv_aload_n hx hb dX6_init_0 rfl (lv_at hl 0 rfl) ?_
  refine W.objInit hx hb hown (hts _ oi_X6) (hts _ oi_inst) (hts _ oi_code) rfl (by rw [hml]; exact hl.1) rfl dX6_init_1 (Nat.le_of_ble_eq_true rfl) (Nat.le_of_ble_eq_true rfl) ?_
  refine lv_aload_n hx hb dX6_init_4 rfl (lv_at hl 0 rfl) ?_
  refine lv_iload_n hx hb dX6_init_5 rfl (lv_at hl 1 rfl) ?_
  refine cx_putF (v := .int w) hx hb hts hown hK cf_6 fl_X6_9 (by decide) rfl hin rfl rfl rfl (Nat.le_of_ble_eq_true rfl) ho (fs' := [.int w, .int 0, .null, .int 0]) rfl (t := []) (nr := 1) rfl hP hz hS dX6_init_6 (fun H locs hP hz hS => ?_)
  refine lv_aload_n hx hb dX6_init_9 rfl (lv_at hl 0 rfl) ?_
  refine lv_iload_n hx hb dX6_init_10 rfl (lv_at hl 2 rfl) ?_
  refine cx_putF (v := .int m9) hx hb hts hown hK cf_6 fl_X6_15 (by decide) rfl hin rfl rfl rfl (Nat.le_of_ble_eq_true rfl) ho (fs' := [.int w, .int m9, .null, .int 0]) rfl (t := []) (nr := 1) rfl hP hz hS dX6_init_11 (fun H locs hP hz hS => ?_)
  refine lv_aload_n hx hb dX6_init_14 rfl (lv_at hl 0 rfl) ?_
  refine lv_iload_n hx hb dX6_init_15 rfl (lv_at hl 1 rfl) ?_
  refine lv_iload_n hx hb dX6_init_16 rfl (lv_at hl 2 rfl) ?_
  refine lv_imul hx hb dX6_init_17 ?_
  refine cx_newa (t := 0) (atype := .int) (N := N) hx hb hts hK rfl (by decide) ac_0 (a0 := (N, .inl (fun _ => 0))) (fun _ => rfl) h1 hN hbt ho (r := .inr (6, [.int w, .int m9, .null, .int 0]) :: []) (nr := 1) rfl (r' := .inr (6, [.int w, .int m9, .null, .int 0]) :: ([] ++ [.inl (ca 0, N, .inl (fun _ => 0))])) rfl hP hz hS (Nat.le_of_ble_eq_true rfl) (by show _ ≤ _; simp [headSpec, rmc]) dX6_init_18 (fun H hP hz hS => ?_)
  have hP : va_P D classes (wsB B (cs0 ++ (.inr (6, [.int w, .int m9, .null, .int 0]) :: [.inl (ca 0, N, .inl (fun _ => 0))]))) H := hP
  refine cx_putF (v := .ref (B + (o + 1))) hx hb hts hown hK cf_6 fl_X6_18 (by decide) rfl hin rfl rfl rfl (Nat.le_of_ble_eq_true rfl) ho (fs' := [.int w, .int m9, .ref (B + (o + 1)), .int 0]) rfl (t := [.inl (ca 0, N, .inl (fun _ => 0))]) (nr := 2) rfl hP hz hS dX6_init_20 (fun H locs hP hz hS => ?_)
  refine W.cs (cells' := 1) (slots' := N) rfl (Nat.zero_add _) ?_
  exact W.vret hx hb hr (fun t ht hW => ⟨rfl, by rw [ht]; exact hP, by rw [ht, hz, List.length_append, ho]; rfl, hS.F ht⟩) hS.2.2 dX6_init_23 hlocks
theorem bl_6_len (ca : Nat → Nat) (B o : Nat) (w m9 : Int32) (N : Nat) : (bl_6 ca B o w m9 N).length = 2 := rfl
def bl_1 (ca : Nat → Nat) (B o : Nat) : List va_E := .inr (1, [.ref (B + (o + 1)), .ref (B + (o + 2)), .ref (B + (o + 3)), .int 0, .int 0]) :: (([.inl (ca 0, 64, .inl (fun _ => 0))] ++ [.inl (ca 1, 64, .inr (.inl (fun _ => 0)))]) ++ [.inl (ca 1, 6, .inr (.inl (fun _ => 0)))])
set_option maxHeartbeats 4000000 in
set_option maxRecDepth 40000 in
theorem k_X1_init {D : va_G} {ca ad : Nat → Nat} {B : Nat} {l : Launch} {cs0 : List va_E} {o : Nat} (ho : cs0.length = o) : Mc D ca ad B l 1 3 134 yX1_init cX1_init 1 [.ref (B + o)] (cs0 ++ [.inr (1, [.null, .null, .null, .int 0, .int 0])]) (cs0 ++ bl_1 ca B o) := by
  refine Met.ofW (cc := cX1_init) (maxL := 1) (ret := none) (by decide +kernel) rfl ?_
  intro p e s m args below meth c s₁ Bd hml hv
  obtain ⟨rfl, hBs, hP, hz, hK⟩ := hv
  have hx := Bd.exec
  have hb := Bd.bytes
  have hr := Bd.returns
  have hts0 := atoms_spec (ws := Cond.code yX1_init cX1_init 1 none :: LT) Bd.pre
  have hts : ∀ w ∈ LT, w.before _ s = true := fun w hw => hts0 w (List.mem_cons_of_mem _ hw)
  have hown : s.vm.findClass RX1 = some m.cls := findClass_of_methodNamed Bd.named
  have hlocks := Bd.notSynchronized
  have hin : meth.name = "<init>" := (name_of_methodNamed Bd.named Bd.method).1
  have hS : va_S (fun q => B ≤ q) s.heap s.heap [] := va_S.rf
  have hz : s.heap.size = B + (o + 1) := by rw [hz, List.length_append, ho]; rfl
  have hl := lv_entry ([.ref (B + o)]) (n := 1) (Nat.le_of_ble_eq_true rfl)
  rw [lg_entry_eq]
  generalize (lg_sl ([.ref (B + o)]) ++ List.replicate (1 - (lg_sl ([.ref (B + o)])).length) Slot.unset).toArray = ls at hl ⊢
  have hl : lv_has ls 1 [(0, .ref (B + o))] := hl
  refine lv_aload_n hx hb dX1_init_0 rfl (lv_at hl 0 rfl) ?_
  refine W.objInit hx hb hown (hts _ oi_X1) (hts _ oi_inst) (hts _ oi_code) rfl (by rw [hml]; exact hl.1) rfl dX1_init_1 (Nat.le_of_ble_eq_true rfl) (Nat.le_of_ble_eq_true rfl) ?_
  refine lv_aload_n hx hb dX1_init_4 rfl (lv_at hl 0 rfl) ?_
  refine lv_bipush (v := 64) hx hb dX1_init_5 (by decide) ?_
  refine cx_newa (t := 0) (atype := .int) (N := 64) hx hb hts hK rfl (by decide) ac_0 (a0 := (64, .inl (fun _ => 0))) (fun _ => rfl) (by decide) (by decide) (Nat.le_of_ble_eq_true rfl) ho (r := .inr (1, [.null, .null, .null, .int 0, .int 0]) :: []) (nr := 1) rfl (r' := .inr (1, [.null, .null, .null, .int 0, .int 0]) :: ([] ++ [.inl (ca 0, 64, .inl (fun _ => 0))])) rfl hP hz hS (Nat.le_of_ble_eq_true rfl) (Nat.le_of_ble_eq_true rfl) dX1_init_7 (fun H hP hz hS => ?_)
  have hP : va_P D classes (wsB B (cs0 ++ (.inr (1, [.null, .null, .null, .int 0, .int 0]) :: [.inl (ca 0, 64, .inl (fun _ => 0))]))) H := hP
  refine cx_putF (v := .ref (B + (o + 1))) hx hb hts hown hK cf_1 fl_X1_11 (by decide) rfl hin rfl rfl rfl (Nat.le_of_ble_eq_true rfl) ho (fs' := [.ref (B + (o + 1)), .null, .null, .int 0, .int 0]) rfl (t := [.inl (ca 0, 64, .inl (fun _ => 0))]) (nr := 2) rfl hP hz hS dX1_init_9 (fun H locs hP hz hS => ?_)
  refine lv_aload_n hx hb dX1_init_12 rfl (lv_at hl 0 rfl) ?_
  refine lv_bipush (v := 64) hx hb dX1_init_13 (by decide) ?_
  refine cx_newa (t := 1) (atype := .long) (N := 64) hx hb hts hK rfl (by decide) ac_1 (a0 := (64, .inr (.inl (fun _ => 0)))) (fun _ => rfl) (by decide) (by decide) (Nat.le_of_ble_eq_true rfl) ho (r := .inr (1, [.ref (B + (o + 1)), .null, .null, .int 0, .int 0]) :: [.inl (ca 0, 64, .inl (fun _ => 0))]) (nr := 2) rfl (r' := .inr (1, [.ref (B + (o + 1)), .null, .null, .int 0, .int 0]) :: ([.inl (ca 0, 64, .inl (fun _ => 0))] ++ [.inl (ca 1, 64, .inr (.inl (fun _ => 0)))])) rfl hP hz hS (Nat.le_of_ble_eq_true rfl) (Nat.le_of_ble_eq_true rfl) dX1_init_15 (fun H hP hz hS => ?_)
  have hP : va_P D classes (wsB B (cs0 ++ (.inr (1, [.ref (B + (o + 1)), .null, .null, .int 0, .int 0]) :: ([.inl (ca 0, 64, .inl (fun _ => 0))] ++ [.inl (ca 1, 64, .inr (.inl (fun _ => 0)))])))) H := hP
  refine cx_putF (v := .ref (B + (o + 2))) hx hb hts hown hK cf_1 fl_X1_17 (by decide) rfl hin rfl rfl rfl (Nat.le_of_ble_eq_true rfl) ho (fs' := [.ref (B + (o + 1)), .ref (B + (o + 2)), .null, .int 0, .int 0]) rfl (t := ([.inl (ca 0, 64, .inl (fun _ => 0))] ++ [.inl (ca 1, 64, .inr (.inl (fun _ => 0)))])) (nr := 3) rfl hP hz hS dX1_init_17 (fun H locs hP hz hS => ?_)
  refine lv_aload_n hx hb dX1_init_20 rfl (lv_at hl 0 rfl) ?_
  refine lv_bipush (v := 6) hx hb dX1_init_21 (by decide) ?_
  refine cx_newa (t := 1) (atype := .long) (N := 6) hx hb hts hK rfl (by decide) ac_1 (a0 := (6, .inr (.inl (fun _ => 0)))) (fun _ => rfl) (by decide) (by decide) (Nat.le_of_ble_eq_true rfl) ho (r := .inr (1, [.ref (B + (o + 1)), .ref (B + (o + 2)), .null, .int 0, .int 0]) :: ([.inl (ca 0, 64, .inl (fun _ => 0))] ++ [.inl (ca 1, 64, .inr (.inl (fun _ => 0)))])) (nr := 3) rfl (r' := .inr (1, [.ref (B + (o + 1)), .ref (B + (o + 2)), .null, .int 0, .int 0]) :: (([.inl (ca 0, 64, .inl (fun _ => 0))] ++ [.inl (ca 1, 64, .inr (.inl (fun _ => 0)))]) ++ [.inl (ca 1, 6, .inr (.inl (fun _ => 0)))])) rfl hP hz hS (Nat.le_of_ble_eq_true rfl) (Nat.le_of_ble_eq_true rfl) dX1_init_23 (fun H hP hz hS => ?_)
  have hP : va_P D classes (wsB B (cs0 ++ (.inr (1, [.ref (B + (o + 1)), .ref (B + (o + 2)), .null, .int 0, .int 0]) :: (([.inl (ca 0, 64, .inl (fun _ => 0))] ++ [.inl (ca 1, 64, .inr (.inl (fun _ => 0)))]) ++ [.inl (ca 1, 6, .inr (.inl (fun _ => 0)))])))) H := hP
  refine cx_putF (v := .ref (B + (o + 3))) hx hb hts hown hK cf_1 fl_X1_21 (by decide) rfl hin rfl rfl rfl (Nat.le_of_ble_eq_true rfl) ho (fs' := [.ref (B + (o + 1)), .ref (B + (o + 2)), .ref (B + (o + 3)), .int 0, .int 0]) rfl (t := (([.inl (ca 0, 64, .inl (fun _ => 0))] ++ [.inl (ca 1, 64, .inr (.inl (fun _ => 0)))]) ++ [.inl (ca 1, 6, .inr (.inl (fun _ => 0)))])) (nr := 4) rfl hP hz hS dX1_init_25 (fun H locs hP hz hS => ?_)
  refine W.cs (cells' := 3) (slots' := 134) rfl rfl ?_
  exact W.vret hx hb hr (fun t ht hW => ⟨rfl, by rw [ht]; exact hP, by rw [ht, hz, List.length_append, ho]; rfl, hS.F ht⟩) hS.2.2 dX1_init_28 hlocks
theorem bl_1_len (ca : Nat → Nat) (B o : Nat) : (bl_1 ca B o).length = 4 := rfl
def bl_8 (ca : Nat → Nat) (B o : Nat) : List va_E := .inr (8, [.ref (B + (o + 1)), .ref (B + (o + 3)), .ref (B + (o + 5)), .ref (B + (o + 7)), .ref (B + (o + 9)), .ref (B + (o + 11)), .ref (B + (o + 13)), .ref (B + (o + 15)), .ref (B + (o + 19)), .int 5, .int 1, .int 0, .int 0]) :: (((((((((([] : List va_E) ++ (bl_6 ca B (o + 1) 2 6 12)) ++ (bl_6 ca B (o + 3) 4 9 36)) ++ (bl_6 ca B (o + 5) 3 4 12)) ++ (bl_6 ca B (o + 7) 6 13 78)) ++ (bl_6 ca B (o + 9) 4 16 64)) ++ (bl_6 ca B (o + 11) 4 6 24)) ++ (bl_6 ca B (o + 13) 4 4 16)) ++ (bl_1 ca B (o + 15))) ++ (bl_1 ca B (o + 19)))
set_option maxHeartbeats 4000000 in
set_option maxRecDepth 40000 in
theorem k_X8_init {D : va_G} {ca ad : Nat → Nat} {B : Nat} {l : Launch} {cs0 : List va_E} {o : Nat} (ho : cs0.length = o) : Mc D ca ad B l 2 22 548 yX8_init cX8_init 1 [.ref (B + o)] (cs0 ++ [.inr (8, [.null, .null, .null, .null, .null, .null, .null, .null, .null, .int 0, .int 0, .int 0, .int 0])]) (cs0 ++ bl_8 ca B o) := by
  refine Met.ofW (cc := cX8_init) (maxL := 1) (ret := none) (by decide +kernel) rfl ?_
  intro p e s m args below meth c s₁ Bd hml hv
  obtain ⟨rfl, hBs, hP, hz, hK⟩ := hv
  have hx := Bd.exec
  have hb := Bd.bytes
  have hr := Bd.returns
  have hts0 := atoms_spec (ws := Cond.code yX8_init cX8_init 1 none :: LT) Bd.pre
  have hts : ∀ w ∈ LT, w.before _ s = true := fun w hw => hts0 w (List.mem_cons_of_mem _ hw)
  have hown : s.vm.findClass RX8 = some m.cls := findClass_of_methodNamed Bd.named
  have hlocks := Bd.notSynchronized
  have hin : meth.name = "<init>" := (name_of_methodNamed Bd.named Bd.method).1
  have hS : va_S (fun q => B ≤ q) s.heap s.heap [] := va_S.rf
  have hz : s.heap.size = B + (o + 1) := by rw [hz, List.length_append, ho]; rfl
  have hl := lv_entry ([.ref (B + o)]) (n := 1) (Nat.le_of_ble_eq_true rfl)
  rw [lg_entry_eq]
  generalize (lg_sl ([.ref (B + o)]) ++ List.replicate (1 - (lg_sl ([.ref (B + o)])).length) Slot.unset).toArray = ls at hl ⊢
  have hl : lv_has ls 1 [(0, .ref (B + o))] := hl
  refine lv_aload_n hx hb dX8_init_0 rfl (lv_at hl 0 rfl) ?_
  refine W.objInit hx hb hown (hts _ oi_X8) (hts _ oi_inst) (hts _ oi_code) rfl (by rw [hml]; exact hl.1) rfl dX8_init_1 (Nat.le_of_ble_eq_true rfl) (Nat.le_of_ble_eq_true rfl) ?_
  refine lv_aload_n hx hb dX8_init_4 rfl (lv_at hl 0 rfl) ?_
  refine cx_new hx hb hts hown hK cf_6 cl_X8_9 in_6 ni_6 (fs := [.int 0, .int 0, .null, .int 0]) (by decide +kernel) ho (r := .inr (8, [.null, .null, .null, .null, .null, .null, .null, .null, .null, .int 0, .int 0, .int 0, .int 0]) :: ([] : List va_E)) (nr := 1) (by rw [List.length_cons, List.length_nil]) (r' := .inr (8, [.null, .null, .null, .null, .null, .null, .null, .null, .null, .int 0, .int 0, .int 0, .int 0]) :: (([] : List va_E) ++ [.inr (6, [.int 0, .int 0, .null, .int 0])])) rfl hP hz hS (Nat.le_of_ble_eq_true rfl) (Nat.le_of_ble_eq_true rfl) dX8_init_5 (fun H hP hz hS => ?_)
  refine lv_dup hx hb dX8_init_8 rfl ?_
  refine lv_iconst (v := 2) hx hb dX8_init_9 (by decide) ?_
  refine lv_bipush (v := 6) hx hb dX8_init_10 (by decide) ?_
  refine cw_call (as := [.int 2, .int 6]) (b := B + (o + 1)) (cs' := cs0 ++ ((.inr (8, [.null, .null, .null, .null, .null, .null, .null, .null, .null, .int 0, .int 0, .int 0, .int 0]) :: ([] : List va_E)) ++ bl_6 ca B (o + 1) 2 6 12)) hx hb hml hts hown hK mi_X6_init ml_X8_11 dX8_init_12 rfl hl.1 (Nat.le_of_ble_eq_true rfl) (Nat.le_of_ble_eq_true rfl) (by decide) (Nat.le_of_ble_eq_true rfl) (Nat.le_of_ble_eq_true rfl) (Nat.le_of_ble_eq_true rfl) (cx_cut (r0 := (.inr (8, [.null, .null, .null, .null, .null, .null, .null, .null, .null, .int 0, .int 0, .int 0, .int 0]) :: ([] : List va_E))) (Z := fun a b => Mc D ca ad B l 1 1 12 yX6_init cX6_init 3 (.ref (B + (o + 1)) :: [.int 2, .int 6]) a b) (k_X6_init (o := o + 1) (by rw [List.length_append, ho, List.length_cons, List.length_nil]) 2 6 12 (by decide) (by decide) (by decide))) hP (by rw [hz, List.length_append, ho, List.length_append, List.length_cons, List.length_nil]; rfl) hS (fun H locs hP hz hS => ?_)
  obtain ⟨t1, et1⟩ : ∃ z : List va_E, z = ([] : List va_E) ++ (bl_6 ca B (o + 1) 2 6 12) := ⟨_, rfl⟩
  have hP : va_P D classes (wsB B (cs0 ++ (.inr (8, [.null, .null, .null, .null, .null, .null, .null, .null, .null, .int 0, .int 0, .int 0, .int 0]) :: (([] : List va_E) ++ (bl_6 ca B (o + 1) 2 6 12))))) H := hP
  rw [← et1] at hP
  have lt1 : t1.length = 2 := by rw [et1, List.length_append, List.length_nil]; simp only [List.length_cons, List.length_append, List.length_nil, Nat.reduceAdd, Nat.zero_add, bl_6_len, bl_1_len]
  have hz : H.size = B + (o + 3) := by rw [hz, List.length_append, ho, List.length_append, List.length_cons, List.length_nil]; simp only [List.length_cons, List.length_append, List.length_nil, Nat.reduceAdd, Nat.zero_add, bl_6_len, bl_1_len]
  refine cx_putF (v := .ref (B + (o + 1))) hx hb hts hown hK cf_8 fl_X8_14 (by decide) rfl hin rfl rfl rfl (Nat.le_of_ble_eq_true rfl) ho (fs' := [.ref (B + (o + 1)), .null, .null, .null, .null, .null, .null, .null, .null, .int 0, .int 0, .int 0, .int 0]) rfl (t := t1) (nr := 3) (by rw [lt1]) hP hz hS dX8_init_15 (fun H locs hP hz hS => ?_)
  refine lv_aload_n hx hb dX8_init_18 rfl (lv_at hl 0 rfl) ?_
  refine cx_new hx hb hts hown hK cf_6 cl_X8_9 in_6 ni_6 (fs := [.int 0, .int 0, .null, .int 0]) (by decide +kernel) ho (r := .inr (8, [.ref (B + (o + 1)), .null, .null, .null, .null, .null, .null, .null, .null, .int 0, .int 0, .int 0, .int 0]) :: t1) (nr := 3) (by rw [List.length_cons, lt1]) (r' := .inr (8, [.ref (B + (o + 1)), .null, .null, .null, .null, .null, .null, .null, .null, .int 0, .int 0, .int 0, .int 0]) :: (t1 ++ [.inr (6, [.int 0, .int 0, .null, .int 0])])) rfl hP hz hS (Nat.le_of_ble_eq_true rfl) (Nat.le_of_ble_eq_true rfl) dX8_init_19 (fun H hP hz hS => ?_)
  refine lv_dup hx hb dX8_init_22 rfl ?_
  refine lv_iconst (v := 4) hx hb dX8_init_23 (by decide) ?_
  refine lv_bipush (v := 9) hx hb dX8_init_24 (by decide) ?_
  refine cw_call (as := [.int 4, .int 9]) (b := B + (o + 3)) (cs' := cs0 ++ ((.inr (8, [.ref (B + (o + 1)), .null, .null, .null, .null, .null, .null, .null, .null, .int 0, .int 0, .int 0, .int 0]) :: t1) ++ bl_6 ca B (o + 3) 4 9 36)) hx hb hml hts hown hK mi_X6_init ml_X8_11 dX8_init_26 rfl hl.1 (Nat.le_of_ble_eq_true rfl) (Nat.le_of_ble_eq_true rfl) (by decide) (Nat.le_of_ble_eq_true rfl) (Nat.le_of_ble_eq_true rfl) (Nat.le_of_ble_eq_true rfl) (cx_cut (r0 := (.inr (8, [.ref (B + (o + 1)), .null, .null, .null, .null, .null, .null, .null, .null, .int 0, .int 0, .int 0, .int 0]) :: t1)) (Z := fun a b => Mc D ca ad B l 1 1 36 yX6_init cX6_init 3 (.ref (B + (o + 3)) :: [.int 4, .int 9]) a b) (k_X6_init (o := o + 3) (by rw [List.length_append, ho, List.length_cons, lt1]) 4 9 36 (by decide) (by decide) (by decide))) hP (by rw [hz, List.length_append, ho, List.length_append, List.length_cons, lt1]; rfl) hS (fun H locs hP hz hS => ?_)
  obtain ⟨t2, et2⟩ : ∃ z : List va_E, z = t1 ++ (bl_6 ca B (o + 3) 4 9 36) := ⟨_, rfl⟩
  have hP : va_P D classes (wsB B (cs0 ++ (.inr (8, [.ref (B + (o + 1)), .null, .null, .null, .null, .null, .null, .null, .null, .int 0, .int 0, .int 0, .int 0]) :: (t1 ++ (bl_6 ca B (o + 3) 4 9 36))))) H := hP
  rw [← et2] at hP
  have lt2 : t2.length = 4 := by rw [et2, List.length_append, lt1]; simp only [List.length_cons, List.length_append, List.length_nil, Nat.reduceAdd, Nat.zero_add, bl_6_len, bl_1_len]
  have hz : H.size = B + (o + 5) := by rw [hz, List.length_append, ho, List.length_append, List.length_cons, lt1]; simp only [List.length_cons, List.length_append, List.length_nil, Nat.reduceAdd, Nat.zero_add, bl_6_len, bl_1_len]
  refine cx_putF (v := .ref (B + (o + 3))) hx hb hts hown hK cf_8 fl_X8_20 (by decide) rfl hin rfl rfl rfl (Nat.le_of_ble_eq_true rfl) ho (fs' := [.ref (B + (o + 1)), .ref (B + (o + 3)), .null, .null, .null, .null, .null, .null, .null, .int 0, .int 0, .int 0, .int 0]) rfl (t := t2) (nr := 5) (by rw [lt2]) hP hz hS dX8_init_29 (fun H locs hP hz hS => ?_)
  refine lv_aload_n hx hb dX8_init_32 rfl (lv_at hl 0 rfl) ?_
  refine cx_new hx hb hts hown hK cf_6 cl_X8_9 in_6 ni_6 (fs := [.int 0, .int 0, .null, .int 0]) (by decide +kernel) ho (r := .inr (8, [.ref (B + (o + 1)), .ref (B + (o + 3)), .null, .null, .null, .null, .null, .null, .null, .int 0, .int 0, .int 0, .int 0]) :: t2) (nr := 5) (by rw [List.length_cons, lt2]) (r' := .inr (8, [.ref (B + (o + 1)), .ref (B + (o + 3)), .null, .null, .null, .null, .null, .null, .null, .int 0, .int 0, .int 0, .int 0]) :: (t2 ++ [.inr (6, [.int 0, .int 0, .null, .int 0])])) rfl hP hz hS (Nat.le_of_ble_eq_true rfl) (Nat.le_of_ble_eq_true rfl) dX8_init_33 (fun H hP hz hS => ?_)
  refine lv_dup hx hb dX8_init_36 rfl ?_
  refine lv_iconst (v := 3) hx hb dX8_init_37 (by decide) ?_
  refine lv_iconst (v := 4) hx hb dX8_init_38 (by decide) ?_
  refine cw_call (as := [.int 3, .int 4]) (b := B + (o + 5)) (cs' := cs0 ++ ((.inr (8, [.ref (B + (o + 1)), .ref (B + (o + 3)), .null, .null, .null, .null, .null, .null, .null, .int 0, .int 0, .int 0, .int 0]) :: t2) ++ bl_6 ca B (o + 5) 3 4 12)) hx hb hml hts hown hK mi_X6_init ml_X8_11 dX8_init_39 rfl hl.1 (Nat.le_of_ble_eq_true rfl) (Nat.le_of_ble_eq_true rfl) (by decide) (Nat.le_of_ble_eq_true rfl) (Nat.le_of_ble_eq_true rfl) (Nat.le_of_ble_eq_true rfl) (cx_cut (r0 := (.inr (8, [.ref (B + (o + 1)), .ref (B + (o + 3)), .null, .null, .null, .null, .null, .null, .null, .int 0, .int 0, .int 0, .int 0]) :: t2)) (Z := fun a b => Mc D ca ad B l 1 1 12 yX6_init cX6_init 3 (.ref (B + (o + 5)) :: [.int 3, .int 4]) a b) (k_X6_init (o := o + 5) (by rw [List.length_append, ho, List.length_cons, lt2]) 3 4 12 (by decide) (by decide) (by decide))) hP (by rw [hz, List.length_append, ho, List.length_append, List.length_cons, lt2]; rfl) hS (fun H locs hP hz hS => ?_)
  obtain ⟨t3, et3⟩ : ∃ z : List va_E, z = t2 ++ (bl_6 ca B (o + 5) 3 4 12) := ⟨_, rfl⟩
  have hP : va_P D classes (wsB B (cs0 ++ (.inr (8, [.ref (B + (o + 1)), .ref (B + (o + 3)), .null, .null, .null, .null, .null, .null, .null, .int 0, .int 0, .int 0, .int 0]) :: (t2 ++ (bl_6 ca B (o + 5) 3 4 12))))) H := hP
  rw [← et3] at hP
  have lt3 : t3.length = 6 := by rw [et3, List.length_append, lt2]; simp only [List.length_cons, List.length_append, List.length_nil, Nat.reduceAdd, Nat.zero_add, bl_6_len, bl_1_len]
  have hz : H.size = B + (o + 7) := by rw [hz, List.length_append, ho, List.length_append, List.length_cons, lt2]; simp only [List.length_cons, List.length_append, List.length_nil, Nat.reduceAdd, Nat.zero_add, bl_6_len, bl_1_len]
  refine cx_putF (v := .ref (B + (o + 5))) hx hb hts hown hK cf_8 fl_X8_23 (by decide) rfl hin rfl rfl rfl (Nat.le_of_ble_eq_true rfl) ho (fs' := [.ref (B + (o + 1)), .ref (B + (o + 3)), .ref (B + (o + 5)), .null, .null, .null, .null, .null, .null, .int 0, .int 0, .int 0, .int 0]) rfl (t := t3) (nr := 7) (by rw [lt3]) hP hz hS dX8_init_42 (fun H locs hP hz hS => ?_)
  refine lv_aload_n hx hb dX8_init_45 rfl (lv_at hl 0 rfl) ?_
  refine cx_new hx hb hts hown hK cf_6 cl_X8_9 in_6 ni_6 (fs := [.int 0, .int 0, .null, .int 0]) (by decide +kernel) ho (r := .inr (8, [.ref (B + (o + 1)), .ref (B + (o + 3)), .ref (B + (o + 5)), .null, .null, .null, .null, .null, .null, .int 0, .int 0, .int 0, .int 0]) :: t3) (nr := 7) (by rw [List.length_cons, lt3]) (r' := .inr (8, [.ref (B + (o + 1)), .ref (B + (o + 3)), .ref (B + (o + 5)), .null, .null, .null, .null, .null, .null, .int 0, .int 0, .int 0, .int 0]) :: (t3 ++ [.inr (6, [.int 0, .int 0, .null, .int 0])])) rfl hP hz hS (Nat.le_of_ble_eq_true rfl) (Nat.le_of_ble_eq_true rfl) dX8_init_46 (fun H hP hz hS => ?_)
  refine lv_dup hx hb dX8_init_49 rfl ?_
  refine lv_bipush (v := 6) hx hb dX8_init_50 (by decide) ?_
  refine lv_bipush (v := 13) hx hb dX8_init_52 (by decide) ?_
  refine cw_call (as := [.int 6, .int 13]) (b := B + (o + 7)) (cs' := cs0 ++ ((.inr (8, [.ref (B + (o + 1)), .ref (B + (o + 3)), .ref (B + (o + 5)), .null, .null, .null, .null, .null, .null, .int 0, .int 0, .int 0, .int 0]) :: t3) ++ bl_6 ca B (o + 7) 6 13 78)) hx hb hml hts hown hK mi_X6_init ml_X8_11 dX8_init_54 rfl hl.1 (Nat.le_of_ble_eq_true rfl) (Nat.le_of_ble_eq_true rfl) (by decide) (Nat.le_of_ble_eq_true rfl) (Nat.le_of_ble_eq_true rfl) (Nat.le_of_ble_eq_true rfl) (cx_cut (r0 := (.inr (8, [.ref (B + (o + 1)), .ref (B + (o + 3)), .ref (B + (o + 5)), .null, .null, .null, .null, .null, .null, .int 0, .int 0, .int 0, .int 0]) :: t3)) (Z := fun a b => Mc D ca ad B l 1 1 78 yX6_init cX6_init 3 (.ref (B + (o + 7)) :: [.int 6, .int 13]) a b) (k_X6_init (o := o + 7) (by rw [List.length_append, ho, List.length_cons, lt3]) 6 13 78 (by decide) (by decide) (by decide))) hP (by rw [hz, List.length_append, ho, List.length_append, List.length_cons, lt3]; rfl) hS (fun H locs hP hz hS => ?_)
  obtain ⟨t4, et4⟩ : ∃ z : List va_E, z = t3 ++ (bl_6 ca B (o + 7) 6 13 78) := ⟨_, rfl⟩
  have hP : va_P D classes (wsB B (cs0 ++ (.inr (8, [.ref (B + (o + 1)), .ref (B + (o + 3)), .ref (B + (o + 5)), .null, .null, .null, .null, .null, .null, .int 0, .int 0, .int 0, .int 0]) :: (t3 ++ (bl_6 ca B (o + 7) 6 13 78))))) H := hP
  rw [← et4] at hP
  have lt4 : t4.length = 8 := by rw [et4, List.length_append, lt3]; simp only [List.length_cons, List.length_append, List.length_nil, Nat.reduceAdd, Nat.zero_add, bl_6_len, bl_1_len]
  have hz : H.size = B + (o + 9) := by rw [hz, List.length_append, ho, List.length_append, List.length_cons, lt3]; simp only [List.length_cons, List.length_append, List.length_nil, Nat.reduceAdd, Nat.zero_add, bl_6_len, bl_1_len]
  refine cx_putF (v := .ref (B + (o + 7))) hx hb hts hown hK cf_8 fl_X8_26 (by decide) rfl hin rfl rfl rfl (Nat.le_of_ble_eq_true rfl) ho (fs' := [.ref (B + (o + 1)), .ref (B + (o + 3)), .ref (B + (o + 5)), .ref (B + (o + 7)), .null, .null, .null, .null, .null, .int 0, .int 0, .int 0, .int 0]) rfl (t := t4) (nr := 9) (by rw [lt4]) hP hz hS dX8_init_57 (fun H locs hP hz hS => ?_)
  refine lv_aload_n hx hb dX8_init_60 rfl (lv_at hl 0 rfl) ?_
  refine cx_new hx hb hts hown hK cf_6 cl_X8_9 in_6 ni_6 (fs := [.int 0, .int 0, .null, .int 0]) (by decide +kernel) ho (r := .inr (8, [.ref (B + (o + 1)), .ref (B + (o + 3)), .ref (B + (o + 5)), .ref (B + (o + 7)), .null, .null, .null, .null, .null, .int 0, .int 0, .int 0, .int 0]) :: t4) (nr := 9) (by rw [List.length_cons, lt4]) (r' := .inr (8, [.ref (B + (o + 1)), .ref (B + (o + 3)), .ref (B + (o + 5)), .ref (B + (o + 7)), .null, .null, .null, .null, .null, .int 0, .int 0, .int 0, .int 0]) :: (t4 ++ [.inr (6, [.int 0, .int 0, .null, .int 0])])) rfl hP hz hS (Nat.le_of_ble_eq_true rfl) (Nat.le_of_ble_eq_true rfl) dX8_init_61 (fun H hP hz hS => ?_)
  refine lv_dup hx hb dX8_init_64 rfl ?_
  refine lv_iconst (v := 4) hx hb dX8_init_65 (by decide) ?_
  refine lv_bipush (v := 16) hx hb dX8_init_66 (by decide) ?_
  refine cw_call (as := [.int 4, .int 16]) (b := B + (o + 9)) (cs' := cs0 ++ ((.inr (8, [.ref (B + (o + 1)), .ref (B + (o + 3)), .ref (B + (o + 5)), .ref (B + (o + 7)), .null, .null, .null, .null, .null, .int 0, .int 0, .int 0, .int 0]) :: t4) ++ bl_6 ca B (o + 9) 4 16 64)) hx hb hml hts hown hK mi_X6_init ml_X8_11 dX8_init_68 rfl hl.1 (Nat.le_of_ble_eq_true rfl) (Nat.le_of_ble_eq_true rfl) (by decide) (Nat.le_of_ble_eq_true rfl) (Nat.le_of_ble_eq_true rfl) (Nat.le_of_ble_eq_true rfl) (cx_cut (r0 := (.inr (8, [.ref (B + (o + 1)), .ref (B + (o + 3)), .ref (B + (o + 5)), .ref (B + (o + 7)), .null, .null, .null, .null, .null, .int 0, .int 0, .int 0, .int 0]) :: t4)) (Z := fun a b => Mc D ca ad B l 1 1 64 yX6_init cX6_init 3 (.ref (B + (o + 9)) :: [.int 4, .int 16]) a b) (k_X6_init (o := o + 9) (by rw [List.length_append, ho, List.length_cons, lt4]) 4 16 64 (by decide) (by decide) (by decide))) hP (by rw [hz, List.length_append, ho, List.length_append, List.length_cons, lt4]; rfl) hS (fun H locs hP hz hS => ?_)
  obtain ⟨t5, et5⟩ : ∃ z : List va_E, z = t4 ++ (bl_6 ca B (o + 9) 4 16 64) := ⟨_, rfl⟩
  have hP : va_P D classes (wsB B (cs0 ++ (.inr (8, [.ref (B + (o + 1)), .ref (B + (o + 3)), .ref (B + (o + 5)), .ref (B + (o + 7)), .null, .null, .null, .null, .null, .int 0, .int 0, .int 0, .int 0]) :: (t4 ++ (bl_6 ca B (o + 9) 4 16 64))))) H := hP
  rw [← et5] at hP
  have lt5 : t5.length = 10 := by rw [et5, List.length_append, lt4]; simp only [List.length_cons, List.length_append, List.length_nil, Nat.reduceAdd, Nat.zero_add, bl_6_len, bl_1_len]
  have hz : H.size = B + (o + 11) := by rw [hz, List.length_append, ho, List.length_append, List.length_cons, lt4]; simp only [List.length_cons, List.length_append, List.length_nil, Nat.reduceAdd, Nat.zero_add, bl_6_len, bl_1_len]
  refine cx_putF (v := .ref (B + (o + 9))) hx hb hts hown hK cf_8 fl_X8_29 (by decide) rfl hin rfl rfl rfl (Nat.le_of_ble_eq_true rfl) ho (fs' := [.ref (B + (o + 1)), .ref (B + (o + 3)), .ref (B + (o + 5)), .ref (B + (o + 7)), .ref (B + (o + 9)), .null, .null, .null, .null, .int 0, .int 0, .int 0, .int 0]) rfl (t := t5) (nr := 11) (by rw [lt5]) hP hz hS dX8_init_71 (fun H locs hP hz hS => ?_)
  refine lv_aload_n hx hb dX8_init_74 rfl (lv_at hl 0 rfl) ?_
  refine cx_new hx hb hts hown hK cf_6 cl_X8_9 in_6 ni_6 (fs := [.int 0, .int 0, .null, .int 0]) (by decide +kernel) ho (r := .inr (8, [.ref (B + (o + 1)), .ref (B + (o + 3)), .ref (B + (o + 5)), .ref (B + (o + 7)), .ref (B + (o + 9)), .null, .null, .null, .null, .int 0, .int 0, .int 0, .int 0]) :: t5) (nr := 11) (by rw [List.length_cons, lt5]) (r' := .inr (8, [.ref (B + (o + 1)), .ref (B + (o + 3)), .ref (B + (o + 5)), .ref (B + (o + 7)), .ref (B + (o + 9)), .null, .null, .null, .null, .int 0, .int 0, .int 0, .int 0]) :: (t5 ++ [.inr (6, [.int 0, .int 0, .null, .int 0])])) rfl hP hz hS (Nat.le_of_ble_eq_true rfl) (Nat.le_of_ble_eq_true rfl) dX8_init_75 (fun H hP hz hS => ?_)
  refine lv_dup hx hb dX8_init_78 rfl ?_
  refine lv_iconst (v := 4) hx hb dX8_init_79 (by decide) ?_
  refine lv_bipush (v := 6) hx hb dX8_init_80 (by decide) ?_
  refine cw_call (as := [.int 4, .int 6]) (b := B + (o + 11)) (cs' := cs0 ++ ((.inr (8, [.ref (B + (o + 1)), .ref (B + (o + 3)), .ref (B + (o + 5)), .ref (B + (o + 7)), .ref (B + (o + 9)), .null, .null, .null, .null, .int 0, .int 0, .int 0, .int 0]) :: t5) ++ bl_6 ca B (o + 11) 4 6 24)) hx hb hml hts hown hK mi_X6_init ml_X8_11 dX8_init_82 rfl hl.1 (Nat.le_of_ble_eq_true rfl) (Nat.le_of_ble_eq_true rfl) (by decide) (Nat.le_of_ble_eq_true rfl) (Nat.le_of_ble_eq_true rfl) (Nat.le_of_ble_eq_true rfl) (cx_cut (r0 := (.inr (8, [.ref (B + (o + 1)), .ref (B + (o + 3)), .ref (B + (o + 5)), .ref (B + (o + 7)), .ref (B + (o + 9)), .null, .null, .null, .null, .int 0, .int 0, .int 0, .int 0]) :: t5)) (Z := fun a b => Mc D ca ad B l 1 1 24 yX6_init cX6_init 3 (.ref (B + (o + 11)) :: [.int 4, .int 6]) a b) (k_X6_init (o := o + 11) (by rw [List.length_append, ho, List.length_cons, lt5]) 4 6 24 (by decide) (by decide) (by decide))) hP (by rw [hz, List.length_append, ho, List.length_append, List.length_cons, lt5]; rfl) hS (fun H locs hP hz hS => ?_)
  obtain ⟨t6, et6⟩ : ∃ z : List va_E, z = t5 ++ (bl_6 ca B (o + 11) 4 6 24) := ⟨_, rfl⟩
  have hP : va_P D classes (wsB B (cs0 ++ (.inr (8, [.ref (B + (o + 1)), .ref (B + (o + 3)), .ref (B + (o + 5)), .ref (B + (o + 7)), .ref (B + (o + 9)), .null, .null, .null, .null, .int 0, .int 0, .int 0, .int 0]) :: (t5 ++ (bl_6 ca B (o + 11) 4 6 24))))) H := hP
  rw [← et6] at hP
  have lt6 : t6.length = 12 := by rw [et6, List.length_append, lt5]; simp only [List.length_cons, List.length_append, List.length_nil, Nat.reduceAdd, Nat.zero_add, bl_6_len, bl_1_len]
  have hz : H.size = B + (o + 13) := by rw [hz, List.length_append, ho, List.length_append, List.length_cons, lt5]; simp only [List.length_cons, List.length_append, List.length_nil, Nat.reduceAdd, Nat.zero_add, bl_6_len, bl_1_len]
  refine cx_putF (v := .ref (B + (o + 11))) hx hb hts hown hK cf_8 fl_X8_32 (by decide) rfl hin rfl rfl rfl (Nat.le_of_ble_eq_true rfl) ho (fs' := [.ref (B + (o + 1)), .ref (B + (o + 3)), .ref (B + (o + 5)), .ref (B + (o + 7)), .ref (B + (o + 9)), .ref (B + (o + 11)), .null, .null, .null, .int 0, .int 0, .int 0, .int 0]) rfl (t := t6) (nr := 13) (by rw [lt6]) hP hz hS dX8_init_85 (fun H locs hP hz hS => ?_)
  refine lv_aload_n hx hb dX8_init_88 rfl (lv_at hl 0 rfl) ?_
  refine cx_new hx hb hts hown hK cf_6 cl_X8_9 in_6 ni_6 (fs := [.int 0, .int 0, .null, .int 0]) (by decide +kernel) ho (r := .inr (8, [.ref (B + (o + 1)), .ref (B + (o + 3)), .ref (B + (o + 5)), .ref (B + (o + 7)), .ref (B + (o + 9)), .ref (B + (o + 11)), .null, .null, .null, .int 0, .int 0, .int 0, .int 0]) :: t6) (nr := 13) (by rw [List.length_cons, lt6]) (r' := .inr (8, [.ref (B + (o + 1)), .ref (B + (o + 3)), .ref (B + (o + 5)), .ref (B + (o + 7)), .ref (B + (o + 9)), .ref (B + (o + 11)), .null, .null, .null, .int 0, .int 0, .int 0, .int 0]) :: (t6 ++ [.inr (6, [.int 0, .int 0, .null, .int 0])])) rfl hP hz hS (Nat.le_of_ble_eq_true rfl) (Nat.le_of_ble_eq_true rfl) dX8_init_89 (fun H hP hz hS => ?_)
  refine lv_dup hx hb dX8_init_92 rfl ?_
  refine lv_iconst (v := 4) hx hb dX8_init_93 (by decide) ?_
  refine lv_iconst (v := 4) hx hb dX8_init_94 (by decide) ?_
  refine cw_call (as := [.int 4, .int 4]) (b := B + (o + 13)) (cs' := cs0 ++ ((.inr (8, [.ref (B + (o + 1)), .ref (B + (o + 3)), .ref (B + (o + 5)), .ref (B + (o + 7)), .ref (B + (o + 9)), .ref (B + (o + 11)), .null, .null, .null, .int 0, .int 0, .int 0, .int 0]) :: t6) ++ bl_6 ca B (o + 13) 4 4 16)) hx hb hml hts hown hK mi_X6_init ml_X8_11 dX8_init_95 rfl hl.1 (Nat.le_of_ble_eq_true rfl) (Nat.le_of_ble_eq_true rfl) (by decide) (Nat.le_of_ble_eq_true rfl) (Nat.le_of_ble_eq_true rfl) (Nat.le_of_ble_eq_true rfl) (cx_cut (r0 := (.inr (8, [.ref (B + (o + 1)), .ref (B + (o + 3)), .ref (B + (o + 5)), .ref (B + (o + 7)), .ref (B + (o + 9)), .ref (B + (o + 11)), .null, .null, .null, .int 0, .int 0, .int 0, .int 0]) :: t6)) (Z := fun a b => Mc D ca ad B l 1 1 16 yX6_init cX6_init 3 (.ref (B + (o + 13)) :: [.int 4, .int 4]) a b) (k_X6_init (o := o + 13) (by rw [List.length_append, ho, List.length_cons, lt6]) 4 4 16 (by decide) (by decide) (by decide))) hP (by rw [hz, List.length_append, ho, List.length_append, List.length_cons, lt6]; rfl) hS (fun H locs hP hz hS => ?_)
  obtain ⟨t7, et7⟩ : ∃ z : List va_E, z = t6 ++ (bl_6 ca B (o + 13) 4 4 16) := ⟨_, rfl⟩
  have hP : va_P D classes (wsB B (cs0 ++ (.inr (8, [.ref (B + (o + 1)), .ref (B + (o + 3)), .ref (B + (o + 5)), .ref (B + (o + 7)), .ref (B + (o + 9)), .ref (B + (o + 11)), .null, .null, .null, .int 0, .int 0, .int 0, .int 0]) :: (t6 ++ (bl_6 ca B (o + 13) 4 4 16))))) H := hP
  rw [← et7] at hP
  have lt7 : t7.length = 14 := by rw [et7, List.length_append, lt6]; simp only [List.length_cons, List.length_append, List.length_nil, Nat.reduceAdd, Nat.zero_add, bl_6_len, bl_1_len]
  have hz : H.size = B + (o + 15) := by rw [hz, List.length_append, ho, List.length_append, List.length_cons, lt6]; simp only [List.length_cons, List.length_append, List.length_nil, Nat.reduceAdd, Nat.zero_add, bl_6_len, bl_1_len]
  refine cx_putF (v := .ref (B + (o + 13))) hx hb hts hown hK cf_8 fl_X8_35 (by decide) rfl hin rfl rfl rfl (Nat.le_of_ble_eq_true rfl) ho (fs' := [.ref (B + (o + 1)), .ref (B + (o + 3)), .ref (B + (o + 5)), .ref (B + (o + 7)), .ref (B + (o + 9)), .ref (B + (o + 11)), .ref (B + (o + 13)), .null, .null, .int 0, .int 0, .int 0, .int 0]) rfl (t := t7) (nr := 15) (by rw [lt7]) hP hz hS dX8_init_98 (fun H locs hP hz hS => ?_)
  refine lv_aload_n hx hb dX8_init_101 rfl (lv_at hl 0 rfl) ?_
  refine cx_new hx hb hts hown hK cf_1 cl_X8_38 in_1 ni_1 (fs := [.null, .null, .null, .int 0, .int 0]) (by decide +kernel) ho (r := .inr (8, [.ref (B + (o + 1)), .ref (B + (o + 3)), .ref (B + (o + 5)), .ref (B + (o + 7)), .ref (B + (o + 9)), .ref (B + (o + 11)), .ref (B + (o + 13)), .null, .null, .int 0, .int 0, .int 0, .int 0]) :: t7) (nr := 15) (by rw [List.length_cons, lt7]) (r' := .inr (8, [.ref (B + (o + 1)), .ref (B + (o + 3)), .ref (B + (o + 5)), .ref (B + (o + 7)), .ref (B + (o + 9)), .ref (B + (o + 11)), .ref (B + (o + 13)), .null, .null, .int 0, .int 0, .int 0, .int 0]) :: (t7 ++ [.inr (1, [.null, .null, .null, .int 0, .int 0])])) rfl hP hz hS (Nat.le_of_ble_eq_true rfl) (Nat.le_of_ble_eq_true rfl) dX8_init_102 (fun H hP hz hS => ?_)
  refine lv_dup hx hb dX8_init_105 rfl ?_
  refine cw_callN (as := []) (b := B + (o + 15)) (cs' := cs0 ++ ((.inr (8, [.ref (B + (o + 1)), .ref (B + (o + 3)), .ref (B + (o + 5)), .ref (B + (o + 7)), .ref (B + (o + 9)), .ref (B + (o + 11)), .ref (B + (o + 13)), .null, .null, .int 0, .int 0, .int 0, .int 0]) :: t7) ++ bl_1 ca B (o + 15))) hx hb hml hts hown hK mi_X1_init ml_X8_40 dX8_init_106 rfl hl.1 (Nat.le_of_ble_eq_true rfl) (Nat.le_of_ble_eq_true rfl) (by decide) (Nat.le_of_ble_eq_true rfl) (Nat.le_of_ble_eq_true rfl) (Nat.le_of_ble_eq_true rfl) (cx_cut (r0 := (.inr (8, [.ref (B + (o + 1)), .ref (B + (o + 3)), .ref (B + (o + 5)), .ref (B + (o + 7)), .ref (B + (o + 9)), .ref (B + (o + 11)), .ref (B + (o + 13)), .null, .null, .int 0, .int 0, .int 0, .int 0]) :: t7)) (Z := fun a b => Mc D ca ad B l 1 3 134 yX1_init cX1_init 1 (.ref (B + (o + 15)) :: []) a b) (k_X1_init (o := o + 15) (by rw [List.length_append, ho, List.length_cons, lt7]))) hP (by rw [hz, List.length_append, ho, List.length_append, List.length_cons, lt7]; rfl) hS (fun H locs hP hz hS => ?_)
  obtain ⟨t8, et8⟩ : ∃ z : List va_E, z = t7 ++ (bl_1 ca B (o + 15)) := ⟨_, rfl⟩
  have hP : va_P D classes (wsB B (cs0 ++ (.inr (8, [.ref (B + (o + 1)), .ref (B + (o + 3)), .ref (B + (o + 5)), .ref (B + (o + 7)), .ref (B + (o + 9)), .ref (B + (o + 11)), .ref (B + (o + 13)), .null, .null, .int 0, .int 0, .int 0, .int 0]) :: (t7 ++ (bl_1 ca B (o + 15)))))) H := hP
  rw [← et8] at hP
  have lt8 : t8.length = 18 := by rw [et8, List.length_append, lt7]; simp only [List.length_cons, List.length_append, List.length_nil, Nat.reduceAdd, Nat.zero_add, bl_6_len, bl_1_len]
  have hz : H.size = B + (o + 19) := by rw [hz, List.length_append, ho, List.length_append, List.length_cons, lt7]; simp only [List.length_cons, List.length_append, List.length_nil, Nat.reduceAdd, Nat.zero_add, bl_6_len, bl_1_len]
  refine cx_putF (v := .ref (B + (o + 15))) hx hb hts hown hK cf_8 fl_X8_41 (by decide) rfl hin rfl rfl rfl (Nat.le_of_ble_eq_true rfl) ho (fs' := [.ref (B + (o + 1)), .ref (B + (o + 3)), .ref (B + (o + 5)), .ref (B + (o + 7)), .ref (B + (o + 9)), .ref (B + (o + 11)), .ref (B + (o + 13)), .ref (B + (o + 15)), .null, .int 0, .int 0, .int 0, .int 0]) rfl (t := t8) (nr := 19) (by rw [lt8]) hP hz hS dX8_init_109 (fun H locs hP hz hS => ?_)
  refine lv_aload_n hx hb dX8_init_112 rfl (lv_at hl 0 rfl) ?_
  refine cx_new hx hb hts hown hK cf_1 cl_X8_38 in_1 ni_1 (fs := [.null, .null, .null, .int 0, .int 0]) (by decide +kernel) ho (r := .inr (8, [.ref (B + (o + 1)), .ref (B + (o + 3)), .ref (B + (o + 5)), .ref (B + (o + 7)), .ref (B + (o + 9)), .ref (B + (o + 11)), .ref (B + (o + 13)), .ref (B + (o + 15)), .null, .int 0, .int 0, .int 0, .int 0]) :: t8) (nr := 19) (by rw [List.length_cons, lt8]) (r' := .inr (8, [.ref (B + (o + 1)), .ref (B + (o + 3)), .ref (B + (o + 5)), .ref (B + (o + 7)), .ref (B + (o + 9)), .ref (B + (o + 11)), .ref (B + (o + 13)), .ref (B + (o + 15)), .null, .int 0, .int 0, .int 0, .int 0]) :: (t8 ++ [.inr (1, [.null, .null, .null, .int 0, .int 0])])) rfl hP hz hS (Nat.le_of_ble_eq_true rfl) (Nat.le_of_ble_eq_true rfl) dX8_init_113 (fun H hP hz hS => ?_)
  refine lv_dup hx hb dX8_init_116 rfl ?_
  refine cw_callN (as := []) (b := B + (o + 19)) (cs' := cs0 ++ ((.inr (8, [.ref (B + (o + 1)), .ref (B + (o + 3)), .ref (B + (o + 5)), .ref (B + (o + 7)), .ref (B + (o + 9)), .ref (B + (o + 11)), .ref (B + (o + 13)), .ref (B + (o + 15)), .null, .int 0, .int 0, .int 0, .int 0]) :: t8) ++ bl_1 ca B (o + 19))) hx hb hml hts hown hK mi_X1_init ml_X8_40 dX8_init_117 rfl hl.1 (Nat.le_of_ble_eq_true rfl) (Nat.le_of_ble_eq_true rfl) (by decide) (Nat.le_of_ble_eq_true rfl) (Nat.le_of_ble_eq_true rfl) (Nat.le_of_ble_eq_true rfl) (cx_cut (r0 := (.inr (8, [.ref (B + (o + 1)), .ref (B + (o + 3)), .ref (B + (o + 5)), .ref (B + (o + 7)), .ref (B + (o + 9)), .ref (B + (o + 11)), .ref (B + (o + 13)), .ref (B + (o + 15)), .null, .int 0, .int 0, .int 0, .int 0]) :: t8)) (Z := fun a b => Mc D ca ad B l 1 3 134 yX1_init cX1_init 1 (.ref (B + (o + 19)) :: []) a b) (k_X1_init (o := o + 19) (by rw [List.length_append, ho, List.length_cons, lt8]))) hP (by rw [hz, List.length_append, ho, List.length_append, List.length_cons, lt8]; rfl) hS (fun H locs hP hz hS => ?_)
  obtain ⟨t9, et9⟩ : ∃ z : List va_E, z = t8 ++ (bl_1 ca B (o + 19)) := ⟨_, rfl⟩
  have hP : va_P D classes (wsB B (cs0 ++ (.inr (8, [.ref (B + (o + 1)), .ref (B + (o + 3)), .ref (B + (o + 5)), .ref (B + (o + 7)), .ref (B + (o + 9)), .ref (B + (o + 11)), .ref (B + (o + 13)), .ref (B + (o + 15)), .null, .int 0, .int 0, .int 0, .int 0]) :: (t8 ++ (bl_1 ca B (o + 19)))))) H := hP
  rw [← et9] at hP
  have lt9 : t9.length = 22 := by rw [et9, List.length_append, lt8]; simp only [List.length_cons, List.length_append, List.length_nil, Nat.reduceAdd, Nat.zero_add, bl_6_len, bl_1_len]
  have hz : H.size = B + (o + 23) := by rw [hz, List.length_append, ho, List.length_append, List.length_cons, lt8]; simp only [List.length_cons, List.length_append, List.length_nil, Nat.reduceAdd, Nat.zero_add, bl_6_len, bl_1_len]
  refine cx_putF (v := .ref (B + (o + 19))) hx hb hts hown hK cf_8 fl_X8_45 (by decide) rfl hin rfl rfl rfl (Nat.le_of_ble_eq_true rfl) ho (fs' := [.ref (B + (o + 1)), .ref (B + (o + 3)), .ref (B + (o + 5)), .ref (B + (o + 7)), .ref (B + (o + 9)), .ref (B + (o + 11)), .ref (B + (o + 13)), .ref (B + (o + 15)), .ref (B + (o + 19)), .int 0, .int 0, .int 0, .int 0]) rfl (t := t9) (nr := 23) (by rw [lt9]) hP hz hS dX8_init_120 (fun H locs hP hz hS => ?_)
  refine lv_aload_n hx hb dX8_init_123 rfl (lv_at hl 0 rfl) ?_
  refine lv_iconst (v := 5) hx hb dX8_init_124 (by decide) ?_
  refine cx_put (v := .int 5) hx hb hts hown hK cf_8 fl_X8_48 (by decide) rfl rfl rfl (Nat.le_of_ble_eq_true rfl) ho (fs' := [.ref (B + (o + 1)), .ref (B + (o + 3)), .ref (B + (o + 5)), .ref (B + (o + 7)), .ref (B + (o + 9)), .ref (B + (o + 11)), .ref (B + (o + 13)), .ref (B + (o + 15)), .ref (B + (o + 19)), .int 5, .int 0, .int 0, .int 0]) rfl (t := t9) (nr := 23) (by rw [lt9]) hP hz hS dX8_init_125 (fun H locs hP hz hS => ?_)
  refine lv_aload_n hx hb dX8_init_128 rfl (lv_at hl 0 rfl) ?_
  refine lv_iconst (v := 1) hx hb dX8_init_129 (by decide) ?_
  refine cx_put (v := .int 1) hx hb hts hown hK cf_8 fl_X8_52 (by decide) rfl rfl rfl (Nat.le_of_ble_eq_true rfl) ho (fs' := [.ref (B + (o + 1)), .ref (B + (o + 3)), .ref (B + (o + 5)), .ref (B + (o + 7)), .ref (B + (o + 9)), .ref (B + (o + 11)), .ref (B + (o + 13)), .ref (B + (o + 15)), .ref (B + (o + 19)), .int 5, .int 1, .int 0, .int 0]) rfl (t := t9) (nr := 23) (by rw [lt9]) hP hz hS dX8_init_130 (fun H locs hP hz hS => ?_)
  refine W.cs (cells' := 22) (slots' := 548) rfl rfl ?_
  have eb : bl_8 ca B o = .inr (8, [.ref (B + (o + 1)), .ref (B + (o + 3)), .ref (B + (o + 5)), .ref (B + (o + 7)), .ref (B + (o + 9)), .ref (B + (o + 11)), .ref (B + (o + 13)), .ref (B + (o + 15)), .ref (B + (o + 19)), .int 5, .int 1, .int 0, .int 0]) :: t9 := by unfold bl_8; rw [et9, et8, et7, et6, et5, et4, et3, et2, et1]
  exact W.vret hx hb hr (fun t ht hW => ⟨rfl, by rw [ht, eb]; exact hP, by rw [ht, hz, List.length_append, ho, eb, List.length_cons, lt9], hS.F ht⟩) hS.2.2 dX8_init_133 hlocks
theorem bl_8_len (ca : Nat → Nat) (B o : Nat) : (bl_8 ca B o).length = 23 := rfl
def bl_0 (ca : Nat → Nat) (B o : Nat) : List va_E := .inr (0, [.ref (B + (o + 1)), .ref (B + (o + 2)), .ref (B + (o + 3)), .ref (B + (o + 4)), .ref (B + (o + 5))]) :: (((((([] : List va_E) ++ [.inl (ca 0, 36, .inl (fun _ => 0))]) ++ [.inl (ca 1, 78, .inr (.inl (fun _ => 0)))]) ++ [.inl (ca 1, 6, .inr (.inl (fun _ => 0)))]) ++ [.inl (ca 0, 288, .inl (fun _ => 0))]) ++ [.inl (ca 0, 288, .inl (fun _ => 0))])
set_option maxHeartbeats 4000000 in
set_option maxRecDepth 40000 in
theorem k_X0_init {D : va_G} {ca ad : Nat → Nat} {B : Nat} {l : Launch} {cs0 : List va_E} {o : Nat} (ho : cs0.length = o) : Mc D ca ad B l 1 5 696 yX0_init cX0_init 1 [.ref (B + o)] (cs0 ++ [.inr (0, [.null, .null, .null, .null, .null])]) (cs0 ++ bl_0 ca B o) := by
  refine Met.ofW (cc := cX0_init) (maxL := 1) (ret := none) (by decide +kernel) rfl ?_
  intro p e s m args below meth c s₁ Bd hml hv
  obtain ⟨rfl, hBs, hP, hz, hK⟩ := hv
  have hx := Bd.exec
  have hb := Bd.bytes
  have hr := Bd.returns
  have hts0 := atoms_spec (ws := Cond.code yX0_init cX0_init 1 none :: LT) Bd.pre
  have hts : ∀ w ∈ LT, w.before _ s = true := fun w hw => hts0 w (List.mem_cons_of_mem _ hw)
  have hown : s.vm.findClass RX0 = some m.cls := findClass_of_methodNamed Bd.named
  have hlocks := Bd.notSynchronized
  have hin : meth.name = "<init>" := (name_of_methodNamed Bd.named Bd.method).1
  have hS : va_S (fun q => B ≤ q) s.heap s.heap [] := va_S.rf
  have hz : s.heap.size = B + (o + 1) := by rw [hz, List.length_append, ho]; rfl
  have hl := lv_entry ([.ref (B + o)]) (n := 1) (Nat.le_of_ble_eq_true rfl)
  rw [lg_entry_eq]
  generalize (lg_sl ([.ref (B + o)]) ++ List.replicate (1 - (lg_sl ([.ref (B + o)])).length) Slot.unset).toArray = ls at hl ⊢
  have hl : lv_has ls 1 [(0, .ref (B + o))] := hl
  refine lv_aload_n hx hb dX0_init_0 rfl (lv_at hl 0 rfl) ?_
  refine W.objInit hx hb hown (hts _ oi_X0) (hts _ oi_inst) (hts _ oi_code) rfl (by rw [hml]; exact hl.1) rfl dX0_init_1 (Nat.le_of_ble_eq_true rfl) (Nat.le_of_ble_eq_true rfl) ?_
  refine lv_aload_n hx hb dX0_init_4 rfl (lv_at hl 0 rfl) ?_
  refine lv_bipush (v := 36) hx hb dX0_init_5 (by decide) ?_
  refine cx_newa (t := 0) (atype := .int) (N := 36) hx hb hts hK rfl (by decide) ac_0 (a0 := (36, .inl (fun _ => 0))) (fun _ => rfl) (by decide) (by decide) (Nat.le_of_ble_eq_true rfl) ho (r := .inr (0, [.null, .null, .null, .null, .null]) :: ([] : List va_E)) (nr := 1) (by rw [List.length_cons, List.length_nil]) (r' := .inr (0, [.null, .null, .null, .null, .null]) :: (([] : List va_E) ++ [.inl (ca 0, 36, .inl (fun _ => 0))])) rfl hP hz hS (Nat.le_of_ble_eq_true rfl) (Nat.le_of_ble_eq_true rfl) dX0_init_7 (fun H hP hz hS => ?_)
  obtain ⟨t1, et1⟩ : ∃ z : List va_E, z = ([] : List va_E) ++ [.inl (ca 0, 36, .inl (fun _ => 0))] := ⟨_, rfl⟩
  have hP : va_P D classes (wsB B (cs0 ++ (.inr (0, [.null, .null, .null, .null, .null]) :: (([] : List va_E) ++ [.inl (ca 0, 36, .inl (fun _ => 0))])))) H := hP
  rw [← et1] at hP
  have lt1 : t1.length = 1 := by rw [et1, List.length_append, List.length_nil]; simp only [List.length_cons, List.length_append, List.length_nil, Nat.reduceAdd, Nat.zero_add, bl_6_len, bl_1_len, bl_8_len]
  refine cx_putF (v := .ref (B + (o + 1))) hx hb hts hown hK cf_0 fl_X0_9 (by decide) rfl hin rfl rfl rfl (Nat.le_of_ble_eq_true rfl) ho (fs' := [.ref (B + (o + 1)), .null, .null, .null, .null]) rfl (t := t1) (nr := 2) (by rw [lt1]) hP hz hS dX0_init_9 (fun H locs hP hz hS => ?_)
  refine lv_aload_n hx hb dX0_init_12 rfl (lv_at hl 0 rfl) ?_
  refine lv_bipush (v := 78) hx hb dX0_init_13 (by decide) ?_
  refine cx_newa (t := 1) (atype := .long) (N := 78) hx hb hts hK rfl (by decide) ac_1 (a0 := (78, .inr (.inl (fun _ => 0)))) (fun _ => rfl) (by decide) (by decide) (Nat.le_of_ble_eq_true rfl) ho (r := .inr (0, [.ref (B + (o + 1)), .null, .null, .null, .null]) :: t1) (nr := 2) (by rw [List.length_cons, lt1]) (r' := .inr (0, [.ref (B + (o + 1)), .null, .null, .null, .null]) :: (t1 ++ [.inl (ca 1, 78, .inr (.inl (fun _ => 0)))])) rfl hP hz hS (Nat.le_of_ble_eq_true rfl) (Nat.le_of_ble_eq_true rfl) dX0_init_15 (fun H hP hz hS => ?_)
  obtain ⟨t2, et2⟩ : ∃ z : List va_E, z = t1 ++ [.inl (ca 1, 78, .inr (.inl (fun _ => 0)))] := ⟨_, rfl⟩
  have hP : va_P D classes (wsB B (cs0 ++ (.inr (0, [.ref (B + (o + 1)), .null, .null, .null, .null]) :: (t1 ++ [.inl (ca 1, 78, .inr (.inl (fun _ => 0)))])))) H := hP
  rw [← et2] at hP
  have lt2 : t2.length = 2 := by rw [et2, List.length_append, lt1]; simp only [List.length_cons, List.length_append, List.length_nil, Nat.reduceAdd, Nat.zero_add, bl_6_len, bl_1_len, bl_8_len]
  refine cx_putF (v := .ref (B + (o + 2))) hx hb hts hown hK cf_0 fl_X0_15 (by decide) rfl hin rfl rfl rfl (Nat.le_of_ble_eq_true rfl) ho (fs' := [.ref (B + (o + 1)), .ref (B + (o + 2)), .null, .null, .null]) rfl (t := t2) (nr := 3) (by rw [lt2]) hP hz hS dX0_init_17 (fun H locs hP hz hS => ?_)
  refine lv_aload_n hx hb dX0_init_20 rfl (lv_at hl 0 rfl) ?_
  refine lv_bipush (v := 6) hx hb dX0_init_21 (by decide) ?_
  refine cx_newa (t := 1) (atype := .long) (N := 6) hx hb hts hK rfl (by decide) ac_1 (a0 := (6, .inr (.inl (fun _ => 0)))) (fun _ => rfl) (by decide) (by decide) (Nat.le_of_ble_eq_true rfl) ho (r := .inr (0, [.ref (B + (o + 1)), .ref (B + (o + 2)), .null, .null, .null]) :: t2) (nr := 3) (by rw [List.length_cons, lt2]) (r' := .inr (0, [.ref (B + (o + 1)), .ref (B + (o + 2)), .null, .null, .null]) :: (t2 ++ [.inl (ca 1, 6, .inr (.inl (fun _ => 0)))])) rfl hP hz hS (Nat.le_of_ble_eq_true rfl) (Nat.le_of_ble_eq_true rfl) dX0_init_23 (fun H hP hz hS => ?_)
  obtain ⟨t3, et3⟩ : ∃ z : List va_E, z = t2 ++ [.inl (ca 1, 6, .inr (.inl (fun _ => 0)))] := ⟨_, rfl⟩
  have hP : va_P D classes (wsB B (cs0 ++ (.inr (0, [.ref (B + (o + 1)), .ref (B + (o + 2)), .null, .null, .null]) :: (t2 ++ [.inl (ca 1, 6, .inr (.inl (fun _ => 0)))])))) H := hP
  rw [← et3] at hP
  have lt3 : t3.length = 3 := by rw [et3, List.length_append, lt2]; simp only [List.length_cons, List.length_append, List.length_nil, Nat.reduceAdd, Nat.zero_add, bl_6_len, bl_1_len, bl_8_len]
  refine cx_putF (v := .ref (B + (o + 3))) hx hb hts hown hK cf_0 fl_X0_19 (by decide) rfl hin rfl rfl rfl (Nat.le_of_ble_eq_true rfl) ho (fs' := [.ref (B + (o + 1)), .ref (B + (o + 2)), .ref (B + (o + 3)), .null, .null]) rfl (t := t3) (nr := 4) (by rw [lt3]) hP hz hS dX0_init_25 (fun H locs hP hz hS => ?_)
  refine lv_aload_n hx hb dX0_init_28 rfl (lv_at hl 0 rfl) ?_
  refine lv_sipush (v := 288) hx hb dX0_init_29 (by decide) ?_
  refine cx_newa (t := 0) (atype := .int) (N := 288) hx hb hts hK rfl (by decide) ac_0 (a0 := (288, .inl (fun _ => 0))) (fun _ => rfl) (by decide) (by decide) (Nat.le_of_ble_eq_true rfl) ho (r := .inr (0, [.ref (B + (o + 1)), .ref (B + (o + 2)), .ref (B + (o + 3)), .null, .null]) :: t3) (nr := 4) (by rw [List.length_cons, lt3]) (r' := .inr (0, [.ref (B + (o + 1)), .ref (B + (o + 2)), .ref (B + (o + 3)), .null, .null]) :: (t3 ++ [.inl (ca 0, 288, .inl (fun _ => 0))])) rfl hP hz hS (Nat.le_of_ble_eq_true rfl) (Nat.le_of_ble_eq_true rfl) dX0_init_32 (fun H hP hz hS => ?_)
  obtain ⟨t4, et4⟩ : ∃ z : List va_E, z = t3 ++ [.inl (ca 0, 288, .inl (fun _ => 0))] := ⟨_, rfl⟩
  have hP : va_P D classes (wsB B (cs0 ++ (.inr (0, [.ref (B + (o + 1)), .ref (B + (o + 2)), .ref (B + (o + 3)), .null, .null]) :: (t3 ++ [.inl (ca 0, 288, .inl (fun _ => 0))])))) H := hP
  rw [← et4] at hP
  have lt4 : t4.length = 4 := by rw [et4, List.length_append, lt3]; simp only [List.length_cons, List.length_append, List.length_nil, Nat.reduceAdd, Nat.zero_add, bl_6_len, bl_1_len, bl_8_len]
  refine cx_putF (v := .ref (B + (o + 4))) hx hb hts hown hK cf_0 fl_X0_22 (by decide) rfl hin rfl rfl rfl (Nat.le_of_ble_eq_true rfl) ho (fs' := [.ref (B + (o + 1)), .ref (B + (o + 2)), .ref (B + (o + 3)), .ref (B + (o + 4)), .null]) rfl (t := t4) (nr := 5) (by rw [lt4]) hP hz hS dX0_init_34 (fun H locs hP hz hS => ?_)
  refine lv_aload_n hx hb dX0_init_37 rfl (lv_at hl 0 rfl) ?_
  refine lv_sipush (v := 288) hx hb dX0_init_38 (by decide) ?_
  refine cx_newa (t := 0) (atype := .int) (N := 288) hx hb hts hK rfl (by decide) ac_0 (a0 := (288, .inl (fun _ => 0))) (fun _ => rfl) (by decide) (by decide) (Nat.le_of_ble_eq_true rfl) ho (r := .inr (0, [.ref (B + (o + 1)), .ref (B + (o + 2)), .ref (B + (o + 3)), .ref (B + (o + 4)), .null]) :: t4) (nr := 5) (by rw [List.length_cons, lt4]) (r' := .inr (0, [.ref (B + (o + 1)), .ref (B + (o + 2)), .ref (B + (o + 3)), .ref (B + (o + 4)), .null]) :: (t4 ++ [.inl (ca 0, 288, .inl (fun _ => 0))])) rfl hP hz hS (Nat.le_of_ble_eq_true rfl) (Nat.le_of_ble_eq_true rfl) dX0_init_41 (fun H hP hz hS => ?_)
  obtain ⟨t5, et5⟩ : ∃ z : List va_E, z = t4 ++ [.inl (ca 0, 288, .inl (fun _ => 0))] := ⟨_, rfl⟩
  have hP : va_P D classes (wsB B (cs0 ++ (.inr (0, [.ref (B + (o + 1)), .ref (B + (o + 2)), .ref (B + (o + 3)), .ref (B + (o + 4)), .null]) :: (t4 ++ [.inl (ca 0, 288, .inl (fun _ => 0))])))) H := hP
  rw [← et5] at hP
  have lt5 : t5.length = 5 := by rw [et5, List.length_append, lt4]; simp only [List.length_cons, List.length_append, List.length_nil, Nat.reduceAdd, Nat.zero_add, bl_6_len, bl_1_len, bl_8_len]
  refine cx_putF (v := .ref (B + (o + 5))) hx hb hts hown hK cf_0 fl_X0_25 (by decide) rfl hin rfl rfl rfl (Nat.le_of_ble_eq_true rfl) ho (fs' := [.ref (B + (o + 1)), .ref (B + (o + 2)), .ref (B + (o + 3)), .ref (B + (o + 4)), .ref (B + (o + 5))]) rfl (t := t5) (nr := 6) (by rw [lt5]) hP hz hS dX0_init_43 (fun H locs hP hz hS => ?_)
  refine W.cs (cells' := 5) (slots' := 696) rfl rfl ?_
  have eb : bl_0 ca B o = .inr (0, [.ref (B + (o + 1)), .ref (B + (o + 2)), .ref (B + (o + 3)), .ref (B + (o + 4)), .ref (B + (o + 5))]) :: t5 := by unfold bl_0; rw [et5, et4, et3, et2, et1]
  exact W.vret hx hb hr (fun t ht hW => ⟨rfl, by rw [ht, eb]; exact hP, by rw [ht, hz, List.length_append, ho, eb, List.length_cons, lt5], hS.F ht⟩) hS.2.2 dX0_init_46 hlocks
theorem bl_0_len (ca : Nat → Nat) (B o : Nat) : (bl_0 ca B o).length = 6 := rfl
def bl_3 (ca : Nat → Nat) (B o : Nat) : List va_E := .inr (3, [.ref (B + (o + 1)), .ref (B + (o + 3)), .ref (B + (o + 5)), .ref (B + (o + 6)), .ref (B + (o + 7)), .ref (B + (o + 8)), .ref (B + (o + 9))]) :: (((((((([] : List va_E) ++ (bl_6 ca B (o + 1) 4 144 576)) ++ (bl_6 ca B (o + 3) 6 144 864)) ++ [.inl (ca 0, 6, .inl (fun _ => 0))]) ++ [.inl (ca 0, 144, .inl (fun _ => 0))]) ++ [.inl (ca 0, 4, .inl (fun _ => 0))]) ++ [.inl (ca 0, 4, .inl (fun _ => 0))]) ++ [.inl (ca 0, 4, .inl (fun _ => 0))])
set_option maxHeartbeats 4000000 in
set_option maxRecDepth 40000 in
theorem k_X3_init {D : va_G} {ca ad : Nat → Nat} {B : Nat} {l : Launch} {cs0 : List va_E} {o : Nat} (ho : cs0.length = o) : Mc D ca ad B l 2 9 1610 yX3_init cX3_init 1 [.ref (B + o)] (cs0 ++ [.inr (3, [.null, .null, .null, .null, .null, .null, .null])]) (cs0 ++ bl_3 ca B o) := by
  refine Met.ofW (cc := cX3_init) (maxL := 1) (ret := none) (by decide +kernel) rfl ?_
  intro p e s m args below meth c s₁ Bd hml hv
  obtain ⟨rfl, hBs, hP, hz, hK⟩ := hv
  have hx := Bd.exec
  have hb := Bd.bytes
  have hr := Bd.returns
  have hts0 := atoms_spec (ws := Cond.code yX3_init cX3_init 1 none :: LT) Bd.pre
  have hts : ∀ w ∈ LT, w.before _ s = true := fun w hw => hts0 w (List.mem_cons_of_mem _ hw)
  have hown : s.vm.findClass RX3 = some m.cls := findClass_of_methodNamed Bd.named
  have hlocks := Bd.notSynchronized
  have hin : meth.name = "<init>" := (name_of_methodNamed Bd.named Bd.method).1
  have hS : va_S (fun q => B ≤ q) s.heap s.heap [] := va_S.rf
  have hz : s.heap.size = B + (o + 1) := by rw [hz, List.length_append, ho]; rfl
  have hl := lv_entry ([.ref (B + o)]) (n := 1) (Nat.le_of_ble_eq_true rfl)
  rw [lg_entry_eq]
  generalize (lg_sl ([.ref (B + o)]) ++ List.replicate (1 - (lg_sl ([.ref (B + o)])).length) Slot.unset).toArray = ls at hl ⊢
  have hl : lv_has ls 1 [(0, .ref (B + o))] := hl
  refine lv_aload_n hx hb dX3_init_0 rfl (lv_at hl 0 rfl) ?_
  refine W.objInit hx hb hown (hts _ oi_X3) (hts _ oi_inst) (hts _ oi_code) rfl (by rw [hml]; exact hl.1) rfl dX3_init_1 (Nat.le_of_ble_eq_true rfl) (Nat.le_of_ble_eq_true rfl) ?_
  refine lv_aload_n hx hb dX3_init_4 rfl (lv_at hl 0 rfl) ?_
  refine cx_new hx hb hts hown hK cf_6 cl_X3_9 in_6 ni_6 (fs := [.int 0, .int 0, .null, .int 0]) (by decide +kernel) ho (r := .inr (3, [.null, .null, .null, .null, .null, .null, .null]) :: ([] : List va_E)) (nr := 1) (by rw [List.length_cons, List.length_nil]) (r' := .inr (3, [.null, .null, .null, .null, .null, .null, .null]) :: (([] : List va_E) ++ [.inr (6, [.int 0, .int 0, .null, .int 0])])) rfl hP hz hS (Nat.le_of_ble_eq_true rfl) (Nat.le_of_ble_eq_true rfl) dX3_init_5 (fun H hP hz hS => ?_)
  refine lv_dup hx hb dX3_init_8 rfl ?_
  refine lv_iconst (v := 4) hx hb dX3_init_9 (by decide) ?_
  refine lv_sipush (v := 144) hx hb dX3_init_10 (by decide) ?_
  refine cw_call (as := [.int 4, .int 144]) (b := B + (o + 1)) (cs' := cs0 ++ ((.inr (3, [.null, .null, .null, .null, .null, .null, .null]) :: ([] : List va_E)) ++ bl_6 ca B (o + 1) 4 144 576)) hx hb hml hts hown hK mi_X6_init ml_X3_13 dX3_init_13 rfl hl.1 (Nat.le_of_ble_eq_true rfl) (Nat.le_of_ble_eq_true rfl) (by decide) (Nat.le_of_ble_eq_true rfl) (Nat.le_of_ble_eq_true rfl) (Nat.le_of_ble_eq_true rfl) (cx_cut (r0 := (.inr (3, [.null, .null, .null, .null, .null, .null, .null]) :: ([] : List va_E))) (Z := fun a b => Mc D ca ad B l 1 1 576 yX6_init cX6_init 3 (.ref (B + (o + 1)) :: [.int 4, .int 144]) a b) (k_X6_init (o := o + 1) (by rw [List.length_append, ho, List.length_cons, List.length_nil]) 4 144 576 (by decide) (by decide) (by decide))) hP (by rw [hz, List.length_append, ho, List.length_append, List.length_cons, List.length_nil]; rfl) hS (fun H locs hP hz hS => ?_)
  obtain ⟨t1, et1⟩ : ∃ z : List va_E, z = ([] : List va_E) ++ (bl_6 ca B (o + 1) 4 144 576) := ⟨_, rfl⟩
  have hP : va_P D classes (wsB B (cs0 ++ (.inr (3, [.null, .null, .null, .null, .null, .null, .null]) :: (([] : List va_E) ++ (bl_6 ca B (o + 1) 4 144 576))))) H := hP
  rw [← et1] at hP
  have lt1 : t1.length = 2 := by rw [et1, List.length_append, List.length_nil]; simp only [List.length_cons, List.length_append, List.length_nil, Nat.reduceAdd, Nat.zero_add, bl_6_len, bl_1_len, bl_8_len, bl_0_len]
  have hz : H.size = B + (o + 3) := by rw [hz, List.length_append, ho, List.length_append, List.length_cons, List.length_nil]; simp only [List.length_cons, List.length_append, List.length_nil, Nat.reduceAdd, Nat.zero_add, bl_6_len, bl_1_len, bl_8_len, bl_0_len]
  refine cx_putF (v := .ref (B + (o + 1))) hx hb hts hown hK cf_3 fl_X3_16 (by decide) rfl hin rfl rfl rfl (Nat.le_of_ble_eq_true rfl) ho (fs' := [.ref (B + (o + 1)), .null, .null, .null, .null, .null, .null]) rfl (t := t1) (nr := 3) (by rw [lt1]) hP hz hS dX3_init_16 (fun H locs hP hz hS => ?_)
  refine lv_aload_n hx hb dX3_init_19 rfl (lv_at hl 0 rfl) ?_
  refine cx_new hx hb hts hown hK cf_6 cl_X3_9 in_6 ni_6 (fs := [.int 0, .int 0, .null, .int 0]) (by decide +kernel) ho (r := .inr (3, [.ref (B + (o + 1)), .null, .null, .null, .null, .null, .null]) :: t1) (nr := 3) (by rw [List.length_cons, lt1]) (r' := .inr (3, [.ref (B + (o + 1)), .null, .null, .null, .null, .null, .null]) :: (t1 ++ [.inr (6, [.int 0, .int 0, .null, .int 0])])) rfl hP hz hS (Nat.le_of_ble_eq_true rfl) (Nat.le_of_ble_eq_true rfl) dX3_init_20 (fun H hP hz hS => ?_)
  refine lv_dup hx hb dX3_init_23 rfl ?_
  refine lv_bipush (v := 6) hx hb dX3_init_24 (by decide) ?_
  refine lv_sipush (v := 144) hx hb dX3_init_26 (by decide) ?_
  refine cw_call (as := [.int 6, .int 144]) (b := B + (o + 3)) (cs' := cs0 ++ ((.inr (3, [.ref (B + (o + 1)), .null, .null, .null, .null, .null, .null]) :: t1) ++ bl_6 ca B (o + 3) 6 144 864)) hx hb hml hts hown hK mi_X6_init ml_X3_13 dX3_init_29 rfl hl.1 (Nat.le_of_ble_eq_true rfl) (Nat.le_of_ble_eq_true rfl) (by decide) (Nat.le_of_ble_eq_true rfl) (Nat.le_of_ble_eq_true rfl) (Nat.le_of_ble_eq_true rfl) (cx_cut (r0 := (.inr (3, [.ref (B + (o + 1)), .null, .null, .null, .null, .null, .null]) :: t1)) (Z := fun a b => Mc D ca ad B l 1 1 864 yX6_init cX6_init 3 (.ref (B + (o + 3)) :: [.int 6, .int 144]) a b) (k_X6_init (o := o + 3) (by rw [List.length_append, ho, List.length_cons, lt1]) 6 144 864 (by decide) (by decide) (by decide))) hP (by rw [hz, List.length_append, ho, List.length_append, List.length_cons, lt1]; rfl) hS (fun H locs hP hz hS => ?_)
  obtain ⟨t2, et2⟩ : ∃ z : List va_E, z = t1 ++ (bl_6 ca B (o + 3) 6 144 864) := ⟨_, rfl⟩
  have hP : va_P D classes (wsB B (cs0 ++ (.inr (3, [.ref (B + (o + 1)), .null, .null, .null, .null, .null, .null]) :: (t1 ++ (bl_6 ca B (o + 3) 6 144 864))))) H := hP
  rw [← et2] at hP
  have lt2 : t2.length = 4 := by rw [et2, List.length_append, lt1]; simp only [List.length_cons, List.length_append, List.length_nil, Nat.reduceAdd, Nat.zero_add, bl_6_len, bl_1_len, bl_8_len, bl_0_len]
  have hz : H.size = B + (o + 5) := by rw [hz, List.length_append, ho, List.length_append, List.length_cons, lt1]; simp only [List.length_cons, List.length_append, List.length_nil, Nat.reduceAdd, Nat.zero_add, bl_6_len, bl_1_len, bl_8_len, bl_0_len]
  refine cx_putF (v := .ref (B + (o + 3))) hx hb hts hown hK cf_3 fl_X3_20 (by decide) rfl hin rfl rfl rfl (Nat.le_of_ble_eq_true rfl) ho (fs' := [.ref (B + (o + 1)), .ref (B + (o + 3)), .null, .null, .null, .null, .null]) rfl (t := t2) (nr := 5) (by rw [lt2]) hP hz hS dX3_init_32 (fun H locs hP hz hS => ?_)
  refine lv_aload_n hx hb dX3_init_35 rfl (lv_at hl 0 rfl) ?_
  refine lv_bipush (v := 6) hx hb dX3_init_36 (by decide) ?_
  refine cx_newa (t := 0) (atype := .int) (N := 6) hx hb hts hK rfl (by decide) ac_0 (a0 := (6, .inl (fun _ => 0))) (fun _ => rfl) (by decide) (by decide) (Nat.le_of_ble_eq_true rfl) ho (r := .inr (3, [.ref (B + (o + 1)), .ref (B + (o + 3)), .null, .null, .null, .null, .null]) :: t2) (nr := 5) (by rw [List.length_cons, lt2]) (r' := .inr (3, [.ref (B + (o + 1)), .ref (B + (o + 3)), .null, .null, .null, .null, .null]) :: (t2 ++ [.inl (ca 0, 6, .inl (fun _ => 0))])) rfl hP hz hS (Nat.le_of_ble_eq_true rfl) (Nat.le_of_ble_eq_true rfl) dX3_init_38 (fun H hP hz hS => ?_)
  obtain ⟨t3, et3⟩ : ∃ z : List va_E, z = t2 ++ [.inl (ca 0, 6, .inl (fun _ => 0))] := ⟨_, rfl⟩
  have hP : va_P D classes (wsB B (cs0 ++ (.inr (3, [.ref (B + (o + 1)), .ref (B + (o + 3)), .null, .null, .null, .null, .null]) :: (t2 ++ [.inl (ca 0, 6, .inl (fun _ => 0))])))) H := hP
  rw [← et3] at hP
  have lt3 : t3.length = 5 := by rw [et3, List.length_append, lt2]; simp only [List.length_cons, List.length_append, List.length_nil, Nat.reduceAdd, Nat.zero_add, bl_6_len, bl_1_len, bl_8_len, bl_0_len]
  refine cx_putF (v := .ref (B + (o + 5))) hx hb hts hown hK cf_3 fl_X3_23 (by decide) rfl hin rfl rfl rfl (Nat.le_of_ble_eq_true rfl) ho (fs' := [.ref (B + (o + 1)), .ref (B + (o + 3)), .ref (B + (o + 5)), .null, .null, .null, .null]) rfl (t := t3) (nr := 6) (by rw [lt3]) hP hz hS dX3_init_40 (fun H locs hP hz hS => ?_)
  refine lv_aload_n hx hb dX3_init_43 rfl (lv_at hl 0 rfl) ?_
  refine lv_sipush (v := 144) hx hb dX3_init_44 (by decide) ?_
  refine cx_newa (t := 0) (atype := .int) (N := 144) hx hb hts hK rfl (by decide) ac_0 (a0 := (144, .inl (fun _ => 0))) (fun _ => rfl) (by decide) (by decide) (Nat.le_of_ble_eq_true rfl) ho (r := .inr (3, [.ref (B + (o + 1)), .ref (B + (o + 3)), .ref (B + (o + 5)), .null, .null, .null, .null]) :: t3) (nr := 6) (by rw [List.length_cons, lt3]) (r' := .inr (3, [.ref (B + (o + 1)), .ref (B + (o + 3)), .ref (B + (o + 5)), .null, .null, .null, .null]) :: (t3 ++ [.inl (ca 0, 144, .inl (fun _ => 0))])) rfl hP hz hS (Nat.le_of_ble_eq_true rfl) (Nat.le_of_ble_eq_true rfl) dX3_init_47 (fun H hP hz hS => ?_)
  obtain ⟨t4, et4⟩ : ∃ z : List va_E, z = t3 ++ [.inl (ca 0, 144, .inl (fun _ => 0))] := ⟨_, rfl⟩
  have hP : va_P D classes (wsB B (cs0 ++ (.inr (3, [.ref (B + (o + 1)), .ref (B + (o + 3)), .ref (B + (o + 5)), .null, .null, .null, .null]) :: (t3 ++ [.inl (ca 0, 144, .inl (fun _ => 0))])))) H := hP
  rw [← et4] at hP
  have lt4 : t4.length = 6 := by rw [et4, List.length_append, lt3]; simp only [List.length_cons, List.length_append, List.length_nil, Nat.reduceAdd, Nat.zero_add, bl_6_len, bl_1_len, bl_8_len, bl_0_len]
  refine cx_putF (v := .ref (B + (o + 6))) hx hb hts hown hK cf_3 fl_X3_27 (by decide) rfl hin rfl rfl rfl (Nat.le_of_ble_eq_true rfl) ho (fs' := [.ref (B + (o + 1)), .ref (B + (o + 3)), .ref (B + (o + 5)), .ref (B + (o + 6)), .null, .null, .null]) rfl (t := t4) (nr := 7) (by rw [lt4]) hP hz hS dX3_init_49 (fun H locs hP hz hS => ?_)
  refine lv_aload_n hx hb dX3_init_52 rfl (lv_at hl 0 rfl) ?_
  refine lv_iconst (v := 4) hx hb dX3_init_53 (by decide) ?_
  refine cx_newa (t := 0) (atype := .int) (N := 4) hx hb hts hK rfl (by decide) ac_0 (a0 := (4, .inl (fun _ => 0))) (fun _ => rfl) (by decide) (by decide) (Nat.le_of_ble_eq_true rfl) ho (r := .inr (3, [.ref (B + (o + 1)), .ref (B + (o + 3)), .ref (B + (o + 5)), .ref (B + (o + 6)), .null, .null, .null]) :: t4) (nr := 7) (by rw [List.length_cons, lt4]) (r' := .inr (3, [.ref (B + (o + 1)), .ref (B + (o + 3)), .ref (B + (o + 5)), .ref (B + (o + 6)), .null, .null, .null]) :: (t4 ++ [.inl (ca 0, 4, .inl (fun _ => 0))])) rfl hP hz hS (Nat.le_of_ble_eq_true rfl) (Nat.le_of_ble_eq_true rfl) dX3_init_54 (fun H hP hz hS => ?_)
  obtain ⟨t5, et5⟩ : ∃ z : List va_E, z = t4 ++ [.inl (ca 0, 4, .inl (fun _ => 0))] := ⟨_, rfl⟩
  have hP : va_P D classes (wsB B (cs0 ++ (.inr (3, [.ref (B + (o + 1)), .ref (B + (o + 3)), .ref (B + (o + 5)), .ref (B + (o + 6)), .null, .null, .null]) :: (t4 ++ [.inl (ca 0, 4, .inl (fun _ => 0))])))) H := hP
  rw [← et5] at hP
  have lt5 : t5.length = 7 := by rw [et5, List.length_append, lt4]; simp only [List.length_cons, List.length_append, List.length_nil, Nat.reduceAdd, Nat.zero_add, bl_6_len, bl_1_len, bl_8_len, bl_0_len]
  refine cx_putF (v := .ref (B + (o + 7))) hx hb hts hown hK cf_3 fl_X3_30 (by decide) rfl hin rfl rfl rfl (Nat.le_of_ble_eq_true rfl) ho (fs' := [.ref (B + (o + 1)), .ref (B + (o + 3)), .ref (B + (o + 5)), .ref (B + (o + 6)), .ref (B + (o + 7)), .null, .null]) rfl (t := t5) (nr := 8) (by rw [lt5]) hP hz hS dX3_init_56 (fun H locs hP hz hS => ?_)
  refine lv_aload_n hx hb dX3_init_59 rfl (lv_at hl 0 rfl) ?_
  refine lv_iconst (v := 4) hx hb dX3_init_60 (by decide) ?_
  refine cx_newa (t := 0) (atype := .int) (N := 4) hx hb hts hK rfl (by decide) ac_0 (a0 := (4, .inl (fun _ => 0))) (fun _ => rfl) (by decide) (by decide) (Nat.le_of_ble_eq_true rfl) ho (r := .inr (3, [.ref (B + (o + 1)), .ref (B + (o + 3)), .ref (B + (o + 5)), .ref (B + (o + 6)), .ref (B + (o + 7)), .null, .null]) :: t5) (nr := 8) (by rw [List.length_cons, lt5]) (r' := .inr (3, [.ref (B + (o + 1)), .ref (B + (o + 3)), .ref (B + (o + 5)), .ref (B + (o + 6)), .ref (B + (o + 7)), .null, .null]) :: (t5 ++ [.inl (ca 0, 4, .inl (fun _ => 0))])) rfl hP hz hS (Nat.le_of_ble_eq_true rfl) (Nat.le_of_ble_eq_true rfl) dX3_init_61 (fun H hP hz hS => ?_)
  obtain ⟨t6, et6⟩ : ∃ z : List va_E, z = t5 ++ [.inl (ca 0, 4, .inl (fun _ => 0))] := ⟨_, rfl⟩
  have hP : va_P D classes (wsB B (cs0 ++ (.inr (3, [.ref (B + (o + 1)), .ref (B + (o + 3)), .ref (B + (o + 5)), .ref (B + (o + 6)), .ref (B + (o + 7)), .null, .null]) :: (t5 ++ [.inl (ca 0, 4, .inl (fun _ => 0))])))) H := hP
  rw [← et6] at hP
  have lt6 : t6.length = 8 := by rw [et6, List.length_append, lt5]; simp only [List.length_cons, List.length_append, List.length_nil, Nat.reduceAdd, Nat.zero_add, bl_6_len, bl_1_len, bl_8_len, bl_0_len]
  refine cx_putF (v := .ref (B + (o + 8))) hx hb hts hown hK cf_3 fl_X3_33 (by decide) rfl hin rfl rfl rfl (Nat.le_of_ble_eq_true rfl) ho (fs' := [.ref (B + (o + 1)), .ref (B + (o + 3)), .ref (B + (o + 5)), .ref (B + (o + 6)), .ref (B + (o + 7)), .ref (B + (o + 8)), .null]) rfl (t := t6) (nr := 9) (by rw [lt6]) hP hz hS dX3_init_63 (fun H locs hP hz hS => ?_)
  refine lv_aload_n hx hb dX3_init_66 rfl (lv_at hl 0 rfl) ?_
  refine lv_iconst (v := 4) hx hb dX3_init_67 (by decide) ?_
  refine cx_newa (t := 0) (atype := .int) (N := 4) hx hb hts hK rfl (by decide) ac_0 (a0 := (4, .inl (fun _ => 0))) (fun _ => rfl) (by decide) (by decide) (Nat.le_of_ble_eq_true rfl) ho (r := .inr (3, [.ref (B + (o + 1)), .ref (B + (o + 3)), .ref (B + (o + 5)), .ref (B + (o + 6)), .ref (B + (o + 7)), .ref (B + (o + 8)), .null]) :: t6) (nr := 9) (by rw [List.length_cons, lt6]) (r' := .inr (3, [.ref (B + (o + 1)), .ref (B + (o + 3)), .ref (B + (o + 5)), .ref (B + (o + 6)), .ref (B + (o + 7)), .ref (B + (o + 8)), .null]) :: (t6 ++ [.inl (ca 0, 4, .inl (fun _ => 0))])) rfl hP hz hS (Nat.le_of_ble_eq_true rfl) (Nat.le_of_ble_eq_true rfl) dX3_init_68 (fun H hP hz hS => ?_)
  obtain ⟨t7, et7⟩ : ∃ z : List va_E, z = t6 ++ [.inl (ca 0, 4, .inl (fun _ => 0))] := ⟨_, rfl⟩
  have hP : va_P D classes (wsB B (cs0 ++ (.inr (3, [.ref (B + (o + 1)), .ref (B + (o + 3)), .ref (B + (o + 5)), .ref (B + (o + 6)), .ref (B + (o + 7)), .ref (B + (o + 8)), .null]) :: (t6 ++ [.inl (ca 0, 4, .inl (fun _ => 0))])))) H := hP
  rw [← et7] at hP
  have lt7 : t7.length = 9 := by rw [et7, List.length_append, lt6]; simp only [List.length_cons, List.length_append, List.length_nil, Nat.reduceAdd, Nat.zero_add, bl_6_len, bl_1_len, bl_8_len, bl_0_len]
  refine cx_putF (v := .ref (B + (o + 9))) hx hb hts hown hK cf_3 fl_X3_36 (by decide) rfl hin rfl rfl rfl (Nat.le_of_ble_eq_true rfl) ho (fs' := [.ref (B + (o + 1)), .ref (B + (o + 3)), .ref (B + (o + 5)), .ref (B + (o + 6)), .ref (B + (o + 7)), .ref (B + (o + 8)), .ref (B + (o + 9))]) rfl (t := t7) (nr := 10) (by rw [lt7]) hP hz hS dX3_init_70 (fun H locs hP hz hS => ?_)
  refine W.cs (cells' := 9) (slots' := 1610) rfl rfl ?_
  have eb : bl_3 ca B o = .inr (3, [.ref (B + (o + 1)), .ref (B + (o + 3)), .ref (B + (o + 5)), .ref (B + (o + 6)), .ref (B + (o + 7)), .ref (B + (o + 8)), .ref (B + (o + 9))]) :: t7 := by unfold bl_3; rw [et7, et6, et5, et4, et3, et2, et1]
  exact W.vret hx hb hr (fun t ht hW => ⟨rfl, by rw [ht, eb]; exact hP, by rw [ht, hz, List.length_append, ho, eb, List.length_cons, lt7], hS.F ht⟩) hS.2.2 dX3_init_73 hlocks
theorem bl_3_len (ca : Nat → Nat) (B o : Nat) : (bl_3 ca B o).length = 10 := rfl
def bl_4 (ca : Nat → Nat) (B o : Nat) : List va_E := .inr (4, [.ref (B + (o + 1)), .ref (B + (o + 2)), .ref (B + (o + 3)), .ref (B + (o + 4)), .ref (B + (o + 5)), .ref (B + (o + 6)), .int 0]) :: ((((((([] : List va_E) ++ [.inl (ca 1, 4, .inr (.inl (fun _ => 0)))]) ++ [.inl (ca 1, 4, .inr (.inl (fun _ => 0)))]) ++ [.inl (ca 0, 4, .inl (fun _ => 0))]) ++ [.inl (ca 0, 4, .inl (fun _ => 0))]) ++ [.inl (ca 0, 4, .inl (fun _ => 0))]) ++ [.inl (ca 0, 4, .inl (fun _ => 0))])
set_option maxHeartbeats 4000000 in
set_option maxRecDepth 40000 in
theorem k_X4_init {D : va_G} {ca ad : Nat → Nat} {B : Nat} {l : Launch} {cs0 : List va_E} {o : Nat} (ho : cs0.length = o) : Mc D ca ad B l 1 6 24 yX4_init cX4_init 1 [.ref (B + o)] (cs0 ++ [.inr (4, [.null, .null, .null, .null, .null, .null, .int 0])]) (cs0 ++ bl_4 ca B o) := by
  refine Met.ofW (cc := cX4_init) (maxL := 1) (ret := none) (by decide +kernel) rfl ?_
  intro p e s m args below meth c s₁ Bd hml hv
  obtain ⟨rfl, hBs, hP, hz, hK⟩ := hv
  have hx := Bd.exec
  have hb := Bd.bytes
  have hr := Bd.returns
  have hts0 := atoms_spec (ws := Cond.code yX4_init cX4_init 1 none :: LT) Bd.pre
  have hts : ∀ w ∈ LT, w.before _ s = true := fun w hw => hts0 w (List.mem_cons_of_mem _ hw)
  have hown : s.vm.findClass RX4 = some m.cls := findClass_of_methodNamed Bd.named
  have hlocks := Bd.notSynchronized
  have hin : meth.name = "<init>" := (name_of_methodNamed Bd.named Bd.method).1
  have hS : va_S (fun q => B ≤ q) s.heap s.heap [] := va_S.rf
  have hz : s.heap.size = B + (o + 1) := by rw [hz, List.length_append, ho]; rfl
  have hl := lv_entry ([.ref (B + o)]) (n := 1) (Nat.le_of_ble_eq_true rfl)
  rw [lg_entry_eq]
  generalize (lg_sl ([.ref (B + o)]) ++ List.replicate (1 - (lg_sl ([.ref (B + o)])).length) Slot.unset).toArray = ls at hl ⊢
  have hl : lv_has ls 1 [(0, .ref (B + o))] := hl
  refine lv_aload_n hx hb dX4_init_0 rfl (lv_at hl 0 rfl) ?_
  refine W.objInit hx hb hown (hts _ oi_X4) (hts _ oi_inst) (hts _ oi_code) rfl (by rw [hml]; exact hl.1) rfl dX4_init_1 (Nat.le_of_ble_eq_true rfl) (Nat.le_of_ble_eq_true rfl) ?_
  refine lv_aload_n hx hb dX4_init_4 rfl (lv_at hl 0 rfl) ?_
  refine lv_iconst (v := 4) hx hb dX4_init_5 (by decide) ?_
  refine cx_newa (t := 1) (atype := .long) (N := 4) hx hb hts hK rfl (by decide) ac_1 (a0 := (4, .inr (.inl (fun _ => 0)))) (fun _ => rfl) (by decide) (by decide) (Nat.le_of_ble_eq_true rfl) ho (r := .inr (4, [.null, .null, .null, .null, .null, .null, .int 0]) :: ([] : List va_E)) (nr := 1) (by rw [List.length_cons, List.length_nil]) (r' := .inr (4, [.null, .null, .null, .null, .null, .null, .int 0]) :: (([] : List va_E) ++ [.inl (ca 1, 4, .inr (.inl (fun _ => 0)))])) rfl hP hz hS (Nat.le_of_ble_eq_true rfl) (Nat.le_of_ble_eq_true rfl) dX4_init_6 (fun H hP hz hS => ?_)
  obtain ⟨t1, et1⟩ : ∃ z : List va_E, z = ([] : List va_E) ++ [.inl (ca 1, 4, .inr (.inl (fun _ => 0)))] := ⟨_, rfl⟩
  have hP : va_P D classes (wsB B (cs0 ++ (.inr (4, [.null, .null, .null, .null, .null, .null, .int 0]) :: (([] : List va_E) ++ [.inl (ca 1, 4, .inr (.inl (fun _ => 0)))])))) H := hP
  rw [← et1] at hP
  have lt1 : t1.length = 1 := by rw [et1, List.length_append, List.length_nil]; simp only [List.length_cons, List.length_append, List.length_nil, Nat.reduceAdd, Nat.zero_add, bl_6_len, bl_1_len, bl_8_len, bl_0_len, bl_3_len]
  refine cx_putF (v := .ref (B + (o + 1))) hx hb hts hown hK cf_4 fl_X4_9 (by decide) rfl hin rfl rfl rfl (Nat.le_of_ble_eq_true rfl) ho (fs' := [.ref (B + (o + 1)), .null, .null, .null, .null, .null, .int 0]) rfl (t := t1) (nr := 2) (by rw [lt1]) hP hz hS dX4_init_8 (fun H locs hP hz hS => ?_)
  refine lv_aload_n hx hb dX4_init_11 rfl (lv_at hl 0 rfl) ?_
  refine lv_iconst (v := 4) hx hb dX4_init_12 (by decide) ?_
  refine cx_newa (t := 1) (atype := .long) (N := 4) hx hb hts hK rfl (by decide) ac_1 (a0 := (4, .inr (.inl (fun _ => 0)))) (fun _ => rfl) (by decide) (by decide) (Nat.le_of_ble_eq_true rfl) ho (r := .inr (4, [.ref (B + (o + 1)), .null, .null, .null, .null, .null, .int 0]) :: t1) (nr := 2) (by rw [List.length_cons, lt1]) (r' := .inr (4, [.ref (B + (o + 1)), .null, .null, .null, .null, .null, .int 0]) :: (t1 ++ [.inl (ca 1, 4, .inr (.inl (fun _ => 0)))])) rfl hP hz hS (Nat.le_of_ble_eq_true rfl) (Nat.le_of_ble_eq_true rfl) dX4_init_13 (fun H hP hz hS => ?_)
  obtain ⟨t2, et2⟩ : ∃ z : List va_E, z = t1 ++ [.inl (ca 1, 4, .inr (.inl (fun _ => 0)))] := ⟨_, rfl⟩
  have hP : va_P D classes (wsB B (cs0 ++ (.inr (4, [.ref (B + (o + 1)), .null, .null, .null, .null, .null, .int 0]) :: (t1 ++ [.inl (ca 1, 4, .inr (.inl (fun _ => 0)))])))) H := hP
  rw [← et2] at hP
  have lt2 : t2.length = 2 := by rw [et2, List.length_append, lt1]; simp only [List.length_cons, List.length_append, List.length_nil, Nat.reduceAdd, Nat.zero_add, bl_6_len, bl_1_len, bl_8_len, bl_0_len, bl_3_len]
  refine cx_putF (v := .ref (B + (o + 2))) hx hb hts hown hK cf_4 fl_X4_15 (by decide) rfl hin rfl rfl rfl (Nat.le_of_ble_eq_true rfl) ho (fs' := [.ref (B + (o + 1)), .ref (B + (o + 2)), .null, .null, .null, .null, .int 0]) rfl (t := t2) (nr := 3) (by rw [lt2]) hP hz hS dX4_init_15 (fun H locs hP hz hS => ?_)
  refine lv_aload_n hx hb dX4_init_18 rfl (lv_at hl 0 rfl) ?_
  refine lv_iconst (v := 4) hx hb dX4_init_19 (by decide) ?_
  refine cx_newa (t := 0) (atype := .int) (N := 4) hx hb hts hK rfl (by decide) ac_0 (a0 := (4, .inl (fun _ => 0))) (fun _ => rfl) (by decide) (by decide) (Nat.le_of_ble_eq_true rfl) ho (r := .inr (4, [.ref (B + (o + 1)), .ref (B + (o + 2)), .null, .null, .null, .null, .int 0]) :: t2) (nr := 3) (by rw [List.length_cons, lt2]) (r' := .inr (4, [.ref (B + (o + 1)), .ref (B + (o + 2)), .null, .null, .null, .null, .int 0]) :: (t2 ++ [.inl (ca 0, 4, .inl (fun _ => 0))])) rfl hP hz hS (Nat.le_of_ble_eq_true rfl) (Nat.le_of_ble_eq_true rfl) dX4_init_20 (fun H hP hz hS => ?_)
  obtain ⟨t3, et3⟩ : ∃ z : List va_E, z = t2 ++ [.inl (ca 0, 4, .inl (fun _ => 0))] := ⟨_, rfl⟩
  have hP : va_P D classes (wsB B (cs0 ++ (.inr (4, [.ref (B + (o + 1)), .ref (B + (o + 2)), .null, .null, .null, .null, .int 0]) :: (t2 ++ [.inl (ca 0, 4, .inl (fun _ => 0))])))) H := hP
  rw [← et3] at hP
  have lt3 : t3.length = 3 := by rw [et3, List.length_append, lt2]; simp only [List.length_cons, List.length_append, List.length_nil, Nat.reduceAdd, Nat.zero_add, bl_6_len, bl_1_len, bl_8_len, bl_0_len, bl_3_len]
  refine cx_putF (v := .ref (B + (o + 3))) hx hb hts hown hK cf_4 fl_X4_18 (by decide) rfl hin rfl rfl rfl (Nat.le_of_ble_eq_true rfl) ho (fs' := [.ref (B + (o + 1)), .ref (B + (o + 2)), .ref (B + (o + 3)), .null, .null, .null, .int 0]) rfl (t := t3) (nr := 4) (by rw [lt3]) hP hz hS dX4_init_22 (fun H locs hP hz hS => ?_)
  refine lv_aload_n hx hb dX4_init_25 rfl (lv_at hl 0 rfl) ?_
  refine lv_iconst (v := 4) hx hb dX4_init_26 (by decide) ?_
  refine cx_newa (t := 0) (atype := .int) (N := 4) hx hb hts hK rfl (by decide) ac_0 (a0 := (4, .inl (fun _ => 0))) (fun _ => rfl) (by decide) (by decide) (Nat.le_of_ble_eq_true rfl) ho (r := .inr (4, [.ref (B + (o + 1)), .ref (B + (o + 2)), .ref (B + (o + 3)), .null, .null, .null, .int 0]) :: t3) (nr := 4) (by rw [List.length_cons, lt3]) (r' := .inr (4, [.ref (B + (o + 1)), .ref (B + (o + 2)), .ref (B + (o + 3)), .null, .null, .null, .int 0]) :: (t3 ++ [.inl (ca 0, 4, .inl (fun _ => 0))])) rfl hP hz hS (Nat.le_of_ble_eq_true rfl) (Nat.le_of_ble_eq_true rfl) dX4_init_27 (fun H hP hz hS => ?_)
  obtain ⟨t4, et4⟩ : ∃ z : List va_E, z = t3 ++ [.inl (ca 0, 4, .inl (fun _ => 0))] := ⟨_, rfl⟩
  have hP : va_P D classes (wsB B (cs0 ++ (.inr (4, [.ref (B + (o + 1)), .ref (B + (o + 2)), .ref (B + (o + 3)), .null, .null, .null, .int 0]) :: (t3 ++ [.inl (ca 0, 4, .inl (fun _ => 0))])))) H := hP
  rw [← et4] at hP
  have lt4 : t4.length = 4 := by rw [et4, List.length_append, lt3]; simp only [List.length_cons, List.length_append, List.length_nil, Nat.reduceAdd, Nat.zero_add, bl_6_len, bl_1_len, bl_8_len, bl_0_len, bl_3_len]
  refine cx_putF (v := .ref (B + (o + 4))) hx hb hts hown hK cf_4 fl_X4_22 (by decide) rfl hin rfl rfl rfl (Nat.le_of_ble_eq_true rfl) ho (fs' := [.ref (B + (o + 1)), .ref (B + (o + 2)), .ref (B + (o + 3)), .ref (B + (o + 4)), .null, .null, .int 0]) rfl (t := t4) (nr := 5) (by rw [lt4]) hP hz hS dX4_init_29 (fun H locs hP hz hS => ?_)
  refine lv_aload_n hx hb dX4_init_32 rfl (lv_at hl 0 rfl) ?_
  refine lv_iconst (v := 4) hx hb dX4_init_33 (by decide) ?_
  refine cx_newa (t := 0) (atype := .int) (N := 4) hx hb hts hK rfl (by decide) ac_0 (a0 := (4, .inl (fun _ => 0))) (fun _ => rfl) (by decide) (by decide) (Nat.le_of_ble_eq_true rfl) ho (r := .inr (4, [.ref (B + (o + 1)), .ref (B + (o + 2)), .ref (B + (o + 3)), .ref (B + (o + 4)), .null, .null, .int 0]) :: t4) (nr := 5) (by rw [List.length_cons, lt4]) (r' := .inr (4, [.ref (B + (o + 1)), .ref (B + (o + 2)), .ref (B + (o + 3)), .ref (B + (o + 4)), .null, .null, .int 0]) :: (t4 ++ [.inl (ca 0, 4, .inl (fun _ => 0))])) rfl hP hz hS (Nat.le_of_ble_eq_true rfl) (Nat.le_of_ble_eq_true rfl) dX4_init_34 (fun H hP hz hS => ?_)
  obtain ⟨t5, et5⟩ : ∃ z : List va_E, z = t4 ++ [.inl (ca 0, 4, .inl (fun _ => 0))] := ⟨_, rfl⟩
  have hP : va_P D classes (wsB B (cs0 ++ (.inr (4, [.ref (B + (o + 1)), .ref (B + (o + 2)), .ref (B + (o + 3)), .ref (B + (o + 4)), .null, .null, .int 0]) :: (t4 ++ [.inl (ca 0, 4, .inl (fun _ => 0))])))) H := hP
  rw [← et5] at hP
  have lt5 : t5.length = 5 := by rw [et5, List.length_append, lt4]; simp only [List.length_cons, List.length_append, List.length_nil, Nat.reduceAdd, Nat.zero_add, bl_6_len, bl_1_len, bl_8_len, bl_0_len, bl_3_len]
  refine cx_putF (v := .ref (B + (o + 5))) hx hb hts hown hK cf_4 fl_X4_25 (by decide) rfl hin rfl rfl rfl (Nat.le_of_ble_eq_true rfl) ho (fs' := [.ref (B + (o + 1)), .ref (B + (o + 2)), .ref (B + (o + 3)), .ref (B + (o + 4)), .ref (B + (o + 5)), .null, .int 0]) rfl (t := t5) (nr := 6) (by rw [lt5]) hP hz hS dX4_init_36 (fun H locs hP hz hS => ?_)
  refine lv_aload_n hx hb dX4_init_39 rfl (lv_at hl 0 rfl) ?_
  refine lv_iconst (v := 4) hx hb dX4_init_40 (by decide) ?_
  refine cx_newa (t := 0) (atype := .int) (N := 4) hx hb hts hK rfl (by decide) ac_0 (a0 := (4, .inl (fun _ => 0))) (fun _ => rfl) (by decide) (by decide) (Nat.le_of_ble_eq_true rfl) ho (r := .inr (4, [.ref (B + (o + 1)), .ref (B + (o + 2)), .ref (B + (o + 3)), .ref (B + (o + 4)), .ref (B + (o + 5)), .null, .int 0]) :: t5) (nr := 6) (by rw [List.length_cons, lt5]) (r' := .inr (4, [.ref (B + (o + 1)), .ref (B + (o + 2)), .ref (B + (o + 3)), .ref (B + (o + 4)), .ref (B + (o + 5)), .null, .int 0]) :: (t5 ++ [.inl (ca 0, 4, .inl (fun _ => 0))])) rfl hP hz hS (Nat.le_of_ble_eq_true rfl) (Nat.le_of_ble_eq_true rfl) dX4_init_41 (fun H hP hz hS => ?_)
  obtain ⟨t6, et6⟩ : ∃ z : List va_E, z = t5 ++ [.inl (ca 0, 4, .inl (fun _ => 0))] := ⟨_, rfl⟩
  have hP : va_P D classes (wsB B (cs0 ++ (.inr (4, [.ref (B + (o + 1)), .ref (B + (o + 2)), .ref (B + (o + 3)), .ref (B + (o + 4)), .ref (B + (o + 5)), .null, .int 0]) :: (t5 ++ [.inl (ca 0, 4, .inl (fun _ => 0))])))) H := hP
  rw [← et6] at hP
  have lt6 : t6.length = 6 := by rw [et6, List.length_append, lt5]; simp only [List.length_cons, List.length_append, List.length_nil, Nat.reduceAdd, Nat.zero_add, bl_6_len, bl_1_len, bl_8_len, bl_0_len, bl_3_len]
  refine cx_putF (v := .ref (B + (o + 6))) hx hb hts hown hK cf_4 fl_X4_28 (by decide) rfl hin rfl rfl rfl (Nat.le_of_ble_eq_true rfl) ho (fs' := [.ref (B + (o + 1)), .ref (B + (o + 2)), .ref (B + (o + 3)), .ref (B + (o + 4)), .ref (B + (o + 5)), .ref (B + (o + 6)), .int 0]) rfl (t := t6) (nr := 7) (by rw [lt6]) hP hz hS dX4_init_43 (fun H locs hP hz hS => ?_)
  refine W.cs (cells' := 6) (slots' := 24) rfl rfl ?_
  have eb : bl_4 ca B o = .inr (4, [.ref (B + (o + 1)), .ref (B + (o + 2)), .ref (B + (o + 3)), .ref (B + (o + 4)), .ref (B + (o + 5)), .ref (B + (o + 6)), .int 0]) :: t6 := by unfold bl_4; rw [et6, et5, et4, et3, et2, et1]
  exact W.vret hx hb hr (fun t ht hW => ⟨rfl, by rw [ht, eb]; exact hP, by rw [ht, hz, List.length_append, ho, eb, List.length_cons, lt6], hS.F ht⟩) hS.2.2 dX4_init_46 hlocks
theorem bl_4_len (ca : Nat → Nat) (B o : Nat) : (bl_4 ca B o).length = 7 := rfl
def bl_2 (ca : Nat → Nat) (B o : Nat) : List va_E := .inr (2, [.ref (B + (o + 1)), .ref (B + (o + 3)), .ref (B + (o + 4)), .ref (B + (o + 5)), .int (-1), .int 0, .int 0, .int 0]) :: ((((([] : List va_E) ++ (bl_6 ca B (o + 1) 3 24 72)) ++ [.inl (ca 3, 24, .inl (fun _ => 0))]) ++ [.inl (ca 0, 48, .inl (fun _ => 0))]) ++ [.inl (ca 0, 48, .inl (fun _ => 0))])
set_option maxHeartbeats 4000000 in
set_option maxRecDepth 40000 in
theorem k_X2_init {D : va_G} {ca ad : Nat → Nat} {B : Nat} {l : Launch} {cs0 : List va_E} {o : Nat} (ho : cs0.length = o) : Mc D ca ad B l 2 5 196 yX2_init cX2_init 1 [.ref (B + o)] (cs0 ++ [.inr (2, [.null, .null, .null, .null, .int 0, .int 0, .int 0, .int 0])]) (cs0 ++ bl_2 ca B o) := by
  refine Met.ofW (cc := cX2_init) (maxL := 1) (ret := none) (by decide +kernel) rfl ?_
  intro p e s m args below meth c s₁ Bd hml hv
  obtain ⟨rfl, hBs, hP, hz, hK⟩ := hv
  have hx := Bd.exec
  have hb := Bd.bytes
  have hr := Bd.returns
  have hts0 := atoms_spec (ws := Cond.code yX2_init cX2_init 1 none :: LT) Bd.pre
  have hts : ∀ w ∈ LT, w.before _ s = true := fun w hw => hts0 w (List.mem_cons_of_mem _ hw)
  have hown : s.vm.findClass RX2 = some m.cls := findClass_of_methodNamed Bd.named
  have hlocks := Bd.notSynchronized
  have hin : meth.name = "<init>" := (name_of_methodNamed Bd.named Bd.method).1
  have hS : va_S (fun q => B ≤ q) s.heap s.heap [] := va_S.rf
  have hz : s.heap.size = B + (o + 1) := by rw [hz, List.length_append, ho]; rfl
  have hl := lv_entry ([.ref (B + o)]) (n := 1) (Nat.le_of_ble_eq_true rfl)
  rw [lg_entry_eq]
  generalize (lg_sl ([.ref (B + o)]) ++ List.replicate (1 - (lg_sl ([.ref (B + o)])).length) Slot.unset).toArray = ls at hl ⊢
  have hl : lv_has ls 1 [(0, .ref (B + o))] := hl
  refine lv_aload_n hx hb dX2_init_0 rfl (lv_at hl 0 rfl) ?_
  refine W.objInit hx hb hown (hts _ oi_X2) (hts _ oi_inst) (hts _ oi_code) rfl (by rw [hml]; exact hl.1) rfl dX2_init_1 (Nat.le_of_ble_eq_true rfl) (Nat.le_of_ble_eq_true rfl) ?_
  refine lv_aload_n hx hb dX2_init_4 rfl (lv_at hl 0 rfl) ?_
  refine cx_new hx hb hts hown hK cf_6 cl_X2_9 in_6 ni_6 (fs := [.int 0, .int 0, .null, .int 0]) (by decide +kernel) ho (r := .inr (2, [.null, .null, .null, .null, .int 0, .int 0, .int 0, .int 0]) :: ([] : List va_E)) (nr := 1) (by rw [List.length_cons, List.length_nil]) (r' := .inr (2, [.null, .null, .null, .null, .int 0, .int 0, .int 0, .int 0]) :: (([] : List va_E) ++ [.inr (6, [.int 0, .int 0, .null, .int 0])])) rfl hP hz hS (Nat.le_of_ble_eq_true rfl) (Nat.le_of_ble_eq_true rfl) dX2_init_5 (fun H hP hz hS => ?_)
  refine lv_dup hx hb dX2_init_8 rfl ?_
  refine lv_iconst (v := 3) hx hb dX2_init_9 (by decide) ?_
  refine lv_bipush (v := 24) hx hb dX2_init_10 (by decide) ?_
  refine cw_call (as := [.int 3, .int 24]) (b := B + (o + 1)) (cs' := cs0 ++ ((.inr (2, [.null, .null, .null, .null, .int 0, .int 0, .int 0, .int 0]) :: ([] : List va_E)) ++ bl_6 ca B (o + 1) 3 24 72)) hx hb hml hts hown hK mi_X6_init ml_X2_13 dX2_init_12 rfl hl.1 (Nat.le_of_ble_eq_true rfl) (Nat.le_of_ble_eq_true rfl) (by decide) (Nat.le_of_ble_eq_true rfl) (Nat.le_of_ble_eq_true rfl) (Nat.le_of_ble_eq_true rfl) (cx_cut (r0 := (.inr (2, [.null, .null, .null, .null, .int 0, .int 0, .int 0, .int 0]) :: ([] : List va_E))) (Z := fun a b => Mc D ca ad B l 1 1 72 yX6_init cX6_init 3 (.ref (B + (o + 1)) :: [.int 3, .int 24]) a b) (k_X6_init (o := o + 1) (by rw [List.length_append, ho, List.length_cons, List.length_nil]) 3 24 72 (by decide) (by decide) (by decide))) hP (by rw [hz, List.length_append, ho, List.length_append, List.length_cons, List.length_nil]; rfl) hS (fun H locs hP hz hS => ?_)
  obtain ⟨t1, et1⟩ : ∃ z : List va_E, z = ([] : List va_E) ++ (bl_6 ca B (o + 1) 3 24 72) := ⟨_, rfl⟩
  have hP : va_P D classes (wsB B (cs0 ++ (.inr (2, [.null, .null, .null, .null, .int 0, .int 0, .int 0, .int 0]) :: (([] : List va_E) ++ (bl_6 ca B (o + 1) 3 24 72))))) H := hP
  rw [← et1] at hP
  have lt1 : t1.length = 2 := by rw [et1, List.length_append, List.length_nil]; simp only [List.length_cons, List.length_append, List.length_nil, Nat.reduceAdd, Nat.zero_add, bl_6_len, bl_1_len, bl_8_len, bl_0_len, bl_3_len, bl_4_len]
  have hz : H.size = B + (o + 3) := by rw [hz, List.length_append, ho, List.length_append, List.length_cons, List.length_nil]; simp only [List.length_cons, List.length_append, List.length_nil, Nat.reduceAdd, Nat.zero_add, bl_6_len, bl_1_len, bl_8_len, bl_0_len, bl_3_len, bl_4_len]
  refine cx_putF (v := .ref (B + (o + 1))) hx hb hts hown hK cf_2 fl_X2_16 (by decide) rfl hin rfl rfl rfl (Nat.le_of_ble_eq_true rfl) ho (fs' := [.ref (B + (o + 1)), .null, .null, .null, .int 0, .int 0, .int 0, .int 0]) rfl (t := t1) (nr := 3) (by rw [lt1]) hP hz hS dX2_init_15 (fun H locs hP hz hS => ?_)
  refine lv_aload_n hx hb dX2_init_18 rfl (lv_at hl 0 rfl) ?_
  refine lv_bipush (v := 24) hx hb dX2_init_19 (by decide) ?_
  refine cx_newa (t := 3) (atype := .boolean) (N := 24) hx hb hts hK rfl (by decide) ac_3 (a0 := (24, .inl (fun _ => 0))) (fun _ => rfl) (by decide) (by decide) (Nat.le_of_ble_eq_true rfl) ho (r := .inr (2, [.ref (B + (o + 1)), .null, .null, .null, .int 0, .int 0, .int 0, .int 0]) :: t1) (nr := 3) (by rw [List.length_cons, lt1]) (r' := .inr (2, [.ref (B + (o + 1)), .null, .null, .null, .int 0, .int 0, .int 0, .int 0]) :: (t1 ++ [.inl (ca 3, 24, .inl (fun _ => 0))])) rfl hP hz hS (Nat.le_of_ble_eq_true rfl) (Nat.le_of_ble_eq_true rfl) dX2_init_21 (fun H hP hz hS => ?_)
  obtain ⟨t2, et2⟩ : ∃ z : List va_E, z = t1 ++ [.inl (ca 3, 24, .inl (fun _ => 0))] := ⟨_, rfl⟩
  have hP : va_P D classes (wsB B (cs0 ++ (.inr (2, [.ref (B + (o + 1)), .null, .null, .null, .int 0, .int 0, .int 0, .int 0]) :: (t1 ++ [.inl (ca 3, 24, .inl (fun _ => 0))])))) H := hP
  rw [← et2] at hP
  have lt2 : t2.length = 3 := by rw [et2, List.length_append, lt1]; simp only [List.length_cons, List.length_append, List.length_nil, Nat.reduceAdd, Nat.zero_add, bl_6_len, bl_1_len, bl_8_len, bl_0_len, bl_3_len, bl_4_len]
  refine cx_putF (v := .ref (B + (o + 3))) hx hb hts hown hK cf_2 fl_X2_20 (by decide) rfl hin rfl rfl rfl (Nat.le_of_ble_eq_true rfl) ho (fs' := [.ref (B + (o + 1)), .ref (B + (o + 3)), .null, .null, .int 0, .int 0, .int 0, .int 0]) rfl (t := t2) (nr := 4) (by rw [lt2]) hP hz hS dX2_init_23 (fun H locs hP hz hS => ?_)
  refine lv_aload_n hx hb dX2_init_26 rfl (lv_at hl 0 rfl) ?_
  refine lv_bipush (v := 48) hx hb dX2_init_27 (by decide) ?_
  refine cx_newa (t := 0) (atype := .int) (N := 48) hx hb hts hK rfl (by decide) ac_0 (a0 := (48, .inl (fun _ => 0))) (fun _ => rfl) (by decide) (by decide) (Nat.le_of_ble_eq_true rfl) ho (r := .inr (2, [.ref (B + (o + 1)), .ref (B + (o + 3)), .null, .null, .int 0, .int 0, .int 0, .int 0]) :: t2) (nr := 4) (by rw [List.length_cons, lt2]) (r' := .inr (2, [.ref (B + (o + 1)), .ref (B + (o + 3)), .null, .null, .int 0, .int 0, .int 0, .int 0]) :: (t2 ++ [.inl (ca 0, 48, .inl (fun _ => 0))])) rfl hP hz hS (Nat.le_of_ble_eq_true rfl) (Nat.le_of_ble_eq_true rfl) dX2_init_29 (fun H hP hz hS => ?_)
  obtain ⟨t3, et3⟩ : ∃ z : List va_E, z = t2 ++ [.inl (ca 0, 48, .inl (fun _ => 0))] := ⟨_, rfl⟩
  have hP : va_P D classes (wsB B (cs0 ++ (.inr (2, [.ref (B + (o + 1)), .ref (B + (o + 3)), .null, .null, .int 0, .int 0, .int 0, .int 0]) :: (t2 ++ [.inl (ca 0, 48, .inl (fun _ => 0))])))) H := hP
  rw [← et3] at hP
  have lt3 : t3.length = 4 := by rw [et3, List.length_append, lt2]; simp only [List.length_cons, List.length_append, List.length_nil, Nat.reduceAdd, Nat.zero_add, bl_6_len, bl_1_len, bl_8_len, bl_0_len, bl_3_len, bl_4_len]
  refine cx_putF (v := .ref (B + (o + 4))) hx hb hts hown hK cf_2 fl_X2_24 (by decide) rfl hin rfl rfl rfl (Nat.le_of_ble_eq_true rfl) ho (fs' := [.ref (B + (o + 1)), .ref (B + (o + 3)), .ref (B + (o + 4)), .null, .int 0, .int 0, .int 0, .int 0]) rfl (t := t3) (nr := 5) (by rw [lt3]) hP hz hS dX2_init_31 (fun H locs hP hz hS => ?_)
  refine lv_aload_n hx hb dX2_init_34 rfl (lv_at hl 0 rfl) ?_
  refine lv_bipush (v := 48) hx hb dX2_init_35 (by decide) ?_
  refine cx_newa (t := 0) (atype := .int) (N := 48) hx hb hts hK rfl (by decide) ac_0 (a0 := (48, .inl (fun _ => 0))) (fun _ => rfl) (by decide) (by decide) (Nat.le_of_ble_eq_true rfl) ho (r := .inr (2, [.ref (B + (o + 1)), .ref (B + (o + 3)), .ref (B + (o + 4)), .null, .int 0, .int 0, .int 0, .int 0]) :: t3) (nr := 5) (by rw [List.length_cons, lt3]) (r' := .inr (2, [.ref (B + (o + 1)), .ref (B + (o + 3)), .ref (B + (o + 4)), .null, .int 0, .int 0, .int 0, .int 0]) :: (t3 ++ [.inl (ca 0, 48, .inl (fun _ => 0))])) rfl hP hz hS (Nat.le_of_ble_eq_true rfl) (Nat.le_of_ble_eq_true rfl) dX2_init_37 (fun H hP hz hS => ?_)
  obtain ⟨t4, et4⟩ : ∃ z : List va_E, z = t3 ++ [.inl (ca 0, 48, .inl (fun _ => 0))] := ⟨_, rfl⟩
  have hP : va_P D classes (wsB B (cs0 ++ (.inr (2, [.ref (B + (o + 1)), .ref (B + (o + 3)), .ref (B + (o + 4)), .null, .int 0, .int 0, .int 0, .int 0]) :: (t3 ++ [.inl (ca 0, 48, .inl (fun _ => 0))])))) H := hP
  rw [← et4] at hP
  have lt4 : t4.length = 5 := by rw [et4, List.length_append, lt3]; simp only [List.length_cons, List.length_append, List.length_nil, Nat.reduceAdd, Nat.zero_add, bl_6_len, bl_1_len, bl_8_len, bl_0_len, bl_3_len, bl_4_len]
  refine cx_putF (v := .ref (B + (o + 5))) hx hb hts hown hK cf_2 fl_X2_28 (by decide) rfl hin rfl rfl rfl (Nat.le_of_ble_eq_true rfl) ho (fs' := [.ref (B + (o + 1)), .ref (B + (o + 3)), .ref (B + (o + 4)), .ref (B + (o + 5)), .int 0, .int 0, .int 0, .int 0]) rfl (t := t4) (nr := 6) (by rw [lt4]) hP hz hS dX2_init_39 (fun H locs hP hz hS => ?_)
  refine lv_aload_n hx hb dX2_init_42 rfl (lv_at hl 0 rfl) ?_
  refine lv_iconst (v := (-1)) hx hb dX2_init_43 (by decide) ?_
  refine cx_put (v := .int (-1)) hx hb hts hown hK cf_2 fl_X2_31 (by decide) rfl rfl rfl (Nat.le_of_ble_eq_true rfl) ho (fs' := [.ref (B + (o + 1)), .ref (B + (o + 3)), .ref (B + (o + 4)), .ref (B + (o + 5)), .int (-1), .int 0, .int 0, .int 0]) rfl (t := t4) (nr := 6) (by rw [lt4]) hP hz hS dX2_init_44 (fun H locs hP hz hS => ?_)
  refine W.cs (cells' := 5) (slots' := 196) rfl rfl ?_
  have eb : bl_2 ca B o = .inr (2, [.ref (B + (o + 1)), .ref (B + (o + 3)), .ref (B + (o + 4)), .ref (B + (o + 5)), .int (-1), .int 0, .int 0, .int 0]) :: t4 := by unfold bl_2; rw [et4, et3, et2, et1]
  exact W.vret hx hb hr (fun t ht hW => ⟨rfl, by rw [ht, eb]; exact hP, by rw [ht, hz, List.length_append, ho, eb, List.length_cons, lt4], hS.F ht⟩) hS.2.2 dX2_init_47 hlocks
theorem bl_2_len (ca : Nat → Nat) (B o : Nat) : (bl_2 ca B o).length = 6 := rfl
