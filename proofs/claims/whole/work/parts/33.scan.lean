def shS (i : Nat) : Nat ⊕ (Nat × Nat) := ([.inl 7, .inr (0, 24)] : List (Nat ⊕ (Nat × Nat))).getD i (.inl 99)
abbrev GS (D : va_G) (ca : Nat → ClassId) (ad : Nat → Nat) : Gt := (D, ca, ad, shS, 2)
def oS (i ci : Nat) : Prop := i < 2 ∧ shS i = .inl ci
def aS (i t n : Nat) : Prop := i < 2 ∧ shS i = .inr (t, n)
theorem oS_0 : oS 0 7 := ⟨by decide, rfl⟩
theorem aS_1 : aS 1 0 24 := ⟨by decide, rfl⟩
def w_X7_init_61 (Q : PH → Prop) (kb : Int32 → Int32 → Int32 → PH → Prop) (x1 : Int32) (x3 : Int32) (h : PH) : Prop :=
  ∀ (y10 : Int32), y10 = (x3 + 1) → kb (x1 + 1) y10 (x3 + 1) h
set_option maxRecDepth 8000 in
theorem b_X7_init_61 {D : va_G} {ca : Nat → ClassId} {ad : Nat → Nat} {K : Kt} {kb : Int32 → Int32 → Int32 → PH → Prop} {Q : PH → Prop} {x1 : Int32} {x3 : Int32} {h : PH} (C : CX (GS D ca ad) (XS (GS D ca ad)) cX7_init RX7 4 none 6 K) (hkb : ∀ (x1 : Int32) (x2 : Int32) (x3 : Int32) (h : PH), kb x1 x2 x3 h → PW (GS D ca ad) K 4 (qV Q) h 18 [some (.ref 0), some (.int x1), some (.int x2), some (.int x3)] []) (hw : w_X7_init_61 Q kb x1 x3 h) : PW (GS D ca ad) K 4 (qV Q) h 61 [some (.ref 0), some (.int x1), none, some (.int x3)] [] := by
  unfold w_X7_init_61 at hw
  refine PW.inc1 (v := 1) C dX7_init_61 (by decide) rfl (by decide) ?_
  refine PW.ild3n C dX7_init_64 ?_
  refine PW.iconst (v := 1) C dX7_init_65 (by decide) ?_
  refine PW.iadd C dX7_init_66 ?_
  replace hw := hw _ rfl
  refine PW.ist2n C dX7_init_67 (by decide) rfl ?_
  refine PW.goto (tgt := 103) C dX7_init_68 (by decide) ?_
  refine PW.inc3 (v := 1) C dX7_init_103 (by decide) rfl (by decide) ?_
  refine PW.goto (tgt := 18) C dX7_init_106 (by decide) ?_
  exact PW.wk (wk_s (wk_s (wk_s (wk_s wk_0)))) (hkb _ _ _ _ hw)
def w_X7_init_18 (k109 : PH → Prop) (Q : PH → Prop) (kb : Int32 → Int32 → Int32 → PH → Prop) (x1 : Int32) (x2 : Int32) (x3 : Int32) (h : PH) : Prop :=
  w_J0_length_8abf5 0 h (fun z2 h1 => if z2 ≤ x3 then (k109 h1) else (w_J0_charAt_5068e 0 x3 h1 (fun z4 h3 => if z4 = 32 then (if 24 ≤ x1 then (w_X7_init_61 Q kb x1 x3 h3) else (vp_in x1 24 ∧ vp_in x1 24 ∧ ∀ h13, h13 = sI h3 1 (iN x1) (((gI h3 1 (iN x1)) : Int32) <<< (((5 * (6 - (x3 - x2))) : Int32) &&& 31)) → w_X7_init_61 Q kb x1 x3 h13)) else (if 24 ≤ x1 then (kb x1 x2 (x3 + 1) h3) else (vp_in x1 24 ∧ w_J0_charAt_5068e 0 x3 h3 (fun z7 h6 => vp_in x1 24 ∧ ∀ h9, h9 = sI h6 1 (iN x1) ((((gI h3 1 (iN x1)) : Int32) <<< ((5 : Int32) &&& 31)) ||| ((z7 - 97) + 1)) → kb x1 x2 (x3 + 1) h9))))))
set_option maxRecDepth 8000 in
theorem b_X7_init_18 {D : va_G} {ca : Nat → ClassId} {ad : Nat → Nat} {K : Kt} {k109 : PH → Prop} {kb : Int32 → Int32 → Int32 → PH → Prop} {Q : PH → Prop} {x1 : Int32} {x2 : Int32} {x3 : Int32} {h : PH} (C : CX (GS D ca ad) (XS (GS D ca ad)) cX7_init RX7 4 none 6 K) (hk109 : ∀ (h : PH), k109 h → PW (GS D ca ad) K 4 (qV Q) h 109 [none, none, none, none] []) (hkb : ∀ (x1 : Int32) (x2 : Int32) (x3 : Int32) (h : PH), kb x1 x2 x3 h → PW (GS D ca ad) K 4 (qV Q) h 18 [some (.ref 0), some (.int x1), some (.int x2), some (.int x3)] []) (hw : w_X7_init_18 k109 Q kb x1 x2 x3 h) : PW (GS D ca ad) K 4 (qV Q) h 18 [some (.ref 0), some (.int x1), some (.int x2), some (.int x3)] [] := by
  unfold w_X7_init_18 at hw
  refine PW.ild3n C dX7_init_18 ?_
  refine PW.ldcS0 C dX7_init_19 ?_
  refine PW.callTI0 (b := 0) C ms_J0_length_8abf5 ml_X7_17 dX7_init_21 (by decide) rfl (Nat.le_of_ble_eq_true rfl) (by decide) (Nat.le_of_ble_eq_true rfl) (s_J0_length_8abf5 (by decide) hw) ?_
  clear hw
  intro z2 h1 hw
  refine PW.icmp_ge (tgt := 109) C dX7_init_24 (by decide) (fun c => ?_) (fun c => ?_)
  · rw [if_pos c] at hw
    exact PW.wk (wk_n (wk_n (wk_n (wk_n wk_0)))) (hk109 _ hw)
  · rw [if_neg c] at hw
    refine PW.ldcS0 C dX7_init_27 ?_
    refine PW.ild3n C dX7_init_29 ?_
    refine PW.callTI1 (b := 0) C ms_J0_charAt_5068e ml_X7_23 dX7_init_30 (by decide) rfl (Nat.le_of_ble_eq_true rfl) (by decide) (Nat.le_of_ble_eq_true rfl) (s_J0_charAt_5068e (by decide) hw) ?_
    clear hw
    intro z4 h3 hw
    refine PW.bipush (v := 32) C dX7_init_33 (by decide) ?_
    refine PW.icmp_ne (tgt := 71) C dX7_init_35 (by decide) (fun c => ?_) (fun c => ?_)
    · rw [if_neg c] at hw
      refine PW.ild1n C dX7_init_71 ?_
      refine PW.bipush (v := 24) C dX7_init_72 (by decide) ?_
      refine PW.icmp_ge (tgt := 103) C dX7_init_74 (by decide) (fun c => ?_) (fun c => ?_)
      · rw [if_pos c] at hw
        refine PW.inc3 (v := 1) C dX7_init_103 (by decide) rfl (by decide) ?_
        refine PW.goto (tgt := 18) C dX7_init_106 (by decide) ?_
        exact PW.wk (wk_s (wk_s (wk_s (wk_s wk_0)))) (hkb _ _ _ _ hw)
      · rw [if_neg c] at hw
        refine PW.ald0n C dX7_init_77 ?_
        refine PW.get0 (v := .ref 1) C cf_7 fl_X7_11 (by decide) oS_0 (fvR (o := 1) rfl) dX7_init_78 ?_
        refine PW.ild1n C dX7_init_81 ?_
        refine PW.ald0n C dX7_init_82 ?_
        refine PW.get0 (v := .ref 1) C cf_7 fl_X7_11 (by decide) oS_0 (fvR (o := 1) rfl) dX7_init_83 ?_
        refine PW.ild1n C dX7_init_86 ?_
        obtain ⟨hc5, hw⟩ := hw
        refine PW.iald C dX7_init_87 aS_1 hc5 ?_
        refine PW.iconst (v := 5) C dX7_init_88 (by decide) ?_
        refine PW.ishl C dX7_init_89 ?_
        refine PW.ldcS0 C dX7_init_90 ?_
        refine PW.ild3n C dX7_init_92 ?_
        refine PW.callTI1 (b := 0) C ms_J0_charAt_5068e ml_X7_23 dX7_init_93 (by decide) rfl (Nat.le_of_ble_eq_true rfl) (by decide) (Nat.le_of_ble_eq_true rfl) (s_J0_charAt_5068e (by decide) hw) ?_
        clear hw
        intro z7 h6 hw
        refine PW.bipush (v := 97) C dX7_init_96 (by decide) ?_
        refine PW.isub C dX7_init_98 ?_
        refine PW.iconst (v := 1) C dX7_init_99 (by decide) ?_
        refine PW.iadd C dX7_init_100 ?_
        refine PW.ior C dX7_init_101 ?_
        obtain ⟨hc8, hw⟩ := hw
        replace hw := hw _ rfl
        refine PW.iast C dX7_init_102 aS_1 hc8 ?_
        refine PW.inc3 (v := 1) C dX7_init_103 (by decide) rfl (by decide) ?_
        refine PW.goto (tgt := 18) C dX7_init_106 (by decide) ?_
        exact PW.wk (wk_s (wk_s (wk_s (wk_s wk_0)))) (hkb _ _ _ _ hw)
    · rw [if_pos c] at hw
      refine PW.ild1n C dX7_init_38 ?_
      refine PW.bipush (v := 24) C dX7_init_39 (by decide) ?_
      refine PW.icmp_ge (tgt := 61) C dX7_init_41 (by decide) (fun c => ?_) (fun c => ?_)
      · rw [if_pos c] at hw
        exact PW.wk (wk_s (wk_s (wk_n (wk_s wk_0)))) (b_X7_init_61 C hkb hw)
      · rw [if_neg c] at hw
        refine PW.ald0n C dX7_init_44 ?_
        refine PW.get0 (v := .ref 1) C cf_7 fl_X7_11 (by decide) oS_0 (fvR (o := 1) rfl) dX7_init_45 ?_
        refine PW.ild1n C dX7_init_48 ?_
        refine PW.dup2 C dX7_init_49 rfl rfl ?_
        obtain ⟨hc11, hw⟩ := hw
        refine PW.iald C dX7_init_50 aS_1 hc11 ?_
        refine PW.iconst (v := 5) C dX7_init_51 (by decide) ?_
        refine PW.bipush (v := 6) C dX7_init_52 (by decide) ?_
        refine PW.ild3n C dX7_init_54 ?_
        refine PW.ild2n C dX7_init_55 ?_
        refine PW.isub C dX7_init_56 ?_
        refine PW.isub C dX7_init_57 ?_
        refine PW.imul C dX7_init_58 ?_
        refine PW.ishl C dX7_init_59 ?_
        obtain ⟨hc12, hw⟩ := hw
        replace hw := hw _ rfl
        refine PW.iast C dX7_init_60 aS_1 hc12 ?_
        exact PW.wk (wk_s (wk_s (wk_n (wk_s wk_0)))) (b_X7_init_61 C hkb hw)
theorem l_X7_init_18 {D : va_G} {ca : Nat → ClassId} {ad : Nat → Nat} {K : Kt} {k109 : PH → Prop} {Q : PH → Prop} (C : CX (GS D ca ad) (XS (GS D ca ad)) cX7_init RX7 4 none 6 K) (hk109 : ∀ (h : PH), k109 h → PW (GS D ca ad) K 4 (qV Q) h 109 [none, none, none, none] []) : ∀ (n : Nat) (x1 : Int32) (x2 : Int32) (x3 : Int32) (h : PH), Lp3 (w_X7_init_18 k109 Q) n x1 x2 x3 h → PW (GS D ca ad) K 4 (qV Q) h 18 [some (.ref 0), some (.int x1), some (.int x2), some (.int x3)] [] := by
  intro n
  induction n with
  | zero => intro x1 x2 x3 h hw; exact hw.elim
  | succ n ih => intro x1 x2 x3 h hw; exact b_X7_init_18 C hk109 (fun x1 x2 x3 h hw => ih x1 x2 x3 h hw) hw
def w_X7_init (h : PH) (Q : PH → Prop) : Prop :=
  ∃ n, Lp3 (w_X7_init_18 (fun h14 => Q h14) Q) n 0 0 0 h
set_option maxRecDepth 8000 in
theorem b_X7_init {D : va_G} {ca : Nat → ClassId} {ad : Nat → Nat} {K : Kt} {h : PH} {Q : PH → Prop} (C : CX (GS D ca ad) (XS (GS D ca ad)) cX7_init RX7 4 none 6 K) (hw : w_X7_init h Q) : PW (GS D ca ad) K 4 (qV Q) h 12 [some (.ref 0), none, none, none] [] := by
  unfold w_X7_init at hw
  refine PW.iconst (v := 0) C dX7_init_12 (by decide) ?_
  refine PW.ist1n C dX7_init_13 (by decide) rfl ?_
  refine PW.iconst (v := 0) C dX7_init_14 (by decide) ?_
  refine PW.ist2n C dX7_init_15 (by decide) rfl ?_
  refine PW.iconst (v := 0) C dX7_init_16 (by decide) ?_
  refine PW.ist3n C dX7_init_17 (by decide) rfl ?_
  obtain ⟨n, hw⟩ := hw
  refine PW.wk (wk_s (wk_s (wk_s (wk_s wk_0)))) (l_X7_init_18 C ?_ n _ _ _ _ hw)
  · intro h14 hw
    exact PW.vret C dX7_init_109 ⟨rfl, hw⟩
theorem XSA.congr {ad ad' : Nat → Nat} {A : Nat → Prop} {U : State} (h : XSA ad A U) (e : ∀ i, 1000 ≤ i → ad' i = ad i) : XSA ad' A U := by
  unfold XSA at h ⊢
  have f1 : (fun i => ad' (1002 + i)) = (fun i => ad (1002 + i)) := funext fun i => e _ (by omega)
  have f2 : (fun i => ad' (1004 + i)) = (fun i => ad (1004 + i)) := funext fun i => e _ (by omega)
  rw [e 1000 (by decide), e 1001 (by decide), e 1002 (by decide), e 1003 (by decide), e 1006 (by decide), f1, f2]
  exact h
/-- a constructor's contract over its own cell alone gives the one over cells ahead -/
theorem Mc.frame {D : va_G} {ca ad : Nat → Nat} {B o : Nat} {l : Launch} {d mc ms : Nat} {y : MethodName} {cc : ByteArray} {mL : Nat} {as : List Value} {cs0 cs cs' : List va_E} (ho : cs0.length = o) (h : Mc D ca ad (B + o) l d mc ms y cc mL as cs cs') : Mc D ca ad B l d mc ms y cc mL as (cs0 ++ cs) (cs0 ++ cs') := by
  subst ho
  unfold Mc Met at h ⊢
  refine MetFree.mono h ?_ (fun _ _ _ _ _ q => q) ?_
  · intro a st hp
    obtain ⟨h1, h2, h3, h4, h5, h6, h7⟩ := hp
    rw [wsB_app] at h3
    refine ⟨h1, by rw [h4]; simp <;> omega, fun k q hk => h3 ((wsB B cs0).length + k) q (by rw [List.getElem?_append_right (by omega)]; simpa using hk), by rw [h4]; simp <;> omega, h5, h6, h7.narrow (fun q hq => ?_)⟩
    have : B + cs0.length ≤ q := hq
    show B ≤ q
    omega
  · intro a st o t hp hq
    obtain ⟨⟨h1, h2, h3, h4⟩, L, h5, h6⟩ := hq
    obtain ⟨g1, g2, g3, g4, g5⟩ := hp
    refine ⟨⟨h1, ?_, by rw [h3]; simp <;> omega, h4.1, fun q a1 a2 => h4.2 q a1 (fun z => a2 (by have : B + cs0.length ≤ q := z; show B ≤ q; omega))⟩, L, h5, fun q hq => by have : B + cs0.length ≤ q.base := h6 q hq; show B ≤ q.base; omega⟩
    rw [wsB_app] at g3 ⊢
    refine va_P.app (fun k q hk => ?_) h2
    have e1 := g3 k q (by rw [List.getElem?_append_left (List.getElem?_eq_some_iff.mp hk).1]; exact hk)
    have e2 : q.1 = B + k ∧ k < cs0.length := by
      rw [wsB_at] at hk
      cases hc : cs0[k]? with
      | none => rw [hc] at hk; cases hk
      | some e => rw [hc] at hk; cases hk; exact ⟨rfl, (List.getElem?_eq_some_iff.mp hc).1⟩
    exact e1.kept (h4.2 q.1 e1.lt (fun z => by have : B + cs0.length ≤ q.1 := z; omega))
theorem cell_congr {cA : ClassId} {n : Nat} {f g : Nat → Int32} (h : ∀ j, j < n → f j = g j) : vp_cell cA (n, .inl f) = vp_cell cA (n, .inl g) := by
  rw [vp_cell_i, vp_cell_i]
  unfold arrV
  have : (fun j : Fin n => Value.int (f j.val)) = (fun j : Fin n => Value.int (g j.val)) := funext fun j => by rw [h j.val j.isLt]
  rw [this]
def h00 : PH := (fun _ _ => 0, fun _ _ => 0, fun _ _ => 0)
def bl_7 (ca : Nat → Nat) (B o : Nat) (tg : Nat → Int32) : List va_E := [.inr (7, [.ref (B + (o + 1)), .null, .int 0, .int 0, .int 0, .int 0, .int 0]), .inl (ca 0, 24, .inl tg)]
def Tg (tg : Nat → Int32) : Prop := w_X7_init h00 (fun h => (∀ j, j < 24 → gI h 1 j = tg j) ∧ (∀ k, gI h 0 k = 0) ∧ (∀ k, gP h 0 k = 0))
set_option maxHeartbeats 4000000 in
set_option maxRecDepth 40000 in
theorem k0_X7_init {D : va_G} {ca ad : Nat → Nat} {B : Nat} {l : Launch} {tg : Nat → Int32} (htg : Tg tg) : Mc D ca ad B l 6 1 24 yX7_init cX7_init 4 [.ref (B + 0)] [.inr (7, [.null, .null, .int 0, .int 0, .int 0, .int 0, .int 0])] (bl_7 ca B 0 tg) := by
  refine Met.ofW (cc := cX7_init) (maxL := 4) (ret := none) (by decide +kernel) rfl ?_
  intro p e s m args below meth c s₁ Bd hml hv
  obtain ⟨rfl, hBs, hP, hz, hK⟩ := hv
  have hx := Bd.exec
  have hb := Bd.bytes
  have hr := Bd.returns
  have hts0 := atoms_spec (ws := Cond.code yX7_init cX7_init 4 none :: LT) Bd.pre
  have hts : ∀ w ∈ LT, w.before _ s = true := fun w hw => hts0 w (List.mem_cons_of_mem _ hw)
  have hown : s.vm.findClass RX7 = some m.cls := findClass_of_methodNamed Bd.named
  have hlocks := Bd.notSynchronized
  have hin : meth.name = "<init>" := (name_of_methodNamed Bd.named Bd.method).1
  have hS : va_S (fun q => B ≤ q) s.heap s.heap [] := va_S.rf
  have hsz : s.heap.size = B + 1 := hz
  have hz : s.heap.size = B + (0 + 1) := hz
  have ho : ([] : List va_E).length = 0 := rfl
  have hP : va_P D classes (wsB B ([] ++ ([.inr (7, [.null, .null, .int 0, .int 0, .int 0, .int 0, .int 0])] : List va_E))) s.heap := hP
  have hl := lv_entry ([.ref (B + 0)]) (n := 4) (Nat.le_of_ble_eq_true rfl)
  rw [lg_entry_eq]
  generalize (lg_sl ([.ref (B + 0)]) ++ List.replicate (4 - (lg_sl ([.ref (B + 0)])).length) Slot.unset).toArray = ls at hl ⊢
  have hl : lv_has ls 4 [(0, .ref (B + 0))] := hl
  refine lv_aload_n hx hb dX7_init_0 rfl (lv_at hl 0 rfl) ?_
  refine W.objInit hx hb hown (hts _ oi_X7) (hts _ oi_inst) (hts _ oi_code) rfl (by rw [hml]; exact hl.1) rfl dX7_init_1 (Nat.le_of_ble_eq_true rfl) (Nat.le_of_ble_eq_true rfl) ?_
  refine lv_aload_n hx hb dX7_init_4 rfl (lv_at hl 0 rfl) ?_
  refine lv_bipush (v := 24) hx hb dX7_init_5 (by decide) ?_
  refine cx_newa (t := 0) (atype := .int) (N := 24) hx hb hts hK rfl (by decide) ac_0 (a0 := (24, .inl (fun _ => 0))) (fun _ => rfl) (by decide) (by decide) (Nat.le_of_ble_eq_true rfl) ho (r := [.inr (7, [.null, .null, .int 0, .int 0, .int 0, .int 0, .int 0])]) (nr := 1) rfl (r' := .inr (7, [.null, .null, .int 0, .int 0, .int 0, .int 0, .int 0]) :: [.inl (ca 0, 24, .inl (fun _ => 0))]) rfl hP hz hS (Nat.le_of_ble_eq_true rfl) (Nat.le_of_ble_eq_true rfl) dX7_init_7 (fun H hP hz hS => ?_)
  refine cw_putF1 (i := 0) (v := .ref (B + (0 + 1))) (cs := [.inr (7, [.null, .null, .int 0, .int 0, .int 0, .int 0, .int 0]), .inl (ca 0, 24, .inl (fun _ => 0))]) hx hb hts hown hK cf_7 fl_X7_11 (by decide) rfl hin rfl rfl rfl rfl (Nat.le_of_ble_eq_true rfl) hP hz hS dX7_init_9 (fun H sl hP hz hS => ?_)
  have hP : va_P D classes (wsB B [.inr (7, [.ref (B + (0 + 1)), .null, .int 0, .int 0, .int 0, .int 0, .int 0]), .inl (ca 0, 24, .inl (fun _ => 0))]) H := hP
  generalize hlc : ([] : List Loc) ++ [⟨B + 0, sl⟩] = locs at hS ⊢
  -- from here on over the pure heap
  obtain ⟨ad', had⟩ : ∃ ad' : Nat → Nat, ad' = fun i => if i < 2 then B + i else ad i := ⟨_, rfl⟩
  have hw : ∀ q, Aw (GS D ca ad') q → B ≤ q := by
    rintro q ⟨i, hi, rfl⟩
    have hi' : i < 2 := hi
    show B ≤ ad' i
    rw [had]; simp only [hi', if_true]; omega
  have hXS : XS (GS D ca ad') s := XSA.congr (hK.2.2.narrow hw) (fun i hi => by rw [had]; show (if i < 2 then B + i else ad i) = ad i; rw [if_neg (by omega)])
  have hCX : CX (GS D ca ad') (XS (GS D ca ad')) cX7_init RX7 4 none 6 ((p, l, e, (headSpec (Cond.code yX7_init cX7_init 4 none :: LT) (rmc 6 1 24)).room, s, m, ([.ref (B + 0)] : List Value).toArray, below, meth, c, 1, 24) : Kt) := by
    refine ⟨hx, hb, hml, hown, hts, hlocks, hr, ⟨hK.1, hK.2.1, ?_, hXS⟩, XS_ok _, Nat.le_refl _, Nat.le_refl _, Nat.le_refl _, Nat.le_refl _⟩
    intro i j hi hj hij
    have hi' : i < 2 := hi
    have hj' : j < 2 := hj
    have hij' : ad' i = ad' j := hij
    rw [had] at hij'
    simp only [hi', hj', if_true] at hij'
    omega
  have hpw : va_P D classes (pw (GS D ca ad') h00) H := by
    have e : pw (GS D ca ad') h00 = wsB B [.inr (7, [.ref (B + (0 + 1)), .null, .int 0, .int 0, .int 0, .int 0, .int 0]), .inl (ca 0, 24, .inl (fun _ => 0))] := by
      rw [had]; rfl
    rw [e]
    exact hP
  have h0w : Aw (GS D ca ad') B := ⟨0, Nat.le_of_ble_eq_true rfl, by show B = ad' 0; rw [had]; rfl⟩
  have hS2 : va_S (Aw (GS D ca ad')) s.heap H locs := by
    refine ⟨hS.1, fun q h1 h2 => hS.2.1 q h1 (fun h3 => h2 ?_), fun q hq => ?_⟩
    · have : B ≤ q := h3
      have : q = B := by omega
      rw [this]; exact h0w
    · rw [← hlc] at hq
      have : q = ⟨B + 0, sl⟩ := by simpa using hq
      rw [this]; exact h0w
  have hl4 : lh (GS D ca ad') 4 [some (.ref 0), none, none, none] ls := by
    have : prs (GS D ca ad') 0 [some (.ref 0), none, none, none] = [(0, .ref (B + 0))] := by rw [had]; rfl
    unfold lh
    rw [this]
    exact hl
  have hpW := b_X7_init hCX htg H locs ls hpw hS2 hl4
  intro T hT X
  obtain ⟨t, a1, o1, b1, b2, ⟨⟨r, h', hoc, ⟨hr0, hq1, hq2, hq3⟩, hp'⟩, hF⟩, L, b3, b4⟩ := hpW T hT X
  subst hr0
  refine ⟨t, a1, o1, b1, b2, ⟨hoc, ?_, ?_, hF.1, fun q z1 z2 => hF.2 q z1 (fun z3 => z2 (hw q z3))⟩, L, b3, fun q hq => hw _ (b4 q hq)⟩
  · intro k q hk
    match k, hk with
    | 0, hk =>
      cases hk
      have := hp' 0 _ (pw_at (G := GS D ca ad') (h := h') (i := 0) (Nat.le_of_ble_eq_true rfl))
      have e : (GS D ca ad').ad 0 = B ∧ ce (GS D ca ad') h' 0 = .inr (7, [.ref (B + (0 + 1)), .null, .int 0, .int 0, .int 0, .int 0, .int 0]) := by
        refine ⟨by rw [had]; rfl, ?_⟩
        show (Sum.inr (7, [fval (GS D ca ad') h' 7 0 0, fval (GS D ca ad') h' 7 0 1, fval (GS D ca ad') h' 7 0 2, fval (GS D ca ad') h' 7 0 3, fval (GS D ca ad') h' 7 0 4, fval (GS D ca ad') h' 7 0 5, fval (GS D ca ad') h' 7 0 6]) : va_E) = _
        rw [fvR (o := 1) rfl, fvI (k := 2) rfl, fvI (k := 3) rfl, fvI (k := 4) rfl, fvI (k := 5) rfl, fvI (k := 6) rfl]
        have e1 : fval (GS D ca ad') h' 7 0 1 = .null := by
          unfold fval
          show (if gP h' 0 1 = 0 then Value.null else _) = _
          rw [if_pos (hq3 1)]
        rw [e1, hq2, hq2, hq2, hq2, hq2, had]
        rfl
      rw [e.2, e.1] at this
      exact this
    | 1, hk =>
      cases hk
      have := hp' 1 _ (pw_at (G := GS D ca ad') (h := h') (i := 1) (Nat.le_of_ble_eq_true rfl))
      have e : (GS D ca ad').ad 1 = B + 1 := by rw [had]; rfl
      rw [e] at this
      have e2 : t.heap[B + 1]? = some (vp_cell (ca 0) (24, .inl (gI h' 1))) := this
      show t.heap[B + 1]? = some (vp_cell (ca 0) (24, .inl tg))
      rw [e2, cell_congr hq1]
    | k + 2, hk => simp [wsB, bl_7] at hk
  · have h1 := hp' 1 _ (pw_at (G := GS D ca ad') (h := h') (i := 1) (Nat.le_of_ble_eq_true rfl))
    have h2 := h1.lt
    have e : (GS D ca ad').ad 1 = B + 1 := by rw [had]; rfl
    have h3 : (GS D ca ad').ad 1 < t.heap.size := h2
    rw [e] at h3
    have h4 : t.heap.size ≤ s.heap.size + 1 := by
      obtain ⟨-, -, hsm⟩ := b3
      exact hsm.2.2.1
    show t.heap.size = B + 2
    omega
theorem k_X7_init {D : va_G} {ca ad : Nat → Nat} {B : Nat} {l : Launch} {cs0 : List va_E} {o : Nat} (ho : cs0.length = o) {tg : Nat → Int32} (htg : Tg tg) : Mc D ca ad B l 6 1 24 yX7_init cX7_init 4 [.ref (B + o)] (cs0 ++ [.inr (7, [.null, .null, .int 0, .int 0, .int 0, .int 0, .int 0])]) (cs0 ++ bl_7 ca B o tg) := Mc.frame ho (k0_X7_init (B := B + o) htg)
