section STR
variable {G : Gt} {cc : ByteArray} {own : String} {nL : Nat} {ret : Option FieldType} {d : Nat} {K : Kt} {Q : Option Value → PH → Prop} {h : PH} {pc : Nat} {L : List (Option Value)} {st : List Value}
theorem CX.xs (C : CX G (XS G) cc own nL ret d K) : XS G K.s := C.ks.2.2.2
theorem CX.vks (C : CX G (XS G) cc own nL ret d K) : vk_S 2 sLens sByts (fun i => G.ad (1002 + i)) (fun i => G.ad (1004 + i)) (Aw G) K.s K.s.heap := C.ks.2.2.2.2.2.2.2.1
theorem PW.ldcS0 (C : CX G (XS G) cc RX7 nL ret d K) (hd : decode cc pc = .ok (.ldc 15, 2)) (k : PW G K nL Q h (pc + 2) L (.ref 1002 :: st)) : PW G K nL Q h pc L st :=
  fun H locs ls hP hS hl => va_ldcS C.1 C.2.1 C.ow C.xs.2.2.2.2.2.1 hd (k H locs ls hP hS hl)
theorem PW.ldcS1 (C : CX G (XS G) cc RX7 nL ret d K) (hd : decode cc pc = .ok (.ldc 74, 2)) (k : PW G K nL Q h (pc + 2) L (.ref 1003 :: st)) : PW G K nL Q h pc L st :=
  fun H locs ls hP hS hl => va_ldcS C.1 C.2.1 C.ow C.xs.2.2.2.2.2.2.1 hd (k H locs ls hP hS hl)
theorem PW.ldcS2 (C : CX G (XS G) cc RX10 nL ret d K) (hd : decode cc pc = .ok (.ldc_w 278, 3)) (k : PW G K nL Q h (pc + 3) L (.ref 1002 :: st)) : PW G K nL Q h pc L st := by
  intro H locs ls hP hS hl T hT X
  obtain ⟨t, a1, b1⟩ := k H locs ls hP hS hl T hT X
  have hZ := C.xs.2.2.2.2.2.2.2.1
  exact ⟨t, X.ldcStringW C.1 C.ow (text := sWORDS) (a := G.ad 1002) hZ.1 hZ.2 (g := F0 K.m pc ls (st.map (cv G))) rfl (by rw [C.2.1]; exact hd) t a1, b1⟩
theorem PW.sVal {t : Nat} (C : CX G (XS G) cc RJ0 nL ret d K) (hd : decode cc pc = .ok (.getfield 9, 3)) (ht : t < 2) (k : PW G K nL Q h (pc + 3) L (.ref (1004 + t) :: st)) : PW G K nL Q h pc L (.ref (1002 + t) :: st) :=
  fun H locs ls hP hS hl => vk_getf C.1 C.2.1 (C.vks.1 t ht).2.2.1 hS C.ow (C.ts sfl_9) (fun _ q => q) hd (k H locs ls hP hS hl)
theorem PW.sCod {t : Nat} (C : CX G (XS G) cc RJ0 nL ret d K) (hd : decode cc pc = .ok (.getfield 15, 3)) (ht : t < 2) (k : PW G K nL Q h (pc + 3) L (.int 0 :: st)) : PW G K nL Q h pc L (.ref (1002 + t) :: st) :=
  fun H locs ls hP hS hl => vk_getf C.1 C.2.1 (C.vks.1 t ht).2.1 hS C.ow (C.ts sfl_15) (fun _ q => q) hd (k H locs ls hP hS hl)
theorem PW.sCom (C : CX G (XS G) cc RJ0 nL ret d K) (hd : decode cc pc = .ok (.getstatic 38, 3)) (k : PW G K nL Q h (pc + 3) L (.int 1 :: st)) : PW G K nL Q h pc L st :=
  fun H locs ls hP hS hl => va_gets C.1 C.2.1 C.xs.2.2.2.2.2.2.2.2.1 hS C.ow (C.ts sfl_38) (fun _ q => q) hd (k H locs ls hP hS hl)
theorem PW.sBa {t : Nat} {j : Int32} (C : CX G (XS G) cc own nL ret d K) (hd : decode cc pc = .ok (.baload, 1)) (ht : t < 2) (hj : vp_in j (sLen t)) (k : PW G K nL Q h (pc + 1) L (.int (sByt t (iN j)) :: st)) : PW G K nL Q h pc L (.int j :: .ref (1004 + t) :: st) :=
  fun H locs ls hP hS hl => va_tb C.1 C.2.1 (C.vks.1 t ht).2.2.2 hS hj rfl hd (k H locs ls hP hS hl)
theorem PW.sAl {t : Nat} (C : CX G (XS G) cc own nL ret d K) (hd : decode cc pc = .ok (.arraylength, 1)) (ht : t < 2) (k : PW G K nL Q h (pc + 1) L (.int (Int32.ofNat (sLen t)) :: st)) : PW G K nL Q h pc L (.ref (1004 + t) :: st) := by
  intro H locs ls hP hS hl
  obtain ⟨cell, h1, h2, h3, h4, h5, h6, h7⟩ := (C.vks.1 t ht).2.2.2.kept hS.2.1
  exact W.alen C.1 C.2.1 (n := Int32.ofNat (sLen t)) h1 h2 h5 rfl rfl hd (k H locs ls hP hS hl)
theorem PW.nret {x : Int32} {ty : FieldType} (C : CX G (XS G) cc own nL (some ty) d K) (hd : decode cc pc = .ok (.ireturn, 1)) (hx : narrow ty (.int x) = .int x) (hq : Q (some (.int x)) h) : PW G K nL Q h pc L [.int x] :=
  fun H locs ls hP hS hL => W.zret C.1 C.2.1 C.2.2.2.2.2.2.1 hx (fun t ht hW => ⟨⟨some (.int x), h, rfl, hq, by rw [ht]; exact hP⟩, hS.F ht⟩) hS.2.2 hd C.2.2.2.2.2.1
theorem PW.callT {y : MethodName} {c9 : ByteArray} {mL n idx d9 b : Nat} {r9 : Option FieldType} {as : List Value} {Q' : Option Value → PH → Prop} (C : CX G (XS G) cc own nL ret d K) (hm : MV y c9 mL r9 n) (hl : Cond.methodLink own idx y ∈ LT) (hd : decode cc pc = .ok (.invokevirtual idx, 3))
    (hn : as.length = n) (hb : b < 2) (hci : y.cls = "java/lang/String") (hroom : d9 + 1 ≤ d) (hmL : mL ≤ 50) (hc : (st.map fun v => v.category).sum ≤ 8)
    (hs : Sp G (XS G) K.l d9 y c9 mL r9 (.ref (1002 + b) :: as) h Q') (kk : ∀ (r : Option Value) (h' : PH), Q' r h' → PW G K nL Q h' (pc + 3) L (r.toList ++ st)) : PW G K nL Q h pc L (as.reverse ++ .ref (1002 + b) :: st) := by
  intro H locs ls hP hS hL
  obtain ⟨m1, m2, m3, m4, m5⟩ := hm
  obtain ⟨hx, hbb, hml, ho, hts, hlk, hrt, hks, hX, hR1, hR2, hR3, hR4⟩ := id C
  have hpre := sp_pre (as := .ref (1002 + b) :: as) C hP hS
  have hrecv : ∃ cellB : Cell, H[G.ad (1002 + b)]? = some cellB ∧ cellB.vm.isStatics = false ∧ K.s.vm.findClass y.cls = some cellB.cls := by
    rw [hci]
    exact vk_recv (adK := fun i => G.ad (1002 + i)) (i := b) C.vks hb hS
  refine run_in rfl hS (va_runV (As := as.map (cv G)) (rest := st.map (cv G)) (b := G.ad (1002 + b)) ⟨hx, hbb, hml, ho, hts⟩ (hs hX) ⟨callB_of n hts (LT_cons m1) rfl rfl rfl (hts _ m2) (hts _ hl) m3 ⟨?_, ?_⟩, hts _ m4, hts _ m5⟩ ⟨hpre.1, hrecv, hpre.2⟩ rfl (by simpa using hn) hL.1 (by simp [cv]) ?_ hd ?_) hL kk
  · exact Nat.le_trans hroom hR1
  · simp only [rmd]; omega
  · exact lv_room (by rw [cat_map]; exact hc)
  · exact ⟨hR3, hR4⟩
theorem PW.callTI0 {y : MethodName} {c9 : ByteArray} {mL idx d9 b : Nat} {r9 : Option FieldType} {Q' : Int32 → PH → Prop} (C : CX G (XS G) cc own nL ret d K) (hm : MV y c9 mL r9 0) (hl : Cond.methodLink own idx y ∈ LT) (hd : decode cc pc = .ok (.invokevirtual idx, 3)) (hb : b < 2) (hci : y.cls = "java/lang/String") (hroom : d9 + 1 ≤ d) (hmL : mL ≤ 50) (hc : (st.map fun v => v.category).sum ≤ 8) (hs : Sp G (XS G) K.l d9 y c9 mL r9 [.ref (1002 + b)] h (qI Q')) (kk : ∀ (x : Int32) (h' : PH), Q' x h' → PW G K nL Q h' (pc + 3) L (.int x :: st)) : PW G K nL Q h pc L (.ref (1002 + b) :: st) :=
  PW.callT (as := []) C hm hl hd rfl hb hci hroom hmL hc hs (fun r h' hq => by obtain ⟨x, rfl, hq⟩ := hq; exact kk x h' hq)
theorem PW.callTI1 {y : MethodName} {c9 : ByteArray} {mL idx d9 b : Nat} {a1 : Value} {r9 : Option FieldType} {Q' : Int32 → PH → Prop} (C : CX G (XS G) cc own nL ret d K) (hm : MV y c9 mL r9 1) (hl : Cond.methodLink own idx y ∈ LT) (hd : decode cc pc = .ok (.invokevirtual idx, 3)) (hb : b < 2) (hci : y.cls = "java/lang/String") (hroom : d9 + 1 ≤ d) (hmL : mL ≤ 50) (hc : (st.map fun v => v.category).sum ≤ 8) (hs : Sp G (XS G) K.l d9 y c9 mL r9 [.ref (1002 + b), a1] h (qI Q')) (kk : ∀ (x : Int32) (h' : PH), Q' x h' → PW G K nL Q h' (pc + 3) L (.int x :: st)) : PW G K nL Q h pc L (a1 :: .ref (1002 + b) :: st) :=
  PW.callT (as := [a1]) C hm hl hd rfl hb hci hroom hmL hc hs (fun r h' hq => by obtain ⟨x, rfl, hq⟩ := hq; exact kk x h' hq)
theorem PW.callTI2 {y : MethodName} {c9 : ByteArray} {mL idx d9 b : Nat} {a1 a2 : Value} {r9 : Option FieldType} {Q' : Int32 → PH → Prop} (C : CX G (XS G) cc own nL ret d K) (hm : MV y c9 mL r9 2) (hl : Cond.methodLink own idx y ∈ LT) (hd : decode cc pc = .ok (.invokevirtual idx, 3)) (hb : b < 2) (hci : y.cls = "java/lang/String") (hroom : d9 + 1 ≤ d) (hmL : mL ≤ 50) (hc : (st.map fun v => v.category).sum ≤ 8) (hs : Sp G (XS G) K.l d9 y c9 mL r9 [.ref (1002 + b), a1, a2] h (qI Q')) (kk : ∀ (x : Int32) (h' : PH), Q' x h' → PW G K nL Q h' (pc + 3) L (.int x :: st)) : PW G K nL Q h pc L (a2 :: a1 :: .ref (1002 + b) :: st) :=
  PW.callT (as := [a1, a2]) C hm hl hd rfl hb hci hroom hmL hc hs (fun r h' hq => by obtain ⟨x, rfl, hq⟩ := hq; exact kk x h' hq)
end STR
/-! the JDK's index checks -/
def w_J3_checkIndex_8e157 (x0 x1 : Int32) (h : PH) (Q : Int32 → PH → Prop) : Prop := ¬ x0 < 0 ∧ x0 < x1 ∧ Q x0 h
theorem s_J3_checkIndex_8e157 {G : Gt} {l : Launch} {x0 x1 : Int32} {v : Value} {h : PH} {Q : Int32 → PH → Prop} (hv : v = .null ∨ ∃ r, v = .ref r) (hw : w_J3_checkIndex_8e157 x0 x1 h Q) : Sp G (XS G) l 1 yJ3_checkIndex_8e157 cJ3_checkIndex_8e157 3 (some .int) [.int x0, .int x1, v] h (qI Q) := by
  refine Sp.of (own := RJ3) [some (.int x0), some (.int x1), some v] (by decide +kernel) rfl ?_ ?_ (fun K hl C => ?_)
  · rcases hv with rfl | ⟨r, rfl⟩ <;> rfl
  · rcases hv with rfl | ⟨r, rfl⟩ <;> exact Nat.le_of_ble_eq_true rfl
  · obtain ⟨h1, h2, hw⟩ := hw
    refine PW.ild0n C dJ3_checkIndex_8e157_0 ?_
    refine PW.if_lt (tgt := 9) C dJ3_checkIndex_8e157_1 (by decide) (fun c => absurd c h1) (fun c => ?_)
    refine PW.ild0n C dJ3_checkIndex_8e157_4 ?_
    refine PW.ild1n C dJ3_checkIndex_8e157_5 ?_
    refine PW.icmp_lt (tgt := 16) C dJ3_checkIndex_8e157_6 (by decide) (fun c => ?_) (fun c => absurd h2 c)
    refine PW.ild0n C dJ3_checkIndex_8e157_16 ?_
    exact PW.iret C dJ3_checkIndex_8e157_17 ⟨_, rfl, hw⟩
def w_J0_checkIndex_df160 (x0 x1 : Int32) (h : PH) (Q : PH → Prop) : Prop := ¬ x0 < 0 ∧ x0 < x1 ∧ Q h
theorem s_J0_checkIndex_df160 {G : Gt} {l : Launch} {x0 x1 : Int32} {h : PH} {Q : PH → Prop} (hw : w_J0_checkIndex_df160 x0 x1 h Q) : Sp G (XS G) l 2 yJ0_checkIndex_df160 cJ0_checkIndex_df160 2 none [.int x0, .int x1] h (qV Q) := by
  refine Sp.of (own := RJ0) [some (.int x0), some (.int x1)] (by decide +kernel) rfl rfl (Nat.le_of_ble_eq_true rfl) (fun K hl C => ?_)
  subst hl
  refine PW.ild0n C dJ0_checkIndex_df160_0 ?_
  refine PW.ild1n C dJ0_checkIndex_df160_1 ?_
  have go : ∀ v : Value, (v = .null ∨ ∃ r, v = .ref r) → PW G K 2 (qV Q) h 5 [some (.int x0), some (.int x1)] [v, .int x1, .int x0] := by
    intro v hv
    refine PW.callSI3 C ms_J3_checkIndex_8e157 ml_J0_1059 dJ0_checkIndex_df160_5 (Nat.le_of_ble_eq_true rfl) (by decide) (Nat.le_of_ble_eq_true rfl) (s_J3_checkIndex_8e157 (Q := fun _ h => Q h) hv hw) ?_
    intro r h1 hw
    refine PW.pop C dJ0_checkIndex_df160_8 rfl ?_
    exact PW.vret C dJ0_checkIndex_df160_9 ⟨rfl, hw⟩
  intro H locs ls hP hS hL
  rcases C.ks.2.2.2.2.2.2.2.2.2.2.2.2 with hz | hz
  · exact va_gets C.1 C.2.1 hz hS C.ow (C.ts sfl_1053) (fun _ q => q) dJ0_checkIndex_df160_2 (go .null (Or.inl rfl) H locs ls hP hS hL)
  · exact va_gets C.1 C.2.1 hz hS C.ow (C.ts sfl_1053) (fun _ q => q) dJ0_checkIndex_df160_2 (go (.ref 1006) (Or.inr ⟨_, rfl⟩) H locs ls hP hS hL)
/-- more room does no harm -/
theorem Sp.mono {G : Gt} {X : State → Prop} {l : Launch} {d d' : Nat} {y : MethodName} {cc : ByteArray} {mL : Nat} {ret : Option FieldType} {as : List Value} {h : PH} {Q : Option Value → PH → Prop} (hd : d ≤ d') (hs : Sp G X l d y cc mL ret as h Q) : Sp G X l d' y cc mL ret as h Q := by
  intro hX
  have hM := hs hX
  intro p e ha hc hk s m args below hf happ hP hK
  refine hM p e ha hc hk s m args below hf ?_ hP hK
  rw [Spec.appliesLoose_iff hf] at happ ⊢
  obtain ⟨a1, a2, a3, a4, a5, a6, a7, a8⟩ := happ
  refine ⟨a1, a2, a3, a4, a5, a6, ?_, a8⟩
  unfold State.hasRoom at a7 ⊢
  rw [Bool.and_eq_true, Bool.and_eq_true, Bool.and_eq_true, Bool.and_eq_true, decide_eq_true_iff, decide_eq_true_iff, decide_eq_true_iff, decide_eq_true_iff] at a7 ⊢
  simp only [headSpec, rmd] at a7 ⊢
  obtain ⟨⟨⟨⟨b1, b2, b3, b4, b5, b6⟩, b7⟩, b8⟩, b9⟩ := a7
  exact ⟨⟨⟨⟨by omega, by omega, by omega, by omega, by omega, b6⟩, b7⟩, b8⟩, b9⟩
