/-! ===== OwnedSilence.owner: it answers or throws ===== -/
def EI : String := "java/lang/IndexOutOfBoundsException"
def EN : String := "java/util/NoSuchElementException"
def ER : String := "java/lang/RuntimeException"
def EE : String := "java/lang/Exception"
def rx13 : ByteArray := ⟨#[0x2a, 0x2b, 0xb7, 0x00, 0x0d, 0xb1]⟩
def OB : List Cond := [.declares (Bundle.initS ER), .declares (Bundle.initS EE), .declares (Bundle.initS Bundle.tN), .castable EI EI, .castable EN EN]
def OX (o1 o2 : Nat) (A : Nat → Prop) (U : State) : Prop := vx_Zq Bundle.tN "UNASSIGNED_STACK" Bundle.steD A U U.heap ∧ vx_Zq Bundle.tN "SUPPRESSED_SENTINEL" Bundle.listD A U U.heap ∧ (∀ w ∈ OB, va_Nw w U) ∧ vk_R RX9 131 "no such owner" o1 U ∧ vk_R RX9 153 "no such thing of an owner" o2 U ∧ va_Nc EN EI U
theorem ob_warm {s U : State} (hW : s.WarmedH U.vm) (h : ∀ w ∈ OB, va_Nw w s) : ∀ w ∈ OB, va_Nw w U := by
  intro w hw
  have h1 := h w hw
  simp only [OB, List.mem_cons, List.not_mem_nil, or_false] at hw
  rcases hw with rfl | rfl | rfl | rfl | rfl
  · exact va_Nw.warmD hW h1
  · exact va_Nw.warmD hW h1
  · exact va_Nw.warmD hW h1
  · exact va_Nw.warmC hW h1
  · exact va_Nw.warmC hW h1
theorem OX.calling {o1 o2 : Nat} {A : Nat → Prop} {U : State} (g : JFrame) (mk : MethodId) (a : Array Value) (h : OX o1 o2 A U) : OX o1 o2 A (U.calling g mk a) := by
  obtain ⟨h1, h2, h3, h4, h5, h6⟩ := h
  have e : U.vm.Alike (U.calling g mk a).vm := Vm.Alike.refl U.vm
  refine ⟨vx_Zq.moved e h1, vx_Zq.moved e h2, fun w hw => ?_, vk_R.same (u := U) rfl h4, vk_R.same (u := U) rfl h5, va_Nc.moved e h6⟩
  have h7 := h3 w hw
  simp only [OB, List.mem_cons, List.not_mem_nil, or_false] at hw
  rcases hw with rfl | rfl | rfl | rfl | rfl <;> exact va_Nw.same (u := U) rfl rfl h7
theorem OX.warm {o1 o2 : Nat} {A : Nat → Prop} {s U : State} (k : ∀ q : Nat, q < s.heap.size → ¬ A q → U.heap[q]? = s.heap[q]?) (hW : s.WarmedH U.vm) (h : OX o1 o2 A s) : OX o1 o2 A U := by
  obtain ⟨h1, h2, h3, h4, h5, h6⟩ := h
  have e := hW.alike
  exact ⟨vx_Zq.moved e (h1.kept k), vx_Zq.moved e (h2.kept k), ob_warm hW h3, h4.warm hW, h5.warm hW, va_Nc.moved e h6⟩
theorem OX.narrow {o1 o2 : Nat} {A B : Nat → Prop} {U : State} (h : OX o1 o2 A U) (k : ∀ q, B q → A q) : OX o1 o2 B U := ⟨h.1.narrow k, h.2.1.narrow k, h.2.2⟩
def atI : List Cond := ot_at RX9 133 EI ER 7 Bundle.six [EE]
def atN : List Cond := ot_at RX9 155 EN ER 13 rx13 [EE]
set_option maxRecDepth 20000 in
theorem atI_in : ∀ w ∈ atI.filter goodWord, w ∈ LT := in_by _ [18, 1317, 1326, 1329, 1332, 1334, 1318, 1319, 32, 33, 1320, 1325, 1330, 1350, 1307, 1351, 1309, 1352, 1311, 1321, 1323, 1313, 1346, 1347, 1349, 1313, 1337, 1338, 1339, 1340, 1340, 1341, 1342, 1343, 1343, 1344, 1345, 1346, 1336, 1296, 1304, 1305, 1306, 1308, 1310, 1312, 1316, 1315, 1314] (by decide +kernel) (by decide +kernel)
set_option maxRecDepth 20000 in
theorem atN_in : ∀ w ∈ atN.filter goodWord, w ∈ LT := in_by _ [18, 1317, 1326, 1329, 1332, 1334, 1318, 1319, 32, 33, 1320, 1325, 1330, 1350, 1307, 1351, 1309, 1352, 1311, 1321, 1323, 1313, 1346, 1347, 1349, 1313, 1376, 1377, 1378, 1340, 1340, 1341, 1342, 1343, 1343, 1344, 1345, 1346, 1375, 1366, 1368, 1328, 1369, 1370, 1371, 1372, 1316, 1315, 1373] (by decide +kernel) (by decide +kernel)
theorem atI_ob : ∀ w ∈ atI.filter (fun w => !goodWord w), w ∈ OB := by decide +kernel
theorem atN_ob : ∀ w ∈ atN.filter (fun w => !goodWord w), w ∈ OB := by decide +kernel
theorem atI_ot : ∀ w ∈ Cond.classLink RX9 129 EI :: Cond.initialized EI :: atI, vx_ot w = true := by decide +kernel
theorem atN_ot : ∀ w ∈ Cond.classLink RX9 151 EN :: Cond.initialized EN :: atN, vx_ot w = true := by decide +kernel
theorem cl_X9_129 : Cond.classLink RX9 129 EI ∈ LT := tb_in6 (i := 95) (by decide +kernel) (by decide +kernel)
theorem cl_X9_151 : Cond.classLink RX9 151 EN ∈ LT := tb_in6 (i := 165) (by decide +kernel) (by decide +kernel)
theorem in_EI : Cond.initialized EI ∈ LT := tb_in1 (i := 21) (by decide +kernel) (by decide +kernel)
theorem in_EN : Cond.initialized EN ∈ LT := tb_in1 (i := 22) (by decide +kernel) (by decide +kernel)
theorem ob_at {s : State} {args : Array Value} (h : ∀ w ∈ OB, va_Nw w s) : ∀ w ∈ OB, w.before args s = true := by
  intro w hw
  have h1 := h w hw
  simp only [OB, List.mem_cons, List.not_mem_nil, or_false] at hw
  rcases hw with rfl | rfl | rfl | rfl | rfl <;> exact va_Nw.use rfl h1
section GRUN
variable {p : Program} {l : Launch} {e : Env} {R : Room} {s : State} {m : MethodId} {args : Array Value} {below : List Frame} {meth : Method} {c : Code} {H : Heap} {locs : List Loc} {cells slots : Nat} {Q : State → Prop} {G : Gt} {X : State → Prop}
theorem g_mono {Q' : State → Prop} {g : JFrame} (k : W p l e R s m args below meth c H locs cells slots Q g) (h : ∀ t, Q t → Q' t) : W p l e R s m args below meth c H locs cells slots Q' g := by
  intro T hT Xs
  obtain ⟨t, a, b⟩ := k T hT Xs
  exact ⟨t, a, h t b⟩
/-- a call's end, seen from any frame -/
theorem g_run {ls : Array Slot} {pc : Nat} {Q' : Option Value → PH → Prop} {as rest : List Value} {a : Array Value} {A : Nat → Prop} {H0 : Heap} (hA : ∀ q, Aw G q → A q) (hS : va_S A H0 H locs)
    (hr : va_Run p l e R s m args below meth c H locs cells slots 0 0 (F0 m pc ls as) rest (Qp G Q' a) (Aw G))
    (kk : ∀ (r : Option Value) (h' : PH) (H1 : Heap) (locs1 : List Loc), Q' r h' → va_P G.D classes (pw G h') H1 → H.size ≤ H1.size → (∀ q : Nat, q < H.size → ¬ Aw G q → H1[q]? = H[q]?) → va_S A H0 H1 locs1 → W p l e R s m args below meth c H1 locs1 cells slots Q (F0 m (pc + 3) ls ((r.map (cv G)).toList ++ rest))) :
    W p l e R s m args below meth c H locs cells slots Q (F0 m pc ls as) := by
  intro T hT Xs
  obtain ⟨v, st₀, t, T', L9, h0, X', hL9, e1, e2, ⟨⟨r, h', hv, hq, hp⟩, hz, hk⟩, stp⟩ := hr T hT Xs
  have hv' : v = r.map (cv G) := by cases hv; rfl
  subst hv'
  rw [h0] at hz hk
  have hS' : va_S A H0 T'.heap (locs ++ L9) := by
    refine ⟨Nat.le_trans hS.1 (by rw [e1]; exact hz), fun q h1 h2 => ?_, fun q hq => ?_⟩
    · rw [e1, hk q (Nat.lt_of_lt_of_le h1 hS.1) (fun x => h2 (hA q x))]
      exact hS.2.1 q h1 h2
    · rcases List.mem_append.mp hq with h | h
      · exact hS.2.2 q h
      · exact hA _ (hL9 q h)
  obtain ⟨t2, a1, b1⟩ := kk r h' T'.heap (locs ++ L9) hq (by rw [e1]; exact hp) (by rw [e1]; exact hz) (fun q h1 h2 => by rw [e1]; exact hk q h1 h2) hS' T' rfl X'
  exact ⟨t2, stp t2 a1, b1⟩
theorem g_pre {h : PH} {as : List Value} (hX : Xok G X) (hP : va_P G.D classes (pw G h) H) (hks : ∀ U : State, U.heap = H → s.WarmedH U.vm → KS G X U) : PreS s H (fun v U => v = (as.map (cv G)).toArray ∧ va_P G.D classes (pw G h) U.heap ∧ KS G X U) (as.map (cv G)) :=
  ⟨fun a U g mk q => ⟨q.1, q.2.1, va_K.moved (u := U) (U := U.calling g mk a) (Vm.Alike.refl U.vm) q.2.2.1, nt_same (s := U) (U := U.calling g mk a) rfl q.2.2.2.1, q.2.2.2.2.1, hX.1 U g mk a q.2.2.2.2.2⟩, fun U hU hW => ⟨rfl, by rw [hU]; exact hP, hks U hU hW⟩⟩
/-- an instance's method called from any frame -/
theorem g_callV {y : MethodName} {c9 : ByteArray} {mL n idx d9 ci b nL : Nat} {r9 : Option FieldType} {as : List Value} {Q' : Option Value → PH → Prop} {cc : ByteArray} {own : String} {h : PH} {ls : Array Slot} {pc : Nat} {rest : List Value} {A : Nat → Prop} {H0 : Heap}
    (S : CallFix p m c cc nL s args LT own) (hX : Xok G X) (hK : va_K G.D classes (tyl G) s) (hks : ∀ U : State, U.heap = H → s.WarmedH U.vm → KS G X U) (hP : va_P G.D classes (pw G h) H) (hA : ∀ q, Aw G q → A q) (hS : va_S A H0 H locs) (hsz : ls.size = nL)
    (hm : MV y c9 mL r9 n) (hl : Cond.methodLink own idx y ∈ LT) (hd : decode cc pc = .ok (.invokevirtual idx, 3))
    (hn : as.length = n) (hb : isO G b ci) (hci : ∃ T N, classes[ci]? = some (y.cls, T, N)) (hroom : d9 + 1 ≤ R.frames) (hmL : 8 + (mL + 11) + 80 * d9 ≤ R.locals) (hc : (rest.map fun v => v.category).sum ≤ 8) (hfit : cells ≤ R.cells ∧ slots ≤ R.slots)
    (hs : Sp G X l d9 y c9 mL r9 (.ref b :: as) h Q')
    (kk : ∀ (r : Option Value) (h' : PH) (H1 : Heap) (locs1 : List Loc), Q' r h' → va_P G.D classes (pw G h') H1 → H.size ≤ H1.size → (∀ q : Nat, q < H.size → ¬ Aw G q → H1[q]? = H[q]?) → va_S A H0 H1 locs1 → W p l e R s m args below meth c H1 locs1 cells slots Q (F0 m (pc + 3) ls ((r.map (cv G)).toList ++ rest))) :
    W p l e R s m args below meth c H locs cells slots Q (F0 m pc ls ((as.map (cv G)).reverse ++ .ref (G.ad b) :: rest)) := by
  obtain ⟨m1, m2, m3, m4, m5⟩ := hm
  have hts := S.2.2.2.2
  have hpre := g_pre (as := .ref b :: as) (h := h) hX hP hks
  obtain ⟨T9, N9, hcl⟩ := hci
  have hrecv : ∃ cellB : Cell, H[G.ad b]? = some cellB ∧ cellB.vm.isStatics = false ∧ s.vm.findClass y.cls = some cellB.cls := va_recv hK hP (ci := ci) (q0 := b) hcl (obj_at hb)
  refine g_run hA hS (va_runV (As := as.map (cv G)) (rest := rest) (b := G.ad b) S (hs hX) ⟨callB_of n hts (LT_cons m1) rfl rfl rfl (hts _ m2) (hts _ hl) m3 ⟨?_, ?_⟩, hts _ m4, hts _ m5⟩ ⟨hpre.1, hrecv, hpre.2⟩ rfl (by simpa using hn) hsz rfl ?_ hd hfit) kk
  · exact hroom
  · exact hmL
  · exact lv_room hc
end GRUN
section OWB
variable {D : va_G} {ca : Nat → ClassId} {ad : Nat → Nat} {K : Kt} {h : PH} {w : Nat} {s : St} {p k : Int} {o1 o2 : Nat}
abbrev owQ (D : va_G) (ca : Nat → ClassId) (ad : Nat → Nat) (w : Nat) (s : St) (p k : Int) : Array Value → State → Outcome → State → Prop := va_Qi (fun (r : Int32) (g : PH) => thr s.a p k = 0 ∧ r = z (a_owner s.a p k) ∧ IX g w s ∧ PX g s.a) (fun g t => va_P D classes (pw (GX D ca ad) g) t.heap) (Aw (GX D ca ad))
abbrev owX (D : va_G) (ca : Nat → ClassId) (ad : Nat → Nat) (h : PH) (s : St) (p k : Int) : String → State → State → Prop := vx_X (S := Unit) (fun _ => True) (fun E _ t => (E = EI ∧ thr s.a p k = 1 ∨ E = EN ∧ thr s.a p k = 2) ∧ va_P D classes (pw (GX D ca ad) h) t.heap) (Aw (GX D ca ad))
theorem ow_throw {E text Y0 : String} {names : List String} {ik is ic ix sa pc : Nat} {rx : ByteArray} {ls : Array Slot} {H : Heap} {locs : List Loc} (hl : K.l.stackTraces = false) (C : CX (GX D ca ad) (XS (GX D ca ad)) cX9_owner RX9 3 (some .int) 7 K) (hR : 7 < K.R.frames) (ht : ∀ x ∈ K.c.exceptionTable.toList, False) (X : OX o1 o2 (Aw (GX D ca ad)) K.s)
    (x0 : decode rx 0 = .ok (.aload_n 0, 1)) (x1 : decode rx 1 = .ok (.aload_n 1, 1)) (x2 : decode rx 2 = .ok (.invokespecial ix, 3)) (x5 : decode rx 5 = .ok (.return_, 1))
    (hcls : Bundle.fit E = true) (hnames : ∀ n ∈ Y0 :: names, Bundle.fit n = true) (hn2 : names.length ≤ 2) (hk : Cond.classLink RX9 ik E ∈ LT) (hini : Cond.initialized E ∈ LT) (hstr : vk_R RX9 is text sa K.s)
    (hin : ∀ w ∈ (ot_at RX9 ic E Y0 ix rx names).filter goodWord, w ∈ LT) (hob : ∀ w ∈ (ot_at RX9 ic E Y0 ix rx names).filter (fun w => !goodWord w), w ∈ OB) (hot : ∀ w ∈ Cond.classLink RX9 ik E :: Cond.initialized E :: ot_at RX9 ic E Y0 ix rx names, vx_ot w = true)
    (d0 : decode cX9_owner pc = .ok (.new ik, 3)) (d3 : decode cX9_owner (pc + 3) = .ok (.dup, 1)) (d4 : decode cX9_owner (pc + 4) = .ok (.ldc is, 2)) (d6 : decode cX9_owner (pc + 6) = .ok (.invokespecial ic, 3)) (d9 : decode cX9_owner (pc + 9) = .ok (.athrow, 1))
    (hE : E = EI ∧ thr s.a p k = 1 ∨ E = EN ∧ thr s.a p k = 2) (hP : va_P D classes (pw (GX D ca ad) h) H) (hS : va_S (Aw (GX D ca ad)) K.s.heap H locs) (hL : lh (GX D ca ad) 3 [some (.ref 0), some (.int (z p)), some (.int (z k))] ls) (e1 : 1 ≤ K.R.cells) (e2 : 6 ≤ K.R.slots) :
    W K.p K.l K.e K.R K.s K.m K.args K.below K.meth K.c H locs 0 0 (vx_MQ K.below (owQ D ca ad w s p k) (owX D ca ad h s p k) K.args K.s 1 6 (Aw (GX D ca ad))) (F0 K.m pc ls []) := by
  obtain ⟨hx, hb, hml, ho, hts, hlk, hrt, hks, hX, hR1, hR2, hR3, hR4⟩ := id C
  refine ot_make hx hb hl x0 x1 x2 x5 ho hcls hnames (hts _ hk) (hts _ hini) hstr (vx_hat (fun w hw => hts w (hin w hw)) hob (ob_at X.2.2.1)) hot X.1 X.2.1 hS (hL.1.trans hml.symm) d0 d3 d4 d6 (by omega) (by simp only [List.map_nil, List.sum_nil]; omega) (by omega) (by omega) ?_
  intro q ce H1 f1 f2 hq hv hc
  have hS1 : va_S (Aw (GX D ca ad)) K.s.heap H1 locs := ⟨Nat.le_trans hS.1 f1, fun x h1 h2 => (f2 x (Nat.lt_of_lt_of_le h1 hS.1)).trans (hS.2.1 x h1 h2), hS.2.2⟩
  refine ot_athrow hx hb d9 (vx_out (fun x hx => absurd hx (fun hx => ht x hx)) hlk hq hv hc ?_ hS.2.2 (Nat.le_refl _) (Nat.le_refl _))
  intro t hth _
  refine ⟨(), trivial, ⟨hE, ?_⟩, ?_⟩
  · rw [hth]
    exact hP.kept (fun k x hx => f2 x.1 (hP k x hx).lt)
  · exact ⟨by rw [hth]; exact hS1.1, fun q h1 h2 => by rw [hth]; exact hS1.2.1 q h1 h2⟩
theorem ow_body (hl : K.l.stackTraces = false) (C : CX (GX D ca ad) (XS (GX D ca ad)) cX9_owner RX9 3 (some .int) 7 K) (c0 : K.c0 = 1) (c1 : K.s0 = 6) (hR : 7 < K.R.frames) (ht : ∀ x ∈ K.c.exceptionTable.toList, False) (I : IX h w s) (P : PX h s.a) (hp : i32 p) (hk : i32 k) (X : OX o1 o2 (Aw (GX D ca ad)) K.s) (hP : va_P D classes (pw (GX D ca ad) h) K.s.heap) {ls : Array Slot} (hL : lh (GX D ca ad) 3 [some (.ref 0), some (.int (z p)), some (.int (z k))] ls) :
    W K.p K.l K.e K.R K.s K.m K.args K.below K.meth K.c K.s.heap [] 0 0 (vx_MQ K.below (owQ D ca ad w s p k) (owX D ca ad h s p k) K.args K.s 1 6 (Aw (GX D ca ad))) (F0 K.m 0 ls []) := by
  obtain ⟨hx, hb, hml, ho, hts, hlk, hrt, hks, hX, hR1, hR2, hR3, hR4⟩ := id C
  obtain ⟨p1, p2, p3⟩ := I.1.p
  have n3 := I.1.2.2.1
  have hS : va_S (Aw (GX D ca ad)) K.s.heap K.s.heap [] := va_S.rf
  have e1 : 1 ≤ K.R.cells := by rw [← c0]; exact hR3
  have e2 : 6 ≤ K.R.slots := by rw [← c1]; exact hR4
  obtain ⟨f1, f2, f3, f4, f5⟩ := cf_9
  obtain ⟨g1, g2, g3, g4, g5⟩ := cf_8
  refine lv_aload_n hx hb dX9_owner_0 rfl (lh_at hL 0 rfl) ?_
  refine va_get hx hb hts f3 ho hks.1 hP 0 (obj_at (G := GX D ca ad) oX_0) f1 3 (by decide) (hts _ fl_X9_23) (fun _ q => q) (v := cv (GX D ca ad) (.ref (gP h 0 3 - 1))) (by rw [fsl_at (by decide), fvP rfl p1]) dX9_owner_1 ?_
  refine va_getN hx hb hts g3 ho hks.1 hP (gP h 0 3 - 1) (obj_at (G := GX D ca ad) p2) g1 2 (by decide) (C.nw fl_X9_122 rfl) (fun _ q => q) (v := cv (GX D ca ad) (.ref (gP h 0 3 - 1 + 5))) (by rw [fsl_at (by decide), fvR (o := 5) rfl]) dX9_owner_4 ?_
  refine lv_iload_n hx hb dX9_owner_7 rfl (lh_at hL 1 rfl) ?_
  refine g_callV (G := GX D ca ad) (X := XS (GX D ca ad)) (as := [.int (z p)]) (rest := []) (b := gP h 0 3 - 1 + 5) (h := h) (Q' := qI (fun r g => g = h ∧ (r = 1 ∧ (0 ≤ p ∧ p < s.a.n 2) ∨ r = 0 ∧ ¬ (0 ≤ p ∧ p < s.a.n 2)))) ⟨hx, hb, hml, ho, hts⟩ hX hks.1 ?_ hP (fun _ q => q) hS hL.1 ms_X6_has ml_X9_125 dX9_owner_8 rfl (sf_8_2 p2) ⟨_, _, rfl⟩ (d9 := 1) (by omega) (by omega) (Nat.le_of_ble_eq_true rfl) ⟨by omega, by omega⟩ (s_X6_has (sf_8_2 p2) ?_) ?_
  · intro U hU hW
    exact ⟨va_K.moved hW.alike hks.1, nt_warm hW hks.2.1, hks.2.2.1, hX.2 K.s U [] (by rw [hU]; exact hS) hW hks.2.2.2⟩
  · rw [p3]
    exact x_has (n3.rw 2 (by decide)) rfl hp.1 hp.2 (fun a b => ⟨rfl, Or.inl ⟨rfl, a, b⟩⟩) (fun a => ⟨rfl, Or.inr ⟨rfl, a⟩⟩)
  rintro r h' H1 locs1 ⟨x, rfl, rfl, hx9⟩ hP1 hz1 hk1 hS1
  rcases hx9 with ⟨rfl, hin⟩ | ⟨rfl, hin⟩
  · show W K.p K.l K.e K.R K.s K.m K.args K.below K.meth K.c H1 locs1 0 0 _ (F0 K.m 11 ls [.int 1])
    refine lv_if_ne hx hb dX9_owner_11 (tgt := 24) (by decide) (fun _ => ?_) (fun q => absurd q (by decide))
    by_cases k04 : 0 ≤ k ∧ k ≤ 4
    · have et : thr s.a p k = 0 := by unfold thr; rw [if_pos hin, if_pos k04]
      refine W.widen (k := 1) (n := 6) (by omega) (by omega) ?_
      refine vx_ret ?_
      have hW := ow_ans (Q := fun (r : Int32) (g : PH) => thr s.a p k = 0 ∧ r = z (a_owner s.a p k) ∧ IX g w s ∧ PX g s.a) C I hin k04 (fun g I1 K1 => ⟨et, rfl, I1, P.kp K1⟩) H1 locs1 ls hP1 hS1 hL
      rw [c0, c1] at hW
      refine g_mono hW (fun t q => ?_)
      obtain ⟨o, b1, b2, b3, b4⟩ := q
      obtain ⟨⟨r, g, hoc, ⟨x, hr, hq⟩, hp9⟩, hF⟩ := b3
      subst hr
      exact ⟨o, b1, b2, ⟨⟨x, g, hoc, hq, hp9⟩, hF⟩, b4⟩
    · have et : thr s.a p k = 2 := by unfold thr; rw [if_pos hin, if_neg k04]
      have tk : (z k).toInt = k := z_ti hk.1 hk.2
      refine lv_iload_n hx hb dX9_owner_24 rfl (lh_at hL 2 rfl) ?_
      refine lv_tableOut hx hb dX9_owner_25 (x := z k) (by rw [tk]; omega) (tgt := 123) (by decide) ?_
      exact ow_throw (E := EN) (rx := rx13) (names := [EE]) (Y0 := ER) hl C hR ht X (by decide +kernel) (by decide +kernel) (by decide +kernel) (by decide +kernel) (by decide +kernel) (by decide +kernel) (by decide) cl_X9_151 in_EN X.2.2.2.2.1 atN_in atN_ob atN_ot dX9_owner_123 dX9_owner_126 dX9_owner_127 dX9_owner_129 dX9_owner_132 (Or.inr ⟨rfl, et⟩) hP1 hS1 hL e1 e2
  · show W K.p K.l K.e K.R K.s K.m K.args K.below K.meth K.c H1 locs1 0 0 _ (F0 K.m 11 ls [.int 0])
    have et : thr s.a p k = 1 := by unfold thr; rw [if_neg hin]
    refine lv_if_ne hx hb dX9_owner_11 (tgt := 24) (by decide) (fun q => absurd rfl q) (fun _ => ?_)
    exact ow_throw (E := EI) (rx := Bundle.six) (names := [EE]) (Y0 := ER) hl C hR ht X Bundle.six_0 Bundle.six_1 Bundle.six_2 Bundle.six_5 (by decide +kernel) (by decide +kernel) (by decide) cl_X9_129 in_EI X.2.2.2.1 atI_in atI_ob atI_ot dX9_owner_14 dX9_owner_17 dX9_owner_18 dX9_owner_20 dX9_owner_23 (Or.inl ⟨rfl, et⟩) hP1 hS1 hL e1 e2
theorem k_owner {l : Launch} (hl : l.stackTraces = false) (I : IX h w s) (P : PX h s.a) (hp : i32 p) (hk : i32 k) :
    vx_Met l yX9_owner (Cond.code yX9_owner cX9_owner 3 (some .int) :: LT) (rmc 8 1 6) (fun v U => v = #[.ref (ad 0), .int (z p), .int (z k)] ∧ va_P D classes (pw (GX D ca ad) h) U.heap ∧ KS (GX D ca ad) (XS (GX D ca ad)) U ∧ OX o1 o2 (Aw (GX D ca ad)) U) (owQ D ca ad w s p k) (owX D ca ad h s p k) 1 6 (Aw (GX D ca ad)) := by
  refine vx_ofW (cc := cX9_owner) (maxL := 3) (ret := some .int) (by decide) rfl ?_
  intro p0 e s0 m args below meth c s₁ B hml htab hv
  obtain ⟨rfl, hP, hK, hX⟩ := hv
  have hts := atoms_spec (ws := Cond.code yX9_owner cX9_owner 3 (some .int) :: LT) B.pre
  have hown : s0.vm.findClass RX9 = some m.cls := findClass_of_methodNamed B.named
  have hl0 := lv_entry ([Value.ref (ad 0), .int (z p), .int (z k)]) (n := 3) (Nat.le_of_ble_eq_true rfl)
  rw [show (#[Value.ref (ad 0), .int (z p), .int (z k)] : Array Value) = ([Value.ref (ad 0), .int (z p), .int (z k)] : List Value).toArray from rfl, lg_entry_eq]
  exact ow_body (K := (p0, l, e, rmc 8 1 6, s0, m, _, below, meth, c, 1, 6)) hl ⟨B.exec, B.bytes, hml, hown, fun w hw => hts w (List.mem_cons_of_mem _ hw), B.notSynchronized, B.returns, hK, XS_ok _, Nat.le_of_ble_eq_true rfl, Nat.le_of_ble_eq_true rfl, Nat.le_refl _, Nat.le_refl _⟩ rfl rfl (Nat.le_of_ble_eq_true rfl) htab I P hp hk hX hP hl0
end OWB
