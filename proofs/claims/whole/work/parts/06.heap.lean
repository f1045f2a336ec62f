section HROWS
variable {G : Gt} {X : State → Prop} {cc : ByteArray} {own : String} {nL : Nat} {ret : Option FieldType} {d : Nat} {K : Kt} {Q : Option Value → PH → Prop} {h : PH} {pc : Nat} {L : List (Option Value)} {st : List Value}
/-- what the rows of fields need of a class -/
def CF (ci : Nat) (Cn : String) (T : u_T) (N : Nat) (ty : Nat → FieldType) : Prop := classes[ci]? = some (Cn, T, N) ∧ N = fnu ci ∧ (∀ w ∈ u_ws Cn T N, w ∈ LT) ∧ (∀ k, k < N → parseFieldDescriptor (T k).2.2.1 = some (ty k)) ∧ (∀ a, a < N → ∀ b, b < N → a ≠ b → (T a).2.1 ≠ (T b).2.1)
def FL (own : String) (idx : Nat) (f : String × String × String × Bool) : Prop := Cond.fieldLink own idx f.1 f.2.1 f.2.2.1 ∈ LT
def FN (own : String) (idx : Nat) (f : String × String × String × Bool) : Prop := Cond.fieldLinkNest own idx f.1 f.2.1 f.2.2.1 "OwnedSilence" ∈ NT
theorem obj_at {ci i : Nat} (hi : isO G i ci) : (pw G h)[i]? = some (G.ad i, .inr (ci, fsl G h ci i)) := by rw [pw_at hi.1, ce_O hi]
theorem arr_atI {t i n : Nat} (hi : isA G i t n) (ht : t ≠ 1) : (pw G h)[i]? = some (G.ad i, .inl (G.ca t, n, .inl (gI h i))) := by rw [pw_at hi.1, ce_A hi, if_neg ht]
theorem arr_atJ {i n : Nat} (hi : isA G i 1 n) : (pw G h)[i]? = some (G.ad i, .inl (G.ca 1, n, .inr (.inl (gJ h i)))) := by rw [pw_at hi.1, ce_A hi, if_pos rfl]
theorem PW.get0 {ci i k idx : Nat} {v : Value} {Cn : String} {T : u_T} {N : Nat} {ty : Nat → FieldType} (C : CX G X cc own nL ret d K) (cf : CF ci Cn T N ty) (hl : FL own idx (T k)) (hk : k < fnu ci) (hi : isO G i ci) (hv : fval G h ci i k = cv G v) (hd : decode cc pc = .ok (.getfield idx, 3)) (kk : PW G K nL Q h (pc + 3) L (v :: st)) : PW G K nL Q h pc L (.ref i :: st) := by
  intro H locs ls hP hS hL
  obtain ⟨c1, c2, c3, c4, c5⟩ := cf
  subst c2
  refine va_get C.1 C.2.1 C.2.2.2.2.1 c3 C.ow C.ks.1 hP i (obj_at hi) c1 k hk (C.ts hl) (fun _ q => q) (v := cv G v) ?_ hd (kk H locs ls hP hS hL)
  rw [fsl_at hk, hv]
theorem PW.getN0 {ci i k idx : Nat} {v : Value} {Cn : String} {T : u_T} {N : Nat} {ty : Nat → FieldType} (C : CX G X cc own nL ret d K) (cf : CF ci Cn T N ty) (hl : FN own idx (T k)) (hk : k < fnu ci) (hi : isO G i ci) (hv : fval G h ci i k = cv G v) (hd : decode cc pc = .ok (.getfield idx, 3)) (kk : PW G K nL Q h (pc + 3) L (v :: st)) : PW G K nL Q h pc L (.ref i :: st) := by
  intro H locs ls hP hS hL
  obtain ⟨c1, c2, c3, c4, c5⟩ := cf
  subst c2
  refine va_getN C.1 C.2.1 C.2.2.2.2.1 c3 C.ow C.ks.1 hP i (obj_at hi) c1 k hk (C.nw hl rfl) (fun _ q => q) (v := cv G v) ?_ hd (kk H locs ls hP hS hL)
  rw [fsl_at hk, hv]
theorem fvI {ci i k : Nat} (hf : fk ci k = 0) : fval G h ci i k = cv G (.int (gI h i k)) := by unfold fval; rw [hf]; rfl
theorem fvJ {ci i k : Nat} (hf : fk ci k = 1) : fval G h ci i k = cv G (.long (gJ h i k)) := by unfold fval; rw [hf]; rfl
theorem fvP {ci i k : Nat} (hf : fk ci k = 2) (hn : gP h i k ≠ 0) : fval G h ci i k = cv G (.ref (gP h i k - 1)) := by unfold fval; rw [hf]; simp [hn, cv]
theorem fvR {ci i k o : Nat} (hf : fk ci k = o + 3) : fval G h ci i k = cv G (.ref (i + o)) := by unfold fval; rw [hf]; rfl
theorem PW.put0 {ci i k idx : Nat} {v : Value} {h' : PH} {Cn : String} {T : u_T} {N : Nat} {ty : Nat → FieldType} (C : CX G X cc own nL ret d K) (cf : CF ci Cn T N ty) (hl : FL own idx (T k)) (hk : k < fnu ci) (hi : isO G i ci) (hfin : (T k).2.2.2 = false) (hn : narrow (ty k) (cv G v) = cv G v) (hfit : fits (ty k) (cv G v) = true) (hw : (pw G h).set i (G.ad i, .inr (ci, (fsl G h ci i).set k (cv G v))) = pw G h') (hd : decode cc pc = .ok (.putfield idx, 3)) (kk : PW G K nL Q h' (pc + 3) L st) : PW G K nL Q h pc L (v :: .ref i :: st) := by
  intro H locs ls hP hS hL
  obtain ⟨c1, c2, c3, c4, c5⟩ := cf
  subst c2
  refine va_put C.1 C.2.1 C.2.2.2.2.1 c3 ty c4 c5 C.ow C.ks.1 hP (pw_D C.ks.2.2.1) hS i (obj_at hi) c1 k hk (C.ts hl) (fun _ q => q) hfin (c4 k hk) hn hfit (by simpa [fsl] using hk) hd (fun H1 locs1 hP1 hD1 hS1 => ?_)
  rw [hw] at hP1
  exact kk H1 locs1 ls hP1 hS1 hL
theorem PW.putN0 {ci i k idx : Nat} {v : Value} {h' : PH} {Cn : String} {T : u_T} {N : Nat} {ty : Nat → FieldType} (C : CX G X cc own nL ret d K) (cf : CF ci Cn T N ty) (hl : FN own idx (T k)) (hk : k < fnu ci) (hi : isO G i ci) (hfin : (T k).2.2.2 = false) (hn : narrow (ty k) (cv G v) = cv G v) (hfit : fits (ty k) (cv G v) = true) (hw : (pw G h).set i (G.ad i, .inr (ci, (fsl G h ci i).set k (cv G v))) = pw G h') (hd : decode cc pc = .ok (.putfield idx, 3)) (kk : PW G K nL Q h' (pc + 3) L st) : PW G K nL Q h pc L (v :: .ref i :: st) := by
  intro H locs ls hP hS hL
  obtain ⟨c1, c2, c3, c4, c5⟩ := cf
  subst c2
  refine va_putN C.1 C.2.1 C.2.2.2.2.1 c3 ty c4 c5 C.ow C.ks.1 hP (pw_D C.ks.2.2.1) hS i (obj_at hi) c1 k hk (C.nw hl rfl) (fun _ q => q) hfin (c4 k hk) hn hfit (by simpa [fsl] using hk) hd (fun H1 locs1 hP1 hD1 hS1 => ?_)
  rw [hw] at hP1
  exact kk H1 locs1 ls hP1 hS1 hL
theorem z_nar {x : Int32} (hx : x = 0 ∨ x = 1) : narrow .boolean (.int x) = .int x ∧ fits .boolean (.int x) = true := by
  rcases hx with rfl | rfl <;> exact ⟨by decide +kernel, by decide +kernel⟩
/-! arrays -/
theorem PW.iald {i n : Nat} {j : Int32} (C : CX G X cc own nL ret d K) (hd : decode cc pc = .ok (.iaload, 1)) (hi : isA G i 0 n) (hj : vp_in j n) (k : PW G K nL Q h (pc + 1) L (.int (gI h i (iN j)) :: st)) : PW G K nL Q h pc L (.int j :: .ref i :: st) :=
  fun H locs ls hP hS hL => va_iald C.1 C.2.1 C.ks.1 hP i 0 (arr_atI hi (by decide)) rfl hj hd (k H locs ls hP hS hL)
theorem PW.bald {i n : Nat} {j : Int32} (C : CX G X cc own nL ret d K) (hd : decode cc pc = .ok (.baload, 1)) (hi : isA G i 2 n) (hj : vp_in j n) (k : PW G K nL Q h (pc + 1) L (.int (gI h i (iN j)) :: st)) : PW G K nL Q h pc L (.int j :: .ref i :: st) :=
  fun H locs ls hP hS hL => va_bald C.1 C.2.1 C.ks.1 hP i 2 (arr_atI hi (by decide)) rfl hj hd (k H locs ls hP hS hL)
theorem PW.zald {i n : Nat} {j : Int32} (C : CX G X cc own nL ret d K) (hd : decode cc pc = .ok (.baload, 1)) (hi : isA G i 3 n) (hj : vp_in j n) (k : PW G K nL Q h (pc + 1) L (.int (gI h i (iN j)) :: st)) : PW G K nL Q h pc L (.int j :: .ref i :: st) :=
  fun H locs ls hP hS hL => va_zald C.1 C.2.1 C.ks.1 hP i 3 (arr_atI hi (by decide)) rfl hj hd (k H locs ls hP hS hL)
theorem PW.lald {i n : Nat} {j : Int32} (C : CX G X cc own nL ret d K) (hd : decode cc pc = .ok (.laload, 1)) (hi : isA G i 1 n) (hj : vp_in j n) (k : PW G K nL Q h (pc + 1) L (.long (gJ h i (iN j)) :: st)) : PW G K nL Q h pc L (.int j :: .ref i :: st) :=
  fun H locs ls hP hS hL => va_lald C.1 C.2.1 C.ks.1 hP i 1 (arr_atJ hi) rfl hj hd (k H locs ls hP hS hL)
theorem PW.iast {i n : Nat} {j x : Int32} (C : CX G X cc own nL ret d K) (hd : decode cc pc = .ok (.iastore, 1)) (hi : isA G i 0 n) (hj : vp_in j n) (k : PW G K nL Q (sI h i (iN j) x) (pc + 1) L st) : PW G K nL Q h pc L (.int x :: .int j :: .ref i :: st) := by
  intro H locs ls hP hS hL
  refine va_iast C.1 C.2.1 C.ks.1 hP (pw_D C.ks.2.2.1) hS i 0 (arr_atI hi (by decide)) rfl hj hd (fun H1 locs1 hP1 hD1 hS1 => ?_)
  rw [pw_aI hi (by decide)] at hP1
  exact k H1 locs1 ls hP1 hS1 hL
theorem PW.last {i n : Nat} {j : Int32} {x : Int64} (C : CX G X cc own nL ret d K) (hd : decode cc pc = .ok (.lastore, 1)) (hi : isA G i 1 n) (hj : vp_in j n) (k : PW G K nL Q (sJ h i (iN j) x) (pc + 1) L st) : PW G K nL Q h pc L (.long x :: .int j :: .ref i :: st) := by
  intro H locs ls hP hS hL
  refine va_last C.1 C.2.1 C.ks.1 hP (pw_D C.ks.2.2.1) hS i 1 (arr_atJ hi) rfl hj hd (fun H1 locs1 hP1 hD1 hS1 => ?_)
  rw [pw_aJ hi] at hP1
  exact k H1 locs1 ls hP1 hS1 hL
theorem PW.bast {i n : Nat} {j x : Int32} (C : CX G X cc own nL ret d K) (hd : decode cc pc = .ok (.bastore, 1)) (hi : isA G i 2 n) (hj : vp_in j n) (k : PW G K nL Q (sI h i (iN j) (vp_nar .byte x)) (pc + 1) L st) : PW G K nL Q h pc L (.int x :: .int j :: .ref i :: st) := by
  intro H locs ls hP hS hL
  refine va_bast C.1 C.2.1 C.ks.1 hP (pw_D C.ks.2.2.1) hS i 2 (arr_atI hi (by decide)) rfl hj hd (fun H1 locs1 hP1 hD1 hS1 => ?_)
  rw [pw_aI hi (by decide)] at hP1
  exact k H1 locs1 ls hP1 hS1 hL
theorem PW.zast {i n : Nat} {j x : Int32} (C : CX G X cc own nL ret d K) (hd : decode cc pc = .ok (.bastore, 1)) (hi : isA G i 3 n) (hj : vp_in j n) (k : PW G K nL Q (sI h i (iN j) (vp_nar .boolean x)) (pc + 1) L st) : PW G K nL Q h pc L (.int x :: .int j :: .ref i :: st) := by
  intro H locs ls hP hS hL
  refine va_zast C.1 C.2.1 C.ks.1 hP (pw_D C.ks.2.2.1) hS i 3 (arr_atI hi (by decide)) rfl hj hd (fun H1 locs1 hP1 hD1 hS1 => ?_)
  rw [pw_aI hi (by decide)] at hP1
  exact k H1 locs1 ls hP1 hS1 hL
theorem PW.alen {i t n : Nat} {v : Int32} (C : CX G X cc own nL ret d K) (hd : decode cc pc = .ok (.arraylength, 1)) (hi : isA G i t n) (ht : t < 4) (hv : Int32.ofNat n = v) (k : PW G K nL Q h (pc + 1) L (.int v :: st)) : PW G K nL Q h pc L (.ref i :: st) := by
  intro H locs ls hP hS hL
  have e : (tyl G)[t]? = some (G.ca t, aty t) := by
    match t, ht with
    | 0, _ => rfl
    | 1, _ => rfl
    | 2, _ => rfl
    | 3, _ => rfl
  exact va_alen C.1 C.2.1 C.ks.1 hP i t (by rw [pw_at hi.1, ce_A hi]) e hv hd (k H locs ls hP hS hL)
/-! ends -/
theorem PW.iret {x : Int32} (C : CX G X cc own nL (some .int) d K) (hd : decode cc pc = .ok (.ireturn, 1)) (hq : Q (some (.int x)) h) : PW G K nL Q h pc L [.int x] :=
  fun H locs ls hP hS hL => W.iret C.1 C.2.1 C.2.2.2.2.2.2.1 (fun t ht hW => ⟨⟨some (.int x), h, rfl, hq, by rw [ht]; exact hP⟩, hS.F ht⟩) hS.2.2 hd C.2.2.2.2.2.1
theorem PW.zret {x : Int32} (C : CX G X cc own nL (some .boolean) d K) (hd : decode cc pc = .ok (.ireturn, 1)) (hx : x = 0 ∨ x = 1) (hq : Q (some (.int x)) h) : PW G K nL Q h pc L [.int x] :=
  fun H locs ls hP hS hL => W.zret C.1 C.2.1 C.2.2.2.2.2.2.1 (z_nar hx).1 (fun t ht hW => ⟨⟨some (.int x), h, rfl, hq, by rw [ht]; exact hP⟩, hS.F ht⟩) hS.2.2 hd C.2.2.2.2.2.1
theorem PW.lret {x : Int64} (C : CX G X cc own nL (some .long) d K) (hd : decode cc pc = .ok (.lreturn, 1)) (hq : Q (some (.long x)) h) : PW G K nL Q h pc L [.long x] :=
  fun H locs ls hP hS hL => W.lret C.1 C.2.1 C.2.2.2.2.2.2.1 (fun t ht hW => ⟨⟨some (.long x), h, rfl, hq, by rw [ht]; exact hP⟩, hS.F ht⟩) hS.2.2 hd C.2.2.2.2.2.1
theorem PW.vret (C : CX G X cc own nL none d K) (hd : decode cc pc = .ok (.return_, 1)) (hq : Q none h) : PW G K nL Q h pc L [] :=
  fun H locs ls hP hS hL => W.vret C.1 C.2.1 C.2.2.2.2.2.2.1 (fun t ht hW => ⟨⟨none, h, rfl, hq, by rw [ht]; exact hP⟩, hS.F ht⟩) hS.2.2 hd C.2.2.2.2.2.1
theorem PW.aret {i : Nat} {Cn : String} (C : CX G X cc own nL (some (.object Cn)) d K) (hd : decode cc pc = .ok (.areturn, 1)) (hq : Q (some (.ref i)) h) : PW G K nL Q h pc L [.ref i] :=
  fun H locs ls hP hS hL => W.aret C.1 C.2.1 C.2.2.2.2.2.2.1 (Or.inl ⟨_, rfl⟩) (Or.inr ⟨_, rfl⟩) (fun t ht hW => ⟨⟨some (.ref i), h, rfl, hq, by rw [ht]; exact hP⟩, hS.F ht⟩) hS.2.2 hd C.2.2.2.2.2.1
end HROWS
section CROWS
variable {G : Gt} {X : State → Prop} {cc : ByteArray} {own : String} {nL : Nat} {ret : Option FieldType} {d : Nat} {K : Kt} {Q : Option Value → PH → Prop} {h : PH} {pc : Nat} {L : List (Option Value)} {st : List Value}
/-- what a call needs of the method that is called: an instance's, a static one -/
def MV (y : MethodName) (cc : ByteArray) (mL : Nat) (ret : Option FieldType) (n : Nat) : Prop := Cond.code y cc mL ret ∈ LT ∧ Cond.initialized y.cls ∈ LT ∧ (y.cls ≠ "java/lang/invoke/MethodHandle" ∧ y.cls ≠ "java/lang/invoke/VarHandle" ∧ (parseMethodDescriptor y.desc).map (fun d => d.parameters.length) = some n) ∧ Cond.instanceMethod y ∈ LT ∧ Cond.selects y.cls y y ∈ LT
def MS (y : MethodName) (cc : ByteArray) (mL : Nat) (ret : Option FieldType) (n : Nat) : Prop := Cond.code y cc mL ret ∈ LT ∧ Cond.initialized y.cls ∈ LT ∧ (y.cls ≠ "java/lang/invoke/MethodHandle" ∧ y.cls ≠ "java/lang/invoke/VarHandle" ∧ (parseMethodDescriptor y.desc).map (fun d => d.parameters.length) = some n) ∧ Cond.static y ∈ LT
theorem LT_cons {y : MethodName} {c9 : ByteArray} {mL : Nat} {r9 : Option FieldType} (hc : Cond.code y c9 mL r9 ∈ LT) : GoodIn LT (Cond.code y c9 mL r9 :: LT) := by
  intro w hw
  rcases List.mem_cons.mp hw with rfl | hw
  · exact ⟨hc, good_of_word (List.mem_filter.mp hc).2⟩
  · exact ⟨hw, good_of_word (List.mem_filter.mp hw).2⟩
theorem sp_pre {H : Heap} {locs : List Loc} {as : List Value} (C : CX G X cc own nL ret d K) (hP : va_P G.D classes (pw G h) H) (hS : va_S (Aw G) K.s.heap H locs) : PreS K.s H (fun v U => v = (as.map (cv G)).toArray ∧ va_P G.D classes (pw G h) U.heap ∧ KS G X U) (as.map (cv G)) := by
  obtain ⟨k1, k2, k3, k4⟩ := C.ks
  refine ⟨fun a U g mk q => ⟨q.1, q.2.1, va_K.moved (u := U) (U := U.calling g mk a) (Vm.Alike.refl U.vm) q.2.2.1, nt_same (s := U) (U := U.calling g mk a) rfl q.2.2.2.1, q.2.2.2.2.1, C.2.2.2.2.2.2.2.2.1.1 U g mk a q.2.2.2.2.2⟩, fun U hU hW => ⟨rfl, by rw [hU]; exact hP, va_K.moved hW.alike k1, nt_warm hW k2, k3, ?_⟩⟩
  exact C.2.2.2.2.2.2.2.2.1.2 K.s U locs (by rw [hU]; exact hS) hW k4
theorem run_in {H : Heap} {locs : List Loc} {ls : Array Slot} {Q' : Option Value → PH → Prop} {as rest : List Value} {a : Array Value} {g : JFrame} (hg : g = F0 K.m pc ls as) (hS : va_S (Aw G) K.s.heap H locs)
    (hr : va_Run K.p K.l K.e K.R K.s K.m K.args K.below K.meth K.c H locs K.c0 K.s0 0 0 g (rest.map (cv G)) (Qp G Q' a) (Aw G)) (hL : lh G nL L ls)
    (kk : ∀ (r : Option Value) (h' : PH), Q' r h' → PW G K nL Q h' (pc + 3) L (r.toList ++ rest)) :
    W K.p K.l K.e K.R K.s K.m K.args K.below K.meth K.c H locs K.c0 K.s0 (MQ K.below (Qp G Q) K.args K.s K.c0 K.s0 (Aw G)) (F0 K.m pc ls as) := by
  subst hg
  intro T hT Xs
  obtain ⟨v, st₀, t, T', L9, h0, X', hL9, e1, e2, ⟨⟨r, h', hv, hq, hp⟩, hz, hk⟩, stp⟩ := hr T hT Xs
  have hv' : v = r.map (cv G) := by cases hv; rfl
  subst hv'
  rw [h0] at hz hk
  have hS' : va_S (Aw G) K.s.heap T'.heap (locs ++ L9) := by
    refine ⟨Nat.le_trans hS.1 (by rw [e1]; exact hz), fun q h1 h2 => ?_, fun q hq => ?_⟩
    · rw [e1, hk q (Nat.lt_of_lt_of_le h1 hS.1) h2]
      exact hS.2.1 q h1 h2
    · rcases List.mem_append.mp hq with h | h
      · exact hS.2.2 q h
      · exact hL9 q h
  obtain ⟨t2, a1, b1⟩ := kk r h' hq T'.heap (locs ++ L9) ls (by rw [e1]; exact hp) hS' hL T' rfl X'
  refine ⟨t2, stp t2 ?_, b1⟩
  have : (r.map (cv G)).toList ++ rest.map (cv G) = (r.toList ++ rest).map (cv G) := by cases r <;> simp
  rw [show ({ F0 K.m pc ls as with pc := (F0 K.m pc ls as).pc + 3, stack := (r.map (cv G)).toList ++ rest.map (cv G) } : JFrame) = F0 K.m (pc + 3) ls ((r.toList ++ rest).map (cv G)) by rw [← this]]
  exact a1
theorem cat_map (rest : List Value) : ((rest.map (cv G)).map fun v => v.category) = rest.map fun v => v.category := by
  rw [List.map_map]
  apply List.map_congr_left
  intro v _
  exact cv_cat G v
theorem PW.callV {y : MethodName} {c9 : ByteArray} {mL n idx d9 ci b : Nat} {r9 : Option FieldType} {as : List Value} {Q' : Option Value → PH → Prop} (C : CX G X cc own nL ret d K) (hm : MV y c9 mL r9 n) (hl : Cond.methodLink own idx y ∈ LT) (hd : decode cc pc = .ok (.invokevirtual idx, 3))
    (hn : as.length = n) (hb : isO G b ci) (hci : ∃ T N, classes[ci]? = some (y.cls, T, N)) (hroom : d9 + 1 ≤ d) (hmL : mL ≤ 50) (hc : (st.map fun v => v.category).sum ≤ 8)
    (hs : Sp G X K.l d9 y c9 mL r9 (.ref b :: as) h Q') (kk : ∀ (r : Option Value) (h' : PH), Q' r h' → PW G K nL Q h' (pc + 3) L (r.toList ++ st)) : PW G K nL Q h pc L (as.reverse ++ .ref b :: st) := by
  intro H locs ls hP hS hL
  obtain ⟨m1, m2, m3, m4, m5⟩ := hm
  obtain ⟨hx, hbb, hml, ho, hts, hlk, hrt, hks, hX, hR1, hR2, hR3, hR4⟩ := id C
  have hpre := sp_pre (as := .ref b :: as) C hP hS
  obtain ⟨T9, N9, hcl⟩ := hci
  have hrecv : ∃ cellB : Cell, H[G.ad b]? = some cellB ∧ cellB.vm.isStatics = false ∧ K.s.vm.findClass y.cls = some cellB.cls := va_recv hks.1 hP (ci := ci) (q0 := b) hcl (obj_at hb)
  refine run_in rfl hS (va_runV (As := as.map (cv G)) (rest := st.map (cv G)) (b := G.ad b) ⟨hx, hbb, hml, ho, hts⟩ (hs hX) ⟨callB_of n hts (LT_cons m1) rfl rfl rfl (hts _ m2) (hts _ hl) m3 ⟨?_, ?_⟩, hts _ m4, hts _ m5⟩ ⟨hpre.1, hrecv, hpre.2⟩ rfl (by simpa using hn) hL.1 (by simp [cv]) ?_ hd ?_) hL kk
  · exact Nat.le_trans hroom hR1
  · simp only [rmd]; omega
  · exact lv_room (by rw [cat_map]; exact hc)
  · exact ⟨hR3, hR4⟩
theorem PW.callVN {y : MethodName} {c9 : ByteArray} {mL n idx d9 ci b : Nat} {r9 : Option FieldType} {as : List Value} {Q' : Option Value → PH → Prop} (C : CX G X cc own nL ret d K) (hm : MV y c9 mL r9 n) (hl : Cond.methodLinkNest own idx y "OwnedSilence" ∈ NT) (hd : decode cc pc = .ok (.invokevirtual idx, 3))
    (hn : as.length = n) (hb : isO G b ci) (hci : ∃ T N, classes[ci]? = some (y.cls, T, N)) (hroom : d9 + 1 ≤ d) (hmL : mL ≤ 50) (hc : (st.map fun v => v.category).sum ≤ 8)
    (hs : Sp G X K.l d9 y c9 mL r9 (.ref b :: as) h Q') (kk : ∀ (r : Option Value) (h' : PH), Q' r h' → PW G K nL Q h' (pc + 3) L (r.toList ++ st)) : PW G K nL Q h pc L (as.reverse ++ .ref b :: st) := by
  intro H locs ls hP hS hL
  obtain ⟨m1, m2, m3, m4, m5⟩ := hm
  obtain ⟨hx, hbb, hml, ho, hts, hlk, hrt, hks, hX, hR1, hR2, hR3, hR4⟩ := id C
  have hpre := sp_pre (as := .ref b :: as) C hP hS
  obtain ⟨T9, N9, hcl⟩ := hci
  have hrecv : ∃ cellB : Cell, H[G.ad b]? = some cellB ∧ cellB.vm.isStatics = false ∧ K.s.vm.findClass y.cls = some cellB.cls := va_recv hks.1 hP (ci := ci) (q0 := b) hcl (obj_at hb)
  refine run_in rfl hS (va_runVN (As := as.map (cv G)) (rest := st.map (cv G)) (b := G.ad b) ⟨hx, hbb, hml, ho, hts⟩ (hs hX) ⟨va_cnB n hts (LT_cons m1) rfl rfl rfl (hks.2.1 _ hl) (hts _ m2) m3 ⟨?_, ?_⟩, hts _ m4, hts _ m5⟩ ⟨hpre.1, hrecv, hpre.2⟩ rfl (by simpa using hn) hL.1 (by simp [cv]) ?_ hd ?_) hL kk
  · exact Nat.le_trans hroom hR1
  · simp only [rmd]; omega
  · exact lv_room (by rw [cat_map]; exact hc)
  · exact ⟨hR3, hR4⟩
theorem PW.callS {y : MethodName} {c9 : ByteArray} {mL n idx d9 : Nat} {r9 : Option FieldType} {as : List Value} {Q' : Option Value → PH → Prop} (C : CX G X cc own nL ret d K) (hm : MS y c9 mL r9 n) (hl : Cond.methodLink own idx y ∈ LT) (hd : decode cc pc = .ok (.invokestatic idx, 3))
    (hn : as.length = n) (hroom : d9 + 1 ≤ d) (hmL : mL ≤ 50) (hc : (st.map fun v => v.category).sum ≤ 8)
    (hs : Sp G X K.l d9 y c9 mL r9 as h Q') (kk : ∀ (r : Option Value) (h' : PH), Q' r h' → PW G K nL Q h' (pc + 3) L (r.toList ++ st)) : PW G K nL Q h pc L (as.reverse ++ st) := by
  intro H locs ls hP hS hL
  obtain ⟨m1, m2, m3, m4⟩ := hm
  obtain ⟨hx, hbb, hml, ho, hts, hlk, hrt, hks, hX, hR1, hR2, hR3, hR4⟩ := id C
  have hpre := sp_pre (as := as) C hP hS
  refine run_in rfl hS (va_runS (As := as.map (cv G)) (rest := st.map (cv G)) ⟨hx, hbb, hml, ho, hts⟩ (hs hX) ⟨callB_of n hts (LT_cons m1) rfl rfl rfl (hts _ m2) (hts _ hl) m3 ⟨?_, ?_⟩, hts _ m4⟩ hpre rfl (by simpa using hn) hL.1 (by simp) ?_ hd ?_) hL kk
  · exact Nat.le_trans hroom hR1
  · simp only [rmd]; omega
  · exact lv_room (by rw [cat_map]; exact hc)
  · exact ⟨hR3, hR4⟩
theorem PW.callSN {y : MethodName} {c9 : ByteArray} {mL n idx d9 : Nat} {r9 : Option FieldType} {as : List Value} {Q' : Option Value → PH → Prop} (C : CX G X cc own nL ret d K) (hm : MS y c9 mL r9 n) (hl : Cond.methodLinkNest own idx y "OwnedSilence" ∈ NT) (hd : decode cc pc = .ok (.invokestatic idx, 3))
    (hn : as.length = n) (hroom : d9 + 1 ≤ d) (hmL : mL ≤ 50) (hc : (st.map fun v => v.category).sum ≤ 8)
    (hs : Sp G X K.l d9 y c9 mL r9 as h Q') (kk : ∀ (r : Option Value) (h' : PH), Q' r h' → PW G K nL Q h' (pc + 3) L (r.toList ++ st)) : PW G K nL Q h pc L (as.reverse ++ st) := by
  intro H locs ls hP hS hL
  obtain ⟨m1, m2, m3, m4⟩ := hm
  obtain ⟨hx, hbb, hml, ho, hts, hlk, hrt, hks, hX, hR1, hR2, hR3, hR4⟩ := id C
  have hpre := sp_pre (as := as) C hP hS
  refine run_in rfl hS (va_runSN (As := as.map (cv G)) (rest := st.map (cv G)) ⟨hx, hbb, hml, ho, hts⟩ (hs hX) ⟨va_cnB n hts (LT_cons m1) rfl rfl rfl (hks.2.1 _ hl) (hts _ m2) m3 ⟨?_, ?_⟩, hts _ m4, trivial⟩ hpre rfl (by simpa using hn) hL.1 (by simp) ?_ hd ?_) hL kk
  · exact Nat.le_trans hroom hR1
  · simp only [rmd]; omega
  · exact lv_room (by rw [cat_map]; exact hc)
  · exact ⟨hR3, hR4⟩
/-! the kit's own Math -/
end CROWS
