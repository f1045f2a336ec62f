/-! ===== the law's own method owner: it calls the class's, and catches ===== -/
def hhL : List (Nat × Nat × Nat × Nat) := [(0, 10, 13, 13), (0, 10, 17, 15)]
theorem ml_L_7 : Cond.methodLink RL 7 yX9_owner ∈ LT := tb_in6 (i := 91) (by decide +kernel) (by decide +kernel)
theorem cl_L_13 : Cond.classLink RL 13 EI ∈ LT := tb_in6 (i := 89) (by decide +kernel) (by decide +kernel)
theorem cl_L_15 : Cond.classLink RL 15 EN ∈ LT := tb_in6 (i := 90) (by decide +kernel) (by decide +kernel)
theorem met_WH {l : Launch} {y : MethodName} {ws ws' : List Cond} {rm : Room} {Pc : Array Value → State → Prop} {Qc : Array Value → State → Outcome → State → Prop} {mc ms : Nat} {free : Addr → Prop} {cc : ByteArray} {maxL : Nat} {ret : Option FieldType} {hh : List (Nat × Nat × Nat × Nat)}
    (hy : plainName y.cls = true) (hw : ws = Cond.codeWith y cc maxL ret hh :: ws')
    (body : ∀ p e s m args below meth c s₁, BodyLoose p l y (headSpec ws rm) cc maxL ret e s m args below meth c s₁ → c.maxLocals = maxL → Pc args s →
      W p l e (headSpec ws rm).room s m args below meth c s.heap [] 0 0 (MQ below Qc args s mc ms free) (entryFrame m args maxL)) : Met l y ws rm Pc Qc mc ms free := by
  refine MetFree.of_bodyS (code := cc) (maxLocals := maxL) (ret := ret) hy ?_ ?_
  · intro args s m h hn
    obtain ⟨m9, meth, c, hn9, h1, h2, h3, h4, -, h5, h6, -⟩ := Cond.codeWith_spec (atoms_spec (ws := ws) h _ (by rw [hw]; exact List.mem_cons_self))
    cases hn.symm.trans hn9
    exact ⟨meth, c, h1, h2, h3, h4, h5, h6⟩
  · intro p e s m args below meth c s₁ B hml hP _
    have hh0 : s₁.heap = s.heap := by rw [B.state]; rfl
    obtain ⟨t, a1, o, b1, b2, b3⟩ := body p e s m args below meth c s₁ B hml hP s₁ hh0 (Stand.of_body B)
    exact ⟨t, o, a1, b1, b2, ⟨b3.1, b3.2⟩⟩
section LOW
variable {p : Program} {l : Launch} {e : Env} {R : Room} {s : State} {m : MethodId} {args : Array Value} {below : List Frame} {meth : Method} {c : Code} {H : Heap} {locs : List Loc} {cells slots : Nat} {Q : State → Prop}
/-- one long put into an array of one -/
theorem g_last {cc : ByteArray} {D : va_G} {cl : List vw_C} {tys : List (ClassId × FieldType)} {a : Nat} {A : Nat → Prop} {H0 : Heap} {ls : Array Slot} {pc : Nat} {rest : List Value} (hexec : p.tables.exec = Jvm.exec) (hb : c.code = cc) (hK : va_K D cl tys s) (t0 : Nat) {cA : ClassId} {f : Nat → Int64} (hP : va_P D cl [(a, .inl (cA, 1, .inr (.inl f)))] H) (hS : va_S A H0 H locs) (ha : A a) (ht : tys[t0]? = some (cA, .long)) {x : Int64} (hdg : decode cc pc = .ok (.lastore, 1))
    (kk : ∀ (H1 : Heap) (locs1 : List Loc), va_P D cl [(a, .inl (cA, 1, .inr (.inl (fun _ => x))))] H1 → H1.size = H.size → (∀ q : Nat, q ≠ a → H1[q]? = H[q]?) → va_S A H0 H1 locs1 → W p l e R s m args below meth c H1 locs1 cells slots Q (F0 m (pc + 1) ls rest)) : W p l e R s m args below meth c H locs cells slots Q (F0 m pc ls (.long x :: .int 0 :: .ref a :: rest)) := by
  refine W.last hexec hb (hP 0 _ rfl) ((hK.2 t0 _ ht).1 1 (fun j => .long (f j))) (fun q => by cases q) (by show ¬ ((0 : Int32) < 0 ∨ (arrV _ _ _).slots.size ≤ _); rw [arrV_size]; exact (by decide : ¬ ((0 : Int32) < 0 ∨ 1 ≤ (0 : Int32).toNatClampNeg))) rfl rfl hdg fun H1 e z oq => ?_
  refine kk H1 _ (fun k q hk => ?_) z oq (hS.put z oq ha)
  have hz : k < 1 := (List.getElem?_eq_some_iff.mp hk).1
  rw [show k = 0 by omega] at hk
  cases hk
  show H1[a]? = some (vp_cell _ _)
  rw [e]
  rw [vp_cell_l, vp_cell_l, show ((0 : Int32).toNatClampNeg) = 0 from rfl]
  rw [arrV_store]
  exact congrArg (fun g : Fin 1 → Value => some ({ cls := cA, slots := Array.ofFn g, vm := .none } : Cell)) (funext fun j => by
    show updV (fun j => Value.long (f j)) 0 (.long x) j.val = .long x
    unfold updV
    rw [if_pos (by omega)])
end LOW
section LOC
variable {D : va_G} {ca : Nat → ClassId} {ad : Nat → Nat} {h : PH} {w : Nat} {s : St} {p k : Int} {o1 o2 oa : Nat} {f : Nat → Int64}
abbrev loA (D : va_G) (ca : Nat → ClassId) (ad : Nat → Nat) (oa : Nat) : Nat → Prop := fun q => Aw (GX D ca ad) q ∨ q = oa
abbrev loQ (D : va_G) (ca : Nat → ClassId) (ad : Nat → Nat) (oa w : Nat) (s : St) (p k : Int) : Array Value → State → Outcome → State → Prop := va_Qi (fun (r : Int32) (u : PH × (Nat → Int64)) => r = z (thr s.a p k) ∧ IX u.1 w s ∧ PX u.1 s.a ∧ (thr s.a p k = 0 → u.2 0 = (z (a_owner s.a p k)).toInt64)) (fun u t => va_P D classes (pw (GX D ca ad) u.1) t.heap ∧ va_P D classes [(oa, .inl (ca 1, 1, .inr (.inl u.2)))] t.heap) (loA D ca ad oa)
set_option maxHeartbeats 2000000 in
theorem k_lowner {l : Launch} (hl : l.stackTraces = false) (I : IX h w s) (P : PX h s.a) (hp : i32 p) (hk : i32 k) (hoa : ¬ Aw (GX D ca ad) oa) :
    Met l yL_owner (Cond.codeWith yL_owner cL_owner 5 (some .int) hhL :: LT) (rmc 10 1 6) (fun v U => v = #[.ref (ad 0), .int (z p), .int (z k), .ref oa] ∧ va_P D classes (pw (GX D ca ad) h) U.heap ∧ va_P D classes [(oa, .inl (ca 1, 1, .inr (.inl f)))] U.heap ∧ KS (GX D ca ad) (XS (GX D ca ad)) U ∧ OX o1 o2 (Aw (GX D ca ad)) U) (loQ D ca ad oa w s p k) 1 6 (loA D ca ad oa) := by
  refine met_WH (cc := cL_owner) (maxL := 5) (ret := some .int) (hh := hhL) (by decide) rfl ?_
  intro p0 e s0 m args below meth c s₁ B hml hv
  obtain ⟨rfl, hP, hPo, hK, hX⟩ := hv
  have hts0 := atoms_spec (ws := Cond.codeWith yL_owner cL_owner 5 (some .int) hhL :: LT) B.pre
  have hts : ∀ w ∈ LT, w.before _ s0 = true := fun w hw => hts0 w (List.mem_cons_of_mem _ hw)
  have hown : s0.vm.findClass RL = some m.cls := findClass_of_methodNamed B.named
  have htab := vx_table (x := yL_owner) B (hts0 _ List.mem_cons_self)
  have hl0 := lv_entry ([Value.ref (ad 0), .int (z p), .int (z k), .ref oa]) (n := 5) (Nat.le_of_ble_eq_true rfl)
  rw [show (#[Value.ref (ad 0), .int (z p), .int (z k), .ref oa] : Array Value) = ([Value.ref (ad 0), .int (z p), .int (z k), .ref oa] : List Value).toArray from rfl, lg_entry_eq]
  have hx := B.exec
  have hb := B.bytes
  have hrt := B.returns
  have hlk := B.notSynchronized
  generalize (lg_sl ([Value.ref (ad 0), .int (z p), .int (z k), .ref oa]) ++ List.replicate (5 - (lg_sl ([Value.ref (ad 0), .int (z p), .int (z k), .ref oa])).length) Slot.unset).toArray = ls at hl0 ⊢
  have hl0 : lv_has ls 5 [(0, .ref (ad 0)), (1, .int (z p)), (2, .int (z k)), (3, .ref oa)] := hl0
  have hS : va_S (loA D ca ad oa) s0.heap s0.heap [] := va_S.rf
  refine lv_aload_n hx hb dL_owner_0 rfl (lv_at hl0 3 rfl) ?_
  refine lv_iconst (v := 0) hx hb dL_owner_1 (by decide) ?_
  refine lv_aload_n hx hb dL_owner_2 rfl (lv_at hl0 0 rfl) ?_
  refine lv_iload_n hx hb dL_owner_3 rfl (lv_at hl0 1 rfl) ?_
  refine lv_iload_n hx hb dL_owner_4 rfl (lv_at hl0 2 rfl) ?_
  have hrecv : ∃ cellB : Cell, s0.heap[ad 0]? = some cellB ∧ cellB.vm.isStatics = false ∧ s0.vm.findClass yX9_owner.cls = some cellB.cls := va_recv hK.1 hP (ci := 9) (q0 := 0) rfl (obj_at (G := GX D ca ad) oX_0)
  obtain ⟨m1, m2, m3, m4, m5⟩ := ms_X9_owner
  refine vx_calli (vx_runV (As := [.int (z p), .int (z k)]) (rest := [.int 0, .ref oa]) (b := ad 0) ⟨hx, hb, hml, hown, hts⟩ (k_owner (D := D) (ca := ca) (ad := ad) (o1 := o1) (o2 := o2) hl I P hp hk) ⟨callB_of 2 hts (LT_cons m1) rfl rfl rfl (hts _ m2) (hts _ ml_L_7) m3 ⟨Nat.le_of_ble_eq_true rfl, Nat.le_of_ble_eq_true rfl⟩, hts _ m4, hts _ m5⟩
    ⟨fun a U g mk q => ⟨q.1, q.2.1, ⟨va_K.moved (u := U) (U := U.calling g mk a) (Vm.Alike.refl U.vm) q.2.2.1.1, nt_same (s := U) (U := U.calling g mk a) rfl q.2.2.1.2.1, q.2.2.1.2.2.1, (XS_ok (GX D ca ad)).1 U g mk a q.2.2.1.2.2.2⟩, q.2.2.2.calling g mk a⟩, hrecv, fun U hU hW => ⟨rfl, by rw [hU]; exact hP, ⟨va_K.moved hW.alike hK.1, nt_warm hW hK.2.1, hK.2.2.1, (XS_ok (GX D ca ad)).2 s0 U [] (by rw [hU]; exact va_S.rf) hW hK.2.2.2⟩, hX.warm (fun q _ _ => by rw [hU]) hW⟩⟩
    rfl rfl hl0.1 rfl (lv_room (Nat.le_of_ble_eq_true rfl)) dL_owner_5 ⟨Nat.le_of_ble_eq_true rfl, Nat.le_of_ble_eq_true rfl⟩) hS (fun q _ hq => Or.inl hq) (fun q hq => Or.inl hq) (fun q _ hq => Or.inl hq) ?_ ?_
  · intro E ce q9 u t H1 locs1 ht _ _ hBX hz hk1 hS1 hce hcv hcl
    obtain ⟨hE, hP1⟩ := hBX
    rw [ht] at hP1
    have hPo1 : va_P D classes [(oa, .inl (ca 1, 1, .inr (.inl f)))] H1 := hPo.kept (fun k q hq => by
      have hz9 : k < 1 := (List.getElem?_eq_some_iff.mp hq).1
      have hlt := (hPo k q hq).lt
      rw [show k = 0 by omega] at hq
      cases hq
      exact hk1 oa hlt hoa)
    rcases hE with ⟨rfl, et⟩ | ⟨rfl, et⟩
    · refine vx_catch (name := EI) hown [] ⟨0, 10, 13, 13⟩ [⟨0, 10, 17, 15⟩] htab (fun z hz => by cases hz) rfl (by decide) (hts _ cl_L_13) (va_Nw.use rfl (hX.2.2.1 _ (by simp [OB]))) hce hcv hcl ?_
      refine lv_astore (lv' := [(4, .ref q9), (0, .ref (ad 0)), (1, .int (z p)), (2, .int (z k)), (3, .ref oa)]) hx hb dL_owner_13 hl0 (by decide) rfl (fun ls1 hl1 => ?_)
      refine lv_iconst (v := 1) hx hb dL_owner_15 (by decide) ?_
      refine W.iret hx hb hrt (fun t ht hW => ⟨⟨1, (h, f), rfl, ⟨by rw [et]; rfl, I, P, fun e0 => by omega⟩, by rw [ht]; exact hP1, by rw [ht]; exact hPo1⟩, ⟨by rw [ht]; exact hS1.1, fun q h1 h2 => by rw [ht]; exact hS1.2.1 q h1 h2⟩⟩) hS1.2.2 dL_owner_16 hlk
    · refine vx_catch (name := EN) hown [⟨0, 10, 13, 13⟩] ⟨0, 10, 17, 15⟩ [] htab (fun z hz => Or.inr ?_) rfl (by decide) (hts _ cl_L_15) (va_Nw.use rfl (hX.2.2.1 _ (by simp [OB]))) hce hcv hcl ?_
      · simp only [List.mem_cons, List.not_mem_nil, or_false] at hz
        subst hz
        exact ⟨by decide, EI, hts _ cl_L_13, hX.2.2.2.2.2⟩
      refine lv_astore (lv' := [(4, .ref q9), (0, .ref (ad 0)), (1, .int (z p)), (2, .int (z k)), (3, .ref oa)]) hx hb dL_owner_17 hl0 (by decide) rfl (fun ls1 hl1 => ?_)
      refine lv_iconst (v := 2) hx hb dL_owner_19 (by decide) ?_
      refine W.iret hx hb hrt (fun t ht hW => ⟨⟨2, (h, f), rfl, ⟨by rw [et]; rfl, I, P, fun e0 => by omega⟩, by rw [ht]; exact hP1, by rw [ht]; exact hPo1⟩, ⟨by rw [ht]; exact hS1.1, fun q h1 h2 => by rw [ht]; exact hS1.2.1 q h1 h2⟩⟩) hS1.2.2 dL_owner_20 hlk
  · intro r u t H1 locs1 ht _ hpost hP1 hz hk1 hS1
    obtain ⟨et, er, I1, P1⟩ := hpost
    rw [ht] at hP1
    have hPo1 : va_P D classes [(oa, .inl (ca 1, 1, .inr (.inl f)))] H1 := hPo.kept (fun k q hq => by
      have hz9 : k < 1 := (List.getElem?_eq_some_iff.mp hq).1
      have hlt := (hPo k q hq).lt
      rw [show k = 0 by omega] at hq
      cases hq
      exact hk1 oa hlt hoa)
    refine lv_i2l (v := r.toInt64) hx hb dL_owner_8 rfl ?_
    refine g_last hx hb hK.1 1 hPo1 hS1 (Or.inr rfl) rfl dL_owner_9 (fun H2 locs2 hPo2 hz2 oq2 hS2 => ?_)
    have hP2 : va_P D classes (pw (GX D ca ad) u) H2 := hP1.kept (fun k q hq => oq2 q.1 (fun e9 => hoa (by
      rw [← e9]
      exact (pw_D (G := GX D ca ad) (h := u) hK.2.2.1).2 k q hq)))
    refine lv_goto hx hb dL_owner_10 (tgt := 21) (by decide) ?_
    refine lv_iconst (v := 0) hx hb dL_owner_21 (by decide) ?_
    refine W.iret hx hb hrt (fun t ht hW => ⟨⟨0, (u, fun _ => r.toInt64), rfl, ⟨by rw [et]; rfl, I1, P1, fun _ => by rw [er]⟩, by rw [ht]; exact hP2, by rw [ht]; exact hPo2⟩, ⟨by rw [ht]; exact hS2.1, fun q h1 h2 => by rw [ht]; exact hS2.2.1 q h1 h2⟩⟩) hS2.2.2 dL_owner_22 hlk
end LOC
