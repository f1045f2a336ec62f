/-! ===== MAKING OBJECTS: the cells from B on, in the order in which they are made ===== -/
def wsB : Nat → List va_E → va_W
  | _, [] => []
  | B, e :: r => (B, e) :: wsB (B + 1) r
theorem wsB_at : ∀ (cs : List va_E) (B i : Nat), (wsB B cs)[i]? = cs[i]?.map (fun e => (B + i, e))
  | [], B, i => by simp [wsB]
  | e :: r, B, i => by
    cases i with
    | zero => simp [wsB]
    | succ i =>
      simp only [wsB, List.getElem?_cons_succ]
      rw [wsB_at r (B + 1) i]
      congr 1
      funext x
      rw [show B + 1 + i = B + (i + 1) by omega]
theorem wsB_some {cs : List va_E} {B i : Nat} {e : va_E} (h : cs[i]? = some e) : (wsB B cs)[i]? = some (B + i, e) := by rw [wsB_at, h]; rfl
theorem wsB_app : ∀ (a b : List va_E) (B : Nat), wsB B (a ++ b) = wsB B a ++ wsB (B + a.length) b
  | [], b, B => by simp [wsB]
  | e :: r, b, B => by
    simp only [List.cons_append, wsB, List.length_cons]
    rw [wsB_app r b (B + 1), show B + 1 + r.length = B + (r.length + 1) by omega]
theorem wsB_set : ∀ (cs : List va_E) (B i : Nat) (e : va_E), (wsB B cs).set i (B + i, e) = wsB B (cs.set i e)
  | [], B, i, e => by simp [wsB]
  | x :: r, B, i, e => by
    cases i with
    | zero => simp [wsB]
    | succ i =>
      simp only [wsB, List.set_cons_succ]
      rw [show B + (i + 1) = B + 1 + i by omega, wsB_set r (B + 1) i e]
theorem wsB_D (cs : List va_E) (B : Nat) : va_D (fun q => B ≤ q) (wsB B cs) := by
  have key : ∀ (k : Nat) (q : Nat × va_E), (wsB B cs)[k]? = some q → q.1 = B + k := by
    intro k q hk
    rw [wsB_at] at hk
    cases hc : cs[k]? with
    | none => rw [hc] at hk; cases hk
    | some e => rw [hc] at hk; cases hk; rfl
  refine ⟨fun i j x y hi hj hxy => ?_, fun k q hk => ?_⟩
  · rw [key i x hi, key j y hj] at hxy; omega
  · show B ≤ q.1
    rw [key k q hk]; omega
def esz : va_E → Nat
  | .inr o => fnu o.1
  | .inl a => a.2.1
def szl (cs : List va_E) : Nat := (cs.map esz).sum
def KC (D : va_G) (ca ad : Nat → Nat) (B : Nat) (U : State) : Prop := va_K D classes [(ca 0, .int), (ca 1, .long), (ca 2, .byte), (ca 3, .boolean)] U ∧ (∀ w ∈ NT, va_Nw w U) ∧ XSA ad (fun q => B ≤ q) U
def rmc (d mc ms : Nat) : Room := { frames := d, cells := mc, slots := ms, locals := 80 * d }
def Qc (D : va_G) (B : Nat) (cs' : List va_E) : Array Value → State → Outcome → State → Prop := fun _ st oc t => oc = .returned none ∧ va_P D classes (wsB B cs') t.heap ∧ t.heap.size = B + cs'.length ∧ va_F (fun q => B ≤ q) st t
/-- a constructor's contract: the cells cs become cs' -/
def Mc (D : va_G) (ca ad : Nat → Nat) (B : Nat) (l : Launch) (d mc ms : Nat) (y : MethodName) (cc : ByteArray) (mL : Nat) (as : List Value) (cs cs' : List va_E) : Prop :=
  Met l y (Cond.code y cc mL none :: LT) (rmc d mc ms) (fun v U => v = as.toArray ∧ B ≤ U.heap.size ∧ va_P D classes (wsB B cs) U.heap ∧ U.heap.size = B + cs.length ∧ KC D ca ad B U) (Qc D B cs') mc ms (fun q => B ≤ q)
section CT
variable {p : Program} {l : Launch} {e : Env} {R : Room} {s : State} {m : MethodId} {args : Array Value} {below : List Frame} {meth : Method} {c : Code} {H : Heap} {locs : List Loc} {cells slots : Nat} {Q : State → Prop}
variable {cc : ByteArray} {pc : Nat} {ls : Array Slot} {rest : List Value} {D : va_G} {ca ad : Nat → Nat} {B : Nat} {cs : List va_E} {own : String}
theorem cw_new {ci index N : Nat} {Cn : String} {T : u_T} {ty : Nat → FieldType} (hexec : p.tables.exec = Jvm.exec) (hb : c.code = cc) (hts : ∀ w ∈ LT, w.before args s = true) (hown : s.vm.findClass own = some m.cls) (hK : KC D ca ad B s) (cf : CF ci Cn T N ty) (hcl : Cond.classLink own index Cn ∈ LT) (hinst : Cond.instantiable Cn N ∈ LT) (hini : Cond.initialized Cn ∈ LT)
    {fs : List Value} (hfs : ∀ j, j < N → defaultValue (ty j) = vp_V fs j) (hP : va_P D classes (wsB B cs) H) (hz : H.size = B + cs.length) (hS : va_S (fun q => B ≤ q) s.heap H locs) (hcells : cells + 1 ≤ R.cells) (hslots : slots + N ≤ R.slots) (hdg : decode cc pc = .ok (.new index, 3))
    (kk : ∀ (H1 : Heap), va_P D classes (wsB B (cs ++ [.inr (ci, fs)])) H1 → H1.size = B + (cs ++ [(Sum.inr (ci, fs) : va_E)]).length → va_S (fun q => B ≤ q) s.heap H1 locs → W p l e R s m args below meth c H1 locs (cells + 1) (slots + N) Q (F0 m (pc + 3) ls (.ref (B + cs.length) :: rest))) : W p l e R s m args below meth c H locs cells slots Q (F0 m pc ls rest) := by
  obtain ⟨c1, c2, c3, c4, c5⟩ := cf
  have hKn := hK.1.1 ci _ c1
  refine W.newcK hexec hb hown (hts _ hcl) (hts _ hinst) (hts _ hini) rfl hdg hcells hslots hKn.2.1 hz fun H1 kC hkC e1 z1 o1 => ?_
  refine kk H1 ?_ (by rw [z1]; simp; omega) ⟨Nat.le_trans hS.1 (by omega), fun x h1 h2 => (o1 x (by have := hS.1; omega)).trans (hS.2.1 x h1 h2), hS.2.2⟩
  rw [wsB_app]
  refine va_P.app (va_P.kept hP (fun k x hx => o1 x.1 (by have := (hP k x hx).lt; omega))) (fun k x hx => ?_)
  have hz2 : k < 1 := (List.getElem?_eq_some_iff.mp hx).1
  rw [show k = 0 by omega] at hx
  cases hx
  exact ⟨_, c1, (u_born ty hts c3 hKn hkC e1 c4).to hfs⟩
theorem cw_newa {t N : Nat} {atype : ArrayType} {n : Int32} (hexec : p.tables.exec = Jvm.exec) (hb : c.code = cc) (hts : ∀ w ∈ LT, w.before args s = true) (hK : KC D ca ad B s) (hty : newarray.typeOf atype = aty t) (ht : t < 4) (harr : Cond.arrayClass (newarray.typeOf atype) ∈ LT)
    {a0 : vp_A} (ha : ∀ cA : ClassId, vp_cell cA a0 = arrV cA N (fun _ => defaultValue (newarray.typeOf atype))) (hn : ¬ n < 0) (hN : n.toNatClampNeg = N) (hbytes : N * componentBytes (newarray.typeOf atype) ≤ 536870912)
    (hP : va_P D classes (wsB B cs) H) (hz : H.size = B + cs.length) (hS : va_S (fun q => B ≤ q) s.heap H locs) (hcells : cells + 1 ≤ R.cells) (hslots : slots + N ≤ R.slots) (hdg : decode cc pc = .ok (.newarray atype, 2))
    (kk : ∀ (H1 : Heap), va_P D classes (wsB B (cs ++ [.inl (ca t, a0)])) H1 → H1.size = B + (cs ++ [(Sum.inl (ca t, a0) : va_E)]).length → va_S (fun q => B ≤ q) s.heap H1 locs → W p l e R s m args below meth c H1 locs (cells + 1) (slots + N) Q (F0 m (pc + 2) ls (.ref (B + cs.length) :: rest))) : W p l e R s m args below meth c H locs cells slots Q (F0 m pc ls (.int n :: rest)) := by
  refine va_newaK hexec hb (hts _ harr) rfl hdg rfl hn hN hbytes hcells hslots hz fun H1 cA e1 z1 o1 hAr hNm => ?_
  have hca : cA = ca t := by
    have h1 : ([(ca 0, FieldType.int), (ca 1, .long), (ca 2, .byte), (ca 3, .boolean)] : List (ClassId × FieldType))[t]? = some (ca t, aty t) := by
      match t, ht with
      | 0, _ => rfl
      | 1, _ => rfl
      | 2, _ => rfl
      | 3, _ => rfl
    have h2 := (hK.1.2 t _ h1).2
    rw [hty] at hNm
    have h3 : s.vm.findClass ("[" ++ (aty t).toString) = some (ca t) := by
      match t, ht, h2 with
      | 0, _, h2 => exact h2
      | 1, _, h2 => exact h2
      | 2, _, h2 => exact h2
      | 3, _, h2 => exact h2
    exact Option.some.inj (hNm.symm.trans h3)
  subst hca
  refine kk H1 ?_ (by rw [z1]; simp; omega) ⟨Nat.le_trans hS.1 (by omega), fun x h1 h2 => (o1 x (by have := hS.1; omega)).trans (hS.2.1 x h1 h2), hS.2.2⟩
  rw [wsB_app]
  refine va_P.app (va_P.kept hP (fun k x hx => o1 x.1 (by have := (hP k x hx).lt; omega))) (fun k x hx => ?_)
  have hz2 : k < 1 := (List.getElem?_eq_some_iff.mp hx).1
  rw [show k = 0 by omega] at hx
  cases hx
  show H1[B + cs.length]? = some (vp_cell _ _)
  rw [ha]
  exact e1
theorem cw_putF {ci i k idx N : Nat} {v : Value} {fs : List Value} {Cn : String} {T : u_T} {ty : Nat → FieldType} (hexec : p.tables.exec = Jvm.exec) (hb : c.code = cc) (hts : ∀ w ∈ LT, w.before args s = true) (hown : s.vm.findClass own = some m.cls) (hK : KC D ca ad B s) (cf : CF ci Cn T N ty) (hl : FL own idx (T k)) (hk : k < N) (hfin : (T k).2.2.2 = true) (hin2 : meth.name = "<init>") (hdecl : (T k).1 = own) (hi : cs[i]? = some (.inr (ci, fs))) (hn : narrow (ty k) v = v) (hfit : fits (ty k) v = true) (hlen : k < fs.length)
    (hP : va_P D classes (wsB B cs) H) (hz : H.size = B + cs.length) (hS : va_S (fun q => B ≤ q) s.heap H locs) (hdg : decode cc pc = .ok (.putfield idx, 3))
    (kk : ∀ (H1 : Heap) (locs1 : List Loc), va_P D classes (wsB B (cs.set i (.inr (ci, fs.set k v)))) H1 → H1.size = B + (cs.set i (.inr (ci, fs.set k v))).length → va_S (fun q => B ≤ q) s.heap H1 locs1 → W p l e R s m args below meth c H1 locs1 cells slots Q (F0 m (pc + 3) ls rest)) : W p l e R s m args below meth c H locs cells slots Q (F0 m pc ls (v :: .ref (B + i) :: rest)) := by
  obtain ⟨c1, c2, c3, c4, c5⟩ := cf
  have hD := wsB_D cs B
  have he : (wsB B cs)[i]? = some (B + i, .inr (ci, fs)) := wsB_some hi
  have hap := va_apart (own := own) hts c3 ty c4 c5 hK.1 c1
  obtain ⟨r, h1, cell, q1, q2, q3, q4⟩ := hP i _ he
  have hr : r = (Cn, T, N) := Option.some.inj (h1.symm.trans c1)
  subst hr
  obtain ⟨hSl, hfc, kC, hkC, hkind⟩ := hK.1.1 ci _ c1
  obtain ⟨cf, kf, fi, f, hif, hsl⟩ := hSl k hk
  have hlay := hts _ (c3 _ (u_in_lay hk))
  unfold u_lay at hlay
  rw [if_pos hfin] at hlay
  have hst := (u_facts hfc hkC (u_lays hts c3 hk) hif).1
  have hcf : m.cls = cf := by
    obtain ⟨_, _, c', _, _, _, -, -, hf', -, -, -, hown2, -⟩ := Cond.laysFinal_spec hlay
    have e1 : c' = cf := by have := hif.symm.trans hf'; simp at this; exact this.1.symm
    rw [hdecl] at hown2
    rw [← e1]; exact Option.some.inj (hown.symm.trans hown2)
  have h6 := u_fits hfc hkC hkind (Or.inr hlay) hif (c4 k hk) hn hfit
  refine W.putFinK hexec hb hown (hts _ hl) hif hst hcf hin2 (by rw [q2]; exact h6) q1 q3 (by rw [hsl]; exact k2_hasslot (q4 k hk)) rfl rfl hdg fun H' e1 e2 e3 => ?_
  rw [hsl] at e1 ⊢
  refine kk H' _ ?_ (by rw [e2, hz]; simp) (hS.put e2 e3 (hD.2 i _ he))
  rw [← wsB_set]
  exact hP.set hD he ⟨_, c1, t_OB.to (V := updV (vp_V fs) k v) ⟨_, e1, q2, q3, t_set q4 hap hk v⟩ (fun j _ => vp_updV_set hlen v j)⟩ e3
theorem cw_putF1 {ci i k idx N : Nat} {v : Value} {fs : List Value} {Cn : String} {T : u_T} {ty : Nat → FieldType} (hexec : p.tables.exec = Jvm.exec) (hb : c.code = cc) (hts : ∀ w ∈ LT, w.before args s = true) (hown : s.vm.findClass own = some m.cls) (hK : KC D ca ad B s) (cf : CF ci Cn T N ty) (hl : FL own idx (T k)) (hk : k < N) (hfin : (T k).2.2.2 = true) (hin2 : meth.name = "<init>") (hdecl : (T k).1 = own) (hi : cs[i]? = some (.inr (ci, fs))) (hn : narrow (ty k) v = v) (hfit : fits (ty k) v = true) (hlen : k < fs.length)
    (hP : va_P D classes (wsB B cs) H) (hz : H.size = B + cs.length) (hS : va_S (fun q => B ≤ q) s.heap H locs) (hdg : decode cc pc = .ok (.putfield idx, 3))
    (kk : ∀ (H1 : Heap) (sl : Nat), va_P D classes (wsB B (cs.set i (.inr (ci, fs.set k v)))) H1 → H1.size = B + (cs.set i (.inr (ci, fs.set k v))).length → va_S (fun q => B ≤ q) s.heap H1 (locs ++ [⟨B + i, sl⟩]) → W p l e R s m args below meth c H1 (locs ++ [⟨B + i, sl⟩]) cells slots Q (F0 m (pc + 3) ls rest)) : W p l e R s m args below meth c H locs cells slots Q (F0 m pc ls (v :: .ref (B + i) :: rest)) := by
  obtain ⟨c1, c2, c3, c4, c5⟩ := cf
  have hD := wsB_D cs B
  have he : (wsB B cs)[i]? = some (B + i, .inr (ci, fs)) := wsB_some hi
  have hap := va_apart (own := own) hts c3 ty c4 c5 hK.1 c1
  obtain ⟨r, h1, cell, q1, q2, q3, q4⟩ := hP i _ he
  have hr : r = (Cn, T, N) := Option.some.inj (h1.symm.trans c1)
  subst hr
  obtain ⟨hSl, hfc, kC, hkC, hkind⟩ := hK.1.1 ci _ c1
  obtain ⟨cf, kf, fi, f, hif, hsl⟩ := hSl k hk
  have hlay := hts _ (c3 _ (u_in_lay hk))
  unfold u_lay at hlay
  rw [if_pos hfin] at hlay
  have hst := (u_facts hfc hkC (u_lays hts c3 hk) hif).1
  have hcf : m.cls = cf := by
    obtain ⟨_, _, c', _, _, _, -, -, hf', -, -, -, hown2, -⟩ := Cond.laysFinal_spec hlay
    have e1 : c' = cf := by have := hif.symm.trans hf'; simp at this; exact this.1.symm
    rw [hdecl] at hown2
    rw [← e1]; exact Option.some.inj (hown.symm.trans hown2)
  have h6 := u_fits hfc hkC hkind (Or.inr hlay) hif (c4 k hk) hn hfit
  refine W.putFinK hexec hb hown (hts _ hl) hif hst hcf hin2 (by rw [q2]; exact h6) q1 q3 (by rw [hsl]; exact k2_hasslot (q4 k hk)) rfl rfl hdg fun H' e1 e2 e3 => ?_
  rw [hsl] at e1 ⊢
  refine kk H' _ ?_ (by rw [e2, hz]; simp) (hS.put e2 e3 (hD.2 i _ he))
  rw [← wsB_set]
  exact hP.set hD he ⟨_, c1, t_OB.to (V := updV (vp_V fs) k v) ⟨_, e1, q2, q3, t_set q4 hap hk v⟩ (fun j _ => vp_updV_set hlen v j)⟩ e3
theorem cw_put {ci i k idx N : Nat} {v : Value} {fs : List Value} {Cn : String} {T : u_T} {ty : Nat → FieldType} (hexec : p.tables.exec = Jvm.exec) (hb : c.code = cc) (hts : ∀ w ∈ LT, w.before args s = true) (hown : s.vm.findClass own = some m.cls) (hK : KC D ca ad B s) (cf : CF ci Cn T N ty) (hl : FL own idx (T k)) (hk : k < N) (hfin : (T k).2.2.2 = false) (hi : cs[i]? = some (.inr (ci, fs))) (hn : narrow (ty k) v = v) (hfit : fits (ty k) v = true) (hlen : k < fs.length)
    (hP : va_P D classes (wsB B cs) H) (hz : H.size = B + cs.length) (hS : va_S (fun q => B ≤ q) s.heap H locs) (hdg : decode cc pc = .ok (.putfield idx, 3))
    (kk : ∀ (H1 : Heap) (locs1 : List Loc), va_P D classes (wsB B (cs.set i (.inr (ci, fs.set k v)))) H1 → H1.size = B + (cs.set i (.inr (ci, fs.set k v))).length → va_S (fun q => B ≤ q) s.heap H1 locs1 → W p l e R s m args below meth c H1 locs1 cells slots Q (F0 m (pc + 3) ls rest)) : W p l e R s m args below meth c H locs cells slots Q (F0 m pc ls (v :: .ref (B + i) :: rest)) := by
  obtain ⟨c1, c2, c3, c4, c5⟩ := cf
  have hD := wsB_D cs B
  have he : (wsB B cs)[i]? = some (B + i, .inr (ci, fs)) := wsB_some hi
  have hap := va_apart (own := own) hts c3 ty c4 c5 hK.1 c1
  obtain ⟨r, h1, cell, q1, q2, q3, q4⟩ := hP i _ he
  have hr : r = (Cn, T, N) := Option.some.inj (h1.symm.trans c1)
  subst hr
  obtain ⟨hSl, hfc, kC, hkC, hkind⟩ := hK.1.1 ci _ c1
  obtain ⟨cf, kf, fi, f, hif, hsl⟩ := hSl k hk
  have hlay := hts _ (c3 _ (u_in_lay hk))
  unfold u_lay at hlay
  rw [if_neg (by rw [hfin]; decide)] at hlay
  have hst := (u_facts hfc hkC (u_lays hts c3 hk) hif).1
  have h6 := u_store hfc hkC hkind hlay hif (c4 k hk) hn hfit
  refine W.putK hexec hb (f := f) ⟨hown, hts _ hl, ⟨_, _, _, hif⟩, hst⟩ (by rw [q2]; exact h6) q1 q3 (by rw [hsl]; exact k2_hasslot (q4 k hk)) rfl rfl hdg fun H' e1 e2 e3 => ?_
  rw [hsl] at e1 ⊢
  refine kk H' _ ?_ (by rw [e2, hz]; simp) (hS.put e2 e3 (hD.2 i _ he))
  rw [← wsB_set]
  exact hP.set hD he ⟨_, c1, t_OB.to (V := updV (vp_V fs) k v) ⟨_, e1, q2, q3, t_set q4 hap hk v⟩ (fun j _ => vp_updV_set hlen v j)⟩ e3
theorem cw_iast {i n : Nat} {f : Nat → Int32} {j x : Int32} (hexec : p.tables.exec = Jvm.exec) (hb : c.code = cc) (hK : KC D ca ad B s) (hi : cs[i]? = some (.inl (ca 0, n, .inl f))) (hin : vp_in j n)
    (hP : va_P D classes (wsB B cs) H) (hz : H.size = B + cs.length) (hS : va_S (fun q => B ≤ q) s.heap H locs) (hdg : decode cc pc = .ok (.iastore, 1))
    (kk : ∀ (H1 : Heap) (locs1 : List Loc), va_P D classes (wsB B (cs.set i (.inl (ca 0, n, .inl (upd f (iN j) x))))) H1 → H1.size = B + (cs.set i (.inl (ca 0, n, .inl (upd f (iN j) x)))).length → va_S (fun q => B ≤ q) s.heap H1 locs1 → W p l e R s m args below meth c H1 locs1 cells slots Q (F0 m (pc + 1) ls rest)) : W p l e R s m args below meth c H locs cells slots Q (F0 m pc ls (.int x :: .int j :: .ref (B + i) :: rest)) := by
  have hD := wsB_D cs B
  have ha : (wsB B cs)[i]? = some (B + i, .inl (ca 0, n, .inl f)) := wsB_some hi
  refine W.iast hexec hb (hP i _ ha) ((hK.1.2 0 _ rfl).1 n (fun j => .int (f j))) (fun q => by cases q) (by show ¬ (j < 0 ∨ (arrV _ _ _).slots.size ≤ _); rw [arrV_size]; exact hin) rfl rfl hdg fun H1 e z oq => ?_
  refine kk H1 _ ?_ (by rw [z, hz]; simp) (hS.put z oq (hD.2 i _ ha))
  rw [← wsB_set]
  refine hP.set hD ha ?_ oq
  show H1[B + i]? = some (vp_cell _ _)
  rw [e]
  rw [vp_cell_i, vp_cell_i, arrV_store]
  congr 2
  funext q
  by_cases hq : q = j.toNatClampNeg
  · subst hq
    simp [updV, upd]
  · simp [updV, upd, hq]
theorem cw_pre {as : List Value} (hK : KC D ca ad B s) (hP : va_P D classes (wsB B cs) H) (hz : H.size = B + cs.length) (hS : va_S (fun q => B ≤ q) s.heap H locs) : PreS s H (fun v U => v = as.toArray ∧ B ≤ U.heap.size ∧ va_P D classes (wsB B cs) U.heap ∧ U.heap.size = B + cs.length ∧ KC D ca ad B U) as := by
  obtain ⟨k1, k2, k3⟩ := hK
  refine ⟨fun a U g mk q => ⟨q.1, q.2.1, q.2.2.1, q.2.2.2.1, va_K.moved (u := U) (U := U.calling g mk a) (Vm.Alike.refl U.vm) q.2.2.2.2.1, nt_same (s := U) (U := U.calling g mk a) rfl q.2.2.2.2.2.1, XSA.calling g mk a q.2.2.2.2.2.2⟩, fun U hU hW => ⟨rfl, by rw [hU]; omega, by rw [hU]; exact hP, by rw [hU]; exact hz, va_K.moved hW.alike k1, nt_warm hW k2, XSA.warm (by rw [hU]; exact hS.2.1) hW k3⟩⟩
/-- what the call of a constructor needs of it -/
def MI (y : MethodName) (cc : ByteArray) (mL n : Nat) : Prop := Cond.code y cc mL none ∈ LT ∧ Cond.initialized y.cls ∈ LT ∧ (y.cls ≠ "java/lang/invoke/MethodHandle" ∧ y.cls ≠ "java/lang/invoke/VarHandle" ∧ (parseMethodDescriptor y.desc).map (fun d => d.parameters.length) = some n) ∧ Cond.instanceMethod y ∈ LT ∧ y.name = "<init>"
theorem cw_in {nL d9 mc ms : Nat} {cs' : List va_E} {as : List Value} {a : Array Value} (hS : va_S (fun q => B ≤ q) s.heap H locs) (hr : va_Run p l e R s m args below meth c H locs cells slots mc ms (F0 m pc ls as) rest (Qc D B cs' a) (fun q => B ≤ q))
    (kk : ∀ (H1 : Heap) (locs1 : List Loc), va_P D classes (wsB B cs') H1 → H1.size = B + cs'.length → va_S (fun q => B ≤ q) s.heap H1 locs1 → W p l e R s m args below meth c H1 locs1 (cells + mc) (slots + ms) Q (F0 m (pc + 3) ls rest)) : W p l e R s m args below meth c H locs cells slots Q (F0 m pc ls as) := by
  intro T hT X
  obtain ⟨v, st₀, t, T', L9, h0, X', hL9, e1, e2, ⟨hv, hp, hsz, hzz, hk⟩, stp⟩ := hr T hT X
  cases hv
  rw [h0] at hzz hk
  have hS' : va_S (fun q => B ≤ q) s.heap T'.heap (locs ++ L9) := by
    refine ⟨Nat.le_trans hS.1 (by rw [e1]; exact hzz), fun q h1 h2 => ?_, fun q hq => ?_⟩
    · rw [e1, hk q (Nat.lt_of_lt_of_le h1 hS.1) h2]
      exact hS.2.1 q h1 h2
    · rcases List.mem_append.mp hq with h | h
      · exact hS.2.2 q h
      · exact hL9 q h
  obtain ⟨t2, a1, b1⟩ := kk T'.heap (locs ++ L9) (by rw [e1]; exact hp) (by rw [e1]; exact hsz) hS' T' rfl X'
  exact ⟨t2, stp t2 a1, b1⟩
theorem cw_call {y : MethodName} {c9 : ByteArray} {mL n idx d9 mc ms nL b : Nat} {as : List Value} {cs' : List va_E} (hexec : p.tables.exec = Jvm.exec) (hb : c.code = cc) (hml : c.maxLocals = nL) (hts : ∀ w ∈ LT, w.before args s = true) (hown : s.vm.findClass own = some m.cls) (hK : KC D ca ad B s) (hm : MI y c9 mL n) (hl : Cond.methodLink own idx y ∈ LT) (hdg : decode cc pc = .ok (.invokespecial idx, 3)) (hn : as.length = n) (hls : ls.size = nL) (hfr : d9 + 1 ≤ R.frames) (hlo : 80 * d9 + 70 ≤ R.locals) (hmL : mL ≤ 50) (hc : (rest.map fun v => v.category).sum ≤ 8) (hcells : cells + mc ≤ R.cells) (hslots : slots + ms ≤ R.slots)
    (hs : Mc D ca ad B l d9 mc ms y c9 mL (.ref b :: as) cs cs') (hP : va_P D classes (wsB B cs) H) (hz : H.size = B + cs.length) (hS : va_S (fun q => B ≤ q) s.heap H locs)
    (kk : ∀ (H1 : Heap) (locs1 : List Loc), va_P D classes (wsB B cs') H1 → H1.size = B + cs'.length → va_S (fun q => B ≤ q) s.heap H1 locs1 → W p l e R s m args below meth c H1 locs1 (cells + mc) (slots + ms) Q (F0 m (pc + 3) ls rest)) : W p l e R s m args below meth c H locs cells slots Q (F0 m pc ls (as.reverse ++ .ref b :: rest)) := by
  obtain ⟨m1, m2, m3, m4, m5⟩ := hm
  refine cw_in (nL := nL) (d9 := d9) hS (va_runI (As := as) (rest := rest) (b := b) ⟨hexec, hb, hml, hown, hts⟩ hs ⟨callB_of n hts (LT_cons m1) rfl rfl rfl (hts _ m2) (hts _ hl) m3 ⟨hfr, by simp only [rmc]; omega⟩, m5, hts _ m4⟩ (cw_pre hK hP hz hS) rfl hn hls rfl (lv_room hc) hdg ⟨hcells, hslots⟩) kk
theorem cw_callN {y : MethodName} {c9 : ByteArray} {mL n idx d9 mc ms nL b : Nat} {as : List Value} {cs' : List va_E} (hexec : p.tables.exec = Jvm.exec) (hb : c.code = cc) (hml : c.maxLocals = nL) (hts : ∀ w ∈ LT, w.before args s = true) (hown : s.vm.findClass own = some m.cls) (hK : KC D ca ad B s) (hm : MI y c9 mL n) (hl : Cond.methodLinkNest own idx y "OwnedSilence" ∈ NT) (hdg : decode cc pc = .ok (.invokespecial idx, 3)) (hn : as.length = n) (hls : ls.size = nL) (hfr : d9 + 1 ≤ R.frames) (hlo : 80 * d9 + 70 ≤ R.locals) (hmL : mL ≤ 50) (hc : (rest.map fun v => v.category).sum ≤ 8) (hcells : cells + mc ≤ R.cells) (hslots : slots + ms ≤ R.slots)
    (hs : Mc D ca ad B l d9 mc ms y c9 mL (.ref b :: as) cs cs') (hP : va_P D classes (wsB B cs) H) (hz : H.size = B + cs.length) (hS : va_S (fun q => B ≤ q) s.heap H locs)
    (kk : ∀ (H1 : Heap) (locs1 : List Loc), va_P D classes (wsB B cs') H1 → H1.size = B + cs'.length → va_S (fun q => B ≤ q) s.heap H1 locs1 → W p l e R s m args below meth c H1 locs1 (cells + mc) (slots + ms) Q (F0 m (pc + 3) ls rest)) : W p l e R s m args below meth c H locs cells slots Q (F0 m pc ls (as.reverse ++ .ref b :: rest)) := by
  obtain ⟨m1, m2, m3, m4, m5⟩ := hm
  refine cw_in (nL := nL) (d9 := d9) hS (va_runIN (As := as) (rest := rest) (b := b) ⟨hexec, hb, hml, hown, hts⟩ hs ⟨va_cnB n hts (LT_cons m1) rfl rfl rfl (hK.2.1 _ hl) (hts _ m2) m3 ⟨hfr, by simp only [rmc]; omega⟩, m5, hts _ m4⟩ (cw_pre hK hP hz hS) rfl hn hls rfl (lv_room hc) hdg ⟨hcells, hslots⟩) kk
theorem cx_new {ci index N o nr : Nat} {cs0 r r' : List va_E} {Cn : String} {T : u_T} {ty : Nat → FieldType} (hexec : p.tables.exec = Jvm.exec) (hb : c.code = cc) (hts : ∀ w ∈ LT, w.before args s = true) (hown : s.vm.findClass own = some m.cls) (hK : KC D ca ad B s) (cf : CF ci Cn T N ty) (hcl : Cond.classLink own index Cn ∈ LT) (hinst : Cond.instantiable Cn N ∈ LT) (hini : Cond.initialized Cn ∈ LT)
    {fs : List Value} (hfs : ∀ j, j < N → defaultValue (ty j) = vp_V fs j) (ho : cs0.length = o) (hnr : r.length = nr) (hr : r ++ [.inr (ci, fs)] = r') (hP : va_P D classes (wsB B (cs0 ++ r)) H) (hz : H.size = B + (o + nr)) (hS : va_S (fun q => B ≤ q) s.heap H locs) (hcells : cells + 1 ≤ R.cells) (hslots : slots + N ≤ R.slots) (hdg : decode cc pc = .ok (.new index, 3))
    (kk : ∀ (H1 : Heap), va_P D classes (wsB B (cs0 ++ r')) H1 → H1.size = B + (o + (nr + 1)) → va_S (fun q => B ≤ q) s.heap H1 locs → W p l e R s m args below meth c H1 locs (cells + 1) (slots + N) Q (F0 m (pc + 3) ls (.ref (B + (o + nr)) :: rest))) : W p l e R s m args below meth c H locs cells slots Q (F0 m pc ls rest) := by
  subst hr; subst ho; subst hnr
  refine cw_new hexec hb hts hown hK cf hcl hinst hini hfs hP (by rw [hz]; simp) hS hcells hslots hdg (fun H1 hP1 hz1 hS1 => ?_)
  rw [List.append_assoc] at hP1
  have := kk H1 hP1 (by rw [hz1]; simp <;> omega) hS1
  rw [List.length_append]
  exact this
theorem cx_newa {t N o nr : Nat} {cs0 r r' : List va_E} {atype : ArrayType} {n : Int32} (hexec : p.tables.exec = Jvm.exec) (hb : c.code = cc) (hts : ∀ w ∈ LT, w.before args s = true) (hK : KC D ca ad B s) (hty : newarray.typeOf atype = aty t) (ht : t < 4) (harr : Cond.arrayClass (newarray.typeOf atype) ∈ LT)
    {a0 : vp_A} (ha : ∀ cA : ClassId, vp_cell cA a0 = arrV cA N (fun _ => defaultValue (newarray.typeOf atype))) (hn : ¬ n < 0) (hN : n.toNatClampNeg = N) (hbytes : N * componentBytes (newarray.typeOf atype) ≤ 536870912) (ho : cs0.length = o) (hnr : r.length = nr) (hr : r ++ [.inl (ca t, a0)] = r')
    (hP : va_P D classes (wsB B (cs0 ++ r)) H) (hz : H.size = B + (o + nr)) (hS : va_S (fun q => B ≤ q) s.heap H locs) (hcells : cells + 1 ≤ R.cells) (hslots : slots + N ≤ R.slots) (hdg : decode cc pc = .ok (.newarray atype, 2))
    (kk : ∀ (H1 : Heap), va_P D classes (wsB B (cs0 ++ r')) H1 → H1.size = B + (o + (nr + 1)) → va_S (fun q => B ≤ q) s.heap H1 locs → W p l e R s m args below meth c H1 locs (cells + 1) (slots + N) Q (F0 m (pc + 2) ls (.ref (B + (o + nr)) :: rest))) : W p l e R s m args below meth c H locs cells slots Q (F0 m pc ls (.int n :: rest)) := by
  subst hr; subst ho; subst hnr
  refine cw_newa hexec hb hts hK hty ht harr ha hn hN hbytes hP (by rw [hz]; simp) hS hcells hslots hdg (fun H1 hP1 hz1 hS1 => ?_)
  rw [List.append_assoc] at hP1
  have := kk H1 hP1 (by rw [hz1]; simp <;> omega) hS1
  rw [List.length_append]
  exact this
theorem set_app0 (cs0 t : List va_E) (x y : va_E) : (cs0 ++ x :: t).set cs0.length y = cs0 ++ y :: t := by
  induction cs0 with
  | nil => rfl
  | cons a r ih => simp [ih]
theorem get_app0 (cs0 t : List va_E) (x : va_E) : (cs0 ++ x :: t)[cs0.length]? = some x := by
  rw [List.getElem?_append_right (Nat.le_refl _), Nat.sub_self]; rfl
theorem cx_putF {ci k idx N o nr : Nat} {v : Value} {fs fs' : List Value} {cs0 t : List va_E} {Cn : String} {T : u_T} {ty : Nat → FieldType} (hexec : p.tables.exec = Jvm.exec) (hb : c.code = cc) (hts : ∀ w ∈ LT, w.before args s = true) (hown : s.vm.findClass own = some m.cls) (hK : KC D ca ad B s) (cf : CF ci Cn T N ty) (hl : FL own idx (T k)) (hk : k < N) (hfin : (T k).2.2.2 = true) (hin2 : meth.name = "<init>") (hdecl : (T k).1 = own) (hn : narrow (ty k) v = v) (hfit : fits (ty k) v = true) (hlen : k < fs.length) (ho : cs0.length = o) (hf : fs.set k v = fs') (hnr : t.length + 1 = nr)
    (hP : va_P D classes (wsB B (cs0 ++ .inr (ci, fs) :: t)) H) (hz : H.size = B + (o + nr)) (hS : va_S (fun q => B ≤ q) s.heap H locs) (hdg : decode cc pc = .ok (.putfield idx, 3))
    (kk : ∀ (H1 : Heap) (locs1 : List Loc), va_P D classes (wsB B (cs0 ++ .inr (ci, fs') :: t)) H1 → H1.size = B + (o + nr) → va_S (fun q => B ≤ q) s.heap H1 locs1 → W p l e R s m args below meth c H1 locs1 cells slots Q (F0 m (pc + 3) ls rest)) : W p l e R s m args below meth c H locs cells slots Q (F0 m pc ls (v :: .ref (B + o) :: rest)) := by
  subst ho; subst hf; subst hnr
  refine cw_putF hexec hb hts hown hK cf hl hk hfin hin2 hdecl (get_app0 cs0 t _) hn hfit hlen hP (by rw [hz]; simp) hS hdg (fun H1 locs1 hP1 hz1 hS1 => ?_)
  rw [set_app0] at hP1 hz1
  exact kk H1 locs1 hP1 (by rw [hz1]; simp) hS1
theorem cx_put {ci k idx N o nr : Nat} {v : Value} {fs fs' : List Value} {cs0 t : List va_E} {Cn : String} {T : u_T} {ty : Nat → FieldType} (hexec : p.tables.exec = Jvm.exec) (hb : c.code = cc) (hts : ∀ w ∈ LT, w.before args s = true) (hown : s.vm.findClass own = some m.cls) (hK : KC D ca ad B s) (cf : CF ci Cn T N ty) (hl : FL own idx (T k)) (hk : k < N) (hfin : (T k).2.2.2 = false) (hn : narrow (ty k) v = v) (hfit : fits (ty k) v = true) (hlen : k < fs.length) (ho : cs0.length = o) (hf : fs.set k v = fs') (hnr : t.length + 1 = nr)
    (hP : va_P D classes (wsB B (cs0 ++ .inr (ci, fs) :: t)) H) (hz : H.size = B + (o + nr)) (hS : va_S (fun q => B ≤ q) s.heap H locs) (hdg : decode cc pc = .ok (.putfield idx, 3))
    (kk : ∀ (H1 : Heap) (locs1 : List Loc), va_P D classes (wsB B (cs0 ++ .inr (ci, fs') :: t)) H1 → H1.size = B + (o + nr) → va_S (fun q => B ≤ q) s.heap H1 locs1 → W p l e R s m args below meth c H1 locs1 cells slots Q (F0 m (pc + 3) ls rest)) : W p l e R s m args below meth c H locs cells slots Q (F0 m pc ls (v :: .ref (B + o) :: rest)) := by
  subst ho; subst hf; subst hnr
  refine cw_put hexec hb hts hown hK cf hl hk hfin (get_app0 cs0 t _) hn hfit hlen hP (by rw [hz]; simp) hS hdg (fun H1 locs1 hP1 hz1 hS1 => ?_)
  rw [set_app0] at hP1 hz1
  exact kk H1 locs1 hP1 (by rw [hz1]; simp) hS1
theorem cx_iast {o nr n : Nat} {f : Nat → Int32} {j x : Int32} {cs0 r0 : List va_E} (hexec : p.tables.exec = Jvm.exec) (hb : c.code = cc) (hK : KC D ca ad B s) (hin : vp_in j n) (ho : cs0.length = o) (hnr : r0.length = nr)
    (hP : va_P D classes (wsB B (cs0 ++ (r0 ++ [.inl (ca 0, n, .inl f)]))) H) (hz : H.size = B + (o + (nr + 1))) (hS : va_S (fun q => B ≤ q) s.heap H locs) (hdg : decode cc pc = .ok (.iastore, 1))
    (kk : ∀ (H1 : Heap) (locs1 : List Loc), va_P D classes (wsB B (cs0 ++ (r0 ++ [.inl (ca 0, n, .inl (upd f (iN j) x))]))) H1 → H1.size = B + (o + (nr + 1)) → va_S (fun q => B ≤ q) s.heap H1 locs1 → W p l e R s m args below meth c H1 locs1 cells slots Q (F0 m (pc + 1) ls rest)) : W p l e R s m args below meth c H locs cells slots Q (F0 m pc ls (.int x :: .int j :: .ref (B + (o + nr)) :: rest)) := by
  subst ho; subst hnr
  rw [← List.append_assoc] at hP
  have e1 : cs0.length + r0.length = (cs0 ++ r0).length := by simp
  rw [e1]
  refine cw_iast hexec hb hK (get_app0 (cs0 ++ r0) [] _) hin hP (by rw [hz]; simp <;> omega) hS hdg (fun H1 locs1 hP1 hz1 hS1 => ?_)
  rw [set_app0, List.append_assoc] at hP1
  exact kk H1 locs1 hP1 (by rw [hz1]; simp <;> omega) hS1
theorem cx_cut {cs0 r0 bl : List va_E} {x : va_E} {Z : List va_E → List va_E → Prop} (h : Z ((cs0 ++ r0) ++ [x]) ((cs0 ++ r0) ++ bl)) : Z (cs0 ++ (r0 ++ [x])) (cs0 ++ (r0 ++ bl)) := by
  rw [← List.append_assoc, ← List.append_assoc]; exact h
end CT
