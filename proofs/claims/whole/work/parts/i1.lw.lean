def R_law : String := "OwnedSilenceLaw"
def lw_P (b : Addr) (xs : List Int32) (args : Array Value) (s : State) : Prop := args = #[.ref b] ∧ s.IntsAt b xs ∧ xs.length ≤ 3072 ∧ (Jvm.Cond.and given_1 narrow_1).before args s = true
def lw_Q (_ : Array Value) (s : State) (o : Outcome) (t : State) : Prop := o = .returned (some (.int 1)) ∧ Framed s o t [] 601024 7293034
def lw_Z (below : List Frame) (a : Array Value) (s : State) : State → Prop := fun t => ∃ o, t.status = .running ∧ Ended t below o ∧ lw_Q a s o t
/-- the law's own end, with 1 on the stack, nothing written that was there before, its room as the claim has it -/
theorem lw_ret {p : Program} {l : Launch} {e : Env} {s : State} {m : MethodId} {below : List Frame} {meth : Method} {c : Code} {b : Nat} (hx : p.tables.exec = Jvm.exec) (hb : c.code = code) (hr : meth.sig.returnType = ret) (hlocks : meth.locks = false) {pc : Nat} {H : Heap} {ls : Array Slot} (hdg : decode code pc = .ok (.ireturn, 1)) : W p l e room_1 s m #[Value.ref b] below meth c H [] 601024 7293034 (lw_Z below #[Value.ref b] s) (F0 m pc ls [.int 1]) := by
  intro T hT X
  obtain ⟨fs, hret, hrun, hended, hW, hframe⟩ := X.leave (v := some (.int 1)) (hlocks := hlocks) (fun h => by rw [hr] at h; cases h)
  have hmeth' : T.vm.method? m = some meth := X.method'
  refine ⟨T.setFrames fs, ?_, .returned (some (.int 1)), hrun, hended, rfl, ⟨_, rfl⟩, hW, hframe⟩
  jvm_step X.here [X.here.top, hx, hb, hdg, hmeth', hr, ret, narrow_b1]
  (try refine ⟨rfl, ?_⟩); (try refine ⟨rfl, ?_⟩)
  first | (intro acts; rw [hret _ acts rfl rfl rfl]) | rw [hret _ _ rfl rfl rfl]
  exact Steps.refl _
/-- what holds at the law's entry: the machine, the code, the tables' words (any of lw_tbl by 'hts w (by decide +kernel)'), the script of L ints xs at the cell b, what the Statement gives of the start (any of its parts by flat_of_before) -/
def lw_At (p : Program) (s : State) (m : MethodId) (meth : Method) (c : Code) (b L : Nat) (xs : Nat → Int32) : Prop :=
  p.tables.exec = Jvm.exec ∧ c.code = code ∧ meth.sig.returnType = ret ∧ c.maxLocals = 7 ∧ s.vm.findClass R_law = some m.cls ∧ (∀ w ∈ lw_tbl, w.before #[Value.ref b] s = true) ∧ va_X b L xs s s.heap ∧ b < s.heap.size ∧ meth.locks = false ∧ (Jvm.Cond.and given_1 narrow_1).before #[Value.ref b] s = true
/-! ===== THE LAW'S FRAME: the class's cells from B on, the reference's behind them, then one long ===== -/
def adx (B : Nat) (adc : Nat → Nat) : Nat → Nat := fun i => if i < 139 then B + (0 + i) else adc i
def adm (B : Nat) (adc : Nat → Nat) : Nat → Nat := fun i => if i < 72 then B + 139 + i else adc i
/-- the law's frame: program, launch, environment, start, method, the script's cell, below, method, code, length, script; classes, arrays' classes, constants' addresses, two texts -/
abbrev LK : Type := Program × Launch × Env × State × MethodId × Nat × List Frame × Method × Code × Nat × (Nat → Int32) × va_G × (Nat → ClassId) × (Nat → Nat) × Nat × Nat
abbrev LK.p (Λ : LK) : Program := Λ.1
abbrev LK.l (Λ : LK) : Launch := Λ.2.1
abbrev LK.e (Λ : LK) : Env := Λ.2.2.1
abbrev LK.s (Λ : LK) : State := Λ.2.2.2.1
abbrev LK.m (Λ : LK) : MethodId := Λ.2.2.2.2.1
abbrev LK.b (Λ : LK) : Nat := Λ.2.2.2.2.2.1
abbrev LK.below (Λ : LK) : List Frame := Λ.2.2.2.2.2.2.1
abbrev LK.meth (Λ : LK) : Method := Λ.2.2.2.2.2.2.2.1
abbrev LK.c (Λ : LK) : Code := Λ.2.2.2.2.2.2.2.2.1
abbrev LK.L (Λ : LK) : Nat := Λ.2.2.2.2.2.2.2.2.2.1
abbrev LK.xs (Λ : LK) : Nat → Int32 := Λ.2.2.2.2.2.2.2.2.2.2.1
abbrev LK.D (Λ : LK) : va_G := Λ.2.2.2.2.2.2.2.2.2.2.2.1
abbrev LK.ca (Λ : LK) : Nat → ClassId := Λ.2.2.2.2.2.2.2.2.2.2.2.2.1
abbrev LK.ac (Λ : LK) : Nat → Nat := Λ.2.2.2.2.2.2.2.2.2.2.2.2.2.1
abbrev LK.o1 (Λ : LK) : Nat := Λ.2.2.2.2.2.2.2.2.2.2.2.2.2.2.1
abbrev LK.o2 (Λ : LK) : Nat := Λ.2.2.2.2.2.2.2.2.2.2.2.2.2.2.2
abbrev LK.B (Λ : LK) : Nat := Λ.s.heap.size
abbrev LK.X (Λ : LK) : Gt := GX Λ.D Λ.ca (adx Λ.B Λ.ac)
abbrev LK.M (Λ : LK) : Gt := GM Λ.D Λ.ca (adm Λ.B Λ.ac)
abbrev LK.A (Λ : LK) : Nat → Prop := fun q => Λ.s.heap.size ≤ q
def LF (Λ : LK) : Prop :=
  Λ.p.tables.exec = Jvm.exec ∧ Λ.c.code = code ∧ Λ.meth.sig.returnType = ret ∧ Λ.c.maxLocals = 7 ∧ Λ.s.vm.findClass RL = some Λ.m.cls ∧ (∀ w ∈ lw_tbl, w.before #[Value.ref Λ.b] Λ.s = true) ∧ va_X Λ.b Λ.L Λ.xs Λ.s Λ.s.heap ∧ Λ.b < Λ.s.heap.size ∧ Λ.meth.locks = false ∧ Λ.l.stackTraces = false ∧ Λ.L ≤ 3072 ∧
  va_K Λ.D classes [(Λ.ca 0, .int), (Λ.ca 1, .long), (Λ.ca 2, .byte), (Λ.ca 3, .boolean)] Λ.s ∧ (∀ w ∈ NT, va_Nw w Λ.s) ∧ XSA Λ.ac Λ.A Λ.s ∧ OX Λ.o1 Λ.o2 Λ.A Λ.s
theorem LT_tbl {w : Cond} (h : w ∈ LT) : w ∈ lw_tbl := (List.mem_filter.mp h).1
theorem adx_in {B i : Nat} {ac : Nat → Nat} (h : i < 139) : adx B ac i = B + i := by unfold adx; rw [if_pos h, Nat.zero_add]
theorem adm_in {B i : Nat} {ac : Nat → Nat} (h : i < 72) : adm B ac i = B + 139 + i := by unfold adm; rw [if_pos h]
theorem XSA.ad {ad ad' : Nat → Nat} {A : Nat → Prop} {U : State} (e : ∀ i, 1000 ≤ i → ad' i = ad i) (h : XSA ad A U) : XSA ad' A U := by
  unfold XSA
  rw [e 1000 (by decide), e 1001 (by decide), e 1002 (by decide), e 1003 (by decide), e 1006 (by decide), show (fun i => ad' (1002 + i)) = (fun i => ad (1002 + i)) from funext fun i => e _ (by omega), show (fun i => ad' (1004 + i)) = (fun i => ad (1004 + i)) from funext fun i => e _ (by omega)]
  exact h
section LFS
variable {Λ : LK} {H : Heap} {locs : List Loc}
theorem LF.ts (F : LF Λ) {w : Cond} (h : w ∈ LT) : w.before #[Value.ref Λ.b] Λ.s = true := F.2.2.2.2.2.1 w (LT_tbl h)
theorem LF.fix (F : LF Λ) : CallFix Λ.p Λ.m Λ.c code 7 Λ.s #[Value.ref Λ.b] LT RL := ⟨F.1, F.2.1, F.2.2.2.1, F.2.2.2.2.1, fun w h => F.ts h⟩
theorem LF.K (F : LF Λ) : va_K Λ.D classes [(Λ.ca 0, .int), (Λ.ca 1, .long), (Λ.ca 2, .byte), (Λ.ca 3, .boolean)] Λ.s := F.2.2.2.2.2.2.2.2.2.2.2.1
theorem inj_X : inj Λ.X := by
  intro i j hi hj h
  have hi : i < 139 := hi
  have hj : j < 139 := hj
  have h : adx Λ.B Λ.ac i = adx Λ.B Λ.ac j := h
  rw [adx_in hi, adx_in hj] at h
  omega
theorem inj_M : inj Λ.M := by
  intro i j hi hj h
  have hi : i < 72 := hi
  have hj : j < 72 := hj
  have h : adm Λ.B Λ.ac i = adm Λ.B Λ.ac j := h
  rw [adm_in hi, adm_in hj] at h
  omega
theorem Aw_X {q : Nat} (h : Aw Λ.X q) : Λ.B ≤ q ∧ q < Λ.B + 139 := by
  obtain ⟨i, hi, e⟩ := h
  have hi : i < 139 := hi
  have e : q = adx Λ.B Λ.ac i := e
  rw [adx_in hi] at e
  omega
theorem Aw_M {q : Nat} (h : Aw Λ.M q) : Λ.B + 139 ≤ q ∧ q < Λ.B + 211 := by
  obtain ⟨i, hi, e⟩ := h
  have hi : i < 72 := hi
  have e : q = adm Λ.B Λ.ac i := e
  rw [adm_in hi] at e
  omega
theorem LF.ksX (F : LF Λ) (hS : va_S Λ.A Λ.s.heap H locs) {U : State} (hU : U.heap = H) (hW : Λ.s.WarmedH U.vm) : KS Λ.X (XS Λ.X) U := by
  obtain ⟨-, -, -, -, -, -, -, -, -, -, -, hK, hN, hX, -⟩ := F
  refine ⟨va_K.moved hW.alike hK, nt_warm hW hN, inj_X, ?_⟩
  refine XSA.ad (fun i hi => ?_) ((XSA.warm (fun q h1 h2 => by rw [hU]; exact hS.2.1 q h1 h2) hW hX).narrow (fun q h => (Aw_X h).1))
  show adx Λ.B Λ.ac i = Λ.ac i
  unfold adx
  rw [if_neg (by omega)]
theorem LF.ksM (F : LF Λ) (hS : va_S Λ.A Λ.s.heap H locs) {U : State} (hU : U.heap = H) (hW : Λ.s.WarmedH U.vm) : KS Λ.M (XS Λ.M) U := by
  obtain ⟨-, -, -, -, -, -, -, -, -, -, -, hK, hN, hX, -⟩ := F
  refine ⟨va_K.moved hW.alike hK, nt_warm hW hN, inj_M, ?_⟩
  refine XSA.ad (fun i hi => ?_) ((XSA.warm (fun q h1 h2 => by rw [hU]; exact hS.2.1 q h1 h2) hW hX).narrow (fun q h => by have := (Aw_M h).1; show Λ.s.heap.size ≤ q; exact Nat.le_trans (Nat.le_add_right _ _) this))
  show adm Λ.B Λ.ac i = Λ.ac i
  unfold adm
  rw [if_neg (by omega)]
theorem LF.ox (F : LF Λ) (hS : va_S Λ.A Λ.s.heap H locs) {U : State} (hU : U.heap = H) (hW : Λ.s.WarmedH U.vm) : OX Λ.o1 Λ.o2 (Aw Λ.X) U := by
  obtain ⟨-, -, -, -, -, -, -, -, -, -, -, -, -, -, hO⟩ := F
  exact (OX.warm (fun q h1 h2 => by rw [hU]; exact hS.2.1 q h1 h2) hW hO).narrow (fun q h => (Aw_X h).1)
end LFS
abbrev oar (Λ : LK) (f : Nat → Int64) : va_W := [(Λ.B + 211, .inl (Λ.ca 1, 1, .inr (.inl f)))]
/-- from this place of the law, these values on the stack, it comes to its end -/
def LW (Λ : LK) (n k : Nat) (ex : List (Nat × Value)) (hx hm : PH) (f : Nat → Int64) (pc : Nat) (st : List Value) : Prop :=
  ∀ (H : Heap) (locs : List Loc) (ls : Array Slot), va_P Λ.D classes (pw Λ.X hx) H → va_P Λ.D classes (pw Λ.M hm) H → va_P Λ.D classes (oar Λ f) H → va_S Λ.A Λ.s.heap H locs → lv_has ls 7 ((0, .ref Λ.b) :: (1, .ref Λ.B) :: (2, .ref (Λ.B + 139)) :: (3, .ref (Λ.B + 211)) :: (4, .int (z n)) :: ex) →
    W Λ.p Λ.l Λ.e room_1 Λ.s Λ.m #[Value.ref Λ.b] Λ.below Λ.meth Λ.c H locs (1000 + k) (20000 + 6 * k) (lw_Z Λ.below #[Value.ref Λ.b] Λ.s) (F0 Λ.m pc ls st)
section LWS
variable {Λ : LK} {n k : Nat} {ex : List (Nat × Value)} {hx hm : PH} {f : Nat → Int64} {pc : Nat} {st rest : List Value}
theorem LW.ald1 (F : LF Λ) (hd : decode code pc = .ok (.aload_n 1, 1)) (kk : LW Λ n k ex hx hm f (pc + 1) (.ref Λ.B :: st)) : LW Λ n k ex hx hm f pc st :=
  fun H locs ls a b c d hl => lv_aload_n F.1 F.2.1 hd rfl (lv_at hl 1 rfl) (kk H locs ls a b c d hl)
theorem LW.ald2 (F : LF Λ) (hd : decode code pc = .ok (.aload_n 2, 1)) (kk : LW Λ n k ex hx hm f (pc + 1) (.ref (Λ.B + 139) :: st)) : LW Λ n k ex hx hm f pc st :=
  fun H locs ls a b c d hl => lv_aload_n F.1 F.2.1 hd rfl (lv_at hl 2 rfl) (kk H locs ls a b c d hl)
theorem LW.ald3 (F : LF Λ) (hd : decode code pc = .ok (.aload_n 3, 1)) (kk : LW Λ n k ex hx hm f (pc + 1) (.ref (Λ.B + 211) :: st)) : LW Λ n k ex hx hm f pc st :=
  fun H locs ls a b c d hl => lv_aload_n F.1 F.2.1 hd rfl (lv_at hl 3 rfl) (kk H locs ls a b c d hl)
theorem z_idx {n j : Nat} {L : Nat} (hn : n + 6 ≤ L) (hL : L ≤ 3072) (hj : j < 6) : vp_in (z (n : Int) + z (j : Int)) L ∧ (z (n : Int) + z (j : Int)).toNatClampNeg = n + j := by
  have e : z (n : Int) + z (j : Int) = z ((n + j : Nat) : Int) := (z_add _ _).trans (congrArg z (Int.natCast_add n j).symm)
  have e2 : (z ((n + j : Nat) : Int)).toNatClampNeg = n + j := by
    have := z_iN (a := ((n + j : Nat) : Int)) (by omega) (by omega)
    rw [Int.toNat_natCast] at this
    exact this
  rw [e, e2]
  refine ⟨?_, rfl⟩
  intro h
  rcases h with h | h
  · rw [Int32.lt_iff_toInt_lt, z_ti (by omega) (by omega)] at h
    have : (0 : Int32).toInt = 0 := rfl
    omega
  · rw [e2] at h
    omega
/-- script[i + j] -/
theorem LW.arg (j : Nat) (F : LF Λ) (hn : n + 6 ≤ Λ.L) (hj : j < 6) {jv : Int} (ej : Int32.ofInt jv = z (j : Int)) (d0 : decode code pc = .ok (.aload_n 0, 1)) (d1 : decode code (pc + 1) = .ok (.iload 4, 2)) (d3 : decode code (pc + 3) = .ok (.iconst jv, 1)) (d4 : decode code (pc + 4) = .ok (.iadd, 1)) (d5 : decode code (pc + 5) = .ok (.iaload, 1))
    (kk : LW Λ n k ex hx hm f (pc + 6) (.int (Λ.xs (n + j)) :: st)) : LW Λ n k ex hx hm f pc st := by
  intro H locs ls a b c d hl
  obtain ⟨hX, hbl⟩ := (⟨F.2.2.2.2.2.2.1, F.2.2.2.2.2.2.2.1⟩ : _ ∧ _)
  have hL : Λ.L ≤ 3072 := F.2.2.2.2.2.2.2.2.2.2.1
  obtain ⟨i1, i2⟩ := z_idx hn hL hj
  refine lv_aload_n F.1 F.2.1 d0 rfl (lv_at hl 0 rfl) ?_
  refine lv_iload F.1 F.2.1 d1 (lv_at hl 4 rfl) ?_
  refine lv_iconst (v := z (j : Int)) F.1 F.2.1 d3 ej ?_
  refine lv_iadd F.1 F.2.1 d4 ?_
  refine va_sld F.1 F.2.1 hX hbl (Nat.not_le.mpr hbl) d i1 d5 ?_
  rw [i2]
  exact kk H locs ls a b c d hl
theorem pw_keep {G : Gt} {A : Nat → Prop} {h : PH} {H H1 : Heap} (hj : inj G) (hP : va_P G.D classes (pw G h) H) (hd : ∀ q, Aw G q → ¬ A q) (hk : ∀ q : Nat, q < H.size → ¬ A q → H1[q]? = H[q]?) : va_P G.D classes (pw G h) H1 :=
  hP.kept (fun i q hq => hk q.1 (hP i q hq).lt (hd q.1 ((pw_D (h := h) hj).2 i q hq)))
theorem oar_keep {A : Nat → Prop} {H H1 : Heap} (hP : va_P Λ.D classes (oar Λ f) H) (hd : ¬ A (Λ.B + 211)) (hk : ∀ q : Nat, q < H.size → ¬ A q → H1[q]? = H[q]?) : va_P Λ.D classes (oar Λ f) H1 :=
  hP.kept (fun i q hq => by
    have hz9 : i < 1 := (List.getElem?_eq_some_iff.mp hq).1
    have hlt := (hP i q hq).lt
    rw [show i = 0 by omega] at hq
    cases hq
    exact hk _ hlt hd)
theorem k_fit (hk : k ≤ 600) : 1000 + k ≤ room_1.cells ∧ 20000 + 6 * k ≤ room_1.slots := by
  have h1 : room_1.cells = 601024 := rfl
  have h2 : room_1.slots = 7293034 := rfl
  rw [h1, h2]
  omega
theorem LW.callX {y : MethodName} {c9 : ByteArray} {mL nA idx : Nat} {r9 : Option FieldType} {as : List Value} {Q' : Option Value → PH → Prop} (F : LF Λ) (hk : k ≤ 600) (hmv : MV y c9 mL r9 nA) (hl9 : Cond.methodLink RL idx y ∈ LT) (hd : decode code pc = .ok (.invokevirtual idx, 3)) (hn : as.length = nA) (hcl : ∃ T N, classes[9]? = some (y.cls, T, N)) (has : as.map (cv Λ.X) = as) (hmL : mL ≤ 50) (hc : (rest.map fun v => v.category).sum ≤ 8)
    (hs : Sp Λ.X (XS Λ.X) Λ.l 40 y c9 mL r9 (.ref 0 :: as) hx Q') (kk : ∀ (r : Option Value) (h' : PH), Q' r h' → LW Λ n k ex h' hm f (pc + 3) ((r.map (cv Λ.X)).toList ++ rest)) : LW Λ n k ex hx hm f pc (as.reverse ++ .ref Λ.B :: rest) := by
  intro H locs ls a b c d hl
  have key := g_callV (G := Λ.X) (X := XS Λ.X) (as := as) (rest := rest) (b := 0) (h := hx) (Q' := Q') (H := H) (locs := locs) (cells := 1000 + k) (slots := 20000 + 6 * k) (Q := lw_Z Λ.below #[Value.ref Λ.b] Λ.s) (pc := pc) (A := Λ.A) (H0 := Λ.s.heap) F.fix (XS_ok Λ.X) F.K (fun U hU hW => F.ksX d hU hW) a (fun q h => (Aw_X h).1) d hl.1 hmv hl9 hd hn (oX_0) hcl (d9 := 40) (Nat.le_of_ble_eq_true rfl) (by
      have h1 : room_1.locals = 84000 := rfl
      rw [h1]
      omega) hc (k_fit hk) hs (fun r h' H1 locs1 hq hP1 hz1 hk1 hS1 => kk r h' hq H1 locs1 ls hP1 (pw_keep inj_M b (fun q h1 h2 => by have := Aw_M h1; have := Aw_X h2; omega) hk1) (oar_keep c (fun h2 => by have := Aw_X h2; omega) hk1) hS1 hl)
  rw [has] at key
  rw [show Λ.X.ad 0 = Λ.B from adx_in (B := Λ.B) (i := 0) (ac := Λ.ac) (by decide)] at key
  exact key
theorem LW.callM {y : MethodName} {c9 : ByteArray} {mL nA idx : Nat} {r9 : Option FieldType} {as : List Value} {Q' : Option Value → PH → Prop} (F : LF Λ) (hk : k ≤ 600) (hmv : MV y c9 mL r9 nA) (hl9 : Cond.methodLink RL idx y ∈ LT) (hd : decode code pc = .ok (.invokevirtual idx, 3)) (hn : as.length = nA) (hcl : ∃ T N, classes[10]? = some (y.cls, T, N)) (has : as.map (cv Λ.M) = as) (hmL : mL ≤ 50) (hc : (rest.map fun v => v.category).sum ≤ 8)
    (hs : Sp Λ.M (XS Λ.M) Λ.l 600 y c9 mL r9 (.ref 0 :: as) hm Q') (kk : ∀ (r : Option Value) (h' : PH), Q' r h' → LW Λ n k ex hx h' f (pc + 3) ((r.map (cv Λ.M)).toList ++ rest)) : LW Λ n k ex hx hm f pc (as.reverse ++ .ref (Λ.B + 139) :: rest) := by
  intro H locs ls a b c d hl
  have key := g_callV (G := Λ.M) (X := XS Λ.M) (as := as) (rest := rest) (b := 0) (h := hm) (Q' := Q') (H := H) (locs := locs) (cells := 1000 + k) (slots := 20000 + 6 * k) (Q := lw_Z Λ.below #[Value.ref Λ.b] Λ.s) (pc := pc) (A := Λ.A) (H0 := Λ.s.heap) F.fix (XS_ok Λ.M) F.K (fun U hU hW => F.ksM d hU hW) b (fun q h => Nat.le_trans (Nat.le_add_right _ _) (Aw_M h).1) d hl.1 hmv hl9 hd hn (oM_0) hcl (d9 := 600) (Nat.le_of_ble_eq_true rfl) (by
      have h1 : room_1.locals = 84000 := rfl
      rw [h1]
      omega) hc (k_fit hk) hs (fun r h' H1 locs1 hq hP1 hz1 hk1 hS1 => kk r h' hq H1 locs1 ls (pw_keep inj_X a (fun q h1 h2 => by have := Aw_X h1; have := Aw_M h2; omega) hk1) hP1 (oar_keep c (fun h2 => by have := Aw_M h2; omega) hk1) hS1 hl)
  rw [has] at key
  rw [show Λ.M.ad 0 = Λ.B + 139 from adm_in (B := Λ.B) (i := 0) (ac := Λ.ac) (by decide)] at key
  exact key
theorem LW.callXI {y : MethodName} {c9 : ByteArray} {mL nA idx : Nat} {r9 : Option FieldType} (as rest : List Value) {Q' : Int32 → PH → Prop} (F : LF Λ) (hk : k ≤ 600) (hmv : MV y c9 mL r9 nA) (hl9 : Cond.methodLink RL idx y ∈ LT) (hd : decode code pc = .ok (.invokevirtual idx, 3)) (hn : as.length = nA) (hcl : ∃ T N, classes[9]? = some (y.cls, T, N)) (has : as.map (cv Λ.X) = as) (hmL : mL ≤ 50) (hc : (rest.map fun v => v.category).sum ≤ 8)
    (hs : Sp Λ.X (XS Λ.X) Λ.l 40 y c9 mL r9 (.ref 0 :: as) hx (qI Q')) (kk : ∀ (r : Int32) (h' : PH), Q' r h' → LW Λ n k ex h' hm f (pc + 3) (.int r :: rest)) : LW Λ n k ex hx hm f pc (as.reverse ++ .ref Λ.B :: rest) :=
  LW.callX F hk hmv hl9 hd hn hcl has hmL hc hs (fun r h' hq => by obtain ⟨x, rfl, hq⟩ := hq; exact kk x h' hq)
theorem LW.callXJ {y : MethodName} {c9 : ByteArray} {mL nA idx : Nat} {r9 : Option FieldType} (as rest : List Value) {Q' : Int64 → PH → Prop} (F : LF Λ) (hk : k ≤ 600) (hmv : MV y c9 mL r9 nA) (hl9 : Cond.methodLink RL idx y ∈ LT) (hd : decode code pc = .ok (.invokevirtual idx, 3)) (hn : as.length = nA) (hcl : ∃ T N, classes[9]? = some (y.cls, T, N)) (has : as.map (cv Λ.X) = as) (hmL : mL ≤ 50) (hc : (rest.map fun v => v.category).sum ≤ 8)
    (hs : Sp Λ.X (XS Λ.X) Λ.l 40 y c9 mL r9 (.ref 0 :: as) hx (qJ Q')) (kk : ∀ (r : Int64) (h' : PH), Q' r h' → LW Λ n k ex h' hm f (pc + 3) (.long r :: rest)) : LW Λ n k ex hx hm f pc (as.reverse ++ .ref Λ.B :: rest) :=
  LW.callX F hk hmv hl9 hd hn hcl has hmL hc hs (fun r h' hq => by obtain ⟨x, rfl, hq⟩ := hq; exact kk x h' hq)
theorem LW.callMI {y : MethodName} {c9 : ByteArray} {mL nA idx : Nat} {r9 : Option FieldType} (as rest : List Value) {Q' : Int32 → PH → Prop} (F : LF Λ) (hk : k ≤ 600) (hmv : MV y c9 mL r9 nA) (hl9 : Cond.methodLink RL idx y ∈ LT) (hd : decode code pc = .ok (.invokevirtual idx, 3)) (hn : as.length = nA) (hcl : ∃ T N, classes[10]? = some (y.cls, T, N)) (has : as.map (cv Λ.M) = as) (hmL : mL ≤ 50) (hc : (rest.map fun v => v.category).sum ≤ 8)
    (hs : Sp Λ.M (XS Λ.M) Λ.l 600 y c9 mL r9 (.ref 0 :: as) hm (qI Q')) (kk : ∀ (r : Int32) (h' : PH), Q' r h' → LW Λ n k ex hx h' f (pc + 3) (.int r :: rest)) : LW Λ n k ex hx hm f pc (as.reverse ++ .ref (Λ.B + 139) :: rest) :=
  LW.callM F hk hmv hl9 hd hn hcl has hmL hc hs (fun r h' hq => by obtain ⟨x, rfl, hq⟩ := hq; exact kk x h' hq)
theorem LW.callMJ {y : MethodName} {c9 : ByteArray} {mL nA idx : Nat} {r9 : Option FieldType} (as rest : List Value) {Q' : Int64 → PH → Prop} (F : LF Λ) (hk : k ≤ 600) (hmv : MV y c9 mL r9 nA) (hl9 : Cond.methodLink RL idx y ∈ LT) (hd : decode code pc = .ok (.invokevirtual idx, 3)) (hn : as.length = nA) (hcl : ∃ T N, classes[10]? = some (y.cls, T, N)) (has : as.map (cv Λ.M) = as) (hmL : mL ≤ 50) (hc : (rest.map fun v => v.category).sum ≤ 8)
    (hs : Sp Λ.M (XS Λ.M) Λ.l 600 y c9 mL r9 (.ref 0 :: as) hm (qJ Q')) (kk : ∀ (r : Int64) (h' : PH), Q' r h' → LW Λ n k ex hx h' f (pc + 3) (.long r :: rest)) : LW Λ n k ex hx hm f pc (as.reverse ++ .ref (Λ.B + 139) :: rest) :=
  LW.callM F hk hmv hl9 hd hn hcl has hmL hc hs (fun r h' hq => by obtain ⟨x, rfl, hq⟩ := hq; exact kk x h' hq)
theorem LW.ieq {x : Int32} {off : Int} {tgt : Nat} (F : LF Λ) (hd : decode code pc = .ok (.if_icmp .eq off, 3)) (ht : (pc : Int) + off = (tgt : Int)) (kk : LW Λ n k ex hx hm f tgt st) : LW Λ n k ex hx hm f pc (.int x :: .int x :: st) :=
  fun H locs ls a b c d hl => lv_icmp_eq F.1 F.2.1 hd ht (fun _ => kk H locs ls a b c d hl) (fun q => absurd rfl q)
theorem LW.leq {x : Int64} {off : Int} {tgt : Nat} (F : LF Λ) (d0 : decode code pc = .ok (.lcmp, 1)) (hd : decode code (pc + 1) = .ok (.ifCond .eq off, 3)) (ht : ((pc + 1 : Nat) : Int) + off = (tgt : Int)) (kk : LW Λ n k ex hx hm f tgt st) : LW Λ n k ex hx hm f pc (.long x :: .long x :: st) :=
  fun H locs ls a b c d hl => W.lcmp F.1 F.2.1 d0 (lv_if_eq F.1 F.2.1 hd ht (fun _ => kk H locs ls a b c d hl) (fun q => absurd ((lg_cmp_eq x x).mpr rfl) q))
/-- x != 0 -/
theorem LW.bool {x : Int32} (F : LF Λ) (d0 : decode code pc = .ok (.ifCond .eq 7, 3)) (d3 : decode code (pc + 3) = .ok (.iconst 1, 1)) (d4 : decode code (pc + 4) = .ok (.goto 4, 3)) (d7 : decode code (pc + 7) = .ok (.iconst 0, 1)) (kk : LW Λ n k ex hx hm f (pc + 8) (.int (bz x) :: st)) : LW Λ n k ex hx hm f pc (.int x :: st) := by
  intro H locs ls a b c d hl
  refine lv_if_eq F.1 F.2.1 d0 (tgt := pc + 7) (by omega) (fun e0 => ?_) (fun e0 => ?_)
  · have eb : bz x = 0 := by unfold bz; rw [if_pos e0]
    rw [eb] at kk
    exact lv_iconst (v := 0) F.1 F.2.1 d7 (by decide) (kk H locs ls a b c d hl)
  · have eb : bz x = 1 := by unfold bz; rw [if_neg e0]
    rw [eb] at kk
    refine lv_iconst (v := 1) F.1 F.2.1 d3 (by decide) ?_
    exact lv_goto F.1 F.2.1 d4 (tgt := pc + 8) (by omega) (kk H locs ls a b c d hl)
theorem LW.goto {off : Int} {tgt : Nat} (F : LF Λ) (hd : decode code pc = .ok (.goto off, 3)) (ht : (pc : Int) + off = (tgt : Int)) (kk : LW Λ n k ex hx hm f tgt st) : LW Λ n k ex hx hm f pc st :=
  fun H locs ls a b c d hl => lv_goto F.1 F.2.1 hd ht (kk H locs ls a b c d hl)
theorem LW.wid {k' : Nat} (h : k ≤ k') (kk : LW Λ n k' ex hx hm f pc st) : LW Λ n k ex hx hm f pc st :=
  fun H locs ls a b c d hl => W.widen (by omega) (by omega) (kk H locs ls a b c d hl)
end LWS
