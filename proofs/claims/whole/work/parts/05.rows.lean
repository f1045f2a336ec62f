section PROWS
variable {G : Gt} {X : State → Prop} {cc : ByteArray} {own : String} {nL : Nat} {ret : Option FieldType} {d : Nat} {K : Kt} {Q : Option Value → PH → Prop} {h : PH} {pc : Nat} {L : List (Option Value)} {st : List Value}
theorem ite_t {c : Prop} {A B : Prop} {i : Decidable c} (w : @ite _ c i A B) (h : c) : A := by rw [if_pos h] at w; exact w
theorem ite_f {c : Prop} {A B : Prop} {i : Decidable c} (w : @ite _ c i A B) (h : ¬ c) : B := by rw [if_neg h] at w; exact w
theorem CX.ts (C : CX G X cc own nL ret d K) {w : Cond} (h : w ∈ LT) : w.before K.args K.s = true := C.2.2.2.2.1 w h
theorem CX.ow (C : CX G X cc own nL ret d K) : K.s.vm.findClass own = some K.m.cls := C.2.2.2.1
theorem CX.ks (C : CX G X cc own nL ret d K) : KS G X K.s := C.2.2.2.2.2.2.2.1
theorem CX.nw (C : CX G X cc own nL ret d K) {w : Cond} (h : w ∈ NT) (hw : w.onTables = true) : w.before K.args K.s = true := va_Nw.use hw (C.ks.2.1 w h)
theorem PW.iconst {n : Int} {v : Int32} (C : CX G X cc own nL ret d K) (hd : decode cc pc = .ok (.iconst n, 1)) (hv : Int32.ofInt n = v) (k : PW G K nL Q h (pc + 1) L (.int v :: st)) : PW G K nL Q h pc L st :=
  fun H locs ls hP hS hl => lv_iconst C.1 C.2.1 hd hv (k H locs ls hP hS hl)
theorem PW.bipush {n : Int} {v : Int32} (C : CX G X cc own nL ret d K) (hd : decode cc pc = .ok (.bipush n, 2)) (hv : (Int8.ofInt n).toInt32 = v) (k : PW G K nL Q h (pc + 2) L (.int v :: st)) : PW G K nL Q h pc L st :=
  fun H locs ls hP hS hl => lv_bipush C.1 C.2.1 hd hv (k H locs ls hP hS hl)
theorem PW.sipush {n : Int} {v : Int32} (C : CX G X cc own nL ret d K) (hd : decode cc pc = .ok (.sipush n, 3)) (hv : (Int16.ofInt n).toInt32 = v) (k : PW G K nL Q h (pc + 3) L (.int v :: st)) : PW G K nL Q h pc L st :=
  fun H locs ls hP hS hl => lv_sipush C.1 C.2.1 hd hv (k H locs ls hP hS hl)
theorem PW.lconst {n : Fin 2} {v : Int64} (C : CX G X cc own nL ret d K) (hd : decode cc pc = .ok (.lconst n, 1)) (hv : Int64.ofNat (n : Nat) = v) (k : PW G K nL Q h (pc + 1) L (.long v :: st)) : PW G K nL Q h pc L st :=
  fun H locs ls hP hS hl => lv_lconst C.1 C.2.1 hd hv (k H locs ls hP hS hl)
theorem PW.ldc {i : Nat} {v : Int32} (C : CX G X cc own nL ret d K) (hw : Cond.constant own i v ∈ LT) (hd : decode cc pc = .ok (.ldc i, 2)) (k : PW G K nL Q h (pc + 2) L (.int v :: st)) : PW G K nL Q h pc L st :=
  fun H locs ls hP hS hl => lv_ldc C.1 C.2.1 C.ow (C.ts hw) hd (k H locs ls hP hS hl)
theorem PW.ldcw {i : Nat} {v : Int32} (C : CX G X cc own nL ret d K) (hw : Cond.constant own i v ∈ LT) (hd : decode cc pc = .ok (.ldc_w i, 3)) (k : PW G K nL Q h (pc + 3) L (.int v :: st)) : PW G K nL Q h pc L st :=
  fun H locs ls hP hS hl => lv_ldcw C.1 C.2.1 C.ow (C.ts hw) hd (k H locs ls hP hS hl)
theorem PW.ldc2 {i : Nat} {v : Int64} (C : CX G X cc own nL ret d K) (hw : Cond.constantLong own i v ∈ LT) (hd : decode cc pc = .ok (.ldc2_w i, 3)) (k : PW G K nL Q h (pc + 3) L (.long v :: st)) : PW G K nL Q h pc L st :=
  fun H locs ls hP hS hl => lv_ldc2 C.1 C.2.1 C.ow (C.ts hw) hd (k H locs ls hP hS hl)
theorem PW.iadd {x : Int32} {y : Int32} (C : CX G X cc own nL ret d K) (hd : decode cc pc = .ok (.iadd, 1)) (k : PW G K nL Q h (pc + 1) L (.int (x + y) :: st)) : PW G K nL Q h pc L (.int y :: .int x :: st) :=
  fun H locs ls hP hS hl => lv_iadd C.1 C.2.1 hd (k H locs ls hP hS hl)
theorem PW.isub {x : Int32} {y : Int32} (C : CX G X cc own nL ret d K) (hd : decode cc pc = .ok (.isub, 1)) (k : PW G K nL Q h (pc + 1) L (.int (x - y) :: st)) : PW G K nL Q h pc L (.int y :: .int x :: st) :=
  fun H locs ls hP hS hl => lv_isub C.1 C.2.1 hd (k H locs ls hP hS hl)
theorem PW.imul {x : Int32} {y : Int32} (C : CX G X cc own nL ret d K) (hd : decode cc pc = .ok (.imul, 1)) (k : PW G K nL Q h (pc + 1) L (.int (x * y) :: st)) : PW G K nL Q h pc L (.int y :: .int x :: st) :=
  fun H locs ls hP hS hl => lv_imul C.1 C.2.1 hd (k H locs ls hP hS hl)
theorem PW.iand {x : Int32} {y : Int32} (C : CX G X cc own nL ret d K) (hd : decode cc pc = .ok (.iand, 1)) (k : PW G K nL Q h (pc + 1) L (.int (x &&& y) :: st)) : PW G K nL Q h pc L (.int y :: .int x :: st) :=
  fun H locs ls hP hS hl => lv_iand C.1 C.2.1 hd (k H locs ls hP hS hl)
theorem PW.ior {x : Int32} {y : Int32} (C : CX G X cc own nL ret d K) (hd : decode cc pc = .ok (.ior, 1)) (k : PW G K nL Q h (pc + 1) L (.int (x ||| y) :: st)) : PW G K nL Q h pc L (.int y :: .int x :: st) :=
  fun H locs ls hP hS hl => lv_ior C.1 C.2.1 hd (k H locs ls hP hS hl)
theorem PW.ixor {x : Int32} {y : Int32} (C : CX G X cc own nL ret d K) (hd : decode cc pc = .ok (.ixor, 1)) (k : PW G K nL Q h (pc + 1) L (.int (x ^^^ y) :: st)) : PW G K nL Q h pc L (.int y :: .int x :: st) :=
  fun H locs ls hP hS hl => lv_ixor C.1 C.2.1 hd (k H locs ls hP hS hl)
theorem PW.ladd {x : Int64} {y : Int64} (C : CX G X cc own nL ret d K) (hd : decode cc pc = .ok (.ladd, 1)) (k : PW G K nL Q h (pc + 1) L (.long (x + y) :: st)) : PW G K nL Q h pc L (.long y :: .long x :: st) :=
  fun H locs ls hP hS hl => lv_ladd C.1 C.2.1 hd (k H locs ls hP hS hl)
theorem PW.lsub {x : Int64} {y : Int64} (C : CX G X cc own nL ret d K) (hd : decode cc pc = .ok (.lsub, 1)) (k : PW G K nL Q h (pc + 1) L (.long (x - y) :: st)) : PW G K nL Q h pc L (.long y :: .long x :: st) :=
  fun H locs ls hP hS hl => lv_lsub C.1 C.2.1 hd (k H locs ls hP hS hl)
theorem PW.lmul {x : Int64} {y : Int64} (C : CX G X cc own nL ret d K) (hd : decode cc pc = .ok (.lmul, 1)) (k : PW G K nL Q h (pc + 1) L (.long (x * y) :: st)) : PW G K nL Q h pc L (.long y :: .long x :: st) :=
  fun H locs ls hP hS hl => lv_lmul C.1 C.2.1 hd (k H locs ls hP hS hl)
theorem PW.land {x : Int64} {y : Int64} (C : CX G X cc own nL ret d K) (hd : decode cc pc = .ok (.land, 1)) (k : PW G K nL Q h (pc + 1) L (.long (x &&& y) :: st)) : PW G K nL Q h pc L (.long y :: .long x :: st) :=
  fun H locs ls hP hS hl => lv_land C.1 C.2.1 hd (k H locs ls hP hS hl)
theorem PW.lor {x : Int64} {y : Int64} (C : CX G X cc own nL ret d K) (hd : decode cc pc = .ok (.lor, 1)) (k : PW G K nL Q h (pc + 1) L (.long (x ||| y) :: st)) : PW G K nL Q h pc L (.long y :: .long x :: st) :=
  fun H locs ls hP hS hl => lv_lor C.1 C.2.1 hd (k H locs ls hP hS hl)
theorem PW.lxor {x : Int64} {y : Int64} (C : CX G X cc own nL ret d K) (hd : decode cc pc = .ok (.lxor, 1)) (k : PW G K nL Q h (pc + 1) L (.long (x ^^^ y) :: st)) : PW G K nL Q h pc L (.long y :: .long x :: st) :=
  fun H locs ls hP hS hl => lv_lxor C.1 C.2.1 hd (k H locs ls hP hS hl)
theorem PW.idiv {x : Int32} {y : Int32} (C : CX G X cc own nL ret d K) (hd : decode cc pc = .ok (.idiv, 1)) (hne : ¬ y = 0) (k : PW G K nL Q h (pc + 1) L (.int (x / y) :: st)) : PW G K nL Q h pc L (.int y :: .int x :: st) :=
  fun H locs ls hP hS hl => lv_idiv C.1 C.2.1 hd hne (k H locs ls hP hS hl)
theorem PW.irem {x : Int32} {y : Int32} (C : CX G X cc own nL ret d K) (hd : decode cc pc = .ok (.irem, 1)) (hne : ¬ y = 0) (k : PW G K nL Q h (pc + 1) L (.int (x - x / y * y) :: st)) : PW G K nL Q h pc L (.int y :: .int x :: st) :=
  fun H locs ls hP hS hl => lv_irem C.1 C.2.1 hd hne (k H locs ls hP hS hl)
theorem PW.ldiv {x : Int64} {y : Int64} (C : CX G X cc own nL ret d K) (hd : decode cc pc = .ok (.ldiv, 1)) (hne : ¬ y = 0) (k : PW G K nL Q h (pc + 1) L (.long (x / y) :: st)) : PW G K nL Q h pc L (.long y :: .long x :: st) :=
  fun H locs ls hP hS hl => lv_ldiv C.1 C.2.1 hd hne (k H locs ls hP hS hl)
theorem PW.ishl {x : Int32} {y : Int32} (C : CX G X cc own nL ret d K) (hd : decode cc pc = .ok (.ishl, 1)) (k : PW G K nL Q h (pc + 1) L (.int (x <<< (y &&& 31)) :: st)) : PW G K nL Q h pc L (.int y :: .int x :: st) :=
  fun H locs ls hP hS hl => lv_ishl C.1 C.2.1 hd (k H locs ls hP hS hl)
theorem PW.ishr {x : Int32} {y : Int32} (C : CX G X cc own nL ret d K) (hd : decode cc pc = .ok (.ishr, 1)) (k : PW G K nL Q h (pc + 1) L (.int (x >>> (y &&& 31)) :: st)) : PW G K nL Q h pc L (.int y :: .int x :: st) :=
  fun H locs ls hP hS hl => lv_ishr C.1 C.2.1 hd (k H locs ls hP hS hl)
theorem PW.iushr {x : Int32} {y : Int32} (C : CX G X cc own nL ret d K) (hd : decode cc pc = .ok (.iushr, 1)) (k : PW G K nL Q h (pc + 1) L (.int ((x.toUInt32 >>> (y.toUInt32 &&& Int32.toUInt32 31)).toInt32) :: st)) : PW G K nL Q h pc L (.int y :: .int x :: st) :=
  fun H locs ls hP hS hl => lv_iushr C.1 C.2.1 hd rfl (k H locs ls hP hS hl)
theorem PW.lushr {x : Int64} {y : Int32} (C : CX G X cc own nL ret d K) (hd : decode cc pc = .ok (.lushr, 1)) (k : PW G K nL Q h (pc + 1) L (.long ((x.toUInt64 >>> (y.toInt64.toUInt64 &&& Int64.toUInt64 63)).toInt64) :: st)) : PW G K nL Q h pc L (.int y :: .long x :: st) :=
  fun H locs ls hP hS hl => lv_lushr C.1 C.2.1 hd rfl (k H locs ls hP hS hl)
theorem PW.lshl {x : Int64} {y : Int32} (C : CX G X cc own nL ret d K) (hd : decode cc pc = .ok (.lshl, 1)) (k : PW G K nL Q h (pc + 1) L (.long (x <<< (y.toInt64 &&& 63)) :: st)) : PW G K nL Q h pc L (.int y :: .long x :: st) :=
  fun H locs ls hP hS hl => lv_lshl C.1 C.2.1 hd rfl (k H locs ls hP hS hl)
theorem PW.lshr {x : Int64} {y : Int32} (C : CX G X cc own nL ret d K) (hd : decode cc pc = .ok (.lshr, 1)) (k : PW G K nL Q h (pc + 1) L (.long (x >>> (y.toInt64 &&& 63)) :: st)) : PW G K nL Q h pc L (.int y :: .long x :: st) :=
  fun H locs ls hP hS hl => lv_lshr C.1 C.2.1 hd rfl (k H locs ls hP hS hl)
theorem PW.lcmp {x y : Int64} (C : CX G X cc own nL ret d K) (hd : decode cc pc = .ok (.lcmp, 1)) (k : PW G K nL Q h (pc + 1) L (.int (lg_cmp x y) :: st)) : PW G K nL Q h pc L (.long y :: .long x :: st) :=
  fun H locs ls hP hS hl => W.lcmp C.1 C.2.1 hd (k H locs ls hP hS hl)
theorem PW.ineg {x : Int32} (C : CX G X cc own nL ret d K) (hd : decode cc pc = .ok (.ineg, 1)) (k : PW G K nL Q h (pc + 1) L (.int (-x) :: st)) : PW G K nL Q h pc L (.int x :: st) :=
  fun H locs ls hP hS hl => lv_ineg C.1 C.2.1 hd (k H locs ls hP hS hl)
theorem PW.lneg {x : Int64} (C : CX G X cc own nL ret d K) (hd : decode cc pc = .ok (.lneg, 1)) (k : PW G K nL Q h (pc + 1) L (.long (-x) :: st)) : PW G K nL Q h pc L (.long x :: st) :=
  fun H locs ls hP hS hl => lv_lneg C.1 C.2.1 hd (k H locs ls hP hS hl)
theorem PW.i2l {x : Int32} (C : CX G X cc own nL ret d K) (hd : decode cc pc = .ok (.i2l, 1)) (k : PW G K nL Q h (pc + 1) L (.long (x.toInt64) :: st)) : PW G K nL Q h pc L (.int x :: st) :=
  fun H locs ls hP hS hl => lv_i2l C.1 C.2.1 hd rfl (k H locs ls hP hS hl)
theorem PW.l2i {x : Int64} (C : CX G X cc own nL ret d K) (hd : decode cc pc = .ok (.l2i, 1)) (k : PW G K nL Q h (pc + 1) L (.int (x.toInt32) :: st)) : PW G K nL Q h pc L (.long x :: st) :=
  fun H locs ls hP hS hl => lv_l2i C.1 C.2.1 hd rfl (k H locs ls hP hS hl)
theorem PW.i2b {x : Int32} (C : CX G X cc own nL ret d K) (hd : decode cc pc = .ok (.i2b, 1)) (k : PW G K nL Q h (pc + 1) L (.int (x.toInt8.toInt32) :: st)) : PW G K nL Q h pc L (.int x :: st) :=
  fun H locs ls hP hS hl => lv_i2b C.1 C.2.1 hd rfl (k H locs ls hP hS hl)
theorem PW.i2c {x : Int32} (C : CX G X cc own nL ret d K) (hd : decode cc pc = .ok (.i2c, 1)) (k : PW G K nL Q h (pc + 1) L (.int ((x.toUInt32 % 65536).toInt32) :: st)) : PW G K nL Q h pc L (.int x :: st) :=
  fun H locs ls hP hS hl => lv_i2c C.1 C.2.1 hd rfl (k H locs ls hP hS hl)
theorem PW.dup {a : Value} (C : CX G X cc own nL ret d K) (hd : decode cc pc = .ok (.dup, 1)) (hc : a.category = 1) (k : PW G K nL Q h (pc + 1) L (a :: a :: st)) : PW G K nL Q h pc L (a :: st) :=
  fun H locs ls hP hS hl => lv_dup C.1 C.2.1 hd (by rw [cv_cat]; exact hc) (k H locs ls hP hS hl)
theorem PW.pop {a : Value} (C : CX G X cc own nL ret d K) (hd : decode cc pc = .ok (.pop, 1)) (hc : a.category = 1) (k : PW G K nL Q h (pc + 1) L st) : PW G K nL Q h pc L (a :: st) :=
  fun H locs ls hP hS hl => lv_pop C.1 C.2.1 hd (by rw [cv_cat]; exact hc) (k H locs ls hP hS hl)
theorem PW.dup_x1 {a b : Value} (C : CX G X cc own nL ret d K) (hd : decode cc pc = .ok (.dup_x1, 1)) (hc : a.category = 1) (hc2 : b.category = 1) (k : PW G K nL Q h (pc + 1) L (a :: b :: a :: st)) : PW G K nL Q h pc L (a :: b :: st) :=
  fun H locs ls hP hS hl => lv_dup_x1 C.1 C.2.1 hd (by rw [cv_cat]; exact hc) (by rw [cv_cat]; exact hc2) (k H locs ls hP hS hl)
theorem PW.dup2 {a b : Value} (C : CX G X cc own nL ret d K) (hd : decode cc pc = .ok (.dup2, 1)) (hc : a.category = 1) (hc2 : b.category = 1) (k : PW G K nL Q h (pc + 1) L (a :: b :: a :: b :: st)) : PW G K nL Q h pc L (a :: b :: st) :=
  fun H locs ls hP hS hl => lv_dup2_11 C.1 C.2.1 hd (by rw [cv_cat]; exact hc) (by rw [cv_cat]; exact hc2) (k H locs ls hP hS hl)
theorem PW.goto {off : Int} {tgt : Nat} (C : CX G X cc own nL ret d K) (hd : decode cc pc = .ok (.goto off, 3)) (ht : (pc : Int) + off = (tgt : Int)) (k : PW G K nL Q h tgt L st) : PW G K nL Q h pc L st :=
  fun H locs ls hP hS hl => lv_goto C.1 C.2.1 hd ht (k H locs ls hP hS hl)
theorem PW.if_eq {x : Int32} {off : Int} {tgt : Nat} (C : CX G X cc own nL ret d K) (hd : decode cc pc = .ok (.ifCond .eq off, 3)) (ht : (pc : Int) + off = (tgt : Int)) (kt : x = 0 → PW G K nL Q h tgt L st) (kf : ¬ x = 0 → PW G K nL Q h (pc + 3) L st) : PW G K nL Q h pc L (.int x :: st) :=
  fun H locs ls hP hS hl => lv_if_eq C.1 C.2.1 hd ht (fun q => kt q H locs ls hP hS hl) (fun q => kf q H locs ls hP hS hl)
theorem PW.if_ne {x : Int32} {off : Int} {tgt : Nat} (C : CX G X cc own nL ret d K) (hd : decode cc pc = .ok (.ifCond .ne off, 3)) (ht : (pc : Int) + off = (tgt : Int)) (kt : ¬ x = 0 → PW G K nL Q h tgt L st) (kf : x = 0 → PW G K nL Q h (pc + 3) L st) : PW G K nL Q h pc L (.int x :: st) :=
  fun H locs ls hP hS hl => lv_if_ne C.1 C.2.1 hd ht (fun q => kt q H locs ls hP hS hl) (fun q => kf q H locs ls hP hS hl)
theorem PW.if_lt {x : Int32} {off : Int} {tgt : Nat} (C : CX G X cc own nL ret d K) (hd : decode cc pc = .ok (.ifCond .lt off, 3)) (ht : (pc : Int) + off = (tgt : Int)) (kt : x < 0 → PW G K nL Q h tgt L st) (kf : ¬ x < 0 → PW G K nL Q h (pc + 3) L st) : PW G K nL Q h pc L (.int x :: st) :=
  fun H locs ls hP hS hl => lv_if_lt C.1 C.2.1 hd ht (fun q => kt q H locs ls hP hS hl) (fun q => kf q H locs ls hP hS hl)
theorem PW.if_ge {x : Int32} {off : Int} {tgt : Nat} (C : CX G X cc own nL ret d K) (hd : decode cc pc = .ok (.ifCond .ge off, 3)) (ht : (pc : Int) + off = (tgt : Int)) (kt : 0 ≤ x → PW G K nL Q h tgt L st) (kf : ¬ 0 ≤ x → PW G K nL Q h (pc + 3) L st) : PW G K nL Q h pc L (.int x :: st) :=
  fun H locs ls hP hS hl => lv_if_ge C.1 C.2.1 hd ht (fun q => kt q H locs ls hP hS hl) (fun q => kf q H locs ls hP hS hl)
theorem PW.if_gt {x : Int32} {off : Int} {tgt : Nat} (C : CX G X cc own nL ret d K) (hd : decode cc pc = .ok (.ifCond .gt off, 3)) (ht : (pc : Int) + off = (tgt : Int)) (kt : 0 < x → PW G K nL Q h tgt L st) (kf : ¬ 0 < x → PW G K nL Q h (pc + 3) L st) : PW G K nL Q h pc L (.int x :: st) :=
  fun H locs ls hP hS hl => lv_if_gt C.1 C.2.1 hd ht (fun q => kt q H locs ls hP hS hl) (fun q => kf q H locs ls hP hS hl)
theorem PW.if_le {x : Int32} {off : Int} {tgt : Nat} (C : CX G X cc own nL ret d K) (hd : decode cc pc = .ok (.ifCond .le off, 3)) (ht : (pc : Int) + off = (tgt : Int)) (kt : x ≤ 0 → PW G K nL Q h tgt L st) (kf : ¬ x ≤ 0 → PW G K nL Q h (pc + 3) L st) : PW G K nL Q h pc L (.int x :: st) :=
  fun H locs ls hP hS hl => lv_if_le C.1 C.2.1 hd ht (fun q => kt q H locs ls hP hS hl) (fun q => kf q H locs ls hP hS hl)
theorem PW.icmp_eq {x y : Int32} {off : Int} {tgt : Nat} (C : CX G X cc own nL ret d K) (hd : decode cc pc = .ok (.if_icmp .eq off, 3)) (ht : (pc : Int) + off = (tgt : Int)) (kt : x = y → PW G K nL Q h tgt L st) (kf : ¬ x = y → PW G K nL Q h (pc + 3) L st) : PW G K nL Q h pc L (.int y :: .int x :: st) :=
  fun H locs ls hP hS hl => lv_icmp_eq C.1 C.2.1 hd ht (fun q => kt q H locs ls hP hS hl) (fun q => kf q H locs ls hP hS hl)
theorem PW.icmp_ne {x y : Int32} {off : Int} {tgt : Nat} (C : CX G X cc own nL ret d K) (hd : decode cc pc = .ok (.if_icmp .ne off, 3)) (ht : (pc : Int) + off = (tgt : Int)) (kt : ¬ x = y → PW G K nL Q h tgt L st) (kf : x = y → PW G K nL Q h (pc + 3) L st) : PW G K nL Q h pc L (.int y :: .int x :: st) :=
  fun H locs ls hP hS hl => lv_icmp_ne C.1 C.2.1 hd ht (fun q => kt q H locs ls hP hS hl) (fun q => kf q H locs ls hP hS hl)
theorem PW.icmp_lt {x y : Int32} {off : Int} {tgt : Nat} (C : CX G X cc own nL ret d K) (hd : decode cc pc = .ok (.if_icmp .lt off, 3)) (ht : (pc : Int) + off = (tgt : Int)) (kt : x < y → PW G K nL Q h tgt L st) (kf : ¬ x < y → PW G K nL Q h (pc + 3) L st) : PW G K nL Q h pc L (.int y :: .int x :: st) :=
  fun H locs ls hP hS hl => lv_icmp_lt C.1 C.2.1 hd ht (fun q => kt q H locs ls hP hS hl) (fun q => kf q H locs ls hP hS hl)
theorem PW.icmp_ge {x y : Int32} {off : Int} {tgt : Nat} (C : CX G X cc own nL ret d K) (hd : decode cc pc = .ok (.if_icmp .ge off, 3)) (ht : (pc : Int) + off = (tgt : Int)) (kt : y ≤ x → PW G K nL Q h tgt L st) (kf : ¬ y ≤ x → PW G K nL Q h (pc + 3) L st) : PW G K nL Q h pc L (.int y :: .int x :: st) :=
  fun H locs ls hP hS hl => lv_icmp_ge C.1 C.2.1 hd ht (fun q => kt q H locs ls hP hS hl) (fun q => kf q H locs ls hP hS hl)
theorem PW.icmp_gt {x y : Int32} {off : Int} {tgt : Nat} (C : CX G X cc own nL ret d K) (hd : decode cc pc = .ok (.if_icmp .gt off, 3)) (ht : (pc : Int) + off = (tgt : Int)) (kt : y < x → PW G K nL Q h tgt L st) (kf : ¬ y < x → PW G K nL Q h (pc + 3) L st) : PW G K nL Q h pc L (.int y :: .int x :: st) :=
  fun H locs ls hP hS hl => lv_icmp_gt C.1 C.2.1 hd ht (fun q => kt q H locs ls hP hS hl) (fun q => kf q H locs ls hP hS hl)
theorem PW.icmp_le {x y : Int32} {off : Int} {tgt : Nat} (C : CX G X cc own nL ret d K) (hd : decode cc pc = .ok (.if_icmp .le off, 3)) (ht : (pc : Int) + off = (tgt : Int)) (kt : x ≤ y → PW G K nL Q h tgt L st) (kf : ¬ x ≤ y → PW G K nL Q h (pc + 3) L st) : PW G K nL Q h pc L (.int y :: .int x :: st) :=
  fun H locs ls hP hS hl => lv_icmp_le C.1 C.2.1 hd ht (fun q => kt q H locs ls hP hS hl) (fun q => kf q H locs ls hP hS hl)
theorem PW.ifnull {x : Nat} {off : Int} (C : CX G X cc own nL ret d K) (hd : decode cc pc = .ok (.ifnull off, 3)) (k : PW G K nL Q h (pc + 3) L st) : PW G K nL Q h pc L (.ref x :: st) :=
  fun H locs ls hP hS hl => lv_ifnull C.1 C.2.1 hd (k H locs ls hP hS hl)
theorem PW.tin {dflt lo hi : Int} {offs : Array Int} {len : Nat} {x : Int32} {off : Int} {tgt : Nat} (C : CX G X cc own nL ret d K) (hd : decode cc pc = .ok (.tableswitch dflt lo hi offs, len)) (h1 : ¬ x.toInt < lo) (h2 : ¬ hi < x.toInt) (ho : offs[(x.toInt - lo).toNat]? = some off) (ht : (pc : Int) + off = (tgt : Int)) (k : PW G K nL Q h tgt L st) : PW G K nL Q h pc L (.int x :: st) :=
  fun H locs ls hP hS hl => lv_tableIn C.1 C.2.1 hd h1 h2 ho ht (k H locs ls hP hS hl)
theorem PW.tout {dflt lo hi : Int} {offs : Array Int} {len : Nat} {x : Int32} {tgt : Nat} (C : CX G X cc own nL ret d K) (hd : decode cc pc = .ok (.tableswitch dflt lo hi offs, len)) (h1 : x.toInt < lo ∨ hi < x.toInt) (ht : (pc : Int) + dflt = (tgt : Int)) (k : PW G K nL Q h tgt L st) : PW G K nL Q h pc L (.int x :: st) :=
  fun H locs ls hP hS hl => lv_tableOut C.1 C.2.1 hd h1 ht (k H locs ls hP hS hl)
theorem PW.look {dflt : Int} {ps : Array (Int × Int)} {len : Nat} {x : Int32} {off : Int} {tgt : Nat} (C : CX G X cc own nL ret d K) (hd : decode cc pc = .ok (.lookupswitch dflt ps, len)) (hp : (ps.toList.zip (ps.toList.drop 1)).all (fun (a, next) => a.1 < next.1) = true) (ho : Op.lookupswitch.offset ps.toList dflt x.toInt = off) (ht : (pc : Int) + off = (tgt : Int)) (k : PW G K nL Q h tgt L st) : PW G K nL Q h pc L (.int x :: st) :=
  fun H locs ls hP hS hl => lv_lookup C.1 C.2.1 hd hp ho ht (k H locs ls hP hS hl)
theorem lh_st1 {v : Value} {ls' : Array Slot} {i : Nat} {L' : List (Option Value)} (hl : lv_has ls' nL ((i, cv G v) :: (prs G 0 L).filter (fun q => !(q.1 == i) && !(q.1 + 1 == i && q.2.category == 2)))) (hnl : ∀ (w : Value), i ≠ 0 → L[i - 1]? = some (some w) → w.category = 1) (hs : ∀ (j : Nat) (w : Value), L'[j]? = some (some w) → (j = i ∧ w = v) ∨ (j ≠ i ∧ L[j]? = some (some w))) : lh G nL L' ls' := by
  refine ⟨hl.1, hl.2.1, fun q hq => ?_⟩
  obtain ⟨j, w, h1, rfl⟩ := (prs_mem G L' 0 q).mp hq
  simp only [Nat.zero_add]
  rcases hs j w h1 with ⟨rfl, rfl⟩ | ⟨h2, h3⟩
  · exact hl.2.2 _ List.mem_cons_self
  · refine hl.2.2 (j, cv G w) (List.mem_cons_of_mem _ (List.mem_filter.mpr ⟨(prs_mem G L 0 _).mpr ⟨j, w, h3, by simp⟩, ?_⟩))
    by_cases hj : j + 1 = i
    · have := hnl w (by omega) (by rw [← hj]; simpa using h3)
      simp [h2, cv_cat, this]
    · simp [h2, hj]
theorem lh_st2 {v : Value} {ls' : Array Slot} {i : Nat} {L' : List (Option Value)} (hl : lv_has ls' nL ((i, cv G v) :: (prs G 0 L).filter (fun q => !(q.1 == i) && (!(q.1 == i + 1) && !(q.1 + 1 == i && q.2.category == 2))))) (hnl : ∀ (w : Value), i ≠ 0 → L[i - 1]? = some (some w) → w.category = 1) (hs : ∀ (j : Nat) (w : Value), L'[j]? = some (some w) → (j = i ∧ w = v) ∨ (j ≠ i ∧ j ≠ i + 1 ∧ L[j]? = some (some w))) : lh G nL L' ls' := by
  refine ⟨hl.1, hl.2.1, fun q hq => ?_⟩
  obtain ⟨j, w, h1, rfl⟩ := (prs_mem G L' 0 q).mp hq
  simp only [Nat.zero_add]
  rcases hs j w h1 with ⟨rfl, rfl⟩ | ⟨h2, h4, h3⟩
  · exact hl.2.2 _ List.mem_cons_self
  · refine hl.2.2 (j, cv G w) (List.mem_cons_of_mem _ (List.mem_filter.mpr ⟨(prs_mem G L 0 _).mpr ⟨j, w, h3, by simp⟩, ?_⟩))
    by_cases hj : j + 1 = i
    · have := hnl w (by omega) (by rw [← hj]; simpa using h3)
      simp [h2, h4, cv_cat, this]
    · simp [h2, h4, hj]
def nlg : Option Value → Bool
  | some (.long _) => false
  | some (.double _) => false
  | _ => true
theorem nlg_of {a : Option Value} {w : Value} (h : nlg a = true) (e : some a = some (some w)) : w.category = 1 := by
  cases Option.some.inj e
  cases w <;> first | rfl | cases h
theorem PW.ild0n {x : Int32} (C : CX G X cc own nL ret d K) (hd : decode cc pc = .ok (.iload_n 0, 1)) (k : PW G K nL Q h (pc + 1) (some (.int x) :: L) (.int x :: st)) : PW G K nL Q h pc (some (.int x) :: L) st :=
  fun H locs ls hP hS hl => lv_iload_n C.1 C.2.1 hd rfl (lh_at hl 0 rfl) (k H locs ls hP hS hl)
theorem PW.ild0 {x : Int32} (C : CX G X cc own nL ret d K) (hd : decode cc pc = .ok (.iload 0, 2)) (k : PW G K nL Q h (pc + 2) (some (.int x) :: L) (.int x :: st)) : PW G K nL Q h pc (some (.int x) :: L) st :=
  fun H locs ls hP hS hl => lv_iload C.1 C.2.1 hd (lh_at hl 0 rfl) (k H locs ls hP hS hl)
theorem PW.lld0n {x : Int64} (C : CX G X cc own nL ret d K) (hd : decode cc pc = .ok (.lload_n 0, 1)) (k : PW G K nL Q h (pc + 1) (some (.long x) :: L) (.long x :: st)) : PW G K nL Q h pc (some (.long x) :: L) st :=
  fun H locs ls hP hS hl => lv_lload_n C.1 C.2.1 hd rfl (lh_at hl 0 rfl) (k H locs ls hP hS hl)
theorem PW.lld0 {x : Int64} (C : CX G X cc own nL ret d K) (hd : decode cc pc = .ok (.lload 0, 2)) (k : PW G K nL Q h (pc + 2) (some (.long x) :: L) (.long x :: st)) : PW G K nL Q h pc (some (.long x) :: L) st :=
  fun H locs ls hP hS hl => lv_lload C.1 C.2.1 hd (lh_at hl 0 rfl) (k H locs ls hP hS hl)
theorem PW.ald0n {x : Nat} (C : CX G X cc own nL ret d K) (hd : decode cc pc = .ok (.aload_n 0, 1)) (k : PW G K nL Q h (pc + 1) (some (.ref x) :: L) (.ref x :: st)) : PW G K nL Q h pc (some (.ref x) :: L) st :=
  fun H locs ls hP hS hl => lv_aload_n C.1 C.2.1 hd rfl (lh_at hl 0 rfl) (k H locs ls hP hS hl)
theorem PW.ald0 {x : Nat} (C : CX G X cc own nL ret d K) (hd : decode cc pc = .ok (.aload 0, 2)) (k : PW G K nL Q h (pc + 2) (some (.ref x) :: L) (.ref x :: st)) : PW G K nL Q h pc (some (.ref x) :: L) st :=
  fun H locs ls hP hS hl => lv_aload C.1 C.2.1 hd (lh_at hl 0 rfl) (k H locs ls hP hS hl)
theorem PW.ild1n {a0 : Option Value} {x : Int32} (C : CX G X cc own nL ret d K) (hd : decode cc pc = .ok (.iload_n 1, 1)) (k : PW G K nL Q h (pc + 1) (a0 :: some (.int x) :: L) (.int x :: st)) : PW G K nL Q h pc (a0 :: some (.int x) :: L) st :=
  fun H locs ls hP hS hl => lv_iload_n C.1 C.2.1 hd rfl (lh_at hl 1 rfl) (k H locs ls hP hS hl)
theorem PW.ild1 {a0 : Option Value} {x : Int32} (C : CX G X cc own nL ret d K) (hd : decode cc pc = .ok (.iload 1, 2)) (k : PW G K nL Q h (pc + 2) (a0 :: some (.int x) :: L) (.int x :: st)) : PW G K nL Q h pc (a0 :: some (.int x) :: L) st :=
  fun H locs ls hP hS hl => lv_iload C.1 C.2.1 hd (lh_at hl 1 rfl) (k H locs ls hP hS hl)
theorem PW.lld1n {a0 : Option Value} {x : Int64} (C : CX G X cc own nL ret d K) (hd : decode cc pc = .ok (.lload_n 1, 1)) (k : PW G K nL Q h (pc + 1) (a0 :: some (.long x) :: L) (.long x :: st)) : PW G K nL Q h pc (a0 :: some (.long x) :: L) st :=
  fun H locs ls hP hS hl => lv_lload_n C.1 C.2.1 hd rfl (lh_at hl 1 rfl) (k H locs ls hP hS hl)
theorem PW.lld1 {a0 : Option Value} {x : Int64} (C : CX G X cc own nL ret d K) (hd : decode cc pc = .ok (.lload 1, 2)) (k : PW G K nL Q h (pc + 2) (a0 :: some (.long x) :: L) (.long x :: st)) : PW G K nL Q h pc (a0 :: some (.long x) :: L) st :=
  fun H locs ls hP hS hl => lv_lload C.1 C.2.1 hd (lh_at hl 1 rfl) (k H locs ls hP hS hl)
theorem PW.ald1n {a0 : Option Value} {x : Nat} (C : CX G X cc own nL ret d K) (hd : decode cc pc = .ok (.aload_n 1, 1)) (k : PW G K nL Q h (pc + 1) (a0 :: some (.ref x) :: L) (.ref x :: st)) : PW G K nL Q h pc (a0 :: some (.ref x) :: L) st :=
  fun H locs ls hP hS hl => lv_aload_n C.1 C.2.1 hd rfl (lh_at hl 1 rfl) (k H locs ls hP hS hl)
theorem PW.ald1 {a0 : Option Value} {x : Nat} (C : CX G X cc own nL ret d K) (hd : decode cc pc = .ok (.aload 1, 2)) (k : PW G K nL Q h (pc + 2) (a0 :: some (.ref x) :: L) (.ref x :: st)) : PW G K nL Q h pc (a0 :: some (.ref x) :: L) st :=
  fun H locs ls hP hS hl => lv_aload C.1 C.2.1 hd (lh_at hl 1 rfl) (k H locs ls hP hS hl)
theorem PW.ild2n {a0 a1 : Option Value} {x : Int32} (C : CX G X cc own nL ret d K) (hd : decode cc pc = .ok (.iload_n 2, 1)) (k : PW G K nL Q h (pc + 1) (a0 :: a1 :: some (.int x) :: L) (.int x :: st)) : PW G K nL Q h pc (a0 :: a1 :: some (.int x) :: L) st :=
  fun H locs ls hP hS hl => lv_iload_n C.1 C.2.1 hd rfl (lh_at hl 2 rfl) (k H locs ls hP hS hl)
theorem PW.ild2 {a0 a1 : Option Value} {x : Int32} (C : CX G X cc own nL ret d K) (hd : decode cc pc = .ok (.iload 2, 2)) (k : PW G K nL Q h (pc + 2) (a0 :: a1 :: some (.int x) :: L) (.int x :: st)) : PW G K nL Q h pc (a0 :: a1 :: some (.int x) :: L) st :=
  fun H locs ls hP hS hl => lv_iload C.1 C.2.1 hd (lh_at hl 2 rfl) (k H locs ls hP hS hl)
theorem PW.lld2n {a0 a1 : Option Value} {x : Int64} (C : CX G X cc own nL ret d K) (hd : decode cc pc = .ok (.lload_n 2, 1)) (k : PW G K nL Q h (pc + 1) (a0 :: a1 :: some (.long x) :: L) (.long x :: st)) : PW G K nL Q h pc (a0 :: a1 :: some (.long x) :: L) st :=
  fun H locs ls hP hS hl => lv_lload_n C.1 C.2.1 hd rfl (lh_at hl 2 rfl) (k H locs ls hP hS hl)
theorem PW.lld2 {a0 a1 : Option Value} {x : Int64} (C : CX G X cc own nL ret d K) (hd : decode cc pc = .ok (.lload 2, 2)) (k : PW G K nL Q h (pc + 2) (a0 :: a1 :: some (.long x) :: L) (.long x :: st)) : PW G K nL Q h pc (a0 :: a1 :: some (.long x) :: L) st :=
  fun H locs ls hP hS hl => lv_lload C.1 C.2.1 hd (lh_at hl 2 rfl) (k H locs ls hP hS hl)
theorem PW.ald2n {a0 a1 : Option Value} {x : Nat} (C : CX G X cc own nL ret d K) (hd : decode cc pc = .ok (.aload_n 2, 1)) (k : PW G K nL Q h (pc + 1) (a0 :: a1 :: some (.ref x) :: L) (.ref x :: st)) : PW G K nL Q h pc (a0 :: a1 :: some (.ref x) :: L) st :=
  fun H locs ls hP hS hl => lv_aload_n C.1 C.2.1 hd rfl (lh_at hl 2 rfl) (k H locs ls hP hS hl)
theorem PW.ald2 {a0 a1 : Option Value} {x : Nat} (C : CX G X cc own nL ret d K) (hd : decode cc pc = .ok (.aload 2, 2)) (k : PW G K nL Q h (pc + 2) (a0 :: a1 :: some (.ref x) :: L) (.ref x :: st)) : PW G K nL Q h pc (a0 :: a1 :: some (.ref x) :: L) st :=
  fun H locs ls hP hS hl => lv_aload C.1 C.2.1 hd (lh_at hl 2 rfl) (k H locs ls hP hS hl)
theorem PW.ild3n {a0 a1 a2 : Option Value} {x : Int32} (C : CX G X cc own nL ret d K) (hd : decode cc pc = .ok (.iload_n 3, 1)) (k : PW G K nL Q h (pc + 1) (a0 :: a1 :: a2 :: some (.int x) :: L) (.int x :: st)) : PW G K nL Q h pc (a0 :: a1 :: a2 :: some (.int x) :: L) st :=
  fun H locs ls hP hS hl => lv_iload_n C.1 C.2.1 hd rfl (lh_at hl 3 rfl) (k H locs ls hP hS hl)
theorem PW.ild3 {a0 a1 a2 : Option Value} {x : Int32} (C : CX G X cc own nL ret d K) (hd : decode cc pc = .ok (.iload 3, 2)) (k : PW G K nL Q h (pc + 2) (a0 :: a1 :: a2 :: some (.int x) :: L) (.int x :: st)) : PW G K nL Q h pc (a0 :: a1 :: a2 :: some (.int x) :: L) st :=
  fun H locs ls hP hS hl => lv_iload C.1 C.2.1 hd (lh_at hl 3 rfl) (k H locs ls hP hS hl)
theorem PW.lld3n {a0 a1 a2 : Option Value} {x : Int64} (C : CX G X cc own nL ret d K) (hd : decode cc pc = .ok (.lload_n 3, 1)) (k : PW G K nL Q h (pc + 1) (a0 :: a1 :: a2 :: some (.long x) :: L) (.long x :: st)) : PW G K nL Q h pc (a0 :: a1 :: a2 :: some (.long x) :: L) st :=
  fun H locs ls hP hS hl => lv_lload_n C.1 C.2.1 hd rfl (lh_at hl 3 rfl) (k H locs ls hP hS hl)
theorem PW.lld3 {a0 a1 a2 : Option Value} {x : Int64} (C : CX G X cc own nL ret d K) (hd : decode cc pc = .ok (.lload 3, 2)) (k : PW G K nL Q h (pc + 2) (a0 :: a1 :: a2 :: some (.long x) :: L) (.long x :: st)) : PW G K nL Q h pc (a0 :: a1 :: a2 :: some (.long x) :: L) st :=
  fun H locs ls hP hS hl => lv_lload C.1 C.2.1 hd (lh_at hl 3 rfl) (k H locs ls hP hS hl)
theorem PW.ald3n {a0 a1 a2 : Option Value} {x : Nat} (C : CX G X cc own nL ret d K) (hd : decode cc pc = .ok (.aload_n 3, 1)) (k : PW G K nL Q h (pc + 1) (a0 :: a1 :: a2 :: some (.ref x) :: L) (.ref x :: st)) : PW G K nL Q h pc (a0 :: a1 :: a2 :: some (.ref x) :: L) st :=
  fun H locs ls hP hS hl => lv_aload_n C.1 C.2.1 hd rfl (lh_at hl 3 rfl) (k H locs ls hP hS hl)
theorem PW.ald3 {a0 a1 a2 : Option Value} {x : Nat} (C : CX G X cc own nL ret d K) (hd : decode cc pc = .ok (.aload 3, 2)) (k : PW G K nL Q h (pc + 2) (a0 :: a1 :: a2 :: some (.ref x) :: L) (.ref x :: st)) : PW G K nL Q h pc (a0 :: a1 :: a2 :: some (.ref x) :: L) st :=
  fun H locs ls hP hS hl => lv_aload C.1 C.2.1 hd (lh_at hl 3 rfl) (k H locs ls hP hS hl)
theorem PW.ild4 {a0 a1 a2 a3 : Option Value} {x : Int32} (C : CX G X cc own nL ret d K) (hd : decode cc pc = .ok (.iload 4, 2)) (k : PW G K nL Q h (pc + 2) (a0 :: a1 :: a2 :: a3 :: some (.int x) :: L) (.int x :: st)) : PW G K nL Q h pc (a0 :: a1 :: a2 :: a3 :: some (.int x) :: L) st :=
  fun H locs ls hP hS hl => lv_iload C.1 C.2.1 hd (lh_at hl 4 rfl) (k H locs ls hP hS hl)
theorem PW.lld4 {a0 a1 a2 a3 : Option Value} {x : Int64} (C : CX G X cc own nL ret d K) (hd : decode cc pc = .ok (.lload 4, 2)) (k : PW G K nL Q h (pc + 2) (a0 :: a1 :: a2 :: a3 :: some (.long x) :: L) (.long x :: st)) : PW G K nL Q h pc (a0 :: a1 :: a2 :: a3 :: some (.long x) :: L) st :=
  fun H locs ls hP hS hl => lv_lload C.1 C.2.1 hd (lh_at hl 4 rfl) (k H locs ls hP hS hl)
theorem PW.ald4 {a0 a1 a2 a3 : Option Value} {x : Nat} (C : CX G X cc own nL ret d K) (hd : decode cc pc = .ok (.aload 4, 2)) (k : PW G K nL Q h (pc + 2) (a0 :: a1 :: a2 :: a3 :: some (.ref x) :: L) (.ref x :: st)) : PW G K nL Q h pc (a0 :: a1 :: a2 :: a3 :: some (.ref x) :: L) st :=
  fun H locs ls hP hS hl => lv_aload C.1 C.2.1 hd (lh_at hl 4 rfl) (k H locs ls hP hS hl)
theorem PW.ild5 {a0 a1 a2 a3 a4 : Option Value} {x : Int32} (C : CX G X cc own nL ret d K) (hd : decode cc pc = .ok (.iload 5, 2)) (k : PW G K nL Q h (pc + 2) (a0 :: a1 :: a2 :: a3 :: a4 :: some (.int x) :: L) (.int x :: st)) : PW G K nL Q h pc (a0 :: a1 :: a2 :: a3 :: a4 :: some (.int x) :: L) st :=
  fun H locs ls hP hS hl => lv_iload C.1 C.2.1 hd (lh_at hl 5 rfl) (k H locs ls hP hS hl)
theorem PW.lld5 {a0 a1 a2 a3 a4 : Option Value} {x : Int64} (C : CX G X cc own nL ret d K) (hd : decode cc pc = .ok (.lload 5, 2)) (k : PW G K nL Q h (pc + 2) (a0 :: a1 :: a2 :: a3 :: a4 :: some (.long x) :: L) (.long x :: st)) : PW G K nL Q h pc (a0 :: a1 :: a2 :: a3 :: a4 :: some (.long x) :: L) st :=
  fun H locs ls hP hS hl => lv_lload C.1 C.2.1 hd (lh_at hl 5 rfl) (k H locs ls hP hS hl)
theorem PW.ald5 {a0 a1 a2 a3 a4 : Option Value} {x : Nat} (C : CX G X cc own nL ret d K) (hd : decode cc pc = .ok (.aload 5, 2)) (k : PW G K nL Q h (pc + 2) (a0 :: a1 :: a2 :: a3 :: a4 :: some (.ref x) :: L) (.ref x :: st)) : PW G K nL Q h pc (a0 :: a1 :: a2 :: a3 :: a4 :: some (.ref x) :: L) st :=
  fun H locs ls hP hS hl => lv_aload C.1 C.2.1 hd (lh_at hl 5 rfl) (k H locs ls hP hS hl)
theorem PW.ild6 {a0 a1 a2 a3 a4 a5 : Option Value} {x : Int32} (C : CX G X cc own nL ret d K) (hd : decode cc pc = .ok (.iload 6, 2)) (k : PW G K nL Q h (pc + 2) (a0 :: a1 :: a2 :: a3 :: a4 :: a5 :: some (.int x) :: L) (.int x :: st)) : PW G K nL Q h pc (a0 :: a1 :: a2 :: a3 :: a4 :: a5 :: some (.int x) :: L) st :=
  fun H locs ls hP hS hl => lv_iload C.1 C.2.1 hd (lh_at hl 6 rfl) (k H locs ls hP hS hl)
theorem PW.lld6 {a0 a1 a2 a3 a4 a5 : Option Value} {x : Int64} (C : CX G X cc own nL ret d K) (hd : decode cc pc = .ok (.lload 6, 2)) (k : PW G K nL Q h (pc + 2) (a0 :: a1 :: a2 :: a3 :: a4 :: a5 :: some (.long x) :: L) (.long x :: st)) : PW G K nL Q h pc (a0 :: a1 :: a2 :: a3 :: a4 :: a5 :: some (.long x) :: L) st :=
  fun H locs ls hP hS hl => lv_lload C.1 C.2.1 hd (lh_at hl 6 rfl) (k H locs ls hP hS hl)
theorem PW.ald6 {a0 a1 a2 a3 a4 a5 : Option Value} {x : Nat} (C : CX G X cc own nL ret d K) (hd : decode cc pc = .ok (.aload 6, 2)) (k : PW G K nL Q h (pc + 2) (a0 :: a1 :: a2 :: a3 :: a4 :: a5 :: some (.ref x) :: L) (.ref x :: st)) : PW G K nL Q h pc (a0 :: a1 :: a2 :: a3 :: a4 :: a5 :: some (.ref x) :: L) st :=
  fun H locs ls hP hS hl => lv_aload C.1 C.2.1 hd (lh_at hl 6 rfl) (k H locs ls hP hS hl)
theorem PW.ild7 {a0 a1 a2 a3 a4 a5 a6 : Option Value} {x : Int32} (C : CX G X cc own nL ret d K) (hd : decode cc pc = .ok (.iload 7, 2)) (k : PW G K nL Q h (pc + 2) (a0 :: a1 :: a2 :: a3 :: a4 :: a5 :: a6 :: some (.int x) :: L) (.int x :: st)) : PW G K nL Q h pc (a0 :: a1 :: a2 :: a3 :: a4 :: a5 :: a6 :: some (.int x) :: L) st :=
  fun H locs ls hP hS hl => lv_iload C.1 C.2.1 hd (lh_at hl 7 rfl) (k H locs ls hP hS hl)
theorem PW.lld7 {a0 a1 a2 a3 a4 a5 a6 : Option Value} {x : Int64} (C : CX G X cc own nL ret d K) (hd : decode cc pc = .ok (.lload 7, 2)) (k : PW G K nL Q h (pc + 2) (a0 :: a1 :: a2 :: a3 :: a4 :: a5 :: a6 :: some (.long x) :: L) (.long x :: st)) : PW G K nL Q h pc (a0 :: a1 :: a2 :: a3 :: a4 :: a5 :: a6 :: some (.long x) :: L) st :=
  fun H locs ls hP hS hl => lv_lload C.1 C.2.1 hd (lh_at hl 7 rfl) (k H locs ls hP hS hl)
theorem PW.ald7 {a0 a1 a2 a3 a4 a5 a6 : Option Value} {x : Nat} (C : CX G X cc own nL ret d K) (hd : decode cc pc = .ok (.aload 7, 2)) (k : PW G K nL Q h (pc + 2) (a0 :: a1 :: a2 :: a3 :: a4 :: a5 :: a6 :: some (.ref x) :: L) (.ref x :: st)) : PW G K nL Q h pc (a0 :: a1 :: a2 :: a3 :: a4 :: a5 :: a6 :: some (.ref x) :: L) st :=
  fun H locs ls hP hS hl => lv_aload C.1 C.2.1 hd (lh_at hl 7 rfl) (k H locs ls hP hS hl)
theorem PW.ild8 {a0 a1 a2 a3 a4 a5 a6 a7 : Option Value} {x : Int32} (C : CX G X cc own nL ret d K) (hd : decode cc pc = .ok (.iload 8, 2)) (k : PW G K nL Q h (pc + 2) (a0 :: a1 :: a2 :: a3 :: a4 :: a5 :: a6 :: a7 :: some (.int x) :: L) (.int x :: st)) : PW G K nL Q h pc (a0 :: a1 :: a2 :: a3 :: a4 :: a5 :: a6 :: a7 :: some (.int x) :: L) st :=
  fun H locs ls hP hS hl => lv_iload C.1 C.2.1 hd (lh_at hl 8 rfl) (k H locs ls hP hS hl)
theorem PW.lld8 {a0 a1 a2 a3 a4 a5 a6 a7 : Option Value} {x : Int64} (C : CX G X cc own nL ret d K) (hd : decode cc pc = .ok (.lload 8, 2)) (k : PW G K nL Q h (pc + 2) (a0 :: a1 :: a2 :: a3 :: a4 :: a5 :: a6 :: a7 :: some (.long x) :: L) (.long x :: st)) : PW G K nL Q h pc (a0 :: a1 :: a2 :: a3 :: a4 :: a5 :: a6 :: a7 :: some (.long x) :: L) st :=
  fun H locs ls hP hS hl => lv_lload C.1 C.2.1 hd (lh_at hl 8 rfl) (k H locs ls hP hS hl)
theorem PW.ald8 {a0 a1 a2 a3 a4 a5 a6 a7 : Option Value} {x : Nat} (C : CX G X cc own nL ret d K) (hd : decode cc pc = .ok (.aload 8, 2)) (k : PW G K nL Q h (pc + 2) (a0 :: a1 :: a2 :: a3 :: a4 :: a5 :: a6 :: a7 :: some (.ref x) :: L) (.ref x :: st)) : PW G K nL Q h pc (a0 :: a1 :: a2 :: a3 :: a4 :: a5 :: a6 :: a7 :: some (.ref x) :: L) st :=
  fun H locs ls hP hS hl => lv_aload C.1 C.2.1 hd (lh_at hl 8 rfl) (k H locs ls hP hS hl)
theorem PW.ild9 {a0 a1 a2 a3 a4 a5 a6 a7 a8 : Option Value} {x : Int32} (C : CX G X cc own nL ret d K) (hd : decode cc pc = .ok (.iload 9, 2)) (k : PW G K nL Q h (pc + 2) (a0 :: a1 :: a2 :: a3 :: a4 :: a5 :: a6 :: a7 :: a8 :: some (.int x) :: L) (.int x :: st)) : PW G K nL Q h pc (a0 :: a1 :: a2 :: a3 :: a4 :: a5 :: a6 :: a7 :: a8 :: some (.int x) :: L) st :=
  fun H locs ls hP hS hl => lv_iload C.1 C.2.1 hd (lh_at hl 9 rfl) (k H locs ls hP hS hl)
theorem PW.lld9 {a0 a1 a2 a3 a4 a5 a6 a7 a8 : Option Value} {x : Int64} (C : CX G X cc own nL ret d K) (hd : decode cc pc = .ok (.lload 9, 2)) (k : PW G K nL Q h (pc + 2) (a0 :: a1 :: a2 :: a3 :: a4 :: a5 :: a6 :: a7 :: a8 :: some (.long x) :: L) (.long x :: st)) : PW G K nL Q h pc (a0 :: a1 :: a2 :: a3 :: a4 :: a5 :: a6 :: a7 :: a8 :: some (.long x) :: L) st :=
  fun H locs ls hP hS hl => lv_lload C.1 C.2.1 hd (lh_at hl 9 rfl) (k H locs ls hP hS hl)
theorem PW.ald9 {a0 a1 a2 a3 a4 a5 a6 a7 a8 : Option Value} {x : Nat} (C : CX G X cc own nL ret d K) (hd : decode cc pc = .ok (.aload 9, 2)) (k : PW G K nL Q h (pc + 2) (a0 :: a1 :: a2 :: a3 :: a4 :: a5 :: a6 :: a7 :: a8 :: some (.ref x) :: L) (.ref x :: st)) : PW G K nL Q h pc (a0 :: a1 :: a2 :: a3 :: a4 :: a5 :: a6 :: a7 :: a8 :: some (.ref x) :: L) st :=
  fun H locs ls hP hS hl => lv_aload C.1 C.2.1 hd (lh_at hl 9 rfl) (k H locs ls hP hS hl)
theorem PW.ild10 {a0 a1 a2 a3 a4 a5 a6 a7 a8 a9 : Option Value} {x : Int32} (C : CX G X cc own nL ret d K) (hd : decode cc pc = .ok (.iload 10, 2)) (k : PW G K nL Q h (pc + 2) (a0 :: a1 :: a2 :: a3 :: a4 :: a5 :: a6 :: a7 :: a8 :: a9 :: some (.int x) :: L) (.int x :: st)) : PW G K nL Q h pc (a0 :: a1 :: a2 :: a3 :: a4 :: a5 :: a6 :: a7 :: a8 :: a9 :: some (.int x) :: L) st :=
  fun H locs ls hP hS hl => lv_iload C.1 C.2.1 hd (lh_at hl 10 rfl) (k H locs ls hP hS hl)
theorem PW.lld10 {a0 a1 a2 a3 a4 a5 a6 a7 a8 a9 : Option Value} {x : Int64} (C : CX G X cc own nL ret d K) (hd : decode cc pc = .ok (.lload 10, 2)) (k : PW G K nL Q h (pc + 2) (a0 :: a1 :: a2 :: a3 :: a4 :: a5 :: a6 :: a7 :: a8 :: a9 :: some (.long x) :: L) (.long x :: st)) : PW G K nL Q h pc (a0 :: a1 :: a2 :: a3 :: a4 :: a5 :: a6 :: a7 :: a8 :: a9 :: some (.long x) :: L) st :=
  fun H locs ls hP hS hl => lv_lload C.1 C.2.1 hd (lh_at hl 10 rfl) (k H locs ls hP hS hl)
theorem PW.ald10 {a0 a1 a2 a3 a4 a5 a6 a7 a8 a9 : Option Value} {x : Nat} (C : CX G X cc own nL ret d K) (hd : decode cc pc = .ok (.aload 10, 2)) (k : PW G K nL Q h (pc + 2) (a0 :: a1 :: a2 :: a3 :: a4 :: a5 :: a6 :: a7 :: a8 :: a9 :: some (.ref x) :: L) (.ref x :: st)) : PW G K nL Q h pc (a0 :: a1 :: a2 :: a3 :: a4 :: a5 :: a6 :: a7 :: a8 :: a9 :: some (.ref x) :: L) st :=
  fun H locs ls hP hS hl => lv_aload C.1 C.2.1 hd (lh_at hl 10 rfl) (k H locs ls hP hS hl)
theorem PW.ild11 {a0 a1 a2 a3 a4 a5 a6 a7 a8 a9 a10 : Option Value} {x : Int32} (C : CX G X cc own nL ret d K) (hd : decode cc pc = .ok (.iload 11, 2)) (k : PW G K nL Q h (pc + 2) (a0 :: a1 :: a2 :: a3 :: a4 :: a5 :: a6 :: a7 :: a8 :: a9 :: a10 :: some (.int x) :: L) (.int x :: st)) : PW G K nL Q h pc (a0 :: a1 :: a2 :: a3 :: a4 :: a5 :: a6 :: a7 :: a8 :: a9 :: a10 :: some (.int x) :: L) st :=
  fun H locs ls hP hS hl => lv_iload C.1 C.2.1 hd (lh_at hl 11 rfl) (k H locs ls hP hS hl)
theorem PW.lld11 {a0 a1 a2 a3 a4 a5 a6 a7 a8 a9 a10 : Option Value} {x : Int64} (C : CX G X cc own nL ret d K) (hd : decode cc pc = .ok (.lload 11, 2)) (k : PW G K nL Q h (pc + 2) (a0 :: a1 :: a2 :: a3 :: a4 :: a5 :: a6 :: a7 :: a8 :: a9 :: a10 :: some (.long x) :: L) (.long x :: st)) : PW G K nL Q h pc (a0 :: a1 :: a2 :: a3 :: a4 :: a5 :: a6 :: a7 :: a8 :: a9 :: a10 :: some (.long x) :: L) st :=
  fun H locs ls hP hS hl => lv_lload C.1 C.2.1 hd (lh_at hl 11 rfl) (k H locs ls hP hS hl)
theorem PW.ald11 {a0 a1 a2 a3 a4 a5 a6 a7 a8 a9 a10 : Option Value} {x : Nat} (C : CX G X cc own nL ret d K) (hd : decode cc pc = .ok (.aload 11, 2)) (k : PW G K nL Q h (pc + 2) (a0 :: a1 :: a2 :: a3 :: a4 :: a5 :: a6 :: a7 :: a8 :: a9 :: a10 :: some (.ref x) :: L) (.ref x :: st)) : PW G K nL Q h pc (a0 :: a1 :: a2 :: a3 :: a4 :: a5 :: a6 :: a7 :: a8 :: a9 :: a10 :: some (.ref x) :: L) st :=
  fun H locs ls hP hS hl => lv_aload C.1 C.2.1 hd (lh_at hl 11 rfl) (k H locs ls hP hS hl)
theorem PW.ild12 {a0 a1 a2 a3 a4 a5 a6 a7 a8 a9 a10 a11 : Option Value} {x : Int32} (C : CX G X cc own nL ret d K) (hd : decode cc pc = .ok (.iload 12, 2)) (k : PW G K nL Q h (pc + 2) (a0 :: a1 :: a2 :: a3 :: a4 :: a5 :: a6 :: a7 :: a8 :: a9 :: a10 :: a11 :: some (.int x) :: L) (.int x :: st)) : PW G K nL Q h pc (a0 :: a1 :: a2 :: a3 :: a4 :: a5 :: a6 :: a7 :: a8 :: a9 :: a10 :: a11 :: some (.int x) :: L) st :=
  fun H locs ls hP hS hl => lv_iload C.1 C.2.1 hd (lh_at hl 12 rfl) (k H locs ls hP hS hl)
theorem PW.lld12 {a0 a1 a2 a3 a4 a5 a6 a7 a8 a9 a10 a11 : Option Value} {x : Int64} (C : CX G X cc own nL ret d K) (hd : decode cc pc = .ok (.lload 12, 2)) (k : PW G K nL Q h (pc + 2) (a0 :: a1 :: a2 :: a3 :: a4 :: a5 :: a6 :: a7 :: a8 :: a9 :: a10 :: a11 :: some (.long x) :: L) (.long x :: st)) : PW G K nL Q h pc (a0 :: a1 :: a2 :: a3 :: a4 :: a5 :: a6 :: a7 :: a8 :: a9 :: a10 :: a11 :: some (.long x) :: L) st :=
  fun H locs ls hP hS hl => lv_lload C.1 C.2.1 hd (lh_at hl 12 rfl) (k H locs ls hP hS hl)
theorem PW.ald12 {a0 a1 a2 a3 a4 a5 a6 a7 a8 a9 a10 a11 : Option Value} {x : Nat} (C : CX G X cc own nL ret d K) (hd : decode cc pc = .ok (.aload 12, 2)) (k : PW G K nL Q h (pc + 2) (a0 :: a1 :: a2 :: a3 :: a4 :: a5 :: a6 :: a7 :: a8 :: a9 :: a10 :: a11 :: some (.ref x) :: L) (.ref x :: st)) : PW G K nL Q h pc (a0 :: a1 :: a2 :: a3 :: a4 :: a5 :: a6 :: a7 :: a8 :: a9 :: a10 :: a11 :: some (.ref x) :: L) st :=
  fun H locs ls hP hS hl => lv_aload C.1 C.2.1 hd (lh_at hl 12 rfl) (k H locs ls hP hS hl)
theorem PW.ild13 {a0 a1 a2 a3 a4 a5 a6 a7 a8 a9 a10 a11 a12 : Option Value} {x : Int32} (C : CX G X cc own nL ret d K) (hd : decode cc pc = .ok (.iload 13, 2)) (k : PW G K nL Q h (pc + 2) (a0 :: a1 :: a2 :: a3 :: a4 :: a5 :: a6 :: a7 :: a8 :: a9 :: a10 :: a11 :: a12 :: some (.int x) :: L) (.int x :: st)) : PW G K nL Q h pc (a0 :: a1 :: a2 :: a3 :: a4 :: a5 :: a6 :: a7 :: a8 :: a9 :: a10 :: a11 :: a12 :: some (.int x) :: L) st :=
  fun H locs ls hP hS hl => lv_iload C.1 C.2.1 hd (lh_at hl 13 rfl) (k H locs ls hP hS hl)
theorem PW.lld13 {a0 a1 a2 a3 a4 a5 a6 a7 a8 a9 a10 a11 a12 : Option Value} {x : Int64} (C : CX G X cc own nL ret d K) (hd : decode cc pc = .ok (.lload 13, 2)) (k : PW G K nL Q h (pc + 2) (a0 :: a1 :: a2 :: a3 :: a4 :: a5 :: a6 :: a7 :: a8 :: a9 :: a10 :: a11 :: a12 :: some (.long x) :: L) (.long x :: st)) : PW G K nL Q h pc (a0 :: a1 :: a2 :: a3 :: a4 :: a5 :: a6 :: a7 :: a8 :: a9 :: a10 :: a11 :: a12 :: some (.long x) :: L) st :=
  fun H locs ls hP hS hl => lv_lload C.1 C.2.1 hd (lh_at hl 13 rfl) (k H locs ls hP hS hl)
theorem PW.ald13 {a0 a1 a2 a3 a4 a5 a6 a7 a8 a9 a10 a11 a12 : Option Value} {x : Nat} (C : CX G X cc own nL ret d K) (hd : decode cc pc = .ok (.aload 13, 2)) (k : PW G K nL Q h (pc + 2) (a0 :: a1 :: a2 :: a3 :: a4 :: a5 :: a6 :: a7 :: a8 :: a9 :: a10 :: a11 :: a12 :: some (.ref x) :: L) (.ref x :: st)) : PW G K nL Q h pc (a0 :: a1 :: a2 :: a3 :: a4 :: a5 :: a6 :: a7 :: a8 :: a9 :: a10 :: a11 :: a12 :: some (.ref x) :: L) st :=
  fun H locs ls hP hS hl => lv_aload C.1 C.2.1 hd (lh_at hl 13 rfl) (k H locs ls hP hS hl)
theorem PW.ild14 {a0 a1 a2 a3 a4 a5 a6 a7 a8 a9 a10 a11 a12 a13 : Option Value} {x : Int32} (C : CX G X cc own nL ret d K) (hd : decode cc pc = .ok (.iload 14, 2)) (k : PW G K nL Q h (pc + 2) (a0 :: a1 :: a2 :: a3 :: a4 :: a5 :: a6 :: a7 :: a8 :: a9 :: a10 :: a11 :: a12 :: a13 :: some (.int x) :: L) (.int x :: st)) : PW G K nL Q h pc (a0 :: a1 :: a2 :: a3 :: a4 :: a5 :: a6 :: a7 :: a8 :: a9 :: a10 :: a11 :: a12 :: a13 :: some (.int x) :: L) st :=
  fun H locs ls hP hS hl => lv_iload C.1 C.2.1 hd (lh_at hl 14 rfl) (k H locs ls hP hS hl)
theorem PW.lld14 {a0 a1 a2 a3 a4 a5 a6 a7 a8 a9 a10 a11 a12 a13 : Option Value} {x : Int64} (C : CX G X cc own nL ret d K) (hd : decode cc pc = .ok (.lload 14, 2)) (k : PW G K nL Q h (pc + 2) (a0 :: a1 :: a2 :: a3 :: a4 :: a5 :: a6 :: a7 :: a8 :: a9 :: a10 :: a11 :: a12 :: a13 :: some (.long x) :: L) (.long x :: st)) : PW G K nL Q h pc (a0 :: a1 :: a2 :: a3 :: a4 :: a5 :: a6 :: a7 :: a8 :: a9 :: a10 :: a11 :: a12 :: a13 :: some (.long x) :: L) st :=
  fun H locs ls hP hS hl => lv_lload C.1 C.2.1 hd (lh_at hl 14 rfl) (k H locs ls hP hS hl)
theorem PW.ald14 {a0 a1 a2 a3 a4 a5 a6 a7 a8 a9 a10 a11 a12 a13 : Option Value} {x : Nat} (C : CX G X cc own nL ret d K) (hd : decode cc pc = .ok (.aload 14, 2)) (k : PW G K nL Q h (pc + 2) (a0 :: a1 :: a2 :: a3 :: a4 :: a5 :: a6 :: a7 :: a8 :: a9 :: a10 :: a11 :: a12 :: a13 :: some (.ref x) :: L) (.ref x :: st)) : PW G K nL Q h pc (a0 :: a1 :: a2 :: a3 :: a4 :: a5 :: a6 :: a7 :: a8 :: a9 :: a10 :: a11 :: a12 :: a13 :: some (.ref x) :: L) st :=
  fun H locs ls hP hS hl => lv_aload C.1 C.2.1 hd (lh_at hl 14 rfl) (k H locs ls hP hS hl)
theorem PW.ild15 {a0 a1 a2 a3 a4 a5 a6 a7 a8 a9 a10 a11 a12 a13 a14 : Option Value} {x : Int32} (C : CX G X cc own nL ret d K) (hd : decode cc pc = .ok (.iload 15, 2)) (k : PW G K nL Q h (pc + 2) (a0 :: a1 :: a2 :: a3 :: a4 :: a5 :: a6 :: a7 :: a8 :: a9 :: a10 :: a11 :: a12 :: a13 :: a14 :: some (.int x) :: L) (.int x :: st)) : PW G K nL Q h pc (a0 :: a1 :: a2 :: a3 :: a4 :: a5 :: a6 :: a7 :: a8 :: a9 :: a10 :: a11 :: a12 :: a13 :: a14 :: some (.int x) :: L) st :=
  fun H locs ls hP hS hl => lv_iload C.1 C.2.1 hd (lh_at hl 15 rfl) (k H locs ls hP hS hl)
theorem PW.lld15 {a0 a1 a2 a3 a4 a5 a6 a7 a8 a9 a10 a11 a12 a13 a14 : Option Value} {x : Int64} (C : CX G X cc own nL ret d K) (hd : decode cc pc = .ok (.lload 15, 2)) (k : PW G K nL Q h (pc + 2) (a0 :: a1 :: a2 :: a3 :: a4 :: a5 :: a6 :: a7 :: a8 :: a9 :: a10 :: a11 :: a12 :: a13 :: a14 :: some (.long x) :: L) (.long x :: st)) : PW G K nL Q h pc (a0 :: a1 :: a2 :: a3 :: a4 :: a5 :: a6 :: a7 :: a8 :: a9 :: a10 :: a11 :: a12 :: a13 :: a14 :: some (.long x) :: L) st :=
  fun H locs ls hP hS hl => lv_lload C.1 C.2.1 hd (lh_at hl 15 rfl) (k H locs ls hP hS hl)
theorem PW.ald15 {a0 a1 a2 a3 a4 a5 a6 a7 a8 a9 a10 a11 a12 a13 a14 : Option Value} {x : Nat} (C : CX G X cc own nL ret d K) (hd : decode cc pc = .ok (.aload 15, 2)) (k : PW G K nL Q h (pc + 2) (a0 :: a1 :: a2 :: a3 :: a4 :: a5 :: a6 :: a7 :: a8 :: a9 :: a10 :: a11 :: a12 :: a13 :: a14 :: some (.ref x) :: L) (.ref x :: st)) : PW G K nL Q h pc (a0 :: a1 :: a2 :: a3 :: a4 :: a5 :: a6 :: a7 :: a8 :: a9 :: a10 :: a11 :: a12 :: a13 :: a14 :: some (.ref x) :: L) st :=
  fun H locs ls hP hS hl => lv_aload C.1 C.2.1 hd (lh_at hl 15 rfl) (k H locs ls hP hS hl)
theorem PW.ild16 {a0 a1 a2 a3 a4 a5 a6 a7 a8 a9 a10 a11 a12 a13 a14 a15 : Option Value} {x : Int32} (C : CX G X cc own nL ret d K) (hd : decode cc pc = .ok (.iload 16, 2)) (k : PW G K nL Q h (pc + 2) (a0 :: a1 :: a2 :: a3 :: a4 :: a5 :: a6 :: a7 :: a8 :: a9 :: a10 :: a11 :: a12 :: a13 :: a14 :: a15 :: some (.int x) :: L) (.int x :: st)) : PW G K nL Q h pc (a0 :: a1 :: a2 :: a3 :: a4 :: a5 :: a6 :: a7 :: a8 :: a9 :: a10 :: a11 :: a12 :: a13 :: a14 :: a15 :: some (.int x) :: L) st :=
  fun H locs ls hP hS hl => lv_iload C.1 C.2.1 hd (lh_at hl 16 rfl) (k H locs ls hP hS hl)
theorem PW.lld16 {a0 a1 a2 a3 a4 a5 a6 a7 a8 a9 a10 a11 a12 a13 a14 a15 : Option Value} {x : Int64} (C : CX G X cc own nL ret d K) (hd : decode cc pc = .ok (.lload 16, 2)) (k : PW G K nL Q h (pc + 2) (a0 :: a1 :: a2 :: a3 :: a4 :: a5 :: a6 :: a7 :: a8 :: a9 :: a10 :: a11 :: a12 :: a13 :: a14 :: a15 :: some (.long x) :: L) (.long x :: st)) : PW G K nL Q h pc (a0 :: a1 :: a2 :: a3 :: a4 :: a5 :: a6 :: a7 :: a8 :: a9 :: a10 :: a11 :: a12 :: a13 :: a14 :: a15 :: some (.long x) :: L) st :=
  fun H locs ls hP hS hl => lv_lload C.1 C.2.1 hd (lh_at hl 16 rfl) (k H locs ls hP hS hl)
theorem PW.ald16 {a0 a1 a2 a3 a4 a5 a6 a7 a8 a9 a10 a11 a12 a13 a14 a15 : Option Value} {x : Nat} (C : CX G X cc own nL ret d K) (hd : decode cc pc = .ok (.aload 16, 2)) (k : PW G K nL Q h (pc + 2) (a0 :: a1 :: a2 :: a3 :: a4 :: a5 :: a6 :: a7 :: a8 :: a9 :: a10 :: a11 :: a12 :: a13 :: a14 :: a15 :: some (.ref x) :: L) (.ref x :: st)) : PW G K nL Q h pc (a0 :: a1 :: a2 :: a3 :: a4 :: a5 :: a6 :: a7 :: a8 :: a9 :: a10 :: a11 :: a12 :: a13 :: a14 :: a15 :: some (.ref x) :: L) st :=
  fun H locs ls hP hS hl => lv_aload C.1 C.2.1 hd (lh_at hl 16 rfl) (k H locs ls hP hS hl)
theorem PW.ild17 {a0 a1 a2 a3 a4 a5 a6 a7 a8 a9 a10 a11 a12 a13 a14 a15 a16 : Option Value} {x : Int32} (C : CX G X cc own nL ret d K) (hd : decode cc pc = .ok (.iload 17, 2)) (k : PW G K nL Q h (pc + 2) (a0 :: a1 :: a2 :: a3 :: a4 :: a5 :: a6 :: a7 :: a8 :: a9 :: a10 :: a11 :: a12 :: a13 :: a14 :: a15 :: a16 :: some (.int x) :: L) (.int x :: st)) : PW G K nL Q h pc (a0 :: a1 :: a2 :: a3 :: a4 :: a5 :: a6 :: a7 :: a8 :: a9 :: a10 :: a11 :: a12 :: a13 :: a14 :: a15 :: a16 :: some (.int x) :: L) st :=
  fun H locs ls hP hS hl => lv_iload C.1 C.2.1 hd (lh_at hl 17 rfl) (k H locs ls hP hS hl)
theorem PW.lld17 {a0 a1 a2 a3 a4 a5 a6 a7 a8 a9 a10 a11 a12 a13 a14 a15 a16 : Option Value} {x : Int64} (C : CX G X cc own nL ret d K) (hd : decode cc pc = .ok (.lload 17, 2)) (k : PW G K nL Q h (pc + 2) (a0 :: a1 :: a2 :: a3 :: a4 :: a5 :: a6 :: a7 :: a8 :: a9 :: a10 :: a11 :: a12 :: a13 :: a14 :: a15 :: a16 :: some (.long x) :: L) (.long x :: st)) : PW G K nL Q h pc (a0 :: a1 :: a2 :: a3 :: a4 :: a5 :: a6 :: a7 :: a8 :: a9 :: a10 :: a11 :: a12 :: a13 :: a14 :: a15 :: a16 :: some (.long x) :: L) st :=
  fun H locs ls hP hS hl => lv_lload C.1 C.2.1 hd (lh_at hl 17 rfl) (k H locs ls hP hS hl)
theorem PW.ald17 {a0 a1 a2 a3 a4 a5 a6 a7 a8 a9 a10 a11 a12 a13 a14 a15 a16 : Option Value} {x : Nat} (C : CX G X cc own nL ret d K) (hd : decode cc pc = .ok (.aload 17, 2)) (k : PW G K nL Q h (pc + 2) (a0 :: a1 :: a2 :: a3 :: a4 :: a5 :: a6 :: a7 :: a8 :: a9 :: a10 :: a11 :: a12 :: a13 :: a14 :: a15 :: a16 :: some (.ref x) :: L) (.ref x :: st)) : PW G K nL Q h pc (a0 :: a1 :: a2 :: a3 :: a4 :: a5 :: a6 :: a7 :: a8 :: a9 :: a10 :: a11 :: a12 :: a13 :: a14 :: a15 :: a16 :: some (.ref x) :: L) st :=
  fun H locs ls hP hS hl => lv_aload C.1 C.2.1 hd (lh_at hl 17 rfl) (k H locs ls hP hS hl)
theorem PW.ild18 {a0 a1 a2 a3 a4 a5 a6 a7 a8 a9 a10 a11 a12 a13 a14 a15 a16 a17 : Option Value} {x : Int32} (C : CX G X cc own nL ret d K) (hd : decode cc pc = .ok (.iload 18, 2)) (k : PW G K nL Q h (pc + 2) (a0 :: a1 :: a2 :: a3 :: a4 :: a5 :: a6 :: a7 :: a8 :: a9 :: a10 :: a11 :: a12 :: a13 :: a14 :: a15 :: a16 :: a17 :: some (.int x) :: L) (.int x :: st)) : PW G K nL Q h pc (a0 :: a1 :: a2 :: a3 :: a4 :: a5 :: a6 :: a7 :: a8 :: a9 :: a10 :: a11 :: a12 :: a13 :: a14 :: a15 :: a16 :: a17 :: some (.int x) :: L) st :=
  fun H locs ls hP hS hl => lv_iload C.1 C.2.1 hd (lh_at hl 18 rfl) (k H locs ls hP hS hl)
theorem PW.lld18 {a0 a1 a2 a3 a4 a5 a6 a7 a8 a9 a10 a11 a12 a13 a14 a15 a16 a17 : Option Value} {x : Int64} (C : CX G X cc own nL ret d K) (hd : decode cc pc = .ok (.lload 18, 2)) (k : PW G K nL Q h (pc + 2) (a0 :: a1 :: a2 :: a3 :: a4 :: a5 :: a6 :: a7 :: a8 :: a9 :: a10 :: a11 :: a12 :: a13 :: a14 :: a15 :: a16 :: a17 :: some (.long x) :: L) (.long x :: st)) : PW G K nL Q h pc (a0 :: a1 :: a2 :: a3 :: a4 :: a5 :: a6 :: a7 :: a8 :: a9 :: a10 :: a11 :: a12 :: a13 :: a14 :: a15 :: a16 :: a17 :: some (.long x) :: L) st :=
  fun H locs ls hP hS hl => lv_lload C.1 C.2.1 hd (lh_at hl 18 rfl) (k H locs ls hP hS hl)
theorem PW.ald18 {a0 a1 a2 a3 a4 a5 a6 a7 a8 a9 a10 a11 a12 a13 a14 a15 a16 a17 : Option Value} {x : Nat} (C : CX G X cc own nL ret d K) (hd : decode cc pc = .ok (.aload 18, 2)) (k : PW G K nL Q h (pc + 2) (a0 :: a1 :: a2 :: a3 :: a4 :: a5 :: a6 :: a7 :: a8 :: a9 :: a10 :: a11 :: a12 :: a13 :: a14 :: a15 :: a16 :: a17 :: some (.ref x) :: L) (.ref x :: st)) : PW G K nL Q h pc (a0 :: a1 :: a2 :: a3 :: a4 :: a5 :: a6 :: a7 :: a8 :: a9 :: a10 :: a11 :: a12 :: a13 :: a14 :: a15 :: a16 :: a17 :: some (.ref x) :: L) st :=
  fun H locs ls hP hS hl => lv_aload C.1 C.2.1 hd (lh_at hl 18 rfl) (k H locs ls hP hS hl)
theorem PW.ild19 {a0 a1 a2 a3 a4 a5 a6 a7 a8 a9 a10 a11 a12 a13 a14 a15 a16 a17 a18 : Option Value} {x : Int32} (C : CX G X cc own nL ret d K) (hd : decode cc pc = .ok (.iload 19, 2)) (k : PW G K nL Q h (pc + 2) (a0 :: a1 :: a2 :: a3 :: a4 :: a5 :: a6 :: a7 :: a8 :: a9 :: a10 :: a11 :: a12 :: a13 :: a14 :: a15 :: a16 :: a17 :: a18 :: some (.int x) :: L) (.int x :: st)) : PW G K nL Q h pc (a0 :: a1 :: a2 :: a3 :: a4 :: a5 :: a6 :: a7 :: a8 :: a9 :: a10 :: a11 :: a12 :: a13 :: a14 :: a15 :: a16 :: a17 :: a18 :: some (.int x) :: L) st :=
  fun H locs ls hP hS hl => lv_iload C.1 C.2.1 hd (lh_at hl 19 rfl) (k H locs ls hP hS hl)
theorem PW.lld19 {a0 a1 a2 a3 a4 a5 a6 a7 a8 a9 a10 a11 a12 a13 a14 a15 a16 a17 a18 : Option Value} {x : Int64} (C : CX G X cc own nL ret d K) (hd : decode cc pc = .ok (.lload 19, 2)) (k : PW G K nL Q h (pc + 2) (a0 :: a1 :: a2 :: a3 :: a4 :: a5 :: a6 :: a7 :: a8 :: a9 :: a10 :: a11 :: a12 :: a13 :: a14 :: a15 :: a16 :: a17 :: a18 :: some (.long x) :: L) (.long x :: st)) : PW G K nL Q h pc (a0 :: a1 :: a2 :: a3 :: a4 :: a5 :: a6 :: a7 :: a8 :: a9 :: a10 :: a11 :: a12 :: a13 :: a14 :: a15 :: a16 :: a17 :: a18 :: some (.long x) :: L) st :=
  fun H locs ls hP hS hl => lv_lload C.1 C.2.1 hd (lh_at hl 19 rfl) (k H locs ls hP hS hl)
theorem PW.ald19 {a0 a1 a2 a3 a4 a5 a6 a7 a8 a9 a10 a11 a12 a13 a14 a15 a16 a17 a18 : Option Value} {x : Nat} (C : CX G X cc own nL ret d K) (hd : decode cc pc = .ok (.aload 19, 2)) (k : PW G K nL Q h (pc + 2) (a0 :: a1 :: a2 :: a3 :: a4 :: a5 :: a6 :: a7 :: a8 :: a9 :: a10 :: a11 :: a12 :: a13 :: a14 :: a15 :: a16 :: a17 :: a18 :: some (.ref x) :: L) (.ref x :: st)) : PW G K nL Q h pc (a0 :: a1 :: a2 :: a3 :: a4 :: a5 :: a6 :: a7 :: a8 :: a9 :: a10 :: a11 :: a12 :: a13 :: a14 :: a15 :: a16 :: a17 :: a18 :: some (.ref x) :: L) st :=
  fun H locs ls hP hS hl => lv_aload C.1 C.2.1 hd (lh_at hl 19 rfl) (k H locs ls hP hS hl)
theorem PW.ild20 {a0 a1 a2 a3 a4 a5 a6 a7 a8 a9 a10 a11 a12 a13 a14 a15 a16 a17 a18 a19 : Option Value} {x : Int32} (C : CX G X cc own nL ret d K) (hd : decode cc pc = .ok (.iload 20, 2)) (k : PW G K nL Q h (pc + 2) (a0 :: a1 :: a2 :: a3 :: a4 :: a5 :: a6 :: a7 :: a8 :: a9 :: a10 :: a11 :: a12 :: a13 :: a14 :: a15 :: a16 :: a17 :: a18 :: a19 :: some (.int x) :: L) (.int x :: st)) : PW G K nL Q h pc (a0 :: a1 :: a2 :: a3 :: a4 :: a5 :: a6 :: a7 :: a8 :: a9 :: a10 :: a11 :: a12 :: a13 :: a14 :: a15 :: a16 :: a17 :: a18 :: a19 :: some (.int x) :: L) st :=
  fun H locs ls hP hS hl => lv_iload C.1 C.2.1 hd (lh_at hl 20 rfl) (k H locs ls hP hS hl)
theorem PW.lld20 {a0 a1 a2 a3 a4 a5 a6 a7 a8 a9 a10 a11 a12 a13 a14 a15 a16 a17 a18 a19 : Option Value} {x : Int64} (C : CX G X cc own nL ret d K) (hd : decode cc pc = .ok (.lload 20, 2)) (k : PW G K nL Q h (pc + 2) (a0 :: a1 :: a2 :: a3 :: a4 :: a5 :: a6 :: a7 :: a8 :: a9 :: a10 :: a11 :: a12 :: a13 :: a14 :: a15 :: a16 :: a17 :: a18 :: a19 :: some (.long x) :: L) (.long x :: st)) : PW G K nL Q h pc (a0 :: a1 :: a2 :: a3 :: a4 :: a5 :: a6 :: a7 :: a8 :: a9 :: a10 :: a11 :: a12 :: a13 :: a14 :: a15 :: a16 :: a17 :: a18 :: a19 :: some (.long x) :: L) st :=
  fun H locs ls hP hS hl => lv_lload C.1 C.2.1 hd (lh_at hl 20 rfl) (k H locs ls hP hS hl)
theorem PW.ald20 {a0 a1 a2 a3 a4 a5 a6 a7 a8 a9 a10 a11 a12 a13 a14 a15 a16 a17 a18 a19 : Option Value} {x : Nat} (C : CX G X cc own nL ret d K) (hd : decode cc pc = .ok (.aload 20, 2)) (k : PW G K nL Q h (pc + 2) (a0 :: a1 :: a2 :: a3 :: a4 :: a5 :: a6 :: a7 :: a8 :: a9 :: a10 :: a11 :: a12 :: a13 :: a14 :: a15 :: a16 :: a17 :: a18 :: a19 :: some (.ref x) :: L) (.ref x :: st)) : PW G K nL Q h pc (a0 :: a1 :: a2 :: a3 :: a4 :: a5 :: a6 :: a7 :: a8 :: a9 :: a10 :: a11 :: a12 :: a13 :: a14 :: a15 :: a16 :: a17 :: a18 :: a19 :: some (.ref x) :: L) st :=
  fun H locs ls hP hS hl => lv_aload C.1 C.2.1 hd (lh_at hl 20 rfl) (k H locs ls hP hS hl)
theorem PW.ild21 {a0 a1 a2 a3 a4 a5 a6 a7 a8 a9 a10 a11 a12 a13 a14 a15 a16 a17 a18 a19 a20 : Option Value} {x : Int32} (C : CX G X cc own nL ret d K) (hd : decode cc pc = .ok (.iload 21, 2)) (k : PW G K nL Q h (pc + 2) (a0 :: a1 :: a2 :: a3 :: a4 :: a5 :: a6 :: a7 :: a8 :: a9 :: a10 :: a11 :: a12 :: a13 :: a14 :: a15 :: a16 :: a17 :: a18 :: a19 :: a20 :: some (.int x) :: L) (.int x :: st)) : PW G K nL Q h pc (a0 :: a1 :: a2 :: a3 :: a4 :: a5 :: a6 :: a7 :: a8 :: a9 :: a10 :: a11 :: a12 :: a13 :: a14 :: a15 :: a16 :: a17 :: a18 :: a19 :: a20 :: some (.int x) :: L) st :=
  fun H locs ls hP hS hl => lv_iload C.1 C.2.1 hd (lh_at hl 21 rfl) (k H locs ls hP hS hl)
theorem PW.lld21 {a0 a1 a2 a3 a4 a5 a6 a7 a8 a9 a10 a11 a12 a13 a14 a15 a16 a17 a18 a19 a20 : Option Value} {x : Int64} (C : CX G X cc own nL ret d K) (hd : decode cc pc = .ok (.lload 21, 2)) (k : PW G K nL Q h (pc + 2) (a0 :: a1 :: a2 :: a3 :: a4 :: a5 :: a6 :: a7 :: a8 :: a9 :: a10 :: a11 :: a12 :: a13 :: a14 :: a15 :: a16 :: a17 :: a18 :: a19 :: a20 :: some (.long x) :: L) (.long x :: st)) : PW G K nL Q h pc (a0 :: a1 :: a2 :: a3 :: a4 :: a5 :: a6 :: a7 :: a8 :: a9 :: a10 :: a11 :: a12 :: a13 :: a14 :: a15 :: a16 :: a17 :: a18 :: a19 :: a20 :: some (.long x) :: L) st :=
  fun H locs ls hP hS hl => lv_lload C.1 C.2.1 hd (lh_at hl 21 rfl) (k H locs ls hP hS hl)
theorem PW.ald21 {a0 a1 a2 a3 a4 a5 a6 a7 a8 a9 a10 a11 a12 a13 a14 a15 a16 a17 a18 a19 a20 : Option Value} {x : Nat} (C : CX G X cc own nL ret d K) (hd : decode cc pc = .ok (.aload 21, 2)) (k : PW G K nL Q h (pc + 2) (a0 :: a1 :: a2 :: a3 :: a4 :: a5 :: a6 :: a7 :: a8 :: a9 :: a10 :: a11 :: a12 :: a13 :: a14 :: a15 :: a16 :: a17 :: a18 :: a19 :: a20 :: some (.ref x) :: L) (.ref x :: st)) : PW G K nL Q h pc (a0 :: a1 :: a2 :: a3 :: a4 :: a5 :: a6 :: a7 :: a8 :: a9 :: a10 :: a11 :: a12 :: a13 :: a14 :: a15 :: a16 :: a17 :: a18 :: a19 :: a20 :: some (.ref x) :: L) st :=
  fun H locs ls hP hS hl => lv_aload C.1 C.2.1 hd (lh_at hl 21 rfl) (k H locs ls hP hS hl)
theorem PW.ist0n {a0 : Option Value} {x : Int32} (C : CX G X cc own nL ret d K) (hd : decode cc pc = .ok (.istore_n 0, 1)) (hn : 0 < nL) (k : PW G K nL Q h (pc + 1) (some (.int x) :: L) st) : PW G K nL Q h pc (a0 :: L) (.int x :: st) := by
  intro H locs ls hP hS hl
  refine lv_istore_n C.1 C.2.1 hd rfl hl hn rfl (fun ls' hl' => k H locs ls' hP hS (lh_st1 (v := .int x) hl' (fun w h0 _ => absurd rfl h0) ?_))
  intro j w hj
  match j, hj with
  | 0, hj => exact Or.inl ⟨rfl, by simpa using hj.symm⟩
  | j + 1, hj => exact Or.inr ⟨by omega, hj⟩
theorem PW.ist0 {a0 : Option Value} {x : Int32} (C : CX G X cc own nL ret d K) (hd : decode cc pc = .ok (.istore 0, 2)) (hn : 0 < nL) (k : PW G K nL Q h (pc + 2) (some (.int x) :: L) st) : PW G K nL Q h pc (a0 :: L) (.int x :: st) := by
  intro H locs ls hP hS hl
  refine lv_istore C.1 C.2.1 hd hl hn rfl (fun ls' hl' => k H locs ls' hP hS (lh_st1 (v := .int x) hl' (fun w h0 _ => absurd rfl h0) ?_))
  intro j w hj
  match j, hj with
  | 0, hj => exact Or.inl ⟨rfl, by simpa using hj.symm⟩
  | j + 1, hj => exact Or.inr ⟨by omega, hj⟩
theorem PW.ast0n {a0 : Option Value} {x : Nat} (C : CX G X cc own nL ret d K) (hd : decode cc pc = .ok (.astore_n 0, 1)) (hn : 0 < nL) (k : PW G K nL Q h (pc + 1) (some (.ref x) :: L) st) : PW G K nL Q h pc (a0 :: L) (.ref x :: st) := by
  intro H locs ls hP hS hl
  refine lv_astore_n C.1 C.2.1 hd rfl hl hn rfl (fun ls' hl' => k H locs ls' hP hS (lh_st1 (v := .ref x) hl' (fun w h0 _ => absurd rfl h0) ?_))
  intro j w hj
  match j, hj with
  | 0, hj => exact Or.inl ⟨rfl, by simpa using hj.symm⟩
  | j + 1, hj => exact Or.inr ⟨by omega, hj⟩
theorem PW.ast0 {a0 : Option Value} {x : Nat} (C : CX G X cc own nL ret d K) (hd : decode cc pc = .ok (.astore 0, 2)) (hn : 0 < nL) (k : PW G K nL Q h (pc + 2) (some (.ref x) :: L) st) : PW G K nL Q h pc (a0 :: L) (.ref x :: st) := by
  intro H locs ls hP hS hl
  refine lv_astore C.1 C.2.1 hd hl hn rfl (fun ls' hl' => k H locs ls' hP hS (lh_st1 (v := .ref x) hl' (fun w h0 _ => absurd rfl h0) ?_))
  intro j w hj
  match j, hj with
  | 0, hj => exact Or.inl ⟨rfl, by simpa using hj.symm⟩
  | j + 1, hj => exact Or.inr ⟨by omega, hj⟩
theorem PW.inc0 {x v : Int32} {n : Int} (C : CX G X cc own nL ret d K) (hd : decode cc pc = .ok (.iinc 0 n, 3)) (hn : 0 < nL) (hv : Int32.ofInt n = v) (k : PW G K nL Q h (pc + 3) (some (.int (x + v)) :: L) st) : PW G K nL Q h pc (some (.int x) :: L) st := by
  intro H locs ls hP hS hl
  obtain ⟨kk, hk⟩ := List.getElem?_of_mem ((prs_mem G (some (.int x) :: L) 0 (0, .int x)).mpr ⟨0, .int x, rfl, rfl⟩)
  refine lv_iinc (v := x + v) C.1 C.2.1 hd hl (k := kk) hk (by rw [hv]) hn rfl (fun ls' hl' => k H locs ls' hP hS (lh_st1 (v := .int (x + v)) hl' (fun w h0 _ => absurd rfl h0) ?_))
  intro j w hj
  match j, hj with
  | 0, hj => exact Or.inl ⟨rfl, by simpa using hj.symm⟩
  | j + 1, hj => exact Or.inr ⟨by omega, hj⟩
theorem PW.lst0n {a0 a1 : Option Value} {x : Int64} (C : CX G X cc own nL ret d K) (hd : decode cc pc = .ok (.lstore_n 0, 1)) (hn : 0 + 1 < nL) (k : PW G K nL Q h (pc + 1) (some (.long x) :: none :: L) st) : PW G K nL Q h pc (a0 :: a1 :: L) (.long x :: st) := by
  intro H locs ls hP hS hl
  refine lv_lstore_n C.1 C.2.1 hd rfl hl hn rfl (fun ls' hl' => k H locs ls' hP hS (lh_st2 (v := .long x) hl' (fun w h0 _ => absurd rfl h0) ?_))
  intro j w hj
  match j, hj with
  | 0, hj => exact Or.inl ⟨rfl, by simpa using hj.symm⟩
  | 1, hj => simp at hj
  | j + 2, hj => exact Or.inr ⟨by omega, by omega, hj⟩
theorem PW.lst0 {a0 a1 : Option Value} {x : Int64} (C : CX G X cc own nL ret d K) (hd : decode cc pc = .ok (.lstore 0, 2)) (hn : 0 + 1 < nL) (k : PW G K nL Q h (pc + 2) (some (.long x) :: none :: L) st) : PW G K nL Q h pc (a0 :: a1 :: L) (.long x :: st) := by
  intro H locs ls hP hS hl
  refine lv_lstore C.1 C.2.1 hd hl hn rfl (fun ls' hl' => k H locs ls' hP hS (lh_st2 (v := .long x) hl' (fun w h0 _ => absurd rfl h0) ?_))
  intro j w hj
  match j, hj with
  | 0, hj => exact Or.inl ⟨rfl, by simpa using hj.symm⟩
  | 1, hj => simp at hj
  | j + 2, hj => exact Or.inr ⟨by omega, by omega, hj⟩
theorem PW.ist1n {a0 a1 : Option Value} {x : Int32} (C : CX G X cc own nL ret d K) (hd : decode cc pc = .ok (.istore_n 1, 1)) (hn : 1 < nL) (hb : nlg a0 = true) (k : PW G K nL Q h (pc + 1) (a0 :: some (.int x) :: L) st) : PW G K nL Q h pc (a0 :: a1 :: L) (.int x :: st) := by
  intro H locs ls hP hS hl
  refine lv_istore_n C.1 C.2.1 hd rfl hl hn rfl (fun ls' hl' => k H locs ls' hP hS (lh_st1 (v := .int x) hl' (fun w _ hw => nlg_of hb hw) ?_))
  intro j w hj
  match j, hj with
  | 0, hj => exact Or.inr ⟨by decide, hj⟩
  | 1, hj => exact Or.inl ⟨rfl, by simpa using hj.symm⟩
  | j + 2, hj => exact Or.inr ⟨by omega, hj⟩
theorem PW.ist1 {a0 a1 : Option Value} {x : Int32} (C : CX G X cc own nL ret d K) (hd : decode cc pc = .ok (.istore 1, 2)) (hn : 1 < nL) (hb : nlg a0 = true) (k : PW G K nL Q h (pc + 2) (a0 :: some (.int x) :: L) st) : PW G K nL Q h pc (a0 :: a1 :: L) (.int x :: st) := by
  intro H locs ls hP hS hl
  refine lv_istore C.1 C.2.1 hd hl hn rfl (fun ls' hl' => k H locs ls' hP hS (lh_st1 (v := .int x) hl' (fun w _ hw => nlg_of hb hw) ?_))
  intro j w hj
  match j, hj with
  | 0, hj => exact Or.inr ⟨by decide, hj⟩
  | 1, hj => exact Or.inl ⟨rfl, by simpa using hj.symm⟩
  | j + 2, hj => exact Or.inr ⟨by omega, hj⟩
theorem PW.ast1n {a0 a1 : Option Value} {x : Nat} (C : CX G X cc own nL ret d K) (hd : decode cc pc = .ok (.astore_n 1, 1)) (hn : 1 < nL) (hb : nlg a0 = true) (k : PW G K nL Q h (pc + 1) (a0 :: some (.ref x) :: L) st) : PW G K nL Q h pc (a0 :: a1 :: L) (.ref x :: st) := by
  intro H locs ls hP hS hl
  refine lv_astore_n C.1 C.2.1 hd rfl hl hn rfl (fun ls' hl' => k H locs ls' hP hS (lh_st1 (v := .ref x) hl' (fun w _ hw => nlg_of hb hw) ?_))
  intro j w hj
  match j, hj with
  | 0, hj => exact Or.inr ⟨by decide, hj⟩
  | 1, hj => exact Or.inl ⟨rfl, by simpa using hj.symm⟩
  | j + 2, hj => exact Or.inr ⟨by omega, hj⟩
theorem PW.ast1 {a0 a1 : Option Value} {x : Nat} (C : CX G X cc own nL ret d K) (hd : decode cc pc = .ok (.astore 1, 2)) (hn : 1 < nL) (hb : nlg a0 = true) (k : PW G K nL Q h (pc + 2) (a0 :: some (.ref x) :: L) st) : PW G K nL Q h pc (a0 :: a1 :: L) (.ref x :: st) := by
  intro H locs ls hP hS hl
  refine lv_astore C.1 C.2.1 hd hl hn rfl (fun ls' hl' => k H locs ls' hP hS (lh_st1 (v := .ref x) hl' (fun w _ hw => nlg_of hb hw) ?_))
  intro j w hj
  match j, hj with
  | 0, hj => exact Or.inr ⟨by decide, hj⟩
  | 1, hj => exact Or.inl ⟨rfl, by simpa using hj.symm⟩
  | j + 2, hj => exact Or.inr ⟨by omega, hj⟩
theorem PW.inc1 {a0 : Option Value} {x v : Int32} {n : Int} (C : CX G X cc own nL ret d K) (hd : decode cc pc = .ok (.iinc 1 n, 3)) (hn : 1 < nL) (hb : nlg a0 = true) (hv : Int32.ofInt n = v) (k : PW G K nL Q h (pc + 3) (a0 :: some (.int (x + v)) :: L) st) : PW G K nL Q h pc (a0 :: some (.int x) :: L) st := by
  intro H locs ls hP hS hl
  obtain ⟨kk, hk⟩ := List.getElem?_of_mem ((prs_mem G (a0 :: some (.int x) :: L) 0 (1, .int x)).mpr ⟨1, .int x, rfl, rfl⟩)
  refine lv_iinc (v := x + v) C.1 C.2.1 hd hl (k := kk) hk (by rw [hv]) hn rfl (fun ls' hl' => k H locs ls' hP hS (lh_st1 (v := .int (x + v)) hl' (fun w _ hw => nlg_of hb hw) ?_))
  intro j w hj
  match j, hj with
  | 0, hj => exact Or.inr ⟨by decide, hj⟩
  | 1, hj => exact Or.inl ⟨rfl, by simpa using hj.symm⟩
  | j + 2, hj => exact Or.inr ⟨by omega, hj⟩
theorem PW.lst1n {a0 a1 a2 : Option Value} {x : Int64} (C : CX G X cc own nL ret d K) (hd : decode cc pc = .ok (.lstore_n 1, 1)) (hn : 1 + 1 < nL) (hb : nlg a0 = true) (k : PW G K nL Q h (pc + 1) (a0 :: some (.long x) :: none :: L) st) : PW G K nL Q h pc (a0 :: a1 :: a2 :: L) (.long x :: st) := by
  intro H locs ls hP hS hl
  refine lv_lstore_n C.1 C.2.1 hd rfl hl hn rfl (fun ls' hl' => k H locs ls' hP hS (lh_st2 (v := .long x) hl' (fun w _ hw => nlg_of hb hw) ?_))
  intro j w hj
  match j, hj with
  | 0, hj => exact Or.inr ⟨by decide, by decide, hj⟩
  | 1, hj => exact Or.inl ⟨rfl, by simpa using hj.symm⟩
  | 2, hj => simp at hj
  | j + 3, hj => exact Or.inr ⟨by omega, by omega, hj⟩
theorem PW.lst1 {a0 a1 a2 : Option Value} {x : Int64} (C : CX G X cc own nL ret d K) (hd : decode cc pc = .ok (.lstore 1, 2)) (hn : 1 + 1 < nL) (hb : nlg a0 = true) (k : PW G K nL Q h (pc + 2) (a0 :: some (.long x) :: none :: L) st) : PW G K nL Q h pc (a0 :: a1 :: a2 :: L) (.long x :: st) := by
  intro H locs ls hP hS hl
  refine lv_lstore C.1 C.2.1 hd hl hn rfl (fun ls' hl' => k H locs ls' hP hS (lh_st2 (v := .long x) hl' (fun w _ hw => nlg_of hb hw) ?_))
  intro j w hj
  match j, hj with
  | 0, hj => exact Or.inr ⟨by decide, by decide, hj⟩
  | 1, hj => exact Or.inl ⟨rfl, by simpa using hj.symm⟩
  | 2, hj => simp at hj
  | j + 3, hj => exact Or.inr ⟨by omega, by omega, hj⟩
theorem PW.ist2n {a0 a1 a2 : Option Value} {x : Int32} (C : CX G X cc own nL ret d K) (hd : decode cc pc = .ok (.istore_n 2, 1)) (hn : 2 < nL) (hb : nlg a1 = true) (k : PW G K nL Q h (pc + 1) (a0 :: a1 :: some (.int x) :: L) st) : PW G K nL Q h pc (a0 :: a1 :: a2 :: L) (.int x :: st) := by
  intro H locs ls hP hS hl
  refine lv_istore_n C.1 C.2.1 hd rfl hl hn rfl (fun ls' hl' => k H locs ls' hP hS (lh_st1 (v := .int x) hl' (fun w _ hw => nlg_of hb hw) ?_))
  intro j w hj
  match j, hj with
  | 0, hj => exact Or.inr ⟨by decide, hj⟩
  | 1, hj => exact Or.inr ⟨by decide, hj⟩
  | 2, hj => exact Or.inl ⟨rfl, by simpa using hj.symm⟩
  | j + 3, hj => exact Or.inr ⟨by omega, hj⟩
theorem PW.ist2 {a0 a1 a2 : Option Value} {x : Int32} (C : CX G X cc own nL ret d K) (hd : decode cc pc = .ok (.istore 2, 2)) (hn : 2 < nL) (hb : nlg a1 = true) (k : PW G K nL Q h (pc + 2) (a0 :: a1 :: some (.int x) :: L) st) : PW G K nL Q h pc (a0 :: a1 :: a2 :: L) (.int x :: st) := by
  intro H locs ls hP hS hl
  refine lv_istore C.1 C.2.1 hd hl hn rfl (fun ls' hl' => k H locs ls' hP hS (lh_st1 (v := .int x) hl' (fun w _ hw => nlg_of hb hw) ?_))
  intro j w hj
  match j, hj with
  | 0, hj => exact Or.inr ⟨by decide, hj⟩
  | 1, hj => exact Or.inr ⟨by decide, hj⟩
  | 2, hj => exact Or.inl ⟨rfl, by simpa using hj.symm⟩
  | j + 3, hj => exact Or.inr ⟨by omega, hj⟩
theorem PW.ast2n {a0 a1 a2 : Option Value} {x : Nat} (C : CX G X cc own nL ret d K) (hd : decode cc pc = .ok (.astore_n 2, 1)) (hn : 2 < nL) (hb : nlg a1 = true) (k : PW G K nL Q h (pc + 1) (a0 :: a1 :: some (.ref x) :: L) st) : PW G K nL Q h pc (a0 :: a1 :: a2 :: L) (.ref x :: st) := by
  intro H locs ls hP hS hl
  refine lv_astore_n C.1 C.2.1 hd rfl hl hn rfl (fun ls' hl' => k H locs ls' hP hS (lh_st1 (v := .ref x) hl' (fun w _ hw => nlg_of hb hw) ?_))
  intro j w hj
  match j, hj with
  | 0, hj => exact Or.inr ⟨by decide, hj⟩
  | 1, hj => exact Or.inr ⟨by decide, hj⟩
  | 2, hj => exact Or.inl ⟨rfl, by simpa using hj.symm⟩
  | j + 3, hj => exact Or.inr ⟨by omega, hj⟩
theorem PW.ast2 {a0 a1 a2 : Option Value} {x : Nat} (C : CX G X cc own nL ret d K) (hd : decode cc pc = .ok (.astore 2, 2)) (hn : 2 < nL) (hb : nlg a1 = true) (k : PW G K nL Q h (pc + 2) (a0 :: a1 :: some (.ref x) :: L) st) : PW G K nL Q h pc (a0 :: a1 :: a2 :: L) (.ref x :: st) := by
  intro H locs ls hP hS hl
  refine lv_astore C.1 C.2.1 hd hl hn rfl (fun ls' hl' => k H locs ls' hP hS (lh_st1 (v := .ref x) hl' (fun w _ hw => nlg_of hb hw) ?_))
  intro j w hj
  match j, hj with
  | 0, hj => exact Or.inr ⟨by decide, hj⟩
  | 1, hj => exact Or.inr ⟨by decide, hj⟩
  | 2, hj => exact Or.inl ⟨rfl, by simpa using hj.symm⟩
  | j + 3, hj => exact Or.inr ⟨by omega, hj⟩
theorem PW.inc2 {a0 a1 : Option Value} {x v : Int32} {n : Int} (C : CX G X cc own nL ret d K) (hd : decode cc pc = .ok (.iinc 2 n, 3)) (hn : 2 < nL) (hb : nlg a1 = true) (hv : Int32.ofInt n = v) (k : PW G K nL Q h (pc + 3) (a0 :: a1 :: some (.int (x + v)) :: L) st) : PW G K nL Q h pc (a0 :: a1 :: some (.int x) :: L) st := by
  intro H locs ls hP hS hl
  obtain ⟨kk, hk⟩ := List.getElem?_of_mem ((prs_mem G (a0 :: a1 :: some (.int x) :: L) 0 (2, .int x)).mpr ⟨2, .int x, rfl, rfl⟩)
  refine lv_iinc (v := x + v) C.1 C.2.1 hd hl (k := kk) hk (by rw [hv]) hn rfl (fun ls' hl' => k H locs ls' hP hS (lh_st1 (v := .int (x + v)) hl' (fun w _ hw => nlg_of hb hw) ?_))
  intro j w hj
  match j, hj with
  | 0, hj => exact Or.inr ⟨by decide, hj⟩
  | 1, hj => exact Or.inr ⟨by decide, hj⟩
  | 2, hj => exact Or.inl ⟨rfl, by simpa using hj.symm⟩
  | j + 3, hj => exact Or.inr ⟨by omega, hj⟩
theorem PW.lst2n {a0 a1 a2 a3 : Option Value} {x : Int64} (C : CX G X cc own nL ret d K) (hd : decode cc pc = .ok (.lstore_n 2, 1)) (hn : 2 + 1 < nL) (hb : nlg a1 = true) (k : PW G K nL Q h (pc + 1) (a0 :: a1 :: some (.long x) :: none :: L) st) : PW G K nL Q h pc (a0 :: a1 :: a2 :: a3 :: L) (.long x :: st) := by
  intro H locs ls hP hS hl
  refine lv_lstore_n C.1 C.2.1 hd rfl hl hn rfl (fun ls' hl' => k H locs ls' hP hS (lh_st2 (v := .long x) hl' (fun w _ hw => nlg_of hb hw) ?_))
  intro j w hj
  match j, hj with
  | 0, hj => exact Or.inr ⟨by decide, by decide, hj⟩
  | 1, hj => exact Or.inr ⟨by decide, by decide, hj⟩
  | 2, hj => exact Or.inl ⟨rfl, by simpa using hj.symm⟩
  | 3, hj => simp at hj
  | j + 4, hj => exact Or.inr ⟨by omega, by omega, hj⟩
theorem PW.lst2 {a0 a1 a2 a3 : Option Value} {x : Int64} (C : CX G X cc own nL ret d K) (hd : decode cc pc = .ok (.lstore 2, 2)) (hn : 2 + 1 < nL) (hb : nlg a1 = true) (k : PW G K nL Q h (pc + 2) (a0 :: a1 :: some (.long x) :: none :: L) st) : PW G K nL Q h pc (a0 :: a1 :: a2 :: a3 :: L) (.long x :: st) := by
  intro H locs ls hP hS hl
  refine lv_lstore C.1 C.2.1 hd hl hn rfl (fun ls' hl' => k H locs ls' hP hS (lh_st2 (v := .long x) hl' (fun w _ hw => nlg_of hb hw) ?_))
  intro j w hj
  match j, hj with
  | 0, hj => exact Or.inr ⟨by decide, by decide, hj⟩
  | 1, hj => exact Or.inr ⟨by decide, by decide, hj⟩
  | 2, hj => exact Or.inl ⟨rfl, by simpa using hj.symm⟩
  | 3, hj => simp at hj
  | j + 4, hj => exact Or.inr ⟨by omega, by omega, hj⟩
theorem PW.ist3n {a0 a1 a2 a3 : Option Value} {x : Int32} (C : CX G X cc own nL ret d K) (hd : decode cc pc = .ok (.istore_n 3, 1)) (hn : 3 < nL) (hb : nlg a2 = true) (k : PW G K nL Q h (pc + 1) (a0 :: a1 :: a2 :: some (.int x) :: L) st) : PW G K nL Q h pc (a0 :: a1 :: a2 :: a3 :: L) (.int x :: st) := by
  intro H locs ls hP hS hl
  refine lv_istore_n C.1 C.2.1 hd rfl hl hn rfl (fun ls' hl' => k H locs ls' hP hS (lh_st1 (v := .int x) hl' (fun w _ hw => nlg_of hb hw) ?_))
  intro j w hj
  match j, hj with
  | 0, hj => exact Or.inr ⟨by decide, hj⟩
  | 1, hj => exact Or.inr ⟨by decide, hj⟩
  | 2, hj => exact Or.inr ⟨by decide, hj⟩
  | 3, hj => exact Or.inl ⟨rfl, by simpa using hj.symm⟩
  | j + 4, hj => exact Or.inr ⟨by omega, hj⟩
theorem PW.ist3 {a0 a1 a2 a3 : Option Value} {x : Int32} (C : CX G X cc own nL ret d K) (hd : decode cc pc = .ok (.istore 3, 2)) (hn : 3 < nL) (hb : nlg a2 = true) (k : PW G K nL Q h (pc + 2) (a0 :: a1 :: a2 :: some (.int x) :: L) st) : PW G K nL Q h pc (a0 :: a1 :: a2 :: a3 :: L) (.int x :: st) := by
  intro H locs ls hP hS hl
  refine lv_istore C.1 C.2.1 hd hl hn rfl (fun ls' hl' => k H locs ls' hP hS (lh_st1 (v := .int x) hl' (fun w _ hw => nlg_of hb hw) ?_))
  intro j w hj
  match j, hj with
  | 0, hj => exact Or.inr ⟨by decide, hj⟩
  | 1, hj => exact Or.inr ⟨by decide, hj⟩
  | 2, hj => exact Or.inr ⟨by decide, hj⟩
  | 3, hj => exact Or.inl ⟨rfl, by simpa using hj.symm⟩
  | j + 4, hj => exact Or.inr ⟨by omega, hj⟩
theorem PW.ast3n {a0 a1 a2 a3 : Option Value} {x : Nat} (C : CX G X cc own nL ret d K) (hd : decode cc pc = .ok (.astore_n 3, 1)) (hn : 3 < nL) (hb : nlg a2 = true) (k : PW G K nL Q h (pc + 1) (a0 :: a1 :: a2 :: some (.ref x) :: L) st) : PW G K nL Q h pc (a0 :: a1 :: a2 :: a3 :: L) (.ref x :: st) := by
  intro H locs ls hP hS hl
  refine lv_astore_n C.1 C.2.1 hd rfl hl hn rfl (fun ls' hl' => k H locs ls' hP hS (lh_st1 (v := .ref x) hl' (fun w _ hw => nlg_of hb hw) ?_))
  intro j w hj
  match j, hj with
  | 0, hj => exact Or.inr ⟨by decide, hj⟩
  | 1, hj => exact Or.inr ⟨by decide, hj⟩
  | 2, hj => exact Or.inr ⟨by decide, hj⟩
  | 3, hj => exact Or.inl ⟨rfl, by simpa using hj.symm⟩
  | j + 4, hj => exact Or.inr ⟨by omega, hj⟩
theorem PW.ast3 {a0 a1 a2 a3 : Option Value} {x : Nat} (C : CX G X cc own nL ret d K) (hd : decode cc pc = .ok (.astore 3, 2)) (hn : 3 < nL) (hb : nlg a2 = true) (k : PW G K nL Q h (pc + 2) (a0 :: a1 :: a2 :: some (.ref x) :: L) st) : PW G K nL Q h pc (a0 :: a1 :: a2 :: a3 :: L) (.ref x :: st) := by
  intro H locs ls hP hS hl
  refine lv_astore C.1 C.2.1 hd hl hn rfl (fun ls' hl' => k H locs ls' hP hS (lh_st1 (v := .ref x) hl' (fun w _ hw => nlg_of hb hw) ?_))
  intro j w hj
  match j, hj with
  | 0, hj => exact Or.inr ⟨by decide, hj⟩
  | 1, hj => exact Or.inr ⟨by decide, hj⟩
  | 2, hj => exact Or.inr ⟨by decide, hj⟩
  | 3, hj => exact Or.inl ⟨rfl, by simpa using hj.symm⟩
  | j + 4, hj => exact Or.inr ⟨by omega, hj⟩
theorem PW.inc3 {a0 a1 a2 : Option Value} {x v : Int32} {n : Int} (C : CX G X cc own nL ret d K) (hd : decode cc pc = .ok (.iinc 3 n, 3)) (hn : 3 < nL) (hb : nlg a2 = true) (hv : Int32.ofInt n = v) (k : PW G K nL Q h (pc + 3) (a0 :: a1 :: a2 :: some (.int (x + v)) :: L) st) : PW G K nL Q h pc (a0 :: a1 :: a2 :: some (.int x) :: L) st := by
  intro H locs ls hP hS hl
  obtain ⟨kk, hk⟩ := List.getElem?_of_mem ((prs_mem G (a0 :: a1 :: a2 :: some (.int x) :: L) 0 (3, .int x)).mpr ⟨3, .int x, rfl, rfl⟩)
  refine lv_iinc (v := x + v) C.1 C.2.1 hd hl (k := kk) hk (by rw [hv]) hn rfl (fun ls' hl' => k H locs ls' hP hS (lh_st1 (v := .int (x + v)) hl' (fun w _ hw => nlg_of hb hw) ?_))
  intro j w hj
  match j, hj with
  | 0, hj => exact Or.inr ⟨by decide, hj⟩
  | 1, hj => exact Or.inr ⟨by decide, hj⟩
  | 2, hj => exact Or.inr ⟨by decide, hj⟩
  | 3, hj => exact Or.inl ⟨rfl, by simpa using hj.symm⟩
  | j + 4, hj => exact Or.inr ⟨by omega, hj⟩
theorem PW.lst3n {a0 a1 a2 a3 a4 : Option Value} {x : Int64} (C : CX G X cc own nL ret d K) (hd : decode cc pc = .ok (.lstore_n 3, 1)) (hn : 3 + 1 < nL) (hb : nlg a2 = true) (k : PW G K nL Q h (pc + 1) (a0 :: a1 :: a2 :: some (.long x) :: none :: L) st) : PW G K nL Q h pc (a0 :: a1 :: a2 :: a3 :: a4 :: L) (.long x :: st) := by
  intro H locs ls hP hS hl
  refine lv_lstore_n C.1 C.2.1 hd rfl hl hn rfl (fun ls' hl' => k H locs ls' hP hS (lh_st2 (v := .long x) hl' (fun w _ hw => nlg_of hb hw) ?_))
  intro j w hj
  match j, hj with
  | 0, hj => exact Or.inr ⟨by decide, by decide, hj⟩
  | 1, hj => exact Or.inr ⟨by decide, by decide, hj⟩
  | 2, hj => exact Or.inr ⟨by decide, by decide, hj⟩
  | 3, hj => exact Or.inl ⟨rfl, by simpa using hj.symm⟩
  | 4, hj => simp at hj
  | j + 5, hj => exact Or.inr ⟨by omega, by omega, hj⟩
theorem PW.lst3 {a0 a1 a2 a3 a4 : Option Value} {x : Int64} (C : CX G X cc own nL ret d K) (hd : decode cc pc = .ok (.lstore 3, 2)) (hn : 3 + 1 < nL) (hb : nlg a2 = true) (k : PW G K nL Q h (pc + 2) (a0 :: a1 :: a2 :: some (.long x) :: none :: L) st) : PW G K nL Q h pc (a0 :: a1 :: a2 :: a3 :: a4 :: L) (.long x :: st) := by
  intro H locs ls hP hS hl
  refine lv_lstore C.1 C.2.1 hd hl hn rfl (fun ls' hl' => k H locs ls' hP hS (lh_st2 (v := .long x) hl' (fun w _ hw => nlg_of hb hw) ?_))
  intro j w hj
  match j, hj with
  | 0, hj => exact Or.inr ⟨by decide, by decide, hj⟩
  | 1, hj => exact Or.inr ⟨by decide, by decide, hj⟩
  | 2, hj => exact Or.inr ⟨by decide, by decide, hj⟩
  | 3, hj => exact Or.inl ⟨rfl, by simpa using hj.symm⟩
  | 4, hj => simp at hj
  | j + 5, hj => exact Or.inr ⟨by omega, by omega, hj⟩
theorem PW.ist4 {a0 a1 a2 a3 a4 : Option Value} {x : Int32} (C : CX G X cc own nL ret d K) (hd : decode cc pc = .ok (.istore 4, 2)) (hn : 4 < nL) (hb : nlg a3 = true) (k : PW G K nL Q h (pc + 2) (a0 :: a1 :: a2 :: a3 :: some (.int x) :: L) st) : PW G K nL Q h pc (a0 :: a1 :: a2 :: a3 :: a4 :: L) (.int x :: st) := by
  intro H locs ls hP hS hl
  refine lv_istore C.1 C.2.1 hd hl hn rfl (fun ls' hl' => k H locs ls' hP hS (lh_st1 (v := .int x) hl' (fun w _ hw => nlg_of hb hw) ?_))
  intro j w hj
  match j, hj with
  | 0, hj => exact Or.inr ⟨by decide, hj⟩
  | 1, hj => exact Or.inr ⟨by decide, hj⟩
  | 2, hj => exact Or.inr ⟨by decide, hj⟩
  | 3, hj => exact Or.inr ⟨by decide, hj⟩
  | 4, hj => exact Or.inl ⟨rfl, by simpa using hj.symm⟩
  | j + 5, hj => exact Or.inr ⟨by omega, hj⟩
theorem PW.ast4 {a0 a1 a2 a3 a4 : Option Value} {x : Nat} (C : CX G X cc own nL ret d K) (hd : decode cc pc = .ok (.astore 4, 2)) (hn : 4 < nL) (hb : nlg a3 = true) (k : PW G K nL Q h (pc + 2) (a0 :: a1 :: a2 :: a3 :: some (.ref x) :: L) st) : PW G K nL Q h pc (a0 :: a1 :: a2 :: a3 :: a4 :: L) (.ref x :: st) := by
  intro H locs ls hP hS hl
  refine lv_astore C.1 C.2.1 hd hl hn rfl (fun ls' hl' => k H locs ls' hP hS (lh_st1 (v := .ref x) hl' (fun w _ hw => nlg_of hb hw) ?_))
  intro j w hj
  match j, hj with
  | 0, hj => exact Or.inr ⟨by decide, hj⟩
  | 1, hj => exact Or.inr ⟨by decide, hj⟩
  | 2, hj => exact Or.inr ⟨by decide, hj⟩
  | 3, hj => exact Or.inr ⟨by decide, hj⟩
  | 4, hj => exact Or.inl ⟨rfl, by simpa using hj.symm⟩
  | j + 5, hj => exact Or.inr ⟨by omega, hj⟩
theorem PW.inc4 {a0 a1 a2 a3 : Option Value} {x v : Int32} {n : Int} (C : CX G X cc own nL ret d K) (hd : decode cc pc = .ok (.iinc 4 n, 3)) (hn : 4 < nL) (hb : nlg a3 = true) (hv : Int32.ofInt n = v) (k : PW G K nL Q h (pc + 3) (a0 :: a1 :: a2 :: a3 :: some (.int (x + v)) :: L) st) : PW G K nL Q h pc (a0 :: a1 :: a2 :: a3 :: some (.int x) :: L) st := by
  intro H locs ls hP hS hl
  obtain ⟨kk, hk⟩ := List.getElem?_of_mem ((prs_mem G (a0 :: a1 :: a2 :: a3 :: some (.int x) :: L) 0 (4, .int x)).mpr ⟨4, .int x, rfl, rfl⟩)
  refine lv_iinc (v := x + v) C.1 C.2.1 hd hl (k := kk) hk (by rw [hv]) hn rfl (fun ls' hl' => k H locs ls' hP hS (lh_st1 (v := .int (x + v)) hl' (fun w _ hw => nlg_of hb hw) ?_))
  intro j w hj
  match j, hj with
  | 0, hj => exact Or.inr ⟨by decide, hj⟩
  | 1, hj => exact Or.inr ⟨by decide, hj⟩
  | 2, hj => exact Or.inr ⟨by decide, hj⟩
  | 3, hj => exact Or.inr ⟨by decide, hj⟩
  | 4, hj => exact Or.inl ⟨rfl, by simpa using hj.symm⟩
  | j + 5, hj => exact Or.inr ⟨by omega, hj⟩
theorem PW.lst4 {a0 a1 a2 a3 a4 a5 : Option Value} {x : Int64} (C : CX G X cc own nL ret d K) (hd : decode cc pc = .ok (.lstore 4, 2)) (hn : 4 + 1 < nL) (hb : nlg a3 = true) (k : PW G K nL Q h (pc + 2) (a0 :: a1 :: a2 :: a3 :: some (.long x) :: none :: L) st) : PW G K nL Q h pc (a0 :: a1 :: a2 :: a3 :: a4 :: a5 :: L) (.long x :: st) := by
  intro H locs ls hP hS hl
  refine lv_lstore C.1 C.2.1 hd hl hn rfl (fun ls' hl' => k H locs ls' hP hS (lh_st2 (v := .long x) hl' (fun w _ hw => nlg_of hb hw) ?_))
  intro j w hj
  match j, hj with
  | 0, hj => exact Or.inr ⟨by decide, by decide, hj⟩
  | 1, hj => exact Or.inr ⟨by decide, by decide, hj⟩
  | 2, hj => exact Or.inr ⟨by decide, by decide, hj⟩
  | 3, hj => exact Or.inr ⟨by decide, by decide, hj⟩
  | 4, hj => exact Or.inl ⟨rfl, by simpa using hj.symm⟩
  | 5, hj => simp at hj
  | j + 6, hj => exact Or.inr ⟨by omega, by omega, hj⟩
theorem PW.ist5 {a0 a1 a2 a3 a4 a5 : Option Value} {x : Int32} (C : CX G X cc own nL ret d K) (hd : decode cc pc = .ok (.istore 5, 2)) (hn : 5 < nL) (hb : nlg a4 = true) (k : PW G K nL Q h (pc + 2) (a0 :: a1 :: a2 :: a3 :: a4 :: some (.int x) :: L) st) : PW G K nL Q h pc (a0 :: a1 :: a2 :: a3 :: a4 :: a5 :: L) (.int x :: st) := by
  intro H locs ls hP hS hl
  refine lv_istore C.1 C.2.1 hd hl hn rfl (fun ls' hl' => k H locs ls' hP hS (lh_st1 (v := .int x) hl' (fun w _ hw => nlg_of hb hw) ?_))
  intro j w hj
  match j, hj with
  | 0, hj => exact Or.inr ⟨by decide, hj⟩
  | 1, hj => exact Or.inr ⟨by decide, hj⟩
  | 2, hj => exact Or.inr ⟨by decide, hj⟩
  | 3, hj => exact Or.inr ⟨by decide, hj⟩
  | 4, hj => exact Or.inr ⟨by decide, hj⟩
  | 5, hj => exact Or.inl ⟨rfl, by simpa using hj.symm⟩
  | j + 6, hj => exact Or.inr ⟨by omega, hj⟩
theorem PW.ast5 {a0 a1 a2 a3 a4 a5 : Option Value} {x : Nat} (C : CX G X cc own nL ret d K) (hd : decode cc pc = .ok (.astore 5, 2)) (hn : 5 < nL) (hb : nlg a4 = true) (k : PW G K nL Q h (pc + 2) (a0 :: a1 :: a2 :: a3 :: a4 :: some (.ref x) :: L) st) : PW G K nL Q h pc (a0 :: a1 :: a2 :: a3 :: a4 :: a5 :: L) (.ref x :: st) := by
  intro H locs ls hP hS hl
  refine lv_astore C.1 C.2.1 hd hl hn rfl (fun ls' hl' => k H locs ls' hP hS (lh_st1 (v := .ref x) hl' (fun w _ hw => nlg_of hb hw) ?_))
  intro j w hj
  match j, hj with
  | 0, hj => exact Or.inr ⟨by decide, hj⟩
  | 1, hj => exact Or.inr ⟨by decide, hj⟩
  | 2, hj => exact Or.inr ⟨by decide, hj⟩
  | 3, hj => exact Or.inr ⟨by decide, hj⟩
  | 4, hj => exact Or.inr ⟨by decide, hj⟩
  | 5, hj => exact Or.inl ⟨rfl, by simpa using hj.symm⟩
  | j + 6, hj => exact Or.inr ⟨by omega, hj⟩
theorem PW.inc5 {a0 a1 a2 a3 a4 : Option Value} {x v : Int32} {n : Int} (C : CX G X cc own nL ret d K) (hd : decode cc pc = .ok (.iinc 5 n, 3)) (hn : 5 < nL) (hb : nlg a4 = true) (hv : Int32.ofInt n = v) (k : PW G K nL Q h (pc + 3) (a0 :: a1 :: a2 :: a3 :: a4 :: some (.int (x + v)) :: L) st) : PW G K nL Q h pc (a0 :: a1 :: a2 :: a3 :: a4 :: some (.int x) :: L) st := by
  intro H locs ls hP hS hl
  obtain ⟨kk, hk⟩ := List.getElem?_of_mem ((prs_mem G (a0 :: a1 :: a2 :: a3 :: a4 :: some (.int x) :: L) 0 (5, .int x)).mpr ⟨5, .int x, rfl, rfl⟩)
  refine lv_iinc (v := x + v) C.1 C.2.1 hd hl (k := kk) hk (by rw [hv]) hn rfl (fun ls' hl' => k H locs ls' hP hS (lh_st1 (v := .int (x + v)) hl' (fun w _ hw => nlg_of hb hw) ?_))
  intro j w hj
  match j, hj with
  | 0, hj => exact Or.inr ⟨by decide, hj⟩
  | 1, hj => exact Or.inr ⟨by decide, hj⟩
  | 2, hj => exact Or.inr ⟨by decide, hj⟩
  | 3, hj => exact Or.inr ⟨by decide, hj⟩
  | 4, hj => exact Or.inr ⟨by decide, hj⟩
  | 5, hj => exact Or.inl ⟨rfl, by simpa using hj.symm⟩
  | j + 6, hj => exact Or.inr ⟨by omega, hj⟩
theorem PW.lst5 {a0 a1 a2 a3 a4 a5 a6 : Option Value} {x : Int64} (C : CX G X cc own nL ret d K) (hd : decode cc pc = .ok (.lstore 5, 2)) (hn : 5 + 1 < nL) (hb : nlg a4 = true) (k : PW G K nL Q h (pc + 2) (a0 :: a1 :: a2 :: a3 :: a4 :: some (.long x) :: none :: L) st) : PW G K nL Q h pc (a0 :: a1 :: a2 :: a3 :: a4 :: a5 :: a6 :: L) (.long x :: st) := by
  intro H locs ls hP hS hl
  refine lv_lstore C.1 C.2.1 hd hl hn rfl (fun ls' hl' => k H locs ls' hP hS (lh_st2 (v := .long x) hl' (fun w _ hw => nlg_of hb hw) ?_))
  intro j w hj
  match j, hj with
  | 0, hj => exact Or.inr ⟨by decide, by decide, hj⟩
  | 1, hj => exact Or.inr ⟨by decide, by decide, hj⟩
  | 2, hj => exact Or.inr ⟨by decide, by decide, hj⟩
  | 3, hj => exact Or.inr ⟨by decide, by decide, hj⟩
  | 4, hj => exact Or.inr ⟨by decide, by decide, hj⟩
  | 5, hj => exact Or.inl ⟨rfl, by simpa using hj.symm⟩
  | 6, hj => simp at hj
  | j + 7, hj => exact Or.inr ⟨by omega, by omega, hj⟩
theorem PW.ist6 {a0 a1 a2 a3 a4 a5 a6 : Option Value} {x : Int32} (C : CX G X cc own nL ret d K) (hd : decode cc pc = .ok (.istore 6, 2)) (hn : 6 < nL) (hb : nlg a5 = true) (k : PW G K nL Q h (pc + 2) (a0 :: a1 :: a2 :: a3 :: a4 :: a5 :: some (.int x) :: L) st) : PW G K nL Q h pc (a0 :: a1 :: a2 :: a3 :: a4 :: a5 :: a6 :: L) (.int x :: st) := by
  intro H locs ls hP hS hl
  refine lv_istore C.1 C.2.1 hd hl hn rfl (fun ls' hl' => k H locs ls' hP hS (lh_st1 (v := .int x) hl' (fun w _ hw => nlg_of hb hw) ?_))
  intro j w hj
  match j, hj with
  | 0, hj => exact Or.inr ⟨by decide, hj⟩
  | 1, hj => exact Or.inr ⟨by decide, hj⟩
  | 2, hj => exact Or.inr ⟨by decide, hj⟩
  | 3, hj => exact Or.inr ⟨by decide, hj⟩
  | 4, hj => exact Or.inr ⟨by decide, hj⟩
  | 5, hj => exact Or.inr ⟨by decide, hj⟩
  | 6, hj => exact Or.inl ⟨rfl, by simpa using hj.symm⟩
  | j + 7, hj => exact Or.inr ⟨by omega, hj⟩
theorem PW.ast6 {a0 a1 a2 a3 a4 a5 a6 : Option Value} {x : Nat} (C : CX G X cc own nL ret d K) (hd : decode cc pc = .ok (.astore 6, 2)) (hn : 6 < nL) (hb : nlg a5 = true) (k : PW G K nL Q h (pc + 2) (a0 :: a1 :: a2 :: a3 :: a4 :: a5 :: some (.ref x) :: L) st) : PW G K nL Q h pc (a0 :: a1 :: a2 :: a3 :: a4 :: a5 :: a6 :: L) (.ref x :: st) := by
  intro H locs ls hP hS hl
  refine lv_astore C.1 C.2.1 hd hl hn rfl (fun ls' hl' => k H locs ls' hP hS (lh_st1 (v := .ref x) hl' (fun w _ hw => nlg_of hb hw) ?_))
  intro j w hj
  match j, hj with
  | 0, hj => exact Or.inr ⟨by decide, hj⟩
  | 1, hj => exact Or.inr ⟨by decide, hj⟩
  | 2, hj => exact Or.inr ⟨by decide, hj⟩
  | 3, hj => exact Or.inr ⟨by decide, hj⟩
  | 4, hj => exact Or.inr ⟨by decide, hj⟩
  | 5, hj => exact Or.inr ⟨by decide, hj⟩
  | 6, hj => exact Or.inl ⟨rfl, by simpa using hj.symm⟩
  | j + 7, hj => exact Or.inr ⟨by omega, hj⟩
theorem PW.inc6 {a0 a1 a2 a3 a4 a5 : Option Value} {x v : Int32} {n : Int} (C : CX G X cc own nL ret d K) (hd : decode cc pc = .ok (.iinc 6 n, 3)) (hn : 6 < nL) (hb : nlg a5 = true) (hv : Int32.ofInt n = v) (k : PW G K nL Q h (pc + 3) (a0 :: a1 :: a2 :: a3 :: a4 :: a5 :: some (.int (x + v)) :: L) st) : PW G K nL Q h pc (a0 :: a1 :: a2 :: a3 :: a4 :: a5 :: some (.int x) :: L) st := by
  intro H locs ls hP hS hl
  obtain ⟨kk, hk⟩ := List.getElem?_of_mem ((prs_mem G (a0 :: a1 :: a2 :: a3 :: a4 :: a5 :: some (.int x) :: L) 0 (6, .int x)).mpr ⟨6, .int x, rfl, rfl⟩)
  refine lv_iinc (v := x + v) C.1 C.2.1 hd hl (k := kk) hk (by rw [hv]) hn rfl (fun ls' hl' => k H locs ls' hP hS (lh_st1 (v := .int (x + v)) hl' (fun w _ hw => nlg_of hb hw) ?_))
  intro j w hj
  match j, hj with
  | 0, hj => exact Or.inr ⟨by decide, hj⟩
  | 1, hj => exact Or.inr ⟨by decide, hj⟩
  | 2, hj => exact Or.inr ⟨by decide, hj⟩
  | 3, hj => exact Or.inr ⟨by decide, hj⟩
  | 4, hj => exact Or.inr ⟨by decide, hj⟩
  | 5, hj => exact Or.inr ⟨by decide, hj⟩
  | 6, hj => exact Or.inl ⟨rfl, by simpa using hj.symm⟩
  | j + 7, hj => exact Or.inr ⟨by omega, hj⟩
theorem PW.lst6 {a0 a1 a2 a3 a4 a5 a6 a7 : Option Value} {x : Int64} (C : CX G X cc own nL ret d K) (hd : decode cc pc = .ok (.lstore 6, 2)) (hn : 6 + 1 < nL) (hb : nlg a5 = true) (k : PW G K nL Q h (pc + 2) (a0 :: a1 :: a2 :: a3 :: a4 :: a5 :: some (.long x) :: none :: L) st) : PW G K nL Q h pc (a0 :: a1 :: a2 :: a3 :: a4 :: a5 :: a6 :: a7 :: L) (.long x :: st) := by
  intro H locs ls hP hS hl
  refine lv_lstore C.1 C.2.1 hd hl hn rfl (fun ls' hl' => k H locs ls' hP hS (lh_st2 (v := .long x) hl' (fun w _ hw => nlg_of hb hw) ?_))
  intro j w hj
  match j, hj with
  | 0, hj => exact Or.inr ⟨by decide, by decide, hj⟩
  | 1, hj => exact Or.inr ⟨by decide, by decide, hj⟩
  | 2, hj => exact Or.inr ⟨by decide, by decide, hj⟩
  | 3, hj => exact Or.inr ⟨by decide, by decide, hj⟩
  | 4, hj => exact Or.inr ⟨by decide, by decide, hj⟩
  | 5, hj => exact Or.inr ⟨by decide, by decide, hj⟩
  | 6, hj => exact Or.inl ⟨rfl, by simpa using hj.symm⟩
  | 7, hj => simp at hj
  | j + 8, hj => exact Or.inr ⟨by omega, by omega, hj⟩
theorem PW.ist7 {a0 a1 a2 a3 a4 a5 a6 a7 : Option Value} {x : Int32} (C : CX G X cc own nL ret d K) (hd : decode cc pc = .ok (.istore 7, 2)) (hn : 7 < nL) (hb : nlg a6 = true) (k : PW G K nL Q h (pc + 2) (a0 :: a1 :: a2 :: a3 :: a4 :: a5 :: a6 :: some (.int x) :: L) st) : PW G K nL Q h pc (a0 :: a1 :: a2 :: a3 :: a4 :: a5 :: a6 :: a7 :: L) (.int x :: st) := by
  intro H locs ls hP hS hl
  refine lv_istore C.1 C.2.1 hd hl hn rfl (fun ls' hl' => k H locs ls' hP hS (lh_st1 (v := .int x) hl' (fun w _ hw => nlg_of hb hw) ?_))
  intro j w hj
  match j, hj with
  | 0, hj => exact Or.inr ⟨by decide, hj⟩
  | 1, hj => exact Or.inr ⟨by decide, hj⟩
  | 2, hj => exact Or.inr ⟨by decide, hj⟩
  | 3, hj => exact Or.inr ⟨by decide, hj⟩
  | 4, hj => exact Or.inr ⟨by decide, hj⟩
  | 5, hj => exact Or.inr ⟨by decide, hj⟩
  | 6, hj => exact Or.inr ⟨by decide, hj⟩
  | 7, hj => exact Or.inl ⟨rfl, by simpa using hj.symm⟩
  | j + 8, hj => exact Or.inr ⟨by omega, hj⟩
theorem PW.ast7 {a0 a1 a2 a3 a4 a5 a6 a7 : Option Value} {x : Nat} (C : CX G X cc own nL ret d K) (hd : decode cc pc = .ok (.astore 7, 2)) (hn : 7 < nL) (hb : nlg a6 = true) (k : PW G K nL Q h (pc + 2) (a0 :: a1 :: a2 :: a3 :: a4 :: a5 :: a6 :: some (.ref x) :: L) st) : PW G K nL Q h pc (a0 :: a1 :: a2 :: a3 :: a4 :: a5 :: a6 :: a7 :: L) (.ref x :: st) := by
  intro H locs ls hP hS hl
  refine lv_astore C.1 C.2.1 hd hl hn rfl (fun ls' hl' => k H locs ls' hP hS (lh_st1 (v := .ref x) hl' (fun w _ hw => nlg_of hb hw) ?_))
  intro j w hj
  match j, hj with
  | 0, hj => exact Or.inr ⟨by decide, hj⟩
  | 1, hj => exact Or.inr ⟨by decide, hj⟩
  | 2, hj => exact Or.inr ⟨by decide, hj⟩
  | 3, hj => exact Or.inr ⟨by decide, hj⟩
  | 4, hj => exact Or.inr ⟨by decide, hj⟩
  | 5, hj => exact Or.inr ⟨by decide, hj⟩
  | 6, hj => exact Or.inr ⟨by decide, hj⟩
  | 7, hj => exact Or.inl ⟨rfl, by simpa using hj.symm⟩
  | j + 8, hj => exact Or.inr ⟨by omega, hj⟩
theorem PW.inc7 {a0 a1 a2 a3 a4 a5 a6 : Option Value} {x v : Int32} {n : Int} (C : CX G X cc own nL ret d K) (hd : decode cc pc = .ok (.iinc 7 n, 3)) (hn : 7 < nL) (hb : nlg a6 = true) (hv : Int32.ofInt n = v) (k : PW G K nL Q h (pc + 3) (a0 :: a1 :: a2 :: a3 :: a4 :: a5 :: a6 :: some (.int (x + v)) :: L) st) : PW G K nL Q h pc (a0 :: a1 :: a2 :: a3 :: a4 :: a5 :: a6 :: some (.int x) :: L) st := by
  intro H locs ls hP hS hl
  obtain ⟨kk, hk⟩ := List.getElem?_of_mem ((prs_mem G (a0 :: a1 :: a2 :: a3 :: a4 :: a5 :: a6 :: some (.int x) :: L) 0 (7, .int x)).mpr ⟨7, .int x, rfl, rfl⟩)
  refine lv_iinc (v := x + v) C.1 C.2.1 hd hl (k := kk) hk (by rw [hv]) hn rfl (fun ls' hl' => k H locs ls' hP hS (lh_st1 (v := .int (x + v)) hl' (fun w _ hw => nlg_of hb hw) ?_))
  intro j w hj
  match j, hj with
  | 0, hj => exact Or.inr ⟨by decide, hj⟩
  | 1, hj => exact Or.inr ⟨by decide, hj⟩
  | 2, hj => exact Or.inr ⟨by decide, hj⟩
  | 3, hj => exact Or.inr ⟨by decide, hj⟩
  | 4, hj => exact Or.inr ⟨by decide, hj⟩
  | 5, hj => exact Or.inr ⟨by decide, hj⟩
  | 6, hj => exact Or.inr ⟨by decide, hj⟩
  | 7, hj => exact Or.inl ⟨rfl, by simpa using hj.symm⟩
  | j + 8, hj => exact Or.inr ⟨by omega, hj⟩
theorem PW.lst7 {a0 a1 a2 a3 a4 a5 a6 a7 a8 : Option Value} {x : Int64} (C : CX G X cc own nL ret d K) (hd : decode cc pc = .ok (.lstore 7, 2)) (hn : 7 + 1 < nL) (hb : nlg a6 = true) (k : PW G K nL Q h (pc + 2) (a0 :: a1 :: a2 :: a3 :: a4 :: a5 :: a6 :: some (.long x) :: none :: L) st) : PW G K nL Q h pc (a0 :: a1 :: a2 :: a3 :: a4 :: a5 :: a6 :: a7 :: a8 :: L) (.long x :: st) := by
  intro H locs ls hP hS hl
  refine lv_lstore C.1 C.2.1 hd hl hn rfl (fun ls' hl' => k H locs ls' hP hS (lh_st2 (v := .long x) hl' (fun w _ hw => nlg_of hb hw) ?_))
  intro j w hj
  match j, hj with
  | 0, hj => exact Or.inr ⟨by decide, by decide, hj⟩
  | 1, hj => exact Or.inr ⟨by decide, by decide, hj⟩
  | 2, hj => exact Or.inr ⟨by decide, by decide, hj⟩
  | 3, hj => exact Or.inr ⟨by decide, by decide, hj⟩
  | 4, hj => exact Or.inr ⟨by decide, by decide, hj⟩
  | 5, hj => exact Or.inr ⟨by decide, by decide, hj⟩
  | 6, hj => exact Or.inr ⟨by decide, by decide, hj⟩
  | 7, hj => exact Or.inl ⟨rfl, by simpa using hj.symm⟩
  | 8, hj => simp at hj
  | j + 9, hj => exact Or.inr ⟨by omega, by omega, hj⟩
theorem PW.ist8 {a0 a1 a2 a3 a4 a5 a6 a7 a8 : Option Value} {x : Int32} (C : CX G X cc own nL ret d K) (hd : decode cc pc = .ok (.istore 8, 2)) (hn : 8 < nL) (hb : nlg a7 = true) (k : PW G K nL Q h (pc + 2) (a0 :: a1 :: a2 :: a3 :: a4 :: a5 :: a6 :: a7 :: some (.int x) :: L) st) : PW G K nL Q h pc (a0 :: a1 :: a2 :: a3 :: a4 :: a5 :: a6 :: a7 :: a8 :: L) (.int x :: st) := by
  intro H locs ls hP hS hl
  refine lv_istore C.1 C.2.1 hd hl hn rfl (fun ls' hl' => k H locs ls' hP hS (lh_st1 (v := .int x) hl' (fun w _ hw => nlg_of hb hw) ?_))
  intro j w hj
  match j, hj with
  | 0, hj => exact Or.inr ⟨by decide, hj⟩
  | 1, hj => exact Or.inr ⟨by decide, hj⟩
  | 2, hj => exact Or.inr ⟨by decide, hj⟩
  | 3, hj => exact Or.inr ⟨by decide, hj⟩
  | 4, hj => exact Or.inr ⟨by decide, hj⟩
  | 5, hj => exact Or.inr ⟨by decide, hj⟩
  | 6, hj => exact Or.inr ⟨by decide, hj⟩
  | 7, hj => exact Or.inr ⟨by decide, hj⟩
  | 8, hj => exact Or.inl ⟨rfl, by simpa using hj.symm⟩
  | j + 9, hj => exact Or.inr ⟨by omega, hj⟩
theorem PW.ast8 {a0 a1 a2 a3 a4 a5 a6 a7 a8 : Option Value} {x : Nat} (C : CX G X cc own nL ret d K) (hd : decode cc pc = .ok (.astore 8, 2)) (hn : 8 < nL) (hb : nlg a7 = true) (k : PW G K nL Q h (pc + 2) (a0 :: a1 :: a2 :: a3 :: a4 :: a5 :: a6 :: a7 :: some (.ref x) :: L) st) : PW G K nL Q h pc (a0 :: a1 :: a2 :: a3 :: a4 :: a5 :: a6 :: a7 :: a8 :: L) (.ref x :: st) := by
  intro H locs ls hP hS hl
  refine lv_astore C.1 C.2.1 hd hl hn rfl (fun ls' hl' => k H locs ls' hP hS (lh_st1 (v := .ref x) hl' (fun w _ hw => nlg_of hb hw) ?_))
  intro j w hj
  match j, hj with
  | 0, hj => exact Or.inr ⟨by decide, hj⟩
  | 1, hj => exact Or.inr ⟨by decide, hj⟩
  | 2, hj => exact Or.inr ⟨by decide, hj⟩
  | 3, hj => exact Or.inr ⟨by decide, hj⟩
  | 4, hj => exact Or.inr ⟨by decide, hj⟩
  | 5, hj => exact Or.inr ⟨by decide, hj⟩
  | 6, hj => exact Or.inr ⟨by decide, hj⟩
  | 7, hj => exact Or.inr ⟨by decide, hj⟩
  | 8, hj => exact Or.inl ⟨rfl, by simpa using hj.symm⟩
  | j + 9, hj => exact Or.inr ⟨by omega, hj⟩
theorem PW.inc8 {a0 a1 a2 a3 a4 a5 a6 a7 : Option Value} {x v : Int32} {n : Int} (C : CX G X cc own nL ret d K) (hd : decode cc pc = .ok (.iinc 8 n, 3)) (hn : 8 < nL) (hb : nlg a7 = true) (hv : Int32.ofInt n = v) (k : PW G K nL Q h (pc + 3) (a0 :: a1 :: a2 :: a3 :: a4 :: a5 :: a6 :: a7 :: some (.int (x + v)) :: L) st) : PW G K nL Q h pc (a0 :: a1 :: a2 :: a3 :: a4 :: a5 :: a6 :: a7 :: some (.int x) :: L) st := by
  intro H locs ls hP hS hl
  obtain ⟨kk, hk⟩ := List.getElem?_of_mem ((prs_mem G (a0 :: a1 :: a2 :: a3 :: a4 :: a5 :: a6 :: a7 :: some (.int x) :: L) 0 (8, .int x)).mpr ⟨8, .int x, rfl, rfl⟩)
  refine lv_iinc (v := x + v) C.1 C.2.1 hd hl (k := kk) hk (by rw [hv]) hn rfl (fun ls' hl' => k H locs ls' hP hS (lh_st1 (v := .int (x + v)) hl' (fun w _ hw => nlg_of hb hw) ?_))
  intro j w hj
  match j, hj with
  | 0, hj => exact Or.inr ⟨by decide, hj⟩
  | 1, hj => exact Or.inr ⟨by decide, hj⟩
  | 2, hj => exact Or.inr ⟨by decide, hj⟩
  | 3, hj => exact Or.inr ⟨by decide, hj⟩
  | 4, hj => exact Or.inr ⟨by decide, hj⟩
  | 5, hj => exact Or.inr ⟨by decide, hj⟩
  | 6, hj => exact Or.inr ⟨by decide, hj⟩
  | 7, hj => exact Or.inr ⟨by decide, hj⟩
  | 8, hj => exact Or.inl ⟨rfl, by simpa using hj.symm⟩
  | j + 9, hj => exact Or.inr ⟨by omega, hj⟩
theorem PW.lst8 {a0 a1 a2 a3 a4 a5 a6 a7 a8 a9 : Option Value} {x : Int64} (C : CX G X cc own nL ret d K) (hd : decode cc pc = .ok (.lstore 8, 2)) (hn : 8 + 1 < nL) (hb : nlg a7 = true) (k : PW G K nL Q h (pc + 2) (a0 :: a1 :: a2 :: a3 :: a4 :: a5 :: a6 :: a7 :: some (.long x) :: none :: L) st) : PW G K nL Q h pc (a0 :: a1 :: a2 :: a3 :: a4 :: a5 :: a6 :: a7 :: a8 :: a9 :: L) (.long x :: st) := by
  intro H locs ls hP hS hl
  refine lv_lstore C.1 C.2.1 hd hl hn rfl (fun ls' hl' => k H locs ls' hP hS (lh_st2 (v := .long x) hl' (fun w _ hw => nlg_of hb hw) ?_))
  intro j w hj
  match j, hj with
  | 0, hj => exact Or.inr ⟨by decide, by decide, hj⟩
  | 1, hj => exact Or.inr ⟨by decide, by decide, hj⟩
  | 2, hj => exact Or.inr ⟨by decide, by decide, hj⟩
  | 3, hj => exact Or.inr ⟨by decide, by decide, hj⟩
  | 4, hj => exact Or.inr ⟨by decide, by decide, hj⟩
  | 5, hj => exact Or.inr ⟨by decide, by decide, hj⟩
  | 6, hj => exact Or.inr ⟨by decide, by decide, hj⟩
  | 7, hj => exact Or.inr ⟨by decide, by decide, hj⟩
  | 8, hj => exact Or.inl ⟨rfl, by simpa using hj.symm⟩
  | 9, hj => simp at hj
  | j + 10, hj => exact Or.inr ⟨by omega, by omega, hj⟩
theorem PW.ist9 {a0 a1 a2 a3 a4 a5 a6 a7 a8 a9 : Option Value} {x : Int32} (C : CX G X cc own nL ret d K) (hd : decode cc pc = .ok (.istore 9, 2)) (hn : 9 < nL) (hb : nlg a8 = true) (k : PW G K nL Q h (pc + 2) (a0 :: a1 :: a2 :: a3 :: a4 :: a5 :: a6 :: a7 :: a8 :: some (.int x) :: L) st) : PW G K nL Q h pc (a0 :: a1 :: a2 :: a3 :: a4 :: a5 :: a6 :: a7 :: a8 :: a9 :: L) (.int x :: st) := by
  intro H locs ls hP hS hl
  refine lv_istore C.1 C.2.1 hd hl hn rfl (fun ls' hl' => k H locs ls' hP hS (lh_st1 (v := .int x) hl' (fun w _ hw => nlg_of hb hw) ?_))
  intro j w hj
  match j, hj with
  | 0, hj => exact Or.inr ⟨by decide, hj⟩
  | 1, hj => exact Or.inr ⟨by decide, hj⟩
  | 2, hj => exact Or.inr ⟨by decide, hj⟩
  | 3, hj => exact Or.inr ⟨by decide, hj⟩
  | 4, hj => exact Or.inr ⟨by decide, hj⟩
  | 5, hj => exact Or.inr ⟨by decide, hj⟩
  | 6, hj => exact Or.inr ⟨by decide, hj⟩
  | 7, hj => exact Or.inr ⟨by decide, hj⟩
  | 8, hj => exact Or.inr ⟨by decide, hj⟩
  | 9, hj => exact Or.inl ⟨rfl, by simpa using hj.symm⟩
  | j + 10, hj => exact Or.inr ⟨by omega, hj⟩
theorem PW.ast9 {a0 a1 a2 a3 a4 a5 a6 a7 a8 a9 : Option Value} {x : Nat} (C : CX G X cc own nL ret d K) (hd : decode cc pc = .ok (.astore 9, 2)) (hn : 9 < nL) (hb : nlg a8 = true) (k : PW G K nL Q h (pc + 2) (a0 :: a1 :: a2 :: a3 :: a4 :: a5 :: a6 :: a7 :: a8 :: some (.ref x) :: L) st) : PW G K nL Q h pc (a0 :: a1 :: a2 :: a3 :: a4 :: a5 :: a6 :: a7 :: a8 :: a9 :: L) (.ref x :: st) := by
  intro H locs ls hP hS hl
  refine lv_astore C.1 C.2.1 hd hl hn rfl (fun ls' hl' => k H locs ls' hP hS (lh_st1 (v := .ref x) hl' (fun w _ hw => nlg_of hb hw) ?_))
  intro j w hj
  match j, hj with
  | 0, hj => exact Or.inr ⟨by decide, hj⟩
  | 1, hj => exact Or.inr ⟨by decide, hj⟩
  | 2, hj => exact Or.inr ⟨by decide, hj⟩
  | 3, hj => exact Or.inr ⟨by decide, hj⟩
  | 4, hj => exact Or.inr ⟨by decide, hj⟩
  | 5, hj => exact Or.inr ⟨by decide, hj⟩
  | 6, hj => exact Or.inr ⟨by decide, hj⟩
  | 7, hj => exact Or.inr ⟨by decide, hj⟩
  | 8, hj => exact Or.inr ⟨by decide, hj⟩
  | 9, hj => exact Or.inl ⟨rfl, by simpa using hj.symm⟩
  | j + 10, hj => exact Or.inr ⟨by omega, hj⟩
theorem PW.inc9 {a0 a1 a2 a3 a4 a5 a6 a7 a8 : Option Value} {x v : Int32} {n : Int} (C : CX G X cc own nL ret d K) (hd : decode cc pc = .ok (.iinc 9 n, 3)) (hn : 9 < nL) (hb : nlg a8 = true) (hv : Int32.ofInt n = v) (k : PW G K nL Q h (pc + 3) (a0 :: a1 :: a2 :: a3 :: a4 :: a5 :: a6 :: a7 :: a8 :: some (.int (x + v)) :: L) st) : PW G K nL Q h pc (a0 :: a1 :: a2 :: a3 :: a4 :: a5 :: a6 :: a7 :: a8 :: some (.int x) :: L) st := by
  intro H locs ls hP hS hl
  obtain ⟨kk, hk⟩ := List.getElem?_of_mem ((prs_mem G (a0 :: a1 :: a2 :: a3 :: a4 :: a5 :: a6 :: a7 :: a8 :: some (.int x) :: L) 0 (9, .int x)).mpr ⟨9, .int x, rfl, rfl⟩)
  refine lv_iinc (v := x + v) C.1 C.2.1 hd hl (k := kk) hk (by rw [hv]) hn rfl (fun ls' hl' => k H locs ls' hP hS (lh_st1 (v := .int (x + v)) hl' (fun w _ hw => nlg_of hb hw) ?_))
  intro j w hj
  match j, hj with
  | 0, hj => exact Or.inr ⟨by decide, hj⟩
  | 1, hj => exact Or.inr ⟨by decide, hj⟩
  | 2, hj => exact Or.inr ⟨by decide, hj⟩
  | 3, hj => exact Or.inr ⟨by decide, hj⟩
  | 4, hj => exact Or.inr ⟨by decide, hj⟩
  | 5, hj => exact Or.inr ⟨by decide, hj⟩
  | 6, hj => exact Or.inr ⟨by decide, hj⟩
  | 7, hj => exact Or.inr ⟨by decide, hj⟩
  | 8, hj => exact Or.inr ⟨by decide, hj⟩
  | 9, hj => exact Or.inl ⟨rfl, by simpa using hj.symm⟩
  | j + 10, hj => exact Or.inr ⟨by omega, hj⟩
theorem PW.lst9 {a0 a1 a2 a3 a4 a5 a6 a7 a8 a9 a10 : Option Value} {x : Int64} (C : CX G X cc own nL ret d K) (hd : decode cc pc = .ok (.lstore 9, 2)) (hn : 9 + 1 < nL) (hb : nlg a8 = true) (k : PW G K nL Q h (pc + 2) (a0 :: a1 :: a2 :: a3 :: a4 :: a5 :: a6 :: a7 :: a8 :: some (.long x) :: none :: L) st) : PW G K nL Q h pc (a0 :: a1 :: a2 :: a3 :: a4 :: a5 :: a6 :: a7 :: a8 :: a9 :: a10 :: L) (.long x :: st) := by
  intro H locs ls hP hS hl
  refine lv_lstore C.1 C.2.1 hd hl hn rfl (fun ls' hl' => k H locs ls' hP hS (lh_st2 (v := .long x) hl' (fun w _ hw => nlg_of hb hw) ?_))
  intro j w hj
  match j, hj with
  | 0, hj => exact Or.inr ⟨by decide, by decide, hj⟩
  | 1, hj => exact Or.inr ⟨by decide, by decide, hj⟩
  | 2, hj => exact Or.inr ⟨by decide, by decide, hj⟩
  | 3, hj => exact Or.inr ⟨by decide, by decide, hj⟩
  | 4, hj => exact Or.inr ⟨by decide, by decide, hj⟩
  | 5, hj => exact Or.inr ⟨by decide, by decide, hj⟩
  | 6, hj => exact Or.inr ⟨by decide, by decide, hj⟩
  | 7, hj => exact Or.inr ⟨by decide, by decide, hj⟩
  | 8, hj => exact Or.inr ⟨by decide, by decide, hj⟩
  | 9, hj => exact Or.inl ⟨rfl, by simpa using hj.symm⟩
  | 10, hj => simp at hj
  | j + 11, hj => exact Or.inr ⟨by omega, by omega, hj⟩
theorem PW.ist10 {a0 a1 a2 a3 a4 a5 a6 a7 a8 a9 a10 : Option Value} {x : Int32} (C : CX G X cc own nL ret d K) (hd : decode cc pc = .ok (.istore 10, 2)) (hn : 10 < nL) (hb : nlg a9 = true) (k : PW G K nL Q h (pc + 2) (a0 :: a1 :: a2 :: a3 :: a4 :: a5 :: a6 :: a7 :: a8 :: a9 :: some (.int x) :: L) st) : PW G K nL Q h pc (a0 :: a1 :: a2 :: a3 :: a4 :: a5 :: a6 :: a7 :: a8 :: a9 :: a10 :: L) (.int x :: st) := by
  intro H locs ls hP hS hl
  refine lv_istore C.1 C.2.1 hd hl hn rfl (fun ls' hl' => k H locs ls' hP hS (lh_st1 (v := .int x) hl' (fun w _ hw => nlg_of hb hw) ?_))
  intro j w hj
  match j, hj with
  | 0, hj => exact Or.inr ⟨by decide, hj⟩
  | 1, hj => exact Or.inr ⟨by decide, hj⟩
  | 2, hj => exact Or.inr ⟨by decide, hj⟩
  | 3, hj => exact Or.inr ⟨by decide, hj⟩
  | 4, hj => exact Or.inr ⟨by decide, hj⟩
  | 5, hj => exact Or.inr ⟨by decide, hj⟩
  | 6, hj => exact Or.inr ⟨by decide, hj⟩
  | 7, hj => exact Or.inr ⟨by decide, hj⟩
  | 8, hj => exact Or.inr ⟨by decide, hj⟩
  | 9, hj => exact Or.inr ⟨by decide, hj⟩
  | 10, hj => exact Or.inl ⟨rfl, by simpa using hj.symm⟩
  | j + 11, hj => exact Or.inr ⟨by omega, hj⟩
theorem PW.ast10 {a0 a1 a2 a3 a4 a5 a6 a7 a8 a9 a10 : Option Value} {x : Nat} (C : CX G X cc own nL ret d K) (hd : decode cc pc = .ok (.astore 10, 2)) (hn : 10 < nL) (hb : nlg a9 = true) (k : PW G K nL Q h (pc + 2) (a0 :: a1 :: a2 :: a3 :: a4 :: a5 :: a6 :: a7 :: a8 :: a9 :: some (.ref x) :: L) st) : PW G K nL Q h pc (a0 :: a1 :: a2 :: a3 :: a4 :: a5 :: a6 :: a7 :: a8 :: a9 :: a10 :: L) (.ref x :: st) := by
  intro H locs ls hP hS hl
  refine lv_astore C.1 C.2.1 hd hl hn rfl (fun ls' hl' => k H locs ls' hP hS (lh_st1 (v := .ref x) hl' (fun w _ hw => nlg_of hb hw) ?_))
  intro j w hj
  match j, hj with
  | 0, hj => exact Or.inr ⟨by decide, hj⟩
  | 1, hj => exact Or.inr ⟨by decide, hj⟩
  | 2, hj => exact Or.inr ⟨by decide, hj⟩
  | 3, hj => exact Or.inr ⟨by decide, hj⟩
  | 4, hj => exact Or.inr ⟨by decide, hj⟩
  | 5, hj => exact Or.inr ⟨by decide, hj⟩
  | 6, hj => exact Or.inr ⟨by decide, hj⟩
  | 7, hj => exact Or.inr ⟨by decide, hj⟩
  | 8, hj => exact Or.inr ⟨by decide, hj⟩
  | 9, hj => exact Or.inr ⟨by decide, hj⟩
  | 10, hj => exact Or.inl ⟨rfl, by simpa using hj.symm⟩
  | j + 11, hj => exact Or.inr ⟨by omega, hj⟩
theorem PW.inc10 {a0 a1 a2 a3 a4 a5 a6 a7 a8 a9 : Option Value} {x v : Int32} {n : Int} (C : CX G X cc own nL ret d K) (hd : decode cc pc = .ok (.iinc 10 n, 3)) (hn : 10 < nL) (hb : nlg a9 = true) (hv : Int32.ofInt n = v) (k : PW G K nL Q h (pc + 3) (a0 :: a1 :: a2 :: a3 :: a4 :: a5 :: a6 :: a7 :: a8 :: a9 :: some (.int (x + v)) :: L) st) : PW G K nL Q h pc (a0 :: a1 :: a2 :: a3 :: a4 :: a5 :: a6 :: a7 :: a8 :: a9 :: some (.int x) :: L) st := by
  intro H locs ls hP hS hl
  obtain ⟨kk, hk⟩ := List.getElem?_of_mem ((prs_mem G (a0 :: a1 :: a2 :: a3 :: a4 :: a5 :: a6 :: a7 :: a8 :: a9 :: some (.int x) :: L) 0 (10, .int x)).mpr ⟨10, .int x, rfl, rfl⟩)
  refine lv_iinc (v := x + v) C.1 C.2.1 hd hl (k := kk) hk (by rw [hv]) hn rfl (fun ls' hl' => k H locs ls' hP hS (lh_st1 (v := .int (x + v)) hl' (fun w _ hw => nlg_of hb hw) ?_))
  intro j w hj
  match j, hj with
  | 0, hj => exact Or.inr ⟨by decide, hj⟩
  | 1, hj => exact Or.inr ⟨by decide, hj⟩
  | 2, hj => exact Or.inr ⟨by decide, hj⟩
  | 3, hj => exact Or.inr ⟨by decide, hj⟩
  | 4, hj => exact Or.inr ⟨by decide, hj⟩
  | 5, hj => exact Or.inr ⟨by decide, hj⟩
  | 6, hj => exact Or.inr ⟨by decide, hj⟩
  | 7, hj => exact Or.inr ⟨by decide, hj⟩
  | 8, hj => exact Or.inr ⟨by decide, hj⟩
  | 9, hj => exact Or.inr ⟨by decide, hj⟩
  | 10, hj => exact Or.inl ⟨rfl, by simpa using hj.symm⟩
  | j + 11, hj => exact Or.inr ⟨by omega, hj⟩
theorem PW.lst10 {a0 a1 a2 a3 a4 a5 a6 a7 a8 a9 a10 a11 : Option Value} {x : Int64} (C : CX G X cc own nL ret d K) (hd : decode cc pc = .ok (.lstore 10, 2)) (hn : 10 + 1 < nL) (hb : nlg a9 = true) (k : PW G K nL Q h (pc + 2) (a0 :: a1 :: a2 :: a3 :: a4 :: a5 :: a6 :: a7 :: a8 :: a9 :: some (.long x) :: none :: L) st) : PW G K nL Q h pc (a0 :: a1 :: a2 :: a3 :: a4 :: a5 :: a6 :: a7 :: a8 :: a9 :: a10 :: a11 :: L) (.long x :: st) := by
  intro H locs ls hP hS hl
  refine lv_lstore C.1 C.2.1 hd hl hn rfl (fun ls' hl' => k H locs ls' hP hS (lh_st2 (v := .long x) hl' (fun w _ hw => nlg_of hb hw) ?_))
  intro j w hj
  match j, hj with
  | 0, hj => exact Or.inr ⟨by decide, by decide, hj⟩
  | 1, hj => exact Or.inr ⟨by decide, by decide, hj⟩
  | 2, hj => exact Or.inr ⟨by decide, by decide, hj⟩
  | 3, hj => exact Or.inr ⟨by decide, by decide, hj⟩
  | 4, hj => exact Or.inr ⟨by decide, by decide, hj⟩
  | 5, hj => exact Or.inr ⟨by decide, by decide, hj⟩
  | 6, hj => exact Or.inr ⟨by decide, by decide, hj⟩
  | 7, hj => exact Or.inr ⟨by decide, by decide, hj⟩
  | 8, hj => exact Or.inr ⟨by decide, by decide, hj⟩
  | 9, hj => exact Or.inr ⟨by decide, by decide, hj⟩
  | 10, hj => exact Or.inl ⟨rfl, by simpa using hj.symm⟩
  | 11, hj => simp at hj
  | j + 12, hj => exact Or.inr ⟨by omega, by omega, hj⟩
theorem PW.ist11 {a0 a1 a2 a3 a4 a5 a6 a7 a8 a9 a10 a11 : Option Value} {x : Int32} (C : CX G X cc own nL ret d K) (hd : decode cc pc = .ok (.istore 11, 2)) (hn : 11 < nL) (hb : nlg a10 = true) (k : PW G K nL Q h (pc + 2) (a0 :: a1 :: a2 :: a3 :: a4 :: a5 :: a6 :: a7 :: a8 :: a9 :: a10 :: some (.int x) :: L) st) : PW G K nL Q h pc (a0 :: a1 :: a2 :: a3 :: a4 :: a5 :: a6 :: a7 :: a8 :: a9 :: a10 :: a11 :: L) (.int x :: st) := by
  intro H locs ls hP hS hl
  refine lv_istore C.1 C.2.1 hd hl hn rfl (fun ls' hl' => k H locs ls' hP hS (lh_st1 (v := .int x) hl' (fun w _ hw => nlg_of hb hw) ?_))
  intro j w hj
  match j, hj with
  | 0, hj => exact Or.inr ⟨by decide, hj⟩
  | 1, hj => exact Or.inr ⟨by decide, hj⟩
  | 2, hj => exact Or.inr ⟨by decide, hj⟩
  | 3, hj => exact Or.inr ⟨by decide, hj⟩
  | 4, hj => exact Or.inr ⟨by decide, hj⟩
  | 5, hj => exact Or.inr ⟨by decide, hj⟩
  | 6, hj => exact Or.inr ⟨by decide, hj⟩
  | 7, hj => exact Or.inr ⟨by decide, hj⟩
  | 8, hj => exact Or.inr ⟨by decide, hj⟩
  | 9, hj => exact Or.inr ⟨by decide, hj⟩
  | 10, hj => exact Or.inr ⟨by decide, hj⟩
  | 11, hj => exact Or.inl ⟨rfl, by simpa using hj.symm⟩
  | j + 12, hj => exact Or.inr ⟨by omega, hj⟩
theorem PW.ast11 {a0 a1 a2 a3 a4 a5 a6 a7 a8 a9 a10 a11 : Option Value} {x : Nat} (C : CX G X cc own nL ret d K) (hd : decode cc pc = .ok (.astore 11, 2)) (hn : 11 < nL) (hb : nlg a10 = true) (k : PW G K nL Q h (pc + 2) (a0 :: a1 :: a2 :: a3 :: a4 :: a5 :: a6 :: a7 :: a8 :: a9 :: a10 :: some (.ref x) :: L) st) : PW G K nL Q h pc (a0 :: a1 :: a2 :: a3 :: a4 :: a5 :: a6 :: a7 :: a8 :: a9 :: a10 :: a11 :: L) (.ref x :: st) := by
  intro H locs ls hP hS hl
  refine lv_astore C.1 C.2.1 hd hl hn rfl (fun ls' hl' => k H locs ls' hP hS (lh_st1 (v := .ref x) hl' (fun w _ hw => nlg_of hb hw) ?_))
  intro j w hj
  match j, hj with
  | 0, hj => exact Or.inr ⟨by decide, hj⟩
  | 1, hj => exact Or.inr ⟨by decide, hj⟩
  | 2, hj => exact Or.inr ⟨by decide, hj⟩
  | 3, hj => exact Or.inr ⟨by decide, hj⟩
  | 4, hj => exact Or.inr ⟨by decide, hj⟩
  | 5, hj => exact Or.inr ⟨by decide, hj⟩
  | 6, hj => exact Or.inr ⟨by decide, hj⟩
  | 7, hj => exact Or.inr ⟨by decide, hj⟩
  | 8, hj => exact Or.inr ⟨by decide, hj⟩
  | 9, hj => exact Or.inr ⟨by decide, hj⟩
  | 10, hj => exact Or.inr ⟨by decide, hj⟩
  | 11, hj => exact Or.inl ⟨rfl, by simpa using hj.symm⟩
  | j + 12, hj => exact Or.inr ⟨by omega, hj⟩
theorem PW.inc11 {a0 a1 a2 a3 a4 a5 a6 a7 a8 a9 a10 : Option Value} {x v : Int32} {n : Int} (C : CX G X cc own nL ret d K) (hd : decode cc pc = .ok (.iinc 11 n, 3)) (hn : 11 < nL) (hb : nlg a10 = true) (hv : Int32.ofInt n = v) (k : PW G K nL Q h (pc + 3) (a0 :: a1 :: a2 :: a3 :: a4 :: a5 :: a6 :: a7 :: a8 :: a9 :: a10 :: some (.int (x + v)) :: L) st) : PW G K nL Q h pc (a0 :: a1 :: a2 :: a3 :: a4 :: a5 :: a6 :: a7 :: a8 :: a9 :: a10 :: some (.int x) :: L) st := by
  intro H locs ls hP hS hl
  obtain ⟨kk, hk⟩ := List.getElem?_of_mem ((prs_mem G (a0 :: a1 :: a2 :: a3 :: a4 :: a5 :: a6 :: a7 :: a8 :: a9 :: a10 :: some (.int x) :: L) 0 (11, .int x)).mpr ⟨11, .int x, rfl, rfl⟩)
  refine lv_iinc (v := x + v) C.1 C.2.1 hd hl (k := kk) hk (by rw [hv]) hn rfl (fun ls' hl' => k H locs ls' hP hS (lh_st1 (v := .int (x + v)) hl' (fun w _ hw => nlg_of hb hw) ?_))
  intro j w hj
  match j, hj with
  | 0, hj => exact Or.inr ⟨by decide, hj⟩
  | 1, hj => exact Or.inr ⟨by decide, hj⟩
  | 2, hj => exact Or.inr ⟨by decide, hj⟩
  | 3, hj => exact Or.inr ⟨by decide, hj⟩
  | 4, hj => exact Or.inr ⟨by decide, hj⟩
  | 5, hj => exact Or.inr ⟨by decide, hj⟩
  | 6, hj => exact Or.inr ⟨by decide, hj⟩
  | 7, hj => exact Or.inr ⟨by decide, hj⟩
  | 8, hj => exact Or.inr ⟨by decide, hj⟩
  | 9, hj => exact Or.inr ⟨by decide, hj⟩
  | 10, hj => exact Or.inr ⟨by decide, hj⟩
  | 11, hj => exact Or.inl ⟨rfl, by simpa using hj.symm⟩
  | j + 12, hj => exact Or.inr ⟨by omega, hj⟩
theorem PW.lst11 {a0 a1 a2 a3 a4 a5 a6 a7 a8 a9 a10 a11 a12 : Option Value} {x : Int64} (C : CX G X cc own nL ret d K) (hd : decode cc pc = .ok (.lstore 11, 2)) (hn : 11 + 1 < nL) (hb : nlg a10 = true) (k : PW G K nL Q h (pc + 2) (a0 :: a1 :: a2 :: a3 :: a4 :: a5 :: a6 :: a7 :: a8 :: a9 :: a10 :: some (.long x) :: none :: L) st) : PW G K nL Q h pc (a0 :: a1 :: a2 :: a3 :: a4 :: a5 :: a6 :: a7 :: a8 :: a9 :: a10 :: a11 :: a12 :: L) (.long x :: st) := by
  intro H locs ls hP hS hl
  refine lv_lstore C.1 C.2.1 hd hl hn rfl (fun ls' hl' => k H locs ls' hP hS (lh_st2 (v := .long x) hl' (fun w _ hw => nlg_of hb hw) ?_))
  intro j w hj
  match j, hj with
  | 0, hj => exact Or.inr ⟨by decide, by decide, hj⟩
  | 1, hj => exact Or.inr ⟨by decide, by decide, hj⟩
  | 2, hj => exact Or.inr ⟨by decide, by decide, hj⟩
  | 3, hj => exact Or.inr ⟨by decide, by decide, hj⟩
  | 4, hj => exact Or.inr ⟨by decide, by decide, hj⟩
  | 5, hj => exact Or.inr ⟨by decide, by decide, hj⟩
  | 6, hj => exact Or.inr ⟨by decide, by decide, hj⟩
  | 7, hj => exact Or.inr ⟨by decide, by decide, hj⟩
  | 8, hj => exact Or.inr ⟨by decide, by decide, hj⟩
  | 9, hj => exact Or.inr ⟨by decide, by decide, hj⟩
  | 10, hj => exact Or.inr ⟨by decide, by decide, hj⟩
  | 11, hj => exact Or.inl ⟨rfl, by simpa using hj.symm⟩
  | 12, hj => simp at hj
  | j + 13, hj => exact Or.inr ⟨by omega, by omega, hj⟩
theorem PW.ist12 {a0 a1 a2 a3 a4 a5 a6 a7 a8 a9 a10 a11 a12 : Option Value} {x : Int32} (C : CX G X cc own nL ret d K) (hd : decode cc pc = .ok (.istore 12, 2)) (hn : 12 < nL) (hb : nlg a11 = true) (k : PW G K nL Q h (pc + 2) (a0 :: a1 :: a2 :: a3 :: a4 :: a5 :: a6 :: a7 :: a8 :: a9 :: a10 :: a11 :: some (.int x) :: L) st) : PW G K nL Q h pc (a0 :: a1 :: a2 :: a3 :: a4 :: a5 :: a6 :: a7 :: a8 :: a9 :: a10 :: a11 :: a12 :: L) (.int x :: st) := by
  intro H locs ls hP hS hl
  refine lv_istore C.1 C.2.1 hd hl hn rfl (fun ls' hl' => k H locs ls' hP hS (lh_st1 (v := .int x) hl' (fun w _ hw => nlg_of hb hw) ?_))
  intro j w hj
  match j, hj with
  | 0, hj => exact Or.inr ⟨by decide, hj⟩
  | 1, hj => exact Or.inr ⟨by decide, hj⟩
  | 2, hj => exact Or.inr ⟨by decide, hj⟩
  | 3, hj => exact Or.inr ⟨by decide, hj⟩
  | 4, hj => exact Or.inr ⟨by decide, hj⟩
  | 5, hj => exact Or.inr ⟨by decide, hj⟩
  | 6, hj => exact Or.inr ⟨by decide, hj⟩
  | 7, hj => exact Or.inr ⟨by decide, hj⟩
  | 8, hj => exact Or.inr ⟨by decide, hj⟩
  | 9, hj => exact Or.inr ⟨by decide, hj⟩
  | 10, hj => exact Or.inr ⟨by decide, hj⟩
  | 11, hj => exact Or.inr ⟨by decide, hj⟩
  | 12, hj => exact Or.inl ⟨rfl, by simpa using hj.symm⟩
  | j + 13, hj => exact Or.inr ⟨by omega, hj⟩
theorem PW.ast12 {a0 a1 a2 a3 a4 a5 a6 a7 a8 a9 a10 a11 a12 : Option Value} {x : Nat} (C : CX G X cc own nL ret d K) (hd : decode cc pc = .ok (.astore 12, 2)) (hn : 12 < nL) (hb : nlg a11 = true) (k : PW G K nL Q h (pc + 2) (a0 :: a1 :: a2 :: a3 :: a4 :: a5 :: a6 :: a7 :: a8 :: a9 :: a10 :: a11 :: some (.ref x) :: L) st) : PW G K nL Q h pc (a0 :: a1 :: a2 :: a3 :: a4 :: a5 :: a6 :: a7 :: a8 :: a9 :: a10 :: a11 :: a12 :: L) (.ref x :: st) := by
  intro H locs ls hP hS hl
  refine lv_astore C.1 C.2.1 hd hl hn rfl (fun ls' hl' => k H locs ls' hP hS (lh_st1 (v := .ref x) hl' (fun w _ hw => nlg_of hb hw) ?_))
  intro j w hj
  match j, hj with
  | 0, hj => exact Or.inr ⟨by decide, hj⟩
  | 1, hj => exact Or.inr ⟨by decide, hj⟩
  | 2, hj => exact Or.inr ⟨by decide, hj⟩
  | 3, hj => exact Or.inr ⟨by decide, hj⟩
  | 4, hj => exact Or.inr ⟨by decide, hj⟩
  | 5, hj => exact Or.inr ⟨by decide, hj⟩
  | 6, hj => exact Or.inr ⟨by decide, hj⟩
  | 7, hj => exact Or.inr ⟨by decide, hj⟩
  | 8, hj => exact Or.inr ⟨by decide, hj⟩
  | 9, hj => exact Or.inr ⟨by decide, hj⟩
  | 10, hj => exact Or.inr ⟨by decide, hj⟩
  | 11, hj => exact Or.inr ⟨by decide, hj⟩
  | 12, hj => exact Or.inl ⟨rfl, by simpa using hj.symm⟩
  | j + 13, hj => exact Or.inr ⟨by omega, hj⟩
theorem PW.inc12 {a0 a1 a2 a3 a4 a5 a6 a7 a8 a9 a10 a11 : Option Value} {x v : Int32} {n : Int} (C : CX G X cc own nL ret d K) (hd : decode cc pc = .ok (.iinc 12 n, 3)) (hn : 12 < nL) (hb : nlg a11 = true) (hv : Int32.ofInt n = v) (k : PW G K nL Q h (pc + 3) (a0 :: a1 :: a2 :: a3 :: a4 :: a5 :: a6 :: a7 :: a8 :: a9 :: a10 :: a11 :: some (.int (x + v)) :: L) st) : PW G K nL Q h pc (a0 :: a1 :: a2 :: a3 :: a4 :: a5 :: a6 :: a7 :: a8 :: a9 :: a10 :: a11 :: some (.int x) :: L) st := by
  intro H locs ls hP hS hl
  obtain ⟨kk, hk⟩ := List.getElem?_of_mem ((prs_mem G (a0 :: a1 :: a2 :: a3 :: a4 :: a5 :: a6 :: a7 :: a8 :: a9 :: a10 :: a11 :: some (.int x) :: L) 0 (12, .int x)).mpr ⟨12, .int x, rfl, rfl⟩)
  refine lv_iinc (v := x + v) C.1 C.2.1 hd hl (k := kk) hk (by rw [hv]) hn rfl (fun ls' hl' => k H locs ls' hP hS (lh_st1 (v := .int (x + v)) hl' (fun w _ hw => nlg_of hb hw) ?_))
  intro j w hj
  match j, hj with
  | 0, hj => exact Or.inr ⟨by decide, hj⟩
  | 1, hj => exact Or.inr ⟨by decide, hj⟩
  | 2, hj => exact Or.inr ⟨by decide, hj⟩
  | 3, hj => exact Or.inr ⟨by decide, hj⟩
  | 4, hj => exact Or.inr ⟨by decide, hj⟩
  | 5, hj => exact Or.inr ⟨by decide, hj⟩
  | 6, hj => exact Or.inr ⟨by decide, hj⟩
  | 7, hj => exact Or.inr ⟨by decide, hj⟩
  | 8, hj => exact Or.inr ⟨by decide, hj⟩
  | 9, hj => exact Or.inr ⟨by decide, hj⟩
  | 10, hj => exact Or.inr ⟨by decide, hj⟩
  | 11, hj => exact Or.inr ⟨by decide, hj⟩
  | 12, hj => exact Or.inl ⟨rfl, by simpa using hj.symm⟩
  | j + 13, hj => exact Or.inr ⟨by omega, hj⟩
theorem PW.lst12 {a0 a1 a2 a3 a4 a5 a6 a7 a8 a9 a10 a11 a12 a13 : Option Value} {x : Int64} (C : CX G X cc own nL ret d K) (hd : decode cc pc = .ok (.lstore 12, 2)) (hn : 12 + 1 < nL) (hb : nlg a11 = true) (k : PW G K nL Q h (pc + 2) (a0 :: a1 :: a2 :: a3 :: a4 :: a5 :: a6 :: a7 :: a8 :: a9 :: a10 :: a11 :: some (.long x) :: none :: L) st) : PW G K nL Q h pc (a0 :: a1 :: a2 :: a3 :: a4 :: a5 :: a6 :: a7 :: a8 :: a9 :: a10 :: a11 :: a12 :: a13 :: L) (.long x :: st) := by
  intro H locs ls hP hS hl
  refine lv_lstore C.1 C.2.1 hd hl hn rfl (fun ls' hl' => k H locs ls' hP hS (lh_st2 (v := .long x) hl' (fun w _ hw => nlg_of hb hw) ?_))
  intro j w hj
  match j, hj with
  | 0, hj => exact Or.inr ⟨by decide, by decide, hj⟩
  | 1, hj => exact Or.inr ⟨by decide, by decide, hj⟩
  | 2, hj => exact Or.inr ⟨by decide, by decide, hj⟩
  | 3, hj => exact Or.inr ⟨by decide, by decide, hj⟩
  | 4, hj => exact Or.inr ⟨by decide, by decide, hj⟩
  | 5, hj => exact Or.inr ⟨by decide, by decide, hj⟩
  | 6, hj => exact Or.inr ⟨by decide, by decide, hj⟩
  | 7, hj => exact Or.inr ⟨by decide, by decide, hj⟩
  | 8, hj => exact Or.inr ⟨by decide, by decide, hj⟩
  | 9, hj => exact Or.inr ⟨by decide, by decide, hj⟩
  | 10, hj => exact Or.inr ⟨by decide, by decide, hj⟩
  | 11, hj => exact Or.inr ⟨by decide, by decide, hj⟩
  | 12, hj => exact Or.inl ⟨rfl, by simpa using hj.symm⟩
  | 13, hj => simp at hj
  | j + 14, hj => exact Or.inr ⟨by omega, by omega, hj⟩
theorem PW.ist13 {a0 a1 a2 a3 a4 a5 a6 a7 a8 a9 a10 a11 a12 a13 : Option Value} {x : Int32} (C : CX G X cc own nL ret d K) (hd : decode cc pc = .ok (.istore 13, 2)) (hn : 13 < nL) (hb : nlg a12 = true) (k : PW G K nL Q h (pc + 2) (a0 :: a1 :: a2 :: a3 :: a4 :: a5 :: a6 :: a7 :: a8 :: a9 :: a10 :: a11 :: a12 :: some (.int x) :: L) st) : PW G K nL Q h pc (a0 :: a1 :: a2 :: a3 :: a4 :: a5 :: a6 :: a7 :: a8 :: a9 :: a10 :: a11 :: a12 :: a13 :: L) (.int x :: st) := by
  intro H locs ls hP hS hl
  refine lv_istore C.1 C.2.1 hd hl hn rfl (fun ls' hl' => k H locs ls' hP hS (lh_st1 (v := .int x) hl' (fun w _ hw => nlg_of hb hw) ?_))
  intro j w hj
  match j, hj with
  | 0, hj => exact Or.inr ⟨by decide, hj⟩
  | 1, hj => exact Or.inr ⟨by decide, hj⟩
  | 2, hj => exact Or.inr ⟨by decide, hj⟩
  | 3, hj => exact Or.inr ⟨by decide, hj⟩
  | 4, hj => exact Or.inr ⟨by decide, hj⟩
  | 5, hj => exact Or.inr ⟨by decide, hj⟩
  | 6, hj => exact Or.inr ⟨by decide, hj⟩
  | 7, hj => exact Or.inr ⟨by decide, hj⟩
  | 8, hj => exact Or.inr ⟨by decide, hj⟩
  | 9, hj => exact Or.inr ⟨by decide, hj⟩
  | 10, hj => exact Or.inr ⟨by decide, hj⟩
  | 11, hj => exact Or.inr ⟨by decide, hj⟩
  | 12, hj => exact Or.inr ⟨by decide, hj⟩
  | 13, hj => exact Or.inl ⟨rfl, by simpa using hj.symm⟩
  | j + 14, hj => exact Or.inr ⟨by omega, hj⟩
theorem PW.ast13 {a0 a1 a2 a3 a4 a5 a6 a7 a8 a9 a10 a11 a12 a13 : Option Value} {x : Nat} (C : CX G X cc own nL ret d K) (hd : decode cc pc = .ok (.astore 13, 2)) (hn : 13 < nL) (hb : nlg a12 = true) (k : PW G K nL Q h (pc + 2) (a0 :: a1 :: a2 :: a3 :: a4 :: a5 :: a6 :: a7 :: a8 :: a9 :: a10 :: a11 :: a12 :: some (.ref x) :: L) st) : PW G K nL Q h pc (a0 :: a1 :: a2 :: a3 :: a4 :: a5 :: a6 :: a7 :: a8 :: a9 :: a10 :: a11 :: a12 :: a13 :: L) (.ref x :: st) := by
  intro H locs ls hP hS hl
  refine lv_astore C.1 C.2.1 hd hl hn rfl (fun ls' hl' => k H locs ls' hP hS (lh_st1 (v := .ref x) hl' (fun w _ hw => nlg_of hb hw) ?_))
  intro j w hj
  match j, hj with
  | 0, hj => exact Or.inr ⟨by decide, hj⟩
  | 1, hj => exact Or.inr ⟨by decide, hj⟩
  | 2, hj => exact Or.inr ⟨by decide, hj⟩
  | 3, hj => exact Or.inr ⟨by decide, hj⟩
  | 4, hj => exact Or.inr ⟨by decide, hj⟩
  | 5, hj => exact Or.inr ⟨by decide, hj⟩
  | 6, hj => exact Or.inr ⟨by decide, hj⟩
  | 7, hj => exact Or.inr ⟨by decide, hj⟩
  | 8, hj => exact Or.inr ⟨by decide, hj⟩
  | 9, hj => exact Or.inr ⟨by decide, hj⟩
  | 10, hj => exact Or.inr ⟨by decide, hj⟩
  | 11, hj => exact Or.inr ⟨by decide, hj⟩
  | 12, hj => exact Or.inr ⟨by decide, hj⟩
  | 13, hj => exact Or.inl ⟨rfl, by simpa using hj.symm⟩
  | j + 14, hj => exact Or.inr ⟨by omega, hj⟩
theorem PW.inc13 {a0 a1 a2 a3 a4 a5 a6 a7 a8 a9 a10 a11 a12 : Option Value} {x v : Int32} {n : Int} (C : CX G X cc own nL ret d K) (hd : decode cc pc = .ok (.iinc 13 n, 3)) (hn : 13 < nL) (hb : nlg a12 = true) (hv : Int32.ofInt n = v) (k : PW G K nL Q h (pc + 3) (a0 :: a1 :: a2 :: a3 :: a4 :: a5 :: a6 :: a7 :: a8 :: a9 :: a10 :: a11 :: a12 :: some (.int (x + v)) :: L) st) : PW G K nL Q h pc (a0 :: a1 :: a2 :: a3 :: a4 :: a5 :: a6 :: a7 :: a8 :: a9 :: a10 :: a11 :: a12 :: some (.int x) :: L) st := by
  intro H locs ls hP hS hl
  obtain ⟨kk, hk⟩ := List.getElem?_of_mem ((prs_mem G (a0 :: a1 :: a2 :: a3 :: a4 :: a5 :: a6 :: a7 :: a8 :: a9 :: a10 :: a11 :: a12 :: some (.int x) :: L) 0 (13, .int x)).mpr ⟨13, .int x, rfl, rfl⟩)
  refine lv_iinc (v := x + v) C.1 C.2.1 hd hl (k := kk) hk (by rw [hv]) hn rfl (fun ls' hl' => k H locs ls' hP hS (lh_st1 (v := .int (x + v)) hl' (fun w _ hw => nlg_of hb hw) ?_))
  intro j w hj
  match j, hj with
  | 0, hj => exact Or.inr ⟨by decide, hj⟩
  | 1, hj => exact Or.inr ⟨by decide, hj⟩
  | 2, hj => exact Or.inr ⟨by decide, hj⟩
  | 3, hj => exact Or.inr ⟨by decide, hj⟩
  | 4, hj => exact Or.inr ⟨by decide, hj⟩
  | 5, hj => exact Or.inr ⟨by decide, hj⟩
  | 6, hj => exact Or.inr ⟨by decide, hj⟩
  | 7, hj => exact Or.inr ⟨by decide, hj⟩
  | 8, hj => exact Or.inr ⟨by decide, hj⟩
  | 9, hj => exact Or.inr ⟨by decide, hj⟩
  | 10, hj => exact Or.inr ⟨by decide, hj⟩
  | 11, hj => exact Or.inr ⟨by decide, hj⟩
  | 12, hj => exact Or.inr ⟨by decide, hj⟩
  | 13, hj => exact Or.inl ⟨rfl, by simpa using hj.symm⟩
  | j + 14, hj => exact Or.inr ⟨by omega, hj⟩
theorem PW.lst13 {a0 a1 a2 a3 a4 a5 a6 a7 a8 a9 a10 a11 a12 a13 a14 : Option Value} {x : Int64} (C : CX G X cc own nL ret d K) (hd : decode cc pc = .ok (.lstore 13, 2)) (hn : 13 + 1 < nL) (hb : nlg a12 = true) (k : PW G K nL Q h (pc + 2) (a0 :: a1 :: a2 :: a3 :: a4 :: a5 :: a6 :: a7 :: a8 :: a9 :: a10 :: a11 :: a12 :: some (.long x) :: none :: L) st) : PW G K nL Q h pc (a0 :: a1 :: a2 :: a3 :: a4 :: a5 :: a6 :: a7 :: a8 :: a9 :: a10 :: a11 :: a12 :: a13 :: a14 :: L) (.long x :: st) := by
  intro H locs ls hP hS hl
  refine lv_lstore C.1 C.2.1 hd hl hn rfl (fun ls' hl' => k H locs ls' hP hS (lh_st2 (v := .long x) hl' (fun w _ hw => nlg_of hb hw) ?_))
  intro j w hj
  match j, hj with
  | 0, hj => exact Or.inr ⟨by decide, by decide, hj⟩
  | 1, hj => exact Or.inr ⟨by decide, by decide, hj⟩
  | 2, hj => exact Or.inr ⟨by decide, by decide, hj⟩
  | 3, hj => exact Or.inr ⟨by decide, by decide, hj⟩
  | 4, hj => exact Or.inr ⟨by decide, by decide, hj⟩
  | 5, hj => exact Or.inr ⟨by decide, by decide, hj⟩
  | 6, hj => exact Or.inr ⟨by decide, by decide, hj⟩
  | 7, hj => exact Or.inr ⟨by decide, by decide, hj⟩
  | 8, hj => exact Or.inr ⟨by decide, by decide, hj⟩
  | 9, hj => exact Or.inr ⟨by decide, by decide, hj⟩
  | 10, hj => exact Or.inr ⟨by decide, by decide, hj⟩
  | 11, hj => exact Or.inr ⟨by decide, by decide, hj⟩
  | 12, hj => exact Or.inr ⟨by decide, by decide, hj⟩
  | 13, hj => exact Or.inl ⟨rfl, by simpa using hj.symm⟩
  | 14, hj => simp at hj
  | j + 15, hj => exact Or.inr ⟨by omega, by omega, hj⟩
theorem PW.ist14 {a0 a1 a2 a3 a4 a5 a6 a7 a8 a9 a10 a11 a12 a13 a14 : Option Value} {x : Int32} (C : CX G X cc own nL ret d K) (hd : decode cc pc = .ok (.istore 14, 2)) (hn : 14 < nL) (hb : nlg a13 = true) (k : PW G K nL Q h (pc + 2) (a0 :: a1 :: a2 :: a3 :: a4 :: a5 :: a6 :: a7 :: a8 :: a9 :: a10 :: a11 :: a12 :: a13 :: some (.int x) :: L) st) : PW G K nL Q h pc (a0 :: a1 :: a2 :: a3 :: a4 :: a5 :: a6 :: a7 :: a8 :: a9 :: a10 :: a11 :: a12 :: a13 :: a14 :: L) (.int x :: st) := by
  intro H locs ls hP hS hl
  refine lv_istore C.1 C.2.1 hd hl hn rfl (fun ls' hl' => k H locs ls' hP hS (lh_st1 (v := .int x) hl' (fun w _ hw => nlg_of hb hw) ?_))
  intro j w hj
  match j, hj with
  | 0, hj => exact Or.inr ⟨by decide, hj⟩
  | 1, hj => exact Or.inr ⟨by decide, hj⟩
  | 2, hj => exact Or.inr ⟨by decide, hj⟩
  | 3, hj => exact Or.inr ⟨by decide, hj⟩
  | 4, hj => exact Or.inr ⟨by decide, hj⟩
  | 5, hj => exact Or.inr ⟨by decide, hj⟩
  | 6, hj => exact Or.inr ⟨by decide, hj⟩
  | 7, hj => exact Or.inr ⟨by decide, hj⟩
  | 8, hj => exact Or.inr ⟨by decide, hj⟩
  | 9, hj => exact Or.inr ⟨by decide, hj⟩
  | 10, hj => exact Or.inr ⟨by decide, hj⟩
  | 11, hj => exact Or.inr ⟨by decide, hj⟩
  | 12, hj => exact Or.inr ⟨by decide, hj⟩
  | 13, hj => exact Or.inr ⟨by decide, hj⟩
  | 14, hj => exact Or.inl ⟨rfl, by simpa using hj.symm⟩
  | j + 15, hj => exact Or.inr ⟨by omega, hj⟩
theorem PW.ast14 {a0 a1 a2 a3 a4 a5 a6 a7 a8 a9 a10 a11 a12 a13 a14 : Option Value} {x : Nat} (C : CX G X cc own nL ret d K) (hd : decode cc pc = .ok (.astore 14, 2)) (hn : 14 < nL) (hb : nlg a13 = true) (k : PW G K nL Q h (pc + 2) (a0 :: a1 :: a2 :: a3 :: a4 :: a5 :: a6 :: a7 :: a8 :: a9 :: a10 :: a11 :: a12 :: a13 :: some (.ref x) :: L) st) : PW G K nL Q h pc (a0 :: a1 :: a2 :: a3 :: a4 :: a5 :: a6 :: a7 :: a8 :: a9 :: a10 :: a11 :: a12 :: a13 :: a14 :: L) (.ref x :: st) := by
  intro H locs ls hP hS hl
  refine lv_astore C.1 C.2.1 hd hl hn rfl (fun ls' hl' => k H locs ls' hP hS (lh_st1 (v := .ref x) hl' (fun w _ hw => nlg_of hb hw) ?_))
  intro j w hj
  match j, hj with
  | 0, hj => exact Or.inr ⟨by decide, hj⟩
  | 1, hj => exact Or.inr ⟨by decide, hj⟩
  | 2, hj => exact Or.inr ⟨by decide, hj⟩
  | 3, hj => exact Or.inr ⟨by decide, hj⟩
  | 4, hj => exact Or.inr ⟨by decide, hj⟩
  | 5, hj => exact Or.inr ⟨by decide, hj⟩
  | 6, hj => exact Or.inr ⟨by decide, hj⟩
  | 7, hj => exact Or.inr ⟨by decide, hj⟩
  | 8, hj => exact Or.inr ⟨by decide, hj⟩
  | 9, hj => exact Or.inr ⟨by decide, hj⟩
  | 10, hj => exact Or.inr ⟨by decide, hj⟩
  | 11, hj => exact Or.inr ⟨by decide, hj⟩
  | 12, hj => exact Or.inr ⟨by decide, hj⟩
  | 13, hj => exact Or.inr ⟨by decide, hj⟩
  | 14, hj => exact Or.inl ⟨rfl, by simpa using hj.symm⟩
  | j + 15, hj => exact Or.inr ⟨by omega, hj⟩
theorem PW.inc14 {a0 a1 a2 a3 a4 a5 a6 a7 a8 a9 a10 a11 a12 a13 : Option Value} {x v : Int32} {n : Int} (C : CX G X cc own nL ret d K) (hd : decode cc pc = .ok (.iinc 14 n, 3)) (hn : 14 < nL) (hb : nlg a13 = true) (hv : Int32.ofInt n = v) (k : PW G K nL Q h (pc + 3) (a0 :: a1 :: a2 :: a3 :: a4 :: a5 :: a6 :: a7 :: a8 :: a9 :: a10 :: a11 :: a12 :: a13 :: some (.int (x + v)) :: L) st) : PW G K nL Q h pc (a0 :: a1 :: a2 :: a3 :: a4 :: a5 :: a6 :: a7 :: a8 :: a9 :: a10 :: a11 :: a12 :: a13 :: some (.int x) :: L) st := by
  intro H locs ls hP hS hl
  obtain ⟨kk, hk⟩ := List.getElem?_of_mem ((prs_mem G (a0 :: a1 :: a2 :: a3 :: a4 :: a5 :: a6 :: a7 :: a8 :: a9 :: a10 :: a11 :: a12 :: a13 :: some (.int x) :: L) 0 (14, .int x)).mpr ⟨14, .int x, rfl, rfl⟩)
  refine lv_iinc (v := x + v) C.1 C.2.1 hd hl (k := kk) hk (by rw [hv]) hn rfl (fun ls' hl' => k H locs ls' hP hS (lh_st1 (v := .int (x + v)) hl' (fun w _ hw => nlg_of hb hw) ?_))
  intro j w hj
  match j, hj with
  | 0, hj => exact Or.inr ⟨by decide, hj⟩
  | 1, hj => exact Or.inr ⟨by decide, hj⟩
  | 2, hj => exact Or.inr ⟨by decide, hj⟩
  | 3, hj => exact Or.inr ⟨by decide, hj⟩
  | 4, hj => exact Or.inr ⟨by decide, hj⟩
  | 5, hj => exact Or.inr ⟨by decide, hj⟩
  | 6, hj => exact Or.inr ⟨by decide, hj⟩
  | 7, hj => exact Or.inr ⟨by decide, hj⟩
  | 8, hj => exact Or.inr ⟨by decide, hj⟩
  | 9, hj => exact Or.inr ⟨by decide, hj⟩
  | 10, hj => exact Or.inr ⟨by decide, hj⟩
  | 11, hj => exact Or.inr ⟨by decide, hj⟩
  | 12, hj => exact Or.inr ⟨by decide, hj⟩
  | 13, hj => exact Or.inr ⟨by decide, hj⟩
  | 14, hj => exact Or.inl ⟨rfl, by simpa using hj.symm⟩
  | j + 15, hj => exact Or.inr ⟨by omega, hj⟩
theorem PW.lst14 {a0 a1 a2 a3 a4 a5 a6 a7 a8 a9 a10 a11 a12 a13 a14 a15 : Option Value} {x : Int64} (C : CX G X cc own nL ret d K) (hd : decode cc pc = .ok (.lstore 14, 2)) (hn : 14 + 1 < nL) (hb : nlg a13 = true) (k : PW G K nL Q h (pc + 2) (a0 :: a1 :: a2 :: a3 :: a4 :: a5 :: a6 :: a7 :: a8 :: a9 :: a10 :: a11 :: a12 :: a13 :: some (.long x) :: none :: L) st) : PW G K nL Q h pc (a0 :: a1 :: a2 :: a3 :: a4 :: a5 :: a6 :: a7 :: a8 :: a9 :: a10 :: a11 :: a12 :: a13 :: a14 :: a15 :: L) (.long x :: st) := by
  intro H locs ls hP hS hl
  refine lv_lstore C.1 C.2.1 hd hl hn rfl (fun ls' hl' => k H locs ls' hP hS (lh_st2 (v := .long x) hl' (fun w _ hw => nlg_of hb hw) ?_))
  intro j w hj
  match j, hj with
  | 0, hj => exact Or.inr ⟨by decide, by decide, hj⟩
  | 1, hj => exact Or.inr ⟨by decide, by decide, hj⟩
  | 2, hj => exact Or.inr ⟨by decide, by decide, hj⟩
  | 3, hj => exact Or.inr ⟨by decide, by decide, hj⟩
  | 4, hj => exact Or.inr ⟨by decide, by decide, hj⟩
  | 5, hj => exact Or.inr ⟨by decide, by decide, hj⟩
  | 6, hj => exact Or.inr ⟨by decide, by decide, hj⟩
  | 7, hj => exact Or.inr ⟨by decide, by decide, hj⟩
  | 8, hj => exact Or.inr ⟨by decide, by decide, hj⟩
  | 9, hj => exact Or.inr ⟨by decide, by decide, hj⟩
  | 10, hj => exact Or.inr ⟨by decide, by decide, hj⟩
  | 11, hj => exact Or.inr ⟨by decide, by decide, hj⟩
  | 12, hj => exact Or.inr ⟨by decide, by decide, hj⟩
  | 13, hj => exact Or.inr ⟨by decide, by decide, hj⟩
  | 14, hj => exact Or.inl ⟨rfl, by simpa using hj.symm⟩
  | 15, hj => simp at hj
  | j + 16, hj => exact Or.inr ⟨by omega, by omega, hj⟩
theorem PW.ist15 {a0 a1 a2 a3 a4 a5 a6 a7 a8 a9 a10 a11 a12 a13 a14 a15 : Option Value} {x : Int32} (C : CX G X cc own nL ret d K) (hd : decode cc pc = .ok (.istore 15, 2)) (hn : 15 < nL) (hb : nlg a14 = true) (k : PW G K nL Q h (pc + 2) (a0 :: a1 :: a2 :: a3 :: a4 :: a5 :: a6 :: a7 :: a8 :: a9 :: a10 :: a11 :: a12 :: a13 :: a14 :: some (.int x) :: L) st) : PW G K nL Q h pc (a0 :: a1 :: a2 :: a3 :: a4 :: a5 :: a6 :: a7 :: a8 :: a9 :: a10 :: a11 :: a12 :: a13 :: a14 :: a15 :: L) (.int x :: st) := by
  intro H locs ls hP hS hl
  refine lv_istore C.1 C.2.1 hd hl hn rfl (fun ls' hl' => k H locs ls' hP hS (lh_st1 (v := .int x) hl' (fun w _ hw => nlg_of hb hw) ?_))
  intro j w hj
  match j, hj with
  | 0, hj => exact Or.inr ⟨by decide, hj⟩
  | 1, hj => exact Or.inr ⟨by decide, hj⟩
  | 2, hj => exact Or.inr ⟨by decide, hj⟩
  | 3, hj => exact Or.inr ⟨by decide, hj⟩
  | 4, hj => exact Or.inr ⟨by decide, hj⟩
  | 5, hj => exact Or.inr ⟨by decide, hj⟩
  | 6, hj => exact Or.inr ⟨by decide, hj⟩
  | 7, hj => exact Or.inr ⟨by decide, hj⟩
  | 8, hj => exact Or.inr ⟨by decide, hj⟩
  | 9, hj => exact Or.inr ⟨by decide, hj⟩
  | 10, hj => exact Or.inr ⟨by decide, hj⟩
  | 11, hj => exact Or.inr ⟨by decide, hj⟩
  | 12, hj => exact Or.inr ⟨by decide, hj⟩
  | 13, hj => exact Or.inr ⟨by decide, hj⟩
  | 14, hj => exact Or.inr ⟨by decide, hj⟩
  | 15, hj => exact Or.inl ⟨rfl, by simpa using hj.symm⟩
  | j + 16, hj => exact Or.inr ⟨by omega, hj⟩
theorem PW.ast15 {a0 a1 a2 a3 a4 a5 a6 a7 a8 a9 a10 a11 a12 a13 a14 a15 : Option Value} {x : Nat} (C : CX G X cc own nL ret d K) (hd : decode cc pc = .ok (.astore 15, 2)) (hn : 15 < nL) (hb : nlg a14 = true) (k : PW G K nL Q h (pc + 2) (a0 :: a1 :: a2 :: a3 :: a4 :: a5 :: a6 :: a7 :: a8 :: a9 :: a10 :: a11 :: a12 :: a13 :: a14 :: some (.ref x) :: L) st) : PW G K nL Q h pc (a0 :: a1 :: a2 :: a3 :: a4 :: a5 :: a6 :: a7 :: a8 :: a9 :: a10 :: a11 :: a12 :: a13 :: a14 :: a15 :: L) (.ref x :: st) := by
  intro H locs ls hP hS hl
  refine lv_astore C.1 C.2.1 hd hl hn rfl (fun ls' hl' => k H locs ls' hP hS (lh_st1 (v := .ref x) hl' (fun w _ hw => nlg_of hb hw) ?_))
  intro j w hj
  match j, hj with
  | 0, hj => exact Or.inr ⟨by decide, hj⟩
  | 1, hj => exact Or.inr ⟨by decide, hj⟩
  | 2, hj => exact Or.inr ⟨by decide, hj⟩
  | 3, hj => exact Or.inr ⟨by decide, hj⟩
  | 4, hj => exact Or.inr ⟨by decide, hj⟩
  | 5, hj => exact Or.inr ⟨by decide, hj⟩
  | 6, hj => exact Or.inr ⟨by decide, hj⟩
  | 7, hj => exact Or.inr ⟨by decide, hj⟩
  | 8, hj => exact Or.inr ⟨by decide, hj⟩
  | 9, hj => exact Or.inr ⟨by decide, hj⟩
  | 10, hj => exact Or.inr ⟨by decide, hj⟩
  | 11, hj => exact Or.inr ⟨by decide, hj⟩
  | 12, hj => exact Or.inr ⟨by decide, hj⟩
  | 13, hj => exact Or.inr ⟨by decide, hj⟩
  | 14, hj => exact Or.inr ⟨by decide, hj⟩
  | 15, hj => exact Or.inl ⟨rfl, by simpa using hj.symm⟩
  | j + 16, hj => exact Or.inr ⟨by omega, hj⟩
theorem PW.inc15 {a0 a1 a2 a3 a4 a5 a6 a7 a8 a9 a10 a11 a12 a13 a14 : Option Value} {x v : Int32} {n : Int} (C : CX G X cc own nL ret d K) (hd : decode cc pc = .ok (.iinc 15 n, 3)) (hn : 15 < nL) (hb : nlg a14 = true) (hv : Int32.ofInt n = v) (k : PW G K nL Q h (pc + 3) (a0 :: a1 :: a2 :: a3 :: a4 :: a5 :: a6 :: a7 :: a8 :: a9 :: a10 :: a11 :: a12 :: a13 :: a14 :: some (.int (x + v)) :: L) st) : PW G K nL Q h pc (a0 :: a1 :: a2 :: a3 :: a4 :: a5 :: a6 :: a7 :: a8 :: a9 :: a10 :: a11 :: a12 :: a13 :: a14 :: some (.int x) :: L) st := by
  intro H locs ls hP hS hl
  obtain ⟨kk, hk⟩ := List.getElem?_of_mem ((prs_mem G (a0 :: a1 :: a2 :: a3 :: a4 :: a5 :: a6 :: a7 :: a8 :: a9 :: a10 :: a11 :: a12 :: a13 :: a14 :: some (.int x) :: L) 0 (15, .int x)).mpr ⟨15, .int x, rfl, rfl⟩)
  refine lv_iinc (v := x + v) C.1 C.2.1 hd hl (k := kk) hk (by rw [hv]) hn rfl (fun ls' hl' => k H locs ls' hP hS (lh_st1 (v := .int (x + v)) hl' (fun w _ hw => nlg_of hb hw) ?_))
  intro j w hj
  match j, hj with
  | 0, hj => exact Or.inr ⟨by decide, hj⟩
  | 1, hj => exact Or.inr ⟨by decide, hj⟩
  | 2, hj => exact Or.inr ⟨by decide, hj⟩
  | 3, hj => exact Or.inr ⟨by decide, hj⟩
  | 4, hj => exact Or.inr ⟨by decide, hj⟩
  | 5, hj => exact Or.inr ⟨by decide, hj⟩
  | 6, hj => exact Or.inr ⟨by decide, hj⟩
  | 7, hj => exact Or.inr ⟨by decide, hj⟩
  | 8, hj => exact Or.inr ⟨by decide, hj⟩
  | 9, hj => exact Or.inr ⟨by decide, hj⟩
  | 10, hj => exact Or.inr ⟨by decide, hj⟩
  | 11, hj => exact Or.inr ⟨by decide, hj⟩
  | 12, hj => exact Or.inr ⟨by decide, hj⟩
  | 13, hj => exact Or.inr ⟨by decide, hj⟩
  | 14, hj => exact Or.inr ⟨by decide, hj⟩
  | 15, hj => exact Or.inl ⟨rfl, by simpa using hj.symm⟩
  | j + 16, hj => exact Or.inr ⟨by omega, hj⟩
theorem PW.lst15 {a0 a1 a2 a3 a4 a5 a6 a7 a8 a9 a10 a11 a12 a13 a14 a15 a16 : Option Value} {x : Int64} (C : CX G X cc own nL ret d K) (hd : decode cc pc = .ok (.lstore 15, 2)) (hn : 15 + 1 < nL) (hb : nlg a14 = true) (k : PW G K nL Q h (pc + 2) (a0 :: a1 :: a2 :: a3 :: a4 :: a5 :: a6 :: a7 :: a8 :: a9 :: a10 :: a11 :: a12 :: a13 :: a14 :: some (.long x) :: none :: L) st) : PW G K nL Q h pc (a0 :: a1 :: a2 :: a3 :: a4 :: a5 :: a6 :: a7 :: a8 :: a9 :: a10 :: a11 :: a12 :: a13 :: a14 :: a15 :: a16 :: L) (.long x :: st) := by
  intro H locs ls hP hS hl
  refine lv_lstore C.1 C.2.1 hd hl hn rfl (fun ls' hl' => k H locs ls' hP hS (lh_st2 (v := .long x) hl' (fun w _ hw => nlg_of hb hw) ?_))
  intro j w hj
  match j, hj with
  | 0, hj => exact Or.inr ⟨by decide, by decide, hj⟩
  | 1, hj => exact Or.inr ⟨by decide, by decide, hj⟩
  | 2, hj => exact Or.inr ⟨by decide, by decide, hj⟩
  | 3, hj => exact Or.inr ⟨by decide, by decide, hj⟩
  | 4, hj => exact Or.inr ⟨by decide, by decide, hj⟩
  | 5, hj => exact Or.inr ⟨by decide, by decide, hj⟩
  | 6, hj => exact Or.inr ⟨by decide, by decide, hj⟩
  | 7, hj => exact Or.inr ⟨by decide, by decide, hj⟩
  | 8, hj => exact Or.inr ⟨by decide, by decide, hj⟩
  | 9, hj => exact Or.inr ⟨by decide, by decide, hj⟩
  | 10, hj => exact Or.inr ⟨by decide, by decide, hj⟩
  | 11, hj => exact Or.inr ⟨by decide, by decide, hj⟩
  | 12, hj => exact Or.inr ⟨by decide, by decide, hj⟩
  | 13, hj => exact Or.inr ⟨by decide, by decide, hj⟩
  | 14, hj => exact Or.inr ⟨by decide, by decide, hj⟩
  | 15, hj => exact Or.inl ⟨rfl, by simpa using hj.symm⟩
  | 16, hj => simp at hj
  | j + 17, hj => exact Or.inr ⟨by omega, by omega, hj⟩
theorem PW.ist16 {a0 a1 a2 a3 a4 a5 a6 a7 a8 a9 a10 a11 a12 a13 a14 a15 a16 : Option Value} {x : Int32} (C : CX G X cc own nL ret d K) (hd : decode cc pc = .ok (.istore 16, 2)) (hn : 16 < nL) (hb : nlg a15 = true) (k : PW G K nL Q h (pc + 2) (a0 :: a1 :: a2 :: a3 :: a4 :: a5 :: a6 :: a7 :: a8 :: a9 :: a10 :: a11 :: a12 :: a13 :: a14 :: a15 :: some (.int x) :: L) st) : PW G K nL Q h pc (a0 :: a1 :: a2 :: a3 :: a4 :: a5 :: a6 :: a7 :: a8 :: a9 :: a10 :: a11 :: a12 :: a13 :: a14 :: a15 :: a16 :: L) (.int x :: st) := by
  intro H locs ls hP hS hl
  refine lv_istore C.1 C.2.1 hd hl hn rfl (fun ls' hl' => k H locs ls' hP hS (lh_st1 (v := .int x) hl' (fun w _ hw => nlg_of hb hw) ?_))
  intro j w hj
  match j, hj with
  | 0, hj => exact Or.inr ⟨by decide, hj⟩
  | 1, hj => exact Or.inr ⟨by decide, hj⟩
  | 2, hj => exact Or.inr ⟨by decide, hj⟩
  | 3, hj => exact Or.inr ⟨by decide, hj⟩
  | 4, hj => exact Or.inr ⟨by decide, hj⟩
  | 5, hj => exact Or.inr ⟨by decide, hj⟩
  | 6, hj => exact Or.inr ⟨by decide, hj⟩
  | 7, hj => exact Or.inr ⟨by decide, hj⟩
  | 8, hj => exact Or.inr ⟨by decide, hj⟩
  | 9, hj => exact Or.inr ⟨by decide, hj⟩
  | 10, hj => exact Or.inr ⟨by decide, hj⟩
  | 11, hj => exact Or.inr ⟨by decide, hj⟩
  | 12, hj => exact Or.inr ⟨by decide, hj⟩
  | 13, hj => exact Or.inr ⟨by decide, hj⟩
  | 14, hj => exact Or.inr ⟨by decide, hj⟩
  | 15, hj => exact Or.inr ⟨by decide, hj⟩
  | 16, hj => exact Or.inl ⟨rfl, by simpa using hj.symm⟩
  | j + 17, hj => exact Or.inr ⟨by omega, hj⟩
theorem PW.ast16 {a0 a1 a2 a3 a4 a5 a6 a7 a8 a9 a10 a11 a12 a13 a14 a15 a16 : Option Value} {x : Nat} (C : CX G X cc own nL ret d K) (hd : decode cc pc = .ok (.astore 16, 2)) (hn : 16 < nL) (hb : nlg a15 = true) (k : PW G K nL Q h (pc + 2) (a0 :: a1 :: a2 :: a3 :: a4 :: a5 :: a6 :: a7 :: a8 :: a9 :: a10 :: a11 :: a12 :: a13 :: a14 :: a15 :: some (.ref x) :: L) st) : PW G K nL Q h pc (a0 :: a1 :: a2 :: a3 :: a4 :: a5 :: a6 :: a7 :: a8 :: a9 :: a10 :: a11 :: a12 :: a13 :: a14 :: a15 :: a16 :: L) (.ref x :: st) := by
  intro H locs ls hP hS hl
  refine lv_astore C.1 C.2.1 hd hl hn rfl (fun ls' hl' => k H locs ls' hP hS (lh_st1 (v := .ref x) hl' (fun w _ hw => nlg_of hb hw) ?_))
  intro j w hj
  match j, hj with
  | 0, hj => exact Or.inr ⟨by decide, hj⟩
  | 1, hj => exact Or.inr ⟨by decide, hj⟩
  | 2, hj => exact Or.inr ⟨by decide, hj⟩
  | 3, hj => exact Or.inr ⟨by decide, hj⟩
  | 4, hj => exact Or.inr ⟨by decide, hj⟩
  | 5, hj => exact Or.inr ⟨by decide, hj⟩
  | 6, hj => exact Or.inr ⟨by decide, hj⟩
  | 7, hj => exact Or.inr ⟨by decide, hj⟩
  | 8, hj => exact Or.inr ⟨by decide, hj⟩
  | 9, hj => exact Or.inr ⟨by decide, hj⟩
  | 10, hj => exact Or.inr ⟨by decide, hj⟩
  | 11, hj => exact Or.inr ⟨by decide, hj⟩
  | 12, hj => exact Or.inr ⟨by decide, hj⟩
  | 13, hj => exact Or.inr ⟨by decide, hj⟩
  | 14, hj => exact Or.inr ⟨by decide, hj⟩
  | 15, hj => exact Or.inr ⟨by decide, hj⟩
  | 16, hj => exact Or.inl ⟨rfl, by simpa using hj.symm⟩
  | j + 17, hj => exact Or.inr ⟨by omega, hj⟩
theorem PW.inc16 {a0 a1 a2 a3 a4 a5 a6 a7 a8 a9 a10 a11 a12 a13 a14 a15 : Option Value} {x v : Int32} {n : Int} (C : CX G X cc own nL ret d K) (hd : decode cc pc = .ok (.iinc 16 n, 3)) (hn : 16 < nL) (hb : nlg a15 = true) (hv : Int32.ofInt n = v) (k : PW G K nL Q h (pc + 3) (a0 :: a1 :: a2 :: a3 :: a4 :: a5 :: a6 :: a7 :: a8 :: a9 :: a10 :: a11 :: a12 :: a13 :: a14 :: a15 :: some (.int (x + v)) :: L) st) : PW G K nL Q h pc (a0 :: a1 :: a2 :: a3 :: a4 :: a5 :: a6 :: a7 :: a8 :: a9 :: a10 :: a11 :: a12 :: a13 :: a14 :: a15 :: some (.int x) :: L) st := by
  intro H locs ls hP hS hl
  obtain ⟨kk, hk⟩ := List.getElem?_of_mem ((prs_mem G (a0 :: a1 :: a2 :: a3 :: a4 :: a5 :: a6 :: a7 :: a8 :: a9 :: a10 :: a11 :: a12 :: a13 :: a14 :: a15 :: some (.int x) :: L) 0 (16, .int x)).mpr ⟨16, .int x, rfl, rfl⟩)
  refine lv_iinc (v := x + v) C.1 C.2.1 hd hl (k := kk) hk (by rw [hv]) hn rfl (fun ls' hl' => k H locs ls' hP hS (lh_st1 (v := .int (x + v)) hl' (fun w _ hw => nlg_of hb hw) ?_))
  intro j w hj
  match j, hj with
  | 0, hj => exact Or.inr ⟨by decide, hj⟩
  | 1, hj => exact Or.inr ⟨by decide, hj⟩
  | 2, hj => exact Or.inr ⟨by decide, hj⟩
  | 3, hj => exact Or.inr ⟨by decide, hj⟩
  | 4, hj => exact Or.inr ⟨by decide, hj⟩
  | 5, hj => exact Or.inr ⟨by decide, hj⟩
  | 6, hj => exact Or.inr ⟨by decide, hj⟩
  | 7, hj => exact Or.inr ⟨by decide, hj⟩
  | 8, hj => exact Or.inr ⟨by decide, hj⟩
  | 9, hj => exact Or.inr ⟨by decide, hj⟩
  | 10, hj => exact Or.inr ⟨by decide, hj⟩
  | 11, hj => exact Or.inr ⟨by decide, hj⟩
  | 12, hj => exact Or.inr ⟨by decide, hj⟩
  | 13, hj => exact Or.inr ⟨by decide, hj⟩
  | 14, hj => exact Or.inr ⟨by decide, hj⟩
  | 15, hj => exact Or.inr ⟨by decide, hj⟩
  | 16, hj => exact Or.inl ⟨rfl, by simpa using hj.symm⟩
  | j + 17, hj => exact Or.inr ⟨by omega, hj⟩
theorem PW.lst16 {a0 a1 a2 a3 a4 a5 a6 a7 a8 a9 a10 a11 a12 a13 a14 a15 a16 a17 : Option Value} {x : Int64} (C : CX G X cc own nL ret d K) (hd : decode cc pc = .ok (.lstore 16, 2)) (hn : 16 + 1 < nL) (hb : nlg a15 = true) (k : PW G K nL Q h (pc + 2) (a0 :: a1 :: a2 :: a3 :: a4 :: a5 :: a6 :: a7 :: a8 :: a9 :: a10 :: a11 :: a12 :: a13 :: a14 :: a15 :: some (.long x) :: none :: L) st) : PW G K nL Q h pc (a0 :: a1 :: a2 :: a3 :: a4 :: a5 :: a6 :: a7 :: a8 :: a9 :: a10 :: a11 :: a12 :: a13 :: a14 :: a15 :: a16 :: a17 :: L) (.long x :: st) := by
  intro H locs ls hP hS hl
  refine lv_lstore C.1 C.2.1 hd hl hn rfl (fun ls' hl' => k H locs ls' hP hS (lh_st2 (v := .long x) hl' (fun w _ hw => nlg_of hb hw) ?_))
  intro j w hj
  match j, hj with
  | 0, hj => exact Or.inr ⟨by decide, by decide, hj⟩
  | 1, hj => exact Or.inr ⟨by decide, by decide, hj⟩
  | 2, hj => exact Or.inr ⟨by decide, by decide, hj⟩
  | 3, hj => exact Or.inr ⟨by decide, by decide, hj⟩
  | 4, hj => exact Or.inr ⟨by decide, by decide, hj⟩
  | 5, hj => exact Or.inr ⟨by decide, by decide, hj⟩
  | 6, hj => exact Or.inr ⟨by decide, by decide, hj⟩
  | 7, hj => exact Or.inr ⟨by decide, by decide, hj⟩
  | 8, hj => exact Or.inr ⟨by decide, by decide, hj⟩
  | 9, hj => exact Or.inr ⟨by decide, by decide, hj⟩
  | 10, hj => exact Or.inr ⟨by decide, by decide, hj⟩
  | 11, hj => exact Or.inr ⟨by decide, by decide, hj⟩
  | 12, hj => exact Or.inr ⟨by decide, by decide, hj⟩
  | 13, hj => exact Or.inr ⟨by decide, by decide, hj⟩
  | 14, hj => exact Or.inr ⟨by decide, by decide, hj⟩
  | 15, hj => exact Or.inr ⟨by decide, by decide, hj⟩
  | 16, hj => exact Or.inl ⟨rfl, by simpa using hj.symm⟩
  | 17, hj => simp at hj
  | j + 18, hj => exact Or.inr ⟨by omega, by omega, hj⟩
theorem PW.ist17 {a0 a1 a2 a3 a4 a5 a6 a7 a8 a9 a10 a11 a12 a13 a14 a15 a16 a17 : Option Value} {x : Int32} (C : CX G X cc own nL ret d K) (hd : decode cc pc = .ok (.istore 17, 2)) (hn : 17 < nL) (hb : nlg a16 = true) (k : PW G K nL Q h (pc + 2) (a0 :: a1 :: a2 :: a3 :: a4 :: a5 :: a6 :: a7 :: a8 :: a9 :: a10 :: a11 :: a12 :: a13 :: a14 :: a15 :: a16 :: some (.int x) :: L) st) : PW G K nL Q h pc (a0 :: a1 :: a2 :: a3 :: a4 :: a5 :: a6 :: a7 :: a8 :: a9 :: a10 :: a11 :: a12 :: a13 :: a14 :: a15 :: a16 :: a17 :: L) (.int x :: st) := by
  intro H locs ls hP hS hl
  refine lv_istore C.1 C.2.1 hd hl hn rfl (fun ls' hl' => k H locs ls' hP hS (lh_st1 (v := .int x) hl' (fun w _ hw => nlg_of hb hw) ?_))
  intro j w hj
  match j, hj with
  | 0, hj => exact Or.inr ⟨by decide, hj⟩
  | 1, hj => exact Or.inr ⟨by decide, hj⟩
  | 2, hj => exact Or.inr ⟨by decide, hj⟩
  | 3, hj => exact Or.inr ⟨by decide, hj⟩
  | 4, hj => exact Or.inr ⟨by decide, hj⟩
  | 5, hj => exact Or.inr ⟨by decide, hj⟩
  | 6, hj => exact Or.inr ⟨by decide, hj⟩
  | 7, hj => exact Or.inr ⟨by decide, hj⟩
  | 8, hj => exact Or.inr ⟨by decide, hj⟩
  | 9, hj => exact Or.inr ⟨by decide, hj⟩
  | 10, hj => exact Or.inr ⟨by decide, hj⟩
  | 11, hj => exact Or.inr ⟨by decide, hj⟩
  | 12, hj => exact Or.inr ⟨by decide, hj⟩
  | 13, hj => exact Or.inr ⟨by decide, hj⟩
  | 14, hj => exact Or.inr ⟨by decide, hj⟩
  | 15, hj => exact Or.inr ⟨by decide, hj⟩
  | 16, hj => exact Or.inr ⟨by decide, hj⟩
  | 17, hj => exact Or.inl ⟨rfl, by simpa using hj.symm⟩
  | j + 18, hj => exact Or.inr ⟨by omega, hj⟩
theorem PW.ast17 {a0 a1 a2 a3 a4 a5 a6 a7 a8 a9 a10 a11 a12 a13 a14 a15 a16 a17 : Option Value} {x : Nat} (C : CX G X cc own nL ret d K) (hd : decode cc pc = .ok (.astore 17, 2)) (hn : 17 < nL) (hb : nlg a16 = true) (k : PW G K nL Q h (pc + 2) (a0 :: a1 :: a2 :: a3 :: a4 :: a5 :: a6 :: a7 :: a8 :: a9 :: a10 :: a11 :: a12 :: a13 :: a14 :: a15 :: a16 :: some (.ref x) :: L) st) : PW G K nL Q h pc (a0 :: a1 :: a2 :: a3 :: a4 :: a5 :: a6 :: a7 :: a8 :: a9 :: a10 :: a11 :: a12 :: a13 :: a14 :: a15 :: a16 :: a17 :: L) (.ref x :: st) := by
  intro H locs ls hP hS hl
  refine lv_astore C.1 C.2.1 hd hl hn rfl (fun ls' hl' => k H locs ls' hP hS (lh_st1 (v := .ref x) hl' (fun w _ hw => nlg_of hb hw) ?_))
  intro j w hj
  match j, hj with
  | 0, hj => exact Or.inr ⟨by decide, hj⟩
  | 1, hj => exact Or.inr ⟨by decide, hj⟩
  | 2, hj => exact Or.inr ⟨by decide, hj⟩
  | 3, hj => exact Or.inr ⟨by decide, hj⟩
  | 4, hj => exact Or.inr ⟨by decide, hj⟩
  | 5, hj => exact Or.inr ⟨by decide, hj⟩
  | 6, hj => exact Or.inr ⟨by decide, hj⟩
  | 7, hj => exact Or.inr ⟨by decide, hj⟩
  | 8, hj => exact Or.inr ⟨by decide, hj⟩
  | 9, hj => exact Or.inr ⟨by decide, hj⟩
  | 10, hj => exact Or.inr ⟨by decide, hj⟩
  | 11, hj => exact Or.inr ⟨by decide, hj⟩
  | 12, hj => exact Or.inr ⟨by decide, hj⟩
  | 13, hj => exact Or.inr ⟨by decide, hj⟩
  | 14, hj => exact Or.inr ⟨by decide, hj⟩
  | 15, hj => exact Or.inr ⟨by decide, hj⟩
  | 16, hj => exact Or.inr ⟨by decide, hj⟩
  | 17, hj => exact Or.inl ⟨rfl, by simpa using hj.symm⟩
  | j + 18, hj => exact Or.inr ⟨by omega, hj⟩
theorem PW.inc17 {a0 a1 a2 a3 a4 a5 a6 a7 a8 a9 a10 a11 a12 a13 a14 a15 a16 : Option Value} {x v : Int32} {n : Int} (C : CX G X cc own nL ret d K) (hd : decode cc pc = .ok (.iinc 17 n, 3)) (hn : 17 < nL) (hb : nlg a16 = true) (hv : Int32.ofInt n = v) (k : PW G K nL Q h (pc + 3) (a0 :: a1 :: a2 :: a3 :: a4 :: a5 :: a6 :: a7 :: a8 :: a9 :: a10 :: a11 :: a12 :: a13 :: a14 :: a15 :: a16 :: some (.int (x + v)) :: L) st) : PW G K nL Q h pc (a0 :: a1 :: a2 :: a3 :: a4 :: a5 :: a6 :: a7 :: a8 :: a9 :: a10 :: a11 :: a12 :: a13 :: a14 :: a15 :: a16 :: some (.int x) :: L) st := by
  intro H locs ls hP hS hl
  obtain ⟨kk, hk⟩ := List.getElem?_of_mem ((prs_mem G (a0 :: a1 :: a2 :: a3 :: a4 :: a5 :: a6 :: a7 :: a8 :: a9 :: a10 :: a11 :: a12 :: a13 :: a14 :: a15 :: a16 :: some (.int x) :: L) 0 (17, .int x)).mpr ⟨17, .int x, rfl, rfl⟩)
  refine lv_iinc (v := x + v) C.1 C.2.1 hd hl (k := kk) hk (by rw [hv]) hn rfl (fun ls' hl' => k H locs ls' hP hS (lh_st1 (v := .int (x + v)) hl' (fun w _ hw => nlg_of hb hw) ?_))
  intro j w hj
  match j, hj with
  | 0, hj => exact Or.inr ⟨by decide, hj⟩
  | 1, hj => exact Or.inr ⟨by decide, hj⟩
  | 2, hj => exact Or.inr ⟨by decide, hj⟩
  | 3, hj => exact Or.inr ⟨by decide, hj⟩
  | 4, hj => exact Or.inr ⟨by decide, hj⟩
  | 5, hj => exact Or.inr ⟨by decide, hj⟩
  | 6, hj => exact Or.inr ⟨by decide, hj⟩
  | 7, hj => exact Or.inr ⟨by decide, hj⟩
  | 8, hj => exact Or.inr ⟨by decide, hj⟩
  | 9, hj => exact Or.inr ⟨by decide, hj⟩
  | 10, hj => exact Or.inr ⟨by decide, hj⟩
  | 11, hj => exact Or.inr ⟨by decide, hj⟩
  | 12, hj => exact Or.inr ⟨by decide, hj⟩
  | 13, hj => exact Or.inr ⟨by decide, hj⟩
  | 14, hj => exact Or.inr ⟨by decide, hj⟩
  | 15, hj => exact Or.inr ⟨by decide, hj⟩
  | 16, hj => exact Or.inr ⟨by decide, hj⟩
  | 17, hj => exact Or.inl ⟨rfl, by simpa using hj.symm⟩
  | j + 18, hj => exact Or.inr ⟨by omega, hj⟩
theorem PW.lst17 {a0 a1 a2 a3 a4 a5 a6 a7 a8 a9 a10 a11 a12 a13 a14 a15 a16 a17 a18 : Option Value} {x : Int64} (C : CX G X cc own nL ret d K) (hd : decode cc pc = .ok (.lstore 17, 2)) (hn : 17 + 1 < nL) (hb : nlg a16 = true) (k : PW G K nL Q h (pc + 2) (a0 :: a1 :: a2 :: a3 :: a4 :: a5 :: a6 :: a7 :: a8 :: a9 :: a10 :: a11 :: a12 :: a13 :: a14 :: a15 :: a16 :: some (.long x) :: none :: L) st) : PW G K nL Q h pc (a0 :: a1 :: a2 :: a3 :: a4 :: a5 :: a6 :: a7 :: a8 :: a9 :: a10 :: a11 :: a12 :: a13 :: a14 :: a15 :: a16 :: a17 :: a18 :: L) (.long x :: st) := by
  intro H locs ls hP hS hl
  refine lv_lstore C.1 C.2.1 hd hl hn rfl (fun ls' hl' => k H locs ls' hP hS (lh_st2 (v := .long x) hl' (fun w _ hw => nlg_of hb hw) ?_))
  intro j w hj
  match j, hj with
  | 0, hj => exact Or.inr ⟨by decide, by decide, hj⟩
  | 1, hj => exact Or.inr ⟨by decide, by decide, hj⟩
  | 2, hj => exact Or.inr ⟨by decide, by decide, hj⟩
  | 3, hj => exact Or.inr ⟨by decide, by decide, hj⟩
  | 4, hj => exact Or.inr ⟨by decide, by decide, hj⟩
  | 5, hj => exact Or.inr ⟨by decide, by decide, hj⟩
  | 6, hj => exact Or.inr ⟨by decide, by decide, hj⟩
  | 7, hj => exact Or.inr ⟨by decide, by decide, hj⟩
  | 8, hj => exact Or.inr ⟨by decide, by decide, hj⟩
  | 9, hj => exact Or.inr ⟨by decide, by decide, hj⟩
  | 10, hj => exact Or.inr ⟨by decide, by decide, hj⟩
  | 11, hj => exact Or.inr ⟨by decide, by decide, hj⟩
  | 12, hj => exact Or.inr ⟨by decide, by decide, hj⟩
  | 13, hj => exact Or.inr ⟨by decide, by decide, hj⟩
  | 14, hj => exact Or.inr ⟨by decide, by decide, hj⟩
  | 15, hj => exact Or.inr ⟨by decide, by decide, hj⟩
  | 16, hj => exact Or.inr ⟨by decide, by decide, hj⟩
  | 17, hj => exact Or.inl ⟨rfl, by simpa using hj.symm⟩
  | 18, hj => simp at hj
  | j + 19, hj => exact Or.inr ⟨by omega, by omega, hj⟩
theorem PW.ist18 {a0 a1 a2 a3 a4 a5 a6 a7 a8 a9 a10 a11 a12 a13 a14 a15 a16 a17 a18 : Option Value} {x : Int32} (C : CX G X cc own nL ret d K) (hd : decode cc pc = .ok (.istore 18, 2)) (hn : 18 < nL) (hb : nlg a17 = true) (k : PW G K nL Q h (pc + 2) (a0 :: a1 :: a2 :: a3 :: a4 :: a5 :: a6 :: a7 :: a8 :: a9 :: a10 :: a11 :: a12 :: a13 :: a14 :: a15 :: a16 :: a17 :: some (.int x) :: L) st) : PW G K nL Q h pc (a0 :: a1 :: a2 :: a3 :: a4 :: a5 :: a6 :: a7 :: a8 :: a9 :: a10 :: a11 :: a12 :: a13 :: a14 :: a15 :: a16 :: a17 :: a18 :: L) (.int x :: st) := by
  intro H locs ls hP hS hl
  refine lv_istore C.1 C.2.1 hd hl hn rfl (fun ls' hl' => k H locs ls' hP hS (lh_st1 (v := .int x) hl' (fun w _ hw => nlg_of hb hw) ?_))
  intro j w hj
  match j, hj with
  | 0, hj => exact Or.inr ⟨by decide, hj⟩
  | 1, hj => exact Or.inr ⟨by decide, hj⟩
  | 2, hj => exact Or.inr ⟨by decide, hj⟩
  | 3, hj => exact Or.inr ⟨by decide, hj⟩
  | 4, hj => exact Or.inr ⟨by decide, hj⟩
  | 5, hj => exact Or.inr ⟨by decide, hj⟩
  | 6, hj => exact Or.inr ⟨by decide, hj⟩
  | 7, hj => exact Or.inr ⟨by decide, hj⟩
  | 8, hj => exact Or.inr ⟨by decide, hj⟩
  | 9, hj => exact Or.inr ⟨by decide, hj⟩
  | 10, hj => exact Or.inr ⟨by decide, hj⟩
  | 11, hj => exact Or.inr ⟨by decide, hj⟩
  | 12, hj => exact Or.inr ⟨by decide, hj⟩
  | 13, hj => exact Or.inr ⟨by decide, hj⟩
  | 14, hj => exact Or.inr ⟨by decide, hj⟩
  | 15, hj => exact Or.inr ⟨by decide, hj⟩
  | 16, hj => exact Or.inr ⟨by decide, hj⟩
  | 17, hj => exact Or.inr ⟨by decide, hj⟩
  | 18, hj => exact Or.inl ⟨rfl, by simpa using hj.symm⟩
  | j + 19, hj => exact Or.inr ⟨by omega, hj⟩
theorem PW.ast18 {a0 a1 a2 a3 a4 a5 a6 a7 a8 a9 a10 a11 a12 a13 a14 a15 a16 a17 a18 : Option Value} {x : Nat} (C : CX G X cc own nL ret d K) (hd : decode cc pc = .ok (.astore 18, 2)) (hn : 18 < nL) (hb : nlg a17 = true) (k : PW G K nL Q h (pc + 2) (a0 :: a1 :: a2 :: a3 :: a4 :: a5 :: a6 :: a7 :: a8 :: a9 :: a10 :: a11 :: a12 :: a13 :: a14 :: a15 :: a16 :: a17 :: some (.ref x) :: L) st) : PW G K nL Q h pc (a0 :: a1 :: a2 :: a3 :: a4 :: a5 :: a6 :: a7 :: a8 :: a9 :: a10 :: a11 :: a12 :: a13 :: a14 :: a15 :: a16 :: a17 :: a18 :: L) (.ref x :: st) := by
  intro H locs ls hP hS hl
  refine lv_astore C.1 C.2.1 hd hl hn rfl (fun ls' hl' => k H locs ls' hP hS (lh_st1 (v := .ref x) hl' (fun w _ hw => nlg_of hb hw) ?_))
  intro j w hj
  match j, hj with
  | 0, hj => exact Or.inr ⟨by decide, hj⟩
  | 1, hj => exact Or.inr ⟨by decide, hj⟩
  | 2, hj => exact Or.inr ⟨by decide, hj⟩
  | 3, hj => exact Or.inr ⟨by decide, hj⟩
  | 4, hj => exact Or.inr ⟨by decide, hj⟩
  | 5, hj => exact Or.inr ⟨by decide, hj⟩
  | 6, hj => exact Or.inr ⟨by decide, hj⟩
  | 7, hj => exact Or.inr ⟨by decide, hj⟩
  | 8, hj => exact Or.inr ⟨by decide, hj⟩
  | 9, hj => exact Or.inr ⟨by decide, hj⟩
  | 10, hj => exact Or.inr ⟨by decide, hj⟩
  | 11, hj => exact Or.inr ⟨by decide, hj⟩
  | 12, hj => exact Or.inr ⟨by decide, hj⟩
  | 13, hj => exact Or.inr ⟨by decide, hj⟩
  | 14, hj => exact Or.inr ⟨by decide, hj⟩
  | 15, hj => exact Or.inr ⟨by decide, hj⟩
  | 16, hj => exact Or.inr ⟨by decide, hj⟩
  | 17, hj => exact Or.inr ⟨by decide, hj⟩
  | 18, hj => exact Or.inl ⟨rfl, by simpa using hj.symm⟩
  | j + 19, hj => exact Or.inr ⟨by omega, hj⟩
theorem PW.inc18 {a0 a1 a2 a3 a4 a5 a6 a7 a8 a9 a10 a11 a12 a13 a14 a15 a16 a17 : Option Value} {x v : Int32} {n : Int} (C : CX G X cc own nL ret d K) (hd : decode cc pc = .ok (.iinc 18 n, 3)) (hn : 18 < nL) (hb : nlg a17 = true) (hv : Int32.ofInt n = v) (k : PW G K nL Q h (pc + 3) (a0 :: a1 :: a2 :: a3 :: a4 :: a5 :: a6 :: a7 :: a8 :: a9 :: a10 :: a11 :: a12 :: a13 :: a14 :: a15 :: a16 :: a17 :: some (.int (x + v)) :: L) st) : PW G K nL Q h pc (a0 :: a1 :: a2 :: a3 :: a4 :: a5 :: a6 :: a7 :: a8 :: a9 :: a10 :: a11 :: a12 :: a13 :: a14 :: a15 :: a16 :: a17 :: some (.int x) :: L) st := by
  intro H locs ls hP hS hl
  obtain ⟨kk, hk⟩ := List.getElem?_of_mem ((prs_mem G (a0 :: a1 :: a2 :: a3 :: a4 :: a5 :: a6 :: a7 :: a8 :: a9 :: a10 :: a11 :: a12 :: a13 :: a14 :: a15 :: a16 :: a17 :: some (.int x) :: L) 0 (18, .int x)).mpr ⟨18, .int x, rfl, rfl⟩)
  refine lv_iinc (v := x + v) C.1 C.2.1 hd hl (k := kk) hk (by rw [hv]) hn rfl (fun ls' hl' => k H locs ls' hP hS (lh_st1 (v := .int (x + v)) hl' (fun w _ hw => nlg_of hb hw) ?_))
  intro j w hj
  match j, hj with
  | 0, hj => exact Or.inr ⟨by decide, hj⟩
  | 1, hj => exact Or.inr ⟨by decide, hj⟩
  | 2, hj => exact Or.inr ⟨by decide, hj⟩
  | 3, hj => exact Or.inr ⟨by decide, hj⟩
  | 4, hj => exact Or.inr ⟨by decide, hj⟩
  | 5, hj => exact Or.inr ⟨by decide, hj⟩
  | 6, hj => exact Or.inr ⟨by decide, hj⟩
  | 7, hj => exact Or.inr ⟨by decide, hj⟩
  | 8, hj => exact Or.inr ⟨by decide, hj⟩
  | 9, hj => exact Or.inr ⟨by decide, hj⟩
  | 10, hj => exact Or.inr ⟨by decide, hj⟩
  | 11, hj => exact Or.inr ⟨by decide, hj⟩
  | 12, hj => exact Or.inr ⟨by decide, hj⟩
  | 13, hj => exact Or.inr ⟨by decide, hj⟩
  | 14, hj => exact Or.inr ⟨by decide, hj⟩
  | 15, hj => exact Or.inr ⟨by decide, hj⟩
  | 16, hj => exact Or.inr ⟨by decide, hj⟩
  | 17, hj => exact Or.inr ⟨by decide, hj⟩
  | 18, hj => exact Or.inl ⟨rfl, by simpa using hj.symm⟩
  | j + 19, hj => exact Or.inr ⟨by omega, hj⟩
theorem PW.lst18 {a0 a1 a2 a3 a4 a5 a6 a7 a8 a9 a10 a11 a12 a13 a14 a15 a16 a17 a18 a19 : Option Value} {x : Int64} (C : CX G X cc own nL ret d K) (hd : decode cc pc = .ok (.lstore 18, 2)) (hn : 18 + 1 < nL) (hb : nlg a17 = true) (k : PW G K nL Q h (pc + 2) (a0 :: a1 :: a2 :: a3 :: a4 :: a5 :: a6 :: a7 :: a8 :: a9 :: a10 :: a11 :: a12 :: a13 :: a14 :: a15 :: a16 :: a17 :: some (.long x) :: none :: L) st) : PW G K nL Q h pc (a0 :: a1 :: a2 :: a3 :: a4 :: a5 :: a6 :: a7 :: a8 :: a9 :: a10 :: a11 :: a12 :: a13 :: a14 :: a15 :: a16 :: a17 :: a18 :: a19 :: L) (.long x :: st) := by
  intro H locs ls hP hS hl
  refine lv_lstore C.1 C.2.1 hd hl hn rfl (fun ls' hl' => k H locs ls' hP hS (lh_st2 (v := .long x) hl' (fun w _ hw => nlg_of hb hw) ?_))
  intro j w hj
  match j, hj with
  | 0, hj => exact Or.inr ⟨by decide, by decide, hj⟩
  | 1, hj => exact Or.inr ⟨by decide, by decide, hj⟩
  | 2, hj => exact Or.inr ⟨by decide, by decide, hj⟩
  | 3, hj => exact Or.inr ⟨by decide, by decide, hj⟩
  | 4, hj => exact Or.inr ⟨by decide, by decide, hj⟩
  | 5, hj => exact Or.inr ⟨by decide, by decide, hj⟩
  | 6, hj => exact Or.inr ⟨by decide, by decide, hj⟩
  | 7, hj => exact Or.inr ⟨by decide, by decide, hj⟩
  | 8, hj => exact Or.inr ⟨by decide, by decide, hj⟩
  | 9, hj => exact Or.inr ⟨by decide, by decide, hj⟩
  | 10, hj => exact Or.inr ⟨by decide, by decide, hj⟩
  | 11, hj => exact Or.inr ⟨by decide, by decide, hj⟩
  | 12, hj => exact Or.inr ⟨by decide, by decide, hj⟩
  | 13, hj => exact Or.inr ⟨by decide, by decide, hj⟩
  | 14, hj => exact Or.inr ⟨by decide, by decide, hj⟩
  | 15, hj => exact Or.inr ⟨by decide, by decide, hj⟩
  | 16, hj => exact Or.inr ⟨by decide, by decide, hj⟩
  | 17, hj => exact Or.inr ⟨by decide, by decide, hj⟩
  | 18, hj => exact Or.inl ⟨rfl, by simpa using hj.symm⟩
  | 19, hj => simp at hj
  | j + 20, hj => exact Or.inr ⟨by omega, by omega, hj⟩
theorem PW.ist19 {a0 a1 a2 a3 a4 a5 a6 a7 a8 a9 a10 a11 a12 a13 a14 a15 a16 a17 a18 a19 : Option Value} {x : Int32} (C : CX G X cc own nL ret d K) (hd : decode cc pc = .ok (.istore 19, 2)) (hn : 19 < nL) (hb : nlg a18 = true) (k : PW G K nL Q h (pc + 2) (a0 :: a1 :: a2 :: a3 :: a4 :: a5 :: a6 :: a7 :: a8 :: a9 :: a10 :: a11 :: a12 :: a13 :: a14 :: a15 :: a16 :: a17 :: a18 :: some (.int x) :: L) st) : PW G K nL Q h pc (a0 :: a1 :: a2 :: a3 :: a4 :: a5 :: a6 :: a7 :: a8 :: a9 :: a10 :: a11 :: a12 :: a13 :: a14 :: a15 :: a16 :: a17 :: a18 :: a19 :: L) (.int x :: st) := by
  intro H locs ls hP hS hl
  refine lv_istore C.1 C.2.1 hd hl hn rfl (fun ls' hl' => k H locs ls' hP hS (lh_st1 (v := .int x) hl' (fun w _ hw => nlg_of hb hw) ?_))
  intro j w hj
  match j, hj with
  | 0, hj => exact Or.inr ⟨by decide, hj⟩
  | 1, hj => exact Or.inr ⟨by decide, hj⟩
  | 2, hj => exact Or.inr ⟨by decide, hj⟩
  | 3, hj => exact Or.inr ⟨by decide, hj⟩
  | 4, hj => exact Or.inr ⟨by decide, hj⟩
  | 5, hj => exact Or.inr ⟨by decide, hj⟩
  | 6, hj => exact Or.inr ⟨by decide, hj⟩
  | 7, hj => exact Or.inr ⟨by decide, hj⟩
  | 8, hj => exact Or.inr ⟨by decide, hj⟩
  | 9, hj => exact Or.inr ⟨by decide, hj⟩
  | 10, hj => exact Or.inr ⟨by decide, hj⟩
  | 11, hj => exact Or.inr ⟨by decide, hj⟩
  | 12, hj => exact Or.inr ⟨by decide, hj⟩
  | 13, hj => exact Or.inr ⟨by decide, hj⟩
  | 14, hj => exact Or.inr ⟨by decide, hj⟩
  | 15, hj => exact Or.inr ⟨by decide, hj⟩
  | 16, hj => exact Or.inr ⟨by decide, hj⟩
  | 17, hj => exact Or.inr ⟨by decide, hj⟩
  | 18, hj => exact Or.inr ⟨by decide, hj⟩
  | 19, hj => exact Or.inl ⟨rfl, by simpa using hj.symm⟩
  | j + 20, hj => exact Or.inr ⟨by omega, hj⟩
theorem PW.ast19 {a0 a1 a2 a3 a4 a5 a6 a7 a8 a9 a10 a11 a12 a13 a14 a15 a16 a17 a18 a19 : Option Value} {x : Nat} (C : CX G X cc own nL ret d K) (hd : decode cc pc = .ok (.astore 19, 2)) (hn : 19 < nL) (hb : nlg a18 = true) (k : PW G K nL Q h (pc + 2) (a0 :: a1 :: a2 :: a3 :: a4 :: a5 :: a6 :: a7 :: a8 :: a9 :: a10 :: a11 :: a12 :: a13 :: a14 :: a15 :: a16 :: a17 :: a18 :: some (.ref x) :: L) st) : PW G K nL Q h pc (a0 :: a1 :: a2 :: a3 :: a4 :: a5 :: a6 :: a7 :: a8 :: a9 :: a10 :: a11 :: a12 :: a13 :: a14 :: a15 :: a16 :: a17 :: a18 :: a19 :: L) (.ref x :: st) := by
  intro H locs ls hP hS hl
  refine lv_astore C.1 C.2.1 hd hl hn rfl (fun ls' hl' => k H locs ls' hP hS (lh_st1 (v := .ref x) hl' (fun w _ hw => nlg_of hb hw) ?_))
  intro j w hj
  match j, hj with
  | 0, hj => exact Or.inr ⟨by decide, hj⟩
  | 1, hj => exact Or.inr ⟨by decide, hj⟩
  | 2, hj => exact Or.inr ⟨by decide, hj⟩
  | 3, hj => exact Or.inr ⟨by decide, hj⟩
  | 4, hj => exact Or.inr ⟨by decide, hj⟩
  | 5, hj => exact Or.inr ⟨by decide, hj⟩
  | 6, hj => exact Or.inr ⟨by decide, hj⟩
  | 7, hj => exact Or.inr ⟨by decide, hj⟩
  | 8, hj => exact Or.inr ⟨by decide, hj⟩
  | 9, hj => exact Or.inr ⟨by decide, hj⟩
  | 10, hj => exact Or.inr ⟨by decide, hj⟩
  | 11, hj => exact Or.inr ⟨by decide, hj⟩
  | 12, hj => exact Or.inr ⟨by decide, hj⟩
  | 13, hj => exact Or.inr ⟨by decide, hj⟩
  | 14, hj => exact Or.inr ⟨by decide, hj⟩
  | 15, hj => exact Or.inr ⟨by decide, hj⟩
  | 16, hj => exact Or.inr ⟨by decide, hj⟩
  | 17, hj => exact Or.inr ⟨by decide, hj⟩
  | 18, hj => exact Or.inr ⟨by decide, hj⟩
  | 19, hj => exact Or.inl ⟨rfl, by simpa using hj.symm⟩
  | j + 20, hj => exact Or.inr ⟨by omega, hj⟩
theorem PW.inc19 {a0 a1 a2 a3 a4 a5 a6 a7 a8 a9 a10 a11 a12 a13 a14 a15 a16 a17 a18 : Option Value} {x v : Int32} {n : Int} (C : CX G X cc own nL ret d K) (hd : decode cc pc = .ok (.iinc 19 n, 3)) (hn : 19 < nL) (hb : nlg a18 = true) (hv : Int32.ofInt n = v) (k : PW G K nL Q h (pc + 3) (a0 :: a1 :: a2 :: a3 :: a4 :: a5 :: a6 :: a7 :: a8 :: a9 :: a10 :: a11 :: a12 :: a13 :: a14 :: a15 :: a16 :: a17 :: a18 :: some (.int (x + v)) :: L) st) : PW G K nL Q h pc (a0 :: a1 :: a2 :: a3 :: a4 :: a5 :: a6 :: a7 :: a8 :: a9 :: a10 :: a11 :: a12 :: a13 :: a14 :: a15 :: a16 :: a17 :: a18 :: some (.int x) :: L) st := by
  intro H locs ls hP hS hl
  obtain ⟨kk, hk⟩ := List.getElem?_of_mem ((prs_mem G (a0 :: a1 :: a2 :: a3 :: a4 :: a5 :: a6 :: a7 :: a8 :: a9 :: a10 :: a11 :: a12 :: a13 :: a14 :: a15 :: a16 :: a17 :: a18 :: some (.int x) :: L) 0 (19, .int x)).mpr ⟨19, .int x, rfl, rfl⟩)
  refine lv_iinc (v := x + v) C.1 C.2.1 hd hl (k := kk) hk (by rw [hv]) hn rfl (fun ls' hl' => k H locs ls' hP hS (lh_st1 (v := .int (x + v)) hl' (fun w _ hw => nlg_of hb hw) ?_))
  intro j w hj
  match j, hj with
  | 0, hj => exact Or.inr ⟨by decide, hj⟩
  | 1, hj => exact Or.inr ⟨by decide, hj⟩
  | 2, hj => exact Or.inr ⟨by decide, hj⟩
  | 3, hj => exact Or.inr ⟨by decide, hj⟩
  | 4, hj => exact Or.inr ⟨by decide, hj⟩
  | 5, hj => exact Or.inr ⟨by decide, hj⟩
  | 6, hj => exact Or.inr ⟨by decide, hj⟩
  | 7, hj => exact Or.inr ⟨by decide, hj⟩
  | 8, hj => exact Or.inr ⟨by decide, hj⟩
  | 9, hj => exact Or.inr ⟨by decide, hj⟩
  | 10, hj => exact Or.inr ⟨by decide, hj⟩
  | 11, hj => exact Or.inr ⟨by decide, hj⟩
  | 12, hj => exact Or.inr ⟨by decide, hj⟩
  | 13, hj => exact Or.inr ⟨by decide, hj⟩
  | 14, hj => exact Or.inr ⟨by decide, hj⟩
  | 15, hj => exact Or.inr ⟨by decide, hj⟩
  | 16, hj => exact Or.inr ⟨by decide, hj⟩
  | 17, hj => exact Or.inr ⟨by decide, hj⟩
  | 18, hj => exact Or.inr ⟨by decide, hj⟩
  | 19, hj => exact Or.inl ⟨rfl, by simpa using hj.symm⟩
  | j + 20, hj => exact Or.inr ⟨by omega, hj⟩
theorem PW.lst19 {a0 a1 a2 a3 a4 a5 a6 a7 a8 a9 a10 a11 a12 a13 a14 a15 a16 a17 a18 a19 a20 : Option Value} {x : Int64} (C : CX G X cc own nL ret d K) (hd : decode cc pc = .ok (.lstore 19, 2)) (hn : 19 + 1 < nL) (hb : nlg a18 = true) (k : PW G K nL Q h (pc + 2) (a0 :: a1 :: a2 :: a3 :: a4 :: a5 :: a6 :: a7 :: a8 :: a9 :: a10 :: a11 :: a12 :: a13 :: a14 :: a15 :: a16 :: a17 :: a18 :: some (.long x) :: none :: L) st) : PW G K nL Q h pc (a0 :: a1 :: a2 :: a3 :: a4 :: a5 :: a6 :: a7 :: a8 :: a9 :: a10 :: a11 :: a12 :: a13 :: a14 :: a15 :: a16 :: a17 :: a18 :: a19 :: a20 :: L) (.long x :: st) := by
  intro H locs ls hP hS hl
  refine lv_lstore C.1 C.2.1 hd hl hn rfl (fun ls' hl' => k H locs ls' hP hS (lh_st2 (v := .long x) hl' (fun w _ hw => nlg_of hb hw) ?_))
  intro j w hj
  match j, hj with
  | 0, hj => exact Or.inr ⟨by decide, by decide, hj⟩
  | 1, hj => exact Or.inr ⟨by decide, by decide, hj⟩
  | 2, hj => exact Or.inr ⟨by decide, by decide, hj⟩
  | 3, hj => exact Or.inr ⟨by decide, by decide, hj⟩
  | 4, hj => exact Or.inr ⟨by decide, by decide, hj⟩
  | 5, hj => exact Or.inr ⟨by decide, by decide, hj⟩
  | 6, hj => exact Or.inr ⟨by decide, by decide, hj⟩
  | 7, hj => exact Or.inr ⟨by decide, by decide, hj⟩
  | 8, hj => exact Or.inr ⟨by decide, by decide, hj⟩
  | 9, hj => exact Or.inr ⟨by decide, by decide, hj⟩
  | 10, hj => exact Or.inr ⟨by decide, by decide, hj⟩
  | 11, hj => exact Or.inr ⟨by decide, by decide, hj⟩
  | 12, hj => exact Or.inr ⟨by decide, by decide, hj⟩
  | 13, hj => exact Or.inr ⟨by decide, by decide, hj⟩
  | 14, hj => exact Or.inr ⟨by decide, by decide, hj⟩
  | 15, hj => exact Or.inr ⟨by decide, by decide, hj⟩
  | 16, hj => exact Or.inr ⟨by decide, by decide, hj⟩
  | 17, hj => exact Or.inr ⟨by decide, by decide, hj⟩
  | 18, hj => exact Or.inr ⟨by decide, by decide, hj⟩
  | 19, hj => exact Or.inl ⟨rfl, by simpa using hj.symm⟩
  | 20, hj => simp at hj
  | j + 21, hj => exact Or.inr ⟨by omega, by omega, hj⟩
theorem PW.ist20 {a0 a1 a2 a3 a4 a5 a6 a7 a8 a9 a10 a11 a12 a13 a14 a15 a16 a17 a18 a19 a20 : Option Value} {x : Int32} (C : CX G X cc own nL ret d K) (hd : decode cc pc = .ok (.istore 20, 2)) (hn : 20 < nL) (hb : nlg a19 = true) (k : PW G K nL Q h (pc + 2) (a0 :: a1 :: a2 :: a3 :: a4 :: a5 :: a6 :: a7 :: a8 :: a9 :: a10 :: a11 :: a12 :: a13 :: a14 :: a15 :: a16 :: a17 :: a18 :: a19 :: some (.int x) :: L) st) : PW G K nL Q h pc (a0 :: a1 :: a2 :: a3 :: a4 :: a5 :: a6 :: a7 :: a8 :: a9 :: a10 :: a11 :: a12 :: a13 :: a14 :: a15 :: a16 :: a17 :: a18 :: a19 :: a20 :: L) (.int x :: st) := by
  intro H locs ls hP hS hl
  refine lv_istore C.1 C.2.1 hd hl hn rfl (fun ls' hl' => k H locs ls' hP hS (lh_st1 (v := .int x) hl' (fun w _ hw => nlg_of hb hw) ?_))
  intro j w hj
  match j, hj with
  | 0, hj => exact Or.inr ⟨by decide, hj⟩
  | 1, hj => exact Or.inr ⟨by decide, hj⟩
  | 2, hj => exact Or.inr ⟨by decide, hj⟩
  | 3, hj => exact Or.inr ⟨by decide, hj⟩
  | 4, hj => exact Or.inr ⟨by decide, hj⟩
  | 5, hj => exact Or.inr ⟨by decide, hj⟩
  | 6, hj => exact Or.inr ⟨by decide, hj⟩
  | 7, hj => exact Or.inr ⟨by decide, hj⟩
  | 8, hj => exact Or.inr ⟨by decide, hj⟩
  | 9, hj => exact Or.inr ⟨by decide, hj⟩
  | 10, hj => exact Or.inr ⟨by decide, hj⟩
  | 11, hj => exact Or.inr ⟨by decide, hj⟩
  | 12, hj => exact Or.inr ⟨by decide, hj⟩
  | 13, hj => exact Or.inr ⟨by decide, hj⟩
  | 14, hj => exact Or.inr ⟨by decide, hj⟩
  | 15, hj => exact Or.inr ⟨by decide, hj⟩
  | 16, hj => exact Or.inr ⟨by decide, hj⟩
  | 17, hj => exact Or.inr ⟨by decide, hj⟩
  | 18, hj => exact Or.inr ⟨by decide, hj⟩
  | 19, hj => exact Or.inr ⟨by decide, hj⟩
  | 20, hj => exact Or.inl ⟨rfl, by simpa using hj.symm⟩
  | j + 21, hj => exact Or.inr ⟨by omega, hj⟩
theorem PW.ast20 {a0 a1 a2 a3 a4 a5 a6 a7 a8 a9 a10 a11 a12 a13 a14 a15 a16 a17 a18 a19 a20 : Option Value} {x : Nat} (C : CX G X cc own nL ret d K) (hd : decode cc pc = .ok (.astore 20, 2)) (hn : 20 < nL) (hb : nlg a19 = true) (k : PW G K nL Q h (pc + 2) (a0 :: a1 :: a2 :: a3 :: a4 :: a5 :: a6 :: a7 :: a8 :: a9 :: a10 :: a11 :: a12 :: a13 :: a14 :: a15 :: a16 :: a17 :: a18 :: a19 :: some (.ref x) :: L) st) : PW G K nL Q h pc (a0 :: a1 :: a2 :: a3 :: a4 :: a5 :: a6 :: a7 :: a8 :: a9 :: a10 :: a11 :: a12 :: a13 :: a14 :: a15 :: a16 :: a17 :: a18 :: a19 :: a20 :: L) (.ref x :: st) := by
  intro H locs ls hP hS hl
  refine lv_astore C.1 C.2.1 hd hl hn rfl (fun ls' hl' => k H locs ls' hP hS (lh_st1 (v := .ref x) hl' (fun w _ hw => nlg_of hb hw) ?_))
  intro j w hj
  match j, hj with
  | 0, hj => exact Or.inr ⟨by decide, hj⟩
  | 1, hj => exact Or.inr ⟨by decide, hj⟩
  | 2, hj => exact Or.inr ⟨by decide, hj⟩
  | 3, hj => exact Or.inr ⟨by decide, hj⟩
  | 4, hj => exact Or.inr ⟨by decide, hj⟩
  | 5, hj => exact Or.inr ⟨by decide, hj⟩
  | 6, hj => exact Or.inr ⟨by decide, hj⟩
  | 7, hj => exact Or.inr ⟨by decide, hj⟩
  | 8, hj => exact Or.inr ⟨by decide, hj⟩
  | 9, hj => exact Or.inr ⟨by decide, hj⟩
  | 10, hj => exact Or.inr ⟨by decide, hj⟩
  | 11, hj => exact Or.inr ⟨by decide, hj⟩
  | 12, hj => exact Or.inr ⟨by decide, hj⟩
  | 13, hj => exact Or.inr ⟨by decide, hj⟩
  | 14, hj => exact Or.inr ⟨by decide, hj⟩
  | 15, hj => exact Or.inr ⟨by decide, hj⟩
  | 16, hj => exact Or.inr ⟨by decide, hj⟩
  | 17, hj => exact Or.inr ⟨by decide, hj⟩
  | 18, hj => exact Or.inr ⟨by decide, hj⟩
  | 19, hj => exact Or.inr ⟨by decide, hj⟩
  | 20, hj => exact Or.inl ⟨rfl, by simpa using hj.symm⟩
  | j + 21, hj => exact Or.inr ⟨by omega, hj⟩
theorem PW.inc20 {a0 a1 a2 a3 a4 a5 a6 a7 a8 a9 a10 a11 a12 a13 a14 a15 a16 a17 a18 a19 : Option Value} {x v : Int32} {n : Int} (C : CX G X cc own nL ret d K) (hd : decode cc pc = .ok (.iinc 20 n, 3)) (hn : 20 < nL) (hb : nlg a19 = true) (hv : Int32.ofInt n = v) (k : PW G K nL Q h (pc + 3) (a0 :: a1 :: a2 :: a3 :: a4 :: a5 :: a6 :: a7 :: a8 :: a9 :: a10 :: a11 :: a12 :: a13 :: a14 :: a15 :: a16 :: a17 :: a18 :: a19 :: some (.int (x + v)) :: L) st) : PW G K nL Q h pc (a0 :: a1 :: a2 :: a3 :: a4 :: a5 :: a6 :: a7 :: a8 :: a9 :: a10 :: a11 :: a12 :: a13 :: a14 :: a15 :: a16 :: a17 :: a18 :: a19 :: some (.int x) :: L) st := by
  intro H locs ls hP hS hl
  obtain ⟨kk, hk⟩ := List.getElem?_of_mem ((prs_mem G (a0 :: a1 :: a2 :: a3 :: a4 :: a5 :: a6 :: a7 :: a8 :: a9 :: a10 :: a11 :: a12 :: a13 :: a14 :: a15 :: a16 :: a17 :: a18 :: a19 :: some (.int x) :: L) 0 (20, .int x)).mpr ⟨20, .int x, rfl, rfl⟩)
  refine lv_iinc (v := x + v) C.1 C.2.1 hd hl (k := kk) hk (by rw [hv]) hn rfl (fun ls' hl' => k H locs ls' hP hS (lh_st1 (v := .int (x + v)) hl' (fun w _ hw => nlg_of hb hw) ?_))
  intro j w hj
  match j, hj with
  | 0, hj => exact Or.inr ⟨by decide, hj⟩
  | 1, hj => exact Or.inr ⟨by decide, hj⟩
  | 2, hj => exact Or.inr ⟨by decide, hj⟩
  | 3, hj => exact Or.inr ⟨by decide, hj⟩
  | 4, hj => exact Or.inr ⟨by decide, hj⟩
  | 5, hj => exact Or.inr ⟨by decide, hj⟩
  | 6, hj => exact Or.inr ⟨by decide, hj⟩
  | 7, hj => exact Or.inr ⟨by decide, hj⟩
  | 8, hj => exact Or.inr ⟨by decide, hj⟩
  | 9, hj => exact Or.inr ⟨by decide, hj⟩
  | 10, hj => exact Or.inr ⟨by decide, hj⟩
  | 11, hj => exact Or.inr ⟨by decide, hj⟩
  | 12, hj => exact Or.inr ⟨by decide, hj⟩
  | 13, hj => exact Or.inr ⟨by decide, hj⟩
  | 14, hj => exact Or.inr ⟨by decide, hj⟩
  | 15, hj => exact Or.inr ⟨by decide, hj⟩
  | 16, hj => exact Or.inr ⟨by decide, hj⟩
  | 17, hj => exact Or.inr ⟨by decide, hj⟩
  | 18, hj => exact Or.inr ⟨by decide, hj⟩
  | 19, hj => exact Or.inr ⟨by decide, hj⟩
  | 20, hj => exact Or.inl ⟨rfl, by simpa using hj.symm⟩
  | j + 21, hj => exact Or.inr ⟨by omega, hj⟩
theorem PW.lst20 {a0 a1 a2 a3 a4 a5 a6 a7 a8 a9 a10 a11 a12 a13 a14 a15 a16 a17 a18 a19 a20 a21 : Option Value} {x : Int64} (C : CX G X cc own nL ret d K) (hd : decode cc pc = .ok (.lstore 20, 2)) (hn : 20 + 1 < nL) (hb : nlg a19 = true) (k : PW G K nL Q h (pc + 2) (a0 :: a1 :: a2 :: a3 :: a4 :: a5 :: a6 :: a7 :: a8 :: a9 :: a10 :: a11 :: a12 :: a13 :: a14 :: a15 :: a16 :: a17 :: a18 :: a19 :: some (.long x) :: none :: L) st) : PW G K nL Q h pc (a0 :: a1 :: a2 :: a3 :: a4 :: a5 :: a6 :: a7 :: a8 :: a9 :: a10 :: a11 :: a12 :: a13 :: a14 :: a15 :: a16 :: a17 :: a18 :: a19 :: a20 :: a21 :: L) (.long x :: st) := by
  intro H locs ls hP hS hl
  refine lv_lstore C.1 C.2.1 hd hl hn rfl (fun ls' hl' => k H locs ls' hP hS (lh_st2 (v := .long x) hl' (fun w _ hw => nlg_of hb hw) ?_))
  intro j w hj
  match j, hj with
  | 0, hj => exact Or.inr ⟨by decide, by decide, hj⟩
  | 1, hj => exact Or.inr ⟨by decide, by decide, hj⟩
  | 2, hj => exact Or.inr ⟨by decide, by decide, hj⟩
  | 3, hj => exact Or.inr ⟨by decide, by decide, hj⟩
  | 4, hj => exact Or.inr ⟨by decide, by decide, hj⟩
  | 5, hj => exact Or.inr ⟨by decide, by decide, hj⟩
  | 6, hj => exact Or.inr ⟨by decide, by decide, hj⟩
  | 7, hj => exact Or.inr ⟨by decide, by decide, hj⟩
  | 8, hj => exact Or.inr ⟨by decide, by decide, hj⟩
  | 9, hj => exact Or.inr ⟨by decide, by decide, hj⟩
  | 10, hj => exact Or.inr ⟨by decide, by decide, hj⟩
  | 11, hj => exact Or.inr ⟨by decide, by decide, hj⟩
  | 12, hj => exact Or.inr ⟨by decide, by decide, hj⟩
  | 13, hj => exact Or.inr ⟨by decide, by decide, hj⟩
  | 14, hj => exact Or.inr ⟨by decide, by decide, hj⟩
  | 15, hj => exact Or.inr ⟨by decide, by decide, hj⟩
  | 16, hj => exact Or.inr ⟨by decide, by decide, hj⟩
  | 17, hj => exact Or.inr ⟨by decide, by decide, hj⟩
  | 18, hj => exact Or.inr ⟨by decide, by decide, hj⟩
  | 19, hj => exact Or.inr ⟨by decide, by decide, hj⟩
  | 20, hj => exact Or.inl ⟨rfl, by simpa using hj.symm⟩
  | 21, hj => simp at hj
  | j + 22, hj => exact Or.inr ⟨by omega, by omega, hj⟩
theorem PW.ist21 {a0 a1 a2 a3 a4 a5 a6 a7 a8 a9 a10 a11 a12 a13 a14 a15 a16 a17 a18 a19 a20 a21 : Option Value} {x : Int32} (C : CX G X cc own nL ret d K) (hd : decode cc pc = .ok (.istore 21, 2)) (hn : 21 < nL) (hb : nlg a20 = true) (k : PW G K nL Q h (pc + 2) (a0 :: a1 :: a2 :: a3 :: a4 :: a5 :: a6 :: a7 :: a8 :: a9 :: a10 :: a11 :: a12 :: a13 :: a14 :: a15 :: a16 :: a17 :: a18 :: a19 :: a20 :: some (.int x) :: L) st) : PW G K nL Q h pc (a0 :: a1 :: a2 :: a3 :: a4 :: a5 :: a6 :: a7 :: a8 :: a9 :: a10 :: a11 :: a12 :: a13 :: a14 :: a15 :: a16 :: a17 :: a18 :: a19 :: a20 :: a21 :: L) (.int x :: st) := by
  intro H locs ls hP hS hl
  refine lv_istore C.1 C.2.1 hd hl hn rfl (fun ls' hl' => k H locs ls' hP hS (lh_st1 (v := .int x) hl' (fun w _ hw => nlg_of hb hw) ?_))
  intro j w hj
  match j, hj with
  | 0, hj => exact Or.inr ⟨by decide, hj⟩
  | 1, hj => exact Or.inr ⟨by decide, hj⟩
  | 2, hj => exact Or.inr ⟨by decide, hj⟩
  | 3, hj => exact Or.inr ⟨by decide, hj⟩
  | 4, hj => exact Or.inr ⟨by decide, hj⟩
  | 5, hj => exact Or.inr ⟨by decide, hj⟩
  | 6, hj => exact Or.inr ⟨by decide, hj⟩
  | 7, hj => exact Or.inr ⟨by decide, hj⟩
  | 8, hj => exact Or.inr ⟨by decide, hj⟩
  | 9, hj => exact Or.inr ⟨by decide, hj⟩
  | 10, hj => exact Or.inr ⟨by decide, hj⟩
  | 11, hj => exact Or.inr ⟨by decide, hj⟩
  | 12, hj => exact Or.inr ⟨by decide, hj⟩
  | 13, hj => exact Or.inr ⟨by decide, hj⟩
  | 14, hj => exact Or.inr ⟨by decide, hj⟩
  | 15, hj => exact Or.inr ⟨by decide, hj⟩
  | 16, hj => exact Or.inr ⟨by decide, hj⟩
  | 17, hj => exact Or.inr ⟨by decide, hj⟩
  | 18, hj => exact Or.inr ⟨by decide, hj⟩
  | 19, hj => exact Or.inr ⟨by decide, hj⟩
  | 20, hj => exact Or.inr ⟨by decide, hj⟩
  | 21, hj => exact Or.inl ⟨rfl, by simpa using hj.symm⟩
  | j + 22, hj => exact Or.inr ⟨by omega, hj⟩
theorem PW.ast21 {a0 a1 a2 a3 a4 a5 a6 a7 a8 a9 a10 a11 a12 a13 a14 a15 a16 a17 a18 a19 a20 a21 : Option Value} {x : Nat} (C : CX G X cc own nL ret d K) (hd : decode cc pc = .ok (.astore 21, 2)) (hn : 21 < nL) (hb : nlg a20 = true) (k : PW G K nL Q h (pc + 2) (a0 :: a1 :: a2 :: a3 :: a4 :: a5 :: a6 :: a7 :: a8 :: a9 :: a10 :: a11 :: a12 :: a13 :: a14 :: a15 :: a16 :: a17 :: a18 :: a19 :: a20 :: some (.ref x) :: L) st) : PW G K nL Q h pc (a0 :: a1 :: a2 :: a3 :: a4 :: a5 :: a6 :: a7 :: a8 :: a9 :: a10 :: a11 :: a12 :: a13 :: a14 :: a15 :: a16 :: a17 :: a18 :: a19 :: a20 :: a21 :: L) (.ref x :: st) := by
  intro H locs ls hP hS hl
  refine lv_astore C.1 C.2.1 hd hl hn rfl (fun ls' hl' => k H locs ls' hP hS (lh_st1 (v := .ref x) hl' (fun w _ hw => nlg_of hb hw) ?_))
  intro j w hj
  match j, hj with
  | 0, hj => exact Or.inr ⟨by decide, hj⟩
  | 1, hj => exact Or.inr ⟨by decide, hj⟩
  | 2, hj => exact Or.inr ⟨by decide, hj⟩
  | 3, hj => exact Or.inr ⟨by decide, hj⟩
  | 4, hj => exact Or.inr ⟨by decide, hj⟩
  | 5, hj => exact Or.inr ⟨by decide, hj⟩
  | 6, hj => exact Or.inr ⟨by decide, hj⟩
  | 7, hj => exact Or.inr ⟨by decide, hj⟩
  | 8, hj => exact Or.inr ⟨by decide, hj⟩
  | 9, hj => exact Or.inr ⟨by decide, hj⟩
  | 10, hj => exact Or.inr ⟨by decide, hj⟩
  | 11, hj => exact Or.inr ⟨by decide, hj⟩
  | 12, hj => exact Or.inr ⟨by decide, hj⟩
  | 13, hj => exact Or.inr ⟨by decide, hj⟩
  | 14, hj => exact Or.inr ⟨by decide, hj⟩
  | 15, hj => exact Or.inr ⟨by decide, hj⟩
  | 16, hj => exact Or.inr ⟨by decide, hj⟩
  | 17, hj => exact Or.inr ⟨by decide, hj⟩
  | 18, hj => exact Or.inr ⟨by decide, hj⟩
  | 19, hj => exact Or.inr ⟨by decide, hj⟩
  | 20, hj => exact Or.inr ⟨by decide, hj⟩
  | 21, hj => exact Or.inl ⟨rfl, by simpa using hj.symm⟩
  | j + 22, hj => exact Or.inr ⟨by omega, hj⟩
theorem PW.inc21 {a0 a1 a2 a3 a4 a5 a6 a7 a8 a9 a10 a11 a12 a13 a14 a15 a16 a17 a18 a19 a20 : Option Value} {x v : Int32} {n : Int} (C : CX G X cc own nL ret d K) (hd : decode cc pc = .ok (.iinc 21 n, 3)) (hn : 21 < nL) (hb : nlg a20 = true) (hv : Int32.ofInt n = v) (k : PW G K nL Q h (pc + 3) (a0 :: a1 :: a2 :: a3 :: a4 :: a5 :: a6 :: a7 :: a8 :: a9 :: a10 :: a11 :: a12 :: a13 :: a14 :: a15 :: a16 :: a17 :: a18 :: a19 :: a20 :: some (.int (x + v)) :: L) st) : PW G K nL Q h pc (a0 :: a1 :: a2 :: a3 :: a4 :: a5 :: a6 :: a7 :: a8 :: a9 :: a10 :: a11 :: a12 :: a13 :: a14 :: a15 :: a16 :: a17 :: a18 :: a19 :: a20 :: some (.int x) :: L) st := by
  intro H locs ls hP hS hl
  obtain ⟨kk, hk⟩ := List.getElem?_of_mem ((prs_mem G (a0 :: a1 :: a2 :: a3 :: a4 :: a5 :: a6 :: a7 :: a8 :: a9 :: a10 :: a11 :: a12 :: a13 :: a14 :: a15 :: a16 :: a17 :: a18 :: a19 :: a20 :: some (.int x) :: L) 0 (21, .int x)).mpr ⟨21, .int x, rfl, rfl⟩)
  refine lv_iinc (v := x + v) C.1 C.2.1 hd hl (k := kk) hk (by rw [hv]) hn rfl (fun ls' hl' => k H locs ls' hP hS (lh_st1 (v := .int (x + v)) hl' (fun w _ hw => nlg_of hb hw) ?_))
  intro j w hj
  match j, hj with
  | 0, hj => exact Or.inr ⟨by decide, hj⟩
  | 1, hj => exact Or.inr ⟨by decide, hj⟩
  | 2, hj => exact Or.inr ⟨by decide, hj⟩
  | 3, hj => exact Or.inr ⟨by decide, hj⟩
  | 4, hj => exact Or.inr ⟨by decide, hj⟩
  | 5, hj => exact Or.inr ⟨by decide, hj⟩
  | 6, hj => exact Or.inr ⟨by decide, hj⟩
  | 7, hj => exact Or.inr ⟨by decide, hj⟩
  | 8, hj => exact Or.inr ⟨by decide, hj⟩
  | 9, hj => exact Or.inr ⟨by decide, hj⟩
  | 10, hj => exact Or.inr ⟨by decide, hj⟩
  | 11, hj => exact Or.inr ⟨by decide, hj⟩
  | 12, hj => exact Or.inr ⟨by decide, hj⟩
  | 13, hj => exact Or.inr ⟨by decide, hj⟩
  | 14, hj => exact Or.inr ⟨by decide, hj⟩
  | 15, hj => exact Or.inr ⟨by decide, hj⟩
  | 16, hj => exact Or.inr ⟨by decide, hj⟩
  | 17, hj => exact Or.inr ⟨by decide, hj⟩
  | 18, hj => exact Or.inr ⟨by decide, hj⟩
  | 19, hj => exact Or.inr ⟨by decide, hj⟩
  | 20, hj => exact Or.inr ⟨by decide, hj⟩
  | 21, hj => exact Or.inl ⟨rfl, by simpa using hj.symm⟩
  | j + 22, hj => exact Or.inr ⟨by omega, hj⟩
end PROWS
