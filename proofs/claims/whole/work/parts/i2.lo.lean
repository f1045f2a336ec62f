/-! ===== the law's case of owner ===== -/
theorem ml_L_39 : Cond.methodLink RL 39 yL_owner ∈ LT := tb_in6 (i := 86) (by decide +kernel) (by decide +kernel)
theorem ml_L_44 : Cond.methodLink RL 44 yX10_owner ∈ LT := tb_in8 (i := 231) (by decide +kernel) (by decide +kernel)
theorem ml_L_45 : Cond.methodLink RL 45 yX10_thrown ∈ LT := tb_in8 (i := 31) (by decide +kernel) (by decide +kernel)
theorem st_L : Cond.static yL_owner ∈ LT := tb_in6 (i := 87) (by decide +kernel) (by decide +kernel)
theorem in_L : Cond.initialized RL ∈ LT := tb_in1 (i := 0) (by decide +kernel) (by decide +kernel)
theorem cw_L : Cond.codeWith yL_owner cL_owner 5 (some .int) hhL ∈ LT := tb_in6 (i := 88) rfl rfl
section LWO
variable {Λ : LK} {n k : Nat} {hx hm : PH} {f : Nat → Int64} {pc : Nat} {st rest : List Value}
theorem LW.drop {ex : List (Nat × Value)} (kk : LW Λ n k [] hx hm f pc st) : LW Λ n k ex hx hm f pc st :=
  fun H locs ls a b c d hl => kk H locs ls a b c d (lv_sub hl [0, 1, 2, 3, 4] rfl)
theorem LW.ist5 {x : Int32} (F : LF Λ) (hd : decode code pc = .ok (.istore 5, 2)) (kk : LW Λ n k [(5, .int x)] hx hm f (pc + 2) st) : LW Λ n k [] hx hm f pc (.int x :: st) :=
  fun H locs ls a b c d hl => lv_istore (lv' := [(5, .int x), (0, .ref Λ.b), (1, .ref Λ.B), (2, .ref (Λ.B + 139)), (3, .ref (Λ.B + 211)), (4, .int (z n))]) F.1 F.2.1 hd hl (by decide) rfl (fun ls1 hl1 => kk H locs ls1 a b c d (lv_sub hl1 [1, 2, 3, 4, 5, 0] rfl))
theorem LW.ist6 {x y : Int32} (F : LF Λ) (hd : decode code pc = .ok (.istore 6, 2)) (kk : LW Λ n k [(5, .int x), (6, .int y)] hx hm f (pc + 2) st) : LW Λ n k [(5, .int x)] hx hm f pc (.int y :: st) :=
  fun H locs ls a b c d hl => lv_istore (lv' := [(6, .int y), (0, .ref Λ.b), (1, .ref Λ.B), (2, .ref (Λ.B + 139)), (3, .ref (Λ.B + 211)), (4, .int (z n)), (5, .int x)]) F.1 F.2.1 hd hl (by decide) rfl (fun ls1 hl1 => kk H locs ls1 a b c d (lv_sub hl1 [1, 2, 3, 4, 5, 6, 0] rfl))
theorem LW.ild5 {x y : Int32} (F : LF Λ) (hd : decode code pc = .ok (.iload 5, 2)) (kk : LW Λ n k [(5, .int x), (6, .int y)] hx hm f (pc + 2) (.int x :: st)) : LW Λ n k [(5, .int x), (6, .int y)] hx hm f pc st :=
  fun H locs ls a b c d hl => lv_iload F.1 F.2.1 hd (lv_at hl 5 rfl) (kk H locs ls a b c d hl)
theorem LW.ild6 {x y : Int32} (F : LF Λ) (hd : decode code pc = .ok (.iload 6, 2)) (kk : LW Λ n k [(5, .int x), (6, .int y)] hx hm f (pc + 2) (.int y :: st)) : LW Λ n k [(5, .int x), (6, .int y)] hx hm f pc st :=
  fun H locs ls a b c d hl => lv_iload F.1 F.2.1 hd (lv_at hl 6 rfl) (kk H locs ls a b c d hl)
theorem LW.out0 {ex : List (Nat × Value)} (F : LF Λ) (d0 : decode code pc = .ok (.iconst 0, 1)) (d1 : decode code (pc + 1) = .ok (.laload, 1)) (kk : LW Λ n k ex hx hm f (pc + 2) (.long (f 0) :: st)) : LW Λ n k ex hx hm f pc (.ref (Λ.B + 211) :: st) := by
  intro H locs ls a b c d hl
  refine lv_iconst (v := 0) F.1 F.2.1 d0 (by decide) ?_
  exact va_lald F.1 F.2.1 F.K c 0 1 rfl rfl (show vp_in 0 1 from (by decide : ¬ ((0 : Int32) < 0 ∨ 1 ≤ (0 : Int32).toNatClampNeg))) d1 (kk H locs ls a b c d hl)
theorem LW.i2l {ex : List (Nat × Value)} {x : Int32} (F : LF Λ) (hd : decode code pc = .ok (.i2l, 1)) (kk : LW Λ n k ex hx hm f (pc + 1) (.long x.toInt64 :: st)) : LW Λ n k ex hx hm f pc (.int x :: st) :=
  fun H locs ls a b c d hl => lv_i2l (v := x.toInt64) F.1 F.2.1 hd rfl (kk H locs ls a b c d hl)
theorem LW.ine {ex : List (Nat × Value)} {x : Int32} {off : Int} {tgt : Nat} (F : LF Λ) (hd : decode code pc = .ok (.ifCond .ne off, 3)) (ht : (pc : Int) + off = (tgt : Int)) (kt : ¬ x = 0 → LW Λ n k ex hx hm f tgt st) (kf : x = 0 → LW Λ n k ex hx hm f (pc + 3) st) : LW Λ n k ex hx hm f pc (.int x :: st) :=
  fun H locs ls a b c d hl => lv_if_ne F.1 F.2.1 hd ht (fun q => kt q H locs ls a b c d hl) (fun q => kf q H locs ls a b c d hl)
theorem LW.callO {w : Nat} {s : St} {p q : Int} (F : LF Λ) (hk : k ≤ 600) (I : IX hx w s) (P : PX hx s.a) (hp : i32 p) (hq : i32 q) (hd : decode code pc = .ok (.invokestatic 39, 3))
    (kk : ∀ (g : PH) (f1 : Nat → Int64), IX g w s → PX g s.a → (thr s.a p q = 0 → f1 0 = (z (a_owner s.a p q)).toInt64) → LW Λ n (k + 1) [] g hm f1 (pc + 3) [.int (z (thr s.a p q))]) : LW Λ n k [] hx hm f pc [.ref (Λ.B + 211), .int (z q), .int (z p), .ref Λ.B] := by
  intro H locs ls a b c d hl
  have hts := F.fix.2.2.2.2
  have e0 : adx Λ.B Λ.ac 0 = Λ.B := adx_in (by decide)
  have hoa : ¬ Aw Λ.X (Λ.B + 211) := fun h => by have := Aw_X h; omega
  have hlA : ∀ x, loA Λ.D Λ.ca (adx Λ.B Λ.ac) (Λ.B + 211) x → Λ.A x := fun x hx9 => by
    rcases hx9 with h | h
    · exact (Aw_X h).1
    · rw [h]; exact Nat.le_add_right _ _
  have h1 : room_1.locals = 84000 := rfl
  have h2 : room_1.frames = 2048 := rfl
  refine va_calli (vx_runSW (As := [.ref Λ.B, .int (z p), .int (z q), .ref (Λ.B + 211)]) (rest := []) (cells := 1000 + k) (slots := 20000 + 6 * k) F.fix (k_lowner (D := Λ.D) (ca := Λ.ca) (ad := adx Λ.B Λ.ac) (oa := Λ.B + 211) (f := f) (o1 := Λ.o1) (o2 := Λ.o2) F.2.2.2.2.2.2.2.2.2.1 I P hp hq hoa)
    ⟨⟨rfl, rfl, by rw [h2]; exact Nat.le_of_ble_eq_true rfl, by rw [h1]; exact Nat.le_of_ble_eq_true rfl, pay_in hts (fun w hw => by
        rcases List.mem_cons.mp hw with rfl | hw
        · exact ⟨cw_L, good_of_word (List.mem_filter.mp cw_L).2⟩
        · exact ⟨hw, good_of_word (List.mem_filter.mp hw).2⟩), List.mem_cons_self⟩, hts _ cw_L, hts _ in_L, ⟨by decide +kernel, by decide +kernel⟩, fun sig h => by
        have h3 : (parseMethodDescriptor yL_owner.desc).map (fun d => d.parameters.length) = some 4 := by decide +kernel
        rw [h] at h3
        exact (Option.some.inj h3).symm, hts _ ml_L_39, hts _ st_L⟩
    ⟨fun a U g mk x => ⟨x.1, x.2.1, x.2.2.1, ⟨va_K.moved (u := U) (U := U.calling g mk a) (Vm.Alike.refl U.vm) x.2.2.2.1.1, nt_same (s := U) (U := U.calling g mk a) rfl x.2.2.2.1.2.1, x.2.2.2.1.2.2.1, (XS_ok Λ.X).1 U g mk a x.2.2.2.1.2.2.2⟩, x.2.2.2.2.calling g mk a⟩, fun U hU hW => ⟨by rw [e0], by rw [hU]; exact a, by rw [hU]; exact c, F.ksX d hU hW, F.ox d hU hW⟩⟩
    rfl rfl hl.1 rfl (lv_room (Nat.le_of_ble_eq_true rfl)) hd (by
      have h3 : room_1.cells = 601024 := rfl
      have h4 : room_1.slots = 7293034 := rfl
      rw [h3, h4]
      omega)) d (fun x _ hx9 => hlA x hx9) hlA ?_
  intro r u t H1 locs1 ht _ hpost hB hz hk1 hS1
  obtain ⟨rfl, I1, P1, ef⟩ := hpost
  obtain ⟨hP1, hPo1⟩ := hB
  rw [ht] at hP1 hPo1
  refine W.widen (k := 1000 + (k + 1)) (n := 20000 + 6 * (k + 1)) (by omega) (by omega) ?_
  exact kk u.1 u.2 I1 P1 ef H1 locs1 ls hP1 (pw_keep inj_M b (fun x h1 h2 => by
    rcases h2 with h2 | h2
    · have := Aw_M h1; have := Aw_X h2; omega
    · have := Aw_M h1; omega) hk1) hPo1 hS1 hl
theorem thr_012 (a : Wd) (p q : Int) : thr a p q = 0 ∨ thr a p q = 1 ∨ thr a p q = 2 := by
  unfold thr
  split
  · split
    · exact Or.inl rfl
    · exact Or.inr (Or.inr rfl)
  · exact Or.inr (Or.inl rfl)
theorem lc_owner (F : LF Λ) (hn : n + 6 ≤ Λ.L) (hk : k ≤ 599) (V : IV hx hm) (bot : ∀ (gx gm : PH) (f1 : Nat → Int64), IV gx gm → LW Λ n (k + 1) [] gx gm f1 1764 []) : LW Λ n k [] hx hm f 388 [] := by
  obtain ⟨w, s, I, P, J⟩ := V
  refine LW.ald1 F dL_law_388 ?_
  refine LW.arg 1 F hn (by decide) rfl dL_law_389 dL_law_390 dL_law_392 dL_law_393 dL_law_394 ?_
  refine LW.arg 2 F hn (by decide) rfl dL_law_395 dL_law_396 dL_law_398 dL_law_399 dL_law_400 ?_
  refine LW.ald3 F dL_law_401 ?_
  obtain ⟨p, ep, hp⟩ := zx (Λ.xs (n + 1))
  obtain ⟨q, eq, hq⟩ := zx (Λ.xs (n + 2))
  rw [ep, eq]
  refine LW.callO F (by omega) I P hp hq dL_law_402 (fun g f1 I1 P1 ef => ?_)
  refine LW.ist5 F dL_law_405 ?_
  refine LW.ald2 F dL_law_407 ?_
  refine LW.arg 1 F hn (by decide) rfl dL_law_408 dL_law_409 dL_law_411 dL_law_412 dL_law_413 ?_
  refine LW.arg 2 F hn (by decide) rfl dL_law_414 dL_law_415 dL_law_417 dL_law_418 dL_law_419 ?_
  rw [ep, eq]
  refine LW.callMI [.int (z p), .int (z q)] [] F (by omega) ms_X10_owner ml_L_44 dL_law_420 rfl ⟨_, _, rfl⟩ rfl (Nat.le_of_ble_eq_true rfl) (Nat.le_of_ble_eq_true rfl) (Q' := fun r g => r = z (if thr s.a p q = 0 then a_owner s.a p q else 0) ∧ IM g s ∧ gI g 0 0 = z (thr s.a p q)) (Sp.mono (Nat.le_of_ble_eq_true rfl) (s_X10_owner (ms_owner J hp hq (fun g J1 e1 => ⟨rfl, J1, e1⟩)))) (fun r g1 hr => ?_)
  obtain ⟨rfl, J1, e1⟩ := hr
  refine LW.ist6 F dL_law_423 ?_
  refine LW.ald2 F dL_law_425 ?_
  refine LW.callMI [] [] F (by omega) ms_X10_thrown ml_L_45 dL_law_426 rfl ⟨_, _, rfl⟩ rfl (Nat.le_of_ble_eq_true rfl) (Nat.le_of_ble_eq_true rfl) (Q' := fun r g => r = z (thr s.a p q) ∧ g = g1) (Sp.mono (Nat.le_of_ble_eq_true rfl) (s_X10_thrown (show w_X10_thrown g1 _ from ⟨e1, rfl⟩))) (fun r g2 hr => ?_)
  obtain ⟨rfl, rfl⟩ := hr
  refine LW.ild5 F dL_law_429 ?_
  refine LW.ieq F dL_law_431 (tgt := 436) (by decide) ?_
  refine LW.ild5 F dL_law_436 ?_
  refine LW.ine F dL_law_438 (tgt := 453) (by decide) (fun _ => ?_) (fun e0 => ?_)
  · refine LW.goto F dL_law_453 (tgt := 1764) (by decide) ?_
    exact LW.drop (bot _ _ _ ⟨w, s, I1, P1, J1⟩)
  · have et : thr s.a p q = 0 := by
      rcases thr_012 s.a p q with h | h | h
      · exact h
      · rw [h] at e0; exact absurd e0 (by decide)
      · rw [h] at e0; exact absurd e0 (by decide)
    refine LW.ald3 F dL_law_441 ?_
    refine LW.out0 F dL_law_442 dL_law_443 ?_
    refine LW.ild6 F dL_law_444 ?_
    refine LW.i2l F dL_law_446 ?_
    rw [ef et, if_pos et]
    refine LW.leq F dL_law_447 dL_law_448 (tgt := 453) (by decide) ?_
    refine LW.goto F dL_law_453 (tgt := 1764) (by decide) ?_
    exact LW.drop (bot _ _ _ ⟨w, s, I1, P1, J1⟩)
end LWO
