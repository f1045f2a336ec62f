theorem rng_step (f : Nat → va_E) (n : Nat) {e : va_E} (h : e = f (1 + n)) : (List.range' 1 n).map f ++ [e] = (List.range' 1 (n + 1)).map f := by
  rw [List.range'_1_concat, List.map_append, h]; rfl
set_option maxRecDepth 40000 in
theorem et_10 {D : va_G} {ca ad : Nat → Nat} {B : Nat} {t1 t2 t3 t4 t5 t6 t7 t8 t9 t10 t11 t12 t13 t14 t15 t16 t17 t18 t19 t20 t21 t22 t23 t24 t25 t26 t27 t28 t29 t30 t31 t32 t33 t34 t35 t36 t37 t38 t39 t40 t41 t42 t43 t44 t45 t46 t47 t48 t49 t50 t51 t52 t53 t54 t55 t56 t57 t58 t59 t60 t61 t62 t63 t64 t65 t66 t67 t68 t69 t70 t71 : List va_E}
    (h1 : t1 = ([] : List va_E) ++ [.inl (ca 0, 700, .inl (fun _ => 0))])
    (h2 : t2 = t1 ++ [.inl (ca 0, 22, .inl (upd (upd (upd (upd (upd (upd (upd (upd (upd (upd (upd (upd (upd (upd (upd (upd (upd (upd (upd (upd (upd (upd (fun _ => 0) (iN 0) 0) (iN 1) 0) (iN 2) 0) (iN 3) 0) (iN 4) 0) (iN 5) 0) (iN 6) 0) (iN 7) 5) (iN 8) 1) (iN 9) 0) (iN 10) 0) (iN 11) 0) (iN 12) 0) (iN 13) 0) (iN 14) 0) (iN 15) 0) (iN 16) 0) (iN 17) 0) (iN 18) 5) (iN 19) 1) (iN 20) 0) (iN 21) 0))])
    (h3 : t3 = t2 ++ [.inl (ca 0, 12, .inl (fun _ => 0))])
    (h4 : t4 = t3 ++ [.inl (ca 0, 18, .inl (fun _ => 0))])
    (h5 : t5 = t4 ++ [.inl (ca 0, 18, .inl (fun _ => 0))])
    (h6 : t6 = t5 ++ [.inl (ca 0, 18, .inl (fun _ => 0))])
    (h7 : t7 = t6 ++ [.inl (ca 0, 8, .inl (fun _ => 0))])
    (h8 : t8 = t7 ++ [.inl (ca 0, 8, .inl (fun _ => 0))])
    (h9 : t9 = t8 ++ [.inl (ca 0, 8, .inl (fun _ => 0))])
    (h10 : t10 = t9 ++ [.inl (ca 0, 16, .inl (fun _ => 0))])
    (h11 : t11 = t10 ++ [.inl (ca 0, 16, .inl (fun _ => 0))])
    (h12 : t12 = t11 ++ [.inl (ca 0, 16, .inl (fun _ => 0))])
    (h13 : t13 = t12 ++ [.inl (ca 0, 16, .inl (fun _ => 0))])
    (h14 : t14 = t13 ++ [.inl (ca 0, 16, .inl (fun _ => 0))])
    (h15 : t15 = t14 ++ [.inl (ca 0, 16, .inl (fun _ => 0))])
    (h16 : t16 = t15 ++ [.inl (ca 0, 16, .inl (fun _ => 0))])
    (h17 : t17 = t16 ++ [.inl (ca 0, 16, .inl (fun _ => 0))])
    (h18 : t18 = t17 ++ [.inl (ca 0, 16, .inl (fun _ => 0))])
    (h19 : t19 = t18 ++ [.inl (ca 0, 12, .inl (fun _ => 0))])
    (h20 : t20 = t19 ++ [.inl (ca 0, 12, .inl (fun _ => 0))])
    (h21 : t21 = t20 ++ [.inl (ca 0, 12, .inl (fun _ => 0))])
    (h22 : t22 = t21 ++ [.inl (ca 0, 12, .inl (fun _ => 0))])
    (h23 : t23 = t22 ++ [.inl (ca 0, 8, .inl (fun _ => 0))])
    (h24 : t24 = t23 ++ [.inl (ca 0, 8, .inl (fun _ => 0))])
    (h25 : t25 = t24 ++ [.inl (ca 0, 8, .inl (fun _ => 0))])
    (h26 : t26 = t25 ++ [.inl (ca 0, 8, .inl (fun _ => 0))])
    (h27 : t27 = t26 ++ [.inl (ca 0, 12, .inl (fun _ => 0))])
    (h28 : t28 = t27 ++ [.inl (ca 0, 4, .inl (fun _ => 0))])
    (h29 : t29 = t28 ++ [.inl (ca 0, 4, .inl (fun _ => 0))])
    (h30 : t30 = t29 ++ [.inl (ca 0, 128, .inl (fun _ => 0))])
    (h31 : t31 = t30 ++ [.inl (ca 0, 128, .inl (fun _ => 0))])
    (h32 : t32 = t31 ++ [.inl (ca 1, 6, .inr (.inl (fun _ => 0)))])
    (h33 : t33 = t32 ++ [.inl (ca 1, 64, .inr (.inl (fun _ => 0)))])
    (h34 : t34 = t33 ++ [.inl (ca 0, 22, .inl (fun _ => 0))])
    (h35 : t35 = t34 ++ [.inl (ca 0, 264, .inl (fun _ => 0))])
    (h36 : t36 = t35 ++ [.inl (ca 0, 264, .inl (fun _ => 0))])
    (h37 : t37 = t36 ++ [.inl (ca 0, 264, .inl (fun _ => 0))])
    (h38 : t38 = t37 ++ [.inl (ca 0, 264, .inl (fun _ => 0))])
    (h39 : t39 = t38 ++ [.inl (ca 0, 264, .inl (fun _ => 0))])
    (h40 : t40 = t39 ++ [.inl (ca 0, 22, .inl (fun _ => 0))])
    (h41 : t41 = t40 ++ [.inl (ca 0, 176, .inl (fun _ => 0))])
    (h42 : t42 = t41 ++ [.inl (ca 0, 22, .inl (fun _ => 0))])
    (h43 : t43 = t42 ++ [.inl (ca 0, 88, .inl (fun _ => 0))])
    (h44 : t44 = t43 ++ [.inl (ca 0, 22, .inl (fun _ => 0))])
    (h45 : t45 = t44 ++ [.inl (ca 0, 16, .inl (fun _ => 0))])
    (h46 : t46 = t45 ++ [.inl (ca 0, 16, .inl (fun _ => 0))])
    (h47 : t47 = t46 ++ [.inl (ca 0, 16, .inl (fun _ => 0))])
    (h48 : t48 = t47 ++ [.inl (ca 0, 16, .inl (fun _ => 0))])
    (h49 : t49 = t48 ++ [.inl (ca 0, 16, .inl (fun _ => 0))])
    (h50 : t50 = t49 ++ [.inl (ca 0, 36, .inl (fun _ => 0))])
    (h51 : t51 = t50 ++ [.inl (ca 0, 288, .inl (fun _ => 0))])
    (h52 : t52 = t51 ++ [.inl (ca 0, 16, .inl (fun _ => 0))])
    (h53 : t53 = t52 ++ [.inl (ca 0, 16, .inl (fun _ => 0))])
    (h54 : t54 = t53 ++ [.inl (ca 0, 16, .inl (fun _ => 0))])
    (h55 : t55 = t54 ++ [.inl (ca 0, 16, .inl (fun _ => 0))])
    (h56 : t56 = t55 ++ [.inl (ca 0, 288, .inl (fun _ => 0))])
    (h57 : t57 = t56 ++ [.inl (ca 0, 144, .inl (fun _ => 0))])
    (h58 : t58 = t57 ++ [.inl (ca 0, 144, .inl (fun _ => 0))])
    (h59 : t59 = t58 ++ [.inl (ca 0, 144, .inl (fun _ => 0))])
    (h60 : t60 = t59 ++ [.inl (ca 0, 144, .inl (fun _ => 0))])
    (h61 : t61 = t60 ++ [.inl (ca 3, 192, .inl (fun _ => 0))])
    (h62 : t62 = t61 ++ [.inl (ca 0, 4, .inl (fun _ => 0))])
    (h63 : t63 = t62 ++ [.inl (ca 0, 4, .inl (fun _ => 0))])
    (h64 : t64 = t63 ++ [.inl (ca 0, 4, .inl (fun _ => 0))])
    (h65 : t65 = t64 ++ [.inl (ca 0, 4, .inl (fun _ => 0))])
    (h66 : t66 = t65 ++ [.inl (ca 0, 64, .inl (fun _ => 0))])
    (h67 : t67 = t66 ++ [.inl (ca 0, 24, .inl (fun _ => 0))])
    (h68 : t68 = t67 ++ [.inl (ca 0, 24, .inl (fun _ => 0))])
    (h69 : t69 = t68 ++ [.inl (ca 3, 24, .inl (fun _ => 0))])
    (h70 : t70 = t69 ++ [.inl (ca 0, 24, .inl (fun _ => 0))])
    (h71 : t71 = t70 ++ [.inl (ca 3, 24, .inl (fun _ => 0))])
    : t71 = (List.range' 1 71).map (ce (GM D ca (fun i => if i < 72 then B + i else ad i)) hM0) := by
  have k1 : t1 = (List.range' 1 1).map (ce (GM D ca (fun i => if i < 72 then B + i else ad i)) hM0) := h1.trans (rng_step _ 0 rfl)
  have k2 : t2 = (List.range' 1 2).map (ce (GM D ca (fun i => if i < 72 then B + i else ad i)) hM0) := by rw [h2, k1]; exact rng_step _ 1 rfl
  have k3 : t3 = (List.range' 1 3).map (ce (GM D ca (fun i => if i < 72 then B + i else ad i)) hM0) := by rw [h3, k2]; exact rng_step _ 2 rfl
  have k4 : t4 = (List.range' 1 4).map (ce (GM D ca (fun i => if i < 72 then B + i else ad i)) hM0) := by rw [h4, k3]; exact rng_step _ 3 rfl
  have k5 : t5 = (List.range' 1 5).map (ce (GM D ca (fun i => if i < 72 then B + i else ad i)) hM0) := by rw [h5, k4]; exact rng_step _ 4 rfl
  have k6 : t6 = (List.range' 1 6).map (ce (GM D ca (fun i => if i < 72 then B + i else ad i)) hM0) := by rw [h6, k5]; exact rng_step _ 5 rfl
  have k7 : t7 = (List.range' 1 7).map (ce (GM D ca (fun i => if i < 72 then B + i else ad i)) hM0) := by rw [h7, k6]; exact rng_step _ 6 rfl
  have k8 : t8 = (List.range' 1 8).map (ce (GM D ca (fun i => if i < 72 then B + i else ad i)) hM0) := by rw [h8, k7]; exact rng_step _ 7 rfl
  have k9 : t9 = (List.range' 1 9).map (ce (GM D ca (fun i => if i < 72 then B + i else ad i)) hM0) := by rw [h9, k8]; exact rng_step _ 8 rfl
  have k10 : t10 = (List.range' 1 10).map (ce (GM D ca (fun i => if i < 72 then B + i else ad i)) hM0) := by rw [h10, k9]; exact rng_step _ 9 rfl
  have k11 : t11 = (List.range' 1 11).map (ce (GM D ca (fun i => if i < 72 then B + i else ad i)) hM0) := by rw [h11, k10]; exact rng_step _ 10 rfl
  have k12 : t12 = (List.range' 1 12).map (ce (GM D ca (fun i => if i < 72 then B + i else ad i)) hM0) := by rw [h12, k11]; exact rng_step _ 11 rfl
  have k13 : t13 = (List.range' 1 13).map (ce (GM D ca (fun i => if i < 72 then B + i else ad i)) hM0) := by rw [h13, k12]; exact rng_step _ 12 rfl
  have k14 : t14 = (List.range' 1 14).map (ce (GM D ca (fun i => if i < 72 then B + i else ad i)) hM0) := by rw [h14, k13]; exact rng_step _ 13 rfl
  have k15 : t15 = (List.range' 1 15).map (ce (GM D ca (fun i => if i < 72 then B + i else ad i)) hM0) := by rw [h15, k14]; exact rng_step _ 14 rfl
  have k16 : t16 = (List.range' 1 16).map (ce (GM D ca (fun i => if i < 72 then B + i else ad i)) hM0) := by rw [h16, k15]; exact rng_step _ 15 rfl
  have k17 : t17 = (List.range' 1 17).map (ce (GM D ca (fun i => if i < 72 then B + i else ad i)) hM0) := by rw [h17, k16]; exact rng_step _ 16 rfl
  have k18 : t18 = (List.range' 1 18).map (ce (GM D ca (fun i => if i < 72 then B + i else ad i)) hM0) := by rw [h18, k17]; exact rng_step _ 17 rfl
  have k19 : t19 = (List.range' 1 19).map (ce (GM D ca (fun i => if i < 72 then B + i else ad i)) hM0) := by rw [h19, k18]; exact rng_step _ 18 rfl
  have k20 : t20 = (List.range' 1 20).map (ce (GM D ca (fun i => if i < 72 then B + i else ad i)) hM0) := by rw [h20, k19]; exact rng_step _ 19 rfl
  have k21 : t21 = (List.range' 1 21).map (ce (GM D ca (fun i => if i < 72 then B + i else ad i)) hM0) := by rw [h21, k20]; exact rng_step _ 20 rfl
  have k22 : t22 = (List.range' 1 22).map (ce (GM D ca (fun i => if i < 72 then B + i else ad i)) hM0) := by rw [h22, k21]; exact rng_step _ 21 rfl
  have k23 : t23 = (List.range' 1 23).map (ce (GM D ca (fun i => if i < 72 then B + i else ad i)) hM0) := by rw [h23, k22]; exact rng_step _ 22 rfl
  have k24 : t24 = (List.range' 1 24).map (ce (GM D ca (fun i => if i < 72 then B + i else ad i)) hM0) := by rw [h24, k23]; exact rng_step _ 23 rfl
  have k25 : t25 = (List.range' 1 25).map (ce (GM D ca (fun i => if i < 72 then B + i else ad i)) hM0) := by rw [h25, k24]; exact rng_step _ 24 rfl
  have k26 : t26 = (List.range' 1 26).map (ce (GM D ca (fun i => if i < 72 then B + i else ad i)) hM0) := by rw [h26, k25]; exact rng_step _ 25 rfl
  have k27 : t27 = (List.range' 1 27).map (ce (GM D ca (fun i => if i < 72 then B + i else ad i)) hM0) := by rw [h27, k26]; exact rng_step _ 26 rfl
  have k28 : t28 = (List.range' 1 28).map (ce (GM D ca (fun i => if i < 72 then B + i else ad i)) hM0) := by rw [h28, k27]; exact rng_step _ 27 rfl
  have k29 : t29 = (List.range' 1 29).map (ce (GM D ca (fun i => if i < 72 then B + i else ad i)) hM0) := by rw [h29, k28]; exact rng_step _ 28 rfl
  have k30 : t30 = (List.range' 1 30).map (ce (GM D ca (fun i => if i < 72 then B + i else ad i)) hM0) := by rw [h30, k29]; exact rng_step _ 29 rfl
  have k31 : t31 = (List.range' 1 31).map (ce (GM D ca (fun i => if i < 72 then B + i else ad i)) hM0) := by rw [h31, k30]; exact rng_step _ 30 rfl
  have k32 : t32 = (List.range' 1 32).map (ce (GM D ca (fun i => if i < 72 then B + i else ad i)) hM0) := by rw [h32, k31]; exact rng_step _ 31 rfl
  have k33 : t33 = (List.range' 1 33).map (ce (GM D ca (fun i => if i < 72 then B + i else ad i)) hM0) := by rw [h33, k32]; exact rng_step _ 32 rfl
  have k34 : t34 = (List.range' 1 34).map (ce (GM D ca (fun i => if i < 72 then B + i else ad i)) hM0) := by rw [h34, k33]; exact rng_step _ 33 rfl
  have k35 : t35 = (List.range' 1 35).map (ce (GM D ca (fun i => if i < 72 then B + i else ad i)) hM0) := by rw [h35, k34]; exact rng_step _ 34 rfl
  have k36 : t36 = (List.range' 1 36).map (ce (GM D ca (fun i => if i < 72 then B + i else ad i)) hM0) := by rw [h36, k35]; exact rng_step _ 35 rfl
  have k37 : t37 = (List.range' 1 37).map (ce (GM D ca (fun i => if i < 72 then B + i else ad i)) hM0) := by rw [h37, k36]; exact rng_step _ 36 rfl
  have k38 : t38 = (List.range' 1 38).map (ce (GM D ca (fun i => if i < 72 then B + i else ad i)) hM0) := by rw [h38, k37]; exact rng_step _ 37 rfl
  have k39 : t39 = (List.range' 1 39).map (ce (GM D ca (fun i => if i < 72 then B + i else ad i)) hM0) := by rw [h39, k38]; exact rng_step _ 38 rfl
  have k40 : t40 = (List.range' 1 40).map (ce (GM D ca (fun i => if i < 72 then B + i else ad i)) hM0) := by rw [h40, k39]; exact rng_step _ 39 rfl
  have k41 : t41 = (List.range' 1 41).map (ce (GM D ca (fun i => if i < 72 then B + i else ad i)) hM0) := by rw [h41, k40]; exact rng_step _ 40 rfl
  have k42 : t42 = (List.range' 1 42).map (ce (GM D ca (fun i => if i < 72 then B + i else ad i)) hM0) := by rw [h42, k41]; exact rng_step _ 41 rfl
  have k43 : t43 = (List.range' 1 43).map (ce (GM D ca (fun i => if i < 72 then B + i else ad i)) hM0) := by rw [h43, k42]; exact rng_step _ 42 rfl
  have k44 : t44 = (List.range' 1 44).map (ce (GM D ca (fun i => if i < 72 then B + i else ad i)) hM0) := by rw [h44, k43]; exact rng_step _ 43 rfl
  have k45 : t45 = (List.range' 1 45).map (ce (GM D ca (fun i => if i < 72 then B + i else ad i)) hM0) := by rw [h45, k44]; exact rng_step _ 44 rfl
  have k46 : t46 = (List.range' 1 46).map (ce (GM D ca (fun i => if i < 72 then B + i else ad i)) hM0) := by rw [h46, k45]; exact rng_step _ 45 rfl
  have k47 : t47 = (List.range' 1 47).map (ce (GM D ca (fun i => if i < 72 then B + i else ad i)) hM0) := by rw [h47, k46]; exact rng_step _ 46 rfl
  have k48 : t48 = (List.range' 1 48).map (ce (GM D ca (fun i => if i < 72 then B + i else ad i)) hM0) := by rw [h48, k47]; exact rng_step _ 47 rfl
  have k49 : t49 = (List.range' 1 49).map (ce (GM D ca (fun i => if i < 72 then B + i else ad i)) hM0) := by rw [h49, k48]; exact rng_step _ 48 rfl
  have k50 : t50 = (List.range' 1 50).map (ce (GM D ca (fun i => if i < 72 then B + i else ad i)) hM0) := by rw [h50, k49]; exact rng_step _ 49 rfl
  have k51 : t51 = (List.range' 1 51).map (ce (GM D ca (fun i => if i < 72 then B + i else ad i)) hM0) := by rw [h51, k50]; exact rng_step _ 50 rfl
  have k52 : t52 = (List.range' 1 52).map (ce (GM D ca (fun i => if i < 72 then B + i else ad i)) hM0) := by rw [h52, k51]; exact rng_step _ 51 rfl
  have k53 : t53 = (List.range' 1 53).map (ce (GM D ca (fun i => if i < 72 then B + i else ad i)) hM0) := by rw [h53, k52]; exact rng_step _ 52 rfl
  have k54 : t54 = (List.range' 1 54).map (ce (GM D ca (fun i => if i < 72 then B + i else ad i)) hM0) := by rw [h54, k53]; exact rng_step _ 53 rfl
  have k55 : t55 = (List.range' 1 55).map (ce (GM D ca (fun i => if i < 72 then B + i else ad i)) hM0) := by rw [h55, k54]; exact rng_step _ 54 rfl
  have k56 : t56 = (List.range' 1 56).map (ce (GM D ca (fun i => if i < 72 then B + i else ad i)) hM0) := by rw [h56, k55]; exact rng_step _ 55 rfl
  have k57 : t57 = (List.range' 1 57).map (ce (GM D ca (fun i => if i < 72 then B + i else ad i)) hM0) := by rw [h57, k56]; exact rng_step _ 56 rfl
  have k58 : t58 = (List.range' 1 58).map (ce (GM D ca (fun i => if i < 72 then B + i else ad i)) hM0) := by rw [h58, k57]; exact rng_step _ 57 rfl
  have k59 : t59 = (List.range' 1 59).map (ce (GM D ca (fun i => if i < 72 then B + i else ad i)) hM0) := by rw [h59, k58]; exact rng_step _ 58 rfl
  have k60 : t60 = (List.range' 1 60).map (ce (GM D ca (fun i => if i < 72 then B + i else ad i)) hM0) := by rw [h60, k59]; exact rng_step _ 59 rfl
  have k61 : t61 = (List.range' 1 61).map (ce (GM D ca (fun i => if i < 72 then B + i else ad i)) hM0) := by rw [h61, k60]; exact rng_step _ 60 rfl
  have k62 : t62 = (List.range' 1 62).map (ce (GM D ca (fun i => if i < 72 then B + i else ad i)) hM0) := by rw [h62, k61]; exact rng_step _ 61 rfl
  have k63 : t63 = (List.range' 1 63).map (ce (GM D ca (fun i => if i < 72 then B + i else ad i)) hM0) := by rw [h63, k62]; exact rng_step _ 62 rfl
  have k64 : t64 = (List.range' 1 64).map (ce (GM D ca (fun i => if i < 72 then B + i else ad i)) hM0) := by rw [h64, k63]; exact rng_step _ 63 rfl
  have k65 : t65 = (List.range' 1 65).map (ce (GM D ca (fun i => if i < 72 then B + i else ad i)) hM0) := by rw [h65, k64]; exact rng_step _ 64 rfl
  have k66 : t66 = (List.range' 1 66).map (ce (GM D ca (fun i => if i < 72 then B + i else ad i)) hM0) := by rw [h66, k65]; exact rng_step _ 65 rfl
  have k67 : t67 = (List.range' 1 67).map (ce (GM D ca (fun i => if i < 72 then B + i else ad i)) hM0) := by rw [h67, k66]; exact rng_step _ 66 rfl
  have k68 : t68 = (List.range' 1 68).map (ce (GM D ca (fun i => if i < 72 then B + i else ad i)) hM0) := by rw [h68, k67]; exact rng_step _ 67 rfl
  have k69 : t69 = (List.range' 1 69).map (ce (GM D ca (fun i => if i < 72 then B + i else ad i)) hM0) := by rw [h69, k68]; exact rng_step _ 68 rfl
  have k70 : t70 = (List.range' 1 70).map (ce (GM D ca (fun i => if i < 72 then B + i else ad i)) hM0) := by rw [h70, k69]; exact rng_step _ 69 rfl
  have k71 : t71 = (List.range' 1 71).map (ce (GM D ca (fun i => if i < 72 then B + i else ad i)) hM0) := by rw [h71, k70]; exact rng_step _ 70 rfl
  exact k71
