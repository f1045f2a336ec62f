def ks10 : List Nat := [1, 3, 4, 5, 6, 7, 8, 9, 10, 11, 12, 13, 14, 15, 16, 17, 18, 19, 20, 21, 22, 23, 24, 25, 26, 27, 28, 29, 30, 31, 32, 43, 46, 47, 49, 50, 51, 52, 53, 54, 55, 56, 57, 58, 59, 63, 64, 65, 66, 67, 68, 69, 71, 72, 73, 74, 75, 78, 79, 80, 81, 87, 88, 89, 90, 91, 93, 95, 96, 97, 98, 99, 100]
def dv10 (j : Nat) : Value := if fk 10 j = 0 then .int 0 else .null
theorem set_step (F d : Nat → Value) (A : List Nat) (N a : Nat) {v : Value} (h : v = F a) : ((List.range N).map (fun j => if j ∈ A then F j else d j)).set a v = (List.range N).map (fun j => if j ∈ a :: A then F j else d j) := by
  refine List.ext_getElem? (fun i => ?_)
  rw [List.getElem?_set]
  by_cases hi : i < N
  · by_cases ha : a = i
    · subst ha
      simp [hi, h]
    · rw [if_neg ha]
      simp [hi, Ne.symm ha]
  · by_cases ha : a = i
    · subst ha
      simp [hi]
    · rw [if_neg ha]
      simp [hi]
set_option maxRecDepth 40000 in
theorem ef_10 {D : va_G} {ca ad : Nat → Nat} {B : Nat} {f0 f1 f2 f3 f4 f5 f6 f7 f8 f9 f10 f11 f12 f13 f14 f15 f16 f17 f18 f19 f20 f21 f22 f23 f24 f25 f26 f27 f28 f29 f30 f31 f32 f33 f34 f35 f36 f37 f38 f39 f40 f41 f42 f43 f44 f45 f46 f47 f48 f49 f50 f51 f52 f53 f54 f55 f56 f57 f58 f59 f60 f61 f62 f63 f64 f65 f66 f67 f68 f69 f70 f71 f72 f73 : List Value}
    (h0 : f0 = d10)
    (h1 : f1 = f0.set 1 (.ref (B + (0 + 1))))
    (h2 : f2 = f1.set 3 (.ref (B + (0 + 2))))
    (h3 : f3 = f2.set 4 (.ref (B + (0 + 3))))
    (h4 : f4 = f3.set 5 (.ref (B + (0 + 4))))
    (h5 : f5 = f4.set 6 (.ref (B + (0 + 5))))
    (h6 : f6 = f5.set 7 (.ref (B + (0 + 6))))
    (h7 : f7 = f6.set 8 (.ref (B + (0 + 7))))
    (h8 : f8 = f7.set 9 (.ref (B + (0 + 8))))
    (h9 : f9 = f8.set 10 (.ref (B + (0 + 9))))
    (h10 : f10 = f9.set 11 (.ref (B + (0 + 10))))
    (h11 : f11 = f10.set 12 (.ref (B + (0 + 11))))
    (h12 : f12 = f11.set 13 (.ref (B + (0 + 12))))
    (h13 : f13 = f12.set 14 (.ref (B + (0 + 13))))
    (h14 : f14 = f13.set 15 (.ref (B + (0 + 14))))
    (h15 : f15 = f14.set 16 (.ref (B + (0 + 15))))
    (h16 : f16 = f15.set 17 (.ref (B + (0 + 16))))
    (h17 : f17 = f16.set 18 (.ref (B + (0 + 17))))
    (h18 : f18 = f17.set 19 (.ref (B + (0 + 18))))
    (h19 : f19 = f18.set 20 (.ref (B + (0 + 19))))
    (h20 : f20 = f19.set 21 (.ref (B + (0 + 20))))
    (h21 : f21 = f20.set 22 (.ref (B + (0 + 21))))
    (h22 : f22 = f21.set 23 (.ref (B + (0 + 22))))
    (h23 : f23 = f22.set 24 (.ref (B + (0 + 23))))
    (h24 : f24 = f23.set 25 (.ref (B + (0 + 24))))
    (h25 : f25 = f24.set 26 (.ref (B + (0 + 25))))
    (h26 : f26 = f25.set 27 (.ref (B + (0 + 26))))
    (h27 : f27 = f26.set 28 (.ref (B + (0 + 27))))
    (h28 : f28 = f27.set 29 (.ref (B + (0 + 28))))
    (h29 : f29 = f28.set 30 (.ref (B + (0 + 29))))
    (h30 : f30 = f29.set 31 (.ref (B + (0 + 30))))
    (h31 : f31 = f30.set 32 (.ref (B + (0 + 31))))
    (h32 : f32 = f31.set 43 (.int (-1)))
    (h33 : f33 = f32.set 46 (.ref (B + (0 + 32))))
    (h34 : f34 = f33.set 47 (.ref (B + (0 + 33))))
    (h35 : f35 = f34.set 49 (.ref (B + (0 + 34))))
    (h36 : f36 = f35.set 50 (.ref (B + (0 + 35))))
    (h37 : f37 = f36.set 51 (.ref (B + (0 + 36))))
    (h38 : f38 = f37.set 52 (.ref (B + (0 + 37))))
    (h39 : f39 = f38.set 53 (.ref (B + (0 + 38))))
    (h40 : f40 = f39.set 54 (.ref (B + (0 + 39))))
    (h41 : f41 = f40.set 55 (.ref (B + (0 + 40))))
    (h42 : f42 = f41.set 56 (.ref (B + (0 + 41))))
    (h43 : f43 = f42.set 57 (.ref (B + (0 + 42))))
    (h44 : f44 = f43.set 58 (.ref (B + (0 + 43))))
    (h45 : f45 = f44.set 59 (.ref (B + (0 + 44))))
    (h46 : f46 = f45.set 63 (.ref (B + (0 + 45))))
    (h47 : f47 = f46.set 64 (.ref (B + (0 + 46))))
    (h48 : f48 = f47.set 65 (.ref (B + (0 + 47))))
    (h49 : f49 = f48.set 66 (.ref (B + (0 + 48))))
    (h50 : f50 = f49.set 67 (.ref (B + (0 + 49))))
    (h51 : f51 = f50.set 68 (.ref (B + (0 + 50))))
    (h52 : f52 = f51.set 69 (.ref (B + (0 + 51))))
    (h53 : f53 = f52.set 71 (.ref (B + (0 + 52))))
    (h54 : f54 = f53.set 72 (.ref (B + (0 + 53))))
    (h55 : f55 = f54.set 73 (.ref (B + (0 + 54))))
    (h56 : f56 = f55.set 74 (.ref (B + (0 + 55))))
    (h57 : f57 = f56.set 75 (.ref (B + (0 + 56))))
    (h58 : f58 = f57.set 78 (.ref (B + (0 + 57))))
    (h59 : f59 = f58.set 79 (.ref (B + (0 + 58))))
    (h60 : f60 = f59.set 80 (.ref (B + (0 + 59))))
    (h61 : f61 = f60.set 81 (.ref (B + (0 + 60))))
    (h62 : f62 = f61.set 87 (.ref (B + (0 + 61))))
    (h63 : f63 = f62.set 88 (.ref (B + (0 + 62))))
    (h64 : f64 = f63.set 89 (.ref (B + (0 + 63))))
    (h65 : f65 = f64.set 90 (.ref (B + (0 + 64))))
    (h66 : f66 = f65.set 91 (.ref (B + (0 + 65))))
    (h67 : f67 = f66.set 93 (.ref (B + (0 + 66))))
    (h68 : f68 = f67.set 95 (.int (-1)))
    (h69 : f69 = f68.set 96 (.ref (B + (0 + 67))))
    (h70 : f70 = f69.set 97 (.ref (B + (0 + 68))))
    (h71 : f71 = f70.set 98 (.ref (B + (0 + 69))))
    (h72 : f72 = f71.set 99 (.ref (B + (0 + 70))))
    (h73 : f73 = f72.set 100 (.ref (B + (0 + 71))))
    : f73 = fsl (GM D ca (fun i => if i < 72 then B + i else ad i)) hM0 10 0 := by
  obtain ⟨F, hF⟩ : ∃ F : Nat → Value, F = fval (GM D ca (fun i => if i < 72 then B + i else ad i)) hM0 10 0 := ⟨_, rfl⟩
  have k0 : f0 = (List.range 105).map (fun j => if j ∈ ([] : List Nat) then F j else dv10 j) := by
    rw [h0]
    unfold d10
    refine List.map_congr_left (fun j _ => ?_)
    rw [if_neg List.not_mem_nil]; rfl
  obtain ⟨A0, q0⟩ : ∃ A : List Nat, A = [] := ⟨_, rfl⟩
  rw [← q0] at k0
  have k1 : f1 = (List.range 105).map (fun j => if j ∈ 1 :: A0 then F j else dv10 j) := by rw [h1, k0]; exact set_step F dv10 A0 105 1 (by rw [hF]; rfl)
  obtain ⟨A1, q1⟩ : ∃ A : List Nat, A = 1 :: A0 := ⟨_, rfl⟩
  rw [← q1] at k1
  have k2 : f2 = (List.range 105).map (fun j => if j ∈ 3 :: A1 then F j else dv10 j) := by rw [h2, k1]; exact set_step F dv10 A1 105 3 (by rw [hF]; rfl)
  obtain ⟨A2, q2⟩ : ∃ A : List Nat, A = 3 :: A1 := ⟨_, rfl⟩
  rw [← q2] at k2
  have k3 : f3 = (List.range 105).map (fun j => if j ∈ 4 :: A2 then F j else dv10 j) := by rw [h3, k2]; exact set_step F dv10 A2 105 4 (by rw [hF]; rfl)
  obtain ⟨A3, q3⟩ : ∃ A : List Nat, A = 4 :: A2 := ⟨_, rfl⟩
  rw [← q3] at k3
  have k4 : f4 = (List.range 105).map (fun j => if j ∈ 5 :: A3 then F j else dv10 j) := by rw [h4, k3]; exact set_step F dv10 A3 105 5 (by rw [hF]; rfl)
  obtain ⟨A4, q4⟩ : ∃ A : List Nat, A = 5 :: A3 := ⟨_, rfl⟩
  rw [← q4] at k4
  have k5 : f5 = (List.range 105).map (fun j => if j ∈ 6 :: A4 then F j else dv10 j) := by rw [h5, k4]; exact set_step F dv10 A4 105 6 (by rw [hF]; rfl)
  obtain ⟨A5, q5⟩ : ∃ A : List Nat, A = 6 :: A4 := ⟨_, rfl⟩
  rw [← q5] at k5
  have k6 : f6 = (List.range 105).map (fun j => if j ∈ 7 :: A5 then F j else dv10 j) := by rw [h6, k5]; exact set_step F dv10 A5 105 7 (by rw [hF]; rfl)
  obtain ⟨A6, q6⟩ : ∃ A : List Nat, A = 7 :: A5 := ⟨_, rfl⟩
  rw [← q6] at k6
  have k7 : f7 = (List.range 105).map (fun j => if j ∈ 8 :: A6 then F j else dv10 j) := by rw [h7, k6]; exact set_step F dv10 A6 105 8 (by rw [hF]; rfl)
  obtain ⟨A7, q7⟩ : ∃ A : List Nat, A = 8 :: A6 := ⟨_, rfl⟩
  rw [← q7] at k7
  have k8 : f8 = (List.range 105).map (fun j => if j ∈ 9 :: A7 then F j else dv10 j) := by rw [h8, k7]; exact set_step F dv10 A7 105 9 (by rw [hF]; rfl)
  obtain ⟨A8, q8⟩ : ∃ A : List Nat, A = 9 :: A7 := ⟨_, rfl⟩
  rw [← q8] at k8
  have k9 : f9 = (List.range 105).map (fun j => if j ∈ 10 :: A8 then F j else dv10 j) := by rw [h9, k8]; exact set_step F dv10 A8 105 10 (by rw [hF]; rfl)
  obtain ⟨A9, q9⟩ : ∃ A : List Nat, A = 10 :: A8 := ⟨_, rfl⟩
  rw [← q9] at k9
  have k10 : f10 = (List.range 105).map (fun j => if j ∈ 11 :: A9 then F j else dv10 j) := by rw [h10, k9]; exact set_step F dv10 A9 105 11 (by rw [hF]; rfl)
  obtain ⟨A10, q10⟩ : ∃ A : List Nat, A = 11 :: A9 := ⟨_, rfl⟩
  rw [← q10] at k10
  have k11 : f11 = (List.range 105).map (fun j => if j ∈ 12 :: A10 then F j else dv10 j) := by rw [h11, k10]; exact set_step F dv10 A10 105 12 (by rw [hF]; rfl)
  obtain ⟨A11, q11⟩ : ∃ A : List Nat, A = 12 :: A10 := ⟨_, rfl⟩
  rw [← q11] at k11
  have k12 : f12 = (List.range 105).map (fun j => if j ∈ 13 :: A11 then F j else dv10 j) := by rw [h12, k11]; exact set_step F dv10 A11 105 13 (by rw [hF]; rfl)
  obtain ⟨A12, q12⟩ : ∃ A : List Nat, A = 13 :: A11 := ⟨_, rfl⟩
  rw [← q12] at k12
  have k13 : f13 = (List.range 105).map (fun j => if j ∈ 14 :: A12 then F j else dv10 j) := by rw [h13, k12]; exact set_step F dv10 A12 105 14 (by rw [hF]; rfl)
  obtain ⟨A13, q13⟩ : ∃ A : List Nat, A = 14 :: A12 := ⟨_, rfl⟩
  rw [← q13] at k13
  have k14 : f14 = (List.range 105).map (fun j => if j ∈ 15 :: A13 then F j else dv10 j) := by rw [h14, k13]; exact set_step F dv10 A13 105 15 (by rw [hF]; rfl)
  obtain ⟨A14, q14⟩ : ∃ A : List Nat, A = 15 :: A13 := ⟨_, rfl⟩
  rw [← q14] at k14
  have k15 : f15 = (List.range 105).map (fun j => if j ∈ 16 :: A14 then F j else dv10 j) := by rw [h15, k14]; exact set_step F dv10 A14 105 16 (by rw [hF]; rfl)
  obtain ⟨A15, q15⟩ : ∃ A : List Nat, A = 16 :: A14 := ⟨_, rfl⟩
  rw [← q15] at k15
  have k16 : f16 = (List.range 105).map (fun j => if j ∈ 17 :: A15 then F j else dv10 j) := by rw [h16, k15]; exact set_step F dv10 A15 105 17 (by rw [hF]; rfl)
  obtain ⟨A16, q16⟩ : ∃ A : List Nat, A = 17 :: A15 := ⟨_, rfl⟩
  rw [← q16] at k16
  have k17 : f17 = (List.range 105).map (fun j => if j ∈ 18 :: A16 then F j else dv10 j) := by rw [h17, k16]; exact set_step F dv10 A16 105 18 (by rw [hF]; rfl)
  obtain ⟨A17, q17⟩ : ∃ A : List Nat, A = 18 :: A16 := ⟨_, rfl⟩
  rw [← q17] at k17
  have k18 : f18 = (List.range 105).map (fun j => if j ∈ 19 :: A17 then F j else dv10 j) := by rw [h18, k17]; exact set_step F dv10 A17 105 19 (by rw [hF]; rfl)
  obtain ⟨A18, q18⟩ : ∃ A : List Nat, A = 19 :: A17 := ⟨_, rfl⟩
  rw [← q18] at k18
  have k19 : f19 = (List.range 105).map (fun j => if j ∈ 20 :: A18 then F j else dv10 j) := by rw [h19, k18]; exact set_step F dv10 A18 105 20 (by rw [hF]; rfl)
  obtain ⟨A19, q19⟩ : ∃ A : List Nat, A = 20 :: A18 := ⟨_, rfl⟩
  rw [← q19] at k19
  have k20 : f20 = (List.range 105).map (fun j => if j ∈ 21 :: A19 then F j else dv10 j) := by rw [h20, k19]; exact set_step F dv10 A19 105 21 (by rw [hF]; rfl)
  obtain ⟨A20, q20⟩ : ∃ A : List Nat, A = 21 :: A19 := ⟨_, rfl⟩
  rw [← q20] at k20
  have k21 : f21 = (List.range 105).map (fun j => if j ∈ 22 :: A20 then F j else dv10 j) := by rw [h21, k20]; exact set_step F dv10 A20 105 22 (by rw [hF]; rfl)
  obtain ⟨A21, q21⟩ : ∃ A : List Nat, A = 22 :: A20 := ⟨_, rfl⟩
  rw [← q21] at k21
  have k22 : f22 = (List.range 105).map (fun j => if j ∈ 23 :: A21 then F j else dv10 j) := by rw [h22, k21]; exact set_step F dv10 A21 105 23 (by rw [hF]; rfl)
  obtain ⟨A22, q22⟩ : ∃ A : List Nat, A = 23 :: A21 := ⟨_, rfl⟩
  rw [← q22] at k22
  have k23 : f23 = (List.range 105).map (fun j => if j ∈ 24 :: A22 then F j else dv10 j) := by rw [h23, k22]; exact set_step F dv10 A22 105 24 (by rw [hF]; rfl)
  obtain ⟨A23, q23⟩ : ∃ A : List Nat, A = 24 :: A22 := ⟨_, rfl⟩
  rw [← q23] at k23
  have k24 : f24 = (List.range 105).map (fun j => if j ∈ 25 :: A23 then F j else dv10 j) := by rw [h24, k23]; exact set_step F dv10 A23 105 25 (by rw [hF]; rfl)
  obtain ⟨A24, q24⟩ : ∃ A : List Nat, A = 25 :: A23 := ⟨_, rfl⟩
  rw [← q24] at k24
  have k25 : f25 = (List.range 105).map (fun j => if j ∈ 26 :: A24 then F j else dv10 j) := by rw [h25, k24]; exact set_step F dv10 A24 105 26 (by rw [hF]; rfl)
  obtain ⟨A25, q25⟩ : ∃ A : List Nat, A = 26 :: A24 := ⟨_, rfl⟩
  rw [← q25] at k25
  have k26 : f26 = (List.range 105).map (fun j => if j ∈ 27 :: A25 then F j else dv10 j) := by rw [h26, k25]; exact set_step F dv10 A25 105 27 (by rw [hF]; rfl)
  obtain ⟨A26, q26⟩ : ∃ A : List Nat, A = 27 :: A25 := ⟨_, rfl⟩
  rw [← q26] at k26
  have k27 : f27 = (List.range 105).map (fun j => if j ∈ 28 :: A26 then F j else dv10 j) := by rw [h27, k26]; exact set_step F dv10 A26 105 28 (by rw [hF]; rfl)
  obtain ⟨A27, q27⟩ : ∃ A : List Nat, A = 28 :: A26 := ⟨_, rfl⟩
  rw [← q27] at k27
  have k28 : f28 = (List.range 105).map (fun j => if j ∈ 29 :: A27 then F j else dv10 j) := by rw [h28, k27]; exact set_step F dv10 A27 105 29 (by rw [hF]; rfl)
  obtain ⟨A28, q28⟩ : ∃ A : List Nat, A = 29 :: A27 := ⟨_, rfl⟩
  rw [← q28] at k28
  have k29 : f29 = (List.range 105).map (fun j => if j ∈ 30 :: A28 then F j else dv10 j) := by rw [h29, k28]; exact set_step F dv10 A28 105 30 (by rw [hF]; rfl)
  obtain ⟨A29, q29⟩ : ∃ A : List Nat, A = 30 :: A28 := ⟨_, rfl⟩
  rw [← q29] at k29
  have k30 : f30 = (List.range 105).map (fun j => if j ∈ 31 :: A29 then F j else dv10 j) := by rw [h30, k29]; exact set_step F dv10 A29 105 31 (by rw [hF]; rfl)
  obtain ⟨A30, q30⟩ : ∃ A : List Nat, A = 31 :: A29 := ⟨_, rfl⟩
  rw [← q30] at k30
  have k31 : f31 = (List.range 105).map (fun j => if j ∈ 32 :: A30 then F j else dv10 j) := by rw [h31, k30]; exact set_step F dv10 A30 105 32 (by rw [hF]; rfl)
  obtain ⟨A31, q31⟩ : ∃ A : List Nat, A = 32 :: A30 := ⟨_, rfl⟩
  rw [← q31] at k31
  have k32 : f32 = (List.range 105).map (fun j => if j ∈ 43 :: A31 then F j else dv10 j) := by rw [h32, k31]; exact set_step F dv10 A31 105 43 (by rw [hF]; rfl)
  obtain ⟨A32, q32⟩ : ∃ A : List Nat, A = 43 :: A31 := ⟨_, rfl⟩
  rw [← q32] at k32
  have k33 : f33 = (List.range 105).map (fun j => if j ∈ 46 :: A32 then F j else dv10 j) := by rw [h33, k32]; exact set_step F dv10 A32 105 46 (by rw [hF]; rfl)
  obtain ⟨A33, q33⟩ : ∃ A : List Nat, A = 46 :: A32 := ⟨_, rfl⟩
  rw [← q33] at k33
  have k34 : f34 = (List.range 105).map (fun j => if j ∈ 47 :: A33 then F j else dv10 j) := by rw [h34, k33]; exact set_step F dv10 A33 105 47 (by rw [hF]; rfl)
  obtain ⟨A34, q34⟩ : ∃ A : List Nat, A = 47 :: A33 := ⟨_, rfl⟩
  rw [← q34] at k34
  have k35 : f35 = (List.range 105).map (fun j => if j ∈ 49 :: A34 then F j else dv10 j) := by rw [h35, k34]; exact set_step F dv10 A34 105 49 (by rw [hF]; rfl)
  obtain ⟨A35, q35⟩ : ∃ A : List Nat, A = 49 :: A34 := ⟨_, rfl⟩
  rw [← q35] at k35
  have k36 : f36 = (List.range 105).map (fun j => if j ∈ 50 :: A35 then F j else dv10 j) := by rw [h36, k35]; exact set_step F dv10 A35 105 50 (by rw [hF]; rfl)
  obtain ⟨A36, q36⟩ : ∃ A : List Nat, A = 50 :: A35 := ⟨_, rfl⟩
  rw [← q36] at k36
  have k37 : f37 = (List.range 105).map (fun j => if j ∈ 51 :: A36 then F j else dv10 j) := by rw [h37, k36]; exact set_step F dv10 A36 105 51 (by rw [hF]; rfl)
  obtain ⟨A37, q37⟩ : ∃ A : List Nat, A = 51 :: A36 := ⟨_, rfl⟩
  rw [← q37] at k37
  have k38 : f38 = (List.range 105).map (fun j => if j ∈ 52 :: A37 then F j else dv10 j) := by rw [h38, k37]; exact set_step F dv10 A37 105 52 (by rw [hF]; rfl)
  obtain ⟨A38, q38⟩ : ∃ A : List Nat, A = 52 :: A37 := ⟨_, rfl⟩
  rw [← q38] at k38
  have k39 : f39 = (List.range 105).map (fun j => if j ∈ 53 :: A38 then F j else dv10 j) := by rw [h39, k38]; exact set_step F dv10 A38 105 53 (by rw [hF]; rfl)
  obtain ⟨A39, q39⟩ : ∃ A : List Nat, A = 53 :: A38 := ⟨_, rfl⟩
  rw [← q39] at k39
  have k40 : f40 = (List.range 105).map (fun j => if j ∈ 54 :: A39 then F j else dv10 j) := by rw [h40, k39]; exact set_step F dv10 A39 105 54 (by rw [hF]; rfl)
  obtain ⟨A40, q40⟩ : ∃ A : List Nat, A = 54 :: A39 := ⟨_, rfl⟩
  rw [← q40] at k40
  have k41 : f41 = (List.range 105).map (fun j => if j ∈ 55 :: A40 then F j else dv10 j) := by rw [h41, k40]; exact set_step F dv10 A40 105 55 (by rw [hF]; rfl)
  obtain ⟨A41, q41⟩ : ∃ A : List Nat, A = 55 :: A40 := ⟨_, rfl⟩
  rw [← q41] at k41
  have k42 : f42 = (List.range 105).map (fun j => if j ∈ 56 :: A41 then F j else dv10 j) := by rw [h42, k41]; exact set_step F dv10 A41 105 56 (by rw [hF]; rfl)
  obtain ⟨A42, q42⟩ : ∃ A : List Nat, A = 56 :: A41 := ⟨_, rfl⟩
  rw [← q42] at k42
  have k43 : f43 = (List.range 105).map (fun j => if j ∈ 57 :: A42 then F j else dv10 j) := by rw [h43, k42]; exact set_step F dv10 A42 105 57 (by rw [hF]; rfl)
  obtain ⟨A43, q43⟩ : ∃ A : List Nat, A = 57 :: A42 := ⟨_, rfl⟩
  rw [← q43] at k43
  have k44 : f44 = (List.range 105).map (fun j => if j ∈ 58 :: A43 then F j else dv10 j) := by rw [h44, k43]; exact set_step F dv10 A43 105 58 (by rw [hF]; rfl)
  obtain ⟨A44, q44⟩ : ∃ A : List Nat, A = 58 :: A43 := ⟨_, rfl⟩
  rw [← q44] at k44
  have k45 : f45 = (List.range 105).map (fun j => if j ∈ 59 :: A44 then F j else dv10 j) := by rw [h45, k44]; exact set_step F dv10 A44 105 59 (by rw [hF]; rfl)
  obtain ⟨A45, q45⟩ : ∃ A : List Nat, A = 59 :: A44 := ⟨_, rfl⟩
  rw [← q45] at k45
  have k46 : f46 = (List.range 105).map (fun j => if j ∈ 63 :: A45 then F j else dv10 j) := by rw [h46, k45]; exact set_step F dv10 A45 105 63 (by rw [hF]; rfl)
  obtain ⟨A46, q46⟩ : ∃ A : List Nat, A = 63 :: A45 := ⟨_, rfl⟩
  rw [← q46] at k46
  have k47 : f47 = (List.range 105).map (fun j => if j ∈ 64 :: A46 then F j else dv10 j) := by rw [h47, k46]; exact set_step F dv10 A46 105 64 (by rw [hF]; rfl)
  obtain ⟨A47, q47⟩ : ∃ A : List Nat, A = 64 :: A46 := ⟨_, rfl⟩
  rw [← q47] at k47
  have k48 : f48 = (List.range 105).map (fun j => if j ∈ 65 :: A47 then F j else dv10 j) := by rw [h48, k47]; exact set_step F dv10 A47 105 65 (by rw [hF]; rfl)
  obtain ⟨A48, q48⟩ : ∃ A : List Nat, A = 65 :: A47 := ⟨_, rfl⟩
  rw [← q48] at k48
  have k49 : f49 = (List.range 105).map (fun j => if j ∈ 66 :: A48 then F j else dv10 j) := by rw [h49, k48]; exact set_step F dv10 A48 105 66 (by rw [hF]; rfl)
  obtain ⟨A49, q49⟩ : ∃ A : List Nat, A = 66 :: A48 := ⟨_, rfl⟩
  rw [← q49] at k49
  have k50 : f50 = (List.range 105).map (fun j => if j ∈ 67 :: A49 then F j else dv10 j) := by rw [h50, k49]; exact set_step F dv10 A49 105 67 (by rw [hF]; rfl)
  obtain ⟨A50, q50⟩ : ∃ A : List Nat, A = 67 :: A49 := ⟨_, rfl⟩
  rw [← q50] at k50
  have k51 : f51 = (List.range 105).map (fun j => if j ∈ 68 :: A50 then F j else dv10 j) := by rw [h51, k50]; exact set_step F dv10 A50 105 68 (by rw [hF]; rfl)
  obtain ⟨A51, q51⟩ : ∃ A : List Nat, A = 68 :: A50 := ⟨_, rfl⟩
  rw [← q51] at k51
  have k52 : f52 = (List.range 105).map (fun j => if j ∈ 69 :: A51 then F j else dv10 j) := by rw [h52, k51]; exact set_step F dv10 A51 105 69 (by rw [hF]; rfl)
  obtain ⟨A52, q52⟩ : ∃ A : List Nat, A = 69 :: A51 := ⟨_, rfl⟩
  rw [← q52] at k52
  have k53 : f53 = (List.range 105).map (fun j => if j ∈ 71 :: A52 then F j else dv10 j) := by rw [h53, k52]; exact set_step F dv10 A52 105 71 (by rw [hF]; rfl)
  obtain ⟨A53, q53⟩ : ∃ A : List Nat, A = 71 :: A52 := ⟨_, rfl⟩
  rw [← q53] at k53
  have k54 : f54 = (List.range 105).map (fun j => if j ∈ 72 :: A53 then F j else dv10 j) := by rw [h54, k53]; exact set_step F dv10 A53 105 72 (by rw [hF]; rfl)
  obtain ⟨A54, q54⟩ : ∃ A : List Nat, A = 72 :: A53 := ⟨_, rfl⟩
  rw [← q54] at k54
  have k55 : f55 = (List.range 105).map (fun j => if j ∈ 73 :: A54 then F j else dv10 j) := by rw [h55, k54]; exact set_step F dv10 A54 105 73 (by rw [hF]; rfl)
  obtain ⟨A55, q55⟩ : ∃ A : List Nat, A = 73 :: A54 := ⟨_, rfl⟩
  rw [← q55] at k55
  have k56 : f56 = (List.range 105).map (fun j => if j ∈ 74 :: A55 then F j else dv10 j) := by rw [h56, k55]; exact set_step F dv10 A55 105 74 (by rw [hF]; rfl)
  obtain ⟨A56, q56⟩ : ∃ A : List Nat, A = 74 :: A55 := ⟨_, rfl⟩
  rw [← q56] at k56
  have k57 : f57 = (List.range 105).map (fun j => if j ∈ 75 :: A56 then F j else dv10 j) := by rw [h57, k56]; exact set_step F dv10 A56 105 75 (by rw [hF]; rfl)
  obtain ⟨A57, q57⟩ : ∃ A : List Nat, A = 75 :: A56 := ⟨_, rfl⟩
  rw [← q57] at k57
  have k58 : f58 = (List.range 105).map (fun j => if j ∈ 78 :: A57 then F j else dv10 j) := by rw [h58, k57]; exact set_step F dv10 A57 105 78 (by rw [hF]; rfl)
  obtain ⟨A58, q58⟩ : ∃ A : List Nat, A = 78 :: A57 := ⟨_, rfl⟩
  rw [← q58] at k58
  have k59 : f59 = (List.range 105).map (fun j => if j ∈ 79 :: A58 then F j else dv10 j) := by rw [h59, k58]; exact set_step F dv10 A58 105 79 (by rw [hF]; rfl)
  obtain ⟨A59, q59⟩ : ∃ A : List Nat, A = 79 :: A58 := ⟨_, rfl⟩
  rw [← q59] at k59
  have k60 : f60 = (List.range 105).map (fun j => if j ∈ 80 :: A59 then F j else dv10 j) := by rw [h60, k59]; exact set_step F dv10 A59 105 80 (by rw [hF]; rfl)
  obtain ⟨A60, q60⟩ : ∃ A : List Nat, A = 80 :: A59 := ⟨_, rfl⟩
  rw [← q60] at k60
  have k61 : f61 = (List.range 105).map (fun j => if j ∈ 81 :: A60 then F j else dv10 j) := by rw [h61, k60]; exact set_step F dv10 A60 105 81 (by rw [hF]; rfl)
  obtain ⟨A61, q61⟩ : ∃ A : List Nat, A = 81 :: A60 := ⟨_, rfl⟩
  rw [← q61] at k61
  have k62 : f62 = (List.range 105).map (fun j => if j ∈ 87 :: A61 then F j else dv10 j) := by rw [h62, k61]; exact set_step F dv10 A61 105 87 (by rw [hF]; rfl)
  obtain ⟨A62, q62⟩ : ∃ A : List Nat, A = 87 :: A61 := ⟨_, rfl⟩
  rw [← q62] at k62
  have k63 : f63 = (List.range 105).map (fun j => if j ∈ 88 :: A62 then F j else dv10 j) := by rw [h63, k62]; exact set_step F dv10 A62 105 88 (by rw [hF]; rfl)
  obtain ⟨A63, q63⟩ : ∃ A : List Nat, A = 88 :: A62 := ⟨_, rfl⟩
  rw [← q63] at k63
  have k64 : f64 = (List.range 105).map (fun j => if j ∈ 89 :: A63 then F j else dv10 j) := by rw [h64, k63]; exact set_step F dv10 A63 105 89 (by rw [hF]; rfl)
  obtain ⟨A64, q64⟩ : ∃ A : List Nat, A = 89 :: A63 := ⟨_, rfl⟩
  rw [← q64] at k64
  have k65 : f65 = (List.range 105).map (fun j => if j ∈ 90 :: A64 then F j else dv10 j) := by rw [h65, k64]; exact set_step F dv10 A64 105 90 (by rw [hF]; rfl)
  obtain ⟨A65, q65⟩ : ∃ A : List Nat, A = 90 :: A64 := ⟨_, rfl⟩
  rw [← q65] at k65
  have k66 : f66 = (List.range 105).map (fun j => if j ∈ 91 :: A65 then F j else dv10 j) := by rw [h66, k65]; exact set_step F dv10 A65 105 91 (by rw [hF]; rfl)
  obtain ⟨A66, q66⟩ : ∃ A : List Nat, A = 91 :: A65 := ⟨_, rfl⟩
  rw [← q66] at k66
  have k67 : f67 = (List.range 105).map (fun j => if j ∈ 93 :: A66 then F j else dv10 j) := by rw [h67, k66]; exact set_step F dv10 A66 105 93 (by rw [hF]; rfl)
  obtain ⟨A67, q67⟩ : ∃ A : List Nat, A = 93 :: A66 := ⟨_, rfl⟩
  rw [← q67] at k67
  have k68 : f68 = (List.range 105).map (fun j => if j ∈ 95 :: A67 then F j else dv10 j) := by rw [h68, k67]; exact set_step F dv10 A67 105 95 (by rw [hF]; rfl)
  obtain ⟨A68, q68⟩ : ∃ A : List Nat, A = 95 :: A67 := ⟨_, rfl⟩
  rw [← q68] at k68
  have k69 : f69 = (List.range 105).map (fun j => if j ∈ 96 :: A68 then F j else dv10 j) := by rw [h69, k68]; exact set_step F dv10 A68 105 96 (by rw [hF]; rfl)
  obtain ⟨A69, q69⟩ : ∃ A : List Nat, A = 96 :: A68 := ⟨_, rfl⟩
  rw [← q69] at k69
  have k70 : f70 = (List.range 105).map (fun j => if j ∈ 97 :: A69 then F j else dv10 j) := by rw [h70, k69]; exact set_step F dv10 A69 105 97 (by rw [hF]; rfl)
  obtain ⟨A70, q70⟩ : ∃ A : List Nat, A = 97 :: A69 := ⟨_, rfl⟩
  rw [← q70] at k70
  have k71 : f71 = (List.range 105).map (fun j => if j ∈ 98 :: A70 then F j else dv10 j) := by rw [h71, k70]; exact set_step F dv10 A70 105 98 (by rw [hF]; rfl)
  obtain ⟨A71, q71⟩ : ∃ A : List Nat, A = 98 :: A70 := ⟨_, rfl⟩
  rw [← q71] at k71
  have k72 : f72 = (List.range 105).map (fun j => if j ∈ 99 :: A71 then F j else dv10 j) := by rw [h72, k71]; exact set_step F dv10 A71 105 99 (by rw [hF]; rfl)
  obtain ⟨A72, q72⟩ : ∃ A : List Nat, A = 99 :: A71 := ⟨_, rfl⟩
  rw [← q72] at k72
  have k73 : f73 = (List.range 105).map (fun j => if j ∈ 100 :: A72 then F j else dv10 j) := by rw [h73, k72]; exact set_step F dv10 A72 105 100 (by rw [hF]; rfl)
  obtain ⟨A73, q73⟩ : ∃ A : List Nat, A = 100 :: A72 := ⟨_, rfl⟩
  rw [← q73] at k73
  have qA : A73 = ks10.reverse := by rw [q73, q72, q71, q70, q69, q68, q67, q66, q65, q64, q63, q62, q61, q60, q59, q58, q57, q56, q55, q54, q53, q52, q51, q50, q49, q48, q47, q46, q45, q44, q43, q42, q41, q40, q39, q38, q37, q36, q35, q34, q33, q32, q31, q30, q29, q28, q27, q26, q25, q24, q23, q22, q21, q20, q19, q18, q17, q16, q15, q14, q13, q12, q11, q10, q9, q8, q7, q6, q5, q4, q3, q2, q1, q0]; rfl
  rw [k73, qA]
  unfold fsl
  refine List.map_congr_left (fun j hj => ?_)
  have hj' : j < 105 := List.mem_range.mp hj
  have hc : ∀ j, j < 105 → j ∈ ks10.reverse ∨ (fk 10 j = 0 ∧ gI hM0 0 j = 0) := by decide +kernel
  rw [hF]
  rcases hc j hj' with h | ⟨h1, h2⟩
  · rw [if_pos h]
  · by_cases hm : j ∈ ks10.reverse
    · rw [if_pos hm]
    · rw [if_neg hm]
      unfold dv10 fval
      rw [if_pos h1, h1]
      show Value.int 0 = .int (gI hM0 0 j)
      rw [h2]
