theorem tb_m1 {w : Cond} (h : w ∈ tables_1_1) : w ∈ tables_1 := (List.mem_append_left _ h)
theorem tb_in1 {w : Cond} {i : Nat} (h : tables_1_1[i]? = some w) (g : goodWord w = true) : w ∈ LT := LT_in (List.mem_append_right _ (tb_m1 (List.mem_of_getElem? h))) g
theorem tb_nt1 {w : Cond} {i : Nat} (h : tables_1_1[i]? = some w) (g : isNest w = true) : w ∈ NT := NT_in (List.mem_append_right _ (tb_m1 (List.mem_of_getElem? h))) g
theorem tb_m2 {w : Cond} (h : w ∈ tables_1_2) : w ∈ tables_1 := (List.mem_append_right _ (List.mem_append_left _ h))
theorem tb_in2 {w : Cond} {i : Nat} (h : tables_1_2[i]? = some w) (g : goodWord w = true) : w ∈ LT := LT_in (List.mem_append_right _ (tb_m2 (List.mem_of_getElem? h))) g
theorem tb_nt2 {w : Cond} {i : Nat} (h : tables_1_2[i]? = some w) (g : isNest w = true) : w ∈ NT := NT_in (List.mem_append_right _ (tb_m2 (List.mem_of_getElem? h))) g
theorem tb_m3 {w : Cond} (h : w ∈ tables_1_3) : w ∈ tables_1 := (List.mem_append_right _ (List.mem_append_right _ (List.mem_append_left _ h)))
theorem tb_in3 {w : Cond} {i : Nat} (h : tables_1_3[i]? = some w) (g : goodWord w = true) : w ∈ LT := LT_in (List.mem_append_right _ (tb_m3 (List.mem_of_getElem? h))) g
theorem tb_nt3 {w : Cond} {i : Nat} (h : tables_1_3[i]? = some w) (g : isNest w = true) : w ∈ NT := NT_in (List.mem_append_right _ (tb_m3 (List.mem_of_getElem? h))) g
theorem tb_m4 {w : Cond} (h : w ∈ tables_1_4) : w ∈ tables_1 := (List.mem_append_right _ (List.mem_append_right _ (List.mem_append_right _ (List.mem_append_left _ h))))
theorem tb_in4 {w : Cond} {i : Nat} (h : tables_1_4[i]? = some w) (g : goodWord w = true) : w ∈ LT := LT_in (List.mem_append_right _ (tb_m4 (List.mem_of_getElem? h))) g
theorem tb_nt4 {w : Cond} {i : Nat} (h : tables_1_4[i]? = some w) (g : isNest w = true) : w ∈ NT := NT_in (List.mem_append_right _ (tb_m4 (List.mem_of_getElem? h))) g
theorem tb_m5 {w : Cond} (h : w ∈ tables_1_5) : w ∈ tables_1 := (List.mem_append_right _ (List.mem_append_right _ (List.mem_append_right _ (List.mem_append_right _ (List.mem_append_left _ h)))))
theorem tb_in5 {w : Cond} {i : Nat} (h : tables_1_5[i]? = some w) (g : goodWord w = true) : w ∈ LT := LT_in (List.mem_append_right _ (tb_m5 (List.mem_of_getElem? h))) g
theorem tb_nt5 {w : Cond} {i : Nat} (h : tables_1_5[i]? = some w) (g : isNest w = true) : w ∈ NT := NT_in (List.mem_append_right _ (tb_m5 (List.mem_of_getElem? h))) g
theorem tb_m6 {w : Cond} (h : w ∈ tables_1_6) : w ∈ tables_1 := (List.mem_append_right _ (List.mem_append_right _ (List.mem_append_right _ (List.mem_append_right _ (List.mem_append_right _ (List.mem_append_left _ h))))))
theorem tb_in6 {w : Cond} {i : Nat} (h : tables_1_6[i]? = some w) (g : goodWord w = true) : w ∈ LT := LT_in (List.mem_append_right _ (tb_m6 (List.mem_of_getElem? h))) g
theorem tb_nt6 {w : Cond} {i : Nat} (h : tables_1_6[i]? = some w) (g : isNest w = true) : w ∈ NT := NT_in (List.mem_append_right _ (tb_m6 (List.mem_of_getElem? h))) g
theorem tb_m7 {w : Cond} (h : w ∈ tables_1_7) : w ∈ tables_1 := (List.mem_append_right _ (List.mem_append_right _ (List.mem_append_right _ (List.mem_append_right _ (List.mem_append_right _ (List.mem_append_right _ (List.mem_append_left _ h)))))))
theorem tb_in7 {w : Cond} {i : Nat} (h : tables_1_7[i]? = some w) (g : goodWord w = true) : w ∈ LT := LT_in (List.mem_append_right _ (tb_m7 (List.mem_of_getElem? h))) g
theorem tb_nt7 {w : Cond} {i : Nat} (h : tables_1_7[i]? = some w) (g : isNest w = true) : w ∈ NT := NT_in (List.mem_append_right _ (tb_m7 (List.mem_of_getElem? h))) g
theorem tb_m8 {w : Cond} (h : w ∈ tables_1_8) : w ∈ tables_1 := (List.mem_append_right _ (List.mem_append_right _ (List.mem_append_right _ (List.mem_append_right _ (List.mem_append_right _ (List.mem_append_right _ (List.mem_append_right _ (List.mem_append_left _ h))))))))
theorem tb_in8 {w : Cond} {i : Nat} (h : tables_1_8[i]? = some w) (g : goodWord w = true) : w ∈ LT := LT_in (List.mem_append_right _ (tb_m8 (List.mem_of_getElem? h))) g
theorem tb_nt8 {w : Cond} {i : Nat} (h : tables_1_8[i]? = some w) (g : isNest w = true) : w ∈ NT := NT_in (List.mem_append_right _ (tb_m8 (List.mem_of_getElem? h))) g
theorem tb_m9 {w : Cond} (h : w ∈ tables_1_9) : w ∈ tables_1 := (List.mem_append_right _ (List.mem_append_right _ (List.mem_append_right _ (List.mem_append_right _ (List.mem_append_right _ (List.mem_append_right _ (List.mem_append_right _ (List.mem_append_right _ (List.mem_append_left _ h)))))))))
theorem tb_in9 {w : Cond} {i : Nat} (h : tables_1_9[i]? = some w) (g : goodWord w = true) : w ∈ LT := LT_in (List.mem_append_right _ (tb_m9 (List.mem_of_getElem? h))) g
theorem tb_nt9 {w : Cond} {i : Nat} (h : tables_1_9[i]? = some w) (g : isNest w = true) : w ∈ NT := NT_in (List.mem_append_right _ (tb_m9 (List.mem_of_getElem? h))) g
theorem tb_m10 {w : Cond} (h : w ∈ tables_1_10) : w ∈ tables_1 := (List.mem_append_right _ (List.mem_append_right _ (List.mem_append_right _ (List.mem_append_right _ (List.mem_append_right _ (List.mem_append_right _ (List.mem_append_right _ (List.mem_append_right _ (List.mem_append_right _ h)))))))))
theorem tb_in10 {w : Cond} {i : Nat} (h : tables_1_10[i]? = some w) (g : goodWord w = true) : w ∈ LT := LT_in (List.mem_append_right _ (tb_m10 (List.mem_of_getElem? h))) g
theorem tb_nt10 {w : Cond} {i : Nat} (h : tables_1_10[i]? = some w) (g : isNest w = true) : w ∈ NT := NT_in (List.mem_append_right _ (tb_m10 (List.mem_of_getElem? h))) g
theorem tb_in {w : Cond} {i : Nat} (h : tables_1[i]? = some w) (g : goodWord w = true) : w ∈ LT := LT_in (List.mem_append_right _ (List.mem_of_getElem? h)) g
theorem sl_in {y : MethodName} {i n : Nat} (h : lw_privs[i]? = some (y, n)) (g : goodWord (Cond.selects y.cls y y) = true) : Cond.selects y.cls y y ∈ LT := LT_in (List.mem_append_left _ (List.mem_map.mpr ⟨(y, n), List.mem_of_getElem? h, rfl⟩)) g
theorem tb_nt {w : Cond} {i : Nat} (h : tables_1[i]? = some w) (g : isNest w = true) : w ∈ NT := NT_in (List.mem_append_right _ (List.mem_of_getElem? h)) g
theorem in_by (ws : List Cond) (ps : List Nat) (hp : ws = ps.filterMap (fun i => tables_1[i]?)) (h : ws.all goodWord = true) : ∀ w ∈ ws, w ∈ LT := by
  intro w hw
  have g := List.all_eq_true.mp h w hw
  rw [hp] at hw
  obtain ⟨i, -, hi⟩ := List.mem_filterMap.mp hw
  exact tb_in hi g
set_option maxRecDepth 20000 in
theorem cf_0 : CF 0 RX0 TX0 5 tyX0 := ⟨rfl, rfl, in_by _ [300, 302, 304, 306, 308] (by decide +kernel) (by decide +kernel), tyX0_ok, nmX0⟩
set_option maxRecDepth 20000 in
theorem cf_1 : CF 1 RX1 TX1 5 tyX1 := ⟨rfl, rfl, in_by _ [201, 203, 205, 207, 209] (by decide +kernel) (by decide +kernel), tyX1_ok, nmX1⟩
set_option maxRecDepth 20000 in
theorem cf_2 : CF 2 RX2 TX2 8 tyX2 := ⟨rfl, rfl, in_by _ [393, 395, 397, 399, 401, 403, 405, 407] (by decide +kernel) (by decide +kernel), tyX2_ok, nmX2⟩
set_option maxRecDepth 20000 in
theorem cf_3 : CF 3 RX3 TX3 7 tyX3 := ⟨rfl, rfl, in_by _ [328, 330, 332, 334, 336, 338, 340] (by decide +kernel) (by decide +kernel), tyX3_ok, nmX3⟩
set_option maxRecDepth 20000 in
theorem cf_4 : CF 4 RX4 TX4 7 tyX4 := ⟨rfl, rfl, in_by _ [357, 359, 361, 363, 365, 367, 369] (by decide +kernel) (by decide +kernel), tyX4_ok, nmX4⟩
set_option maxRecDepth 20000 in
theorem cf_5 : CF 5 RX5 TX5 10 tyX5 := ⟨rfl, rfl, in_by _ [134, 136, 138, 140, 142, 144, 146, 148, 150, 152] (by decide +kernel) (by decide +kernel), tyX5_ok, nmX5⟩
set_option maxRecDepth 20000 in
theorem cf_6 : CF 6 RX6 TX6 4 tyX6 := ⟨rfl, rfl, in_by _ [178, 180, 182, 184] (by decide +kernel) (by decide +kernel), tyX6_ok, nmX6⟩
set_option maxRecDepth 20000 in
theorem cf_7 : CF 7 RX7 TX7 7 tyX7 := ⟨rfl, rfl, in_by _ [105, 107, 109, 111, 113, 115, 117] (by decide +kernel) (by decide +kernel), tyX7_ok, nmX7⟩
set_option maxRecDepth 20000 in
theorem cf_8 : CF 8 RX8 TX8 13 tyX8 := ⟨rfl, rfl, in_by _ [262, 264, 266, 268, 270, 272, 274, 276, 278, 280, 282, 284, 286] (by decide +kernel) (by decide +kernel), tyX8_ok, nmX8⟩
set_option maxRecDepth 20000 in
theorem cf_9 : CF 9 RX9 TX9 18 tyX9 := ⟨rfl, rfl, in_by _ [431, 433, 435, 437, 439, 441, 443, 445, 447, 449, 451, 453, 455, 457, 459, 461, 463, 465] (by decide +kernel) (by decide +kernel), tyX9_ok, nmX9⟩
set_option maxRecDepth 20000 in
theorem cf_10 : CF 10 RX10 TX10 105 tyX10 := ⟨rfl, rfl, in_by _ [1500, 1502, 1504, 1506, 1508, 1510, 1512, 1514, 1516, 1518, 1520, 1522, 1524, 1526, 1528, 1530, 1532, 1534, 1536, 1538, 1540, 1542, 1544, 1546, 1548, 1550, 1552, 1554, 1556, 1558, 1560, 1562, 1564, 1566, 1568, 1570, 1572, 1574, 1576, 1578, 1580, 1582, 1584, 1586, 1588, 1590, 1592, 1594, 1596, 1598, 1600, 1602, 1604, 1606, 1608, 1610, 1612, 1614, 1616, 1618, 1620, 1622, 1624, 1626, 1628, 1630, 1632, 1634, 1636, 1638, 1640, 1642, 1644, 1646, 1648, 1650, 1652, 1654, 1656, 1658, 1660, 1662, 1664, 1666, 1668, 1670, 1672, 1674, 1676, 1678, 1680, 1682, 1684, 1686, 1688, 1690, 1692, 1694, 1696, 1698, 1700, 1702, 1704, 1706, 1708] (by decide +kernel) (by decide +kernel), tyX10_ok, nmX10⟩
theorem fl_X7_11 : FL RX7 11 (TX7 0) := tb_in1 (i := 95) (by decide +kernel) (by decide +kernel)
theorem fl_X7_27 : FL RX7 27 (TX7 1) := tb_in1 (i := 96) (by decide +kernel) (by decide +kernel)
theorem fl_X7_31 : FL RX7 31 (TX7 2) := tb_in1 (i := 97) (by decide +kernel) (by decide +kernel)
theorem fl_X7_34 : FL RX7 34 (TX7 3) := tb_in1 (i := 98) (by decide +kernel) (by decide +kernel)
theorem fl_X5_54 : FN RX5 54 (TX7 4) := tb_nt1 (i := 99) (by decide +kernel) (by decide +kernel)
theorem fl_X7_44 : FL RX7 44 (TX7 4) := tb_in1 (i := 100) (by decide +kernel) (by decide +kernel)
theorem fl_X5_74 : FN RX5 74 (TX7 5) := tb_nt1 (i := 101) (by decide +kernel) (by decide +kernel)
theorem fl_X7_41 : FL RX7 41 (TX7 5) := tb_in1 (i := 102) (by decide +kernel) (by decide +kernel)
theorem fl_X5_77 : FN RX5 77 (TX7 6) := tb_nt1 (i := 103) (by decide +kernel) (by decide +kernel)
theorem fl_X7_64 : FL RX7 64 (TX7 6) := tb_in1 (i := 104) (by decide +kernel) (by decide +kernel)
theorem fl_X5_12 : FL RX5 12 (TX5 0) := tb_in1 (i := 122) (by decide +kernel) (by decide +kernel)
theorem fl_X5_18 : FL RX5 18 (TX5 1) := tb_in1 (i := 123) (by decide +kernel) (by decide +kernel)
theorem fl_X5_22 : FL RX5 22 (TX5 2) := tb_in1 (i := 124) (by decide +kernel) (by decide +kernel)
theorem fl_X5_25 : FL RX5 25 (TX5 3) := tb_in1 (i := 125) (by decide +kernel) (by decide +kernel)
theorem fl_X5_193 : FL RX5 193 (TX5 4) := tb_in1 (i := 126) (by decide +kernel) (by decide +kernel)
theorem fl_X5_196 : FL RX5 196 (TX5 5) := tb_in1 (i := 127) (by decide +kernel) (by decide +kernel)
theorem fl_X5_45 : FL RX5 45 (TX5 6) := tb_in1 (i := 128) (by decide +kernel) (by decide +kernel)
theorem fl_X5_36 : FL RX5 36 (TX5 7) := tb_in1 (i := 129) (by decide +kernel) (by decide +kernel)
theorem fl_X5_48 : FL RX5 48 (TX5 8) := tb_in1 (i := 130) (by decide +kernel) (by decide +kernel)
theorem fl_X9_109 : FN RX9 109 (TX5 8) := tb_nt1 (i := 131) (by decide +kernel) (by decide +kernel)
theorem fl_X5_28 : FL RX5 28 (TX5 9) := tb_in1 (i := 132) (by decide +kernel) (by decide +kernel)
theorem fl_X9_112 : FN RX9 112 (TX5 9) := tb_nt1 (i := 133) (by decide +kernel) (by decide +kernel)
theorem fl_X6_9 : FL RX6 9 (TX6 0) := tb_in1 (i := 167) (by decide +kernel) (by decide +kernel)
theorem fl_X6_15 : FL RX6 15 (TX6 1) := tb_in1 (i := 168) (by decide +kernel) (by decide +kernel)
theorem fl_X6_18 : FL RX6 18 (TX6 2) := tb_in1 (i := 169) (by decide +kernel) (by decide +kernel)
theorem fl_X4_37 : FN RX4 37 (TX6 3) := tb_nt1 (i := 170) (by decide +kernel) (by decide +kernel)
theorem fl_X6_22 : FL RX6 22 (TX6 3) := tb_in1 (i := 171) (by decide +kernel) (by decide +kernel)
theorem fl_X3_47 : FN RX3 47 (TX6 3) := tb_nt1 (i := 172) (by decide +kernel) (by decide +kernel)
theorem fl_X0_35 : FN RX0 35 (TX6 3) := tb_nt1 (i := 173) (by decide +kernel) (by decide +kernel)
theorem fl_X2_38 : FN RX2 38 (TX6 3) := tb_nt1 (i := 174) (by decide +kernel) (by decide +kernel)
theorem fl_X8_72 : FN RX8 72 (TX6 3) := tb_nt1 (i := 175) (by decide +kernel) (by decide +kernel)
theorem fl_X5_129 : FN RX5 129 (TX6 3) := tb_nt1 (i := 176) (by decide +kernel) (by decide +kernel)
theorem fl_X9_208 : FN RX9 208 (TX6 3) := tb_nt1 (i := 177) (by decide +kernel) (by decide +kernel)
theorem fl_X1_11 : FL RX1 11 (TX1 0) := tb_in1 (i := 193) (by decide +kernel) (by decide +kernel)
theorem fl_X1_17 : FL RX1 17 (TX1 1) := tb_in1 (i := 194) (by decide +kernel) (by decide +kernel)
theorem fl_X1_21 : FL RX1 21 (TX1 2) := tb_in1 (i := 195) (by decide +kernel) (by decide +kernel)
theorem fl_X1_24 : FL RX1 24 (TX1 3) := tb_in1 (i := 196) (by decide +kernel) (by decide +kernel)
theorem fl_X5_190 : FN RX5 190 (TX1 3) := tb_nt1 (i := 197) (by decide +kernel) (by decide +kernel)
theorem fl_X9_392 : FN RX9 392 (TX1 3) := tb_nt1 (i := 198) (by decide +kernel) (by decide +kernel)
theorem fl_X1_28 : FL RX1 28 (TX1 4) := tb_in1 (i := 199) (by decide +kernel) (by decide +kernel)
theorem fl_X0_75 : FN RX0 75 (TX1 4) := tb_nt1 (i := 200) (by decide +kernel) (by decide +kernel)
theorem fl_X8_14 : FL RX8 14 (TX8 0) := tb_in1 (i := 213) (by decide +kernel) (by decide +kernel)
theorem fl_X3_42 : FN RX3 42 (TX8 0) := tb_nt1 (i := 214) (by decide +kernel) (by decide +kernel)
theorem fl_X0_45 : FN RX0 45 (TX8 0) := tb_nt1 (i := 215) (by decide +kernel) (by decide +kernel)
theorem fl_X2_45 : FN RX2 45 (TX8 0) := tb_nt1 (i := 216) (by decide +kernel) (by decide +kernel)
theorem fl_X4_73 : FN RX4 73 (TX8 0) := tb_nt1 (i := 217) (by decide +kernel) (by decide +kernel)
theorem fl_X9_115 : FN RX9 115 (TX8 0) := tb_nt1 (i := 218) (by decide +kernel) (by decide +kernel)
theorem fl_X5_136 : FN RX5 136 (TX8 0) := tb_nt1 (i := 219) (by decide +kernel) (by decide +kernel)
theorem fl_X8_20 : FL RX8 20 (TX8 1) := tb_in1 (i := 220) (by decide +kernel) (by decide +kernel)
theorem fl_X0_29 : FN RX0 29 (TX8 1) := tb_nt1 (i := 221) (by decide +kernel) (by decide +kernel)
theorem fl_X3_61 : FN RX3 61 (TX8 1) := tb_nt1 (i := 222) (by decide +kernel) (by decide +kernel)
theorem fl_X9_162 : FN RX9 162 (TX8 1) := tb_nt1 (i := 223) (by decide +kernel) (by decide +kernel)
theorem fl_X5_158 : FN RX5 158 (TX8 1) := tb_nt1 (i := 224) (by decide +kernel) (by decide +kernel)
theorem fl_X8_23 : FL RX8 23 (TX8 2) := tb_in1 (i := 225) (by decide +kernel) (by decide +kernel)
theorem fl_X9_122 : FN RX9 122 (TX8 2) := tb_nt1 (i := 226) (by decide +kernel) (by decide +kernel)
theorem fl_X5_152 : FN RX5 152 (TX8 2) := tb_nt1 (i := 227) (by decide +kernel) (by decide +kernel)
theorem fl_X0_141 : FN RX0 141 (TX8 2) := tb_nt1 (i := 228) (by decide +kernel) (by decide +kernel)
theorem fl_X8_26 : FL RX8 26 (TX8 3) := tb_in1 (i := 229) (by decide +kernel) (by decide +kernel)
theorem fl_X0_81 : FN RX0 81 (TX8 3) := tb_nt1 (i := 230) (by decide +kernel) (by decide +kernel)
theorem fl_X9_156 : FN RX9 156 (TX8 3) := tb_nt1 (i := 231) (by decide +kernel) (by decide +kernel)
theorem fl_X5_174 : FN RX5 174 (TX8 3) := tb_nt1 (i := 232) (by decide +kernel) (by decide +kernel)
theorem fl_X8_29 : FL RX8 29 (TX8 4) := tb_in1 (i := 233) (by decide +kernel) (by decide +kernel)
theorem fl_X5_95 : FN RX5 95 (TX8 4) := tb_nt1 (i := 234) (by decide +kernel) (by decide +kernel)
theorem fl_X0_90 : FN RX0 90 (TX8 4) := tb_nt1 (i := 235) (by decide +kernel) (by decide +kernel)
theorem fl_X9_159 : FN RX9 159 (TX8 4) := tb_nt1 (i := 236) (by decide +kernel) (by decide +kernel)
theorem fl_X8_32 : FL RX8 32 (TX8 5) := tb_in1 (i := 237) (by decide +kernel) (by decide +kernel)
theorem fl_X5_103 : FN RX5 103 (TX8 5) := tb_nt1 (i := 238) (by decide +kernel) (by decide +kernel)
theorem fl_X8_35 : FL RX8 35 (TX8 6) := tb_in1 (i := 239) (by decide +kernel) (by decide +kernel)
theorem fl_X4_31 : FN RX4 31 (TX8 6) := tb_nt2 (i := 0) (by decide +kernel) (by decide +kernel)
theorem fl_X5_177 : FN RX5 177 (TX8 6) := tb_nt2 (i := 1) (by decide +kernel) (by decide +kernel)
theorem fl_X9_254 : FN RX9 254 (TX8 6) := tb_nt2 (i := 2) (by decide +kernel) (by decide +kernel)
theorem fl_X8_41 : FL RX8 41 (TX8 7) := tb_in2 (i := 3) (by decide +kernel) (by decide +kernel)
theorem fl_X0_63 : FN RX0 63 (TX8 7) := tb_nt2 (i := 4) (by decide +kernel) (by decide +kernel)
theorem fl_X9_175 : FN RX9 175 (TX8 7) := tb_nt2 (i := 5) (by decide +kernel) (by decide +kernel)
theorem fl_X5_183 : FN RX5 183 (TX8 7) := tb_nt2 (i := 6) (by decide +kernel) (by decide +kernel)
theorem fl_X8_45 : FL RX8 45 (TX8 8) := tb_in2 (i := 7) (by decide +kernel) (by decide +kernel)
theorem fl_X3_105 : FN RX3 105 (TX8 8) := tb_nt2 (i := 8) (by decide +kernel) (by decide +kernel)
theorem fl_X9_183 : FN RX9 183 (TX8 8) := tb_nt2 (i := 9) (by decide +kernel) (by decide +kernel)
theorem fl_X5_187 : FN RX5 187 (TX8 8) := tb_nt2 (i := 10) (by decide +kernel) (by decide +kernel)
theorem fl_X8_48 : FL RX8 48 (TX8 9) := tb_in2 (i := 11) (by decide +kernel) (by decide +kernel)
theorem fl_X5_60 : FN RX5 60 (TX8 9) := tb_nt2 (i := 12) (by decide +kernel) (by decide +kernel)
theorem fl_X0_52 : FN RX0 52 (TX8 9) := tb_nt2 (i := 13) (by decide +kernel) (by decide +kernel)
theorem fl_X8_52 : FL RX8 52 (TX8 10) := tb_in2 (i := 14) (by decide +kernel) (by decide +kernel)
theorem fl_X5_63 : FN RX5 63 (TX8 10) := tb_nt2 (i := 15) (by decide +kernel) (by decide +kernel)
theorem fl_X0_138 : FN RX0 138 (TX8 10) := tb_nt2 (i := 16) (by decide +kernel) (by decide +kernel)
theorem fl_X8_59 : FL RX8 59 (TX8 11) := tb_in2 (i := 17) (by decide +kernel) (by decide +kernel)
theorem fl_X9_240 : FN RX9 240 (TX8 11) := tb_nt2 (i := 18) (by decide +kernel) (by decide +kernel)
theorem fl_X8_62 : FL RX8 62 (TX8 12) := tb_in2 (i := 19) (by decide +kernel) (by decide +kernel)
theorem fl_X5_57 : FN RX5 57 (TX8 12) := tb_nt2 (i := 20) (by decide +kernel) (by decide +kernel)
theorem fl_X9_106 : FN RX9 106 (TX8 12) := tb_nt2 (i := 21) (by decide +kernel) (by decide +kernel)
theorem fl_X0_9 : FL RX0 9 (TX0 0) := tb_in2 (i := 55) (by decide +kernel) (by decide +kernel)
theorem fl_X0_15 : FL RX0 15 (TX0 1) := tb_in2 (i := 56) (by decide +kernel) (by decide +kernel)
theorem fl_X0_19 : FL RX0 19 (TX0 2) := tb_in2 (i := 57) (by decide +kernel) (by decide +kernel)
theorem fl_X0_22 : FL RX0 22 (TX0 3) := tb_in2 (i := 58) (by decide +kernel) (by decide +kernel)
theorem fl_X0_25 : FL RX0 25 (TX0 4) := tb_in2 (i := 59) (by decide +kernel) (by decide +kernel)
theorem fl_X3_16 : FL RX3 16 (TX3 0) := tb_in2 (i := 79) (by decide +kernel) (by decide +kernel)
theorem fl_X9_205 : FN RX9 205 (TX3 0) := tb_nt2 (i := 80) (by decide +kernel) (by decide +kernel)
theorem fl_X3_20 : FL RX3 20 (TX3 1) := tb_in2 (i := 81) (by decide +kernel) (by decide +kernel)
theorem fl_X9_211 : FN RX9 211 (TX3 1) := tb_nt2 (i := 82) (by decide +kernel) (by decide +kernel)
theorem fl_X3_23 : FL RX3 23 (TX3 2) := tb_in2 (i := 83) (by decide +kernel) (by decide +kernel)
theorem fl_X3_27 : FL RX3 27 (TX3 3) := tb_in2 (i := 84) (by decide +kernel) (by decide +kernel)
theorem fl_X3_30 : FL RX3 30 (TX3 4) := tb_in2 (i := 85) (by decide +kernel) (by decide +kernel)
theorem fl_X3_33 : FL RX3 33 (TX3 5) := tb_in2 (i := 86) (by decide +kernel) (by decide +kernel)
theorem fl_X3_36 : FL RX3 36 (TX3 6) := tb_in2 (i := 87) (by decide +kernel) (by decide +kernel)
theorem fl_X4_9 : FL RX4 9 (TX4 0) := tb_in2 (i := 109) (by decide +kernel) (by decide +kernel)
theorem fl_X4_15 : FL RX4 15 (TX4 1) := tb_in2 (i := 110) (by decide +kernel) (by decide +kernel)
theorem fl_X4_18 : FL RX4 18 (TX4 2) := tb_in2 (i := 111) (by decide +kernel) (by decide +kernel)
theorem fl_X4_22 : FL RX4 22 (TX4 3) := tb_in2 (i := 112) (by decide +kernel) (by decide +kernel)
theorem fl_X4_25 : FL RX4 25 (TX4 4) := tb_in2 (i := 113) (by decide +kernel) (by decide +kernel)
theorem fl_X4_28 : FL RX4 28 (TX4 5) := tb_in2 (i := 114) (by decide +kernel) (by decide +kernel)
theorem fl_X4_49 : FL RX4 49 (TX4 6) := tb_in2 (i := 115) (by decide +kernel) (by decide +kernel)
theorem fl_X9_251 : FN RX9 251 (TX4 6) := tb_nt2 (i := 116) (by decide +kernel) (by decide +kernel)
theorem fl_X2_16 : FL RX2 16 (TX2 0) := tb_in2 (i := 140) (by decide +kernel) (by decide +kernel)
theorem fl_X9_306 : FN RX9 306 (TX2 0) := tb_nt2 (i := 141) (by decide +kernel) (by decide +kernel)
theorem fl_X2_20 : FL RX2 20 (TX2 1) := tb_in2 (i := 142) (by decide +kernel) (by decide +kernel)
theorem fl_X2_24 : FL RX2 24 (TX2 2) := tb_in2 (i := 143) (by decide +kernel) (by decide +kernel)
theorem fl_X2_28 : FL RX2 28 (TX2 3) := tb_in2 (i := 144) (by decide +kernel) (by decide +kernel)
theorem fl_X2_31 : FL RX2 31 (TX2 4) := tb_in2 (i := 145) (by decide +kernel) (by decide +kernel)
theorem fl_X9_309 : FN RX9 309 (TX2 4) := tb_nt2 (i := 146) (by decide +kernel) (by decide +kernel)
theorem fl_X2_58 : FL RX2 58 (TX2 5) := tb_in2 (i := 147) (by decide +kernel) (by decide +kernel)
theorem fl_X9_316 : FN RX9 316 (TX2 5) := tb_nt2 (i := 148) (by decide +kernel) (by decide +kernel)
theorem fl_X2_61 : FL RX2 61 (TX2 6) := tb_in2 (i := 149) (by decide +kernel) (by decide +kernel)
theorem fl_X9_319 : FN RX9 319 (TX2 6) := tb_nt2 (i := 150) (by decide +kernel) (by decide +kernel)
theorem fl_X2_64 : FL RX2 64 (TX2 7) := tb_in2 (i := 151) (by decide +kernel) (by decide +kernel)
theorem fl_X9_322 : FN RX9 322 (TX2 7) := tb_nt2 (i := 152) (by decide +kernel) (by decide +kernel)
theorem fl_X9_9 : FL RX9 9 (TX9 0) := tb_in2 (i := 173) (by decide +kernel) (by decide +kernel)
theorem fl_X9_83 : FL RX9 83 (TX9 1) := tb_in2 (i := 174) (by decide +kernel) (by decide +kernel)
theorem fl_X9_16 : FL RX9 16 (TX9 2) := tb_in2 (i := 175) (by decide +kernel) (by decide +kernel)
theorem fl_X9_23 : FL RX9 23 (TX9 3) := tb_in2 (i := 176) (by decide +kernel) (by decide +kernel)
theorem fl_X9_27 : FL RX9 27 (TX9 4) := tb_in2 (i := 177) (by decide +kernel) (by decide +kernel)
theorem fl_X9_30 : FL RX9 30 (TX9 5) := tb_in2 (i := 178) (by decide +kernel) (by decide +kernel)
theorem fl_X9_95 : FL RX9 95 (TX9 6) := tb_in2 (i := 179) (by decide +kernel) (by decide +kernel)
theorem fl_X9_33 : FL RX9 33 (TX9 7) := tb_in2 (i := 180) (by decide +kernel) (by decide +kernel)
theorem fl_X9_39 : FL RX9 39 (TX9 8) := tb_in2 (i := 181) (by decide +kernel) (by decide +kernel)
theorem fl_X9_399 : FL RX9 399 (TX9 9) := tb_in2 (i := 182) (by decide +kernel) (by decide +kernel)
theorem fl_X9_43 : FL RX9 43 (TX9 10) := tb_in2 (i := 183) (by decide +kernel) (by decide +kernel)
theorem fl_X9_49 : FL RX9 49 (TX9 11) := tb_in2 (i := 184) (by decide +kernel) (by decide +kernel)
theorem fl_X9_402 : FL RX9 402 (TX9 12) := tb_in2 (i := 185) (by decide +kernel) (by decide +kernel)
theorem fl_X9_56 : FL RX9 56 (TX9 13) := tb_in2 (i := 186) (by decide +kernel) (by decide +kernel)
theorem fl_X9_63 : FL RX9 63 (TX9 14) := tb_in2 (i := 187) (by decide +kernel) (by decide +kernel)
theorem fl_X9_72 : FL RX9 72 (TX9 15) := tb_in2 (i := 188) (by decide +kernel) (by decide +kernel)
theorem fl_X9_76 : FL RX9 76 (TX9 16) := tb_in2 (i := 189) (by decide +kernel) (by decide +kernel)
theorem fl_X9_80 : FL RX9 80 (TX9 17) := tb_in2 (i := 190) (by decide +kernel) (by decide +kernel)
theorem fl_X10_235 : FL RX10 235 (TX10 0) := tb_in6 (i := 195) (by decide +kernel) (by decide +kernel)
theorem fl_X10_7 : FL RX10 7 (TX10 1) := tb_in6 (i := 196) (by decide +kernel) (by decide +kernel)
theorem fl_X10_238 : FL RX10 238 (TX10 2) := tb_in6 (i := 197) (by decide +kernel) (by decide +kernel)
theorem fl_X10_13 : FL RX10 13 (TX10 3) := tb_in6 (i := 198) (by decide +kernel) (by decide +kernel)
theorem fl_X10_16 : FL RX10 16 (TX10 4) := tb_in6 (i := 199) (by decide +kernel) (by decide +kernel)
theorem fl_X10_19 : FL RX10 19 (TX10 5) := tb_in6 (i := 200) (by decide +kernel) (by decide +kernel)
theorem fl_X10_22 : FL RX10 22 (TX10 6) := tb_in6 (i := 201) (by decide +kernel) (by decide +kernel)
theorem fl_X10_25 : FL RX10 25 (TX10 7) := tb_in6 (i := 202) (by decide +kernel) (by decide +kernel)
theorem fl_X10_28 : FL RX10 28 (TX10 8) := tb_in6 (i := 203) (by decide +kernel) (by decide +kernel)
theorem fl_X10_31 : FL RX10 31 (TX10 9) := tb_in6 (i := 204) (by decide +kernel) (by decide +kernel)
theorem fl_X10_34 : FL RX10 34 (TX10 10) := tb_in6 (i := 205) (by decide +kernel) (by decide +kernel)
theorem fl_X10_37 : FL RX10 37 (TX10 11) := tb_in6 (i := 206) (by decide +kernel) (by decide +kernel)
theorem fl_X10_40 : FL RX10 40 (TX10 12) := tb_in6 (i := 207) (by decide +kernel) (by decide +kernel)
theorem fl_X10_43 : FL RX10 43 (TX10 13) := tb_in6 (i := 208) (by decide +kernel) (by decide +kernel)
theorem fl_X10_46 : FL RX10 46 (TX10 14) := tb_in6 (i := 209) (by decide +kernel) (by decide +kernel)
theorem fl_X10_49 : FL RX10 49 (TX10 15) := tb_in6 (i := 210) (by decide +kernel) (by decide +kernel)
theorem fl_X10_52 : FL RX10 52 (TX10 16) := tb_in6 (i := 211) (by decide +kernel) (by decide +kernel)
theorem fl_X10_55 : FL RX10 55 (TX10 17) := tb_in6 (i := 212) (by decide +kernel) (by decide +kernel)
theorem fl_X10_58 : FL RX10 58 (TX10 18) := tb_in6 (i := 213) (by decide +kernel) (by decide +kernel)
theorem fl_X10_61 : FL RX10 61 (TX10 19) := tb_in6 (i := 214) (by decide +kernel) (by decide +kernel)
theorem fl_X10_64 : FL RX10 64 (TX10 20) := tb_in6 (i := 215) (by decide +kernel) (by decide +kernel)
theorem fl_X10_67 : FL RX10 67 (TX10 21) := tb_in6 (i := 216) (by decide +kernel) (by decide +kernel)
theorem fl_X10_70 : FL RX10 70 (TX10 22) := tb_in6 (i := 217) (by decide +kernel) (by decide +kernel)
theorem fl_X10_73 : FL RX10 73 (TX10 23) := tb_in6 (i := 218) (by decide +kernel) (by decide +kernel)
theorem fl_X10_76 : FL RX10 76 (TX10 24) := tb_in6 (i := 219) (by decide +kernel) (by decide +kernel)
theorem fl_X10_79 : FL RX10 79 (TX10 25) := tb_in6 (i := 220) (by decide +kernel) (by decide +kernel)
theorem fl_X10_82 : FL RX10 82 (TX10 26) := tb_in6 (i := 221) (by decide +kernel) (by decide +kernel)
theorem fl_X10_85 : FL RX10 85 (TX10 27) := tb_in6 (i := 222) (by decide +kernel) (by decide +kernel)
theorem fl_X10_88 : FL RX10 88 (TX10 28) := tb_in6 (i := 223) (by decide +kernel) (by decide +kernel)
theorem fl_X10_91 : FL RX10 91 (TX10 29) := tb_in6 (i := 224) (by decide +kernel) (by decide +kernel)
theorem fl_X10_94 : FL RX10 94 (TX10 30) := tb_in6 (i := 225) (by decide +kernel) (by decide +kernel)
theorem fl_X10_97 : FL RX10 97 (TX10 31) := tb_in6 (i := 226) (by decide +kernel) (by decide +kernel)
theorem fl_X10_100 : FL RX10 100 (TX10 32) := tb_in6 (i := 227) (by decide +kernel) (by decide +kernel)
theorem fl_X10_325 : FL RX10 325 (TX10 33) := tb_in6 (i := 228) (by decide +kernel) (by decide +kernel)
theorem fl_X10_360 : FL RX10 360 (TX10 34) := tb_in6 (i := 229) (by decide +kernel) (by decide +kernel)
theorem fl_X10_244 : FL RX10 244 (TX10 35) := tb_in6 (i := 230) (by decide +kernel) (by decide +kernel)
theorem fl_X10_241 : FL RX10 241 (TX10 36) := tb_in6 (i := 231) (by decide +kernel) (by decide +kernel)
theorem fl_X10_251 : FL RX10 251 (TX10 37) := tb_in6 (i := 232) (by decide +kernel) (by decide +kernel)
theorem fl_X10_254 : FL RX10 254 (TX10 38) := tb_in6 (i := 233) (by decide +kernel) (by decide +kernel)
theorem fl_X10_264 : FL RX10 264 (TX10 39) := tb_in6 (i := 234) (by decide +kernel) (by decide +kernel)
theorem fl_X10_289 : FL RX10 289 (TX10 40) := tb_in6 (i := 235) (by decide +kernel) (by decide +kernel)
theorem fl_X10_292 : FL RX10 292 (TX10 41) := tb_in6 (i := 236) (by decide +kernel) (by decide +kernel)
theorem fl_X10_399 : FL RX10 399 (TX10 42) := tb_in6 (i := 237) (by decide +kernel) (by decide +kernel)
theorem fl_X10_103 : FL RX10 103 (TX10 43) := tb_in6 (i := 238) (by decide +kernel) (by decide +kernel)
theorem fl_X10_393 : FL RX10 393 (TX10 44) := tb_in6 (i := 239) (by decide +kernel) (by decide +kernel)
theorem fl_X10_366 : FL RX10 366 (TX10 45) := tb_in7 (i := 0) (by decide +kernel) (by decide +kernel)
theorem fl_X10_107 : FL RX10 107 (TX10 46) := tb_in7 (i := 1) (by decide +kernel) (by decide +kernel)
theorem fl_X10_111 : FL RX10 111 (TX10 47) := tb_in7 (i := 2) (by decide +kernel) (by decide +kernel)
theorem fl_X10_416 : FL RX10 416 (TX10 48) := tb_in7 (i := 3) (by decide +kernel) (by decide +kernel)
theorem fl_X10_114 : FL RX10 114 (TX10 49) := tb_in7 (i := 4) (by decide +kernel) (by decide +kernel)
theorem fl_X10_117 : FL RX10 117 (TX10 50) := tb_in7 (i := 5) (by decide +kernel) (by decide +kernel)
theorem fl_X10_120 : FL RX10 120 (TX10 51) := tb_in7 (i := 6) (by decide +kernel) (by decide +kernel)
theorem fl_X10_123 : FL RX10 123 (TX10 52) := tb_in7 (i := 7) (by decide +kernel) (by decide +kernel)
theorem fl_X10_126 : FL RX10 126 (TX10 53) := tb_in7 (i := 8) (by decide +kernel) (by decide +kernel)
theorem fl_X10_129 : FL RX10 129 (TX10 54) := tb_in7 (i := 9) (by decide +kernel) (by decide +kernel)
theorem fl_X10_132 : FL RX10 132 (TX10 55) := tb_in7 (i := 10) (by decide +kernel) (by decide +kernel)
theorem fl_X10_135 : FL RX10 135 (TX10 56) := tb_in7 (i := 11) (by decide +kernel) (by decide +kernel)
theorem fl_X10_138 : FL RX10 138 (TX10 57) := tb_in7 (i := 12) (by decide +kernel) (by decide +kernel)
theorem fl_X10_141 : FL RX10 141 (TX10 58) := tb_in7 (i := 13) (by decide +kernel) (by decide +kernel)
theorem fl_X10_144 : FL RX10 144 (TX10 59) := tb_in7 (i := 14) (by decide +kernel) (by decide +kernel)
theorem fl_X10_409 : FL RX10 409 (TX10 60) := tb_in7 (i := 15) (by decide +kernel) (by decide +kernel)
theorem fl_X10_413 : FL RX10 413 (TX10 61) := tb_in7 (i := 16) (by decide +kernel) (by decide +kernel)
theorem fl_X10_470 : FL RX10 470 (TX10 62) := tb_in7 (i := 17) (by decide +kernel) (by decide +kernel)
theorem fl_X10_147 : FL RX10 147 (TX10 63) := tb_in7 (i := 18) (by decide +kernel) (by decide +kernel)
theorem fl_X10_150 : FL RX10 150 (TX10 64) := tb_in7 (i := 19) (by decide +kernel) (by decide +kernel)
theorem fl_X10_153 : FL RX10 153 (TX10 65) := tb_in7 (i := 20) (by decide +kernel) (by decide +kernel)
theorem fl_X10_156 : FL RX10 156 (TX10 66) := tb_in7 (i := 21) (by decide +kernel) (by decide +kernel)
theorem fl_X10_159 : FL RX10 159 (TX10 67) := tb_in7 (i := 22) (by decide +kernel) (by decide +kernel)
theorem fl_X10_162 : FL RX10 162 (TX10 68) := tb_in7 (i := 23) (by decide +kernel) (by decide +kernel)
theorem fl_X10_165 : FL RX10 165 (TX10 69) := tb_in7 (i := 24) (by decide +kernel) (by decide +kernel)
theorem fl_X10_487 : FL RX10 487 (TX10 70) := tb_in7 (i := 25) (by decide +kernel) (by decide +kernel)
theorem fl_X10_168 : FL RX10 168 (TX10 71) := tb_in7 (i := 26) (by decide +kernel) (by decide +kernel)
theorem fl_X10_171 : FL RX10 171 (TX10 72) := tb_in7 (i := 27) (by decide +kernel) (by decide +kernel)
theorem fl_X10_174 : FL RX10 174 (TX10 73) := tb_in7 (i := 28) (by decide +kernel) (by decide +kernel)
theorem fl_X10_177 : FL RX10 177 (TX10 74) := tb_in7 (i := 29) (by decide +kernel) (by decide +kernel)
theorem fl_X10_180 : FL RX10 180 (TX10 75) := tb_in7 (i := 30) (by decide +kernel) (by decide +kernel)
theorem fl_X10_539 : FL RX10 539 (TX10 76) := tb_in7 (i := 31) (by decide +kernel) (by decide +kernel)
theorem fl_X10_542 : FL RX10 542 (TX10 77) := tb_in7 (i := 32) (by decide +kernel) (by decide +kernel)
theorem fl_X10_183 : FL RX10 183 (TX10 78) := tb_in7 (i := 33) (by decide +kernel) (by decide +kernel)
theorem fl_X10_186 : FL RX10 186 (TX10 79) := tb_in7 (i := 34) (by decide +kernel) (by decide +kernel)
theorem fl_X10_189 : FL RX10 189 (TX10 80) := tb_in7 (i := 35) (by decide +kernel) (by decide +kernel)
theorem fl_X10_192 : FL RX10 192 (TX10 81) := tb_in7 (i := 36) (by decide +kernel) (by decide +kernel)
theorem fl_X10_554 : FL RX10 554 (TX10 82) := tb_in7 (i := 37) (by decide +kernel) (by decide +kernel)
theorem fl_X10_569 : FL RX10 569 (TX10 83) := tb_in7 (i := 38) (by decide +kernel) (by decide +kernel)
theorem fl_X10_557 : FL RX10 557 (TX10 84) := tb_in7 (i := 39) (by decide +kernel) (by decide +kernel)
theorem fl_X10_560 : FL RX10 560 (TX10 85) := tb_in7 (i := 40) (by decide +kernel) (by decide +kernel)
theorem fl_X10_563 : FL RX10 563 (TX10 86) := tb_in7 (i := 41) (by decide +kernel) (by decide +kernel)
theorem fl_X10_195 : FL RX10 195 (TX10 87) := tb_in7 (i := 42) (by decide +kernel) (by decide +kernel)
theorem fl_X10_199 : FL RX10 199 (TX10 88) := tb_in7 (i := 43) (by decide +kernel) (by decide +kernel)
theorem fl_X10_202 : FL RX10 202 (TX10 89) := tb_in7 (i := 44) (by decide +kernel) (by decide +kernel)
theorem fl_X10_205 : FL RX10 205 (TX10 90) := tb_in7 (i := 45) (by decide +kernel) (by decide +kernel)
theorem fl_X10_208 : FL RX10 208 (TX10 91) := tb_in7 (i := 46) (by decide +kernel) (by decide +kernel)
theorem fl_X10_600 : FL RX10 600 (TX10 92) := tb_in7 (i := 47) (by decide +kernel) (by decide +kernel)
theorem fl_X10_211 : FL RX10 211 (TX10 93) := tb_in7 (i := 48) (by decide +kernel) (by decide +kernel)
theorem fl_X10_406 : FL RX10 406 (TX10 94) := tb_in7 (i := 49) (by decide +kernel) (by decide +kernel)
theorem fl_X10_214 : FL RX10 214 (TX10 95) := tb_in7 (i := 50) (by decide +kernel) (by decide +kernel)
theorem fl_X10_217 : FL RX10 217 (TX10 96) := tb_in7 (i := 51) (by decide +kernel) (by decide +kernel)
theorem fl_X10_220 : FL RX10 220 (TX10 97) := tb_in7 (i := 52) (by decide +kernel) (by decide +kernel)
theorem fl_X10_223 : FL RX10 223 (TX10 98) := tb_in7 (i := 53) (by decide +kernel) (by decide +kernel)
theorem fl_X10_226 : FL RX10 226 (TX10 99) := tb_in7 (i := 54) (by decide +kernel) (by decide +kernel)
theorem fl_X10_229 : FL RX10 229 (TX10 100) := tb_in7 (i := 55) (by decide +kernel) (by decide +kernel)
theorem fl_X10_629 : FL RX10 629 (TX10 101) := tb_in7 (i := 56) (by decide +kernel) (by decide +kernel)
theorem fl_X10_632 : FL RX10 632 (TX10 102) := tb_in7 (i := 57) (by decide +kernel) (by decide +kernel)
theorem fl_X10_635 : FL RX10 635 (TX10 103) := tb_in7 (i := 58) (by decide +kernel) (by decide +kernel)
theorem fl_X10_660 : FL RX10 660 (TX10 104) := tb_in7 (i := 59) (by decide +kernel) (by decide +kernel)
theorem ml_X9_15 : Cond.methodLinkNest RX9 15 yX5_init "OwnedSilence" ∈ NT := tb_nt1 (i := 36) (by decide +kernel) (by decide +kernel)
theorem ml_X5_11 : Cond.methodLink RX5 11 yX7_init ∈ LT := tb_in1 (i := 42) (by decide +kernel) (by decide +kernel)
theorem ml_X7_17 : Cond.methodLink RX7 17 yJ0_length_8abf5 ∈ LT := tb_in1 (i := 47) (by decide +kernel) (by decide +kernel)
theorem ml_J0_335 : Cond.methodLink RJ0 335 yJ0_coder_7d493 ∈ LT := tb_in1 (i := 51) (by decide +kernel) (by decide +kernel)
theorem ml_X7_23 : Cond.methodLink RX7 23 yJ0_charAt_5068e ∈ LT := tb_in1 (i := 57) (by decide +kernel) (by decide +kernel)
theorem ml_J0_492 : Cond.methodLink RJ0 492 yJ0_isLatin1_aae02 ∈ LT := tb_in1 (i := 61) (by decide +kernel) (by decide +kernel)
theorem ml_J0_495 : Cond.methodLink RJ0 495 yJ1_charAt_3b067 ∈ LT := tb_in1 (i := 65) (by decide +kernel) (by decide +kernel)
theorem ml_J1_9 : Cond.methodLink RJ1 9 yJ0_checkIndex_df160 ∈ LT := tb_in1 (i := 68) (by decide +kernel) (by decide +kernel)
theorem ml_J0_1059 : Cond.methodLink RJ0 1059 yJ3_checkIndex_8e157 ∈ LT := tb_in1 (i := 73) (by decide +kernel) (by decide +kernel)
theorem ml_J0_498 : Cond.methodLink RJ0 498 yJ2_charAt_3b067 ∈ LT := tb_in1 (i := 76) (by decide +kernel) (by decide +kernel)
theorem ml_X9_22 : Cond.methodLinkNest RX9 22 yX8_init "OwnedSilence" ∈ NT := tb_nt1 (i := 157) (by decide +kernel) (by decide +kernel)
theorem ml_X8_11 : Cond.methodLink RX8 11 yX6_init ∈ LT := tb_in1 (i := 163) (by decide +kernel) (by decide +kernel)
theorem ml_X8_40 : Cond.methodLinkNest RX8 40 yX1_init "OwnedSilence" ∈ NT := tb_nt1 (i := 189) (by decide +kernel) (by decide +kernel)
theorem ml_X9_38 : Cond.methodLinkNest RX9 38 yX0_init "OwnedSilence" ∈ NT := tb_nt2 (i := 51) (by decide +kernel) (by decide +kernel)
theorem ml_X9_48 : Cond.methodLinkNest RX9 48 yX3_init "OwnedSilence" ∈ NT := tb_nt2 (i := 73) (by decide +kernel) (by decide +kernel)
theorem ml_X3_13 : Cond.methodLink RX3 13 yX6_init ∈ LT := tb_in2 (i := 78) (by decide +kernel) (by decide +kernel)
theorem ml_X9_55 : Cond.methodLinkNest RX9 55 yX4_init "OwnedSilence" ∈ NT := tb_nt2 (i := 105) (by decide +kernel) (by decide +kernel)
theorem ml_X9_62 : Cond.methodLinkNest RX9 62 yX2_init "OwnedSilence" ∈ NT := tb_nt2 (i := 134) (by decide +kernel) (by decide +kernel)
theorem ml_X2_13 : Cond.methodLink RX2 13 yX6_init ∈ LT := tb_in2 (i := 139) (by decide +kernel) (by decide +kernel)
theorem ml_X9_69 : Cond.methodLink RX9 69 yX6_init ∈ LT := tb_in2 (i := 172) (by decide +kernel) (by decide +kernel)
theorem ml_X9_87 : Cond.methodLink RX9 87 yX9_tapeNumber ∈ LT := tb_in2 (i := 232) (by decide +kernel) (by decide +kernel)
theorem ml_X9_91 : Cond.methodLink RX9 91 yX5_read ∈ LT := tb_in3 (i := 0) (by decide +kernel) (by decide +kernel)
theorem ml_X5_32 : Cond.methodLink RX5 32 yX7_begin ∈ LT := tb_in3 (i := 4) (by decide +kernel) (by decide +kernel)
theorem ml_X5_40 : Cond.methodLink RX5 40 yX8_clear ∈ LT := tb_in3 (i := 8) (by decide +kernel) (by decide +kernel)
theorem ml_X8_55 : Cond.methodLink RX8 55 yX6_clear ∈ LT := tb_in3 (i := 12) (by decide +kernel) (by decide +kernel)
theorem ml_X8_58 : Cond.methodLink RX8 58 yX1_clear ∈ LT := tb_in3 (i := 16) (by decide +kernel) (by decide +kernel)
theorem ml_X5_51 : Cond.methodLink RX5 51 yX7_advance ∈ LT := tb_in3 (i := 20) (by decide +kernel) (by decide +kernel)
theorem ml_X7_37 : Cond.methodLink RX7 37 yX7_signAt ∈ LT := tb_in3 (i := 24) (by decide +kernel) (by decide +kernel)
theorem ml_X7_47 : Cond.methodLink RX7 47 yX7_isLetter ∈ LT := tb_in3 (i := 28) (by decide +kernel) (by decide +kernel)
theorem ml_X7_51 : Cond.methodLink RX7 51 yX7_takeWord ∈ LT := tb_in3 (i := 31) (by decide +kernel) (by decide +kernel)
theorem ml_X7_54 : Cond.methodLink RX7 54 yX7_isDigit ∈ LT := tb_in3 (i := 35) (by decide +kernel) (by decide +kernel)
theorem ml_X7_57 : Cond.methodLink RX7 57 yX7_takeNumber ∈ LT := tb_in3 (i := 38) (by decide +kernel) (by decide +kernel)
theorem ml_X7_68 : Cond.methodLink RX7 68 yJ9_min_7cf53 ∈ LT := tb_in3 (i := 43) (by decide +kernel) (by decide +kernel)
theorem ml_X7_60 : Cond.methodLink RX7 60 yX7_takeSign ∈ LT := tb_in3 (i := 46) (by decide +kernel) (by decide +kernel)
theorem ml_X7_76 : Cond.methodLink RX7 76 yJ0_indexOf_0f7a4 ∈ LT := tb_in3 (i := 51) (by decide +kernel) (by decide +kernel)
theorem ml_J0_633 : Cond.methodLink RJ0 633 yJ0_indexOf_7cf53 ∈ LT := tb_in3 (i := 55) (by decide +kernel) (by decide +kernel)
theorem ml_J0_505 : Cond.methodLink RJ0 505 yJ0_length_8abf5 ∈ LT := tb_in3 (i := 59) (by decide +kernel) (by decide +kernel)
theorem ml_J0_637 : Cond.methodLink RJ0 637 yJ1_indexOf_4cfef ∈ LT := tb_in3 (i := 60) (by decide +kernel) (by decide +kernel)
theorem ml_J1_88 : Cond.methodLink RJ1 88 yJ1_canEncode_9a6ad ∈ LT := tb_in3 (i := 63) (by decide +kernel) (by decide +kernel)
theorem ml_J1_92 : Cond.methodLink RJ1 92 yJ9_max_7cf53 ∈ LT := tb_in3 (i := 66) (by decide +kernel) (by decide +kernel)
theorem ml_J1_38 : Cond.methodLink RJ1 38 yJ9_min_7cf53 ∈ LT := tb_in3 (i := 69) (by decide +kernel) (by decide +kernel)
theorem ml_J1_95 : Cond.methodLink RJ1 95 yJ1_indexOfChar_4cfef ∈ LT := tb_in3 (i := 70) (by decide +kernel) (by decide +kernel)
theorem ml_J0_640 : Cond.methodLink RJ0 640 yJ2_indexOf_4cfef ∈ LT := tb_in3 (i := 73) (by decide +kernel) (by decide +kernel)
theorem ml_J0_1062 : Cond.methodLink RJ0 1062 yJ3_checkFromToIndex_8c36e ∈ LT := tb_in3 (i := 88) (by decide +kernel) (by decide +kernel)
theorem ml_X5_66 : Cond.methodLink RX5 66 yX5_readLine ∈ LT := tb_in3 (i := 108) (by decide +kernel) (by decide +kernel)
theorem ml_X5_80 : Cond.methodLink RX5 80 yX5_readPlace ∈ LT := tb_in3 (i := 112) (by decide +kernel) (by decide +kernel)
theorem ml_X5_139 : Cond.methodLink RX5 139 yX5_hasRoom ∈ LT := tb_in3 (i := 116) (by decide +kernel) (by decide +kernel)
theorem ml_X5_70 : Cond.methodLink RX5 70 yX5_refuse ∈ LT := tb_in3 (i := 120) (by decide +kernel) (by decide +kernel)
theorem ml_X5_142 : Cond.methodLink RX5 142 yX5_takeNewName ∈ LT := tb_in3 (i := 124) (by decide +kernel) (by decide +kernel)
theorem ml_X5_120 : Cond.methodLink RX5 120 yX6_find ∈ LT := tb_in3 (i := 128) (by decide +kernel) (by decide +kernel)
theorem ml_X6_43 : Cond.methodLink RX6 43 yX6_at ∈ LT := tb_in3 (i := 132) (by decide +kernel) (by decide +kernel)
theorem ml_X6_25 : Cond.methodLink RX6 25 yX6_has ∈ LT := tb_in3 (i := 136) (by decide +kernel) (by decide +kernel)
theorem ml_X5_146 : Cond.methodLink RX5 146 yX5_takeEnd ∈ LT := tb_in3 (i := 140) (by decide +kernel) (by decide +kernel)
theorem ml_X5_126 : Cond.methodLink RX5 126 yX7_isSign ∈ LT := tb_in3 (i := 144) (by decide +kernel) (by decide +kernel)
theorem ml_X5_149 : Cond.methodLink RX5 149 yX5_addRow ∈ LT := tb_in3 (i := 148) (by decide +kernel) (by decide +kernel)
theorem ml_X5_132 : Cond.methodLink RX5 132 yX6_add ∈ LT := tb_in3 (i := 152) (by decide +kernel) (by decide +kernel)
theorem ml_X6_29 : Cond.methodLink RX6 29 yX6_isFull ∈ LT := tb_in3 (i := 156) (by decide +kernel) (by decide +kernel)
theorem ml_X6_33 : Cond.methodLink RX6 33 yX6_put ∈ LT := tb_in3 (i := 160) (by decide +kernel) (by decide +kernel)
theorem ml_X5_83 : Cond.methodLink RX5 83 yX5_readLink ∈ LT := tb_in3 (i := 164) (by decide +kernel) (by decide +kernel)
theorem ml_X5_161 : Cond.methodLink RX5 161 yX5_takeTold ∈ LT := tb_in3 (i := 168) (by decide +kernel) (by decide +kernel)
theorem ml_X5_164 : Cond.methodLink RX5 164 yX5_isLinked ∈ LT := tb_in3 (i := 172) (by decide +kernel) (by decide +kernel)
theorem ml_X5_168 : Cond.methodLink RX5 168 yX6_at ∈ LT := tb_in3 (i := 176) (by decide +kernel) (by decide +kernel)
theorem ml_X5_155 : Cond.methodLink RX5 155 yX5_takeNumber ∈ LT := tb_in3 (i := 177) (by decide +kernel) (by decide +kernel)
theorem ml_X5_86 : Cond.methodLink RX5 86 yX5_readOwner ∈ LT := tb_in3 (i := 181) (by decide +kernel) (by decide +kernel)
theorem ml_X5_89 : Cond.methodLink RX5 89 yX5_readHeir ∈ LT := tb_in3 (i := 185) (by decide +kernel) (by decide +kernel)
theorem ml_X5_170 : Cond.methodLink RX5 170 yX6_put ∈ LT := tb_in3 (i := 189) (by decide +kernel) (by decide +kernel)
theorem ml_X5_92 : Cond.methodLink RX5 92 yX5_readNoise ∈ LT := tb_in3 (i := 190) (by decide +kernel) (by decide +kernel)
theorem ml_X5_99 : Cond.methodLink RX5 99 yX5_readHolding ∈ LT := tb_in3 (i := 194) (by decide +kernel) (by decide +kernel)
theorem ml_X5_106 : Cond.methodLink RX5 106 yX5_readTask ∈ LT := tb_in3 (i := 198) (by decide +kernel) (by decide +kernel)
theorem ml_X5_109 : Cond.methodLink RX5 109 yX5_readDog ∈ LT := tb_in3 (i := 202) (by decide +kernel) (by decide +kernel)
theorem ml_X5_112 : Cond.methodLink RX5 112 yX5_readOnce ∈ LT := tb_in3 (i := 206) (by decide +kernel) (by decide +kernel)
theorem ml_X5_117 : Cond.methodLink RX5 117 yX5_readLaw ∈ LT := tb_in3 (i := 211) (by decide +kernel) (by decide +kernel)
theorem ml_X5_180 : Cond.methodLink RX5 180 yX7_isWord ∈ LT := tb_in3 (i := 215) (by decide +kernel) (by decide +kernel)
theorem ml_X5_199 : Cond.methodLink RX5 199 yX5_release ∈ LT := tb_in3 (i := 219) (by decide +kernel) (by decide +kernel)
theorem ml_X5_223 : Cond.methodLink RX5 223 yX5_lastRank ∈ LT := tb_in3 (i := 223) (by decide +kernel) (by decide +kernel)
theorem ml_X5_220 : Cond.methodLink RX5 220 yX1_add ∈ LT := tb_in3 (i := 229) (by decide +kernel) (by decide +kernel)
theorem ml_X5_203 : Cond.methodLink RX5 203 yX5_readOperand ∈ LT := tb_in3 (i := 233) (by decide +kernel) (by decide +kernel)
theorem ml_X5_210 : Cond.methodLink RX5 210 yX5_faulty ∈ LT := tb_in3 (i := 237) (by decide +kernel) (by decide +kernel)
theorem ml_X5_214 : Cond.methodLink RX5 214 yX5_hold ∈ LT := tb_in4 (i := 1) (by decide +kernel) (by decide +kernel)
theorem ml_X5_217 : Cond.methodLink RX5 217 yX5_notMayStand ∈ LT := tb_in4 (i := 5) (by decide +kernel) (by decide +kernel)
theorem ml_X5_207 : Cond.methodLink RX5 207 yX5_readJoin ∈ LT := tb_in4 (i := 9) (by decide +kernel) (by decide +kernel)
theorem ml_X5_230 : Cond.methodLink RX5 230 yX5_joinSign ∈ LT := tb_in4 (i := 13) (by decide +kernel) (by decide +kernel)
theorem ml_X9_99 : Cond.methodLink RX9 99 yX2_clear ∈ LT := tb_in4 (i := 17) (by decide +kernel) (by decide +kernel)
theorem ml_X2_35 : Cond.methodLink RX2 35 yX6_clear ∈ LT := tb_in4 (i := 21) (by decide +kernel) (by decide +kernel)
theorem ml_X9_102 : Cond.methodLink RX9 102 yX6_clear ∈ LT := tb_in4 (i := 22) (by decide +kernel) (by decide +kernel)
theorem ml_X9_103 : Cond.methodLink RX9 103 yX9_changed ∈ LT := tb_in4 (i := 23) (by decide +kernel) (by decide +kernel)
theorem ml_X9_118 : Cond.methodLink RX9 118 yX6_find ∈ LT := tb_in4 (i := 35) (by decide +kernel) (by decide +kernel)
theorem ml_X9_136 : Cond.methodLink RX9 136 yX6_at ∈ LT := tb_in4 (i := 40) (by decide +kernel) (by decide +kernel)
theorem ml_X9_125 : Cond.methodLink RX9 125 yX6_has ∈ LT := tb_in4 (i := 53) (by decide +kernel) (by decide +kernel)
theorem ml_X9_139 : Cond.methodLink RX9 139 yX9_freshAir ∈ LT := tb_in4 (i := 54) (by decide +kernel) (by decide +kernel)
theorem ml_X9_279 : Cond.methodLink RX9 279 yX0_measureWays ∈ LT := tb_in4 (i := 58) (by decide +kernel) (by decide +kernel)
theorem ml_X0_41 : Cond.methodLink RX0 41 yX6_at ∈ LT := tb_in4 (i := 63) (by decide +kernel) (by decide +kernel)
theorem ml_X0_48 : Cond.methodLink RX0 48 yX6_has ∈ LT := tb_in4 (i := 64) (by decide +kernel) (by decide +kernel)
theorem ml_X0_55 : Cond.methodLink RX0 55 yJ9_min_7cf53 ∈ LT := tb_in4 (i := 65) (by decide +kernel) (by decide +kernel)
theorem ml_X9_376 : Cond.methodLink RX9 376 yX0_listen ∈ LT := tb_in4 (i := 66) (by decide +kernel) (by decide +kernel)
theorem ml_X0_84 : Cond.methodLink RX0 84 yX0_minutesHeard ∈ LT := tb_in4 (i := 71) (by decide +kernel) (by decide +kernel)
theorem ml_X0_60 : Cond.methodLink RX0 60 yX0_way ∈ LT := tb_in4 (i := 75) (by decide +kernel) (by decide +kernel)
theorem ml_X0_67 : Cond.methodLink RX0 67 yX1_value ∈ LT := tb_in4 (i := 79) (by decide +kernel) (by decide +kernel)
theorem ml_X1_40 : Cond.methodLink RX1 40 yX1_joined ∈ LT := tb_in4 (i := 84) (by decide +kernel) (by decide +kernel)
theorem ml_X9_379 : Cond.methodLink RX9 379 yX0_settle ∈ LT := tb_in4 (i := 91) (by decide +kernel) (by decide +kernel)
theorem ml_X0_93 : Cond.methodLinkNest RX0 93 yX9_isMinute "OwnedSilence" ∈ NT := tb_nt4 (i := 95) (by decide +kernel) (by decide +kernel)
theorem ml_X0_96 : Cond.methodLink RX0 96 yX0_settlePlace ∈ LT := tb_in4 (i := 98) (by decide +kernel) (by decide +kernel)
theorem ml_X0_100 : Cond.methodLink RX0 100 yX0_isSilent ∈ LT := tb_in4 (i := 102) (by decide +kernel) (by decide +kernel)
theorem ml_X0_108 : Cond.methodLink RX0 108 yX0_silentAt ∈ LT := tb_in4 (i := 106) (by decide +kernel) (by decide +kernel)
theorem ml_X0_104 : Cond.methodLink RX0 104 yX0_firstHeard ∈ LT := tb_in4 (i := 110) (by decide +kernel) (by decide +kernel)
theorem ml_X0_118 : Cond.methodLink RX0 118 yX0_isHeard ∈ LT := tb_in4 (i := 114) (by decide +kernel) (by decide +kernel)
theorem ml_X9_165 : Cond.methodLink RX9 165 yX0_way ∈ LT := tb_in4 (i := 118) (by decide +kernel) (by decide +kernel)
theorem ml_X9_168 : Cond.methodLink RX9 168 yX9_isLawNumber ∈ LT := tb_in4 (i := 123) (by decide +kernel) (by decide +kernel)
theorem ml_X9_179 : Cond.methodLink RX9 179 yX1_value ∈ LT := tb_in4 (i := 127) (by decide +kernel) (by decide +kernel)
theorem ml_X9_186 : Cond.methodLink RX9 186 yX9_isMinute ∈ LT := tb_in4 (i := 132) (by decide +kernel) (by decide +kernel)
theorem ml_X9_189 : Cond.methodLink RX9 189 yX0_firstHeard ∈ LT := tb_in4 (i := 133) (by decide +kernel) (by decide +kernel)
theorem ml_X9_192 : Cond.methodLink RX9 192 yX0_silentAt ∈ LT := tb_in4 (i := 138) (by decide +kernel) (by decide +kernel)
theorem ml_X9_198 : Cond.methodLink RX9 198 yX0_holder ∈ LT := tb_in4 (i := 144) (by decide +kernel) (by decide +kernel)
theorem ml_X0_122 : Cond.methodLink RX0 122 yX0_isSpot ∈ LT := tb_in4 (i := 148) (by decide +kernel) (by decide +kernel)
theorem ml_X9_201 : Cond.methodLink RX9 201 yX9_freshPieces ∈ LT := tb_in4 (i := 155) (by decide +kernel) (by decide +kernel)
theorem ml_X9_405 : Cond.methodLink RX9 405 yX3_findSpans ∈ LT := tb_in4 (i := 159) (by decide +kernel) (by decide +kernel)
theorem ml_X3_39 : Cond.methodLink RX3 39 yX6_clear ∈ LT := tb_in4 (i := 163) (by decide +kernel) (by decide +kernel)
theorem ml_X3_51 : Cond.methodLink RX3 51 yX0_isSilent ∈ LT := tb_in4 (i := 164) (by decide +kernel) (by decide +kernel)
theorem ml_X3_57 : Cond.methodLink RX3 57 yX6_add ∈ LT := tb_in4 (i := 165) (by decide +kernel) (by decide +kernel)
theorem ml_X9_408 : Cond.methodLink RX9 408 yX3_joinSpans ∈ LT := tb_in4 (i := 166) (by decide +kernel) (by decide +kernel)
theorem ml_X3_64 : Cond.methodLink RX3 64 yX6_at ∈ LT := tb_in4 (i := 170) (by decide +kernel) (by decide +kernel)
theorem ml_X3_68 : Cond.methodLink RX3 68 yX6_has ∈ LT := tb_in4 (i := 171) (by decide +kernel) (by decide +kernel)
theorem ml_X3_72 : Cond.methodLink RX3 72 yX3_spread ∈ LT := tb_in4 (i := 172) (by decide +kernel) (by decide +kernel)
theorem ml_X3_75 : Cond.methodLink RX3 75 yX6_put ∈ LT := tb_in4 (i := 176) (by decide +kernel) (by decide +kernel)
theorem ml_X3_79 : Cond.methodLink RX3 79 yX3_touch ∈ LT := tb_in4 (i := 177) (by decide +kernel) (by decide +kernel)
theorem ml_X9_411 : Cond.methodLink RX9 411 yX3_weigh ∈ LT := tb_in4 (i := 181) (by decide +kernel) (by decide +kernel)
theorem ml_X3_82 : Cond.methodLink RX3 82 yX3_survey ∈ LT := tb_in4 (i := 185) (by decide +kernel) (by decide +kernel)
theorem ml_X3_124 : Cond.methodLink RX3 124 yX3_surveySpan ∈ LT := tb_in4 (i := 189) (by decide +kernel) (by decide +kernel)
theorem ml_X3_127 : Cond.methodLink RX3 127 yX0_holder ∈ LT := tb_in4 (i := 193) (by decide +kernel) (by decide +kernel)
theorem ml_X3_86 : Cond.methodLink RX3 86 yJ9_min_7cf53 ∈ LT := tb_in4 (i := 194) (by decide +kernel) (by decide +kernel)
theorem ml_X3_91 : Cond.methodLink RX3 91 yX3_holdersSurveyed ∈ LT := tb_in4 (i := 195) (by decide +kernel) (by decide +kernel)
theorem ml_X3_95 : Cond.methodLink RX3 95 yJ6_bitCount_0f7a4 ∈ LT := tb_in4 (i := 199) (by decide +kernel) (by decide +kernel)
theorem ml_X3_101 : Cond.methodLink RX3 101 yX3_worth ∈ LT := tb_in4 (i := 205) (by decide +kernel) (by decide +kernel)
theorem ml_X3_108 : Cond.methodLink RX3 108 yX1_value ∈ LT := tb_in4 (i := 208) (by decide +kernel) (by decide +kernel)
theorem ml_X3_118 : Cond.methodLink RX3 118 yJ9_min_f86c9 ∈ LT := tb_in4 (i := 211) (by decide +kernel) (by decide +kernel)
theorem ml_X3_121 : Cond.methodLink RX3 121 yJ9_max_f86c9 ∈ LT := tb_in4 (i := 214) (by decide +kernel) (by decide +kernel)
theorem ml_X9_214 : Cond.methodLink RX9 214 yX3_minutesOf ∈ LT := tb_in4 (i := 233) (by decide +kernel) (by decide +kernel)
theorem ml_X3_130 : Cond.methodLink RX3 130 yX3_minutesOfSet ∈ LT := tb_in4 (i := 237) (by decide +kernel) (by decide +kernel)
theorem ml_X9_217 : Cond.methodLink RX9 217 yX3_partOf ∈ LT := tb_in5 (i := 5) (by decide +kernel) (by decide +kernel)
theorem ml_X3_136 : Cond.methodLink RX3 136 yX3_worthOfSet ∈ LT := tb_in5 (i := 11) (by decide +kernel) (by decide +kernel)
theorem ml_X9_221 : Cond.methodLink RX9 221 yX3_leaversOf ∈ LT := tb_in5 (i := 19) (by decide +kernel) (by decide +kernel)
theorem ml_X9_225 : Cond.methodLink RX9 225 yX6_add ∈ LT := tb_in5 (i := 27) (by decide +kernel) (by decide +kernel)
theorem ml_X9_229 : Cond.methodLink RX9 229 yX9_logged ∈ LT := tb_in5 (i := 28) (by decide +kernel) (by decide +kernel)
theorem ml_X9_385 : Cond.methodLink RX9 385 yX6_isFull ∈ LT := tb_in5 (i := 32) (by decide +kernel) (by decide +kernel)
theorem ml_X9_389 : Cond.methodLink RX9 389 yX6_removeFirst ∈ LT := tb_in5 (i := 33) (by decide +kernel) (by decide +kernel)
theorem ml_X6_37 : Cond.methodLink RX6 37 arraycopyName ∈ LT := tb_in5 (i := 37) (by decide +kernel) (by decide +kernel)
theorem ml_X9_233 : Cond.methodLink RX9 233 yX6_put ∈ LT := tb_in5 (i := 44) (by decide +kernel) (by decide +kernel)
theorem ml_X9_237 : Cond.methodLink RX9 237 yX8_pay ∈ LT := tb_in5 (i := 53) (by decide +kernel) (by decide +kernel)
theorem ml_X8_75 : Cond.methodLink RX8 75 yX6_at ∈ LT := tb_in5 (i := 57) (by decide +kernel) (by decide +kernel)
theorem ml_X8_79 : Cond.methodLink RX8 79 yX6_put ∈ LT := tb_in5 (i := 58) (by decide +kernel) (by decide +kernel)
theorem ml_X9_243 : Cond.methodLink RX9 243 yX0_fineMinute ∈ LT := tb_in5 (i := 63) (by decide +kernel) (by decide +kernel)
theorem ml_X0_135 : Cond.methodLink RX0 135 yX0_isTrespass ∈ LT := tb_in5 (i := 67) (by decide +kernel) (by decide +kernel)
theorem ml_X0_131 : Cond.methodLink RX0 131 yX0_isForbidden ∈ LT := tb_in5 (i := 71) (by decide +kernel) (by decide +kernel)
theorem ml_X0_128 : Cond.methodLink RX0 128 yX8_hasRight ∈ LT := tb_in5 (i := 75) (by decide +kernel) (by decide +kernel)
theorem ml_X0_144 : Cond.methodLink RX0 144 yX8_pay ∈ LT := tb_in5 (i := 79) (by decide +kernel) (by decide +kernel)
theorem ml_X9_247 : Cond.methodLink RX9 247 yX4_search ∈ LT := tb_in5 (i := 84) (by decide +kernel) (by decide +kernel)
theorem ml_X4_43 : Cond.methodLink RX4 43 yJ9_min_7cf53 ∈ LT := tb_in5 (i := 88) (by decide +kernel) (by decide +kernel)
theorem ml_X4_52 : Cond.methodLink RX4 52 yX4_forbiddenMinutes ∈ LT := tb_in5 (i := 89) (by decide +kernel) (by decide +kernel)
theorem ml_X4_70 : Cond.methodLink RX4 70 yX6_at ∈ LT := tb_in5 (i := 92) (by decide +kernel) (by decide +kernel)
theorem ml_X4_76 : Cond.methodLink RX4 76 yX0_minutesHeard ∈ LT := tb_in5 (i := 93) (by decide +kernel) (by decide +kernel)
theorem ml_X4_82 : Cond.methodLink RX4 82 yX0_isForbidden ∈ LT := tb_in5 (i := 94) (by decide +kernel) (by decide +kernel)
theorem ml_X4_56 : Cond.methodLink RX4 56 yX4_endOfOrder ∈ LT := tb_in5 (i := 95) (by decide +kernel) (by decide +kernel)
theorem ml_X4_86 : Cond.methodLink RX4 86 yX4_earliest ∈ LT := tb_in5 (i := 99) (by decide +kernel) (by decide +kernel)
theorem ml_X4_90 : Cond.methodLink RX4 90 yJ9_max_7cf53 ∈ LT := tb_in5 (i := 102) (by decide +kernel) (by decide +kernel)
theorem ml_X4_60 : Cond.methodLink RX4 60 arraycopyName ∈ LT := tb_in5 (i := 103) (by decide +kernel) (by decide +kernel)
theorem ml_X4_66 : Cond.methodLink RX4 66 yX4_nextOrder ∈ LT := tb_in5 (i := 104) (by decide +kernel) (by decide +kernel)
theorem ml_X4_93 : Cond.methodLink RX4 93 yX4_swap ∈ LT := tb_in5 (i := 108) (by decide +kernel) (by decide +kernel)
theorem ml_X9_257 : Cond.methodLink RX9 257 yX4_taskAt ∈ LT := tb_in5 (i := 116) (by decide +kernel) (by decide +kernel)
theorem ml_X9_260 : Cond.methodLink RX9 260 yX4_startAt ∈ LT := tb_in5 (i := 120) (by decide +kernel) (by decide +kernel)
theorem ml_X9_263 : Cond.methodLink RX9 263 yX8_copyFrom ∈ LT := tb_in5 (i := 128) (by decide +kernel) (by decide +kernel)
theorem ml_X8_65 : Cond.methodLink RX8 65 yX6_copyFrom ∈ LT := tb_in5 (i := 132) (by decide +kernel) (by decide +kernel)
theorem ml_X6_47 : Cond.methodLink RX6 47 yJ9_min_7cf53 ∈ LT := tb_in5 (i := 136) (by decide +kernel) (by decide +kernel)
theorem ml_X8_69 : Cond.methodLink RX8 69 yX1_copyFrom ∈ LT := tb_in5 (i := 137) (by decide +kernel) (by decide +kernel)
theorem ml_X1_32 : Cond.methodLink RX1 32 arraycopyName ∈ LT := tb_in5 (i := 141) (by decide +kernel) (by decide +kernel)
theorem ml_X9_267 : Cond.methodLink RX9 267 yJ6_bitCount_0f7a4 ∈ LT := tb_in5 (i := 142) (by decide +kernel) (by decide +kernel)
theorem ml_X9_272 : Cond.methodLink RX9 272 yX9_buildOnTrial ∈ LT := tb_in5 (i := 143) (by decide +kernel) (by decide +kernel)
theorem ml_X9_275 : Cond.methodLink RX9 275 yX9_trialReaches ∈ LT := tb_in5 (i := 147) (by decide +kernel) (by decide +kernel)
theorem ml_X9_282 : Cond.methodLink RX9 282 yX0_minutesHeard ∈ LT := tb_in5 (i := 151) (by decide +kernel) (by decide +kernel)
theorem ml_X9_286 : Cond.methodLink RX9 286 yX8_dogs ∈ LT := tb_in5 (i := 156) (by decide +kernel) (by decide +kernel)
theorem ml_X9_290 : Cond.methodLink RX9 290 yX9_isState ∈ LT := tb_in5 (i := 160) (by decide +kernel) (by decide +kernel)
theorem ml_X9_293 : Cond.methodLink RX9 293 yJ9_max_7cf53 ∈ LT := tb_in5 (i := 163) (by decide +kernel) (by decide +kernel)
theorem ml_X9_298 : Cond.methodLink RX9 298 yX9_answering ∈ LT := tb_in5 (i := 164) (by decide +kernel) (by decide +kernel)
theorem ml_X9_302 : Cond.methodLink RX9 302 yX9_hearsAny ∈ LT := tb_in5 (i := 168) (by decide +kernel) (by decide +kernel)
theorem ml_X9_313 : Cond.methodLink RX9 313 yX2_seek ∈ LT := tb_in5 (i := 189) (by decide +kernel) (by decide +kernel)
theorem ml_X2_41 : Cond.methodLink RX2 41 yX2_sortNotes ∈ LT := tb_in5 (i := 193) (by decide +kernel) (by decide +kernel)
theorem ml_X2_67 : Cond.methodLink RX2 67 yX2_markStruck ∈ LT := tb_in5 (i := 197) (by decide +kernel) (by decide +kernel)
theorem ml_X2_70 : Cond.methodLink RX2 70 yX2_knownMany ∈ LT := tb_in5 (i := 201) (by decide +kernel) (by decide +kernel)
theorem ml_X2_84 : Cond.methodLink RX2 84 yJ9_min_7cf53 ∈ LT := tb_in5 (i := 205) (by decide +kernel) (by decide +kernel)
theorem ml_X2_74 : Cond.methodLink RX2 74 yX6_at ∈ LT := tb_in5 (i := 206) (by decide +kernel) (by decide +kernel)
theorem ml_X2_78 : Cond.methodLink RX2 78 yX0_isSilent ∈ LT := tb_in5 (i := 207) (by decide +kernel) (by decide +kernel)
theorem ml_X2_50 : Cond.methodLink RX2 50 yX2_seekAt ∈ LT := tb_in5 (i := 208) (by decide +kernel) (by decide +kernel)
theorem ml_X2_54 : Cond.methodLink RX2 54 yX2_fits ∈ LT := tb_in5 (i := 212) (by decide +kernel) (by decide +kernel)
theorem ml_X2_89 : Cond.methodLink RX2 89 yX0_minutesHeard ∈ LT := tb_in5 (i := 216) (by decide +kernel) (by decide +kernel)
theorem ml_X9_325 : Cond.methodLink RX9 325 yX9_inherit ∈ LT := tb_in5 (i := 225) (by decide +kernel) (by decide +kernel)
theorem ml_X9_328 : Cond.methodLink RX9 328 yX9_measureTrial ∈ LT := tb_in5 (i := 229) (by decide +kernel) (by decide +kernel)
theorem ml_X9_331 : Cond.methodLink RX9 331 yX0_longestHeld ∈ LT := tb_in5 (i := 233) (by decide +kernel) (by decide +kernel)
theorem ml_X0_125 : Cond.methodLink RX0 125 yX0_holder ∈ LT := tb_in5 (i := 237) (by decide +kernel) (by decide +kernel)
theorem ml_X0_148 : Cond.methodLink RX0 148 yJ9_max_7cf53 ∈ LT := tb_in5 (i := 238) (by decide +kernel) (by decide +kernel)
theorem ml_X9_335 : Cond.methodLink RX9 335 yX9_isStake ∈ LT := tb_in6 (i := 3) (by decide +kernel) (by decide +kernel)
theorem ml_X9_338 : Cond.methodLink RX9 338 yX9_isRest ∈ LT := tb_in6 (i := 6) (by decide +kernel) (by decide +kernel)
theorem ml_X9_342 : Cond.methodLink RX9 342 yX9_gain ∈ LT := tb_in6 (i := 9) (by decide +kernel) (by decide +kernel)
theorem ml_X9_346 : Cond.methodLink RX9 346 yJ9_min_7cf53 ∈ LT := tb_in6 (i := 12) (by decide +kernel) (by decide +kernel)
theorem ml_X9_349 : Cond.methodLink RX9 349 yX0_silentMinutes ∈ LT := tb_in6 (i := 21) (by decide +kernel) (by decide +kernel)
theorem ml_X0_112 : Cond.methodLink RX0 112 yJ13_bitCount_95d88 ∈ LT := tb_in6 (i := 25) (by decide +kernel) (by decide +kernel)
theorem ml_X9_352 : Cond.methodLink RX9 352 yX9_tried ∈ LT := tb_in6 (i := 31) (by decide +kernel) (by decide +kernel)
theorem ml_X9_367 : Cond.methodLink RX9 367 yX9_canTry ∈ LT := tb_in6 (i := 35) (by decide +kernel) (by decide +kernel)
theorem ml_X9_370 : Cond.methodLink RX9 370 yX8_silence ∈ LT := tb_in6 (i := 39) (by decide +kernel) (by decide +kernel)
theorem ml_X9_373 : Cond.methodLink RX9 373 yX8_muffle ∈ LT := tb_in6 (i := 43) (by decide +kernel) (by decide +kernel)
theorem ml_X9_355 : Cond.methodLink RX9 355 yX9_nextNumber ∈ LT := tb_in6 (i := 47) (by decide +kernel) (by decide +kernel)
theorem ml_X9_358 : Cond.methodLink RX9 358 yX9_quarrelled ∈ LT := tb_in6 (i := 51) (by decide +kernel) (by decide +kernel)
theorem ml_X9_362 : Cond.methodLink RX9 362 yJ13_bitCount_95d88 ∈ LT := tb_in6 (i := 55) (by decide +kernel) (by decide +kernel)
theorem ml_X9_382 : Cond.methodLink RX9 382 yX6_removeLast ∈ LT := tb_in6 (i := 61) (by decide +kernel) (by decide +kernel)
theorem ml_X9_393 : Cond.methodLink RX9 393 yX2_knownMany ∈ LT := tb_in6 (i := 77) (by decide +kernel) (by decide +kernel)
theorem ml_X9_396 : Cond.methodLink RX9 396 yX6_sum ∈ LT := tb_in6 (i := 78) (by decide +kernel) (by decide +kernel)
theorem ml_X9_147 : Cond.methodLink RX9 147 yX0_trespasses ∈ LT := tb_in6 (i := 82) (by decide +kernel) (by decide +kernel)
theorem ml_X9_143 : Cond.methodLink RX9 143 yX0_minutesOf ∈ LT := tb_in6 (i := 161) (by decide +kernel) (by decide +kernel)
theorem ml_X10_232 : Cond.methodLink RX10 232 yX10_begins ∈ LT := tb_in6 (i := 187) (by decide +kernel) (by decide +kernel)
theorem ml_X10_466 : Cond.methodLink RX10 466 yX10_makes ∈ LT := tb_in6 (i := 191) (by decide +kernel) (by decide +kernel)
theorem ml_X10_331 : Cond.methodLink RX10 331 yX10_reads ∈ LT := tb_in8 (i := 43) (by decide +kernel) (by decide +kernel)
theorem ml_X10_295 : Cond.methodLink RX10 295 yX10_token ∈ LT := tb_in8 (i := 47) (by decide +kernel) (by decide +kernel)
theorem ml_X10_247 : Cond.methodLink RX10 247 yX10_here ∈ LT := tb_in8 (i := 51) (by decide +kernel) (by decide +kernel)
theorem ml_X10_257 : Cond.methodLink RX10 257 yX10_isSmall ∈ LT := tb_in8 (i := 55) (by decide +kernel) (by decide +kernel)
theorem ml_X10_261 : Cond.methodLink RX10 261 yX10_word ∈ LT := tb_in8 (i := 58) (by decide +kernel) (by decide +kernel)
theorem ml_X10_280 : Cond.methodLink RX10 280 yJ0_length_8abf5 ∈ LT := tb_in8 (i := 63) (by decide +kernel) (by decide +kernel)
theorem ml_X10_285 : Cond.methodLink RX10 285 yJ0_charAt_5068e ∈ LT := tb_in8 (i := 64) (by decide +kernel) (by decide +kernel)
theorem ml_X10_267 : Cond.methodLink RX10 267 yX10_name ∈ LT := tb_in8 (i := 65) (by decide +kernel) (by decide +kernel)
theorem ml_X10_270 : Cond.methodLink RX10 270 yX10_isDigit ∈ LT := tb_in8 (i := 69) (by decide +kernel) (by decide +kernel)
theorem ml_X10_274 : Cond.methodLink RX10 274 yX10_sign ∈ LT := tb_in8 (i := 73) (by decide +kernel) (by decide +kernel)
theorem ml_X10_396 : Cond.methodLink RX10 396 yX10_line ∈ LT := tb_in8 (i := 77) (by decide +kernel) (by decide +kernel)
theorem ml_X10_298 : Cond.methodLink RX10 298 yX10_wrong ∈ LT := tb_in8 (i := 81) (by decide +kernel) (by decide +kernel)
theorem ml_X10_322 : Cond.methodLink RX10 322 yX10_isFull ∈ LT := tb_in8 (i := 85) (by decide +kernel) (by decide +kernel)
theorem ml_X10_305 : Cond.methodLink RX10 305 yX10_fresher ∈ LT := tb_in8 (i := 89) (by decide +kernel) (by decide +kernel)
theorem ml_X10_328 : Cond.methodLink RX10 328 yX10_fresh ∈ LT := tb_in8 (i := 93) (by decide +kernel) (by decide +kernel)
theorem ml_X10_301 : Cond.methodLink RX10 301 yX10_found ∈ LT := tb_in8 (i := 97) (by decide +kernel) (by decide +kernel)
theorem ml_X10_335 : Cond.methodLink RX10 335 yX10_linkLine ∈ LT := tb_in8 (i := 100) (by decide +kernel) (by decide +kernel)
theorem ml_X10_351 : Cond.methodLink RX10 351 yX10_placeAhead ∈ LT := tb_in8 (i := 104) (by decide +kernel) (by decide +kernel)
theorem ml_X10_313 : Cond.methodLink RX10 313 yX10_placeAtHand ∈ LT := tb_in8 (i := 108) (by decide +kernel) (by decide +kernel)
theorem ml_X10_309 : Cond.methodLink RX10 309 yX10_atHand ∈ LT := tb_in8 (i := 112) (by decide +kernel) (by decide +kernel)
theorem ml_X10_316 : Cond.methodLink RX10 316 yX10_goOn ∈ LT := tb_in8 (i := 116) (by decide +kernel) (by decide +kernel)
theorem ml_X10_338 : Cond.methodLink RX10 338 yX10_numeral ∈ LT := tb_in8 (i := 120) (by decide +kernel) (by decide +kernel)
theorem ml_X10_342 : Cond.methodLink RX10 342 yX10_heirLine ∈ LT := tb_in8 (i := 124) (by decide +kernel) (by decide +kernel)
theorem ml_X10_319 : Cond.methodLink RX10 319 yX10_ownerAtHand ∈ LT := tb_in8 (i := 128) (by decide +kernel) (by decide +kernel)
theorem ml_X10_345 : Cond.methodLink RX10 345 yX10_noiseLine ∈ LT := tb_in8 (i := 132) (by decide +kernel) (by decide +kernel)
theorem ml_X10_348 : Cond.methodLink RX10 348 yX10_ownerAhead ∈ LT := tb_in8 (i := 136) (by decide +kernel) (by decide +kernel)
theorem ml_X10_354 : Cond.methodLink RX10 354 yX10_lawLine ∈ LT := tb_in8 (i := 140) (by decide +kernel) (by decide +kernel)
theorem ml_X10_363 : Cond.methodLink RX10 363 yX10_expression ∈ LT := tb_in8 (i := 144) (by decide +kernel) (by decide +kernel)
theorem ml_X10_369 : Cond.methodLink RX10 369 yX10_conjunction ∈ LT := tb_in8 (i := 148) (by decide +kernel) (by decide +kernel)
theorem ml_X10_381 : Cond.methodLink RX10 381 yX10_negation ∈ LT := tb_in8 (i := 152) (by decide +kernel) (by decide +kernel)
theorem ml_X10_372 : Cond.methodLink RX10 372 yX10_isWord ∈ LT := tb_in8 (i := 156) (by decide +kernel) (by decide +kernel)
theorem ml_X10_375 : Cond.methodLink RX10 375 yX10_knot ∈ LT := tb_in8 (i := 160) (by decide +kernel) (by decide +kernel)
theorem ml_X10_378 : Cond.methodLink RX10 378 yX10_puts ∈ LT := tb_in8 (i := 164) (by decide +kernel) (by decide +kernel)
theorem ml_X10_384 : Cond.methodLink RX10 384 yX10_sum ∈ LT := tb_in8 (i := 168) (by decide +kernel) (by decide +kernel)
theorem ml_X10_387 : Cond.methodLink RX10 387 yX10_product ∈ LT := tb_in8 (i := 172) (by decide +kernel) (by decide +kernel)
theorem ml_X10_390 : Cond.methodLink RX10 390 yX10_primary ∈ LT := tb_in8 (i := 176) (by decide +kernel) (by decide +kernel)
theorem ml_X10_357 : Cond.methodLink RX10 357 yX10_isSign ∈ LT := tb_in8 (i := 180) (by decide +kernel) (by decide +kernel)
theorem ml_X10_402 : Cond.methodLink RX10 402 yX10_half ∈ LT := tb_in8 (i := 184) (by decide +kernel) (by decide +kernel)
theorem ml_X10_440 : Cond.methodLink RX10 440 yX10_hasLaw ∈ LT := tb_in8 (i := 199) (by decide +kernel) (by decide +kernel)
theorem ml_X10_455 : Cond.methodLink RX10 455 yX10_isOff ∈ LT := tb_in8 (i := 203) (by decide +kernel) (by decide +kernel)
theorem ml_X10_462 : Cond.methodLink RX10 462 yX10_callsFade ∈ LT := tb_in8 (i := 207) (by decide +kernel) (by decide +kernel)
theorem ml_X10_436 : Cond.methodLink RX10 436 yX10_callsWorth ∈ LT := tb_in8 (i := 211) (by decide +kernel) (by decide +kernel)
theorem ml_X10_443 : Cond.methodLink RX10 443 yX10_goes ∈ LT := tb_in8 (i := 215) (by decide +kernel) (by decide +kernel)
theorem ml_X10_433 : Cond.methodLink RX10 433 yX10_works ∈ LT := tb_in8 (i := 219) (by decide +kernel) (by decide +kernel)
theorem ml_X10_419 : Cond.methodLink RX10 419 yX10_is ∈ LT := tb_in8 (i := 223) (by decide +kernel) (by decide +kernel)
theorem ml_X10_423 : Cond.methodLink RX10 423 yJ9_abs_067f4 ∈ LT := tb_in8 (i := 226) (by decide +kernel) (by decide +kernel)
theorem ml_X10_512 : Cond.methodLink RX10 512 yX10_isOwner ∈ LT := tb_in8 (i := 235) (by decide +kernel) (by decide +kernel)
theorem ml_X10_515 : Cond.methodLink RX10 515 yX10_layDay ∈ LT := tb_in8 (i := 239) (by decide +kernel) (by decide +kernel)
theorem ml_X10_493 : Cond.methodLink RX10 493 yX10_layNoises ∈ LT := tb_in9 (i := 3) (by decide +kernel) (by decide +kernel)
theorem ml_X10_496 : Cond.methodLink RX10 496 yX10_layFar ∈ LT := tb_in9 (i := 7) (by decide +kernel) (by decide +kernel)
theorem ml_X10_474 : Cond.methodLink RX10 474 yJ9_min_7cf53 ∈ LT := tb_in9 (i := 12) (by decide +kernel) (by decide +kernel)
theorem ml_X10_484 : Cond.methodLink RX10 484 yX10_layFirst ∈ LT := tb_in9 (i := 13) (by decide +kernel) (by decide +kernel)
theorem ml_X10_480 : Cond.methodLink RX10 480 yX10_hears ∈ LT := tb_in9 (i := 17) (by decide +kernel) (by decide +kernel)
theorem ml_X10_476 : Cond.methodLink RX10 476 yX10_carries ∈ LT := tb_in9 (i := 21) (by decide +kernel) (by decide +kernel)
theorem ml_X10_499 : Cond.methodLink RX10 499 yX10_layClaims ∈ LT := tb_in9 (i := 25) (by decide +kernel) (by decide +kernel)
theorem ml_X10_502 : Cond.methodLink RX10 502 yX10_layWhose ∈ LT := tb_in9 (i := 29) (by decide +kernel) (by decide +kernel)
theorem ml_X10_490 : Cond.methodLink RX10 490 yX10_claimed ∈ LT := tb_in9 (i := 33) (by decide +kernel) (by decide +kernel)
theorem ml_X10_518 : Cond.methodLink RX10 518 yX10_trespasses ∈ LT := tb_in9 (i := 37) (by decide +kernel) (by decide +kernel)
theorem ml_X10_508 : Cond.methodLink RX10 508 yX10_against ∈ LT := tb_in9 (i := 41) (by decide +kernel) (by decide +kernel)
theorem ml_X10_505 : Cond.methodLink RX10 505 yX10_hasRight ∈ LT := tb_in9 (i := 45) (by decide +kernel) (by decide +kernel)
theorem ml_X10_521 : Cond.methodLink RX10 521 yX10_isNoise ∈ LT := tb_in9 (i := 53) (by decide +kernel) (by decide +kernel)
theorem ml_X10_524 : Cond.methodLink RX10 524 yX10_isLink ∈ LT := tb_in9 (i := 65) (by decide +kernel) (by decide +kernel)
theorem ml_X10_527 : Cond.methodLink RX10 527 yX10_isPlace ∈ LT := tb_in9 (i := 73) (by decide +kernel) (by decide +kernel)
theorem ml_X10_530 : Cond.methodLink RX10 530 yX10_isMinute ∈ LT := tb_in9 (i := 81) (by decide +kernel) (by decide +kernel)
theorem ml_X10_551 : Cond.methodLink RX10 551 yX10_layPieces ∈ LT := tb_in9 (i := 97) (by decide +kernel) (by decide +kernel)
theorem ml_X10_545 : Cond.methodLink RX10 545 yX10_spreads ∈ LT := tb_in9 (i := 101) (by decide +kernel) (by decide +kernel)
theorem ml_X10_548 : Cond.methodLink RX10 548 yX10_doTouch ∈ LT := tb_in9 (i := 105) (by decide +kernel) (by decide +kernel)
theorem ml_X10_535 : Cond.methodLink RX10 535 yX10_areBeside ∈ LT := tb_in9 (i := 109) (by decide +kernel) (by decide +kernel)
theorem ml_X10_579 : Cond.methodLink RX10 579 yX10_worthOfPiece ∈ LT := tb_in9 (i := 125) (by decide +kernel) (by decide +kernel)
theorem ml_X10_572 : Cond.methodLink RX10 572 yX10_layIts ∈ LT := tb_in9 (i := 129) (by decide +kernel) (by decide +kernel)
theorem ml_X10_566 : Cond.methodLink RX10 566 yX10_bitsOf ∈ LT := tb_in9 (i := 133) (by decide +kernel) (by decide +kernel)
theorem ml_X10_575 : Cond.methodLink RX10 575 yX10_worthOf ∈ LT := tb_in9 (i := 136) (by decide +kernel) (by decide +kernel)
theorem ml_X10_448 : Cond.methodLink RX10 448 yJ9_min_f86c9 ∈ LT := tb_in9 (i := 141) (by decide +kernel) (by decide +kernel)
theorem ml_X10_452 : Cond.methodLink RX10 452 yJ9_max_f86c9 ∈ LT := tb_in9 (i := 142) (by decide +kernel) (by decide +kernel)
theorem ml_X10_582 : Cond.methodLink RX10 582 yX10_factorial ∈ LT := tb_in9 (i := 151) (by decide +kernel) (by decide +kernel)
theorem ml_X10_585 : Cond.methodLink RX10 585 yX10_worthOfSet ∈ LT := tb_in9 (i := 154) (by decide +kernel) (by decide +kernel)
theorem ml_X10_591 : Cond.methodLink RX10 591 yX10_isLoud ∈ LT := tb_in9 (i := 166) (by decide +kernel) (by decide +kernel)
theorem ml_X10_594 : Cond.methodLink RX10 594 yX10_keepNow ∈ LT := tb_in9 (i := 169) (by decide +kernel) (by decide +kernel)
theorem ml_X10_588 : Cond.methodLink RX10 588 yX10_copies ∈ LT := tb_in9 (i := 173) (by decide +kernel) (by decide +kernel)
theorem ml_X10_597 : Cond.methodLink RX10 597 yX10_pays ∈ LT := tb_in9 (i := 193) (by decide +kernel) (by decide +kernel)
theorem ml_X10_614 : Cond.methodLink RX10 614 yX10_layPlan ∈ LT := tb_in9 (i := 201) (by decide +kernel) (by decide +kernel)
theorem ml_X10_611 : Cond.methodLink RX10 611 yX10_layBad ∈ LT := tb_in9 (i := 205) (by decide +kernel) (by decide +kernel)
theorem ml_X10_608 : Cond.methodLink RX10 608 yX10_plans ∈ LT := tb_in9 (i := 209) (by decide +kernel) (by decide +kernel)
theorem ml_X10_603 : Cond.methodLink RX10 603 yX10_isOpen ∈ LT := tb_in9 (i := 213) (by decide +kernel) (by decide +kernel)
theorem ml_X10_606 : Cond.methodLink RX10 606 yJ9_max_7cf53 ∈ LT := tb_in9 (i := 217) (by decide +kernel) (by decide +kernel)
theorem ml_X10_617 : Cond.methodLink RX10 617 yX10_isHeardBy ∈ LT := tb_in9 (i := 226) (by decide +kernel) (by decide +kernel)
theorem ml_X10_620 : Cond.methodLink RX10 620 yX10_barksNext ∈ LT := tb_in9 (i := 234) (by decide +kernel) (by decide +kernel)
theorem ml_X10_638 : Cond.methodLink RX10 638 yX10_layThieves ∈ LT := tb_in10 (i := 14) (by decide +kernel) (by decide +kernel)
theorem ml_X10_623 : Cond.methodLink RX10 623 yX10_knownMany ∈ LT := tb_in10 (i := 18) (by decide +kernel) (by decide +kernel)
theorem ml_X10_626 : Cond.methodLink RX10 626 yX10_areSo ∈ LT := tb_in10 (i := 22) (by decide +kernel) (by decide +kernel)
theorem ml_X10_644 : Cond.methodLink RX10 644 yX10_layHeirs ∈ LT := tb_in10 (i := 34) (by decide +kernel) (by decide +kernel)
theorem ml_X10_641 : Cond.methodLink RX10 641 yX10_holds ∈ LT := tb_in10 (i := 38) (by decide +kernel) (by decide +kernel)
theorem ml_X10_654 : Cond.methodLink RX10 654 yX10_isWait ∈ LT := tb_in10 (i := 46) (by decide +kernel) (by decide +kernel)
theorem ml_X10_657 : Cond.methodLink RX10 657 yX10_restOf ∈ LT := tb_in10 (i := 49) (by decide +kernel) (by decide +kernel)
theorem ml_X10_650 : Cond.methodLink RX10 650 yX10_isRest ∈ LT := tb_in10 (i := 52) (by decide +kernel) (by decide +kernel)
theorem ml_X10_647 : Cond.methodLink RX10 647 yX10_has ∈ LT := tb_in10 (i := 55) (by decide +kernel) (by decide +kernel)
theorem ml_X10_667 : Cond.methodLink RX10 667 yX10_draw ∈ LT := tb_in10 (i := 66) (by decide +kernel) (by decide +kernel)
theorem ml_X10_670 : Cond.methodLink RX10 670 yX10_softens ∈ LT := tb_in10 (i := 72) (by decide +kernel) (by decide +kernel)
theorem ml_X10_673 : Cond.methodLink RX10 673 yX10_adds ∈ LT := tb_in10 (i := 76) (by decide +kernel) (by decide +kernel)
theorem ml_X10_676 : Cond.methodLink RX10 676 yX10_silentAll ∈ LT := tb_in10 (i := 80) (by decide +kernel) (by decide +kernel)
theorem mc_mnI : Cond.code Lib.Math.min.name Lib.Math.min.code 2 (some .int) ∈ LT := tb_in3 (i := 45) (by decide +kernel) (by decide +kernel)
theorem mt_mnI : Cond.static Lib.Math.min.name ∈ LT := tb_in3 (i := 44) (by decide +kernel) (by decide +kernel)
theorem mc_mxI : Cond.code Lib.Math.max.name Lib.Math.max.code 2 (some .int) ∈ LT := tb_in3 (i := 68) (by decide +kernel) (by decide +kernel)
theorem mt_mxI : Cond.static Lib.Math.max.name ∈ LT := tb_in3 (i := 67) (by decide +kernel) (by decide +kernel)
theorem mc_mnJ : Cond.code Lib.MathLoose.min_long.x Lib.MathLoose.min_long.code 4 (some .long) ∈ LT := tb_in4 (i := 213) (by decide +kernel) (by decide +kernel)
theorem mt_mnJ : Cond.static Lib.MathLoose.min_long.x ∈ LT := tb_in4 (i := 212) (by decide +kernel) (by decide +kernel)
theorem mc_mxJ : Cond.code Lib.MathLoose.max_long.x Lib.MathLoose.max_long.code 4 (some .long) ∈ LT := tb_in4 (i := 216) (by decide +kernel) (by decide +kernel)
theorem mt_mxJ : Cond.static Lib.MathLoose.max_long.x ∈ LT := tb_in4 (i := 215) (by decide +kernel) (by decide +kernel)
theorem mc_abJ : Cond.code Lib.MathLoose.abs_long.x Lib.MathLoose.abs_long.code 2 (some .long) ∈ LT := tb_in8 (i := 228) (by decide +kernel) (by decide +kernel)
theorem mt_abJ : Cond.static Lib.MathLoose.abs_long.x ∈ LT := tb_in8 (i := 227) (by decide +kernel) (by decide +kernel)
theorem mi_math : Cond.initialized "java/lang/Math" ∈ LT := tb_in1 (i := 16) (by decide +kernel) (by decide +kernel)
theorem ms_X9_feed : MV yX9_feed cX9_feed 6 (some .int) 5 := ⟨(tb_in2 (i := 231) rfl rfl), (tb_in1 (i := 1) (by decide +kernel) (by decide +kernel)), ⟨by decide +kernel, by decide +kernel, by decide +kernel⟩, (tb_in2 (i := 229) (by decide +kernel) (by decide +kernel)), (tb_in2 (i := 230) (by decide +kernel) (by decide +kernel))⟩
theorem ms_X9_tapeNumber : MV yX9_tapeNumber cX9_tapeNumber 3 none 1 := ⟨(tb_in2 (i := 235) rfl rfl), (tb_in1 (i := 1) (by decide +kernel) (by decide +kernel)), ⟨by decide +kernel, by decide +kernel, by decide +kernel⟩, (tb_in2 (i := 234) (by decide +kernel) (by decide +kernel)), sl_in (i := 0) (n := 18) (by decide +kernel) (by decide +kernel)⟩
theorem ms_X9_text : MV yX9_text cX9_text 3 (some .int) 1 := ⟨(tb_in2 (i := 239) rfl rfl), (tb_in1 (i := 1) (by decide +kernel) (by decide +kernel)), ⟨by decide +kernel, by decide +kernel, by decide +kernel⟩, (tb_in2 (i := 237) (by decide +kernel) (by decide +kernel)), (tb_in2 (i := 238) (by decide +kernel) (by decide +kernel))⟩
theorem ms_X9_fault : MV yX9_fault cX9_fault 2 (some .int) 1 := ⟨(tb_in4 (i := 30) rfl rfl), (tb_in1 (i := 1) (by decide +kernel) (by decide +kernel)), ⟨by decide +kernel, by decide +kernel, by decide +kernel⟩, (tb_in4 (i := 28) (by decide +kernel) (by decide +kernel)), (tb_in4 (i := 29) (by decide +kernel) (by decide +kernel))⟩
theorem ms_X9_named : MV yX9_named cX9_named 3 (some .int) 2 := ⟨(tb_in4 (i := 34) rfl rfl), (tb_in1 (i := 1) (by decide +kernel) (by decide +kernel)), ⟨by decide +kernel, by decide +kernel, by decide +kernel⟩, (tb_in4 (i := 32) (by decide +kernel) (by decide +kernel)), (tb_in4 (i := 33) (by decide +kernel) (by decide +kernel))⟩
theorem ms_X9_owner : MV yX9_owner cX9_owner 3 (some .int) 2 := ⟨(tb_in6 (i := 94) rfl rfl), (tb_in1 (i := 1) (by decide +kernel) (by decide +kernel)), ⟨by decide +kernel, by decide +kernel, by decide +kernel⟩, (tb_in6 (i := 92) (by decide +kernel) (by decide +kernel)), (tb_in6 (i := 93) (by decide +kernel) (by decide +kernel))⟩
theorem ms_X9_noise : MV yX9_noise cX9_noise 3 (some .int) 2 := ⟨(tb_in4 (i := 39) rfl rfl), (tb_in1 (i := 1) (by decide +kernel) (by decide +kernel)), ⟨by decide +kernel, by decide +kernel, by decide +kernel⟩, (tb_in4 (i := 37) (by decide +kernel) (by decide +kernel)), (tb_in4 (i := 38) (by decide +kernel) (by decide +kernel))⟩
theorem ms_X9_claim : MV yX9_claim cX9_claim 3 (some .int) 2 := ⟨(tb_in4 (i := 44) rfl rfl), (tb_in1 (i := 1) (by decide +kernel) (by decide +kernel)), ⟨by decide +kernel, by decide +kernel, by decide +kernel⟩, (tb_in4 (i := 42) (by decide +kernel) (by decide +kernel)), (tb_in4 (i := 43) (by decide +kernel) (by decide +kernel))⟩
theorem ms_X9_link : MV yX9_link cX9_link 3 (some .int) 2 := ⟨(tb_in4 (i := 48) rfl rfl), (tb_in1 (i := 1) (by decide +kernel) (by decide +kernel)), ⟨by decide +kernel, by decide +kernel, by decide +kernel⟩, (tb_in4 (i := 46) (by decide +kernel) (by decide +kernel)), (tb_in4 (i := 47) (by decide +kernel) (by decide +kernel))⟩
theorem ms_X9_far : MV yX9_far cX9_far 3 (some .int) 2 := ⟨(tb_in4 (i := 52) rfl rfl), (tb_in1 (i := 1) (by decide +kernel) (by decide +kernel)), ⟨by decide +kernel, by decide +kernel, by decide +kernel⟩, (tb_in4 (i := 50) (by decide +kernel) (by decide +kernel)), (tb_in4 (i := 51) (by decide +kernel) (by decide +kernel))⟩
theorem ms_X9_law : MV yX9_law cX9_law 5 (some .long) 4 := ⟨(tb_in4 (i := 122) rfl rfl), (tb_in1 (i := 1) (by decide +kernel) (by decide +kernel)), ⟨by decide +kernel, by decide +kernel, by decide +kernel⟩, (tb_in4 (i := 120) (by decide +kernel) (by decide +kernel)), (tb_in4 (i := 121) (by decide +kernel) (by decide +kernel))⟩
theorem ms_X9_isLawNumber : MS yX9_isLawNumber cX9_isLawNumber 1 (some .boolean) 1 := ⟨(tb_in4 (i := 125) rfl rfl), (tb_in1 (i := 1) (by decide +kernel) (by decide +kernel)), ⟨by decide +kernel, by decide +kernel, by decide +kernel⟩, (tb_in4 (i := 124) (by decide +kernel) (by decide +kernel))⟩
theorem ms_X9_heard : MV yX9_heard cX9_heard 4 (some .int) 2 := ⟨(tb_in4 (i := 131) rfl rfl), (tb_in1 (i := 1) (by decide +kernel) (by decide +kernel)), ⟨by decide +kernel, by decide +kernel, by decide +kernel⟩, (tb_in4 (i := 129) (by decide +kernel) (by decide +kernel)), (tb_in4 (i := 130) (by decide +kernel) (by decide +kernel))⟩
theorem ms_X9_hush : MV yX9_hush cX9_hush 2 (some .long) 1 := ⟨(tb_in4 (i := 137) rfl rfl), (tb_in1 (i := 1) (by decide +kernel) (by decide +kernel)), ⟨by decide +kernel, by decide +kernel, by decide +kernel⟩, (tb_in4 (i := 135) (by decide +kernel) (by decide +kernel)), (tb_in4 (i := 136) (by decide +kernel) (by decide +kernel))⟩
theorem ms_X9_whose : MV yX9_whose cX9_whose 3 (some .int) 2 := ⟨(tb_in4 (i := 143) rfl rfl), (tb_in1 (i := 1) (by decide +kernel) (by decide +kernel)), ⟨by decide +kernel, by decide +kernel, by decide +kernel⟩, (tb_in4 (i := 141) (by decide +kernel) (by decide +kernel)), (tb_in4 (i := 142) (by decide +kernel) (by decide +kernel))⟩
theorem ms_X9_spans : MV yX9_spans cX9_spans 1 (some .int) 0 := ⟨(tb_in4 (i := 154) rfl rfl), (tb_in1 (i := 1) (by decide +kernel) (by decide +kernel)), ⟨by decide +kernel, by decide +kernel, by decide +kernel⟩, (tb_in4 (i := 152) (by decide +kernel) (by decide +kernel)), (tb_in4 (i := 153) (by decide +kernel) (by decide +kernel))⟩
theorem ms_X9_span : MV yX9_span cX9_span 4 (some .int) 2 := ⟨(tb_in4 (i := 220) rfl rfl), (tb_in1 (i := 1) (by decide +kernel) (by decide +kernel)), ⟨by decide +kernel, by decide +kernel, by decide +kernel⟩, (tb_in4 (i := 218) (by decide +kernel) (by decide +kernel)), (tb_in4 (i := 219) (by decide +kernel) (by decide +kernel))⟩
theorem ms_X9_pieces : MV yX9_pieces cX9_pieces 1 (some .int) 0 := ⟨(tb_in4 (i := 224) rfl rfl), (tb_in1 (i := 1) (by decide +kernel) (by decide +kernel)), ⟨by decide +kernel, by decide +kernel, by decide +kernel⟩, (tb_in4 (i := 222) (by decide +kernel) (by decide +kernel)), (tb_in4 (i := 223) (by decide +kernel) (by decide +kernel))⟩
theorem ms_X9_piece : MV yX9_piece cX9_piece 4 (some .int) 2 := ⟨(tb_in4 (i := 228) rfl rfl), (tb_in1 (i := 1) (by decide +kernel) (by decide +kernel)), ⟨by decide +kernel, by decide +kernel, by decide +kernel⟩, (tb_in4 (i := 226) (by decide +kernel) (by decide +kernel)), (tb_in4 (i := 227) (by decide +kernel) (by decide +kernel))⟩
theorem ms_X9_share : MV yX9_share cX9_share 3 (some .int) 2 := ⟨(tb_in4 (i := 232) rfl rfl), (tb_in1 (i := 1) (by decide +kernel) (by decide +kernel)), ⟨by decide +kernel, by decide +kernel, by decide +kernel⟩, (tb_in4 (i := 230) (by decide +kernel) (by decide +kernel)), (tb_in4 (i := 231) (by decide +kernel) (by decide +kernel))⟩
theorem ms_X9_part : MV yX9_part cX9_part 3 (some .int) 2 := ⟨(tb_in5 (i := 4) rfl rfl), (tb_in1 (i := 1) (by decide +kernel) (by decide +kernel)), ⟨by decide +kernel, by decide +kernel, by decide +kernel⟩, (tb_in5 (i := 2) (by decide +kernel) (by decide +kernel)), (tb_in5 (i := 3) (by decide +kernel) (by decide +kernel))⟩
theorem ms_X9_leaves : MV yX9_leaves cX9_leaves 2 (some .int) 1 := ⟨(tb_in5 (i := 18) rfl rfl), (tb_in1 (i := 1) (by decide +kernel) (by decide +kernel)), ⟨by decide +kernel, by decide +kernel, by decide +kernel⟩, (tb_in5 (i := 16) (by decide +kernel) (by decide +kernel)), (tb_in5 (i := 17) (by decide +kernel) (by decide +kernel))⟩
theorem ms_X9_make : MV yX9_make cX9_make 7 (some .int) 5 := ⟨(tb_in5 (i := 26) rfl rfl), (tb_in1 (i := 1) (by decide +kernel) (by decide +kernel)), ⟨by decide +kernel, by decide +kernel, by decide +kernel⟩, (tb_in5 (i := 24) (by decide +kernel) (by decide +kernel)), (tb_in5 (i := 25) (by decide +kernel) (by decide +kernel))⟩
theorem ms_X9_stop : MV yX9_stop cX9_stop 2 (some .boolean) 1 := ⟨(tb_in5 (i := 43) rfl rfl), (tb_in1 (i := 1) (by decide +kernel) (by decide +kernel)), ⟨by decide +kernel, by decide +kernel, by decide +kernel⟩, (tb_in5 (i := 41) (by decide +kernel) (by decide +kernel)), (tb_in5 (i := 42) (by decide +kernel) (by decide +kernel))⟩
theorem ms_X9_wall : MV yX9_wall cX9_wall 4 (some .boolean) 2 := ⟨(tb_in5 (i := 48) rfl rfl), (tb_in1 (i := 1) (by decide +kernel) (by decide +kernel)), ⟨by decide +kernel, by decide +kernel, by decide +kernel⟩, (tb_in5 (i := 46) (by decide +kernel) (by decide +kernel)), (tb_in5 (i := 47) (by decide +kernel) (by decide +kernel))⟩
theorem ms_X9_sell : MV yX9_sell cX9_sell 5 (some .boolean) 3 := ⟨(tb_in5 (i := 52) rfl rfl), (tb_in1 (i := 1) (by decide +kernel) (by decide +kernel)), ⟨by decide +kernel, by decide +kernel, by decide +kernel⟩, (tb_in5 (i := 50) (by decide +kernel) (by decide +kernel)), (tb_in5 (i := 51) (by decide +kernel) (by decide +kernel))⟩
theorem ms_X9_go : MV yX9_go cX9_go 3 (some .int) 1 := ⟨(tb_in5 (i := 62) rfl rfl), (tb_in1 (i := 1) (by decide +kernel) (by decide +kernel)), ⟨by decide +kernel, by decide +kernel, by decide +kernel⟩, (tb_in5 (i := 60) (by decide +kernel) (by decide +kernel)), (tb_in5 (i := 61) (by decide +kernel) (by decide +kernel))⟩
theorem ms_X9_plan : MV yX9_plan cX9_plan 1 (some .int) 0 := ⟨(tb_in5 (i := 83) rfl rfl), (tb_in1 (i := 1) (by decide +kernel) (by decide +kernel)), ⟨by decide +kernel, by decide +kernel, by decide +kernel⟩, (tb_in5 (i := 81) (by decide +kernel) (by decide +kernel)), (tb_in5 (i := 82) (by decide +kernel) (by decide +kernel))⟩
theorem ms_X9_planned : MV yX9_planned cX9_planned 3 (some .int) 2 := ⟨(tb_in5 (i := 115) rfl rfl), (tb_in1 (i := 1) (by decide +kernel) (by decide +kernel)), ⟨by decide +kernel, by decide +kernel, by decide +kernel⟩, (tb_in5 (i := 113) (by decide +kernel) (by decide +kernel)), (tb_in5 (i := 114) (by decide +kernel) (by decide +kernel))⟩
theorem ms_X9_walls : MV yX9_walls cX9_walls 7 (some .int) 2 := ⟨(tb_in5 (i := 127) rfl rfl), (tb_in1 (i := 1) (by decide +kernel) (by decide +kernel)), ⟨by decide +kernel, by decide +kernel, by decide +kernel⟩, (tb_in5 (i := 125) (by decide +kernel) (by decide +kernel)), (tb_in5 (i := 126) (by decide +kernel) (by decide +kernel))⟩
theorem ms_X9_buildOnTrial : MV yX9_buildOnTrial cX9_buildOnTrial 5 (some .boolean) 1 := ⟨(tb_in5 (i := 146) rfl rfl), (tb_in1 (i := 1) (by decide +kernel) (by decide +kernel)), ⟨by decide +kernel, by decide +kernel, by decide +kernel⟩, (tb_in5 (i := 145) (by decide +kernel) (by decide +kernel)), sl_in (i := 48) (n := 18) (by decide +kernel) (by decide +kernel)⟩
theorem ms_X9_trialReaches : MV yX9_trialReaches cX9_trialReaches 8 (some .boolean) 2 := ⟨(tb_in5 (i := 150) rfl rfl), (tb_in1 (i := 1) (by decide +kernel) (by decide +kernel)), ⟨by decide +kernel, by decide +kernel, by decide +kernel⟩, (tb_in5 (i := 149) (by decide +kernel) (by decide +kernel)), sl_in (i := 49) (n := 18) (by decide +kernel) (by decide +kernel)⟩
theorem ms_X9_bark : MV yX9_bark cX9_bark 7 (some .int) 2 := ⟨(tb_in5 (i := 155) rfl rfl), (tb_in1 (i := 1) (by decide +kernel) (by decide +kernel)), ⟨by decide +kernel, by decide +kernel, by decide +kernel⟩, (tb_in5 (i := 153) (by decide +kernel) (by decide +kernel)), (tb_in5 (i := 154) (by decide +kernel) (by decide +kernel))⟩
theorem ms_X9_isState : MS yX9_isState cX9_isState 1 (some .boolean) 1 := ⟨(tb_in5 (i := 162) rfl rfl), (tb_in1 (i := 1) (by decide +kernel) (by decide +kernel)), ⟨by decide +kernel, by decide +kernel, by decide +kernel⟩, (tb_in5 (i := 161) (by decide +kernel) (by decide +kernel))⟩
theorem ms_X9_answering : MV yX9_answering cX9_answering 6 (some .int) 2 := ⟨(tb_in5 (i := 167) rfl rfl), (tb_in1 (i := 1) (by decide +kernel) (by decide +kernel)), ⟨by decide +kernel, by decide +kernel, by decide +kernel⟩, (tb_in5 (i := 166) (by decide +kernel) (by decide +kernel)), sl_in (i := 50) (n := 18) (by decide +kernel) (by decide +kernel)⟩
theorem ms_X9_hearsAny : MV yX9_hearsAny cX9_hearsAny 7 (some .boolean) 4 := ⟨(tb_in5 (i := 171) rfl rfl), (tb_in1 (i := 1) (by decide +kernel) (by decide +kernel)), ⟨by decide +kernel, by decide +kernel, by decide +kernel⟩, (tb_in5 (i := 170) (by decide +kernel) (by decide +kernel)), sl_in (i := 51) (n := 18) (by decide +kernel) (by decide +kernel)⟩
theorem ms_X9_note : MV yX9_note cX9_note 4 (some .int) 3 := ⟨(tb_in5 (i := 175) rfl rfl), (tb_in1 (i := 1) (by decide +kernel) (by decide +kernel)), ⟨by decide +kernel, by decide +kernel, by decide +kernel⟩, (tb_in5 (i := 173) (by decide +kernel) (by decide +kernel)), (tb_in5 (i := 174) (by decide +kernel) (by decide +kernel))⟩
theorem ms_X9_strike : MV yX9_strike cX9_strike 2 (some .int) 1 := ⟨(tb_in5 (i := 179) rfl rfl), (tb_in1 (i := 1) (by decide +kernel) (by decide +kernel)), ⟨by decide +kernel, by decide +kernel, by decide +kernel⟩, (tb_in5 (i := 177) (by decide +kernel) (by decide +kernel)), (tb_in5 (i := 178) (by decide +kernel) (by decide +kernel))⟩
theorem ms_X9_known : MV yX9_known cX9_known 2 (some .boolean) 1 := ⟨(tb_in5 (i := 183) rfl rfl), (tb_in1 (i := 1) (by decide +kernel) (by decide +kernel)), ⟨by decide +kernel, by decide +kernel, by decide +kernel⟩, (tb_in5 (i := 181) (by decide +kernel) (by decide +kernel)), (tb_in5 (i := 182) (by decide +kernel) (by decide +kernel))⟩
theorem ms_X9_thieves : MV yX9_thieves cX9_thieves 1 (some .int) 0 := ⟨(tb_in5 (i := 187) rfl rfl), (tb_in1 (i := 1) (by decide +kernel) (by decide +kernel)), ⟨by decide +kernel, by decide +kernel, by decide +kernel⟩, (tb_in5 (i := 185) (by decide +kernel) (by decide +kernel)), (tb_in5 (i := 186) (by decide +kernel) (by decide +kernel))⟩
theorem ms_X9_thief : MV yX9_thief cX9_thief 3 (some .int) 2 := ⟨(tb_in5 (i := 220) rfl rfl), (tb_in1 (i := 1) (by decide +kernel) (by decide +kernel)), ⟨by decide +kernel, by decide +kernel, by decide +kernel⟩, (tb_in5 (i := 218) (by decide +kernel) (by decide +kernel)), (tb_in5 (i := 219) (by decide +kernel) (by decide +kernel))⟩
theorem ms_X9_left : MV yX9_left cX9_left 4 (some .int) 2 := ⟨(tb_in5 (i := 224) rfl rfl), (tb_in1 (i := 1) (by decide +kernel) (by decide +kernel)), ⟨by decide +kernel, by decide +kernel, by decide +kernel⟩, (tb_in5 (i := 222) (by decide +kernel) (by decide +kernel)), (tb_in5 (i := 223) (by decide +kernel) (by decide +kernel))⟩
theorem ms_X9_inherit : MV yX9_inherit cX9_inherit 11 none 3 := ⟨(tb_in5 (i := 228) rfl rfl), (tb_in1 (i := 1) (by decide +kernel) (by decide +kernel)), ⟨by decide +kernel, by decide +kernel, by decide +kernel⟩, (tb_in5 (i := 227) (by decide +kernel) (by decide +kernel)), sl_in (i := 56) (n := 18) (by decide +kernel) (by decide +kernel)⟩
theorem ms_X9_rests : MV yX9_rests cX9_rests 6 (some .int) 3 := ⟨(tb_in6 (i := 2) rfl rfl), (tb_in1 (i := 1) (by decide +kernel) (by decide +kernel)), ⟨by decide +kernel, by decide +kernel, by decide +kernel⟩, (tb_in6 (i := 0) (by decide +kernel) (by decide +kernel)), (tb_in6 (i := 1) (by decide +kernel) (by decide +kernel))⟩
theorem ms_X9_rest : MV yX9_rest cX9_rest 7 (some .int) 4 := ⟨(tb_in6 (i := 16) rfl rfl), (tb_in1 (i := 1) (by decide +kernel) (by decide +kernel)), ⟨by decide +kernel, by decide +kernel, by decide +kernel⟩, (tb_in6 (i := 14) (by decide +kernel) (by decide +kernel)), (tb_in6 (i := 15) (by decide +kernel) (by decide +kernel))⟩
theorem ms_X9_isStake : MS yX9_isStake cX9_isStake 1 (some .boolean) 1 := ⟨(tb_in6 (i := 5) rfl rfl), (tb_in1 (i := 1) (by decide +kernel) (by decide +kernel)), ⟨by decide +kernel, by decide +kernel, by decide +kernel⟩, (tb_in6 (i := 4) (by decide +kernel) (by decide +kernel))⟩
theorem ms_X9_isRest : MS yX9_isRest cX9_isRest 9 (some .boolean) 4 := ⟨(tb_in6 (i := 8) rfl rfl), (tb_in1 (i := 1) (by decide +kernel) (by decide +kernel)), ⟨by decide +kernel, by decide +kernel, by decide +kernel⟩, (tb_in6 (i := 7) (by decide +kernel) (by decide +kernel))⟩
theorem ms_X9_gain : MS yX9_gain cX9_gain 5 (some .int) 4 := ⟨(tb_in6 (i := 11) rfl rfl), (tb_in1 (i := 1) (by decide +kernel) (by decide +kernel)), ⟨by decide +kernel, by decide +kernel, by decide +kernel⟩, (tb_in6 (i := 10) (by decide +kernel) (by decide +kernel))⟩
theorem ms_X9_year : MV yX9_year cX9_year 11 (some .int) 2 := ⟨(tb_in6 (i := 20) rfl rfl), (tb_in1 (i := 1) (by decide +kernel) (by decide +kernel)), ⟨by decide +kernel, by decide +kernel, by decide +kernel⟩, (tb_in6 (i := 18) (by decide +kernel) (by decide +kernel)), (tb_in6 (i := 19) (by decide +kernel) (by decide +kernel))⟩
theorem ms_X9_nextNumber : MS yX9_nextNumber cX9_nextNumber 1 (some .int) 1 := ⟨(tb_in6 (i := 49) rfl rfl), (tb_in1 (i := 1) (by decide +kernel) (by decide +kernel)), ⟨by decide +kernel, by decide +kernel, by decide +kernel⟩, (tb_in6 (i := 48) (by decide +kernel) (by decide +kernel))⟩
theorem ms_X9_quarrelled : MV yX9_quarrelled cX9_quarrelled 7 (some .int) 2 := ⟨(tb_in6 (i := 54) rfl rfl), (tb_in1 (i := 1) (by decide +kernel) (by decide +kernel)), ⟨by decide +kernel, by decide +kernel, by decide +kernel⟩, (tb_in6 (i := 53) (by decide +kernel) (by decide +kernel)), sl_in (i := 59) (n := 18) (by decide +kernel) (by decide +kernel)⟩
theorem ms_X9_tried : MV yX9_tried cX9_tried 4 (some .int) 2 := ⟨(tb_in6 (i := 34) rfl rfl), (tb_in1 (i := 1) (by decide +kernel) (by decide +kernel)), ⟨by decide +kernel, by decide +kernel, by decide +kernel⟩, (tb_in6 (i := 32) (by decide +kernel) (by decide +kernel)), (tb_in6 (i := 33) (by decide +kernel) (by decide +kernel))⟩
theorem ms_X9_canTry : MV yX9_canTry cX9_canTry 3 (some .boolean) 2 := ⟨(tb_in6 (i := 38) rfl rfl), (tb_in1 (i := 1) (by decide +kernel) (by decide +kernel)), ⟨by decide +kernel, by decide +kernel, by decide +kernel⟩, (tb_in6 (i := 37) (by decide +kernel) (by decide +kernel)), sl_in (i := 58) (n := 18) (by decide +kernel) (by decide +kernel)⟩
theorem ms_X9_measureTrial : MV yX9_measureTrial cX9_measureTrial 2 none 1 := ⟨(tb_in5 (i := 232) rfl rfl), (tb_in1 (i := 1) (by decide +kernel) (by decide +kernel)), ⟨by decide +kernel, by decide +kernel, by decide +kernel⟩, (tb_in5 (i := 231) (by decide +kernel) (by decide +kernel)), sl_in (i := 57) (n := 18) (by decide +kernel) (by decide +kernel)⟩
theorem ms_X9_undo : MV yX9_undo cX9_undo 4 (some .int) 0 := ⟨(tb_in6 (i := 60) rfl rfl), (tb_in1 (i := 1) (by decide +kernel) (by decide +kernel)), ⟨by decide +kernel, by decide +kernel, by decide +kernel⟩, (tb_in6 (i := 58) (by decide +kernel) (by decide +kernel)), (tb_in6 (i := 59) (by decide +kernel) (by decide +kernel))⟩
theorem ms_X9_logged : MV yX9_logged cX9_logged 6 none 5 := ⟨(tb_in5 (i := 31) rfl rfl), (tb_in1 (i := 1) (by decide +kernel) (by decide +kernel)), ⟨by decide +kernel, by decide +kernel, by decide +kernel⟩, (tb_in5 (i := 30) (by decide +kernel) (by decide +kernel)), sl_in (i := 43) (n := 18) (by decide +kernel) (by decide +kernel)⟩
theorem ms_X9_keep : MV yX9_keep cX9_keep 1 (some .int) 0 := ⟨(tb_in6 (i := 68) rfl rfl), (tb_in1 (i := 1) (by decide +kernel) (by decide +kernel)), ⟨by decide +kernel, by decide +kernel, by decide +kernel⟩, (tb_in6 (i := 66) (by decide +kernel) (by decide +kernel)), (tb_in6 (i := 67) (by decide +kernel) (by decide +kernel))⟩
theorem ms_X9_back : MV yX9_back cX9_back 1 (some .int) 0 := ⟨(tb_in6 (i := 72) rfl rfl), (tb_in1 (i := 1) (by decide +kernel) (by decide +kernel)), ⟨by decide +kernel, by decide +kernel, by decide +kernel⟩, (tb_in6 (i := 70) (by decide +kernel) (by decide +kernel)), (tb_in6 (i := 71) (by decide +kernel) (by decide +kernel))⟩
theorem ms_X9_count : MV yX9_count cX9_count 2 (some .int) 1 := ⟨(tb_in6 (i := 76) rfl rfl), (tb_in1 (i := 1) (by decide +kernel) (by decide +kernel)), ⟨by decide +kernel, by decide +kernel, by decide +kernel⟩, (tb_in6 (i := 74) (by decide +kernel) (by decide +kernel)), (tb_in6 (i := 75) (by decide +kernel) (by decide +kernel))⟩
theorem ms_X9_changed : MV yX9_changed cX9_changed 1 none 0 := ⟨(tb_in4 (i := 26) rfl rfl), (tb_in1 (i := 1) (by decide +kernel) (by decide +kernel)), ⟨by decide +kernel, by decide +kernel, by decide +kernel⟩, (tb_in4 (i := 25) (by decide +kernel) (by decide +kernel)), sl_in (i := 32) (n := 18) (by decide +kernel) (by decide +kernel)⟩
theorem ms_X9_freshAir : MV yX9_freshAir cX9_freshAir 1 (some (.object "OwnedSilence$Air")) 0 := ⟨(tb_in4 (i := 57) rfl rfl), (tb_in1 (i := 1) (by decide +kernel) (by decide +kernel)), ⟨by decide +kernel, by decide +kernel, by decide +kernel⟩, (tb_in4 (i := 56) (by decide +kernel) (by decide +kernel)), sl_in (i := 33) (n := 18) (by decide +kernel) (by decide +kernel)⟩
theorem ms_X9_freshPieces : MV yX9_freshPieces cX9_freshPieces 1 (some (.object "OwnedSilence$Pieces")) 0 := ⟨(tb_in4 (i := 158) rfl rfl), (tb_in1 (i := 1) (by decide +kernel) (by decide +kernel)), ⟨by decide +kernel, by decide +kernel, by decide +kernel⟩, (tb_in4 (i := 157) (by decide +kernel) (by decide +kernel)), sl_in (i := 35) (n := 18) (by decide +kernel) (by decide +kernel)⟩
theorem ms_X9_isMinute : MS yX9_isMinute cX9_isMinute 1 (some .boolean) 1 := ⟨(tb_in4 (i := 97) rfl rfl), (tb_in1 (i := 1) (by decide +kernel) (by decide +kernel)), ⟨by decide +kernel, by decide +kernel, by decide +kernel⟩, (tb_in4 (i := 96) (by decide +kernel) (by decide +kernel))⟩
theorem ms_X10_thrown : MV yX10_thrown cX10_thrown 1 (some .int) 0 := ⟨(tb_in8 (i := 34) rfl rfl), (tb_in1 (i := 15) (by decide +kernel) (by decide +kernel)), ⟨by decide +kernel, by decide +kernel, by decide +kernel⟩, (tb_in8 (i := 32) (by decide +kernel) (by decide +kernel)), (tb_in8 (i := 33) (by decide +kernel) (by decide +kernel))⟩
theorem ms_X10_feed : MV yX10_feed cX10_feed 8 (some .int) 5 := ⟨(tb_in8 (i := 38) rfl rfl), (tb_in1 (i := 15) (by decide +kernel) (by decide +kernel)), ⟨by decide +kernel, by decide +kernel, by decide +kernel⟩, (tb_in8 (i := 36) (by decide +kernel) (by decide +kernel)), (tb_in8 (i := 37) (by decide +kernel) (by decide +kernel))⟩
theorem ms_X10_here : MV yX10_here cX10_here 1 (some .int) 0 := ⟨(tb_in8 (i := 54) rfl rfl), (tb_in1 (i := 15) (by decide +kernel) (by decide +kernel)), ⟨by decide +kernel, by decide +kernel, by decide +kernel⟩, (tb_in8 (i := 53) (by decide +kernel) (by decide +kernel)), sl_in (i := 65) (n := 105) (by decide +kernel) (by decide +kernel)⟩
theorem ms_X10_isSmall : MS yX10_isSmall cX10_isSmall 1 (some .boolean) 1 := ⟨(tb_in8 (i := 57) rfl rfl), (tb_in1 (i := 15) (by decide +kernel) (by decide +kernel)), ⟨by decide +kernel, by decide +kernel, by decide +kernel⟩, (tb_in8 (i := 56) (by decide +kernel) (by decide +kernel))⟩
theorem ms_X10_isDigit : MS yX10_isDigit cX10_isDigit 1 (some .boolean) 1 := ⟨(tb_in8 (i := 71) rfl rfl), (tb_in1 (i := 15) (by decide +kernel) (by decide +kernel)), ⟨by decide +kernel, by decide +kernel, by decide +kernel⟩, (tb_in8 (i := 70) (by decide +kernel) (by decide +kernel))⟩
theorem ms_X10_token : MV yX10_token cX10_token 2 none 0 := ⟨(tb_in8 (i := 50) rfl rfl), (tb_in1 (i := 15) (by decide +kernel) (by decide +kernel)), ⟨by decide +kernel, by decide +kernel, by decide +kernel⟩, (tb_in8 (i := 49) (by decide +kernel) (by decide +kernel)), sl_in (i := 64) (n := 105) (by decide +kernel) (by decide +kernel)⟩
theorem ms_X10_sign : MV yX10_sign cX10_sign 2 none 1 := ⟨(tb_in8 (i := 76) rfl rfl), (tb_in1 (i := 15) (by decide +kernel) (by decide +kernel)), ⟨by decide +kernel, by decide +kernel, by decide +kernel⟩, (tb_in8 (i := 75) (by decide +kernel) (by decide +kernel)), sl_in (i := 68) (n := 105) (by decide +kernel) (by decide +kernel)⟩
theorem ms_X10_word : MV yX10_word cX10_word 4 (some .int) 0 := ⟨(tb_in8 (i := 61) rfl rfl), (tb_in1 (i := 15) (by decide +kernel) (by decide +kernel)), ⟨by decide +kernel, by decide +kernel, by decide +kernel⟩, (tb_in8 (i := 60) (by decide +kernel) (by decide +kernel)), sl_in (i := 66) (n := 105) (by decide +kernel) (by decide +kernel)⟩
theorem ms_X10_name : MV yX10_name cX10_name 2 none 0 := ⟨(tb_in8 (i := 68) rfl rfl), (tb_in1 (i := 15) (by decide +kernel) (by decide +kernel)), ⟨by decide +kernel, by decide +kernel, by decide +kernel⟩, (tb_in8 (i := 67) (by decide +kernel) (by decide +kernel)), sl_in (i := 67) (n := 105) (by decide +kernel) (by decide +kernel)⟩
theorem ms_X10_wrong : MV yX10_wrong cX10_wrong 2 none 1 := ⟨(tb_in8 (i := 84) rfl rfl), (tb_in1 (i := 15) (by decide +kernel) (by decide +kernel)), ⟨by decide +kernel, by decide +kernel, by decide +kernel⟩, (tb_in8 (i := 83) (by decide +kernel) (by decide +kernel)), sl_in (i := 70) (n := 105) (by decide +kernel) (by decide +kernel)⟩
theorem ms_X10_isWord : MV yX10_isWord cX10_isWord 2 (some .boolean) 1 := ⟨(tb_in8 (i := 159) rfl rfl), (tb_in1 (i := 15) (by decide +kernel) (by decide +kernel)), ⟨by decide +kernel, by decide +kernel, by decide +kernel⟩, (tb_in8 (i := 158) (by decide +kernel) (by decide +kernel)), sl_in (i := 88) (n := 105) (by decide +kernel) (by decide +kernel)⟩
theorem ms_X10_isSign : MV yX10_isSign cX10_isSign 2 (some .boolean) 1 := ⟨(tb_in8 (i := 183) rfl rfl), (tb_in1 (i := 15) (by decide +kernel) (by decide +kernel)), ⟨by decide +kernel, by decide +kernel, by decide +kernel⟩, (tb_in8 (i := 182) (by decide +kernel) (by decide +kernel)), sl_in (i := 94) (n := 105) (by decide +kernel) (by decide +kernel)⟩
theorem ms_X10_goOn : MV yX10_goOn cX10_goOn 1 none 0 := ⟨(tb_in8 (i := 119) rfl rfl), (tb_in1 (i := 15) (by decide +kernel) (by decide +kernel)), ⟨by decide +kernel, by decide +kernel, by decide +kernel⟩, (tb_in8 (i := 118) (by decide +kernel) (by decide +kernel)), sl_in (i := 78) (n := 105) (by decide +kernel) (by decide +kernel)⟩
theorem ms_X10_numeral : MV yX10_numeral cX10_numeral 4 (some .int) 2 := ⟨(tb_in8 (i := 123) rfl rfl), (tb_in1 (i := 15) (by decide +kernel) (by decide +kernel)), ⟨by decide +kernel, by decide +kernel, by decide +kernel⟩, (tb_in8 (i := 122) (by decide +kernel) (by decide +kernel)), sl_in (i := 79) (n := 105) (by decide +kernel) (by decide +kernel)⟩
theorem ms_X10_found : MS yX10_found cX10_found 5 (some .int) 4 := ⟨(tb_in8 (i := 99) rfl rfl), (tb_in1 (i := 15) (by decide +kernel) (by decide +kernel)), ⟨by decide +kernel, by decide +kernel, by decide +kernel⟩, (tb_in8 (i := 98) (by decide +kernel) (by decide +kernel))⟩
theorem ms_X10_fresh : MV yX10_fresh cX10_fresh 5 (some .int) 3 := ⟨(tb_in8 (i := 96) rfl rfl), (tb_in1 (i := 15) (by decide +kernel) (by decide +kernel)), ⟨by decide +kernel, by decide +kernel, by decide +kernel⟩, (tb_in8 (i := 95) (by decide +kernel) (by decide +kernel)), sl_in (i := 73) (n := 105) (by decide +kernel) (by decide +kernel)⟩
theorem ms_X10_fresher : MV yX10_fresher cX10_fresher 2 (some .int) 1 := ⟨(tb_in8 (i := 92) rfl rfl), (tb_in1 (i := 15) (by decide +kernel) (by decide +kernel)), ⟨by decide +kernel, by decide +kernel, by decide +kernel⟩, (tb_in8 (i := 91) (by decide +kernel) (by decide +kernel)), sl_in (i := 72) (n := 105) (by decide +kernel) (by decide +kernel)⟩
theorem ms_X10_reads : MV yX10_reads cX10_reads 3 none 2 := ⟨(tb_in8 (i := 46) rfl rfl), (tb_in1 (i := 15) (by decide +kernel) (by decide +kernel)), ⟨by decide +kernel, by decide +kernel, by decide +kernel⟩, (tb_in8 (i := 45) (by decide +kernel) (by decide +kernel)), sl_in (i := 63) (n := 105) (by decide +kernel) (by decide +kernel)⟩
theorem ms_X10_atHand : MV yX10_atHand cX10_atHand 4 (some .int) 3 := ⟨(tb_in8 (i := 115) rfl rfl), (tb_in1 (i := 15) (by decide +kernel) (by decide +kernel)), ⟨by decide +kernel, by decide +kernel, by decide +kernel⟩, (tb_in8 (i := 114) (by decide +kernel) (by decide +kernel)), sl_in (i := 77) (n := 105) (by decide +kernel) (by decide +kernel)⟩
theorem ms_X10_placeAtHand : MV yX10_placeAtHand cX10_placeAtHand 1 (some .int) 0 := ⟨(tb_in8 (i := 111) rfl rfl), (tb_in1 (i := 15) (by decide +kernel) (by decide +kernel)), ⟨by decide +kernel, by decide +kernel, by decide +kernel⟩, (tb_in8 (i := 110) (by decide +kernel) (by decide +kernel)), sl_in (i := 76) (n := 105) (by decide +kernel) (by decide +kernel)⟩
theorem ms_X10_ownerAtHand : MV yX10_ownerAtHand cX10_ownerAtHand 1 (some .int) 0 := ⟨(tb_in8 (i := 131) rfl rfl), (tb_in1 (i := 15) (by decide +kernel) (by decide +kernel)), ⟨by decide +kernel, by decide +kernel, by decide +kernel⟩, (tb_in8 (i := 130) (by decide +kernel) (by decide +kernel)), sl_in (i := 81) (n := 105) (by decide +kernel) (by decide +kernel)⟩
theorem ms_X10_placeAhead : MV yX10_placeAhead cX10_placeAhead 2 (some .int) 0 := ⟨(tb_in8 (i := 107) rfl rfl), (tb_in1 (i := 15) (by decide +kernel) (by decide +kernel)), ⟨by decide +kernel, by decide +kernel, by decide +kernel⟩, (tb_in8 (i := 106) (by decide +kernel) (by decide +kernel)), sl_in (i := 75) (n := 105) (by decide +kernel) (by decide +kernel)⟩
theorem ms_X10_ownerAhead : MV yX10_ownerAhead cX10_ownerAhead 2 (some .int) 0 := ⟨(tb_in8 (i := 139) rfl rfl), (tb_in1 (i := 15) (by decide +kernel) (by decide +kernel)), ⟨by decide +kernel, by decide +kernel, by decide +kernel⟩, (tb_in8 (i := 138) (by decide +kernel) (by decide +kernel)), sl_in (i := 83) (n := 105) (by decide +kernel) (by decide +kernel)⟩
theorem ms_X10_isFull : MV yX10_isFull cX10_isFull 2 (some .boolean) 1 := ⟨(tb_in8 (i := 88) rfl rfl), (tb_in1 (i := 15) (by decide +kernel) (by decide +kernel)), ⟨by decide +kernel, by decide +kernel, by decide +kernel⟩, (tb_in8 (i := 87) (by decide +kernel) (by decide +kernel)), sl_in (i := 71) (n := 105) (by decide +kernel) (by decide +kernel)⟩
theorem ms_X10_line : MV yX10_line cX10_line 9 none 0 := ⟨(tb_in8 (i := 80) rfl rfl), (tb_in1 (i := 15) (by decide +kernel) (by decide +kernel)), ⟨by decide +kernel, by decide +kernel, by decide +kernel⟩, (tb_in8 (i := 79) (by decide +kernel) (by decide +kernel)), sl_in (i := 69) (n := 105) (by decide +kernel) (by decide +kernel)⟩
theorem ms_X10_linkLine : MV yX10_linkLine cX10_linkLine 5 none 1 := ⟨(tb_in8 (i := 103) rfl rfl), (tb_in1 (i := 15) (by decide +kernel) (by decide +kernel)), ⟨by decide +kernel, by decide +kernel, by decide +kernel⟩, (tb_in8 (i := 102) (by decide +kernel) (by decide +kernel)), sl_in (i := 74) (n := 105) (by decide +kernel) (by decide +kernel)⟩
theorem ms_X10_heirLine : MV yX10_heirLine cX10_heirLine 3 none 0 := ⟨(tb_in8 (i := 127) rfl rfl), (tb_in1 (i := 15) (by decide +kernel) (by decide +kernel)), ⟨by decide +kernel, by decide +kernel, by decide +kernel⟩, (tb_in8 (i := 126) (by decide +kernel) (by decide +kernel)), sl_in (i := 80) (n := 105) (by decide +kernel) (by decide +kernel)⟩
theorem ms_X10_noiseLine : MV yX10_noiseLine cX10_noiseLine 2 none 1 := ⟨(tb_in8 (i := 135) rfl rfl), (tb_in1 (i := 15) (by decide +kernel) (by decide +kernel)), ⟨by decide +kernel, by decide +kernel, by decide +kernel⟩, (tb_in8 (i := 134) (by decide +kernel) (by decide +kernel)), sl_in (i := 82) (n := 105) (by decide +kernel) (by decide +kernel)⟩
theorem ms_X10_lawLine : MV yX10_lawLine cX10_lawLine 2 none 0 := ⟨(tb_in8 (i := 143) rfl rfl), (tb_in1 (i := 15) (by decide +kernel) (by decide +kernel)), ⟨by decide +kernel, by decide +kernel, by decide +kernel⟩, (tb_in8 (i := 142) (by decide +kernel) (by decide +kernel)), sl_in (i := 84) (n := 105) (by decide +kernel) (by decide +kernel)⟩
theorem ms_X10_puts : MV yX10_puts cX10_puts 3 none 2 := ⟨(tb_in8 (i := 167) rfl rfl), (tb_in1 (i := 15) (by decide +kernel) (by decide +kernel)), ⟨by decide +kernel, by decide +kernel, by decide +kernel⟩, (tb_in8 (i := 166) (by decide +kernel) (by decide +kernel)), sl_in (i := 90) (n := 105) (by decide +kernel) (by decide +kernel)⟩
theorem ms_X10_knot : MV yX10_knot cX10_knot 1 none 0 := ⟨(tb_in8 (i := 163) rfl rfl), (tb_in1 (i := 15) (by decide +kernel) (by decide +kernel)), ⟨by decide +kernel, by decide +kernel, by decide +kernel⟩, (tb_in8 (i := 162) (by decide +kernel) (by decide +kernel)), sl_in (i := 89) (n := 105) (by decide +kernel) (by decide +kernel)⟩
theorem ms_X10_expression : MV yX10_expression cX10_expression 1 none 0 := ⟨(tb_in8 (i := 147) rfl rfl), (tb_in1 (i := 15) (by decide +kernel) (by decide +kernel)), ⟨by decide +kernel, by decide +kernel, by decide +kernel⟩, (tb_in8 (i := 146) (by decide +kernel) (by decide +kernel)), sl_in (i := 85) (n := 105) (by decide +kernel) (by decide +kernel)⟩
theorem ms_X10_conjunction : MV yX10_conjunction cX10_conjunction 1 none 0 := ⟨(tb_in8 (i := 151) rfl rfl), (tb_in1 (i := 15) (by decide +kernel) (by decide +kernel)), ⟨by decide +kernel, by decide +kernel, by decide +kernel⟩, (tb_in8 (i := 150) (by decide +kernel) (by decide +kernel)), sl_in (i := 86) (n := 105) (by decide +kernel) (by decide +kernel)⟩
theorem ms_X10_negation : MV yX10_negation cX10_negation 2 none 0 := ⟨(tb_in8 (i := 155) rfl rfl), (tb_in1 (i := 15) (by decide +kernel) (by decide +kernel)), ⟨by decide +kernel, by decide +kernel, by decide +kernel⟩, (tb_in8 (i := 154) (by decide +kernel) (by decide +kernel)), sl_in (i := 87) (n := 105) (by decide +kernel) (by decide +kernel)⟩
theorem ms_X10_sum : MV yX10_sum cX10_sum 2 none 0 := ⟨(tb_in8 (i := 171) rfl rfl), (tb_in1 (i := 15) (by decide +kernel) (by decide +kernel)), ⟨by decide +kernel, by decide +kernel, by decide +kernel⟩, (tb_in8 (i := 170) (by decide +kernel) (by decide +kernel)), sl_in (i := 91) (n := 105) (by decide +kernel) (by decide +kernel)⟩
theorem ms_X10_product : MV yX10_product cX10_product 2 none 0 := ⟨(tb_in8 (i := 175) rfl rfl), (tb_in1 (i := 15) (by decide +kernel) (by decide +kernel)), ⟨by decide +kernel, by decide +kernel, by decide +kernel⟩, (tb_in8 (i := 174) (by decide +kernel) (by decide +kernel)), sl_in (i := 92) (n := 105) (by decide +kernel) (by decide +kernel)⟩
theorem ms_X10_primary : MV yX10_primary cX10_primary 2 none 0 := ⟨(tb_in8 (i := 179) rfl rfl), (tb_in1 (i := 15) (by decide +kernel) (by decide +kernel)), ⟨by decide +kernel, by decide +kernel, by decide +kernel⟩, (tb_in8 (i := 178) (by decide +kernel) (by decide +kernel)), sl_in (i := 93) (n := 105) (by decide +kernel) (by decide +kernel)⟩
theorem ms_X10_half : MS yX10_half cX10_half 3 none 1 := ⟨(tb_in8 (i := 186) rfl rfl), (tb_in1 (i := 15) (by decide +kernel) (by decide +kernel)), ⟨by decide +kernel, by decide +kernel, by decide +kernel⟩, (tb_in8 (i := 185) (by decide +kernel) (by decide +kernel))⟩
theorem ms_X10_text : MV yX10_text cX10_text 3 (some .int) 1 := ⟨(tb_in8 (i := 42) rfl rfl), (tb_in1 (i := 15) (by decide +kernel) (by decide +kernel)), ⟨by decide +kernel, by decide +kernel, by decide +kernel⟩, (tb_in8 (i := 40) (by decide +kernel) (by decide +kernel)), (tb_in8 (i := 41) (by decide +kernel) (by decide +kernel))⟩
theorem ms_X10_fault : MV yX10_fault cX10_fault 2 (some .int) 1 := ⟨(tb_in8 (i := 190) rfl rfl), (tb_in1 (i := 15) (by decide +kernel) (by decide +kernel)), ⟨by decide +kernel, by decide +kernel, by decide +kernel⟩, (tb_in8 (i := 188) (by decide +kernel) (by decide +kernel)), (tb_in8 (i := 189) (by decide +kernel) (by decide +kernel))⟩
theorem ms_X10_named : MV yX10_named cX10_named 3 (some .int) 2 := ⟨(tb_in8 (i := 194) rfl rfl), (tb_in1 (i := 15) (by decide +kernel) (by decide +kernel)), ⟨by decide +kernel, by decide +kernel, by decide +kernel⟩, (tb_in8 (i := 192) (by decide +kernel) (by decide +kernel)), (tb_in8 (i := 193) (by decide +kernel) (by decide +kernel))⟩
theorem ms_X10_is : MS yX10_is cX10_is 1 (some .long) 1 := ⟨(tb_in8 (i := 225) rfl rfl), (tb_in1 (i := 15) (by decide +kernel) (by decide +kernel)), ⟨by decide +kernel, by decide +kernel, by decide +kernel⟩, (tb_in8 (i := 224) (by decide +kernel) (by decide +kernel))⟩
theorem ms_X10_works : MV yX10_works cX10_works 8 (some .boolean) 1 := ⟨(tb_in8 (i := 222) rfl rfl), (tb_in1 (i := 15) (by decide +kernel) (by decide +kernel)), ⟨by decide +kernel, by decide +kernel, by decide +kernel⟩, (tb_in8 (i := 221) (by decide +kernel) (by decide +kernel)), sl_in (i := 99) (n := 105) (by decide +kernel) (by decide +kernel)⟩
theorem ms_X10_goes : MV yX10_goes cX10_goes 3 (some .boolean) 1 := ⟨(tb_in8 (i := 218) rfl rfl), (tb_in1 (i := 15) (by decide +kernel) (by decide +kernel)), ⟨by decide +kernel, by decide +kernel, by decide +kernel⟩, (tb_in8 (i := 217) (by decide +kernel) (by decide +kernel)), sl_in (i := 98) (n := 105) (by decide +kernel) (by decide +kernel)⟩
theorem ms_X10_hasLaw : MV yX10_hasLaw cX10_hasLaw 2 (some .boolean) 1 := ⟨(tb_in8 (i := 202) rfl rfl), (tb_in1 (i := 15) (by decide +kernel) (by decide +kernel)), ⟨by decide +kernel, by decide +kernel, by decide +kernel⟩, (tb_in8 (i := 201) (by decide +kernel) (by decide +kernel)), sl_in (i := 95) (n := 105) (by decide +kernel) (by decide +kernel)⟩
theorem ms_X10_callsFade : MV yX10_callsFade cX10_callsFade 5 none 3 := ⟨(tb_in8 (i := 210) rfl rfl), (tb_in1 (i := 15) (by decide +kernel) (by decide +kernel)), ⟨by decide +kernel, by decide +kernel, by decide +kernel⟩, (tb_in8 (i := 209) (by decide +kernel) (by decide +kernel)), sl_in (i := 96) (n := 105) (by decide +kernel) (by decide +kernel)⟩
theorem ms_X10_callsWorth : MV yX10_callsWorth cX10_callsWorth 6 none 4 := ⟨(tb_in8 (i := 214) rfl rfl), (tb_in1 (i := 15) (by decide +kernel) (by decide +kernel)), ⟨by decide +kernel, by decide +kernel, by decide +kernel⟩, (tb_in8 (i := 213) (by decide +kernel) (by decide +kernel)), sl_in (i := 97) (n := 105) (by decide +kernel) (by decide +kernel)⟩
theorem ms_X10_worthOf : MV yX10_worthOf cX10_worthOf 5 (some .int) 4 := ⟨(tb_in9 (i := 139) rfl rfl), (tb_in1 (i := 15) (by decide +kernel) (by decide +kernel)), ⟨by decide +kernel, by decide +kernel, by decide +kernel⟩, (tb_in9 (i := 138) (by decide +kernel) (by decide +kernel)), sl_in (i := 122) (n := 105) (by decide +kernel) (by decide +kernel)⟩
theorem ms_X10_law : MV yX10_law cX10_law 5 (some .long) 4 := ⟨(tb_in8 (i := 198) rfl rfl), (tb_in1 (i := 15) (by decide +kernel) (by decide +kernel)), ⟨by decide +kernel, by decide +kernel, by decide +kernel⟩, (tb_in8 (i := 196) (by decide +kernel) (by decide +kernel)), (tb_in8 (i := 197) (by decide +kernel) (by decide +kernel))⟩
theorem ms_X10_isOff : MS yX10_isOff cX10_isOff 1 (some .boolean) 1 := ⟨(tb_in8 (i := 205) rfl rfl), (tb_in1 (i := 15) (by decide +kernel) (by decide +kernel)), ⟨by decide +kernel, by decide +kernel, by decide +kernel⟩, (tb_in8 (i := 204) (by decide +kernel) (by decide +kernel))⟩
theorem ms_X10_begins : MV yX10_begins cX10_begins 2 none 0 := ⟨(tb_in6 (i := 190) rfl rfl), (tb_in1 (i := 15) (by decide +kernel) (by decide +kernel)), ⟨by decide +kernel, by decide +kernel, by decide +kernel⟩, (tb_in6 (i := 189) (by decide +kernel) (by decide +kernel)), sl_in (i := 61) (n := 105) (by decide +kernel) (by decide +kernel)⟩
theorem ms_X10_makes : MV yX10_makes cX10_makes 7 none 5 := ⟨(tb_in6 (i := 194) rfl rfl), (tb_in1 (i := 15) (by decide +kernel) (by decide +kernel)), ⟨by decide +kernel, by decide +kernel, by decide +kernel⟩, (tb_in6 (i := 193) (by decide +kernel) (by decide +kernel)), sl_in (i := 62) (n := 105) (by decide +kernel) (by decide +kernel)⟩
theorem ms_X10_copies : MV yX10_copies cX10_copies 4 none 2 := ⟨(tb_in9 (i := 176) rfl rfl), (tb_in1 (i := 15) (by decide +kernel) (by decide +kernel)), ⟨by decide +kernel, by decide +kernel, by decide +kernel⟩, (tb_in9 (i := 175) (by decide +kernel) (by decide +kernel)), sl_in (i := 125) (n := 105) (by decide +kernel) (by decide +kernel)⟩
theorem ms_X10_isPlace : MV yX10_isPlace cX10_isPlace 2 (some .boolean) 1 := ⟨(tb_in9 (i := 76) rfl rfl), (tb_in1 (i := 15) (by decide +kernel) (by decide +kernel)), ⟨by decide +kernel, by decide +kernel, by decide +kernel⟩, (tb_in9 (i := 75) (by decide +kernel) (by decide +kernel)), sl_in (i := 115) (n := 105) (by decide +kernel) (by decide +kernel)⟩
theorem ms_X10_isOwner : MV yX10_isOwner cX10_isOwner 2 (some .boolean) 1 := ⟨(tb_in8 (i := 238) rfl rfl), (tb_in1 (i := 15) (by decide +kernel) (by decide +kernel)), ⟨by decide +kernel, by decide +kernel, by decide +kernel⟩, (tb_in8 (i := 237) (by decide +kernel) (by decide +kernel)), sl_in (i := 100) (n := 105) (by decide +kernel) (by decide +kernel)⟩
theorem ms_X10_isNoise : MV yX10_isNoise cX10_isNoise 2 (some .boolean) 1 := ⟨(tb_in9 (i := 56) rfl rfl), (tb_in1 (i := 15) (by decide +kernel) (by decide +kernel)), ⟨by decide +kernel, by decide +kernel, by decide +kernel⟩, (tb_in9 (i := 55) (by decide +kernel) (by decide +kernel)), sl_in (i := 113) (n := 105) (by decide +kernel) (by decide +kernel)⟩
theorem ms_X10_isMinute : MS yX10_isMinute cX10_isMinute 1 (some .boolean) 1 := ⟨(tb_in9 (i := 83) rfl rfl), (tb_in1 (i := 15) (by decide +kernel) (by decide +kernel)), ⟨by decide +kernel, by decide +kernel, by decide +kernel⟩, (tb_in9 (i := 82) (by decide +kernel) (by decide +kernel))⟩
theorem ms_X10_isLoud : MS yX10_isLoud cX10_isLoud 1 (some .boolean) 1 := ⟨(tb_in9 (i := 168) rfl rfl), (tb_in1 (i := 15) (by decide +kernel) (by decide +kernel)), ⟨by decide +kernel, by decide +kernel, by decide +kernel⟩, (tb_in9 (i := 167) (by decide +kernel) (by decide +kernel))⟩
theorem ms_X10_layNoises : MV yX10_layNoises cX10_layNoises 2 none 0 := ⟨(tb_in9 (i := 6) rfl rfl), (tb_in1 (i := 15) (by decide +kernel) (by decide +kernel)), ⟨by decide +kernel, by decide +kernel, by decide +kernel⟩, (tb_in9 (i := 5) (by decide +kernel) (by decide +kernel)), sl_in (i := 102) (n := 105) (by decide +kernel) (by decide +kernel)⟩
theorem ms_X10_adds : MV yX10_adds cX10_adds 6 none 5 := ⟨(tb_in10 (i := 79) rfl rfl), (tb_in1 (i := 15) (by decide +kernel) (by decide +kernel)), ⟨by decide +kernel, by decide +kernel, by decide +kernel⟩, (tb_in10 (i := 78) (by decide +kernel) (by decide +kernel)), sl_in (i := 140) (n := 105) (by decide +kernel) (by decide +kernel)⟩
theorem ms_X10_layFar : MV yX10_layFar cX10_layFar 7 none 2 := ⟨(tb_in9 (i := 10) rfl rfl), (tb_in1 (i := 15) (by decide +kernel) (by decide +kernel)), ⟨by decide +kernel, by decide +kernel, by decide +kernel⟩, (tb_in9 (i := 9) (by decide +kernel) (by decide +kernel)), sl_in (i := 103) (n := 105) (by decide +kernel) (by decide +kernel)⟩
theorem ms_X10_carries : MV yX10_carries cX10_carries 6 (some .boolean) 4 := ⟨(tb_in9 (i := 24) rfl rfl), (tb_in1 (i := 15) (by decide +kernel) (by decide +kernel)), ⟨by decide +kernel, by decide +kernel, by decide +kernel⟩, (tb_in9 (i := 23) (by decide +kernel) (by decide +kernel)), sl_in (i := 106) (n := 105) (by decide +kernel) (by decide +kernel)⟩
theorem ms_X10_hears : MV yX10_hears cX10_hears 4 (some .boolean) 3 := ⟨(tb_in9 (i := 20) rfl rfl), (tb_in1 (i := 15) (by decide +kernel) (by decide +kernel)), ⟨by decide +kernel, by decide +kernel, by decide +kernel⟩, (tb_in9 (i := 19) (by decide +kernel) (by decide +kernel)), sl_in (i := 105) (n := 105) (by decide +kernel) (by decide +kernel)⟩
theorem ms_X10_layFirst : MV yX10_layFirst cX10_layFirst 4 none 0 := ⟨(tb_in9 (i := 16) rfl rfl), (tb_in1 (i := 15) (by decide +kernel) (by decide +kernel)), ⟨by decide +kernel, by decide +kernel, by decide +kernel⟩, (tb_in9 (i := 15) (by decide +kernel) (by decide +kernel)), sl_in (i := 104) (n := 105) (by decide +kernel) (by decide +kernel)⟩
theorem ms_X10_silentAll : MV yX10_silentAll cX10_silentAll 3 (some .int) 0 := ⟨(tb_in10 (i := 83) rfl rfl), (tb_in1 (i := 15) (by decide +kernel) (by decide +kernel)), ⟨by decide +kernel, by decide +kernel, by decide +kernel⟩, (tb_in10 (i := 82) (by decide +kernel) (by decide +kernel)), sl_in (i := 141) (n := 105) (by decide +kernel) (by decide +kernel)⟩
theorem ms_X10_layClaims : MV yX10_layClaims cX10_layClaims 2 none 0 := ⟨(tb_in9 (i := 28) rfl rfl), (tb_in1 (i := 15) (by decide +kernel) (by decide +kernel)), ⟨by decide +kernel, by decide +kernel, by decide +kernel⟩, (tb_in9 (i := 27) (by decide +kernel) (by decide +kernel)), sl_in (i := 107) (n := 105) (by decide +kernel) (by decide +kernel)⟩
theorem ms_X10_claimed : MV yX10_claimed cX10_claimed 4 (some .int) 2 := ⟨(tb_in9 (i := 36) rfl rfl), (tb_in1 (i := 15) (by decide +kernel) (by decide +kernel)), ⟨by decide +kernel, by decide +kernel, by decide +kernel⟩, (tb_in9 (i := 35) (by decide +kernel) (by decide +kernel)), sl_in (i := 109) (n := 105) (by decide +kernel) (by decide +kernel)⟩
theorem ms_X10_layWhose : MV yX10_layWhose cX10_layWhose 6 none 0 := ⟨(tb_in9 (i := 32) rfl rfl), (tb_in1 (i := 15) (by decide +kernel) (by decide +kernel)), ⟨by decide +kernel, by decide +kernel, by decide +kernel⟩, (tb_in9 (i := 31) (by decide +kernel) (by decide +kernel)), sl_in (i := 108) (n := 105) (by decide +kernel) (by decide +kernel)⟩
theorem ms_X10_layDay : MV yX10_layDay cX10_layDay 1 none 0 := ⟨(tb_in9 (i := 2) rfl rfl), (tb_in1 (i := 15) (by decide +kernel) (by decide +kernel)), ⟨by decide +kernel, by decide +kernel, by decide +kernel⟩, (tb_in9 (i := 1) (by decide +kernel) (by decide +kernel)), sl_in (i := 101) (n := 105) (by decide +kernel) (by decide +kernel)⟩
theorem ms_X10_hasRight : MV yX10_hasRight cX10_hasRight 5 (some .boolean) 3 := ⟨(tb_in9 (i := 48) rfl rfl), (tb_in1 (i := 15) (by decide +kernel) (by decide +kernel)), ⟨by decide +kernel, by decide +kernel, by decide +kernel⟩, (tb_in9 (i := 47) (by decide +kernel) (by decide +kernel)), sl_in (i := 112) (n := 105) (by decide +kernel) (by decide +kernel)⟩
theorem ms_X10_against : MV yX10_against cX10_against 5 (some .int) 3 := ⟨(tb_in9 (i := 44) rfl rfl), (tb_in1 (i := 15) (by decide +kernel) (by decide +kernel)), ⟨by decide +kernel, by decide +kernel, by decide +kernel⟩, (tb_in9 (i := 43) (by decide +kernel) (by decide +kernel)), sl_in (i := 111) (n := 105) (by decide +kernel) (by decide +kernel)⟩
theorem ms_X10_trespasses : MV yX10_trespasses cX10_trespasses 8 (some .int) 2 := ⟨(tb_in9 (i := 40) rfl rfl), (tb_in1 (i := 15) (by decide +kernel) (by decide +kernel)), ⟨by decide +kernel, by decide +kernel, by decide +kernel⟩, (tb_in9 (i := 39) (by decide +kernel) (by decide +kernel)), sl_in (i := 110) (n := 105) (by decide +kernel) (by decide +kernel)⟩
theorem ms_X10_owner : MV yX10_owner cX10_owner 5 (some .int) 2 := ⟨(tb_in8 (i := 234) rfl rfl), (tb_in1 (i := 15) (by decide +kernel) (by decide +kernel)), ⟨by decide +kernel, by decide +kernel, by decide +kernel⟩, (tb_in8 (i := 232) (by decide +kernel) (by decide +kernel)), (tb_in8 (i := 233) (by decide +kernel) (by decide +kernel))⟩
theorem ms_X10_noise : MV yX10_noise cX10_noise 3 (some .int) 2 := ⟨(tb_in9 (i := 52) rfl rfl), (tb_in1 (i := 15) (by decide +kernel) (by decide +kernel)), ⟨by decide +kernel, by decide +kernel, by decide +kernel⟩, (tb_in9 (i := 50) (by decide +kernel) (by decide +kernel)), (tb_in9 (i := 51) (by decide +kernel) (by decide +kernel))⟩
theorem ms_X10_claim : MV yX10_claim cX10_claim 3 (some .int) 2 := ⟨(tb_in9 (i := 60) rfl rfl), (tb_in1 (i := 15) (by decide +kernel) (by decide +kernel)), ⟨by decide +kernel, by decide +kernel, by decide +kernel⟩, (tb_in9 (i := 58) (by decide +kernel) (by decide +kernel)), (tb_in9 (i := 59) (by decide +kernel) (by decide +kernel))⟩
theorem ms_X10_isLink : MV yX10_isLink cX10_isLink 2 (some .boolean) 1 := ⟨(tb_in9 (i := 68) rfl rfl), (tb_in1 (i := 15) (by decide +kernel) (by decide +kernel)), ⟨by decide +kernel, by decide +kernel, by decide +kernel⟩, (tb_in9 (i := 67) (by decide +kernel) (by decide +kernel)), sl_in (i := 114) (n := 105) (by decide +kernel) (by decide +kernel)⟩
theorem ms_X10_link : MV yX10_link cX10_link 3 (some .int) 2 := ⟨(tb_in9 (i := 64) rfl rfl), (tb_in1 (i := 15) (by decide +kernel) (by decide +kernel)), ⟨by decide +kernel, by decide +kernel, by decide +kernel⟩, (tb_in9 (i := 62) (by decide +kernel) (by decide +kernel)), (tb_in9 (i := 63) (by decide +kernel) (by decide +kernel))⟩
theorem ms_X10_far : MV yX10_far cX10_far 4 (some .int) 2 := ⟨(tb_in9 (i := 72) rfl rfl), (tb_in1 (i := 15) (by decide +kernel) (by decide +kernel)), ⟨by decide +kernel, by decide +kernel, by decide +kernel⟩, (tb_in9 (i := 70) (by decide +kernel) (by decide +kernel)), (tb_in9 (i := 71) (by decide +kernel) (by decide +kernel))⟩
theorem ms_X10_heard : MV yX10_heard cX10_heard 4 (some .int) 2 := ⟨(tb_in9 (i := 80) rfl rfl), (tb_in1 (i := 15) (by decide +kernel) (by decide +kernel)), ⟨by decide +kernel, by decide +kernel, by decide +kernel⟩, (tb_in9 (i := 78) (by decide +kernel) (by decide +kernel)), (tb_in9 (i := 79) (by decide +kernel) (by decide +kernel))⟩
theorem ms_X10_hush : MV yX10_hush cX10_hush 5 (some .long) 1 := ⟨(tb_in9 (i := 87) rfl rfl), (tb_in1 (i := 15) (by decide +kernel) (by decide +kernel)), ⟨by decide +kernel, by decide +kernel, by decide +kernel⟩, (tb_in9 (i := 85) (by decide +kernel) (by decide +kernel)), (tb_in9 (i := 86) (by decide +kernel) (by decide +kernel))⟩
theorem ms_X10_whose : MV yX10_whose cX10_whose 3 (some .int) 2 := ⟨(tb_in9 (i := 92) rfl rfl), (tb_in1 (i := 15) (by decide +kernel) (by decide +kernel)), ⟨by decide +kernel, by decide +kernel, by decide +kernel⟩, (tb_in9 (i := 90) (by decide +kernel) (by decide +kernel)), (tb_in9 (i := 91) (by decide +kernel) (by decide +kernel))⟩
theorem ms_X10_areBeside : MV yX10_areBeside cX10_areBeside 4 (some .boolean) 2 := ⟨(tb_in9 (i := 112) rfl rfl), (tb_in1 (i := 15) (by decide +kernel) (by decide +kernel)), ⟨by decide +kernel, by decide +kernel, by decide +kernel⟩, (tb_in9 (i := 111) (by decide +kernel) (by decide +kernel)), sl_in (i := 119) (n := 105) (by decide +kernel) (by decide +kernel)⟩
theorem ms_X10_doTouch : MV yX10_doTouch cX10_doTouch 3 (some .boolean) 2 := ⟨(tb_in9 (i := 108) rfl rfl), (tb_in1 (i := 15) (by decide +kernel) (by decide +kernel)), ⟨by decide +kernel, by decide +kernel, by decide +kernel⟩, (tb_in9 (i := 107) (by decide +kernel) (by decide +kernel)), sl_in (i := 118) (n := 105) (by decide +kernel) (by decide +kernel)⟩
theorem ms_X10_layPieces : MV yX10_layPieces cX10_layPieces 4 none 0 := ⟨(tb_in9 (i := 100) rfl rfl), (tb_in1 (i := 15) (by decide +kernel) (by decide +kernel)), ⟨by decide +kernel, by decide +kernel, by decide +kernel⟩, (tb_in9 (i := 99) (by decide +kernel) (by decide +kernel)), sl_in (i := 116) (n := 105) (by decide +kernel) (by decide +kernel)⟩
theorem ms_X10_spreads : MV yX10_spreads cX10_spreads 5 none 1 := ⟨(tb_in9 (i := 104) rfl rfl), (tb_in1 (i := 15) (by decide +kernel) (by decide +kernel)), ⟨by decide +kernel, by decide +kernel, by decide +kernel⟩, (tb_in9 (i := 103) (by decide +kernel) (by decide +kernel)), sl_in (i := 117) (n := 105) (by decide +kernel) (by decide +kernel)⟩
theorem ms_X10_spans : MV yX10_spans cX10_spans 1 (some .int) 0 := ⟨(tb_in9 (i := 96) rfl rfl), (tb_in1 (i := 15) (by decide +kernel) (by decide +kernel)), ⟨by decide +kernel, by decide +kernel, by decide +kernel⟩, (tb_in9 (i := 94) (by decide +kernel) (by decide +kernel)), (tb_in9 (i := 95) (by decide +kernel) (by decide +kernel))⟩
theorem ms_X10_span : MV yX10_span cX10_span 3 (some .int) 2 := ⟨(tb_in9 (i := 116) rfl rfl), (tb_in1 (i := 15) (by decide +kernel) (by decide +kernel)), ⟨by decide +kernel, by decide +kernel, by decide +kernel⟩, (tb_in9 (i := 114) (by decide +kernel) (by decide +kernel)), (tb_in9 (i := 115) (by decide +kernel) (by decide +kernel))⟩
theorem ms_X10_pieces : MV yX10_pieces cX10_pieces 1 (some .int) 0 := ⟨(tb_in9 (i := 120) rfl rfl), (tb_in1 (i := 15) (by decide +kernel) (by decide +kernel)), ⟨by decide +kernel, by decide +kernel, by decide +kernel⟩, (tb_in9 (i := 118) (by decide +kernel) (by decide +kernel)), (tb_in9 (i := 119) (by decide +kernel) (by decide +kernel))⟩
theorem ms_X10_layIts : MV yX10_layIts cX10_layIts 7 none 2 := ⟨(tb_in9 (i := 132) rfl rfl), (tb_in1 (i := 15) (by decide +kernel) (by decide +kernel)), ⟨by decide +kernel, by decide +kernel, by decide +kernel⟩, (tb_in9 (i := 131) (by decide +kernel) (by decide +kernel)), sl_in (i := 121) (n := 105) (by decide +kernel) (by decide +kernel)⟩
theorem ms_X10_bitsOf : MS yX10_bitsOf cX10_bitsOf 3 (some .int) 1 := ⟨(tb_in9 (i := 135) rfl rfl), (tb_in1 (i := 15) (by decide +kernel) (by decide +kernel)), ⟨by decide +kernel, by decide +kernel, by decide +kernel⟩, (tb_in9 (i := 134) (by decide +kernel) (by decide +kernel))⟩
theorem ms_X10_worthOfPiece : MV yX10_worthOfPiece cX10_worthOfPiece 2 (some .int) 1 := ⟨(tb_in9 (i := 128) rfl rfl), (tb_in1 (i := 15) (by decide +kernel) (by decide +kernel)), ⟨by decide +kernel, by decide +kernel, by decide +kernel⟩, (tb_in9 (i := 127) (by decide +kernel) (by decide +kernel)), sl_in (i := 120) (n := 105) (by decide +kernel) (by decide +kernel)⟩
theorem ms_X10_worthOfSet : MV yX10_worthOfSet cX10_worthOfSet 3 (some .int) 2 := ⟨(tb_in9 (i := 157) rfl rfl), (tb_in1 (i := 15) (by decide +kernel) (by decide +kernel)), ⟨by decide +kernel, by decide +kernel, by decide +kernel⟩, (tb_in9 (i := 156) (by decide +kernel) (by decide +kernel)), sl_in (i := 123) (n := 105) (by decide +kernel) (by decide +kernel)⟩
theorem ms_X10_piece : MV yX10_piece cX10_piece 3 (some .int) 2 := ⟨(tb_in9 (i := 124) rfl rfl), (tb_in1 (i := 15) (by decide +kernel) (by decide +kernel)), ⟨by decide +kernel, by decide +kernel, by decide +kernel⟩, (tb_in9 (i := 122) (by decide +kernel) (by decide +kernel)), (tb_in9 (i := 123) (by decide +kernel) (by decide +kernel))⟩
theorem ms_X10_share : MV yX10_share cX10_share 3 (some .int) 2 := ⟨(tb_in9 (i := 146) rfl rfl), (tb_in1 (i := 15) (by decide +kernel) (by decide +kernel)), ⟨by decide +kernel, by decide +kernel, by decide +kernel⟩, (tb_in9 (i := 144) (by decide +kernel) (by decide +kernel)), (tb_in9 (i := 145) (by decide +kernel) (by decide +kernel))⟩
theorem ms_X10_factorial : MS yX10_factorial cX10_factorial 1 (some .int) 1 := ⟨(tb_in9 (i := 153) rfl rfl), (tb_in1 (i := 15) (by decide +kernel) (by decide +kernel)), ⟨by decide +kernel, by decide +kernel, by decide +kernel⟩, (tb_in9 (i := 152) (by decide +kernel) (by decide +kernel))⟩
theorem ms_X10_part : MV yX10_part cX10_part 7 (some .int) 2 := ⟨(tb_in9 (i := 150) rfl rfl), (tb_in1 (i := 15) (by decide +kernel) (by decide +kernel)), ⟨by decide +kernel, by decide +kernel, by decide +kernel⟩, (tb_in9 (i := 148) (by decide +kernel) (by decide +kernel)), (tb_in9 (i := 149) (by decide +kernel) (by decide +kernel))⟩
theorem ms_X10_leaves : MV yX10_leaves cX10_leaves 10 (some .int) 1 := ⟨(tb_in9 (i := 161) rfl rfl), (tb_in1 (i := 15) (by decide +kernel) (by decide +kernel)), ⟨by decide +kernel, by decide +kernel, by decide +kernel⟩, (tb_in9 (i := 159) (by decide +kernel) (by decide +kernel)), (tb_in9 (i := 160) (by decide +kernel) (by decide +kernel))⟩
theorem ms_X10_keepNow : MV yX10_keepNow cX10_keepNow 2 none 0 := ⟨(tb_in9 (i := 172) rfl rfl), (tb_in1 (i := 15) (by decide +kernel) (by decide +kernel)), ⟨by decide +kernel, by decide +kernel, by decide +kernel⟩, (tb_in9 (i := 171) (by decide +kernel) (by decide +kernel)), sl_in (i := 124) (n := 105) (by decide +kernel) (by decide +kernel)⟩
theorem ms_X10_make : MV yX10_make cX10_make 6 (some .int) 5 := ⟨(tb_in9 (i := 165) rfl rfl), (tb_in1 (i := 15) (by decide +kernel) (by decide +kernel)), ⟨by decide +kernel, by decide +kernel, by decide +kernel⟩, (tb_in9 (i := 163) (by decide +kernel) (by decide +kernel)), (tb_in9 (i := 164) (by decide +kernel) (by decide +kernel))⟩
theorem ms_X10_stop : MV yX10_stop cX10_stop 2 (some .boolean) 1 := ⟨(tb_in9 (i := 180) rfl rfl), (tb_in1 (i := 15) (by decide +kernel) (by decide +kernel)), ⟨by decide +kernel, by decide +kernel, by decide +kernel⟩, (tb_in9 (i := 178) (by decide +kernel) (by decide +kernel)), (tb_in9 (i := 179) (by decide +kernel) (by decide +kernel))⟩
theorem ms_X10_wall : MV yX10_wall cX10_wall 3 (some .boolean) 2 := ⟨(tb_in9 (i := 184) rfl rfl), (tb_in1 (i := 15) (by decide +kernel) (by decide +kernel)), ⟨by decide +kernel, by decide +kernel, by decide +kernel⟩, (tb_in9 (i := 182) (by decide +kernel) (by decide +kernel)), (tb_in9 (i := 183) (by decide +kernel) (by decide +kernel))⟩
theorem ms_X10_sell : MV yX10_sell cX10_sell 4 (some .boolean) 3 := ⟨(tb_in9 (i := 188) rfl rfl), (tb_in1 (i := 15) (by decide +kernel) (by decide +kernel)), ⟨by decide +kernel, by decide +kernel, by decide +kernel⟩, (tb_in9 (i := 186) (by decide +kernel) (by decide +kernel)), (tb_in9 (i := 187) (by decide +kernel) (by decide +kernel))⟩
theorem ms_X10_pays : MV yX10_pays cX10_pays 6 none 1 := ⟨(tb_in9 (i := 196) rfl rfl), (tb_in1 (i := 15) (by decide +kernel) (by decide +kernel)), ⟨by decide +kernel, by decide +kernel, by decide +kernel⟩, (tb_in9 (i := 195) (by decide +kernel) (by decide +kernel)), sl_in (i := 126) (n := 105) (by decide +kernel) (by decide +kernel)⟩
theorem ms_X10_go : MV yX10_go cX10_go 3 (some .int) 1 := ⟨(tb_in9 (i := 192) rfl rfl), (tb_in1 (i := 15) (by decide +kernel) (by decide +kernel)), ⟨by decide +kernel, by decide +kernel, by decide +kernel⟩, (tb_in9 (i := 190) (by decide +kernel) (by decide +kernel)), (tb_in9 (i := 191) (by decide +kernel) (by decide +kernel))⟩
theorem ms_X10_layBad : MV yX10_layBad cX10_layBad 5 none 0 := ⟨(tb_in9 (i := 208) rfl rfl), (tb_in1 (i := 15) (by decide +kernel) (by decide +kernel)), ⟨by decide +kernel, by decide +kernel, by decide +kernel⟩, (tb_in9 (i := 207) (by decide +kernel) (by decide +kernel)), sl_in (i := 128) (n := 105) (by decide +kernel) (by decide +kernel)⟩
theorem ms_X10_isOpen : MV yX10_isOpen cX10_isOpen 7 (some .boolean) 3 := ⟨(tb_in9 (i := 216) rfl rfl), (tb_in1 (i := 15) (by decide +kernel) (by decide +kernel)), ⟨by decide +kernel, by decide +kernel, by decide +kernel⟩, (tb_in9 (i := 215) (by decide +kernel) (by decide +kernel)), sl_in (i := 130) (n := 105) (by decide +kernel) (by decide +kernel)⟩
theorem ms_X10_plans : MV yX10_plans cX10_plans 6 none 3 := ⟨(tb_in9 (i := 212) rfl rfl), (tb_in1 (i := 15) (by decide +kernel) (by decide +kernel)), ⟨by decide +kernel, by decide +kernel, by decide +kernel⟩, (tb_in9 (i := 211) (by decide +kernel) (by decide +kernel)), sl_in (i := 129) (n := 105) (by decide +kernel) (by decide +kernel)⟩
theorem ms_X10_layPlan : MV yX10_layPlan cX10_layPlan 1 none 0 := ⟨(tb_in9 (i := 204) rfl rfl), (tb_in1 (i := 15) (by decide +kernel) (by decide +kernel)), ⟨by decide +kernel, by decide +kernel, by decide +kernel⟩, (tb_in9 (i := 203) (by decide +kernel) (by decide +kernel)), sl_in (i := 127) (n := 105) (by decide +kernel) (by decide +kernel)⟩
theorem ms_X10_plan : MV yX10_plan cX10_plan 1 (some .int) 0 := ⟨(tb_in9 (i := 200) rfl rfl), (tb_in1 (i := 15) (by decide +kernel) (by decide +kernel)), ⟨by decide +kernel, by decide +kernel, by decide +kernel⟩, (tb_in9 (i := 198) (by decide +kernel) (by decide +kernel)), (tb_in9 (i := 199) (by decide +kernel) (by decide +kernel))⟩
theorem ms_X10_planned : MV yX10_planned cX10_planned 3 (some .int) 2 := ⟨(tb_in9 (i := 221) rfl rfl), (tb_in1 (i := 15) (by decide +kernel) (by decide +kernel)), ⟨by decide +kernel, by decide +kernel, by decide +kernel⟩, (tb_in9 (i := 219) (by decide +kernel) (by decide +kernel)), (tb_in9 (i := 220) (by decide +kernel) (by decide +kernel))⟩
theorem ms_X10_isHeardBy : MV yX10_isHeardBy cX10_isHeardBy 5 (some .boolean) 3 := ⟨(tb_in9 (i := 229) rfl rfl), (tb_in1 (i := 15) (by decide +kernel) (by decide +kernel)), ⟨by decide +kernel, by decide +kernel, by decide +kernel⟩, (tb_in9 (i := 228) (by decide +kernel) (by decide +kernel)), sl_in (i := 131) (n := 105) (by decide +kernel) (by decide +kernel)⟩
theorem ms_X10_walls : MV yX10_walls cX10_walls 5 (some .int) 2 := ⟨(tb_in9 (i := 225) rfl rfl), (tb_in1 (i := 15) (by decide +kernel) (by decide +kernel)), ⟨by decide +kernel, by decide +kernel, by decide +kernel⟩, (tb_in9 (i := 223) (by decide +kernel) (by decide +kernel)), (tb_in9 (i := 224) (by decide +kernel) (by decide +kernel))⟩
theorem ms_X10_barksNext : MV yX10_barksNext cX10_barksNext 5 (some .int) 1 := ⟨(tb_in9 (i := 237) rfl rfl), (tb_in1 (i := 15) (by decide +kernel) (by decide +kernel)), ⟨by decide +kernel, by decide +kernel, by decide +kernel⟩, (tb_in9 (i := 236) (by decide +kernel) (by decide +kernel)), sl_in (i := 132) (n := 105) (by decide +kernel) (by decide +kernel)⟩
theorem ms_X10_bark : MV yX10_bark cX10_bark 6 (some .int) 2 := ⟨(tb_in9 (i := 233) rfl rfl), (tb_in1 (i := 15) (by decide +kernel) (by decide +kernel)), ⟨by decide +kernel, by decide +kernel, by decide +kernel⟩, (tb_in9 (i := 231) (by decide +kernel) (by decide +kernel)), (tb_in9 (i := 232) (by decide +kernel) (by decide +kernel))⟩
theorem ms_X10_note : MV yX10_note cX10_note 4 (some .int) 3 := ⟨(tb_in10 (i := 1) rfl rfl), (tb_in1 (i := 15) (by decide +kernel) (by decide +kernel)), ⟨by decide +kernel, by decide +kernel, by decide +kernel⟩, (tb_in9 (i := 239) (by decide +kernel) (by decide +kernel)), (tb_in10 (i := 0) (by decide +kernel) (by decide +kernel))⟩
theorem ms_X10_strike : MV yX10_strike cX10_strike 2 (some .int) 1 := ⟨(tb_in10 (i := 5) rfl rfl), (tb_in1 (i := 15) (by decide +kernel) (by decide +kernel)), ⟨by decide +kernel, by decide +kernel, by decide +kernel⟩, (tb_in10 (i := 3) (by decide +kernel) (by decide +kernel)), (tb_in10 (i := 4) (by decide +kernel) (by decide +kernel))⟩
theorem ms_X10_known : MV yX10_known cX10_known 2 (some .boolean) 1 := ⟨(tb_in10 (i := 9) rfl rfl), (tb_in1 (i := 15) (by decide +kernel) (by decide +kernel)), ⟨by decide +kernel, by decide +kernel, by decide +kernel⟩, (tb_in10 (i := 7) (by decide +kernel) (by decide +kernel)), (tb_in10 (i := 8) (by decide +kernel) (by decide +kernel))⟩
theorem ms_X10_knownMany : MV yX10_knownMany cX10_knownMany 1 (some .int) 0 := ⟨(tb_in10 (i := 21) rfl rfl), (tb_in1 (i := 15) (by decide +kernel) (by decide +kernel)), ⟨by decide +kernel, by decide +kernel, by decide +kernel⟩, (tb_in10 (i := 20) (by decide +kernel) (by decide +kernel)), sl_in (i := 134) (n := 105) (by decide +kernel) (by decide +kernel)⟩
theorem ms_X10_areSo : MV yX10_areSo cX10_areSo 6 (some .boolean) 3 := ⟨(tb_in10 (i := 25) rfl rfl), (tb_in1 (i := 15) (by decide +kernel) (by decide +kernel)), ⟨by decide +kernel, by decide +kernel, by decide +kernel⟩, (tb_in10 (i := 24) (by decide +kernel) (by decide +kernel)), sl_in (i := 135) (n := 105) (by decide +kernel) (by decide +kernel)⟩
theorem ms_X10_layThieves : MV yX10_layThieves cX10_layThieves 6 (some .int) 1 := ⟨(tb_in10 (i := 17) rfl rfl), (tb_in1 (i := 15) (by decide +kernel) (by decide +kernel)), ⟨by decide +kernel, by decide +kernel, by decide +kernel⟩, (tb_in10 (i := 16) (by decide +kernel) (by decide +kernel)), sl_in (i := 133) (n := 105) (by decide +kernel) (by decide +kernel)⟩
theorem ms_X10_thieves : MV yX10_thieves cX10_thieves 1 (some .int) 0 := ⟨(tb_in10 (i := 13) rfl rfl), (tb_in1 (i := 15) (by decide +kernel) (by decide +kernel)), ⟨by decide +kernel, by decide +kernel, by decide +kernel⟩, (tb_in10 (i := 11) (by decide +kernel) (by decide +kernel)), (tb_in10 (i := 12) (by decide +kernel) (by decide +kernel))⟩
theorem ms_X10_thief : MV yX10_thief cX10_thief 3 (some .int) 2 := ⟨(tb_in10 (i := 29) rfl rfl), (tb_in1 (i := 15) (by decide +kernel) (by decide +kernel)), ⟨by decide +kernel, by decide +kernel, by decide +kernel⟩, (tb_in10 (i := 27) (by decide +kernel) (by decide +kernel)), (tb_in10 (i := 28) (by decide +kernel) (by decide +kernel))⟩
theorem ms_X10_holds : MV yX10_holds cX10_holds 5 none 4 := ⟨(tb_in10 (i := 41) rfl rfl), (tb_in1 (i := 15) (by decide +kernel) (by decide +kernel)), ⟨by decide +kernel, by decide +kernel, by decide +kernel⟩, (tb_in10 (i := 40) (by decide +kernel) (by decide +kernel)), sl_in (i := 137) (n := 105) (by decide +kernel) (by decide +kernel)⟩
theorem ms_X10_layHeirs : MV yX10_layHeirs cX10_layHeirs 8 none 2 := ⟨(tb_in10 (i := 37) rfl rfl), (tb_in1 (i := 15) (by decide +kernel) (by decide +kernel)), ⟨by decide +kernel, by decide +kernel, by decide +kernel⟩, (tb_in10 (i := 36) (by decide +kernel) (by decide +kernel)), sl_in (i := 136) (n := 105) (by decide +kernel) (by decide +kernel)⟩
theorem ms_X10_left : MV yX10_left cX10_left 8 (some .int) 2 := ⟨(tb_in10 (i := 33) rfl rfl), (tb_in1 (i := 15) (by decide +kernel) (by decide +kernel)), ⟨by decide +kernel, by decide +kernel, by decide +kernel⟩, (tb_in10 (i := 31) (by decide +kernel) (by decide +kernel)), (tb_in10 (i := 32) (by decide +kernel) (by decide +kernel))⟩
theorem ms_X10_has : MS yX10_has cX10_has 4 (some .int) 4 := ⟨(tb_in10 (i := 57) rfl rfl), (tb_in1 (i := 15) (by decide +kernel) (by decide +kernel)), ⟨by decide +kernel, by decide +kernel, by decide +kernel⟩, (tb_in10 (i := 56) (by decide +kernel) (by decide +kernel))⟩
theorem ms_X10_isRest : MS yX10_isRest cX10_isRest 6 (some .boolean) 5 := ⟨(tb_in10 (i := 54) rfl rfl), (tb_in1 (i := 15) (by decide +kernel) (by decide +kernel)), ⟨by decide +kernel, by decide +kernel, by decide +kernel⟩, (tb_in10 (i := 53) (by decide +kernel) (by decide +kernel))⟩
theorem ms_X10_restOf : MS yX10_restOf cX10_restOf 7 (some .int) 4 := ⟨(tb_in10 (i := 51) rfl rfl), (tb_in1 (i := 15) (by decide +kernel) (by decide +kernel)), ⟨by decide +kernel, by decide +kernel, by decide +kernel⟩, (tb_in10 (i := 50) (by decide +kernel) (by decide +kernel))⟩
theorem ms_X10_isWait : MS yX10_isWait cX10_isWait 3 (some .boolean) 3 := ⟨(tb_in10 (i := 48) rfl rfl), (tb_in1 (i := 15) (by decide +kernel) (by decide +kernel)), ⟨by decide +kernel, by decide +kernel, by decide +kernel⟩, (tb_in10 (i := 47) (by decide +kernel) (by decide +kernel))⟩
theorem ms_X10_rests : MV yX10_rests cX10_rests 4 (some .int) 3 := ⟨(tb_in10 (i := 45) rfl rfl), (tb_in1 (i := 15) (by decide +kernel) (by decide +kernel)), ⟨by decide +kernel, by decide +kernel, by decide +kernel⟩, (tb_in10 (i := 43) (by decide +kernel) (by decide +kernel)), (tb_in10 (i := 44) (by decide +kernel) (by decide +kernel))⟩
theorem ms_X10_rest : MV yX10_rest cX10_rest 5 (some .int) 4 := ⟨(tb_in10 (i := 61) rfl rfl), (tb_in1 (i := 15) (by decide +kernel) (by decide +kernel)), ⟨by decide +kernel, by decide +kernel, by decide +kernel⟩, (tb_in10 (i := 59) (by decide +kernel) (by decide +kernel)), (tb_in10 (i := 60) (by decide +kernel) (by decide +kernel))⟩
theorem ms_X10_draw : MV yX10_draw cX10_draw 2 (some .int) 1 := ⟨(tb_in10 (i := 69) rfl rfl), (tb_in1 (i := 15) (by decide +kernel) (by decide +kernel)), ⟨by decide +kernel, by decide +kernel, by decide +kernel⟩, (tb_in10 (i := 68) (by decide +kernel) (by decide +kernel)), sl_in (i := 138) (n := 105) (by decide +kernel) (by decide +kernel)⟩
theorem ms_X10_softens : MV yX10_softens cX10_softens 2 none 0 := ⟨(tb_in10 (i := 75) rfl rfl), (tb_in1 (i := 15) (by decide +kernel) (by decide +kernel)), ⟨by decide +kernel, by decide +kernel, by decide +kernel⟩, (tb_in10 (i := 74) (by decide +kernel) (by decide +kernel)), sl_in (i := 139) (n := 105) (by decide +kernel) (by decide +kernel)⟩
theorem ms_X10_year : MV yX10_year cX10_year 9 (some .int) 2 := ⟨(tb_in10 (i := 65) rfl rfl), (tb_in1 (i := 15) (by decide +kernel) (by decide +kernel)), ⟨by decide +kernel, by decide +kernel, by decide +kernel⟩, (tb_in10 (i := 63) (by decide +kernel) (by decide +kernel)), (tb_in10 (i := 64) (by decide +kernel) (by decide +kernel))⟩
theorem ms_X10_tried : MV yX10_tried cX10_tried 5 (some .int) 2 := ⟨(tb_in10 (i := 87) rfl rfl), (tb_in1 (i := 15) (by decide +kernel) (by decide +kernel)), ⟨by decide +kernel, by decide +kernel, by decide +kernel⟩, (tb_in10 (i := 85) (by decide +kernel) (by decide +kernel)), (tb_in10 (i := 86) (by decide +kernel) (by decide +kernel))⟩
theorem ms_X10_undo : MV yX10_undo cX10_undo 1 (some .int) 0 := ⟨(tb_in10 (i := 91) rfl rfl), (tb_in1 (i := 15) (by decide +kernel) (by decide +kernel)), ⟨by decide +kernel, by decide +kernel, by decide +kernel⟩, (tb_in10 (i := 89) (by decide +kernel) (by decide +kernel)), (tb_in10 (i := 90) (by decide +kernel) (by decide +kernel))⟩
theorem ms_X10_keep : MV yX10_keep cX10_keep 1 (some .int) 0 := ⟨(tb_in10 (i := 95) rfl rfl), (tb_in1 (i := 15) (by decide +kernel) (by decide +kernel)), ⟨by decide +kernel, by decide +kernel, by decide +kernel⟩, (tb_in10 (i := 93) (by decide +kernel) (by decide +kernel)), (tb_in10 (i := 94) (by decide +kernel) (by decide +kernel))⟩
theorem ms_X10_back : MV yX10_back cX10_back 1 (some .int) 0 := ⟨(tb_in10 (i := 99) rfl rfl), (tb_in1 (i := 15) (by decide +kernel) (by decide +kernel)), ⟨by decide +kernel, by decide +kernel, by decide +kernel⟩, (tb_in10 (i := 97) (by decide +kernel) (by decide +kernel)), (tb_in10 (i := 98) (by decide +kernel) (by decide +kernel))⟩
theorem ms_X10_count : MV yX10_count cX10_count 4 (some .int) 1 := ⟨(tb_in10 (i := 103) rfl rfl), (tb_in1 (i := 15) (by decide +kernel) (by decide +kernel)), ⟨by decide +kernel, by decide +kernel, by decide +kernel⟩, (tb_in10 (i := 101) (by decide +kernel) (by decide +kernel)), (tb_in10 (i := 102) (by decide +kernel) (by decide +kernel))⟩
theorem ms_X0_measureWays : MV yX0_measureWays cX0_measureWays 9 none 2 := ⟨(tb_in4 (i := 61) rfl rfl), (tb_in1 (i := 11) (by decide +kernel) (by decide +kernel)), ⟨by decide +kernel, by decide +kernel, by decide +kernel⟩, (tb_in4 (i := 59) (by decide +kernel) (by decide +kernel)), (tb_in4 (i := 60) (by decide +kernel) (by decide +kernel))⟩
theorem ms_X0_way : MV yX0_way cX0_way 4 (some .int) 2 := ⟨(tb_in4 (i := 78) rfl rfl), (tb_in1 (i := 11) (by decide +kernel) (by decide +kernel)), ⟨by decide +kernel, by decide +kernel, by decide +kernel⟩, (tb_in4 (i := 76) (by decide +kernel) (by decide +kernel)), (tb_in4 (i := 77) (by decide +kernel) (by decide +kernel))⟩
theorem ms_X0_minutesHeard : MV yX0_minutesHeard cX0_minutesHeard 13 (some .long) 6 := ⟨(tb_in4 (i := 74) rfl rfl), (tb_in1 (i := 11) (by decide +kernel) (by decide +kernel)), ⟨by decide +kernel, by decide +kernel, by decide +kernel⟩, (tb_in4 (i := 72) (by decide +kernel) (by decide +kernel)), (tb_in4 (i := 73) (by decide +kernel) (by decide +kernel))⟩
theorem ms_X0_listen : MV yX0_listen cX0_listen 7 none 1 := ⟨(tb_in4 (i := 69) rfl rfl), (tb_in1 (i := 11) (by decide +kernel) (by decide +kernel)), ⟨by decide +kernel, by decide +kernel, by decide +kernel⟩, (tb_in4 (i := 67) (by decide +kernel) (by decide +kernel)), (tb_in4 (i := 68) (by decide +kernel) (by decide +kernel))⟩
theorem ms_X0_settle : MV yX0_settle cX0_settle 6 none 1 := ⟨(tb_in4 (i := 94) rfl rfl), (tb_in1 (i := 11) (by decide +kernel) (by decide +kernel)), ⟨by decide +kernel, by decide +kernel, by decide +kernel⟩, (tb_in4 (i := 92) (by decide +kernel) (by decide +kernel)), (tb_in4 (i := 93) (by decide +kernel) (by decide +kernel))⟩
theorem ms_X0_settlePlace : MV yX0_settlePlace cX0_settlePlace 6 none 2 := ⟨(tb_in4 (i := 101) rfl rfl), (tb_in1 (i := 11) (by decide +kernel) (by decide +kernel)), ⟨by decide +kernel, by decide +kernel, by decide +kernel⟩, (tb_in4 (i := 100) (by decide +kernel) (by decide +kernel)), sl_in (i := 34) (n := 5) (by decide +kernel) (by decide +kernel)⟩
theorem ms_X0_isSpot : MS yX0_isSpot cX0_isSpot 2 (some .boolean) 2 := ⟨(tb_in4 (i := 150) rfl rfl), (tb_in1 (i := 11) (by decide +kernel) (by decide +kernel)), ⟨by decide +kernel, by decide +kernel, by decide +kernel⟩, (tb_in4 (i := 149) (by decide +kernel) (by decide +kernel))⟩
theorem ms_X0_silentAt : MV yX0_silentAt cX0_silentAt 2 (some .long) 1 := ⟨(tb_in4 (i := 109) rfl rfl), (tb_in1 (i := 11) (by decide +kernel) (by decide +kernel)), ⟨by decide +kernel, by decide +kernel, by decide +kernel⟩, (tb_in4 (i := 107) (by decide +kernel) (by decide +kernel)), (tb_in4 (i := 108) (by decide +kernel) (by decide +kernel))⟩
theorem ms_X0_isSilent : MV yX0_isSilent cX0_isSilent 3 (some .boolean) 2 := ⟨(tb_in4 (i := 105) rfl rfl), (tb_in1 (i := 11) (by decide +kernel) (by decide +kernel)), ⟨by decide +kernel, by decide +kernel, by decide +kernel⟩, (tb_in4 (i := 103) (by decide +kernel) (by decide +kernel)), (tb_in4 (i := 104) (by decide +kernel) (by decide +kernel))⟩
theorem ms_X0_silentMinutes : MV yX0_silentMinutes cX0_silentMinutes 3 (some .int) 0 := ⟨(tb_in6 (i := 24) rfl rfl), (tb_in1 (i := 11) (by decide +kernel) (by decide +kernel)), ⟨by decide +kernel, by decide +kernel, by decide +kernel⟩, (tb_in6 (i := 22) (by decide +kernel) (by decide +kernel)), (tb_in6 (i := 23) (by decide +kernel) (by decide +kernel))⟩
theorem ms_X0_isHeard : MV yX0_isHeard cX0_isHeard 4 (some .boolean) 3 := ⟨(tb_in4 (i := 117) rfl rfl), (tb_in1 (i := 11) (by decide +kernel) (by decide +kernel)), ⟨by decide +kernel, by decide +kernel, by decide +kernel⟩, (tb_in4 (i := 115) (by decide +kernel) (by decide +kernel)), (tb_in4 (i := 116) (by decide +kernel) (by decide +kernel))⟩
theorem ms_X0_firstHeard : MV yX0_firstHeard cX0_firstHeard 5 (some .int) 3 := ⟨(tb_in4 (i := 113) rfl rfl), (tb_in1 (i := 11) (by decide +kernel) (by decide +kernel)), ⟨by decide +kernel, by decide +kernel, by decide +kernel⟩, (tb_in4 (i := 111) (by decide +kernel) (by decide +kernel)), (tb_in4 (i := 112) (by decide +kernel) (by decide +kernel))⟩
theorem ms_X0_holder : MV yX0_holder cX0_holder 3 (some .int) 2 := ⟨(tb_in4 (i := 147) rfl rfl), (tb_in1 (i := 11) (by decide +kernel) (by decide +kernel)), ⟨by decide +kernel, by decide +kernel, by decide +kernel⟩, (tb_in4 (i := 145) (by decide +kernel) (by decide +kernel)), (tb_in4 (i := 146) (by decide +kernel) (by decide +kernel))⟩
theorem ms_X0_minutesOf : MV yX0_minutesOf cX0_minutesOf 5 (some .int) 1 := ⟨(tb_in6 (i := 164) rfl rfl), (tb_in1 (i := 11) (by decide +kernel) (by decide +kernel)), ⟨by decide +kernel, by decide +kernel, by decide +kernel⟩, (tb_in6 (i := 162) (by decide +kernel) (by decide +kernel)), (tb_in6 (i := 163) (by decide +kernel) (by decide +kernel))⟩
theorem ms_X0_isForbidden : MV yX0_isForbidden cX0_isForbidden 6 (some .boolean) 4 := ⟨(tb_in5 (i := 74) rfl rfl), (tb_in1 (i := 11) (by decide +kernel) (by decide +kernel)), ⟨by decide +kernel, by decide +kernel, by decide +kernel⟩, (tb_in5 (i := 72) (by decide +kernel) (by decide +kernel)), (tb_in5 (i := 73) (by decide +kernel) (by decide +kernel))⟩
theorem ms_X0_isTrespass : MV yX0_isTrespass cX0_isTrespass 5 (some .boolean) 4 := ⟨(tb_in5 (i := 70) rfl rfl), (tb_in1 (i := 11) (by decide +kernel) (by decide +kernel)), ⟨by decide +kernel, by decide +kernel, by decide +kernel⟩, (tb_in5 (i := 69) (by decide +kernel) (by decide +kernel)), sl_in (i := 44) (n := 5) (by decide +kernel) (by decide +kernel)⟩
theorem ms_X0_trespasses : MV yX0_trespasses cX0_trespasses 8 (some .int) 3 := ⟨(tb_in6 (i := 85) rfl rfl), (tb_in1 (i := 11) (by decide +kernel) (by decide +kernel)), ⟨by decide +kernel, by decide +kernel, by decide +kernel⟩, (tb_in6 (i := 83) (by decide +kernel) (by decide +kernel)), (tb_in6 (i := 84) (by decide +kernel) (by decide +kernel))⟩
theorem ms_X0_fineMinute : MV yX0_fineMinute cX0_fineMinute 7 none 2 := ⟨(tb_in5 (i := 66) rfl rfl), (tb_in1 (i := 11) (by decide +kernel) (by decide +kernel)), ⟨by decide +kernel, by decide +kernel, by decide +kernel⟩, (tb_in5 (i := 64) (by decide +kernel) (by decide +kernel)), (tb_in5 (i := 65) (by decide +kernel) (by decide +kernel))⟩
theorem ms_X0_longestHeld : MV yX0_longestHeld cX0_longestHeld 8 (some .int) 1 := ⟨(tb_in5 (i := 236) rfl rfl), (tb_in1 (i := 11) (by decide +kernel) (by decide +kernel)), ⟨by decide +kernel, by decide +kernel, by decide +kernel⟩, (tb_in5 (i := 234) (by decide +kernel) (by decide +kernel)), (tb_in5 (i := 235) (by decide +kernel) (by decide +kernel))⟩
theorem ms_X1_clear : MV yX1_clear cX1_clear 1 none 0 := ⟨(tb_in3 (i := 19) rfl rfl), (tb_in1 (i := 10) (by decide +kernel) (by decide +kernel)), ⟨by decide +kernel, by decide +kernel, by decide +kernel⟩, (tb_in3 (i := 17) (by decide +kernel) (by decide +kernel)), (tb_in3 (i := 18) (by decide +kernel) (by decide +kernel))⟩
theorem ms_X1_copyFrom : MV yX1_copyFrom cX1_copyFrom 2 none 1 := ⟨(tb_in5 (i := 140) rfl rfl), (tb_in1 (i := 10) (by decide +kernel) (by decide +kernel)), ⟨by decide +kernel, by decide +kernel, by decide +kernel⟩, (tb_in5 (i := 138) (by decide +kernel) (by decide +kernel)), (tb_in5 (i := 139) (by decide +kernel) (by decide +kernel))⟩
theorem ms_X1_add : MV yX1_add cX1_add 2 none 1 := ⟨(tb_in3 (i := 232) rfl rfl), (tb_in1 (i := 10) (by decide +kernel) (by decide +kernel)), ⟨by decide +kernel, by decide +kernel, by decide +kernel⟩, (tb_in3 (i := 230) (by decide +kernel) (by decide +kernel)), (tb_in3 (i := 231) (by decide +kernel) (by decide +kernel))⟩
theorem ms_X1_value : MV yX1_value cX1_value 11 (some .long) 6 := ⟨(tb_in4 (i := 82) rfl rfl), (tb_in1 (i := 10) (by decide +kernel) (by decide +kernel)), ⟨by decide +kernel, by decide +kernel, by decide +kernel⟩, (tb_in4 (i := 80) (by decide +kernel) (by decide +kernel)), (tb_in4 (i := 81) (by decide +kernel) (by decide +kernel))⟩
theorem ms_X1_joined : MS yX1_joined cX1_joined 7 (some .long) 3 := ⟨(tb_in4 (i := 86) rfl rfl), (tb_in1 (i := 10) (by decide +kernel) (by decide +kernel)), ⟨by decide +kernel, by decide +kernel, by decide +kernel⟩, (tb_in4 (i := 85) (by decide +kernel) (by decide +kernel))⟩
theorem ms_X2_clear : MV yX2_clear cX2_clear 1 none 0 := ⟨(tb_in4 (i := 20) rfl rfl), (tb_in1 (i := 14) (by decide +kernel) (by decide +kernel)), ⟨by decide +kernel, by decide +kernel, by decide +kernel⟩, (tb_in4 (i := 18) (by decide +kernel) (by decide +kernel)), (tb_in4 (i := 19) (by decide +kernel) (by decide +kernel))⟩
theorem ms_X2_knownMany : MV yX2_knownMany cX2_knownMany 1 (some .int) 0 := ⟨(tb_in5 (i := 204) rfl rfl), (tb_in1 (i := 14) (by decide +kernel) (by decide +kernel)), ⟨by decide +kernel, by decide +kernel, by decide +kernel⟩, (tb_in5 (i := 202) (by decide +kernel) (by decide +kernel)), (tb_in5 (i := 203) (by decide +kernel) (by decide +kernel))⟩
theorem ms_X2_seek : MV yX2_seek cX2_seek 7 (some .int) 3 := ⟨(tb_in5 (i := 192) rfl rfl), (tb_in1 (i := 14) (by decide +kernel) (by decide +kernel)), ⟨by decide +kernel, by decide +kernel, by decide +kernel⟩, (tb_in5 (i := 190) (by decide +kernel) (by decide +kernel)), (tb_in5 (i := 191) (by decide +kernel) (by decide +kernel))⟩
theorem ms_X2_seekAt : MV yX2_seekAt cX2_seekAt 8 (some .int) 5 := ⟨(tb_in5 (i := 211) rfl rfl), (tb_in1 (i := 14) (by decide +kernel) (by decide +kernel)), ⟨by decide +kernel, by decide +kernel, by decide +kernel⟩, (tb_in5 (i := 210) (by decide +kernel) (by decide +kernel)), sl_in (i := 54) (n := 8) (by decide +kernel) (by decide +kernel)⟩
theorem ms_X2_sortNotes : MV yX2_sortNotes cX2_sortNotes 7 (some .boolean) 1 := ⟨(tb_in5 (i := 196) rfl rfl), (tb_in1 (i := 14) (by decide +kernel) (by decide +kernel)), ⟨by decide +kernel, by decide +kernel, by decide +kernel⟩, (tb_in5 (i := 195) (by decide +kernel) (by decide +kernel)), sl_in (i := 52) (n := 8) (by decide +kernel) (by decide +kernel)⟩
theorem ms_X2_markStruck : MV yX2_markStruck cX2_markStruck 3 none 0 := ⟨(tb_in5 (i := 200) rfl rfl), (tb_in1 (i := 14) (by decide +kernel) (by decide +kernel)), ⟨by decide +kernel, by decide +kernel, by decide +kernel⟩, (tb_in5 (i := 199) (by decide +kernel) (by decide +kernel)), sl_in (i := 53) (n := 8) (by decide +kernel) (by decide +kernel)⟩
theorem ms_X2_fits : MV yX2_fits cX2_fits 9 (some .boolean) 5 := ⟨(tb_in5 (i := 215) rfl rfl), (tb_in1 (i := 14) (by decide +kernel) (by decide +kernel)), ⟨by decide +kernel, by decide +kernel, by decide +kernel⟩, (tb_in5 (i := 214) (by decide +kernel) (by decide +kernel)), sl_in (i := 55) (n := 8) (by decide +kernel) (by decide +kernel)⟩
theorem ms_X3_findSpans : MV yX3_findSpans cX3_findSpans 7 none 2 := ⟨(tb_in4 (i := 162) rfl rfl), (tb_in1 (i := 12) (by decide +kernel) (by decide +kernel)), ⟨by decide +kernel, by decide +kernel, by decide +kernel⟩, (tb_in4 (i := 160) (by decide +kernel) (by decide +kernel)), (tb_in4 (i := 161) (by decide +kernel) (by decide +kernel))⟩
theorem ms_X3_joinSpans : MV yX3_joinSpans cX3_joinSpans 5 none 1 := ⟨(tb_in4 (i := 169) rfl rfl), (tb_in1 (i := 12) (by decide +kernel) (by decide +kernel)), ⟨by decide +kernel, by decide +kernel, by decide +kernel⟩, (tb_in4 (i := 167) (by decide +kernel) (by decide +kernel)), (tb_in4 (i := 168) (by decide +kernel) (by decide +kernel))⟩
theorem ms_X3_spread : MV yX3_spread cX3_spread 6 none 2 := ⟨(tb_in4 (i := 175) rfl rfl), (tb_in1 (i := 12) (by decide +kernel) (by decide +kernel)), ⟨by decide +kernel, by decide +kernel, by decide +kernel⟩, (tb_in4 (i := 174) (by decide +kernel) (by decide +kernel)), sl_in (i := 36) (n := 7) (by decide +kernel) (by decide +kernel)⟩
theorem ms_X3_touch : MV yX3_touch cX3_touch 4 (some .boolean) 2 := ⟨(tb_in4 (i := 180) rfl rfl), (tb_in1 (i := 12) (by decide +kernel) (by decide +kernel)), ⟨by decide +kernel, by decide +kernel, by decide +kernel⟩, (tb_in4 (i := 179) (by decide +kernel) (by decide +kernel)), sl_in (i := 37) (n := 7) (by decide +kernel) (by decide +kernel)⟩
theorem ms_X3_weigh : MV yX3_weigh cX3_weigh 10 none 2 := ⟨(tb_in4 (i := 184) rfl rfl), (tb_in1 (i := 12) (by decide +kernel) (by decide +kernel)), ⟨by decide +kernel, by decide +kernel, by decide +kernel⟩, (tb_in4 (i := 182) (by decide +kernel) (by decide +kernel)), (tb_in4 (i := 183) (by decide +kernel) (by decide +kernel))⟩
theorem ms_X3_worth : MS yX3_worth cX3_worth 7 (some .int) 5 := ⟨(tb_in4 (i := 207) rfl rfl), (tb_in1 (i := 12) (by decide +kernel) (by decide +kernel)), ⟨by decide +kernel, by decide +kernel, by decide +kernel⟩, (tb_in4 (i := 206) (by decide +kernel) (by decide +kernel))⟩
theorem ms_X3_survey : MV yX3_survey cX3_survey 4 none 2 := ⟨(tb_in4 (i := 188) rfl rfl), (tb_in1 (i := 12) (by decide +kernel) (by decide +kernel)), ⟨by decide +kernel, by decide +kernel, by decide +kernel⟩, (tb_in4 (i := 187) (by decide +kernel) (by decide +kernel)), sl_in (i := 38) (n := 7) (by decide +kernel) (by decide +kernel)⟩
theorem ms_X3_surveySpan : MV yX3_surveySpan cX3_surveySpan 7 none 2 := ⟨(tb_in4 (i := 192) rfl rfl), (tb_in1 (i := 12) (by decide +kernel) (by decide +kernel)), ⟨by decide +kernel, by decide +kernel, by decide +kernel⟩, (tb_in4 (i := 191) (by decide +kernel) (by decide +kernel)), sl_in (i := 39) (n := 7) (by decide +kernel) (by decide +kernel)⟩
theorem ms_X3_holdersSurveyed : MV yX3_holdersSurveyed cX3_holdersSurveyed 3 (some .int) 0 := ⟨(tb_in4 (i := 198) rfl rfl), (tb_in1 (i := 12) (by decide +kernel) (by decide +kernel)), ⟨by decide +kernel, by decide +kernel, by decide +kernel⟩, (tb_in4 (i := 197) (by decide +kernel) (by decide +kernel)), sl_in (i := 40) (n := 7) (by decide +kernel) (by decide +kernel)⟩
theorem ms_X3_minutesOfSet : MV yX3_minutesOfSet cX3_minutesOfSet 4 (some .int) 1 := ⟨(tb_in5 (i := 0) rfl rfl), (tb_in1 (i := 12) (by decide +kernel) (by decide +kernel)), ⟨by decide +kernel, by decide +kernel, by decide +kernel⟩, (tb_in4 (i := 239) (by decide +kernel) (by decide +kernel)), sl_in (i := 41) (n := 7) (by decide +kernel) (by decide +kernel)⟩
theorem ms_X3_worthOfSet : MV yX3_worthOfSet cX3_worthOfSet 6 (some .int) 2 := ⟨(tb_in5 (i := 14) rfl rfl), (tb_in1 (i := 12) (by decide +kernel) (by decide +kernel)), ⟨by decide +kernel, by decide +kernel, by decide +kernel⟩, (tb_in5 (i := 13) (by decide +kernel) (by decide +kernel)), sl_in (i := 42) (n := 7) (by decide +kernel) (by decide +kernel)⟩
theorem ms_X3_minutesOf : MV yX3_minutesOf cX3_minutesOf 4 (some .int) 3 := ⟨(tb_in4 (i := 236) rfl rfl), (tb_in1 (i := 12) (by decide +kernel) (by decide +kernel)), ⟨by decide +kernel, by decide +kernel, by decide +kernel⟩, (tb_in4 (i := 234) (by decide +kernel) (by decide +kernel)), (tb_in4 (i := 235) (by decide +kernel) (by decide +kernel))⟩
theorem ms_X3_partOf : MV yX3_partOf cX3_partOf 12 (some .int) 4 := ⟨(tb_in5 (i := 8) rfl rfl), (tb_in1 (i := 12) (by decide +kernel) (by decide +kernel)), ⟨by decide +kernel, by decide +kernel, by decide +kernel⟩, (tb_in5 (i := 6) (by decide +kernel) (by decide +kernel)), (tb_in5 (i := 7) (by decide +kernel) (by decide +kernel))⟩
theorem ms_X3_leaversOf : MV yX3_leaversOf cX3_leaversOf 8 (some .int) 3 := ⟨(tb_in5 (i := 22) rfl rfl), (tb_in1 (i := 12) (by decide +kernel) (by decide +kernel)), ⟨by decide +kernel, by decide +kernel, by decide +kernel⟩, (tb_in5 (i := 20) (by decide +kernel) (by decide +kernel)), (tb_in5 (i := 21) (by decide +kernel) (by decide +kernel))⟩
theorem ms_X4_search : MV yX4_search cX4_search 7 none 2 := ⟨(tb_in5 (i := 87) rfl rfl), (tb_in1 (i := 13) (by decide +kernel) (by decide +kernel)), ⟨by decide +kernel, by decide +kernel, by decide +kernel⟩, (tb_in5 (i := 85) (by decide +kernel) (by decide +kernel)), (tb_in5 (i := 86) (by decide +kernel) (by decide +kernel))⟩
theorem ms_X4_taskAt : MV yX4_taskAt cX4_taskAt 2 (some .int) 1 := ⟨(tb_in5 (i := 119) rfl rfl), (tb_in1 (i := 13) (by decide +kernel) (by decide +kernel)), ⟨by decide +kernel, by decide +kernel, by decide +kernel⟩, (tb_in5 (i := 117) (by decide +kernel) (by decide +kernel)), (tb_in5 (i := 118) (by decide +kernel) (by decide +kernel))⟩
theorem ms_X4_startAt : MV yX4_startAt cX4_startAt 2 (some .int) 1 := ⟨(tb_in5 (i := 123) rfl rfl), (tb_in1 (i := 13) (by decide +kernel) (by decide +kernel)), ⟨by decide +kernel, by decide +kernel, by decide +kernel⟩, (tb_in5 (i := 121) (by decide +kernel) (by decide +kernel)), (tb_in5 (i := 122) (by decide +kernel) (by decide +kernel))⟩
theorem ms_X4_forbiddenMinutes : MS yX4_forbiddenMinutes cX4_forbiddenMinutes 12 (some .long) 3 := ⟨(tb_in5 (i := 91) rfl rfl), (tb_in1 (i := 13) (by decide +kernel) (by decide +kernel)), ⟨by decide +kernel, by decide +kernel, by decide +kernel⟩, (tb_in5 (i := 90) (by decide +kernel) (by decide +kernel))⟩
theorem ms_X4_endOfOrder : MV yX4_endOfOrder cX4_endOfOrder 9 (some .int) 2 := ⟨(tb_in5 (i := 98) rfl rfl), (tb_in1 (i := 13) (by decide +kernel) (by decide +kernel)), ⟨by decide +kernel, by decide +kernel, by decide +kernel⟩, (tb_in5 (i := 97) (by decide +kernel) (by decide +kernel)), sl_in (i := 45) (n := 7) (by decide +kernel) (by decide +kernel)⟩
theorem ms_X4_earliest : MS yX4_earliest cX4_earliest 4 (some .int) 2 := ⟨(tb_in5 (i := 101) rfl rfl), (tb_in1 (i := 13) (by decide +kernel) (by decide +kernel)), ⟨by decide +kernel, by decide +kernel, by decide +kernel⟩, (tb_in5 (i := 100) (by decide +kernel) (by decide +kernel))⟩
theorem ms_X4_nextOrder : MV yX4_nextOrder cX4_nextOrder 6 (some .boolean) 1 := ⟨(tb_in5 (i := 107) rfl rfl), (tb_in1 (i := 13) (by decide +kernel) (by decide +kernel)), ⟨by decide +kernel, by decide +kernel, by decide +kernel⟩, (tb_in5 (i := 106) (by decide +kernel) (by decide +kernel)), sl_in (i := 46) (n := 7) (by decide +kernel) (by decide +kernel)⟩
theorem ms_X4_swap : MV yX4_swap cX4_swap 4 none 2 := ⟨(tb_in5 (i := 111) rfl rfl), (tb_in1 (i := 13) (by decide +kernel) (by decide +kernel)), ⟨by decide +kernel, by decide +kernel, by decide +kernel⟩, (tb_in5 (i := 110) (by decide +kernel) (by decide +kernel)), sl_in (i := 47) (n := 7) (by decide +kernel) (by decide +kernel)⟩
theorem ms_X5_read : MV yX5_read cX5_read 5 (some .boolean) 3 := ⟨(tb_in3 (i := 3) rfl rfl), (tb_in1 (i := 2) (by decide +kernel) (by decide +kernel)), ⟨by decide +kernel, by decide +kernel, by decide +kernel⟩, (tb_in3 (i := 1) (by decide +kernel) (by decide +kernel)), (tb_in3 (i := 2) (by decide +kernel) (by decide +kernel))⟩
theorem ms_X5_refuse : MV yX5_refuse cX5_refuse 2 (some .boolean) 1 := ⟨(tb_in3 (i := 123) rfl rfl), (tb_in1 (i := 2) (by decide +kernel) (by decide +kernel)), ⟨by decide +kernel, by decide +kernel, by decide +kernel⟩, (tb_in3 (i := 122) (by decide +kernel) (by decide +kernel)), sl_in (i := 8) (n := 10) (by decide +kernel) (by decide +kernel)⟩
theorem ms_X5_readLine : MV yX5_readLine cX5_readLine 1 (some .boolean) 0 := ⟨(tb_in3 (i := 111) rfl rfl), (tb_in1 (i := 2) (by decide +kernel) (by decide +kernel)), ⟨by decide +kernel, by decide +kernel, by decide +kernel⟩, (tb_in3 (i := 110) (by decide +kernel) (by decide +kernel)), sl_in (i := 5) (n := 10) (by decide +kernel) (by decide +kernel)⟩
theorem ms_X5_takeNewName : MV yX5_takeNewName cX5_takeNewName 2 (some .boolean) 1 := ⟨(tb_in3 (i := 127) rfl rfl), (tb_in1 (i := 2) (by decide +kernel) (by decide +kernel)), ⟨by decide +kernel, by decide +kernel, by decide +kernel⟩, (tb_in3 (i := 126) (by decide +kernel) (by decide +kernel)), sl_in (i := 9) (n := 10) (by decide +kernel) (by decide +kernel)⟩
theorem ms_X5_takeTold : MV yX5_takeTold cX5_takeTold 3 (some .boolean) 2 := ⟨(tb_in3 (i := 171) rfl rfl), (tb_in1 (i := 2) (by decide +kernel) (by decide +kernel)), ⟨by decide +kernel, by decide +kernel, by decide +kernel⟩, (tb_in3 (i := 170) (by decide +kernel) (by decide +kernel)), sl_in (i := 13) (n := 10) (by decide +kernel) (by decide +kernel)⟩
theorem ms_X5_takeNumber : MV yX5_takeNumber cX5_takeNumber 4 (some .boolean) 3 := ⟨(tb_in3 (i := 180) rfl rfl), (tb_in1 (i := 2) (by decide +kernel) (by decide +kernel)), ⟨by decide +kernel, by decide +kernel, by decide +kernel⟩, (tb_in3 (i := 179) (by decide +kernel) (by decide +kernel)), sl_in (i := 15) (n := 10) (by decide +kernel) (by decide +kernel)⟩
theorem ms_X5_takeEnd : MV yX5_takeEnd cX5_takeEnd 1 (some .boolean) 0 := ⟨(tb_in3 (i := 143) rfl rfl), (tb_in1 (i := 2) (by decide +kernel) (by decide +kernel)), ⟨by decide +kernel, by decide +kernel, by decide +kernel⟩, (tb_in3 (i := 142) (by decide +kernel) (by decide +kernel)), sl_in (i := 10) (n := 10) (by decide +kernel) (by decide +kernel)⟩
theorem ms_X5_hasRoom : MV yX5_hasRoom cX5_hasRoom 3 (some .boolean) 2 := ⟨(tb_in3 (i := 119) rfl rfl), (tb_in1 (i := 2) (by decide +kernel) (by decide +kernel)), ⟨by decide +kernel, by decide +kernel, by decide +kernel⟩, (tb_in3 (i := 118) (by decide +kernel) (by decide +kernel)), sl_in (i := 7) (n := 10) (by decide +kernel) (by decide +kernel)⟩
theorem ms_X5_addRow : MV yX5_addRow cX5_addRow 2 (some .boolean) 1 := ⟨(tb_in3 (i := 151) rfl rfl), (tb_in1 (i := 2) (by decide +kernel) (by decide +kernel)), ⟨by decide +kernel, by decide +kernel, by decide +kernel⟩, (tb_in3 (i := 150) (by decide +kernel) (by decide +kernel)), sl_in (i := 11) (n := 10) (by decide +kernel) (by decide +kernel)⟩
theorem ms_X5_readPlace : MV yX5_readPlace cX5_readPlace 1 (some .boolean) 0 := ⟨(tb_in3 (i := 115) rfl rfl), (tb_in1 (i := 2) (by decide +kernel) (by decide +kernel)), ⟨by decide +kernel, by decide +kernel, by decide +kernel⟩, (tb_in3 (i := 114) (by decide +kernel) (by decide +kernel)), sl_in (i := 6) (n := 10) (by decide +kernel) (by decide +kernel)⟩
theorem ms_X5_readOwner : MV yX5_readOwner cX5_readOwner 1 (some .boolean) 0 := ⟨(tb_in3 (i := 184) rfl rfl), (tb_in1 (i := 2) (by decide +kernel) (by decide +kernel)), ⟨by decide +kernel, by decide +kernel, by decide +kernel⟩, (tb_in3 (i := 183) (by decide +kernel) (by decide +kernel)), sl_in (i := 16) (n := 10) (by decide +kernel) (by decide +kernel)⟩
theorem ms_X5_readLink : MV yX5_readLink cX5_readLink 1 (some .boolean) 0 := ⟨(tb_in3 (i := 167) rfl rfl), (tb_in1 (i := 2) (by decide +kernel) (by decide +kernel)), ⟨by decide +kernel, by decide +kernel, by decide +kernel⟩, (tb_in3 (i := 166) (by decide +kernel) (by decide +kernel)), sl_in (i := 12) (n := 10) (by decide +kernel) (by decide +kernel)⟩
theorem ms_X5_isLinked : MV yX5_isLinked cX5_isLinked 4 (some .boolean) 2 := ⟨(tb_in3 (i := 175) rfl rfl), (tb_in1 (i := 2) (by decide +kernel) (by decide +kernel)), ⟨by decide +kernel, by decide +kernel, by decide +kernel⟩, (tb_in3 (i := 174) (by decide +kernel) (by decide +kernel)), sl_in (i := 14) (n := 10) (by decide +kernel) (by decide +kernel)⟩
theorem ms_X5_readHeir : MV yX5_readHeir cX5_readHeir 1 (some .boolean) 0 := ⟨(tb_in3 (i := 188) rfl rfl), (tb_in1 (i := 2) (by decide +kernel) (by decide +kernel)), ⟨by decide +kernel, by decide +kernel, by decide +kernel⟩, (tb_in3 (i := 187) (by decide +kernel) (by decide +kernel)), sl_in (i := 17) (n := 10) (by decide +kernel) (by decide +kernel)⟩
theorem ms_X5_readNoise : MV yX5_readNoise cX5_readNoise 1 (some .boolean) 0 := ⟨(tb_in3 (i := 193) rfl rfl), (tb_in1 (i := 2) (by decide +kernel) (by decide +kernel)), ⟨by decide +kernel, by decide +kernel, by decide +kernel⟩, (tb_in3 (i := 192) (by decide +kernel) (by decide +kernel)), sl_in (i := 18) (n := 10) (by decide +kernel) (by decide +kernel)⟩
theorem ms_X5_readHolding : MV yX5_readHolding cX5_readHolding 3 (some .boolean) 2 := ⟨(tb_in3 (i := 197) rfl rfl), (tb_in1 (i := 2) (by decide +kernel) (by decide +kernel)), ⟨by decide +kernel, by decide +kernel, by decide +kernel⟩, (tb_in3 (i := 196) (by decide +kernel) (by decide +kernel)), sl_in (i := 19) (n := 10) (by decide +kernel) (by decide +kernel)⟩
theorem ms_X5_readTask : MV yX5_readTask cX5_readTask 1 (some .boolean) 0 := ⟨(tb_in3 (i := 201) rfl rfl), (tb_in1 (i := 2) (by decide +kernel) (by decide +kernel)), ⟨by decide +kernel, by decide +kernel, by decide +kernel⟩, (tb_in3 (i := 200) (by decide +kernel) (by decide +kernel)), sl_in (i := 20) (n := 10) (by decide +kernel) (by decide +kernel)⟩
theorem ms_X5_readDog : MV yX5_readDog cX5_readDog 1 (some .boolean) 0 := ⟨(tb_in3 (i := 205) rfl rfl), (tb_in1 (i := 2) (by decide +kernel) (by decide +kernel)), ⟨by decide +kernel, by decide +kernel, by decide +kernel⟩, (tb_in3 (i := 204) (by decide +kernel) (by decide +kernel)), sl_in (i := 21) (n := 10) (by decide +kernel) (by decide +kernel)⟩
theorem ms_X5_readOnce : MV yX5_readOnce cX5_readOnce 4 (some .boolean) 3 := ⟨(tb_in3 (i := 209) rfl rfl), (tb_in1 (i := 2) (by decide +kernel) (by decide +kernel)), ⟨by decide +kernel, by decide +kernel, by decide +kernel⟩, (tb_in3 (i := 208) (by decide +kernel) (by decide +kernel)), sl_in (i := 22) (n := 10) (by decide +kernel) (by decide +kernel)⟩
theorem ms_X5_readLaw : MV yX5_readLaw cX5_readLaw 4 (some .boolean) 0 := ⟨(tb_in3 (i := 214) rfl rfl), (tb_in1 (i := 2) (by decide +kernel) (by decide +kernel)), ⟨by decide +kernel, by decide +kernel, by decide +kernel⟩, (tb_in3 (i := 213) (by decide +kernel) (by decide +kernel)), sl_in (i := 23) (n := 10) (by decide +kernel) (by decide +kernel)⟩
theorem ms_X5_faulty : MV yX5_faulty cX5_faulty 2 (some .int) 1 := ⟨(tb_in4 (i := 0) rfl rfl), (tb_in1 (i := 2) (by decide +kernel) (by decide +kernel)), ⟨by decide +kernel, by decide +kernel, by decide +kernel⟩, (tb_in3 (i := 239) (by decide +kernel) (by decide +kernel)), sl_in (i := 27) (n := 10) (by decide +kernel) (by decide +kernel)⟩
theorem ms_X5_readOperand : MV yX5_readOperand cX5_readOperand 4 (some .int) 1 := ⟨(tb_in3 (i := 236) rfl rfl), (tb_in1 (i := 2) (by decide +kernel) (by decide +kernel)), ⟨by decide +kernel, by decide +kernel, by decide +kernel⟩, (tb_in3 (i := 235) (by decide +kernel) (by decide +kernel)), sl_in (i := 26) (n := 10) (by decide +kernel) (by decide +kernel)⟩
theorem ms_X5_notMayStand : MV yX5_notMayStand cX5_notMayStand 1 (some .boolean) 0 := ⟨(tb_in4 (i := 8) rfl rfl), (tb_in1 (i := 2) (by decide +kernel) (by decide +kernel)), ⟨by decide +kernel, by decide +kernel, by decide +kernel⟩, (tb_in4 (i := 7) (by decide +kernel) (by decide +kernel)), sl_in (i := 29) (n := 10) (by decide +kernel) (by decide +kernel)⟩
theorem ms_X5_lastRank : MV yX5_lastRank cX5_lastRank 1 (some .int) 0 := ⟨(tb_in3 (i := 226) rfl rfl), (tb_in1 (i := 2) (by decide +kernel) (by decide +kernel)), ⟨by decide +kernel, by decide +kernel, by decide +kernel⟩, (tb_in3 (i := 225) (by decide +kernel) (by decide +kernel)), sl_in (i := 25) (n := 10) (by decide +kernel) (by decide +kernel)⟩
theorem ms_X5_hold : MV yX5_hold cX5_hold 2 (some .int) 1 := ⟨(tb_in4 (i := 4) rfl rfl), (tb_in1 (i := 2) (by decide +kernel) (by decide +kernel)), ⟨by decide +kernel, by decide +kernel, by decide +kernel⟩, (tb_in4 (i := 3) (by decide +kernel) (by decide +kernel)), sl_in (i := 28) (n := 10) (by decide +kernel) (by decide +kernel)⟩
theorem ms_X5_release : MV yX5_release cX5_release 3 none 2 := ⟨(tb_in3 (i := 222) rfl rfl), (tb_in1 (i := 2) (by decide +kernel) (by decide +kernel)), ⟨by decide +kernel, by decide +kernel, by decide +kernel⟩, (tb_in3 (i := 221) (by decide +kernel) (by decide +kernel)), sl_in (i := 24) (n := 10) (by decide +kernel) (by decide +kernel)⟩
theorem ms_X5_readJoin : MV yX5_readJoin cX5_readJoin 4 (some .int) 1 := ⟨(tb_in4 (i := 12) rfl rfl), (tb_in1 (i := 2) (by decide +kernel) (by decide +kernel)), ⟨by decide +kernel, by decide +kernel, by decide +kernel⟩, (tb_in4 (i := 11) (by decide +kernel) (by decide +kernel)), sl_in (i := 30) (n := 10) (by decide +kernel) (by decide +kernel)⟩
theorem ms_X5_joinSign : MV yX5_joinSign cX5_joinSign 1 (some .int) 0 := ⟨(tb_in4 (i := 16) rfl rfl), (tb_in1 (i := 2) (by decide +kernel) (by decide +kernel)), ⟨by decide +kernel, by decide +kernel, by decide +kernel⟩, (tb_in4 (i := 15) (by decide +kernel) (by decide +kernel)), sl_in (i := 31) (n := 10) (by decide +kernel) (by decide +kernel)⟩
theorem ms_X6_has : MV yX6_has cX6_has 2 (some .boolean) 1 := ⟨(tb_in3 (i := 139) rfl rfl), (tb_in1 (i := 9) (by decide +kernel) (by decide +kernel)), ⟨by decide +kernel, by decide +kernel, by decide +kernel⟩, (tb_in3 (i := 137) (by decide +kernel) (by decide +kernel)), (tb_in3 (i := 138) (by decide +kernel) (by decide +kernel))⟩
theorem ms_X6_isFull : MV yX6_isFull cX6_isFull 1 (some .boolean) 0 := ⟨(tb_in3 (i := 159) rfl rfl), (tb_in1 (i := 9) (by decide +kernel) (by decide +kernel)), ⟨by decide +kernel, by decide +kernel, by decide +kernel⟩, (tb_in3 (i := 157) (by decide +kernel) (by decide +kernel)), (tb_in3 (i := 158) (by decide +kernel) (by decide +kernel))⟩
theorem ms_X6_at : MV yX6_at cX6_at 3 (some .int) 2 := ⟨(tb_in3 (i := 135) rfl rfl), (tb_in1 (i := 9) (by decide +kernel) (by decide +kernel)), ⟨by decide +kernel, by decide +kernel, by decide +kernel⟩, (tb_in3 (i := 133) (by decide +kernel) (by decide +kernel)), (tb_in3 (i := 134) (by decide +kernel) (by decide +kernel))⟩
theorem ms_X6_put : MV yX6_put cX6_put 4 none 3 := ⟨(tb_in3 (i := 163) rfl rfl), (tb_in1 (i := 9) (by decide +kernel) (by decide +kernel)), ⟨by decide +kernel, by decide +kernel, by decide +kernel⟩, (tb_in3 (i := 161) (by decide +kernel) (by decide +kernel)), (tb_in3 (i := 162) (by decide +kernel) (by decide +kernel))⟩
theorem ms_X6_add : MV yX6_add cX6_add 7 (some .int) 5 := ⟨(tb_in3 (i := 155) rfl rfl), (tb_in1 (i := 9) (by decide +kernel) (by decide +kernel)), ⟨by decide +kernel, by decide +kernel, by decide +kernel⟩, (tb_in3 (i := 153) (by decide +kernel) (by decide +kernel)), (tb_in3 (i := 154) (by decide +kernel) (by decide +kernel))⟩
theorem ms_X6_removeLast : MV yX6_removeLast cX6_removeLast 1 none 0 := ⟨(tb_in6 (i := 64) rfl rfl), (tb_in1 (i := 9) (by decide +kernel) (by decide +kernel)), ⟨by decide +kernel, by decide +kernel, by decide +kernel⟩, (tb_in6 (i := 62) (by decide +kernel) (by decide +kernel)), (tb_in6 (i := 63) (by decide +kernel) (by decide +kernel))⟩
theorem ms_X6_removeFirst : MV yX6_removeFirst cX6_removeFirst 1 none 0 := ⟨(tb_in5 (i := 36) rfl rfl), (tb_in1 (i := 9) (by decide +kernel) (by decide +kernel)), ⟨by decide +kernel, by decide +kernel, by decide +kernel⟩, (tb_in5 (i := 34) (by decide +kernel) (by decide +kernel)), (tb_in5 (i := 35) (by decide +kernel) (by decide +kernel))⟩
theorem ms_X6_clear : MV yX6_clear cX6_clear 1 none 0 := ⟨(tb_in3 (i := 15) rfl rfl), (tb_in1 (i := 9) (by decide +kernel) (by decide +kernel)), ⟨by decide +kernel, by decide +kernel, by decide +kernel⟩, (tb_in3 (i := 13) (by decide +kernel) (by decide +kernel)), (tb_in3 (i := 14) (by decide +kernel) (by decide +kernel))⟩
theorem ms_X6_find : MV yX6_find cX6_find 4 (some .int) 2 := ⟨(tb_in3 (i := 131) rfl rfl), (tb_in1 (i := 9) (by decide +kernel) (by decide +kernel)), ⟨by decide +kernel, by decide +kernel, by decide +kernel⟩, (tb_in3 (i := 129) (by decide +kernel) (by decide +kernel)), (tb_in3 (i := 130) (by decide +kernel) (by decide +kernel))⟩
theorem ms_X6_sum : MV yX6_sum cX6_sum 4 (some .int) 1 := ⟨(tb_in6 (i := 81) rfl rfl), (tb_in1 (i := 9) (by decide +kernel) (by decide +kernel)), ⟨by decide +kernel, by decide +kernel, by decide +kernel⟩, (tb_in6 (i := 79) (by decide +kernel) (by decide +kernel)), (tb_in6 (i := 80) (by decide +kernel) (by decide +kernel))⟩
theorem ms_X6_copyFrom : MV yX6_copyFrom cX6_copyFrom 3 none 1 := ⟨(tb_in5 (i := 135) rfl rfl), (tb_in1 (i := 9) (by decide +kernel) (by decide +kernel)), ⟨by decide +kernel, by decide +kernel, by decide +kernel⟩, (tb_in5 (i := 133) (by decide +kernel) (by decide +kernel)), (tb_in5 (i := 134) (by decide +kernel) (by decide +kernel))⟩
theorem ms_X7_begin : MV yX7_begin cX7_begin 3 none 2 := ⟨(tb_in3 (i := 7) rfl rfl), (tb_in1 (i := 3) (by decide +kernel) (by decide +kernel)), ⟨by decide +kernel, by decide +kernel, by decide +kernel⟩, (tb_in3 (i := 5) (by decide +kernel) (by decide +kernel)), (tb_in3 (i := 6) (by decide +kernel) (by decide +kernel))⟩
theorem ms_X7_signAt : MV yX7_signAt cX7_signAt 2 (some .int) 1 := ⟨(tb_in3 (i := 27) rfl rfl), (tb_in1 (i := 3) (by decide +kernel) (by decide +kernel)), ⟨by decide +kernel, by decide +kernel, by decide +kernel⟩, (tb_in3 (i := 26) (by decide +kernel) (by decide +kernel)), sl_in (i := 1) (n := 7) (by decide +kernel) (by decide +kernel)⟩
theorem ms_X7_advance : MV yX7_advance cX7_advance 2 none 0 := ⟨(tb_in3 (i := 23) rfl rfl), (tb_in1 (i := 3) (by decide +kernel) (by decide +kernel)), ⟨by decide +kernel, by decide +kernel, by decide +kernel⟩, (tb_in3 (i := 21) (by decide +kernel) (by decide +kernel)), (tb_in3 (i := 22) (by decide +kernel) (by decide +kernel))⟩
theorem ms_X7_isLetter : MS yX7_isLetter cX7_isLetter 1 (some .boolean) 1 := ⟨(tb_in3 (i := 30) rfl rfl), (tb_in1 (i := 3) (by decide +kernel) (by decide +kernel)), ⟨by decide +kernel, by decide +kernel, by decide +kernel⟩, (tb_in3 (i := 29) (by decide +kernel) (by decide +kernel))⟩
theorem ms_X7_isDigit : MS yX7_isDigit cX7_isDigit 1 (some .boolean) 1 := ⟨(tb_in3 (i := 37) rfl rfl), (tb_in1 (i := 3) (by decide +kernel) (by decide +kernel)), ⟨by decide +kernel, by decide +kernel, by decide +kernel⟩, (tb_in3 (i := 36) (by decide +kernel) (by decide +kernel))⟩
theorem ms_X7_takeWord : MV yX7_takeWord cX7_takeWord 2 none 0 := ⟨(tb_in3 (i := 34) rfl rfl), (tb_in1 (i := 3) (by decide +kernel) (by decide +kernel)), ⟨by decide +kernel, by decide +kernel, by decide +kernel⟩, (tb_in3 (i := 33) (by decide +kernel) (by decide +kernel)), sl_in (i := 2) (n := 7) (by decide +kernel) (by decide +kernel)⟩
theorem ms_X7_takeNumber : MV yX7_takeNumber cX7_takeNumber 1 none 0 := ⟨(tb_in3 (i := 41) rfl rfl), (tb_in1 (i := 3) (by decide +kernel) (by decide +kernel)), ⟨by decide +kernel, by decide +kernel, by decide +kernel⟩, (tb_in3 (i := 40) (by decide +kernel) (by decide +kernel)), sl_in (i := 3) (n := 7) (by decide +kernel) (by decide +kernel)⟩
theorem ms_X7_takeSign : MV yX7_takeSign cX7_takeSign 3 none 1 := ⟨(tb_in3 (i := 49) rfl rfl), (tb_in1 (i := 3) (by decide +kernel) (by decide +kernel)), ⟨by decide +kernel, by decide +kernel, by decide +kernel⟩, (tb_in3 (i := 48) (by decide +kernel) (by decide +kernel)), sl_in (i := 4) (n := 7) (by decide +kernel) (by decide +kernel)⟩
theorem ms_X7_isWord : MV yX7_isWord cX7_isWord 2 (some .boolean) 1 := ⟨(tb_in3 (i := 218) rfl rfl), (tb_in1 (i := 3) (by decide +kernel) (by decide +kernel)), ⟨by decide +kernel, by decide +kernel, by decide +kernel⟩, (tb_in3 (i := 216) (by decide +kernel) (by decide +kernel)), (tb_in3 (i := 217) (by decide +kernel) (by decide +kernel))⟩
theorem ms_X7_isSign : MV yX7_isSign cX7_isSign 2 (some .boolean) 1 := ⟨(tb_in3 (i := 147) rfl rfl), (tb_in1 (i := 3) (by decide +kernel) (by decide +kernel)), ⟨by decide +kernel, by decide +kernel, by decide +kernel⟩, (tb_in3 (i := 145) (by decide +kernel) (by decide +kernel)), (tb_in3 (i := 146) (by decide +kernel) (by decide +kernel))⟩
theorem ms_X8_clear : MV yX8_clear cX8_clear 1 none 0 := ⟨(tb_in3 (i := 11) rfl rfl), (tb_in1 (i := 8) (by decide +kernel) (by decide +kernel)), ⟨by decide +kernel, by decide +kernel, by decide +kernel⟩, (tb_in3 (i := 9) (by decide +kernel) (by decide +kernel)), (tb_in3 (i := 10) (by decide +kernel) (by decide +kernel))⟩
theorem ms_X8_copyFrom : MV yX8_copyFrom cX8_copyFrom 2 none 1 := ⟨(tb_in5 (i := 131) rfl rfl), (tb_in1 (i := 8) (by decide +kernel) (by decide +kernel)), ⟨by decide +kernel, by decide +kernel, by decide +kernel⟩, (tb_in5 (i := 129) (by decide +kernel) (by decide +kernel)), (tb_in5 (i := 130) (by decide +kernel) (by decide +kernel))⟩
theorem ms_X8_dogs : MV yX8_dogs cX8_dogs 3 (some .int) 0 := ⟨(tb_in5 (i := 159) rfl rfl), (tb_in1 (i := 8) (by decide +kernel) (by decide +kernel)), ⟨by decide +kernel, by decide +kernel, by decide +kernel⟩, (tb_in5 (i := 157) (by decide +kernel) (by decide +kernel)), (tb_in5 (i := 158) (by decide +kernel) (by decide +kernel))⟩
theorem ms_X8_pay : MV yX8_pay cX8_pay 4 none 3 := ⟨(tb_in5 (i := 56) rfl rfl), (tb_in1 (i := 8) (by decide +kernel) (by decide +kernel)), ⟨by decide +kernel, by decide +kernel, by decide +kernel⟩, (tb_in5 (i := 54) (by decide +kernel) (by decide +kernel)), (tb_in5 (i := 55) (by decide +kernel) (by decide +kernel))⟩
theorem ms_X8_hasRight : MV yX8_hasRight cX8_hasRight 5 (some .boolean) 3 := ⟨(tb_in5 (i := 78) rfl rfl), (tb_in1 (i := 8) (by decide +kernel) (by decide +kernel)), ⟨by decide +kernel, by decide +kernel, by decide +kernel⟩, (tb_in5 (i := 76) (by decide +kernel) (by decide +kernel)), (tb_in5 (i := 77) (by decide +kernel) (by decide +kernel))⟩
theorem ms_X8_silence : MV yX8_silence cX8_silence 3 none 1 := ⟨(tb_in6 (i := 42) rfl rfl), (tb_in1 (i := 8) (by decide +kernel) (by decide +kernel)), ⟨by decide +kernel, by decide +kernel, by decide +kernel⟩, (tb_in6 (i := 40) (by decide +kernel) (by decide +kernel)), (tb_in6 (i := 41) (by decide +kernel) (by decide +kernel))⟩
theorem ms_X8_muffle : MV yX8_muffle cX8_muffle 3 none 0 := ⟨(tb_in6 (i := 46) rfl rfl), (tb_in1 (i := 8) (by decide +kernel) (by decide +kernel)), ⟨by decide +kernel, by decide +kernel, by decide +kernel⟩, (tb_in6 (i := 44) (by decide +kernel) (by decide +kernel)), (tb_in6 (i := 45) (by decide +kernel) (by decide +kernel))⟩
theorem ms_J6_bitCount_0f7a4 : MS yJ6_bitCount_0f7a4 cJ6_bitCount_0f7a4 1 (some .int) 1 := ⟨(tb_in4 (i := 201) rfl rfl), (tb_in1 (i := 23) (by decide +kernel) (by decide +kernel)), ⟨by decide +kernel, by decide +kernel, by decide +kernel⟩, (tb_in4 (i := 200) (by decide +kernel) (by decide +kernel))⟩
theorem ms_J13_bitCount_95d88 : MS yJ13_bitCount_95d88 cJ13_bitCount_95d88 2 (some .int) 1 := ⟨(tb_in6 (i := 27) rfl rfl), (tb_in1 (i := 25) (by decide +kernel) (by decide +kernel)), ⟨by decide +kernel, by decide +kernel, by decide +kernel⟩, (tb_in6 (i := 26) (by decide +kernel) (by decide +kernel))⟩
theorem ms_J0_isLatin1_aae02 : MV yJ0_isLatin1_aae02 cJ0_isLatin1_aae02 1 (some .boolean) 0 := ⟨(tb_in1 (i := 64) rfl rfl), (tb_in1 (i := 4) (by decide +kernel) (by decide +kernel)), ⟨by decide +kernel, by decide +kernel, by decide +kernel⟩, (tb_in1 (i := 62) (by decide +kernel) (by decide +kernel)), (tb_in1 (i := 63) (by decide +kernel) (by decide +kernel))⟩
theorem ms_J0_coder_7d493 : MV yJ0_coder_7d493 cJ0_coder_7d493 1 (some .byte) 0 := ⟨(tb_in1 (i := 54) rfl rfl), (tb_in1 (i := 4) (by decide +kernel) (by decide +kernel)), ⟨by decide +kernel, by decide +kernel, by decide +kernel⟩, (tb_in1 (i := 52) (by decide +kernel) (by decide +kernel)), (tb_in1 (i := 53) (by decide +kernel) (by decide +kernel))⟩
theorem ms_J0_length_8abf5 : MV yJ0_length_8abf5 cJ0_length_8abf5 1 (some .int) 0 := ⟨(tb_in1 (i := 50) rfl rfl), (tb_in1 (i := 4) (by decide +kernel) (by decide +kernel)), ⟨by decide +kernel, by decide +kernel, by decide +kernel⟩, (tb_in1 (i := 48) (by decide +kernel) (by decide +kernel)), (tb_in1 (i := 49) (by decide +kernel) (by decide +kernel))⟩
theorem ms_J0_charAt_5068e : MV yJ0_charAt_5068e cJ0_charAt_5068e 2 (some .char) 1 := ⟨(tb_in1 (i := 60) rfl rfl), (tb_in1 (i := 4) (by decide +kernel) (by decide +kernel)), ⟨by decide +kernel, by decide +kernel, by decide +kernel⟩, (tb_in1 (i := 58) (by decide +kernel) (by decide +kernel)), (tb_in1 (i := 59) (by decide +kernel) (by decide +kernel))⟩
theorem ms_J0_indexOf_0f7a4 : MV yJ0_indexOf_0f7a4 cJ0_indexOf_0f7a4 2 (some .int) 1 := ⟨(tb_in3 (i := 54) rfl rfl), (tb_in1 (i := 4) (by decide +kernel) (by decide +kernel)), ⟨by decide +kernel, by decide +kernel, by decide +kernel⟩, (tb_in3 (i := 52) (by decide +kernel) (by decide +kernel)), (tb_in3 (i := 53) (by decide +kernel) (by decide +kernel))⟩
theorem ms_J0_indexOf_7cf53 : MV yJ0_indexOf_7cf53 cJ0_indexOf_7cf53 3 (some .int) 2 := ⟨(tb_in3 (i := 58) rfl rfl), (tb_in1 (i := 4) (by decide +kernel) (by decide +kernel)), ⟨by decide +kernel, by decide +kernel, by decide +kernel⟩, (tb_in3 (i := 56) (by decide +kernel) (by decide +kernel)), (tb_in3 (i := 57) (by decide +kernel) (by decide +kernel))⟩
theorem ms_J1_charAt_3b067 : MS yJ1_charAt_3b067 cJ1_charAt_3b067 2 (some .char) 2 := ⟨(tb_in1 (i := 67) rfl rfl), (tb_in1 (i := 5) (by decide +kernel) (by decide +kernel)), ⟨by decide +kernel, by decide +kernel, by decide +kernel⟩, (tb_in1 (i := 66) (by decide +kernel) (by decide +kernel))⟩
theorem ms_J1_indexOf_4cfef : MS yJ1_indexOf_4cfef cJ1_indexOf_4cfef 4 (some .int) 4 := ⟨(tb_in3 (i := 62) rfl rfl), (tb_in1 (i := 5) (by decide +kernel) (by decide +kernel)), ⟨by decide +kernel, by decide +kernel, by decide +kernel⟩, (tb_in3 (i := 61) (by decide +kernel) (by decide +kernel))⟩
theorem ms_J1_canEncode_9a6ad : MS yJ1_canEncode_9a6ad cJ1_canEncode_9a6ad 1 (some .boolean) 1 := ⟨(tb_in3 (i := 65) rfl rfl), (tb_in1 (i := 5) (by decide +kernel) (by decide +kernel)), ⟨by decide +kernel, by decide +kernel, by decide +kernel⟩, (tb_in3 (i := 64) (by decide +kernel) (by decide +kernel))⟩
theorem ms_J1_indexOfChar_4cfef : MS yJ1_indexOfChar_4cfef cJ1_indexOfChar_4cfef 6 (some .int) 4 := ⟨(tb_in3 (i := 72) rfl rfl), (tb_in1 (i := 5) (by decide +kernel) (by decide +kernel)), ⟨by decide +kernel, by decide +kernel, by decide +kernel⟩, (tb_in3 (i := 71) (by decide +kernel) (by decide +kernel))⟩
theorem ms_J0_checkIndex_df160 : MS yJ0_checkIndex_df160 cJ0_checkIndex_df160 2 none 2 := ⟨(tb_in1 (i := 70) rfl rfl), (tb_in1 (i := 4) (by decide +kernel) (by decide +kernel)), ⟨by decide +kernel, by decide +kernel, by decide +kernel⟩, (tb_in1 (i := 69) (by decide +kernel) (by decide +kernel))⟩
theorem ms_J3_checkIndex_8e157 : MS yJ3_checkIndex_8e157 cJ3_checkIndex_8e157 3 (some .int) 3 := ⟨(tb_in1 (i := 75) rfl rfl), (tb_in1 (i := 6) (by decide +kernel) (by decide +kernel)), ⟨by decide +kernel, by decide +kernel, by decide +kernel⟩, (tb_in1 (i := 74) (by decide +kernel) (by decide +kernel))⟩
theorem cs_X7_67 : Cond.constant RX7 67 (1000000) ∈ LT := tb_in3 (i := 42) (by decide +kernel) (by decide +kernel)
theorem cs_X5_116 : Cond.constant RX5 116 (99999) ∈ LT := tb_in3 (i := 210) (by decide +kernel) (by decide +kernel)
theorem cs_X0_28 : Cond.constant RX0 28 (1000000) ∈ LT := tb_in4 (i := 62) (by decide +kernel) (by decide +kernel)
theorem cs_X0_79 : Cond.constantLong RX0 79 (281474976710655) ∈ LT := tb_in4 (i := 70) (by decide +kernel) (by decide +kernel)
theorem cs_X1_38 : Cond.constantLong RX1 38 (-9223372036854775808) ∈ LT := tb_in4 (i := 83) (by decide +kernel) (by decide +kernel)
theorem cs_X1_44 : Cond.constantLong RX1 44 (1000000000000) ∈ LT := tb_in4 (i := 87) (by decide +kernel) (by decide +kernel)
theorem cs_X1_46 : Cond.constantLong RX1 46 (-1000000000000) ∈ LT := tb_in4 (i := 88) (by decide +kernel) (by decide +kernel)
theorem cs_X0_73 : Cond.constantLong RX0 73 (-9223372036854775808) ∈ LT := tb_in4 (i := 89) (by decide +kernel) (by decide +kernel)
theorem cs_X0_88 : Cond.constantLong RX0 88 (-1) ∈ LT := tb_in4 (i := 90) (by decide +kernel) (by decide +kernel)
theorem cs_X9_173 : Cond.constantLong RX9 173 (-9223372036854775808) ∈ LT := tb_in4 (i := 126) (by decide +kernel) (by decide +kernel)
theorem cs_X9_196 : Cond.constantLong RX9 196 (-1) ∈ LT := tb_in4 (i := 139) (by decide +kernel) (by decide +kernel)
theorem cs_J6_265 : Cond.constant RJ6 265 (1431655765) ∈ LT := tb_in4 (i := 202) (by decide +kernel) (by decide +kernel)
theorem cs_J6_266 : Cond.constant RJ6 266 (858993459) ∈ LT := tb_in4 (i := 203) (by decide +kernel) (by decide +kernel)
theorem cs_J6_267 : Cond.constant RJ6 267 (252645135) ∈ LT := tb_in4 (i := 204) (by decide +kernel) (by decide +kernel)
theorem cs_X3_114 : Cond.constantLong RX3 114 (-9223372036854775808) ∈ LT := tb_in4 (i := 209) (by decide +kernel) (by decide +kernel)
theorem cs_X3_116 : Cond.constantLong RX3 116 (9999) ∈ LT := tb_in4 (i := 210) (by decide +kernel) (by decide +kernel)
theorem cs_X9_312 : Cond.constant RX9 312 (2147483647) ∈ LT := tb_in5 (i := 188) (by decide +kernel) (by decide +kernel)
theorem cs_J13_314 : Cond.constantLong RJ13 314 (6148914691236517205) ∈ LT := tb_in6 (i := 28) (by decide +kernel) (by decide +kernel)
theorem cs_J13_316 : Cond.constantLong RJ13 316 (3689348814741910323) ∈ LT := tb_in6 (i := 29) (by decide +kernel) (by decide +kernel)
theorem cs_J13_318 : Cond.constantLong RJ13 318 (1085102592571150095) ∈ LT := tb_in6 (i := 30) (by decide +kernel) (by decide +kernel)
theorem cs_X9_361 : Cond.constant RX9 361 (1103515245) ∈ LT := tb_in6 (i := 50) (by decide +kernel) (by decide +kernel)
theorem cs_X10_273 : Cond.constant RX10 273 (99999) ∈ LT := tb_in8 (i := 72) (by decide +kernel) (by decide +kernel)
theorem cs_X10_460 : Cond.constantLong RX10 460 (-9223372036854775808) ∈ LT := tb_in8 (i := 206) (by decide +kernel) (by decide +kernel)
theorem cs_X10_429 : Cond.constantLong RX10 429 (1000000000000) ∈ LT := tb_in8 (i := 229) (by decide +kernel) (by decide +kernel)
theorem cs_X10_431 : Cond.constantLong RX10 431 (-1000000000000) ∈ LT := tb_in8 (i := 230) (by decide +kernel) (by decide +kernel)
theorem cs_X10_473 : Cond.constant RX10 473 (100000) ∈ LT := tb_in9 (i := 11) (by decide +kernel) (by decide +kernel)
theorem cs_X10_533 : Cond.constantLong RX10 533 (-1) ∈ LT := tb_in9 (i := 88) (by decide +kernel) (by decide +kernel)
theorem cs_X10_446 : Cond.constantLong RX10 446 (9999) ∈ LT := tb_in9 (i := 140) (by decide +kernel) (by decide +kernel)
theorem cs_X10_663 : Cond.constant RX10 663 (1103515245) ∈ LT := tb_in10 (i := 70) (by decide +kernel) (by decide +kernel)
theorem cs_X10_666 : Cond.constant RX10 666 (2147483647) ∈ LT := tb_in10 (i := 71) (by decide +kernel) (by decide +kernel)
theorem fst_RANKS : Cond.fieldLink RX5 227 "OwnedSilence$Reader" "RANKS" "[I" ∈ LT := tb_in3 (i := 227) (by decide +kernel) (by decide +kernel)
theorem fst_ORDERS : Cond.fieldLink RX3 133 "OwnedSilence$Pieces" "ORDERS" "[I" ∈ LT := tb_in5 (i := 9) (by decide +kernel) (by decide +kernel)
theorem acp_nat : Cond.native arraycopyName ∈ LT := tb_in5 (i := 39) (by decide +kernel) (by decide +kernel)
theorem acp_sta : Cond.static arraycopyName ∈ LT := tb_in5 (i := 38) (by decide +kernel) (by decide +kernel)
theorem acp_ini : Cond.initialized "java/lang/System" ∈ LT := tb_in1 (i := 24) (by decide +kernel) (by decide +kernel)
theorem sfl_9 : Cond.fieldLink RJ0 9 "java/lang/String" "value" "[B" ∈ LT := tb_in10 (i := 120) (by decide +kernel) (by decide +kernel)
theorem sfl_15 : Cond.fieldLink RJ0 15 "java/lang/String" "coder" "B" ∈ LT := tb_in10 (i := 121) (by decide +kernel) (by decide +kernel)
theorem sfl_38 : Cond.fieldLink RJ0 38 "java/lang/String" "COMPACT_STRINGS" "Z" ∈ LT := tb_in1 (i := 55) (by decide +kernel) (by decide +kernel)
theorem sfl_1053 : Cond.fieldLink RJ0 1053 "jdk/internal/util/Preconditions" "SIOOBE_FORMATTER" "Ljava/util/function/BiFunction;" ∈ LT := tb_in1 (i := 71) (by decide +kernel) (by decide +kernel)
theorem sf_0_0 {t : Nat} (h : oX t 0) : aX (t + 1) 0 36 := (show ∀ t, t < 139 → shX t = .inl 0 → t + 1 < 139 ∧ shX (t + 1) = .inr (0, 36) by decide +kernel) t h.1 h.2
theorem sf_0_1 {t : Nat} (h : oX t 0) : aX (t + 2) 1 78 := (show ∀ t, t < 139 → shX t = .inl 0 → t + 2 < 139 ∧ shX (t + 2) = .inr (1, 78) by decide +kernel) t h.1 h.2
theorem sf_0_2 {t : Nat} (h : oX t 0) : aX (t + 3) 1 6 := (show ∀ t, t < 139 → shX t = .inl 0 → t + 3 < 139 ∧ shX (t + 3) = .inr (1, 6) by decide +kernel) t h.1 h.2
theorem sf_0_3 {t : Nat} (h : oX t 0) : aX (t + 4) 0 288 := (show ∀ t, t < 139 → shX t = .inl 0 → t + 4 < 139 ∧ shX (t + 4) = .inr (0, 288) by decide +kernel) t h.1 h.2
theorem sf_0_4 {t : Nat} (h : oX t 0) : aX (t + 5) 0 288 := (show ∀ t, t < 139 → shX t = .inl 0 → t + 5 < 139 ∧ shX (t + 5) = .inr (0, 288) by decide +kernel) t h.1 h.2
theorem sf_1_0 {t : Nat} (h : oX t 1) : aX (t + 1) 0 64 := (show ∀ t, t < 139 → shX t = .inl 1 → t + 1 < 139 ∧ shX (t + 1) = .inr (0, 64) by decide +kernel) t h.1 h.2
theorem sf_1_1 {t : Nat} (h : oX t 1) : aX (t + 2) 1 64 := (show ∀ t, t < 139 → shX t = .inl 1 → t + 2 < 139 ∧ shX (t + 2) = .inr (1, 64) by decide +kernel) t h.1 h.2
theorem sf_1_2 {t : Nat} (h : oX t 1) : aX (t + 3) 1 6 := (show ∀ t, t < 139 → shX t = .inl 1 → t + 3 < 139 ∧ shX (t + 3) = .inr (1, 6) by decide +kernel) t h.1 h.2
theorem sf_6_2 {t : Nat} (h : oX t 6) : aX (t + 1) 0 (alX (t + 1)) := (show ∀ t, t < 139 → shX t = .inl 6 → t + 1 < 139 ∧ shX (t + 1) = .inr (0, alX (t + 1)) by decide +kernel) t h.1 h.2
theorem sf_8_0 {t : Nat} (h : oX t 8) : oX (t + 1) 6 := (show ∀ t, t < 139 → shX t = .inl 8 → t + 1 < 139 ∧ shX (t + 1) = .inl 6 by decide +kernel) t h.1 h.2
theorem sf_8_1 {t : Nat} (h : oX t 8) : oX (t + 3) 6 := (show ∀ t, t < 139 → shX t = .inl 8 → t + 3 < 139 ∧ shX (t + 3) = .inl 6 by decide +kernel) t h.1 h.2
theorem sf_8_2 {t : Nat} (h : oX t 8) : oX (t + 5) 6 := (show ∀ t, t < 139 → shX t = .inl 8 → t + 5 < 139 ∧ shX (t + 5) = .inl 6 by decide +kernel) t h.1 h.2
theorem sf_8_3 {t : Nat} (h : oX t 8) : oX (t + 7) 6 := (show ∀ t, t < 139 → shX t = .inl 8 → t + 7 < 139 ∧ shX (t + 7) = .inl 6 by decide +kernel) t h.1 h.2
theorem sf_8_4 {t : Nat} (h : oX t 8) : oX (t + 9) 6 := (show ∀ t, t < 139 → shX t = .inl 8 → t + 9 < 139 ∧ shX (t + 9) = .inl 6 by decide +kernel) t h.1 h.2
theorem sf_8_5 {t : Nat} (h : oX t 8) : oX (t + 11) 6 := (show ∀ t, t < 139 → shX t = .inl 8 → t + 11 < 139 ∧ shX (t + 11) = .inl 6 by decide +kernel) t h.1 h.2
theorem sf_8_6 {t : Nat} (h : oX t 8) : oX (t + 13) 6 := (show ∀ t, t < 139 → shX t = .inl 8 → t + 13 < 139 ∧ shX (t + 13) = .inl 6 by decide +kernel) t h.1 h.2
theorem sf_8_7 {t : Nat} (h : oX t 8) : oX (t + 15) 1 := (show ∀ t, t < 139 → shX t = .inl 8 → t + 15 < 139 ∧ shX (t + 15) = .inl 1 by decide +kernel) t h.1 h.2
theorem sf_8_8 {t : Nat} (h : oX t 8) : oX (t + 19) 1 := (show ∀ t, t < 139 → shX t = .inl 8 → t + 19 < 139 ∧ shX (t + 19) = .inl 1 by decide +kernel) t h.1 h.2
theorem oX_0 : oX 0 9 := ⟨by decide, rfl⟩
theorem aX_1 : aX 1 2 700 := ⟨by decide, rfl⟩
theorem oX_2 : oX 2 5 := ⟨by decide, rfl⟩
theorem oX_3 : oX 3 7 := ⟨by decide, rfl⟩
theorem aX_4 : aX 4 0 24 := ⟨by decide, rfl⟩
theorem aX_5 : aX 5 0 5 := ⟨by decide, rfl⟩
theorem aX_6 : aX 6 0 3 := ⟨by decide, rfl⟩
theorem aX_7 : aX 7 0 72 := ⟨by decide, rfl⟩
theorem oX_8 : oX 8 8 := ⟨by decide, rfl⟩
theorem oX_9 : oX 9 6 := ⟨by decide, rfl⟩
theorem aX_10 : aX 10 0 12 := ⟨by decide, rfl⟩
theorem oX_11 : oX 11 6 := ⟨by decide, rfl⟩
theorem aX_12 : aX 12 0 36 := ⟨by decide, rfl⟩
theorem oX_13 : oX 13 6 := ⟨by decide, rfl⟩
theorem aX_14 : aX 14 0 12 := ⟨by decide, rfl⟩
theorem oX_15 : oX 15 6 := ⟨by decide, rfl⟩
theorem aX_16 : aX 16 0 78 := ⟨by decide, rfl⟩
theorem oX_17 : oX 17 6 := ⟨by decide, rfl⟩
theorem aX_18 : aX 18 0 64 := ⟨by decide, rfl⟩
theorem oX_19 : oX 19 6 := ⟨by decide, rfl⟩
theorem aX_20 : aX 20 0 24 := ⟨by decide, rfl⟩
theorem oX_21 : oX 21 6 := ⟨by decide, rfl⟩
theorem aX_22 : aX 22 0 16 := ⟨by decide, rfl⟩
theorem oX_23 : oX 23 1 := ⟨by decide, rfl⟩
theorem aX_24 : aX 24 0 64 := ⟨by decide, rfl⟩
theorem aX_25 : aX 25 1 64 := ⟨by decide, rfl⟩
theorem aX_26 : aX 26 1 6 := ⟨by decide, rfl⟩
theorem oX_27 : oX 27 1 := ⟨by decide, rfl⟩
theorem aX_28 : aX 28 0 64 := ⟨by decide, rfl⟩
theorem aX_29 : aX 29 1 64 := ⟨by decide, rfl⟩
theorem aX_30 : aX 30 1 6 := ⟨by decide, rfl⟩
theorem oX_31 : oX 31 8 := ⟨by decide, rfl⟩
theorem oX_32 : oX 32 6 := ⟨by decide, rfl⟩
theorem aX_33 : aX 33 0 12 := ⟨by decide, rfl⟩
theorem oX_34 : oX 34 6 := ⟨by decide, rfl⟩
theorem aX_35 : aX 35 0 36 := ⟨by decide, rfl⟩
theorem oX_36 : oX 36 6 := ⟨by decide, rfl⟩
theorem aX_37 : aX 37 0 12 := ⟨by decide, rfl⟩
theorem oX_38 : oX 38 6 := ⟨by decide, rfl⟩
theorem aX_39 : aX 39 0 78 := ⟨by decide, rfl⟩
theorem oX_40 : oX 40 6 := ⟨by decide, rfl⟩
theorem aX_41 : aX 41 0 64 := ⟨by decide, rfl⟩
theorem oX_42 : oX 42 6 := ⟨by decide, rfl⟩
theorem aX_43 : aX 43 0 24 := ⟨by decide, rfl⟩
theorem oX_44 : oX 44 6 := ⟨by decide, rfl⟩
theorem aX_45 : aX 45 0 16 := ⟨by decide, rfl⟩
theorem oX_46 : oX 46 1 := ⟨by decide, rfl⟩
theorem aX_47 : aX 47 0 64 := ⟨by decide, rfl⟩
theorem aX_48 : aX 48 1 64 := ⟨by decide, rfl⟩
theorem aX_49 : aX 49 1 6 := ⟨by decide, rfl⟩
theorem oX_50 : oX 50 1 := ⟨by decide, rfl⟩
theorem aX_51 : aX 51 0 64 := ⟨by decide, rfl⟩
theorem aX_52 : aX 52 1 64 := ⟨by decide, rfl⟩
theorem aX_53 : aX 53 1 6 := ⟨by decide, rfl⟩
theorem oX_54 : oX 54 8 := ⟨by decide, rfl⟩
theorem oX_55 : oX 55 6 := ⟨by decide, rfl⟩
theorem aX_56 : aX 56 0 12 := ⟨by decide, rfl⟩
theorem oX_57 : oX 57 6 := ⟨by decide, rfl⟩
theorem aX_58 : aX 58 0 36 := ⟨by decide, rfl⟩
theorem oX_59 : oX 59 6 := ⟨by decide, rfl⟩
theorem aX_60 : aX 60 0 12 := ⟨by decide, rfl⟩
theorem oX_61 : oX 61 6 := ⟨by decide, rfl⟩
theorem aX_62 : aX 62 0 78 := ⟨by decide, rfl⟩
theorem oX_63 : oX 63 6 := ⟨by decide, rfl⟩
theorem aX_64 : aX 64 0 64 := ⟨by decide, rfl⟩
theorem oX_65 : oX 65 6 := ⟨by decide, rfl⟩
theorem aX_66 : aX 66 0 24 := ⟨by decide, rfl⟩
theorem oX_67 : oX 67 6 := ⟨by decide, rfl⟩
theorem aX_68 : aX 68 0 16 := ⟨by decide, rfl⟩
theorem oX_69 : oX 69 1 := ⟨by decide, rfl⟩
theorem aX_70 : aX 70 0 64 := ⟨by decide, rfl⟩
theorem aX_71 : aX 71 1 64 := ⟨by decide, rfl⟩
theorem aX_72 : aX 72 1 6 := ⟨by decide, rfl⟩
theorem oX_73 : oX 73 1 := ⟨by decide, rfl⟩
theorem aX_74 : aX 74 0 64 := ⟨by decide, rfl⟩
theorem aX_75 : aX 75 1 64 := ⟨by decide, rfl⟩
theorem aX_76 : aX 76 1 6 := ⟨by decide, rfl⟩
theorem oX_77 : oX 77 8 := ⟨by decide, rfl⟩
theorem oX_78 : oX 78 6 := ⟨by decide, rfl⟩
theorem aX_79 : aX 79 0 12 := ⟨by decide, rfl⟩
theorem oX_80 : oX 80 6 := ⟨by decide, rfl⟩
theorem aX_81 : aX 81 0 36 := ⟨by decide, rfl⟩
theorem oX_82 : oX 82 6 := ⟨by decide, rfl⟩
theorem aX_83 : aX 83 0 12 := ⟨by decide, rfl⟩
theorem oX_84 : oX 84 6 := ⟨by decide, rfl⟩
theorem aX_85 : aX 85 0 78 := ⟨by decide, rfl⟩
theorem oX_86 : oX 86 6 := ⟨by decide, rfl⟩
theorem aX_87 : aX 87 0 64 := ⟨by decide, rfl⟩
theorem oX_88 : oX 88 6 := ⟨by decide, rfl⟩
theorem aX_89 : aX 89 0 24 := ⟨by decide, rfl⟩
theorem oX_90 : oX 90 6 := ⟨by decide, rfl⟩
theorem aX_91 : aX 91 0 16 := ⟨by decide, rfl⟩
theorem oX_92 : oX 92 1 := ⟨by decide, rfl⟩
theorem aX_93 : aX 93 0 64 := ⟨by decide, rfl⟩
theorem aX_94 : aX 94 1 64 := ⟨by decide, rfl⟩
theorem aX_95 : aX 95 1 6 := ⟨by decide, rfl⟩
theorem oX_96 : oX 96 1 := ⟨by decide, rfl⟩
theorem aX_97 : aX 97 0 64 := ⟨by decide, rfl⟩
theorem aX_98 : aX 98 1 64 := ⟨by decide, rfl⟩
theorem aX_99 : aX 99 1 6 := ⟨by decide, rfl⟩
theorem oX_100 : oX 100 0 := ⟨by decide, rfl⟩
theorem aX_101 : aX 101 0 36 := ⟨by decide, rfl⟩
theorem aX_102 : aX 102 1 78 := ⟨by decide, rfl⟩
theorem aX_103 : aX 103 1 6 := ⟨by decide, rfl⟩
theorem aX_104 : aX 104 0 288 := ⟨by decide, rfl⟩
theorem aX_105 : aX 105 0 288 := ⟨by decide, rfl⟩
theorem oX_106 : oX 106 0 := ⟨by decide, rfl⟩
theorem aX_107 : aX 107 0 36 := ⟨by decide, rfl⟩
theorem aX_108 : aX 108 1 78 := ⟨by decide, rfl⟩
theorem aX_109 : aX 109 1 6 := ⟨by decide, rfl⟩
theorem aX_110 : aX 110 0 288 := ⟨by decide, rfl⟩
theorem aX_111 : aX 111 0 288 := ⟨by decide, rfl⟩
theorem oX_112 : oX 112 3 := ⟨by decide, rfl⟩
theorem oX_113 : oX 113 6 := ⟨by decide, rfl⟩
theorem aX_114 : aX 114 0 576 := ⟨by decide, rfl⟩
theorem oX_115 : oX 115 6 := ⟨by decide, rfl⟩
theorem aX_116 : aX 116 0 864 := ⟨by decide, rfl⟩
theorem aX_117 : aX 117 0 6 := ⟨by decide, rfl⟩
theorem aX_118 : aX 118 0 144 := ⟨by decide, rfl⟩
theorem aX_119 : aX 119 0 4 := ⟨by decide, rfl⟩
theorem aX_120 : aX 120 0 4 := ⟨by decide, rfl⟩
theorem aX_121 : aX 121 0 4 := ⟨by decide, rfl⟩
theorem oX_122 : oX 122 4 := ⟨by decide, rfl⟩
theorem aX_123 : aX 123 1 4 := ⟨by decide, rfl⟩
theorem aX_124 : aX 124 1 4 := ⟨by decide, rfl⟩
theorem aX_125 : aX 125 0 4 := ⟨by decide, rfl⟩
theorem aX_126 : aX 126 0 4 := ⟨by decide, rfl⟩
theorem aX_127 : aX 127 0 4 := ⟨by decide, rfl⟩
theorem aX_128 : aX 128 0 4 := ⟨by decide, rfl⟩
theorem oX_129 : oX 129 2 := ⟨by decide, rfl⟩
theorem oX_130 : oX 130 6 := ⟨by decide, rfl⟩
theorem aX_131 : aX 131 0 72 := ⟨by decide, rfl⟩
theorem aX_132 : aX 132 3 24 := ⟨by decide, rfl⟩
theorem aX_133 : aX 133 0 48 := ⟨by decide, rfl⟩
theorem aX_134 : aX 134 0 48 := ⟨by decide, rfl⟩
theorem oX_135 : oX 135 6 := ⟨by decide, rfl⟩
theorem aX_136 : aX 136 0 100 := ⟨by decide, rfl⟩
theorem aX_137 : aX 137 0 64 := ⟨by decide, rfl⟩
theorem aX_138 : aX 138 0 91 := ⟨by decide, rfl⟩
theorem oM_0 : oM 0 10 := ⟨by decide, rfl⟩
theorem aM_1 : aM 1 0 700 := ⟨by decide, rfl⟩
theorem aM_2 : aM 2 0 22 := ⟨by decide, rfl⟩
theorem aM_3 : aM 3 0 12 := ⟨by decide, rfl⟩
theorem aM_4 : aM 4 0 18 := ⟨by decide, rfl⟩
theorem aM_5 : aM 5 0 18 := ⟨by decide, rfl⟩
theorem aM_6 : aM 6 0 18 := ⟨by decide, rfl⟩
theorem aM_7 : aM 7 0 8 := ⟨by decide, rfl⟩
theorem aM_8 : aM 8 0 8 := ⟨by decide, rfl⟩
theorem aM_9 : aM 9 0 8 := ⟨by decide, rfl⟩
theorem aM_10 : aM 10 0 16 := ⟨by decide, rfl⟩
theorem aM_11 : aM 11 0 16 := ⟨by decide, rfl⟩
theorem aM_12 : aM 12 0 16 := ⟨by decide, rfl⟩
theorem aM_13 : aM 13 0 16 := ⟨by decide, rfl⟩
theorem aM_14 : aM 14 0 16 := ⟨by decide, rfl⟩
theorem aM_15 : aM 15 0 16 := ⟨by decide, rfl⟩
theorem aM_16 : aM 16 0 16 := ⟨by decide, rfl⟩
theorem aM_17 : aM 17 0 16 := ⟨by decide, rfl⟩
theorem aM_18 : aM 18 0 16 := ⟨by decide, rfl⟩
theorem aM_19 : aM 19 0 12 := ⟨by decide, rfl⟩
theorem aM_20 : aM 20 0 12 := ⟨by decide, rfl⟩
theorem aM_21 : aM 21 0 12 := ⟨by decide, rfl⟩
theorem aM_22 : aM 22 0 12 := ⟨by decide, rfl⟩
theorem aM_23 : aM 23 0 8 := ⟨by decide, rfl⟩
theorem aM_24 : aM 24 0 8 := ⟨by decide, rfl⟩
theorem aM_25 : aM 25 0 8 := ⟨by decide, rfl⟩
theorem aM_26 : aM 26 0 8 := ⟨by decide, rfl⟩
theorem aM_27 : aM 27 0 12 := ⟨by decide, rfl⟩
theorem aM_28 : aM 28 0 4 := ⟨by decide, rfl⟩
theorem aM_29 : aM 29 0 4 := ⟨by decide, rfl⟩
theorem aM_30 : aM 30 0 128 := ⟨by decide, rfl⟩
theorem aM_31 : aM 31 0 128 := ⟨by decide, rfl⟩
theorem aM_32 : aM 32 1 6 := ⟨by decide, rfl⟩
theorem aM_33 : aM 33 1 64 := ⟨by decide, rfl⟩
theorem aM_34 : aM 34 0 22 := ⟨by decide, rfl⟩
theorem aM_35 : aM 35 0 264 := ⟨by decide, rfl⟩
theorem aM_36 : aM 36 0 264 := ⟨by decide, rfl⟩
theorem aM_37 : aM 37 0 264 := ⟨by decide, rfl⟩
theorem aM_38 : aM 38 0 264 := ⟨by decide, rfl⟩
theorem aM_39 : aM 39 0 264 := ⟨by decide, rfl⟩
theorem aM_40 : aM 40 0 22 := ⟨by decide, rfl⟩
theorem aM_41 : aM 41 0 176 := ⟨by decide, rfl⟩
theorem aM_42 : aM 42 0 22 := ⟨by decide, rfl⟩
theorem aM_43 : aM 43 0 88 := ⟨by decide, rfl⟩
theorem aM_44 : aM 44 0 22 := ⟨by decide, rfl⟩
theorem aM_45 : aM 45 0 16 := ⟨by decide, rfl⟩
theorem aM_46 : aM 46 0 16 := ⟨by decide, rfl⟩
theorem aM_47 : aM 47 0 16 := ⟨by decide, rfl⟩
theorem aM_48 : aM 48 0 16 := ⟨by decide, rfl⟩
theorem aM_49 : aM 49 0 16 := ⟨by decide, rfl⟩
theorem aM_50 : aM 50 0 36 := ⟨by decide, rfl⟩
theorem aM_51 : aM 51 0 288 := ⟨by decide, rfl⟩
theorem aM_52 : aM 52 0 16 := ⟨by decide, rfl⟩
theorem aM_53 : aM 53 0 16 := ⟨by decide, rfl⟩
theorem aM_54 : aM 54 0 16 := ⟨by decide, rfl⟩
theorem aM_55 : aM 55 0 16 := ⟨by decide, rfl⟩
theorem aM_56 : aM 56 0 288 := ⟨by decide, rfl⟩
theorem aM_57 : aM 57 0 144 := ⟨by decide, rfl⟩
theorem aM_58 : aM 58 0 144 := ⟨by decide, rfl⟩
theorem aM_59 : aM 59 0 144 := ⟨by decide, rfl⟩
theorem aM_60 : aM 60 0 144 := ⟨by decide, rfl⟩
theorem aM_61 : aM 61 3 192 := ⟨by decide, rfl⟩
theorem aM_62 : aM 62 0 4 := ⟨by decide, rfl⟩
theorem aM_63 : aM 63 0 4 := ⟨by decide, rfl⟩
theorem aM_64 : aM 64 0 4 := ⟨by decide, rfl⟩
theorem aM_65 : aM 65 0 4 := ⟨by decide, rfl⟩
theorem aM_66 : aM 66 0 64 := ⟨by decide, rfl⟩
theorem aM_67 : aM 67 0 24 := ⟨by decide, rfl⟩
theorem aM_68 : aM 68 0 24 := ⟨by decide, rfl⟩
theorem aM_69 : aM 69 3 24 := ⟨by decide, rfl⟩
theorem aM_70 : aM 70 0 24 := ⟨by decide, rfl⟩
theorem aM_71 : aM 71 3 24 := ⟨by decide, rfl⟩
