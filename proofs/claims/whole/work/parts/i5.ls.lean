/-! ===== the law's loop, and its start ===== -/
section LOOP
variable {Λ : LK} {n k : Nat} {hx hm : PH} {f : Nat → Int64} {pc : Nat} {st : List Value}
theorem LW.tin {v : Int32} {i : Int} {off : Int} {tgt : Nat} (F : LF Λ) (e : v.toInt = i) (h0 : 0 ≤ i) (h1 : i ≤ 42) (ho : (#[188, 261, 286, 311, 348, 416, 453, 490, 527, 564, 626, 663, 689, 726, 739, 776, 789, 826, 863, 900, 925, 998, 1023, 1076, 1125, 1150, 1163, 1200, 1237, 1274, 1339, 1364, 1389, 1402, 1439, 1476, 1525, 1586, 1623, 1660, 1673, 1686, 1699] : Array Int)[i.toNat]? = some off) (ht : (40 : Int) + off = (tgt : Int)) (kk : LW Λ n k [] hx hm f tgt st) : LW Λ n k [] hx hm f 40 (.int v :: st) :=
  fun H locs ls a b c d hl => lv_tableIn F.1 F.2.1 dL_law_40 (by rw [e]; omega) (by rw [e]; omega) (by rw [e, Int.sub_zero]; exact ho) ht (kk H locs ls a b c d hl)
theorem LW.tout {v : Int32} (F : LF Λ) (h : v.toInt < 0 ∨ 42 < v.toInt) (kk : LW Λ n k [] hx hm f 1764 st) : LW Λ n k [] hx hm f 40 (.int v :: st) :=
  fun H locs ls a b c d hl => lv_tableOut F.1 F.2.1 dL_law_40 h (tgt := 1764) (by decide) (kk H locs ls a b c d hl)
theorem LW.fin (F : LF Λ) (hk : k ≤ 600) : LW Λ n k [] hx hm f 1770 [] := by
  intro H locs ls a b c d hl
  refine lv_iconst (v := 1) F.1 F.2.1 dL_law_1770 (by decide) ?_
  refine va_forget (fun q hq => d.2.2 q hq) ?_
  refine W.widen (k := 601024) (n := 7293034) (by omega) (by omega) ?_
  exact lw_ret F.1 F.2.1 F.2.2.1 F.2.2.2.2.2.2.2.2.1 dL_law_1771
theorem LW.bot (F : LF Λ) (hn : n + 6 ≤ Λ.L) (kk : LW Λ (n + 6) k [] hx hm f 23 []) : LW Λ n k [] hx hm f 1764 [] := by
  intro H locs ls a b c d hl
  have e : z (n : Int) + Int32.ofInt 6 = z ((n + 6 : Nat) : Int) := (z_add _ 6).trans (congrArg z (Int.natCast_add n 6).symm)
  refine lv_iinc (k := 4) (v := z ((n + 6 : Nat) : Int)) (lv' := [(4, .int (z ((n + 6 : Nat) : Int))), (0, .ref Λ.b), (1, .ref Λ.B), (2, .ref (Λ.B + 139)), (3, .ref (Λ.B + 211))]) F.1 F.2.1 dL_law_1764 hl rfl e (by decide) rfl (fun ls1 hl1 => ?_)
  refine lv_goto F.1 F.2.1 dL_law_1767 (tgt := 23) (by decide) ?_
  exact kk H locs ls1 a b c d (lv_sub hl1 [1, 2, 3, 4, 0] rfl)
/-- the loop's head -/
theorem LW.head (F : LF Λ) (hk : k ≤ 600) (hnL : n ≤ 3072) (kk : n + 6 ≤ Λ.L → LW Λ n k [] hx hm f 40 [.int (Λ.xs n &&& 63)]) : LW Λ n k [] hx hm f 23 [] := by
  intro H locs ls a b c d hl
  have hX := F.2.2.2.2.2.2.1
  have hbl := F.2.2.2.2.2.2.2.1
  have hL : Λ.L ≤ 3072 := F.2.2.2.2.2.2.2.2.2.2.1
  have eL : Int32.ofNat Λ.L = z (Λ.L : Int) := z_of_toInt (toInt_of rfl (Nat.lt_of_le_of_lt hL (by decide)))
  refine lv_iload F.1 F.2.1 dL_law_23 (lv_at hl 4 rfl) ?_
  refine lv_aload_n F.1 F.2.1 dL_law_25 rfl (lv_at hl 0 rfl) ?_
  refine va_slen F.1 F.2.1 hX hbl (Nat.not_le.mpr hbl) d dL_law_26 ?_
  refine lv_bipush (v := z 6) F.1 F.2.1 dL_law_27 (by decide) ?_
  refine lv_isub F.1 F.2.1 dL_law_29 ?_
  rw [eL, z_sub]
  refine lv_icmp_gt F.1 F.2.1 dL_law_30 (tgt := 1770) (by decide) (fun _ => LW.fin F hk H locs ls a b c d hl) (fun q => ?_)
  have hn : n + 6 ≤ Λ.L := by
    rw [Int32.lt_iff_toInt_lt, z_ti (by omega) (by omega), z_ti (by omega) (by omega)] at q
    omega
  have e2 : (z (n : Int)).toNatClampNeg = n := by
    have := z_iN (a := (n : Int)) (by omega) (by omega)
    rw [Int.toNat_natCast] at this
    exact this
  refine lv_aload_n F.1 F.2.1 dL_law_33 rfl (lv_at hl 0 rfl) ?_
  refine lv_iload F.1 F.2.1 dL_law_34 (lv_at hl 4 rfl) ?_
  refine va_sld F.1 F.2.1 hX hbl (Nat.not_le.mpr hbl) d ?_ dL_law_36 ?_
  · intro h
    rcases h with h | h
    · rw [Int32.lt_iff_toInt_lt, z_ti (by omega) (by omega)] at h
      have : (0 : Int32).toInt = 0 := rfl
      omega
    · rw [e2] at h
      omega
  rw [e2]
  refine lv_bipush (v := 63) F.1 F.2.1 dL_law_37 (by decide) ?_
  refine lv_iand F.1 F.2.1 dL_law_39 ?_
  exact kk hn H locs ls a b c d hl
theorem law_case (F : LF Λ) (hn : n + 6 ≤ Λ.L) (hk : k ≤ 599) (V : IV hx hm) (bot : ∀ (gx gm : PH) (f1 : Nat → Int64), IV gx gm → LW Λ n (k + 1) [] gx gm f1 1764 []) (v : Int32) : LW Λ n k [] hx hm f 40 [.int v] := by
  by_cases hv : 0 ≤ v.toInt ∧ v.toInt ≤ 42
  · rcases (show v.toInt = 0 ∨ v.toInt = 1 ∨ v.toInt = 2 ∨ v.toInt = 3 ∨ v.toInt = 4 ∨ v.toInt = 5 ∨ v.toInt = 6 ∨ v.toInt = 7 ∨ v.toInt = 8 ∨ v.toInt = 9 ∨ v.toInt = 10 ∨ v.toInt = 11 ∨ v.toInt = 12 ∨ v.toInt = 13 ∨ v.toInt = 14 ∨ v.toInt = 15 ∨ v.toInt = 16 ∨ v.toInt = 17 ∨ v.toInt = 18 ∨ v.toInt = 19 ∨ v.toInt = 20 ∨ v.toInt = 21 ∨ v.toInt = 22 ∨ v.toInt = 23 ∨ v.toInt = 24 ∨ v.toInt = 25 ∨ v.toInt = 26 ∨ v.toInt = 27 ∨ v.toInt = 28 ∨ v.toInt = 29 ∨ v.toInt = 30 ∨ v.toInt = 31 ∨ v.toInt = 32 ∨ v.toInt = 33 ∨ v.toInt = 34 ∨ v.toInt = 35 ∨ v.toInt = 36 ∨ v.toInt = 37 ∨ v.toInt = 38 ∨ v.toInt = 39 ∨ v.toInt = 40 ∨ v.toInt = 41 ∨ v.toInt = 42 by omega) with h9 | h9 | h9 | h9 | h9 | h9 | h9 | h9 | h9 | h9 | h9 | h9 | h9 | h9 | h9 | h9 | h9 | h9 | h9 | h9 | h9 | h9 | h9 | h9 | h9 | h9 | h9 | h9 | h9 | h9 | h9 | h9 | h9 | h9 | h9 | h9 | h9 | h9 | h9 | h9 | h9 | h9 | h9
    · exact LW.tin F h9 (by decide) (by decide) rfl (tgt := 228) (by decide) (lc_feed F hn hk V bot)
    · exact LW.tin F h9 (by decide) (by decide) rfl (tgt := 301) (by decide) (lc_text F hn hk V bot)
    · exact LW.tin F h9 (by decide) (by decide) rfl (tgt := 326) (by decide) (lc_fault F hn hk V bot)
    · exact LW.tin F h9 (by decide) (by decide) rfl (tgt := 351) (by decide) (lc_named F hn hk V bot)
    · exact LW.tin F h9 (by decide) (by decide) rfl (tgt := 388) (by decide) (lc_owner F hn hk V bot)
    · exact LW.tin F h9 (by decide) (by decide) rfl (tgt := 456) (by decide) (lc_noise F hn hk V bot)
    · exact LW.tin F h9 (by decide) (by decide) rfl (tgt := 493) (by decide) (lc_claim F hn hk V bot)
    · exact LW.tin F h9 (by decide) (by decide) rfl (tgt := 530) (by decide) (lc_link F hn hk V bot)
    · exact LW.tin F h9 (by decide) (by decide) rfl (tgt := 567) (by decide) (lc_far F hn hk V bot)
    · exact LW.tin F h9 (by decide) (by decide) rfl (tgt := 604) (by decide) (lc_law F hn hk V bot)
    · exact LW.tin F h9 (by decide) (by decide) rfl (tgt := 666) (by decide) (lc_heard F hn hk V bot)
    · exact LW.tin F h9 (by decide) (by decide) rfl (tgt := 703) (by decide) (lc_hush F hn hk V bot)
    · exact LW.tin F h9 (by decide) (by decide) rfl (tgt := 729) (by decide) (lc_whose F hn hk V bot)
    · exact LW.tin F h9 (by decide) (by decide) rfl (tgt := 766) (by decide) (lc_spans F hn hk V bot)
    · exact LW.tin F h9 (by decide) (by decide) rfl (tgt := 779) (by decide) (lc_span F hn hk V bot)
    · exact LW.tin F h9 (by decide) (by decide) rfl (tgt := 816) (by decide) (lc_pieces F hn hk V bot)
    · exact LW.tin F h9 (by decide) (by decide) rfl (tgt := 829) (by decide) (lc_piece F hn hk V bot)
    · exact LW.tin F h9 (by decide) (by decide) rfl (tgt := 866) (by decide) (lc_share F hn hk V bot)
    · exact LW.tin F h9 (by decide) (by decide) rfl (tgt := 903) (by decide) (lc_part F hn hk V bot)
    · exact LW.tin F h9 (by decide) (by decide) rfl (tgt := 940) (by decide) (lc_leaves F hn hk V bot)
    · exact LW.tin F h9 (by decide) (by decide) rfl (tgt := 965) (by decide) (lc_make F hn hk V bot)
    · exact LW.tin F h9 (by decide) (by decide) rfl (tgt := 1038) (by decide) (lc_stop F hn hk V bot)
    · exact LW.tin F h9 (by decide) (by decide) rfl (tgt := 1063) (by decide) (lc_wall F hn hk V bot)
    · exact LW.tin F h9 (by decide) (by decide) rfl (tgt := 1116) (by decide) (lc_sell F hn hk V bot)
    · exact LW.tin F h9 (by decide) (by decide) rfl (tgt := 1165) (by decide) (lc_go F hn hk V bot)
    · exact LW.tin F h9 (by decide) (by decide) rfl (tgt := 1190) (by decide) (lc_plan F hn hk V bot)
    · exact LW.tin F h9 (by decide) (by decide) rfl (tgt := 1203) (by decide) (lc_planned F hn hk V bot)
    · exact LW.tin F h9 (by decide) (by decide) rfl (tgt := 1240) (by decide) (lc_walls F hn hk V bot)
    · exact LW.tin F h9 (by decide) (by decide) rfl (tgt := 1277) (by decide) (lc_bark F hn hk V bot)
    · exact LW.tin F h9 (by decide) (by decide) rfl (tgt := 1314) (by decide) (lc_note F hn hk V bot)
    · exact LW.tin F h9 (by decide) (by decide) rfl (tgt := 1379) (by decide) (lc_strike F hn hk V bot)
    · exact LW.tin F h9 (by decide) (by decide) rfl (tgt := 1404) (by decide) (lc_known F hn hk V bot)
    · exact LW.tin F h9 (by decide) (by decide) rfl (tgt := 1429) (by decide) (lc_thieves F hn hk V bot)
    · exact LW.tin F h9 (by decide) (by decide) rfl (tgt := 1442) (by decide) (lc_thief F hn hk V bot)
    · exact LW.tin F h9 (by decide) (by decide) rfl (tgt := 1479) (by decide) (lc_left F hn hk V bot)
    · exact LW.tin F h9 (by decide) (by decide) rfl (tgt := 1516) (by decide) (lc_rests F hn hk V bot)
    · exact LW.tin F h9 (by decide) (by decide) rfl (tgt := 1565) (by decide) (lc_rest F hn hk V bot)
    · exact LW.tin F h9 (by decide) (by decide) rfl (tgt := 1626) (by decide) (lc_year F hn hk V bot)
    · exact LW.tin F h9 (by decide) (by decide) rfl (tgt := 1663) (by decide) (lc_tried F hn hk V bot)
    · exact LW.tin F h9 (by decide) (by decide) rfl (tgt := 1700) (by decide) (lc_undo F hn hk V bot)
    · exact LW.tin F h9 (by decide) (by decide) rfl (tgt := 1713) (by decide) (lc_keep F hn hk V bot)
    · exact LW.tin F h9 (by decide) (by decide) rfl (tgt := 1726) (by decide) (lc_back F hn hk V bot)
    · exact LW.tin F h9 (by decide) (by decide) rfl (tgt := 1739) (by decide) (lc_count F hn hk V bot)
  · exact LW.tout F (by omega) (LW.wid (Nat.le_succ k) (bot _ _ _ V))
theorem law_loop (F : LF Λ) : ∀ (m k : Nat) (hx hm : PH) (f : Nat → Int64), Λ.L ≤ 6 * k + m → 6 * k ≤ 3072 → IV hx hm → LW Λ (6 * k) k [] hx hm f 23 [] := by
  intro m
  induction m with
  | zero =>
    intro k hx hm f hm0 hk V
    exact LW.head F (by omega) hk (fun hn => absurd hn (by omega))
  | succ m ih =>
    intro k hx hm f hm0 hk V
    have hL : Λ.L ≤ 3072 := F.2.2.2.2.2.2.2.2.2.2.1
    refine LW.head F (by omega) hk (fun hn => ?_)
    refine law_case F hn (by omega) V (fun gx gm f1 V1 => ?_) _
    refine LW.bot F hn ?_
    have key := ih (k + 1) gx gm f1 (by omega) (by omega) V1
    rw [Nat.mul_succ] at key
    exact key
end LOOP
theorem pw_of {G : Gt} {h : PH} {B o : Nat} {cs : List va_E} {H : Heap} (hc : ∀ i, i < G.n → cs[o + i]? = some (ce G h i)) (had : ∀ i, i < G.n → G.ad i = B + (o + i)) (hP : va_P G.D classes (wsB B cs) H) : va_P G.D classes (pw G h) H := by
  intro k q hk
  have hl : k < G.n := by
    have := (List.getElem?_eq_some_iff.mp hk).1
    simpa [pw] using this
  rw [pw_at hl] at hk
  cases hk
  have := hP (o + k) _ (wsB_some (hc k hl))
  rw [← had k hl] at this
  exact this
theorem rg72 : List.range 72 = 0 :: List.range' 1 71 := by decide
theorem m0_cells (D : va_G) (ca : Nat → ClassId) (ac : Nat → Nat) (B : Nat) : bl_10 D ca ac (B + 139) = (List.range 72).map (ce (GM D ca (adm B ac)) hM0) := by
  rw [bl_10_cons, rg72, List.map_cons]
  rfl
theorem x0_get (D : va_G) (ca : Nat → ClassId) (ac : Nat → Nat) (B i : Nat) (h : i < 139) : (bl_9 ca B 0 (fun j => z (tg24 j)))[i]? = some (ce (GX D ca (adx B ac)) hX0 i) := by
  have e : bl_9 ca B 0 (fun j => z (tg24 j)) = (List.range 139).map (ce (GX D ca (adx B ac)) hX0) := x0_cells D ca ac B 0
  rw [e, List.getElem?_map, List.getElem?_range h]
  rfl
theorem x0_len (D : va_G) (ca : Nat → ClassId) (ac : Nat → Nat) (B : Nat) : (bl_9 ca B 0 (fun j => z (tg24 j))).length = 139 := by
  have e : bl_9 ca B 0 (fun j => z (tg24 j)) = (List.range 139).map (ce (GX D ca (adx B ac)) hX0) := x0_cells D ca ac B 0
  rw [e, List.length_map, List.length_range]
theorem m0_get (D : va_G) (ca : Nat → ClassId) (ac : Nat → Nat) (B i : Nat) (h : i < 72) : (bl_10 D ca ac (B + 139))[i]? = some (ce (GM D ca (adm B ac)) hM0 i) := by
  rw [m0_cells, List.getElem?_map, List.getElem?_range h]
  rfl
theorem m0_len (D : va_G) (ca : Nat → ClassId) (ac : Nat → Nat) (B : Nat) : (bl_10 D ca ac (B + 139)).length = 72 := by
  rw [m0_cells, List.length_map, List.length_range]
theorem ml_L_17 : Cond.methodLink RL 17 yX9_init ∈ LT := tb_in1 (i := 28) (by decide +kernel) (by decide +kernel)
theorem ml_L_20 : Cond.methodLink RL 20 yX10_init ∈ LT := tb_in6 (i := 183) (by decide +kernel) (by decide +kernel)
theorem iv_0 : IV hX0 hM0 := ⟨8, s0, x0_ix, x0_px, m0_im⟩
set_option maxHeartbeats 4000000 in
theorem whole_start {p : Program} {e : Env} {s : State} {m : MethodId} {below : List Frame} {meth : Method} {c : Code} (l : Launch) (hflags : l.flags = flags0) {b L : Nat} {xs : Nat → Int32} (hL : L ≤ 3072) (C0 : lw_At p s m meth c b L xs) : W p l e room_1 s m #[Value.ref b] below meth c s.heap [] 0 0 (lw_Z below #[Value.ref b] s) (entryFrame m ([Value.ref b] : List Value).toArray 7) := by
  obtain ⟨hx, hb, hr, hml, hown, hts, hX, hbl, hlocks, hgv⟩ := id C0
  have hown : s.vm.findClass RL = some m.cls := hown
  have htr : l.stackTraces = false := by
    unfold Launch.stackTraces
    rw [hflags]
    decide
  obtain ⟨ac, hXS⟩ := start_xs hts hgv
  obtain ⟨o1, o2, hOX⟩ := start_ox hts hgv
  obtain ⟨D, ca, hK⟩ := start_K hts
  have hNT := start_nt hts
  have hLT : ∀ w ∈ LT, w.before #[Value.ref b] s = true := fun w h => hts w (LT_tbl h)
  have hKC : KC D ca ac s.heap.size s := ⟨hK, hNT, hXS⟩
  have F : LF (p, l, e, s, m, b, below, meth, c, L, xs, D, ca, ac, o1, o2) := ⟨hx, hb, hr, hml, hown, hts, hX, hbl, hlocks, htr, hL, hK, hNT, hXS, hOX⟩
  have hS : va_S (fun q : Nat => s.heap.size ≤ q) s.heap s.heap [] := va_S.rf
  have hP : va_P D classes (wsB s.heap.size []) s.heap := fun k q h => by simp [wsB] at h
  have hl := lv_entry ([.ref b]) (n := 7) (Nat.le_of_ble_eq_true rfl)
  rw [lg_entry_eq]
  generalize (lg_sl ([.ref b]) ++ List.replicate (7 - (lg_sl ([.ref b])).length) Slot.unset).toArray = ls at hl ⊢
  have hl : lv_has ls 7 [(0, .ref b)] := hl
  refine cw_new (cs := []) hx hb hLT hown hKC cf_9 cl_L_8 in_9 ni_9 (fs := [.null, .int 0, .null, .null, .null, .null, .int 0, .null, .null, .int 0, .null, .null, .int 0, .null, .null, .null, .null, .null]) (by decide +kernel) hP rfl hS (Nat.le_of_ble_eq_true rfl) (Nat.le_of_ble_eq_true rfl) dL_law_0 (fun H hP hz hS => ?_)
  refine lv_dup hx hb dL_law_3 rfl ?_
  refine cw_call (as := []) (b := s.heap.size + 0) (cs' := [] ++ bl_9 ca s.heap.size 0 (fun j => z (tg24 j))) hx hb hml hLT hown hKC mi_X9_init ml_L_17 dL_law_4 rfl hl.1 (Nat.le_of_ble_eq_true rfl) (Nat.le_of_ble_eq_true rfl) (by decide) (Nat.le_of_ble_eq_true rfl) (Nat.le_of_ble_eq_true rfl) (Nat.le_of_ble_eq_true rfl) (k_X9_init (cs0 := []) (o := 0) rfl tg_ok) hP hz hS (fun H locs hP hz hS => ?_)
  obtain ⟨c9, ec9⟩ : ∃ x : List va_E, x = bl_9 ca s.heap.size 0 (fun j => z (tg24 j)) := ⟨_, rfl⟩
  have l9 : c9.length = 139 := by rw [ec9]; exact x0_len D ca ac _
  rw [List.nil_append, ← ec9] at hP hz
  refine lv_astore_n (lv' := [(1, .ref s.heap.size), (0, .ref b)]) hx hb dL_law_7 rfl hl (by decide) rfl (fun ls hl => ?_)
  refine cw_new (cs := c9) hx hb hLT hown hKC cf_10 cl_L_18 in_10 ni_10 (fs := d10) (by decide +kernel) hP hz hS (Nat.le_of_ble_eq_true rfl) (Nat.le_of_ble_eq_true rfl) dL_law_8 (fun H hP hz hS => ?_)
  rw [l9]
  refine lv_dup hx hb dL_law_11 rfl ?_
  refine cw_call (as := []) (b := s.heap.size + 139) (cs' := c9 ++ bl_10 D ca ac (s.heap.size + 139)) hx hb hml hLT hown hKC mi_X10_init ml_L_20 dL_law_12 rfl hl.1 (Nat.le_of_ble_eq_true rfl) (Nat.le_of_ble_eq_true rfl) (by decide) (Nat.le_of_ble_eq_true rfl) (Nat.le_of_ble_eq_true rfl) (Nat.le_of_ble_eq_true rfl) (k_X10_init (cs0 := c9) (o := 139) l9 bg) hP hz hS (fun H locs hP hz hS => ?_)
  obtain ⟨c10, ec10⟩ : ∃ x : List va_E, x = bl_10 D ca ac (s.heap.size + 139) := ⟨_, rfl⟩
  have l10 : c10.length = 72 := by rw [ec10]; exact m0_len D ca ac _
  rw [← ec10] at hP hz
  have l11 : (c9 ++ c10).length = 211 := by rw [List.length_append, l9, l10]
  refine lv_astore_n (lv' := [(2, .ref (s.heap.size + 139)), (1, .ref s.heap.size), (0, .ref b)]) hx hb dL_law_15 rfl hl (by decide) rfl (fun ls hl => ?_)
  refine lv_iconst (v := 1) hx hb dL_law_16 (by decide) ?_
  refine cw_newa (t := 1) (N := 1) (atype := .long) (cs := c9 ++ c10) hx hb hLT hKC rfl (by decide) ac_1 (a0 := (1, .inr (.inl (fun _ => 0)))) (fun _ => rfl) (by decide) (by decide) (Nat.le_of_ble_eq_true rfl) hP hz hS (Nat.le_of_ble_eq_true rfl) (Nat.le_of_ble_eq_true rfl) dL_law_17 (fun H hP hz hS => ?_)
  rw [l11]
  refine lv_astore_n (lv' := [(3, .ref (s.heap.size + 211)), (2, .ref (s.heap.size + 139)), (1, .ref s.heap.size), (0, .ref b)]) hx hb dL_law_19 rfl hl (by decide) rfl (fun ls hl => ?_)
  refine lv_iconst (v := z ((6 * 0 : Nat) : Int)) hx hb dL_law_20 (by decide) ?_
  refine lv_istore (lv' := [(4, .int (z ((6 * 0 : Nat) : Int))), (3, .ref (s.heap.size + 211)), (2, .ref (s.heap.size + 139)), (1, .ref s.heap.size), (0, .ref b)]) hx hb dL_law_21 hl (by decide) rfl (fun ls hl => ?_)
  refine W.widen (k := 1000 + 0) (n := 20000 + 6 * 0) (Nat.le_of_ble_eq_true rfl) (Nat.le_of_ble_eq_true rfl) ?_
  refine law_loop F L 0 hX0 hM0 (fun _ => 0) (by show L ≤ 6 * 0 + L; omega) (by decide) iv_0 H locs ls ?_ ?_ ?_ hS (lv_sub hl [4, 3, 2, 1, 0] rfl)
  · refine pw_of (B := s.heap.size) (o := 0) (cs := c9 ++ c10 ++ [.inl (ca 1, (1, .inr (.inl (fun _ => 0))))]) (fun i hi => ?_) (fun i hi => ?_) hP
    · have hi : i < 139 := hi
      rw [Nat.zero_add, List.getElem?_append_left (by rw [l11]; omega), List.getElem?_append_left (by rw [l9]; omega), ec9]
      exact x0_get D ca ac s.heap.size i hi
    · have hi : i < 139 := hi
      show adx s.heap.size ac i = _
      rw [adx_in hi, Nat.zero_add]
  · refine pw_of (B := s.heap.size) (o := 139) (cs := c9 ++ c10 ++ [.inl (ca 1, (1, .inr (.inl (fun _ => 0))))]) (fun i hi => ?_) (fun i hi => ?_) hP
    · have hi : i < 72 := hi
      rw [List.getElem?_append_left (by rw [l11]; omega), List.getElem?_append_right (by rw [l9]; omega), l9, Nat.add_sub_cancel_left, ec10]
      exact m0_get D ca ac s.heap.size i hi
    · have hi : i < 72 := hi
      show adm s.heap.size ac i = _
      rw [adm_in hi, Nat.add_assoc]
  · intro k q hk
    have hz9 : k < 1 := (List.getElem?_eq_some_iff.mp hk).1
    rw [show k = 0 by omega] at hk
    cases hk
    have h9 := hP 211 _ (wsB_some (e := .inl (ca 1, (1, .inr (.inl (fun _ => 0))))) (by rw [List.getElem?_append_right (by rw [l11]; exact Nat.le_refl _), l11]; rfl))
    exact h9
