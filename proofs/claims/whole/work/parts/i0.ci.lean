/-! ===== THE CALLS, by the class and by the reference, over what holds between calls ===== -/
def IV (hx hm : PH) : Prop := ∃ (w : Nat) (s : St), IX hx w s ∧ PX hx s.a ∧ IM hm s
def XQ (s : St) (g : PH) : Prop := ∃ w : Nat, IX g w s ∧ PX g s.a
theorem XQ.iv {s : St} {g gm : PH} (a : XQ s g) (b : IM gm s) : IV g gm := by
  obtain ⟨w, h1, h2⟩ := a
  exact ⟨w, s, h1, h2, b⟩
theorem zx (x : Int32) : ∃ a : Int, x = z a ∧ i32 a := ⟨x.toInt, (z_toInt x).symm, by have h1 := Int32.le_toInt x; have h2 := Int32.toInt_lt x; unfold i32; omega⟩
def bz (x : Int32) : Int32 := if x = 0 then 0 else 1
theorem zb (x : Int32) : ∃ a : Int, bz x = z a ∧ (a = 0 ∨ a = 1) := by
  unfold bz
  by_cases c : x = 0
  · rw [if_pos c]; exact ⟨0, rfl, Or.inl rfl⟩
  · rw [if_neg c]; exact ⟨1, rfl, Or.inr rfl⟩
theorem i01 {a : Int} (h : a = 0 ∨ a = 1) : i32 a := by unfold i32; omega
theorem ta_feed {s : St} {x1 x2 x3 x4 x5 : Int} : (t_feed s x1 x2 x3 x4 x5).a = s.a := by unfold t_feed; split <;> rfl
theorem ta_note {s : St} {p m b : Int} : (t_note s p m b).a = s.a := by unfold t_note; split <;> rfl
theorem ta_strike {s : St} {n : Int} : (t_strike s n).a = s.a := by unfold t_strike; split <;> rfl
theorem ta_known {s : St} {n : Int} : (tt_known s n).a = s.a := by unfold tt_known; split <;> rfl
section CI
variable {D : va_G} {ca : Nat → ClassId} {ax am : Nat → Nat} {l : Launch} {hx hm : PH}
theorem c_feed (V : IV hx hm) (p1 p2 p3 p4 p5 : Int32) : ∃ (a : Int32) (s1 : St), Sp (GX D ca ax) (XS (GX D ca ax)) l 40 yX9_feed cX9_feed 6 (some .int) [.ref 0, .int p1, .int p2, .int p3, .int p4, .int p5] hx (qI (fun r g => r = a ∧ XQ s1 g)) ∧ Sp (GM D ca am) (XS (GM D ca am)) l 600 yX10_feed cX10_feed 8 (some .int) [.ref 0, .int p1, .int p2, .int p3, .int p4, .int p5] hm (qI (fun r g => r = a ∧ IM g s1)) := by
  obtain ⟨w, s, I, P, J⟩ := V
  obtain ⟨a1, rfl, h1⟩ := zx p1
  obtain ⟨a2, rfl, h2⟩ := zx p2
  obtain ⟨a3, rfl, h3⟩ := zx p3
  obtain ⟨a4, rfl, h4⟩ := zx p4
  obtain ⟨a5, rfl, h5⟩ := zx p5
  exact ⟨(z (a_feed s)), (t_feed s a1 a2 a3 a4 a5), Sp.mono (Nat.le_of_ble_eq_true rfl) (s_X9_feed (xs_feed I (fun g I1 K1 => ⟨rfl, w, I1, by rw [ta_feed]; exact P.kp K1⟩))), Sp.mono (Nat.le_of_ble_eq_true rfl) (s_X10_feed (ms_feed J (fun g J1 => ⟨rfl, J1⟩)))⟩
theorem c_text (V : IV hx hm) (p1 : Int32) : ∃ (a : Int32) (s1 : St), Sp (GX D ca ax) (XS (GX D ca ax)) l 40 yX9_text cX9_text 3 (some .int) [.ref 0, .int p1] hx (qI (fun r g => r = a ∧ XQ s1 g)) ∧ Sp (GM D ca am) (XS (GM D ca am)) l 600 yX10_text cX10_text 3 (some .int) [.ref 0, .int p1] hm (qI (fun r g => r = a ∧ IM g s1)) := by
  obtain ⟨w, s, I, P, J⟩ := V
  obtain ⟨a1, rfl, h1⟩ := zx p1
  exact ⟨(z (a_text s a1)), (t_text s a1), Sp.mono (Nat.le_of_ble_eq_true rfl) (s_X9_text (xs_text I P h1 (fun g w1 I1 P1 => ⟨rfl, w1, I1, P1⟩))), Sp.mono (Nat.le_of_ble_eq_true rfl) (s_X10_text (ms_text J h1 (fun g J1 => ⟨rfl, J1⟩)))⟩
theorem c_fault (V : IV hx hm) (p1 : Int32) : ∃ (a : Int32) (s1 : St), Sp (GX D ca ax) (XS (GX D ca ax)) l 40 yX9_fault cX9_fault 2 (some .int) [.ref 0, .int p1] hx (qI (fun r g => r = a ∧ XQ s1 g)) ∧ Sp (GM D ca am) (XS (GM D ca am)) l 600 yX10_fault cX10_fault 2 (some .int) [.ref 0, .int p1] hm (qI (fun r g => r = a ∧ IM g s1)) := by
  obtain ⟨w, s, I, P, J⟩ := V
  obtain ⟨a1, rfl, h1⟩ := zx p1
  exact ⟨(z (a_fault s a1)), s, Sp.mono (Nat.le_of_ble_eq_true rfl) (s_X9_fault (xs_fault I h1 (fun g I1 K1 => ⟨rfl, w, I1, P.kp K1⟩))), Sp.mono (Nat.le_of_ble_eq_true rfl) (s_X10_fault (ms_fault J h1 (fun g J1 => ⟨rfl, J1⟩)))⟩
theorem c_named (V : IV hx hm) (p1 p2 : Int32) : ∃ (a : Int32) (s1 : St), Sp (GX D ca ax) (XS (GX D ca ax)) l 40 yX9_named cX9_named 3 (some .int) [.ref 0, .int p1, .int p2] hx (qI (fun r g => r = a ∧ XQ s1 g)) ∧ Sp (GM D ca am) (XS (GM D ca am)) l 600 yX10_named cX10_named 3 (some .int) [.ref 0, .int p1, .int p2] hm (qI (fun r g => r = a ∧ IM g s1)) := by
  obtain ⟨w, s, I, P, J⟩ := V
  obtain ⟨a1, rfl, h1⟩ := zx p1
  obtain ⟨a2, rfl, h2⟩ := zx p2
  exact ⟨(z (a_named s.a a1 a2)), s, Sp.mono (Nat.le_of_ble_eq_true rfl) (s_X9_named (xs_named I h1 h2 (fun g I1 K1 => ⟨rfl, w, I1, P.kp K1⟩))), Sp.mono (Nat.le_of_ble_eq_true rfl) (s_X10_named (ms_named J h1 h2 (fun g J1 => ⟨rfl, J1⟩)))⟩
theorem c_noise (V : IV hx hm) (p1 p2 : Int32) : ∃ (a : Int32) (s1 : St), Sp (GX D ca ax) (XS (GX D ca ax)) l 40 yX9_noise cX9_noise 3 (some .int) [.ref 0, .int p1, .int p2] hx (qI (fun r g => r = a ∧ XQ s1 g)) ∧ Sp (GM D ca am) (XS (GM D ca am)) l 600 yX10_noise cX10_noise 3 (some .int) [.ref 0, .int p1, .int p2] hm (qI (fun r g => r = a ∧ IM g s1)) := by
  obtain ⟨w, s, I, P, J⟩ := V
  obtain ⟨a1, rfl, h1⟩ := zx p1
  obtain ⟨a2, rfl, h2⟩ := zx p2
  exact ⟨(z (a_cell s.a 3 a1 a2)), s, Sp.mono (Nat.le_of_ble_eq_true rfl) (s_X9_noise (xs_noise I h1 h2 (fun g I1 K1 => ⟨rfl, w, I1, P.kp K1⟩))), Sp.mono (Nat.le_of_ble_eq_true rfl) (s_X10_noise (ms_noise J h1 h2 (fun g J1 => ⟨rfl, J1⟩)))⟩
theorem c_claim (V : IV hx hm) (p1 p2 : Int32) : ∃ (a : Int32) (s1 : St), Sp (GX D ca ax) (XS (GX D ca ax)) l 40 yX9_claim cX9_claim 3 (some .int) [.ref 0, .int p1, .int p2] hx (qI (fun r g => r = a ∧ XQ s1 g)) ∧ Sp (GM D ca am) (XS (GM D ca am)) l 600 yX10_claim cX10_claim 3 (some .int) [.ref 0, .int p1, .int p2] hm (qI (fun r g => r = a ∧ IM g s1)) := by
  obtain ⟨w, s, I, P, J⟩ := V
  obtain ⟨a1, rfl, h1⟩ := zx p1
  obtain ⟨a2, rfl, h2⟩ := zx p2
  exact ⟨(z (a_cell s.a 4 a1 a2)), s, Sp.mono (Nat.le_of_ble_eq_true rfl) (s_X9_claim (xs_claim I h1 h2 (fun g I1 K1 => ⟨rfl, w, I1, P.kp K1⟩))), Sp.mono (Nat.le_of_ble_eq_true rfl) (s_X10_claim (ms_claim J h1 h2 (fun g J1 => ⟨rfl, J1⟩)))⟩
theorem c_link (V : IV hx hm) (p1 p2 : Int32) : ∃ (a : Int32) (s1 : St), Sp (GX D ca ax) (XS (GX D ca ax)) l 40 yX9_link cX9_link 3 (some .int) [.ref 0, .int p1, .int p2] hx (qI (fun r g => r = a ∧ XQ s1 g)) ∧ Sp (GM D ca am) (XS (GM D ca am)) l 600 yX10_link cX10_link 3 (some .int) [.ref 0, .int p1, .int p2] hm (qI (fun r g => r = a ∧ IM g s1)) := by
  obtain ⟨w, s, I, P, J⟩ := V
  obtain ⟨a1, rfl, h1⟩ := zx p1
  obtain ⟨a2, rfl, h2⟩ := zx p2
  exact ⟨(z (a_cell s.a 1 a1 a2)), s, Sp.mono (Nat.le_of_ble_eq_true rfl) (s_X9_link (xs_link I h1 h2 (fun g I1 K1 => ⟨rfl, w, I1, P.kp K1⟩))), Sp.mono (Nat.le_of_ble_eq_true rfl) (s_X10_link (ms_link J h1 h2 (fun g J1 => ⟨rfl, J1⟩)))⟩
theorem c_far (V : IV hx hm) (p1 p2 : Int32) : ∃ (a : Int32) (s1 : St), Sp (GX D ca ax) (XS (GX D ca ax)) l 40 yX9_far cX9_far 3 (some .int) [.ref 0, .int p1, .int p2] hx (qI (fun r g => r = a ∧ XQ s1 g)) ∧ Sp (GM D ca am) (XS (GM D ca am)) l 600 yX10_far cX10_far 4 (some .int) [.ref 0, .int p1, .int p2] hm (qI (fun r g => r = a ∧ IM g s1)) := by
  obtain ⟨w, s, I, P, J⟩ := V
  obtain ⟨a1, rfl, h1⟩ := zx p1
  obtain ⟨a2, rfl, h2⟩ := zx p2
  exact ⟨(z (a_far s.a a1 a2)), s, Sp.mono (Nat.le_of_ble_eq_true rfl) (s_X9_far (xs_far I h1 h2 (fun g I1 K1 => ⟨rfl, w, I1, P.kp K1⟩))), Sp.mono (Nat.le_of_ble_eq_true rfl) (s_X10_far (ms_far J h1 h2 (fun g J1 => ⟨rfl, J1⟩)))⟩
theorem c_law (V : IV hx hm) (p1 p2 p3 p4 : Int32) : ∃ (a : Int64) (s1 : St), Sp (GX D ca ax) (XS (GX D ca ax)) l 40 yX9_law cX9_law 5 (some .long) [.ref 0, .int p1, .int p2, .int p3, .int p4] hx (qJ (fun r g => r = a ∧ XQ s1 g)) ∧ Sp (GM D ca am) (XS (GM D ca am)) l 600 yX10_law cX10_law 5 (some .long) [.ref 0, .int p1, .int p2, .int p3, .int p4] hm (qJ (fun r g => r = a ∧ IM g s1)) := by
  obtain ⟨w, s, I, P, J⟩ := V
  obtain ⟨a1, rfl, h1⟩ := zx p1
  obtain ⟨a2, rfl, h2⟩ := zx p2
  obtain ⟨a3, rfl, h3⟩ := zx p3
  obtain ⟨a4, rfl, h4⟩ := zx p4
  exact ⟨(a_law s.a a1 a2 a3 a4), s, Sp.mono (Nat.le_of_ble_eq_true rfl) (s_X9_law (xs_law I h1 h2 h3 h4 (fun g I1 K1 => ⟨rfl, w, I1, P.kp K1⟩))), Sp.mono (Nat.le_of_ble_eq_true rfl) (s_X10_law (ms_law J h1 h2 h3 h4 (fun g J1 => ⟨rfl, J1⟩)))⟩
theorem c_heard (V : IV hx hm) (p1 p2 : Int32) : ∃ (a : Int32) (s1 : St), Sp (GX D ca ax) (XS (GX D ca ax)) l 40 yX9_heard cX9_heard 4 (some .int) [.ref 0, .int p1, .int p2] hx (qI (fun r g => r = a ∧ XQ s1 g)) ∧ Sp (GM D ca am) (XS (GM D ca am)) l 600 yX10_heard cX10_heard 4 (some .int) [.ref 0, .int p1, .int p2] hm (qI (fun r g => r = a ∧ IM g s1)) := by
  obtain ⟨w, s, I, P, J⟩ := V
  obtain ⟨a1, rfl, h1⟩ := zx p1
  obtain ⟨a2, rfl, h2⟩ := zx p2
  exact ⟨(z (a_heard s.a a1 a2)), s, Sp.mono (Nat.le_of_ble_eq_true rfl) (s_X9_heard (xs_heard I h1 h2 (fun g I1 K1 => ⟨rfl, w, I1, P.kp K1⟩))), Sp.mono (Nat.le_of_ble_eq_true rfl) (s_X10_heard (ms_heard J h1 h2 (fun g J1 => ⟨rfl, J1⟩)))⟩
theorem c_hush (V : IV hx hm) (p1 : Int32) : ∃ (a : Int64) (s1 : St), Sp (GX D ca ax) (XS (GX D ca ax)) l 40 yX9_hush cX9_hush 2 (some .long) [.ref 0, .int p1] hx (qJ (fun r g => r = a ∧ XQ s1 g)) ∧ Sp (GM D ca am) (XS (GM D ca am)) l 600 yX10_hush cX10_hush 5 (some .long) [.ref 0, .int p1] hm (qJ (fun r g => r = a ∧ IM g s1)) := by
  obtain ⟨w, s, I, P, J⟩ := V
  obtain ⟨a1, rfl, h1⟩ := zx p1
  exact ⟨(a_hush s.a a1), s, Sp.mono (Nat.le_of_ble_eq_true rfl) (s_X9_hush (xs_hush I h1 (fun g I1 K1 => ⟨rfl, w, I1, P.kp K1⟩))), Sp.mono (Nat.le_of_ble_eq_true rfl) (s_X10_hush (ms_hush J h1 (fun g J1 => ⟨rfl, J1⟩)))⟩
theorem c_whose (V : IV hx hm) (p1 p2 : Int32) : ∃ (a : Int32) (s1 : St), Sp (GX D ca ax) (XS (GX D ca ax)) l 40 yX9_whose cX9_whose 3 (some .int) [.ref 0, .int p1, .int p2] hx (qI (fun r g => r = a ∧ XQ s1 g)) ∧ Sp (GM D ca am) (XS (GM D ca am)) l 600 yX10_whose cX10_whose 3 (some .int) [.ref 0, .int p1, .int p2] hm (qI (fun r g => r = a ∧ IM g s1)) := by
  obtain ⟨w, s, I, P, J⟩ := V
  obtain ⟨a1, rfl, h1⟩ := zx p1
  obtain ⟨a2, rfl, h2⟩ := zx p2
  exact ⟨(z (a_whose s.a a1 a2)), s, Sp.mono (Nat.le_of_ble_eq_true rfl) (s_X9_whose (xs_whose I h1 h2 (fun g I1 K1 => ⟨rfl, w, I1, P.kp K1⟩))), Sp.mono (Nat.le_of_ble_eq_true rfl) (s_X10_whose (ms_whose J h1 h2 (fun g J1 => ⟨rfl, J1⟩)))⟩
theorem c_spans (V : IV hx hm) : ∃ (a : Int32) (s1 : St), Sp (GX D ca ax) (XS (GX D ca ax)) l 40 yX9_spans cX9_spans 1 (some .int) [.ref 0] hx (qI (fun r g => r = a ∧ XQ s1 g)) ∧ Sp (GM D ca am) (XS (GM D ca am)) l 600 yX10_spans cX10_spans 1 (some .int) [.ref 0] hm (qI (fun r g => r = a ∧ IM g s1)) := by
  obtain ⟨w, s, I, P, J⟩ := V
  exact ⟨(z (a_spans s.a)), s, Sp.mono (Nat.le_of_ble_eq_true rfl) (s_X9_spans (xs_spans I P (fun g I1 P1 => ⟨rfl, w, I1, P1⟩))), Sp.mono (Nat.le_of_ble_eq_true rfl) (s_X10_spans (ms_spans J (fun g J1 => ⟨rfl, J1⟩)))⟩
theorem c_span (V : IV hx hm) (p1 p2 : Int32) : ∃ (a : Int32) (s1 : St), Sp (GX D ca ax) (XS (GX D ca ax)) l 40 yX9_span cX9_span 4 (some .int) [.ref 0, .int p1, .int p2] hx (qI (fun r g => r = a ∧ XQ s1 g)) ∧ Sp (GM D ca am) (XS (GM D ca am)) l 600 yX10_span cX10_span 3 (some .int) [.ref 0, .int p1, .int p2] hm (qI (fun r g => r = a ∧ IM g s1)) := by
  obtain ⟨w, s, I, P, J⟩ := V
  obtain ⟨a1, rfl, h1⟩ := zx p1
  obtain ⟨a2, rfl, h2⟩ := zx p2
  exact ⟨(z (a_span s.a a1 a2)), s, Sp.mono (Nat.le_of_ble_eq_true rfl) (s_X9_span (xs_span h1 h2 I P (fun g I1 P1 => ⟨rfl, w, I1, P1⟩))), Sp.mono (Nat.le_of_ble_eq_true rfl) (s_X10_span (ms_span h1 h2 J (fun g J1 => ⟨rfl, J1⟩)))⟩
theorem c_pieces (V : IV hx hm) : ∃ (a : Int32) (s1 : St), Sp (GX D ca ax) (XS (GX D ca ax)) l 40 yX9_pieces cX9_pieces 1 (some .int) [.ref 0] hx (qI (fun r g => r = a ∧ XQ s1 g)) ∧ Sp (GM D ca am) (XS (GM D ca am)) l 600 yX10_pieces cX10_pieces 1 (some .int) [.ref 0] hm (qI (fun r g => r = a ∧ IM g s1)) := by
  obtain ⟨w, s, I, P, J⟩ := V
  exact ⟨(z (a_pieces s.a)), s, Sp.mono (Nat.le_of_ble_eq_true rfl) (s_X9_pieces (xs_pieces I P (fun g I1 P1 => ⟨rfl, w, I1, P1⟩))), Sp.mono (Nat.le_of_ble_eq_true rfl) (s_X10_pieces (ms_pieces J (fun g J1 => ⟨rfl, J1⟩)))⟩
theorem c_piece (V : IV hx hm) (p1 p2 : Int32) : ∃ (a : Int32) (s1 : St), Sp (GX D ca ax) (XS (GX D ca ax)) l 40 yX9_piece cX9_piece 4 (some .int) [.ref 0, .int p1, .int p2] hx (qI (fun r g => r = a ∧ XQ s1 g)) ∧ Sp (GM D ca am) (XS (GM D ca am)) l 600 yX10_piece cX10_piece 3 (some .int) [.ref 0, .int p1, .int p2] hm (qI (fun r g => r = a ∧ IM g s1)) := by
  obtain ⟨w, s, I, P, J⟩ := V
  obtain ⟨a1, rfl, h1⟩ := zx p1
  obtain ⟨a2, rfl, h2⟩ := zx p2
  exact ⟨(z (a_piece s.a a1 a2)), s, Sp.mono (Nat.le_of_ble_eq_true rfl) (s_X9_piece (xs_piece h1 h2 I P (fun g I1 P1 => ⟨rfl, w, I1, P1⟩))), Sp.mono (Nat.le_of_ble_eq_true rfl) (s_X10_piece (ms_piece h1 h2 J (fun g J1 => ⟨rfl, J1⟩)))⟩
theorem c_share (V : IV hx hm) (p1 p2 : Int32) : ∃ (a : Int32) (s1 : St), Sp (GX D ca ax) (XS (GX D ca ax)) l 40 yX9_share cX9_share 3 (some .int) [.ref 0, .int p1, .int p2] hx (qI (fun r g => r = a ∧ XQ s1 g)) ∧ Sp (GM D ca am) (XS (GM D ca am)) l 600 yX10_share cX10_share 3 (some .int) [.ref 0, .int p1, .int p2] hm (qI (fun r g => r = a ∧ IM g s1)) := by
  obtain ⟨w, s, I, P, J⟩ := V
  obtain ⟨a1, rfl, h1⟩ := zx p1
  obtain ⟨a2, rfl, h2⟩ := zx p2
  exact ⟨(z (a_share s.a a1 a2)), s, Sp.mono (Nat.le_of_ble_eq_true rfl) (s_X9_share (xs_share h1 h2 I P (fun g I1 P1 => ⟨rfl, w, I1, P1⟩))), Sp.mono (Nat.le_of_ble_eq_true rfl) (s_X10_share (ms_share h1 h2 J (fun g J1 => ⟨rfl, J1⟩)))⟩
theorem c_part (V : IV hx hm) (p1 p2 : Int32) : ∃ (a : Int32) (s1 : St), Sp (GX D ca ax) (XS (GX D ca ax)) l 40 yX9_part cX9_part 3 (some .int) [.ref 0, .int p1, .int p2] hx (qI (fun r g => r = a ∧ XQ s1 g)) ∧ Sp (GM D ca am) (XS (GM D ca am)) l 600 yX10_part cX10_part 7 (some .int) [.ref 0, .int p1, .int p2] hm (qI (fun r g => r = a ∧ IM g s1)) := by
  obtain ⟨w, s, I, P, J⟩ := V
  obtain ⟨a1, rfl, h1⟩ := zx p1
  obtain ⟨a2, rfl, h2⟩ := zx p2
  exact ⟨(z (a_part s.a a1 a2)), s, Sp.mono (Nat.le_of_ble_eq_true rfl) (s_X9_part (xs_part h1 h2 I P (fun g I1 P1 => ⟨rfl, w, I1, P1⟩))), Sp.mono (Nat.le_of_ble_eq_true rfl) (s_X10_part (ms_part h1 h2 J (fun g J1 => ⟨rfl, J1⟩)))⟩
theorem c_leaves (V : IV hx hm) (p1 : Int32) : ∃ (a : Int32) (s1 : St), Sp (GX D ca ax) (XS (GX D ca ax)) l 40 yX9_leaves cX9_leaves 2 (some .int) [.ref 0, .int p1] hx (qI (fun r g => r = a ∧ XQ s1 g)) ∧ Sp (GM D ca am) (XS (GM D ca am)) l 600 yX10_leaves cX10_leaves 10 (some .int) [.ref 0, .int p1] hm (qI (fun r g => r = a ∧ IM g s1)) := by
  obtain ⟨w, s, I, P, J⟩ := V
  obtain ⟨a1, rfl, h1⟩ := zx p1
  exact ⟨(z (a_leaves s.a a1)), s, Sp.mono (Nat.le_of_ble_eq_true rfl) (s_X9_leaves (xs_leaves h1 I P (fun g I1 P1 => ⟨rfl, w, I1, P1⟩))), Sp.mono (Nat.le_of_ble_eq_true rfl) (s_X10_leaves (ms_leaves h1 J (fun g J1 => ⟨rfl, J1⟩)))⟩
theorem c_make (V : IV hx hm) (p1 p2 p3 p4 p5 : Int32) : ∃ (a : Int32) (s1 : St), Sp (GX D ca ax) (XS (GX D ca ax)) l 40 yX9_make cX9_make 7 (some .int) [.ref 0, .int p1, .int p2, .int p3, .int p4, .int p5] hx (qI (fun r g => r = a ∧ XQ s1 g)) ∧ Sp (GM D ca am) (XS (GM D ca am)) l 600 yX10_make cX10_make 6 (some .int) [.ref 0, .int p1, .int p2, .int p3, .int p4, .int p5] hm (qI (fun r g => r = a ∧ IM g s1)) := by
  obtain ⟨w, s, I, P, J⟩ := V
  obtain ⟨a1, rfl, h1⟩ := zx p1
  obtain ⟨a2, rfl, h2⟩ := zx p2
  obtain ⟨a3, rfl, h3⟩ := zx p3
  obtain ⟨a4, rfl, h4⟩ := zx p4
  obtain ⟨a5, rfl, h5⟩ := zx p5
  exact ⟨(z (a_make s a1 a2 a3 a4 a5)), (t_make s a1 a2 a3 a4 a5), Sp.mono (Nat.le_of_ble_eq_true rfl) (s_X9_make (xs_make I h1 h2 h3 h4 h5 (fun g I1 K1 => ⟨rfl, w, I1, P.ks K1⟩))), Sp.mono (Nat.le_of_ble_eq_true rfl) (s_X10_make (ms_make J h1 h2 h3 h4 h5 (fun g J1 => ⟨rfl, J1⟩)))⟩
theorem c_stop (V : IV hx hm) (p1 : Int32) : ∃ (a : Int32) (s1 : St), Sp (GX D ca ax) (XS (GX D ca ax)) l 40 yX9_stop cX9_stop 2 (some .boolean) [.ref 0, .int p1] hx (qI (fun r g => r = a ∧ XQ s1 g)) ∧ Sp (GM D ca am) (XS (GM D ca am)) l 600 yX10_stop cX10_stop 2 (some .boolean) [.ref 0, .int p1] hm (qI (fun r g => r = a ∧ IM g s1)) := by
  obtain ⟨w, s, I, P, J⟩ := V
  obtain ⟨a1, rfl, h1⟩ := zx p1
  exact ⟨(z (a_stop s a1)), (t_stop s a1), Sp.mono (Nat.le_of_ble_eq_true rfl) (s_X9_stop (xs_stop I h1 (fun g I1 K1 => ⟨rfl, w, I1, P.ks K1⟩))), Sp.mono (Nat.le_of_ble_eq_true rfl) (s_X10_stop (ms_stop J h1 (fun g J1 => ⟨rfl, J1⟩)))⟩
theorem c_wall (V : IV hx hm) (p1 p2 : Int32) : ∃ (a : Int32) (s1 : St), Sp (GX D ca ax) (XS (GX D ca ax)) l 40 yX9_wall cX9_wall 4 (some .boolean) [.ref 0, .int p1, .int (bz p2)] hx (qI (fun r g => r = a ∧ XQ s1 g)) ∧ Sp (GM D ca am) (XS (GM D ca am)) l 600 yX10_wall cX10_wall 3 (some .boolean) [.ref 0, .int p1, .int (bz p2)] hm (qI (fun r g => r = a ∧ IM g s1)) := by
  obtain ⟨w, s, I, P, J⟩ := V
  obtain ⟨a1, rfl, h1⟩ := zx p1
  obtain ⟨a2, e2, h2⟩ := zb p2
  rw [e2]
  exact ⟨(z (a_wall s a1 a2)), (t_wall s a1 a2), Sp.mono (Nat.le_of_ble_eq_true rfl) (s_X9_wall (xs_wall I h1 (i01 h2) (fun g I1 K1 => ⟨rfl, w, I1, P.ks K1⟩))), Sp.mono (Nat.le_of_ble_eq_true rfl) (s_X10_wall (ms_wall J h1 h2 (fun g J1 => ⟨rfl, J1⟩)))⟩
theorem c_sell (V : IV hx hm) (p1 p2 p3 : Int32) : ∃ (a : Int32) (s1 : St), Sp (GX D ca ax) (XS (GX D ca ax)) l 40 yX9_sell cX9_sell 5 (some .boolean) [.ref 0, .int p1, .int p2, .int p3] hx (qI (fun r g => r = a ∧ XQ s1 g)) ∧ Sp (GM D ca am) (XS (GM D ca am)) l 600 yX10_sell cX10_sell 4 (some .boolean) [.ref 0, .int p1, .int p2, .int p3] hm (qI (fun r g => r = a ∧ IM g s1)) := by
  obtain ⟨w, s, I, P, J⟩ := V
  obtain ⟨a1, rfl, h1⟩ := zx p1
  obtain ⟨a2, rfl, h2⟩ := zx p2
  obtain ⟨a3, rfl, h3⟩ := zx p3
  exact ⟨(z (a_sell s a1 a2 a3)), (t_sell s a1 a2 a3), Sp.mono (Nat.le_of_ble_eq_true rfl) (s_X9_sell (xs_sell I h1 h2 h3 (fun g I1 K1 => ⟨rfl, w, I1, P.ks K1⟩))), Sp.mono (Nat.le_of_ble_eq_true rfl) (s_X10_sell (ms_sell J h1 h2 h3 (fun g J1 => ⟨rfl, J1⟩)))⟩
theorem c_go (V : IV hx hm) (p1 : Int32) : ∃ (a : Int32) (s1 : St), Sp (GX D ca ax) (XS (GX D ca ax)) l 40 yX9_go cX9_go 3 (some .int) [.ref 0, .int p1] hx (qI (fun r g => r = a ∧ XQ s1 g)) ∧ Sp (GM D ca am) (XS (GM D ca am)) l 600 yX10_go cX10_go 3 (some .int) [.ref 0, .int p1] hm (qI (fun r g => r = a ∧ IM g s1)) := by
  obtain ⟨w, s, I, P, J⟩ := V
  obtain ⟨a1, rfl, h1⟩ := zx p1
  exact ⟨(z (a_go s a1)), (t_go s a1), Sp.mono (Nat.le_of_ble_eq_true rfl) (s_X9_go (xs_go I h1 (fun g I1 K1 => ⟨rfl, w, I1, P.ks K1⟩))), Sp.mono (Nat.le_of_ble_eq_true rfl) (s_X10_go (ms_go J h1 (fun g J1 => ⟨rfl, J1⟩)))⟩
theorem c_plan (V : IV hx hm) : ∃ (a : Int32) (s1 : St), Sp (GX D ca ax) (XS (GX D ca ax)) l 40 yX9_plan cX9_plan 1 (some .int) [.ref 0] hx (qI (fun r g => r = a ∧ XQ s1 g)) ∧ Sp (GM D ca am) (XS (GM D ca am)) l 600 yX10_plan cX10_plan 1 (some .int) [.ref 0] hm (qI (fun r g => r = a ∧ IM g s1)) := by
  obtain ⟨w, s, I, P, J⟩ := V
  exact ⟨(z (a_plan s.a)), s, Sp.mono (Nat.le_of_ble_eq_true rfl) (s_X9_plan (xs_plan I (fun g I1 K1 => ⟨rfl, w, I1, P.kp K1⟩))), Sp.mono (Nat.le_of_ble_eq_true rfl) (s_X10_plan (ms_plan J (fun g J1 => ⟨rfl, J1⟩)))⟩
theorem c_planned (V : IV hx hm) (p1 p2 : Int32) : ∃ (a : Int32) (s1 : St), Sp (GX D ca ax) (XS (GX D ca ax)) l 40 yX9_planned cX9_planned 3 (some .int) [.ref 0, .int p1, .int p2] hx (qI (fun r g => r = a ∧ XQ s1 g)) ∧ Sp (GM D ca am) (XS (GM D ca am)) l 600 yX10_planned cX10_planned 3 (some .int) [.ref 0, .int p1, .int p2] hm (qI (fun r g => r = a ∧ IM g s1)) := by
  obtain ⟨w, s, I, P, J⟩ := V
  obtain ⟨a1, rfl, h1⟩ := zx p1
  obtain ⟨a2, rfl, h2⟩ := zx p2
  exact ⟨(z (a_planned s.a a1 a2)), s, Sp.mono (Nat.le_of_ble_eq_true rfl) (s_X9_planned (xs_planned h1 h2 I (fun g I1 K1 => ⟨rfl, w, I1, P.kp K1⟩))), Sp.mono (Nat.le_of_ble_eq_true rfl) (s_X10_planned (ms_planned h1 h2 J (fun g J1 => ⟨rfl, J1⟩)))⟩
theorem c_walls (V : IV hx hm) (p1 p2 : Int32) : ∃ (a : Int32) (s1 : St), Sp (GX D ca ax) (XS (GX D ca ax)) l 40 yX9_walls cX9_walls 7 (some .int) [.ref 0, .int p1, .int p2] hx (qI (fun r g => r = a ∧ XQ s1 g)) ∧ Sp (GM D ca am) (XS (GM D ca am)) l 600 yX10_walls cX10_walls 5 (some .int) [.ref 0, .int p1, .int p2] hm (qI (fun r g => r = a ∧ IM g s1)) := by
  obtain ⟨w, s, I, P, J⟩ := V
  obtain ⟨a1, rfl, h1⟩ := zx p1
  obtain ⟨a2, rfl, h2⟩ := zx p2
  exact ⟨(z (a_walls s.a a1 a2)), s, Sp.mono (Nat.le_of_ble_eq_true rfl) (s_X9_walls (xs_walls I h1 h2 (fun g I1 K1 => ⟨rfl, w, I1, P.kp K1⟩))), Sp.mono (Nat.le_of_ble_eq_true rfl) (s_X10_walls (ms_walls J h1 h2 (fun g J1 => ⟨rfl, J1⟩)))⟩
theorem c_bark (V : IV hx hm) (p1 p2 : Int32) : ∃ (a : Int32) (s1 : St), Sp (GX D ca ax) (XS (GX D ca ax)) l 40 yX9_bark cX9_bark 7 (some .int) [.ref 0, .int p1, .int p2] hx (qI (fun r g => r = a ∧ XQ s1 g)) ∧ Sp (GM D ca am) (XS (GM D ca am)) l 600 yX10_bark cX10_bark 6 (some .int) [.ref 0, .int p1, .int p2] hm (qI (fun r g => r = a ∧ IM g s1)) := by
  obtain ⟨w, s, I, P, J⟩ := V
  obtain ⟨a1, rfl, h1⟩ := zx p1
  obtain ⟨a2, rfl, h2⟩ := zx p2
  exact ⟨(z (a_bark s.a a1 a2)), s, Sp.mono (Nat.le_of_ble_eq_true rfl) (s_X9_bark (xs_bark I h1 h2 (fun g I1 K1 => ⟨rfl, w, I1, P.kp K1⟩))), Sp.mono (Nat.le_of_ble_eq_true rfl) (s_X10_bark (ms_bark J h1 h2 (fun g J1 => ⟨rfl, J1⟩)))⟩
theorem c_note (V : IV hx hm) (p1 p2 p3 : Int32) : ∃ (a : Int32) (s1 : St), Sp (GX D ca ax) (XS (GX D ca ax)) l 40 yX9_note cX9_note 4 (some .int) [.ref 0, .int p1, .int p2, .int (bz p3)] hx (qI (fun r g => r = a ∧ XQ s1 g)) ∧ Sp (GM D ca am) (XS (GM D ca am)) l 600 yX10_note cX10_note 4 (some .int) [.ref 0, .int p1, .int p2, .int (bz p3)] hm (qI (fun r g => r = a ∧ IM g s1)) := by
  obtain ⟨w, s, I, P, J⟩ := V
  obtain ⟨a1, rfl, h1⟩ := zx p1
  obtain ⟨a2, rfl, h2⟩ := zx p2
  obtain ⟨a3, e3, h3⟩ := zb p3
  rw [e3]
  exact ⟨(z (a_note s a1 a2)), (t_note s a1 a2 a3), Sp.mono (Nat.le_of_ble_eq_true rfl) (s_X9_note (xs_note I h1 h2 h3 (fun g I1 K1 => ⟨rfl, w, I1, by rw [ta_note]; exact P.kp K1⟩))), Sp.mono (Nat.le_of_ble_eq_true rfl) (s_X10_note (ms_note J h1 h2 h3 (fun g J1 => ⟨rfl, J1⟩)))⟩
theorem c_strike (V : IV hx hm) (p1 : Int32) : ∃ (a : Int32) (s1 : St), Sp (GX D ca ax) (XS (GX D ca ax)) l 40 yX9_strike cX9_strike 2 (some .int) [.ref 0, .int p1] hx (qI (fun r g => r = a ∧ XQ s1 g)) ∧ Sp (GM D ca am) (XS (GM D ca am)) l 600 yX10_strike cX10_strike 2 (some .int) [.ref 0, .int p1] hm (qI (fun r g => r = a ∧ IM g s1)) := by
  obtain ⟨w, s, I, P, J⟩ := V
  obtain ⟨a1, rfl, h1⟩ := zx p1
  exact ⟨(z (a_strike s a1)), (t_strike s a1), Sp.mono (Nat.le_of_ble_eq_true rfl) (s_X9_strike (xs_strike I h1 (fun g I1 K1 => ⟨rfl, w, I1, by rw [ta_strike]; exact P.kp K1⟩))), Sp.mono (Nat.le_of_ble_eq_true rfl) (s_X10_strike (ms_strike J h1 (fun g J1 => ⟨rfl, J1⟩)))⟩
theorem c_known (V : IV hx hm) (p1 : Int32) : ∃ (a : Int32) (s1 : St), Sp (GX D ca ax) (XS (GX D ca ax)) l 40 yX9_known cX9_known 2 (some .boolean) [.ref 0, .int p1] hx (qI (fun r g => r = a ∧ XQ s1 g)) ∧ Sp (GM D ca am) (XS (GM D ca am)) l 600 yX10_known cX10_known 2 (some .boolean) [.ref 0, .int p1] hm (qI (fun r g => r = a ∧ IM g s1)) := by
  obtain ⟨w, s, I, P, J⟩ := V
  obtain ⟨a1, rfl, h1⟩ := zx p1
  exact ⟨(z (a_known s a1)), (tt_known s a1), Sp.mono (Nat.le_of_ble_eq_true rfl) (s_X9_known (xs_known I h1 (fun g I1 K1 => ⟨rfl, w, I1, by rw [ta_known]; exact P.kp K1⟩))), Sp.mono (Nat.le_of_ble_eq_true rfl) (s_X10_known (ms_known J h1 (fun g J1 => ⟨rfl, J1⟩)))⟩
theorem c_thieves (V : IV hx hm) : ∃ (a : Int32) (s1 : St), Sp (GX D ca ax) (XS (GX D ca ax)) l 40 yX9_thieves cX9_thieves 1 (some .int) [.ref 0] hx (qI (fun r g => r = a ∧ XQ s1 g)) ∧ Sp (GM D ca am) (XS (GM D ca am)) l 600 yX10_thieves cX10_thieves 1 (some .int) [.ref 0] hm (qI (fun r g => r = a ∧ IM g s1)) := by
  obtain ⟨w, s, I, P, J⟩ := V
  exact ⟨(z (a_thieves s)), s, Sp.mono (Nat.le_of_ble_eq_true rfl) (s_X9_thieves (xs_thieves I (fun g I1 K1 => ⟨rfl, w, I1, P.kp K1⟩))), Sp.mono (Nat.le_of_ble_eq_true rfl) (s_X10_thieves (ms_thieves J (fun g J1 => ⟨rfl, J1⟩)))⟩
theorem c_thief (V : IV hx hm) (p1 p2 : Int32) : ∃ (a : Int32) (s1 : St), Sp (GX D ca ax) (XS (GX D ca ax)) l 40 yX9_thief cX9_thief 3 (some .int) [.ref 0, .int p1, .int p2] hx (qI (fun r g => r = a ∧ XQ s1 g)) ∧ Sp (GM D ca am) (XS (GM D ca am)) l 600 yX10_thief cX10_thief 3 (some .int) [.ref 0, .int p1, .int p2] hm (qI (fun r g => r = a ∧ IM g s1)) := by
  obtain ⟨w, s, I, P, J⟩ := V
  obtain ⟨a1, rfl, h1⟩ := zx p1
  obtain ⟨a2, rfl, h2⟩ := zx p2
  exact ⟨(z (a_thief s a1 a2)), s, Sp.mono (Nat.le_of_ble_eq_true rfl) (s_X9_thief (xs_thief I h1 h2 (fun g I1 K1 => ⟨rfl, w, I1, P.kp K1⟩))), Sp.mono (Nat.le_of_ble_eq_true rfl) (s_X10_thief (ms_thief J h1 h2 (fun g J1 => ⟨rfl, J1⟩)))⟩
theorem c_left (V : IV hx hm) (p1 p2 : Int32) : ∃ (a : Int32) (s1 : St), Sp (GX D ca ax) (XS (GX D ca ax)) l 40 yX9_left cX9_left 4 (some .int) [.ref 0, .int p1, .int p2] hx (qI (fun r g => r = a ∧ XQ s1 g)) ∧ Sp (GM D ca am) (XS (GM D ca am)) l 600 yX10_left cX10_left 8 (some .int) [.ref 0, .int p1, .int p2] hm (qI (fun r g => r = a ∧ IM g s1)) := by
  obtain ⟨w, s, I, P, J⟩ := V
  obtain ⟨a1, rfl, h1⟩ := zx p1
  obtain ⟨a2, rfl, h2⟩ := zx p2
  exact ⟨(z (a_left s.a a1 a2)), s, Sp.mono (Nat.le_of_ble_eq_true rfl) (s_X9_left (xs_left I h1 h2 (fun g I1 K1 => ⟨rfl, w, I1, P.kp K1⟩))), Sp.mono (Nat.le_of_ble_eq_true rfl) (s_X10_left (ms_left J h1 h2 (fun g J1 => ⟨rfl, J1⟩)))⟩
theorem c_rests (V : IV hx hm) (p1 p2 p3 : Int32) : ∃ (a : Int32) (s1 : St), Sp (GX D ca ax) (XS (GX D ca ax)) l 40 yX9_rests cX9_rests 6 (some .int) [.ref 0, .int p1, .int p2, .int p3] hx (qI (fun r g => r = a ∧ XQ s1 g)) ∧ Sp (GM D ca am) (XS (GM D ca am)) l 600 yX10_rests cX10_rests 4 (some .int) [.ref 0, .int p1, .int p2, .int p3] hm (qI (fun r g => r = a ∧ IM g s1)) := by
  obtain ⟨w, s, I, P, J⟩ := V
  obtain ⟨a1, rfl, h1⟩ := zx p1
  obtain ⟨a2, rfl, h2⟩ := zx p2
  obtain ⟨a3, rfl, h3⟩ := zx p3
  exact ⟨(z (a_rests a1 a2 a3)), s, Sp.mono (Nat.le_of_ble_eq_true rfl) (s_X9_rests (xs_rests I h1 h2 h3 (fun g I1 K1 => ⟨rfl, w, I1, P.kp K1⟩))), Sp.mono (Nat.le_of_ble_eq_true rfl) (s_X10_rests (ms_rests J h1 h2 h3 (fun g J1 => ⟨rfl, J1⟩)))⟩
theorem c_rest (V : IV hx hm) (p1 p2 p3 p4 : Int32) : ∃ (a : Int32) (s1 : St), Sp (GX D ca ax) (XS (GX D ca ax)) l 40 yX9_rest cX9_rest 7 (some .int) [.ref 0, .int p1, .int p2, .int p3, .int p4] hx (qI (fun r g => r = a ∧ XQ s1 g)) ∧ Sp (GM D ca am) (XS (GM D ca am)) l 600 yX10_rest cX10_rest 5 (some .int) [.ref 0, .int p1, .int p2, .int p3, .int p4] hm (qI (fun r g => r = a ∧ IM g s1)) := by
  obtain ⟨w, s, I, P, J⟩ := V
  obtain ⟨a1, rfl, h1⟩ := zx p1
  obtain ⟨a2, rfl, h2⟩ := zx p2
  obtain ⟨a3, rfl, h3⟩ := zx p3
  obtain ⟨a4, rfl, h4⟩ := zx p4
  exact ⟨(z (a_rest a1 a2 a3 a4)), s, Sp.mono (Nat.le_of_ble_eq_true rfl) (s_X9_rest (xs_rest I h1 h2 h3 h4 (fun g I1 K1 => ⟨rfl, w, I1, P.kp K1⟩))), Sp.mono (Nat.le_of_ble_eq_true rfl) (s_X10_rest (ms_rest J h1 h2 h3 h4 (fun g J1 => ⟨rfl, J1⟩)))⟩
theorem c_year (V : IV hx hm) (p1 p2 : Int32) : ∃ (a : Int32) (s1 : St), Sp (GX D ca ax) (XS (GX D ca ax)) l 40 yX9_year cX9_year 11 (some .int) [.ref 0, .int p1, .int p2] hx (qI (fun r g => r = a ∧ XQ s1 g)) ∧ Sp (GM D ca am) (XS (GM D ca am)) l 600 yX10_year cX10_year 9 (some .int) [.ref 0, .int p1, .int p2] hm (qI (fun r g => r = a ∧ IM g s1)) := by
  obtain ⟨w, s, I, P, J⟩ := V
  obtain ⟨a1, rfl, h1⟩ := zx p1
  obtain ⟨a2, rfl, h2⟩ := zx p2
  exact ⟨(z (a_year s.a a1 a2)), s, Sp.mono (Nat.le_of_ble_eq_true rfl) (s_X9_year (xs_year I h1 h2 (fun g I1 K1 => ⟨rfl, w, I1, P.kp K1⟩))), Sp.mono (Nat.le_of_ble_eq_true rfl) (s_X10_year (ms_year J h1 h2 (fun g J1 => ⟨rfl, J1⟩)))⟩
theorem c_tried (V : IV hx hm) (p1 p2 : Int32) : ∃ (a : Int32) (s1 : St), Sp (GX D ca ax) (XS (GX D ca ax)) l 40 yX9_tried cX9_tried 4 (some .int) [.ref 0, .int p1, .int p2] hx (qI (fun r g => r = a ∧ XQ s1 g)) ∧ Sp (GM D ca am) (XS (GM D ca am)) l 600 yX10_tried cX10_tried 5 (some .int) [.ref 0, .int p1, .int p2] hm (qI (fun r g => r = a ∧ IM g s1)) := by
  obtain ⟨w, s, I, P, J⟩ := V
  obtain ⟨a1, rfl, h1⟩ := zx p1
  obtain ⟨a2, rfl, h2⟩ := zx p2
  exact ⟨(z (a_tried s.a a1 a2)), s, Sp.mono (Nat.le_of_ble_eq_true rfl) (s_X9_tried (xs_tried I h1 h2 (fun g I1 K1 => ⟨rfl, w, I1, P.kp K1⟩))), Sp.mono (Nat.le_of_ble_eq_true rfl) (s_X10_tried (ms_tried J h1 h2 (fun g J1 => ⟨rfl, J1⟩)))⟩
theorem c_undo (V : IV hx hm) : ∃ (a : Int32) (s1 : St), Sp (GX D ca ax) (XS (GX D ca ax)) l 40 yX9_undo cX9_undo 4 (some .int) [.ref 0] hx (qI (fun r g => r = a ∧ XQ s1 g)) ∧ Sp (GM D ca am) (XS (GM D ca am)) l 600 yX10_undo cX10_undo 1 (some .int) [.ref 0] hm (qI (fun r g => r = a ∧ IM g s1)) := by
  obtain ⟨w, s, I, P, J⟩ := V
  exact ⟨(z (a_undo s)), (t_undo s), Sp.mono (Nat.le_of_ble_eq_true rfl) (s_X9_undo (xs_undo I (fun g I1 K1 => ⟨rfl, w, I1, P.ks K1⟩))), Sp.mono (Nat.le_of_ble_eq_true rfl) (s_X10_undo (ms_undo J (fun g J1 => ⟨rfl, J1⟩)))⟩
theorem c_keep (V : IV hx hm) : ∃ (a : Int32) (s1 : St), Sp (GX D ca ax) (XS (GX D ca ax)) l 40 yX9_keep cX9_keep 1 (some .int) [.ref 0] hx (qI (fun r g => r = a ∧ XQ s1 g)) ∧ Sp (GM D ca am) (XS (GM D ca am)) l 600 yX10_keep cX10_keep 1 (some .int) [.ref 0] hm (qI (fun r g => r = a ∧ IM g s1)) := by
  obtain ⟨w, s, I, P, J⟩ := V
  exact ⟨(z (s.a.f 7 2 0)), (t_keep s), Sp.mono (Nat.le_of_ble_eq_true rfl) (s_X9_keep (xs_keep I (fun g I1 K1 => ⟨rfl, w, I1, P.ks K1⟩))), Sp.mono (Nat.le_of_ble_eq_true rfl) (s_X10_keep (ms_keep J (fun g J1 => ⟨rfl, J1⟩)))⟩
theorem c_back (V : IV hx hm) : ∃ (a : Int32) (s1 : St), Sp (GX D ca ax) (XS (GX D ca ax)) l 40 yX9_back cX9_back 1 (some .int) [.ref 0] hx (qI (fun r g => r = a ∧ XQ s1 g)) ∧ Sp (GM D ca am) (XS (GM D ca am)) l 600 yX10_back cX10_back 1 (some .int) [.ref 0] hm (qI (fun r g => r = a ∧ IM g s1)) := by
  obtain ⟨w, s, I, P, J⟩ := V
  exact ⟨(z (a_back s)), (t_back s), Sp.mono (Nat.le_of_ble_eq_true rfl) (s_X9_back (xs_back I (fun g I1 K1 => ⟨rfl, w, I1, P.ks K1⟩))), Sp.mono (Nat.le_of_ble_eq_true rfl) (s_X10_back (ms_back J (fun g J1 => ⟨rfl, J1⟩)))⟩
theorem c_count (V : IV hx hm) (p1 : Int32) : ∃ (a : Int32) (s1 : St), Sp (GX D ca ax) (XS (GX D ca ax)) l 40 yX9_count cX9_count 2 (some .int) [.ref 0, .int p1] hx (qI (fun r g => r = a ∧ XQ s1 g)) ∧ Sp (GM D ca am) (XS (GM D ca am)) l 600 yX10_count cX10_count 4 (some .int) [.ref 0, .int p1] hm (qI (fun r g => r = a ∧ IM g s1)) := by
  obtain ⟨w, s, I, P, J⟩ := V
  obtain ⟨a1, rfl, h1⟩ := zx p1
  exact ⟨(z (a_count s a1)), s, Sp.mono (Nat.le_of_ble_eq_true rfl) (s_X9_count (xs_count I h1 (fun g I1 K1 => ⟨rfl, w, I1, P.kp K1⟩))), Sp.mono (Nat.le_of_ble_eq_true rfl) (s_X10_count (ms_count J h1 (fun g J1 => ⟨rfl, J1⟩)))⟩
end CI
