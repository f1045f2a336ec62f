theorem c10_tail {D : va_G} {ca ad : Nat → Nat} {B : Nat} {l : Launch} {p : Program} {e : Env} {s s₁ : State} {m : MethodId} {below : List Frame} {meth : Method} {c : Code} {H : Heap} {locs : List Loc} {ls : Array Slot} (hbg : Bg) (hml : c.maxLocals = 1)
    (Bd : BodyLoose p l yX10_init (headSpec (Cond.code yX10_init cX10_init 1 none :: LT) (rmc 10 71 4778)) cX10_init 1 none e s m ([.ref (B + 0)] : List Value).toArray below meth c s₁)
    (hsz : s.heap.size = B + 1) (hK : KC D ca ad B s) (hS : va_S (fun q => B ≤ q) s.heap H locs) (hP : va_P D classes (wsB B (bl_10 D ca ad B)) H) (hl : lv_has ls 1 [(0, .ref (B + 0))]) :
    W p l e (headSpec (Cond.code yX10_init cX10_init 1 none :: LT) (rmc 10 71 4778)).room s m ([.ref (B + 0)] : List Value).toArray below meth c H locs 71 4778 (MQ below (Qc D B (bl_10 D ca ad B)) ([.ref (B + 0)] : List Value).toArray s 71 4778 (fun q => B ≤ q)) (F0 m 696 ls []) := by
  have hx := Bd.exec
  have hb := Bd.bytes
  have hr := Bd.returns
  have hts0 := atoms_spec (ws := Cond.code yX10_init cX10_init 1 none :: LT) Bd.pre
  have hts : ∀ w ∈ LT, w.before _ s = true := fun w hw => hts0 w (List.mem_cons_of_mem _ hw)
  have hown : s.vm.findClass RX10 = some m.cls := findClass_of_methodNamed Bd.named
  have hlocks := Bd.notSynchronized
  obtain ⟨ad', had⟩ : ∃ ad' : Nat → Nat, ad' = fun i => if i < 72 then B + i else ad i := ⟨_, rfl⟩
  have hw : ∀ q, Aw (GM D ca ad') q → B ≤ q := by
    rintro q ⟨i, hi, rfl⟩
    have hi' : i < 72 := hi
    show B ≤ ad' i
    rw [had]; simp only [hi', if_true]; omega
  have hXS : XS (GM D ca ad') s := XSA.congr (hK.2.2.narrow hw) (fun i hi => by rw [had]; show (if i < 72 then B + i else ad i) = ad i; rw [if_neg (by omega)])
  have hCX : CX (GM D ca ad') (XS (GM D ca ad')) cX10_init RX10 1 none 10 ((p, l, e, (headSpec (Cond.code yX10_init cX10_init 1 none :: LT) (rmc 10 71 4778)).room, s, m, ([.ref (B + 0)] : List Value).toArray, below, meth, c, 71, 4778) : Kt) := by
    refine ⟨hx, hb, hml, hown, hts, hlocks, hr, ⟨hK.1, hK.2.1, ?_, hXS⟩, XS_ok _, Nat.le_refl _, Nat.le_refl _, Nat.le_refl _, Nat.le_refl _⟩
    intro i j hi hj hij
    have hi' : i < 72 := hi
    have hj' : j < 72 := hj
    have hij' : ad' i = ad' j := hij
    rw [had] at hij'
    simp only [hi', hj', if_true] at hij'
    omega
  have hpw : va_P D classes (pw (GM D ca ad') hM0) H := by rw [had, pw_M0]; exact hP
  have h0w : Aw (GM D ca ad') B := ⟨0, Nat.le_of_ble_eq_true rfl, by show B = ad' 0; rw [had]; rfl⟩
  refine W.weakL (l' := locs.filter (fun x => decide (x.base = B))) (fun x hx h => List.mem_filter.mpr ⟨hx, decide_eq_true (by have h1 : B ≤ x.base := hS.2.2 x hx; have h2 : x.base < s.heap.size := h; rw [hsz] at h2; exact Nat.le_antisymm (Nat.le_of_lt_succ h2) h1)⟩) ?_
  have hS2 : va_S (Aw (GM D ca ad')) s.heap H (locs.filter (fun x => decide (x.base = B))) := by
    refine ⟨hS.1, fun q h1 h2 => hS.2.1 q h1 (fun h3 => h2 ?_), fun q hq => ?_⟩
    · have : B ≤ q := h3
      have : q = B := by omega
      rw [this]; exact h0w
    · have := (List.mem_filter.mp hq).2
      rw [show q.base = B by simpa using this]; exact h0w
  have hl4 : lh (GM D ca ad') 1 [some (.ref 0)] ls := by
    have : prs (GM D ca ad') 0 [some (.ref 0)] = [(0, .ref (B + 0))] := by rw [had]; rfl
    unfold lh
    rw [this]
    exact hl
  have hPW : PW (GM D ca ad') (p, l, e, (headSpec (Cond.code yX10_init cX10_init 1 none :: LT) (rmc 10 71 4778)).room, s, m, ([.ref (B + 0)] : List Value).toArray, below, meth, c, 71, 4778) 1 (qV (fun h => h = hM0)) hM0 696 [some (.ref 0)] [] := by
    refine PW.ald0n hCX dX10_init_696 ?_
    refine PW.callVV0 hCX ms_X10_begins ml_X10_232 dX10_init_697 oM_0 ⟨_, _, rfl⟩ (Nat.le_of_ble_eq_true rfl) (by decide) (Nat.le_of_ble_eq_true rfl) (s_X10_begins hbg) ?_
    intro h1 hw
    exact PW.vret hCX dX10_init_700 ⟨rfl, hw⟩
  have hpW := hPW H _ ls hpw hS2 hl4
  intro T hT X
  obtain ⟨t, a1, o1, b1, b2, ⟨⟨r, h', hoc, ⟨hr0, hq1⟩, hp'⟩, hF⟩, L, b3, b4⟩ := hpW T hT X
  subst hr0
  subst hq1
  have hp2 : va_P D classes (wsB B (bl_10 D ca ad B)) t.heap := by rw [← pw_M0 (D := D) (ad := ad), ← had]; exact hp'
  refine ⟨t, a1, o1, b1, b2, ⟨hoc, hp2, ?_, hF.1, fun q z1 z2 => hF.2 q z1 (fun z3 => z2 (hw q z3))⟩, L, b3, fun q hq => hw _ (b4 q hq)⟩
  have h1 := hp' 71 _ (pw_at (G := GM D ca ad') (h := hM0) (i := 71) (Nat.le_of_ble_eq_true rfl))
  have e1 : (GM D ca ad').ad 71 = B + 71 := by rw [had]; rfl
  have h3 : (GM D ca ad').ad 71 < t.heap.size := h1.lt
  rw [e1] at h3
  have h4 : t.heap.size ≤ s.heap.size + 71 := by
    obtain ⟨-, -, hsm⟩ := b3
    exact hsm.2.2.1
  have e2 : (bl_10 D ca ad B).length = 72 := bl_10_len D ca ad B
  rw [e2]
  omega
