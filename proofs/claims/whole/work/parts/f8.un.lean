/-! ===== text, by the reference ===== -/
section MTEXT
variable {h g : PH} {s : St} {n : Int}
theorem MF.rowD {q : PS} (M : MF h q) (O : OkPs q) (H : ∀ a b, 2 ≤ a → a < 32 → b < hf a → gI g a b = gI h a (hf a + b)) {r c : Nat} (hr : r < 7) (hc : c < mw r) {k : Int} (k0 : 0 ≤ k) (k1 : k < q.a.n r) : gI g (mc r c) k.toNat = z (mv r c (q.a.f r c k)) := by
  have mr := mc_rg hr hc
  have hm := hf_mc hr hc
  have cp := ((O.1.1 r hr).1).2
  have cr := capT_rg hr
  rw [H (mc r c) k.toNat (by omega) (by omega) (by omega), ← M.2.2.1 r c hr hc k k0 k1]
  congr 1
  omega
theorem IM.tx {fk fa : Int} (J : IM h s) (e1 : ∀ c k, 2 ≤ c → c < 32 → k < hf c → gI g c k = gI h c k) (e2 : ∀ c k, 32 ≤ c → At h g c k) (e0 : ∀ k, (k = 60 ∨ k = 61 ∨ k = 94 ∨ k = 95) → At h g 0 k) (t2 : gI g 0 2 = z 0) (f1 : gI g 0 42 = z fk) (f2 : gI g 0 43 = z fa) : IM g (fS s fk fa) := by
  obtain ⟨⟨j1, j1', j1''⟩, j2, ⟨j3, j4⟩, j5, -, -, j10⟩ := J
  exact ⟨⟨j1.lo j1'' e1, j1'.at' (fun c k b1 b2 => e2 c k (by omega)), j1''⟩, j2.at' (e0 61 (by omega)) (fun c k b1 b2 => e2 c k (by omega)), ⟨by rw [(e0 60 (by omega)).1]; exact j3, fun b => (j4 b).at' (fun c k b1 b2 => e2 c k (by omega))⟩, j5.at' (fun k hk => e0 k (by omega)) (fun c k b1 b2 => e2 c k (by omega)), ⟨t2, fun k k0 k1 => absurd k1 (by show ¬ k < 0; omega)⟩, ⟨f1, f2⟩, j10.fS⟩
theorem fz_lo {c k : Nat} (h1 : 2 ≤ c) (h2 : c < 32) (h3 : k < hf c) : ¬ fz c k := fun x => by
  rcases x with ⟨a, -⟩ | ⟨-, -, a⟩ <;> omega
theorem fz_hi {c k : Nat} (h1 : 32 ≤ c) : ¬ fz c k := fun x => by
  rcases x with ⟨a, -⟩ | ⟨-, a, -⟩ <;> omega
theorem fz_0 {k : Nat} (h1 : k ≠ 33 ∧ k ≠ 34 ∧ ¬ (36 ≤ k ∧ k ≤ 41) ∧ k ≠ 44 ∧ k ≠ 45) : ¬ fz 0 k := fun x => by
  rcases x with ⟨-, a⟩ | ⟨a, -⟩ <;> omega
theorem fz_1 {k : Nat} : ¬ fz 1 k := fun x => by
  rcases x with ⟨a, -⟩ | ⟨a, -⟩ <;> omega
theorem ps0_mf (e2 : ∀ r : Nat, r < 11 → gI h 2 (11 + r) = z (if r = 7 then 5 else if r = 8 then 1 else 0)) (e28 : ∀ k, 2 ≤ k → k < 4 → gI h 28 k = z 0 ∧ gI h 29 k = z 0) (e44 : gI h 0 44 = z 0) (e45 : gI h 0 45 = z 0) : MF h ps0 := by
  refine ⟨fun r hr => ?_, ⟨e2 7 (by omega), e2 8 (by omega), e2 10 (by omega)⟩, fun r c hr hc k k0 k1 => absurd k1 (by show ¬ k < 0; omega), ⟨⟨0, ?_⟩, ⟨0, ?_⟩⟩, e44, e45⟩
  · rw [e2 r (by omega), if_neg (by omega), if_neg (by omega)]
    rfl
  · exact ⟨(e28 2 (by omega) (by omega)).1, (e28 2 (by omega) (by omega)).2, by omega, by show (0 : Int) + 0 ≤ 0; omega, fun j hj => absurd hj (Nat.not_lt_zero j)⟩
  · exact ⟨(e28 3 (by omega) (by omega)).1, (e28 3 (by omega) (by omega)).2, by omega, by show (0 : Int) + 0 ≤ 0; omega, fun j hj => absurd hj (Nat.not_lt_zero j)⟩
theorem ps0_told : ToldM 0 ps0 := by
  have b : ∀ i, i < 32 → bt (0 : Int32) i = false := bt_z0
  refine ⟨⟨?_, ?_, ?_⟩, ?_, ?_⟩
  · rw [b 9 (by omega)]; exact ⟨fun x => absurd x (by decide), fun x => absurd rfl x⟩
  · rw [b 10 (by omega)]; exact ⟨fun x => absurd x (by decide), fun x => absurd rfl x⟩
  · rw [b 11 (by omega)]; exact ⟨fun x => absurd x (by decide), fun x => absurd rfl x⟩
  · rw [b 16 (by omega)]; exact ⟨fun x => absurd x (by decide), fun x => absurd rfl x⟩
  · rw [b 17 (by omega)]; exact ⟨fun x => absurd x (by decide), fun x => absurd rfl x⟩
theorem ms_text {Q : Int32 → PH → Prop} (J0 : IM h s) (hn : i32 n) (hq : ∀ g, IM g (t_text s n) → Q (z (a_text s n)) g) : w_X10_text (z n) h Q := by
  have h1 := hn.1
  have h2 := hn.2
  unfold w_X10_text
  rintro _ rfl
  have J := J0.fr (fr0 h 0)
  clear J0
  generalize sI h 0 0 0 = h1' at *
  obtain ⟨t1, t2⟩ := J.2.2.2.2.1
  have OT := J.2.2.2.2.2.2.2.2.2.2.2.2
  have o1 := OT.1
  unfold t_text a_text at hq
  by_cases c0 : n < 0
  · rw [zn_0, if_pos (by rw [z_lt (by omega) (by omega) (by omega) (by omega)]; omega)]
    rw [if_pos (Or.inl c0), if_pos (Or.inl c0)] at hq
    exact hq h1' J
  rw [zn_0, if_neg (by rw [z_lt (by omega) (by omega) (by omega) (by omega)]; omega), t1]
  by_cases c1 : n ≤ s.tn
  rotate_left
  · rw [if_neg (by rw [z_le (by omega) (by omega) (by omega) (by omega)]; omega)]
    rw [if_pos (Or.inr (by omega)), if_pos (Or.inr (by omega))] at hq
    exact hq h1' J
  rw [if_pos (by rw [z_le (by omega) (by omega) (by omega) (by omega)]; omega)]
  rw [if_neg (by omega), if_neg (by omega)] at hq
  rintro _ rfl _ rfl _ rfl _ rfl _ rfl
  have f6 : ∀ c k, ¬ (c = 0 ∧ (k = 35 ∨ k = 2 ∨ k = 36 ∨ k = 40 ∨ k = 41)) → At h1' (sI (sI (sI (sI (sI h1' 0 35 (z n)) 0 2 (z 0)) 0 36 (z 0)) 0 40 (z 0)) 0 41 (-1)) c k := fun c k hc => (((((At.rf h1' c k).sI (by omega)).sI (by omega)).sI (by omega)).sI (by omega)).sI (by omega)
  have q35 : gI (sI (sI (sI (sI (sI h1' 0 35 (z n)) 0 2 (z 0)) 0 36 (z 0)) 0 40 (z 0)) 0 41 (-1)) 0 35 = z n := by
    repeat rw [gI_out (by omega)]
    exact gI_in rfl rfl
  have q2 : gI (sI (sI (sI (sI (sI h1' 0 35 (z n)) 0 2 (z 0)) 0 36 (z 0)) 0 40 (z 0)) 0 41 (-1)) 0 2 = z 0 := by
    repeat rw [gI_out (by omega)]
    exact gI_in rfl rfl
  have q36 : gI (sI (sI (sI (sI (sI h1' 0 35 (z n)) 0 2 (z 0)) 0 36 (z 0)) 0 40 (z 0)) 0 41 (-1)) 0 36 = z 0 := by
    repeat rw [gI_out (by omega)]
    exact gI_in rfl rfl
  have q40 : gI (sI (sI (sI (sI (sI h1' 0 35 (z n)) 0 2 (z 0)) 0 36 (z 0)) 0 40 (z 0)) 0 41 (-1)) 0 40 = z 0 := by
    repeat rw [gI_out (by omega)]
    exact gI_in rfl rfl
  have q41 : gI (sI (sI (sI (sI (sI h1' 0 35 (z n)) 0 2 (z 0)) 0 36 (z 0)) 0 40 (z 0)) 0 41 (-1)) 0 41 = z (-1) := gI_in rfl rfl
  generalize sI (sI (sI (sI (sI h1' 0 35 (z n)) 0 2 (z 0)) 0 36 (z 0)) 0 40 (z 0)) 0 41 (-1) = g6 at *
  refine for10 11 (fun i g => (∀ c k, ¬ (c = 2 ∧ 11 ≤ k) → At g6 g c k) ∧ ∀ r : Nat, (r : Int) < i → gI g 2 (11 + r) = z (if r = 7 then 5 else if r = 8 then 1 else 0)) 0 rfl (by omega) (by omega) (by omega) ⟨fun c k _ => At.rf g6 c k, fun r hr => by omega⟩ ?_ ?_
  · rintro kb i g i0 i1 ⟨f, hJ⟩ hn'
    have ei : z i = z ((i.toNat : Nat) : Int) := by congr 1; omega
    have put : ∀ v : Int, v = (if i.toNat = 7 then 5 else if i.toNat = 8 then 1 else 0) → w_X10_text_76 Q kb (z i) (z i) (z v) g := fun v hv => by
      unfold w_X10_text_76
      refine m_rds (r := i.toNat) (by omega) ei ?_
      rw [z_inc]
      refine hn' _ ⟨fun c k hc => (f c k hc).sI (by omega), fun r hr => ?_⟩
      by_cases e : r = i.toNat
      · rw [e, gI_in rfl rfl, hv]
      · rw [gI_out (by omega)]; exact hJ r (by omega)
    unfold w_X10_text_47
    rw [show (11 : Int32) = z 11 from rfl, if_neg (by rw [z_le (by omega) (by omega) (by omega) (by omega)]; omega)]
    by_cases e7 : i = 7
    · rw [if_pos (by rw [e7]; rfl)]
      exact put 5 (by rw [if_pos (by omega)])
    rw [if_neg (show ¬ z i = 7 from z_ne (by omega) (by omega) (by decide) (by decide) e7)]
    by_cases e8 : i = 8
    · rw [if_pos (by rw [e8]; rfl)]
      exact put 1 (by rw [if_neg (by omega), if_pos (by omega)])
    rw [if_neg (show ¬ z i = 8 from z_ne (by omega) (by omega) (by decide) (by decide) e8)]
    exact put 0 (by rw [if_neg (by omega), if_neg (by omega)])
  · rintro kb g7 ⟨f7, hJ7⟩
    unfold w_X10_text_47
    rw [show (11 : Int32) = z 11 from rfl, if_pos (by rw [z_le (by omega) (by omega) (by omega) (by omega)]; omega)]
    refine for10 4 (fun i g => (∀ c k, ¬ ((c = 28 ∨ c = 29) ∧ 2 ≤ k) → At g7 g c k) ∧ ∀ k : Nat, 2 ≤ k → (k : Int) < i → gI g 28 k = z 0 ∧ gI g 29 k = z 0) 2 rfl (by omega) (by omega) (by omega) ⟨fun c k _ => At.rf g7 c k, fun k k0 k1 => by omega⟩ ?_ ?_
    · rintro kb i g i0 i1 ⟨f, hJ⟩ hn'
      unfold w_X10_text_87
      rw [zn_4, if_neg (by rw [z_le (by omega) (by omega) (by omega) (by omega)]; omega), z_iN (a := i) (by omega) (by omega)]
      refine ⟨z_in (by omega) (by omega) (by omega), ?_⟩
      rintro _ rfl
      refine ⟨z_in (by omega) (by omega) (by omega), ?_⟩
      rintro _ rfl
      rw [z_inc]
      refine hn' _ ⟨fun c k hc => ((f c k hc).sI (by omega)).sI (by omega), fun k k0 k1 => ?_⟩
      by_cases e : k = i.toNat
      · rw [e, gI_out (by omega), gI_in rfl rfl, gI_in rfl rfl]
        exact ⟨rfl, rfl⟩
      · rw [gI_out (by omega), gI_out (by omega), gI_out (by omega), gI_out (by omega)]
        exact hJ k k0 (by omega)
    · rintro kb g8 ⟨f8, hJ8⟩
      unfold w_X10_text_87
      rw [zn_4, if_pos (by rw [z_le (by omega) (by omega) (by omega) (by omega)]; omega)]
      dsimp only
      rintro _ rfl _ rfl _ rfl _ rfl
      have f9 : ∀ c k, ¬ (c = 0 ∧ (k = 33 ∨ k = 34 ∨ k = 44 ∨ k = 45)) → At g8 (sI (sI (sI (sI g8 0 33 (z 0)) 0 34 (z 0)) 0 44 (z 0)) 0 45 (z 0)) c k := fun c k hc => ((((At.rf g8 c k).sI (by omega)).sI (by omega)).sI (by omega)).sI (by omega)
      have w33 : gI (sI (sI (sI (sI g8 0 33 (z 0)) 0 34 (z 0)) 0 44 (z 0)) 0 45 (z 0)) 0 33 = z 0 := by
        repeat rw [gI_out (by omega)]
        exact gI_in rfl rfl
      have w34 : gI (sI (sI (sI (sI g8 0 33 (z 0)) 0 34 (z 0)) 0 44 (z 0)) 0 45 (z 0)) 0 34 = z 0 := by
        repeat rw [gI_out (by omega)]
        exact gI_in rfl rfl
      have w44 : gI (sI (sI (sI (sI g8 0 33 (z 0)) 0 34 (z 0)) 0 44 (z 0)) 0 45 (z 0)) 0 44 = z 0 := by
        repeat rw [gI_out (by omega)]
        exact gI_in rfl rfl
      have w45 : gI (sI (sI (sI (sI g8 0 33 (z 0)) 0 34 (z 0)) 0 44 (z 0)) 0 45 (z 0)) 0 45 = z 0 := gI_in rfl rfl
      generalize sI (sI (sI (sI g8 0 33 (z 0)) 0 34 (z 0)) 0 44 (z 0)) 0 45 (z 0) = g9 at *
      have F9 : ∀ c k, ¬ (fz c k ∨ (c = 0 ∧ (k = 35 ∨ k = 2))) → At h1' g9 c k := fun c k hc => by
        have nz : ¬ fz c k := fun x => hc (Or.inl x)
        have n0 : ¬ (c = 0 ∧ (k = 35 ∨ k = 2)) := fun x => hc (Or.inr x)
        have z0 : ¬ (c = 0 ∧ (k = 33 ∨ k = 34 ∨ (36 ≤ k ∧ k ≤ 41) ∨ k = 44 ∨ k = 45)) := fun x => nz (Or.inl x)
        have z2 : ¬ (c = 2 ∧ 11 ≤ k) := fun x => nz (Or.inr ⟨by omega, by omega, by rw [x.1]; exact x.2⟩)
        have z28 : ¬ ((c = 28 ∨ c = 29) ∧ 2 ≤ k) := fun x => nz (Or.inr ⟨by omega, by omega, by
          rcases x.1 with e | e <;> rw [e] <;> exact x.2⟩)
        exact (((f6 c k (by omega)).tr (f7 c k z2)).tr (f8 c k z28)).tr (f9 c k (by omega))
      have c0k : ∀ k, ¬ (k = 33 ∨ k = 34 ∨ k = 44 ∨ k = 45) → At g6 g9 0 k := fun k hk => ((f7 0 k (by omega)).tr (f8 0 k (by omega))).tr (f9 0 k (by omega))
      have SC : ScM g9 s.tp n := by
        refine ⟨by rw [(c0k 35 (by omega)).1]; exact q35, by omega, fun k k0 k1 => ?_, OT.2⟩
        rw [(F9 1 _ (fun x => x.elim fz_1 (fun y => absurd y.1 (by decide)))).1]
        exact t2 k k0 (by omega)
      have M0 : MF g9 ps0 := ps0_mf (fun r hr => by rw [(f9 2 _ (by omega)).1, (f8 2 _ (by omega)).1]; exact hJ7 r (by omega)) (fun k k0 k1 => by rw [(f9 28 _ (by omega)).1, (f9 29 _ (by omega)).1]; exact hJ8 k k0 (by omega)) w44 w45
      have b40 : gI g9 0 40 = z 0 := by rw [(c0k 40 (by omega)).1]; exact q40
      have b41 : gI g9 0 41 = z (-1) := by rw [(c0k 41 (by omega)).1]; exact q41
      have b2 : gI g9 0 2 = z 0 := by rw [(c0k 2 (by omega)).1]; exact q2
      refine m_token SC (p := 0) (by omega) (by rw [(c0k 36 (by omega)).1]; exact q36) (fun g10 f10 t10 => ?_)
      have tk : TcM g10 s.tp n 0 := ⟨⟨t10.1, by rw [(f10 0 41 (by omega)).1]; exact b41⟩, t10.2⟩
      have ms10 : msF g9 g10 := fun c k hc => f10 c k (by omega)
      refine m_lines (h0 := g9) (rt := rT s n) (by omega) (SC.ms ms10) (M0.ms ps0_ok ms10) (by rw [(f10 0 33 (by omega)).1, w33]; exact ps0_told) (by rw [(f10 0 40 (by omega)).1]; exact b40) tk (by omega) ms10.fz (by rw [(f10 0 34 (by omega)).1]; exact w34) rfl (fun g11 f11 P => ?_)
      have FA : ∀ c k, ¬ (fz c k ∨ (c = 0 ∧ (k = 35 ∨ k = 2))) → At h1' g11 c k := fun c k hc => (F9 c k hc).tr (f11 c k (fun x => hc (Or.inl x)))
      unfold w_X10_text_158
      rintro _ rfl _ rfl
      have f12 : ∀ c k, ¬ (c = 0 ∧ (k = 42 ∨ k = 43)) → At g11 (sI (sI g11 0 42 (gI g11 0 40)) 0 43 (gI (sI g11 0 42 (gI g11 0 40)) 0 41)) c k := fun c k hc => ((At.rf g11 c k).sI (by omega)).sI (by omega)
      have w42 : gI (sI (sI g11 0 42 (gI g11 0 40)) 0 43 (gI (sI g11 0 42 (gI g11 0 40)) 0 41)) 0 42 = gI g11 0 40 := by rw [gI_out (by omega), gI_in rfl rfl]
      have w43 : gI (sI (sI g11 0 42 (gI g11 0 40)) 0 43 (gI (sI g11 0 42 (gI g11 0 40)) 0 41)) 0 43 = gI g11 0 41 := by rw [gI_in rfl rfl, gI_out (by omega)]
      have M12 : ∀ q, OkPs q → MF g11 q → MF (sI (sI g11 0 42 (gI g11 0 40)) 0 43 (gI (sI g11 0 42 (gI g11 0 40)) 0 41)) q := fun q Oq Mq => (Mq.c0 Oq (by omega)).c0 Oq (by omega)
      generalize sI (sI g11 0 42 (gI g11 0 40)) 0 43 (gI (sI g11 0 42 (gI g11 0 40)) 0 41) = g12 at *
      have b2' : gI g11 0 2 = z 0 := by rw [(f11 0 2 (fz_0 (by omega))).1]; exact b2
      rcases P with ⟨k, u, k1, k2, k3, k4⟩ | ⟨e40, e41, q, l, er, O, M, e34⟩
      · rw [if_neg (by rw [(f12 0 40 (by omega)).1, k2]; exact z_ne (b := 0) (by omega) (by omega) (by decide) (by decide) (by omega))]
        rw [k4] at hq
        refine hq g12 (J.tx (fun c k a b d => ?_) (fun c k a => ?_) (fun k hk => ?_) ?_ ?_ ?_)
        · rw [(f12 c k (by omega)).1, (FA c k (fun x => x.elim (fz_lo a b d) (fun y => by omega))).1]
        · exact (FA c k (fun x => x.elim (fz_hi a) (fun y => by omega))).tr (f12 c k (by omega))
        · exact (FA 0 k (fun x => x.elim (fz_0 (by omega)) (fun y => by omega))).tr (f12 0 k (by omega))
        · rw [(f12 0 2 (by omega)).1]; exact b2'
        · rw [w42]; exact k2
        · rw [w43]; exact k3
      · rw [if_pos (by rw [(f12 0 40 (by omega)).1, e40]; rfl)]
        rw [er] at hq
        have NW := O.now
        have O3 := (O.1.1 3 (by omega)).1
        have c3 : capT 3 = 8 := rfl
        have O4 := (O.1.1 4 (by omega)).1
        have c4 : capT 4 = 8 := rfl
        have O2 := (O.1.1 2 (by omega)).1
        have c2 : capT 2 = 4 := rfl
        have ef : ∀ r c k, r ≠ 7 → q.fin.f r c k = q.a.f r c k := fun r c k h => by
          unfold PS.fin
          rw [upF_out (by omega), upF_out (by omega)]
        have MM := M12 q O M
        refine m_halves (fun g13 H13 => ?_)
        rintro _ rfl _ rfl _ rfl _ rfl
        have f14 : ∀ c k, ¬ (c = 0 ∧ (k = 94 ∨ k = 95 ∨ k = 60 ∨ k = 61)) → At g13 (sI (sI (sI (sI g13 0 94 0) 0 95 (-1)) 0 60 0) 0 61 0) c k := fun c k hc => ((((At.rf g13 c k).sI (by omega)).sI (by omega)).sI (by omega)).sI (by omega)
        have w94 : gI (sI (sI (sI (sI g13 0 94 0) 0 95 (-1)) 0 60 0) 0 61 0) 0 94 = z 0 := by
          repeat rw [gI_out (by omega)]
          exact gI_in rfl rfl
        have w95 : gI (sI (sI (sI (sI g13 0 94 0) 0 95 (-1)) 0 60 0) 0 61 0) 0 95 = z (-1) := by
          repeat rw [gI_out (by omega)]
          exact gI_in rfl rfl
        have w60 : gI (sI (sI (sI (sI g13 0 94 0) 0 95 (-1)) 0 60 0) 0 61 0) 0 60 = z 0 := by
          repeat rw [gI_out (by omega)]
          exact gI_in rfl rfl
        have w61 : gI (sI (sI (sI (sI g13 0 94 0) 0 95 (-1)) 0 60 0) 0 61 0) 0 61 = z 0 := gI_in rfl rfl
        generalize sI (sI (sI (sI g13 0 94 0) 0 95 (-1)) 0 60 0) 0 61 0 = g14 at *
        have dn : ∀ a b, 2 ≤ a → a < 32 → b < hf a → gI g14 a b = gI g12 a (hf a + b) := fun a b x1 x2 x3 => by
          rw [(f14 a b (by omega)).1]
          exact (H13 a b).1 ⟨x1, x2, x3⟩
        have row : ∀ {r c : Nat}, r < 7 → c < mw r → ∀ (k : Int), 0 ≤ k → k < q.a.n r → gI g14 (mc r c) k.toNat = z (mv r c (q.a.f r c k)) := fun hr hc k k0 k1 => MM.rowD O dn hr hc k0 k1
        have hi : ∀ c k, 32 ≤ c ∨ c ≤ 1 → At g12 g14 c k ∨ (c = 0 ∧ (k = 94 ∨ k = 95 ∨ k = 60 ∨ k = 61)) := fun c k hc => by
          by_cases x : c = 0 ∧ (k = 94 ∨ k = 95 ∨ k = 60 ∨ k = 61)
          · exact Or.inr x
          · exact Or.inl (((H13 c k).2 (by omega)).tr (f14 c k x))
        refine m_begins (a := q.fin) ⟨by show q.a.n 3 ≤ 8; omega, O3.1⟩ ⟨O4.1, by show q.a.n 4 ≤ 8; omega⟩ ⟨O2.1, by show q.a.n 2 ≤ 4; omega⟩ ?_ ?_ ?_ (fun k k0 k1 => ?_) (fun k k0 k1 => ?_) ?_ (fun k k0 k1 => ?_) (fun k k0 k1 => ?_) (fun k k0 k1 => ?_) (fun g15 f15 D15 => ?_)
        · rw [dn 2 3 (by omega) (by omega) (by show 3 < 11; omega)]; exact MM.1 3 (by omega)
        · rw [dn 2 4 (by omega) (by omega) (by show 4 < 11; omega)]; exact MM.1 4 (by omega)
        · rw [dn 2 2 (by omega) (by omega) (by show 2 < 11; omega)]; exact MM.1 2 (by omega)
        · rw [ef 3 5 k (by decide)]
          have := (O.1.1 3 (by omega)).2 k k0 k1
          unfold OkRw at this
          rw [if_neg (by decide), if_neg (by decide), if_neg (by decide), if_pos rfl] at this
          exact this.2.2.2.2
        · rw [ef 1 3 k (by decide)]
          have := (O.1.1 1 (by omega)).2 k k0 k1
          unfold OkRw at this
          rw [if_neg (by decide), if_pos rfl] at this
          exact this.2.2.2.2
        · unfold PS.fin
          rw [upF_out (by omega), upF_out (by omega)]
          exact O.1.2.2.2.2.1
        · rw [ef 3 0 k (by decide), ef 3 1 k (by decide), ef 3 2 k (by decide), ef 3 3 k (by decide), ef 3 4 k (by decide)]
          exact ⟨row (r := 3) (c := 0) (by omega) (by decide) k k0 k1, row (r := 3) (c := 1) (by omega) (by decide) k k0 k1, row (r := 3) (c := 2) (by omega) (by decide) k k0 k1, row (r := 3) (c := 3) (by omega) (by decide) k k0 k1, row (r := 3) (c := 4) (by omega) (by decide) k k0 k1⟩
        · rw [ef 4 0 k (by decide)]
          exact row (r := 4) (c := 0) (by omega) (by decide) k k0 k1
        · rw [ef 2 1 k (by decide)]
          exact row (r := 2) (c := 1) (by omega) (by decide) k k0 k1
        · have M15 : MT g15 q.fin := (MT.down MM O dn).at' (fun c k b1 b2 => f15 c k (by omega))
          have c0' : ∀ k, ¬ (k = 94 ∨ k = 95 ∨ k = 60 ∨ k = 61) → At g12 g15 0 k := fun k hk => ((hi 0 k (by omega)).elim id (fun x => absurd x.2 hk)).tr (f15 0 k (by omega))
          rw [(c0' 34 (by omega)).1, (f12 0 34 (by omega)).1, e34]
          refine hq g15 ⟨⟨M15, D15, NW.1⟩, ⟨?_, ⟨by show (0 : Int) ≤ 0; omega, by show (0 : Int) ≤ 20; omega⟩, fun i i0 i1 => absurd i1 (by show ¬ i < 0; omega)⟩, ⟨?_, fun b => absurd b (by show ¬ false = true; decide)⟩, ⟨?_, ?_, fun k k0 k1 => absurd k1 (by show ¬ k < 0; omega)⟩, ⟨?_, fun k k0 k1 => absurd k1 (by show ¬ k < 0; omega)⟩, ⟨?_, ?_⟩, J.2.2.2.2.2.2.gS NW.1 NW.2⟩
          · rw [(f15 0 61 (by omega)).1]; exact w61
          · rw [(f15 0 60 (by omega)).1]; exact w60
          · rw [(f15 0 94 (by omega)).1]; exact w94
          · rw [(f15 0 95 (by omega)).1]; exact w95
          · rw [(c0' 2 (by omega)).1, (f12 0 2 (by omega)).1]; exact b2'
          · rw [(c0' 42 (by omega)).1, w42]; exact e40
          · rw [(c0' 43 (by omega)).1, w43]; exact e41
end MTEXT
