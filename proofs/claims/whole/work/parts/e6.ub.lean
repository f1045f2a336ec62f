/-! ===== the class reads a text ===== -/
def rdD (v c : Nat) : Prop := (v ≤ c ∧ c < v + 23) ∨ c = 2 ∨ c = 3 ∨ c = 5 ∨ c = 6 ∨ c = 7
section READ
variable {h g : PH} {v : Nat} {T : Int → Int} {L n : Int}
theorem x_clearW {Q : PH → Prop} (hv : v = 8 ∨ v = 31) (S : WS h v) (hq : ∀ g, WX g v a0 → (∀ c k, ¬ (v ≤ c ∧ c < v + 23) → At h g c k) → Q g) : w_X8_clear v h Q := by
  unfold w_X8_clear w_X6_clear w_X1_clear
  rintro _ rfl _ rfl _ rfl _ rfl _ rfl _ rfl _ rfl _ rfl _ rfl _ rfl _ rfl _ rfl _ rfl _ rfl _ rfl
  refine hq _ ⟨fun r hr => ⟨⟨?_, ?_, ?_, ?_⟩, fun k c k0 k1 => absurd k1 (by show ¬ k < 0; omega)⟩, ⟨?_, fun i hi => absurd hi (Nat.not_lt_zero i), ?_⟩, ⟨?_, fun i hi => absurd hi (Nat.not_lt_zero i), ?_⟩, ?_, ?_, ?_⟩ (fun c k hc => ?_)
  · have := (S r hr).1
    repeat rw [gI_out (by omega)]
    exact this
  · have := (S r hr).2
    repeat rw [gI_out (by omega)]
    exact this
  · have : r = 0 ∨ r = 1 ∨ r = 2 ∨ r = 3 ∨ r = 4 ∨ r = 5 ∨ r = 6 := by omega
    rcases this with rfl | rfl | rfl | rfl | rfl | rfl | rfl
    all_goals (repeat rw [gI_out (by omega)])
    all_goals exact gI_in rfl rfl
  · have cw := cWM r
    have iw : isW v := by unfold isW; omega
    have al := al_W iw r hr
    have : r = 0 ∨ r = 1 ∨ r = 2 ∨ r = 3 ∨ r = 4 ∨ r = 5 ∨ r = 6 := by omega
    refine ⟨(Int.le_refl 0 : (0 : Int) ≤ 0), ?_, ?_, ?_, ?_, ?_⟩
    · rcases this with rfl | rfl | rfl | rfl | rfl | rfl | rfl <;> decide
    · rcases this with rfl | rfl | rfl | rfl | rfl | rfl | rfl <;> decide
    · rcases this with rfl | rfl | rfl | rfl | rfl | rfl | rfl <;> decide
    · rcases this with rfl | rfl | rfl | rfl | rfl | rfl | rfl <;> decide
    · rw [show v + 1 + 2 * r + 1 = v + 2 + 2 * r by omega]
      exact al.symm
  all_goals (try (repeat rw [gI_out (by omega)]))
  all_goals (try exact gI_in rfl rfl)
  exact (((((((((((((((At.rf h c k).sI (by omega)).sI (by omega)).sI (by omega)).sI (by omega)).sI (by omega)).sI (by omega)).sI (by omega)).sI (by omega)).sI (by omega)).sI (by omega)).sI (by omega)).sI (by omega)).sI (by omega)).sI (by omega)).sI (by omega)
theorem x_readAll {Q : Int32 → PH → Prop} {rt : (Int × Int) ⊕ (PS × Int)} {r1 : Nat} {x2 : Int32} (hv : v = 8 ∨ v = 31) (S : WS h v) (er : r1 = 1) (ex : x2 = z L) (hL : 0 ≤ L ∧ L ≤ 700) (hb : ∀ k : Int, 0 ≤ k → k < L → gI h 1 k.toNat = z (sb (T k))) (hT : ∀ k, 0 ≤ T k ∧ T k < 256) (h4 : ∀ k, k < 24 → gI h 4 k = z (tg24 k)) (e0 : pText T L 701 0 ps0 0 = rt)
    (hF : ∀ g kk u, rt = .inl (kk, u) → gI g 2 8 = z kk → gI g 2 9 = z u → WS g v → (∀ c k, ¬ rdD v c → At h g c k) → Q 0 g)
    (hG : ∀ g s' l, rt = .inr (s', l) → OkPs s' → gI g 2 8 = z 0 → gI g 2 9 = z (-1) → WX g v s'.fin → gI g v 12 = z l → (∀ c k, ¬ rdD v c → At h g c k) → Q 1 g) : w_X5_read r1 v x2 h Q := by
  subst er ex
  unfold w_X5_read w_X7_begin
  rintro _ rfl _ rfl _ rfl _ rfl
  have f1 : ∀ c k, ¬ ((c = 3 ∧ 1 ≤ k ∧ k ≤ 3) ∨ (c = 2 ∧ k = 7)) → At h (sP (sI (sI (sP h 3 1 (1 + 1)) 3 2 (z L)) 3 3 0) 2 7 (v + 1)) c k := fun c k hc => ((((At.rf h c k).sP (by omega)).sI (by omega)).sI (by omega)).sP (by omega)
  have p31 : gP (sP (sI (sI (sP h 3 1 (1 + 1)) 3 2 (z L)) 3 3 0) 2 7 (v + 1)) 3 1 = 2 := by
    rw [gP_sP, if_neg (by omega), gP_sI, gP_sI, gP_sP, if_pos ⟨rfl, rfl⟩]
  have p27 : gP (sP (sI (sI (sP h 3 1 (1 + 1)) 3 2 (z L)) 3 3 0) 2 7 (v + 1)) 2 7 = v + 1 := by
    rw [gP_sP, if_pos ⟨rfl, rfl⟩]
  have i32 : gI (sP (sI (sI (sP h 3 1 (1 + 1)) 3 2 (z L)) 3 3 0) 2 7 (v + 1)) 3 2 = z L := by
    rw [gI_sP, gI_out (by omega), gI_in rfl rfl]
  have i33 : gI (sP (sI (sI (sP h 3 1 (1 + 1)) 3 2 (z L)) 3 3 0) 2 7 (v + 1)) 3 3 = z 0 := by
    rw [gI_sP, gI_in rfl rfl]
    rfl
  generalize sP (sI (sI (sP h 3 1 (1 + 1)) 3 2 (z L)) 3 3 0) 2 7 (v + 1) = g1 at *
  have ox : oX (v + 1 - 1) 8 := by rcases hv with e | e <;> rw [e] <;> exact ⟨by decide, rfl⟩
  rw [p27]
  refine ⟨by omega, ox, ?_⟩
  rw [show v + 1 - 1 = v by omega]
  refine x_clearW hv (S.fr (fun c k b1 b2 => f1 c k (by omega))) (fun g2 W2 f2 => ?_)
  rintro _ rfl _ rfl _ rfl
  have f3 : ∀ c k, ¬ ((v ≤ c ∧ c < v + 23) ∨ (c = 2 ∧ (k = 6 ∨ k = 8 ∨ k = 9))) → At g1 (sI (sI (sI g2 2 6 0) 2 8 0) 2 9 (-1)) c k := fun c k hc => (((f2 c k (by omega)).sI (by omega)).sI (by omega)).sI (by omega)
  have W3 : WX (sI (sI (sI g2 2 6 0) 2 8 0) 2 9 (-1)) v a0 := W2.at' (fun c k b1 b2 _ _ _ _ => (((At.rf g2 c k).sI (by omega)).sI (by omega)).sI (by omega))
  have c6 : gI (sI (sI (sI g2 2 6 0) 2 8 0) 2 9 (-1)) 2 6 = z 0 := by rw [gI_out (by omega), gI_out (by omega), gI_in rfl rfl]; rfl
  have c8 : gI (sI (sI (sI g2 2 6 0) 2 8 0) 2 9 (-1)) 2 8 = z 0 := by rw [gI_out (by omega), gI_in rfl rfl]; rfl
  have c9 : gI (sI (sI (sI g2 2 6 0) 2 8 0) 2 9 (-1)) 2 9 = z (-1) := by rw [gI_in rfl rfl]; rfl
  clear f2 W2
  generalize sI (sI (sI g2 2 6 0) 2 8 0) 2 9 (-1) = g3 at *
  refine for10 3 (fun i g => (∀ c k, ¬ c = 6 → At g3 g c k) ∧ ∀ j : Nat, (j : Int) < i → gI g 6 j = z (-1)) 0 rfl (by omega) (by omega) (by omega) ⟨fun c k _ => At.rf g3 c k, fun j hj => by omega⟩ ?_ ?_
  · rintro kb i g i0 i1 ⟨fr, hJ⟩ hn
    unfold w_X5_read_39
    rw [zn_3, if_neg (by rw [z_le (by omega) (by omega) (by omega) (by omega)]; omega), z_iN (a := i) i0 (by omega)]
    refine ⟨z_in (by omega) (by omega) (by omega), ?_⟩
    rintro _ rfl
    rw [z_inc]
    refine hn _ ⟨fun c k hc => (fr c k hc).sI (by omega), fun j hj => ?_⟩
    by_cases c : j = i.toNat
    · rw [c, gI_in rfl rfl]; rfl
    · rw [gI_out (by omega)]; exact hJ j (by omega)
  · rintro kb g4 ⟨f4, o4⟩
    unfold w_X5_read_39
    rw [zn_3, if_pos (by rw [z_le (by omega) (by omega) (by omega) (by omega)]; omega)]
    have hgp : gP g4 2 7 = v + 1 := by rw [(f4 2 7 (by omega)).2.2, (f3 2 7 (by omega)).2.2]; exact p27
    have SC : ScX g4 T L := by
      refine ⟨?_, ?_, hL, fun k k0 k1 => ?_, hT, fun k hk => ?_⟩
      · rw [(f4 3 1 (by omega)).2.2, (f3 3 1 (by omega)).2.2]; exact p31
      · rw [(f4 3 2 (by omega)).1, (f3 3 2 (by omega)).1]; exact i32
      · rw [(f4 1 _ (by omega)).1, (f3 1 _ (by omega)).1, (f1 1 _ (by omega)).1]; exact hb k k0 k1
      · rw [(f4 4 k (by omega)).1, (f3 4 k (by omega)).1, (f1 4 k (by omega)).1]; exact h4 k hk
    have R4 : RdS g4 v T L ps0 := ⟨hv, hgp, SC, W3.at' (fun c k b1 b2 _ _ _ _ => f4 c k (by omega)), fun i hi => o4 i (by omega), by rw [(f4 2 6 (by omega)).1]; exact c6⟩
    have e33 : gI g4 3 3 = z 0 := by rw [(f4 3 3 (by omega)).1, (f3 3 3 (by omega)).1]; exact i33
    have e8 : gI g4 2 8 = z 0 := by rw [(f4 2 8 (by omega)).1]; exact c8
    have e9 : gI g4 2 9 = z (-1) := by rw [(f4 2 9 (by omega)).1]; exact c9
    have F4 : ∀ c k, ¬ rdD v c → At h g4 c k := fun c k hc => ((f1 c k (by unfold rdD at hc; omega)).tr (f3 c k (by unfold rdD at hc; omega))).tr (f4 c k (by unfold rdD at hc; omega))
    clear f4 f3 f1 o4 W3 c6 c8 c9 p31 p27 i32 i33
    refine for10 701 (fun l g => ∃ s' q, pText T L (701 - l).toNat l s' q = rt ∧ OkPs s' ∧ RdS g v T L s' ∧ Fr v g4 g ∧ gI g 3 3 = z q ∧ (0 ≤ q ∧ q ≤ L) ∧ L - q < 701 - l) 0 rfl (by omega) (by omega) (by omega) ⟨ps0, 0, e0, ps0_ok, R4, Fr.rf v g4, e33, by omega, by omega⟩ ?_ ?_
    · rintro kb' l g l0 l1 ⟨s', q, et, O, R, F, e3, hq, hlt⟩ hn
      have hTT := hT
      rw [show (701 - l).toNat = (700 - l).toNat + 1 by omega] at et
      unfold pText at et
      unfold w_X5_read_66
      rw [zn_700, if_neg (by rw [z_lt (by omega) (by omega) (by omega) (by omega)]; omega)]
      refine x_adv R hq e3 (fun g5 R5 f5 d5 d6 t5 ff5 => ?_)
      have F5 := F.tr f5
      have tr := (tok_rg (T := T) hTT hq).2.2.2.2.1
      rw [t5.2.2.1]
      by_cases k0 : tK T L q = 0
      · rw [if_pos (by rw [k0]; rfl)]
        rw [if_pos k0] at et
        have on := O.2.1
        have O7 := O.1.2.2
        obtain ⟨x1, x2, x3, x4, x5, x6⟩ := R5
        obtain ⟨m1, m2, m3, m4, m5, m6⟩ := x4
        have FG : ∀ c k, ¬ rdD v c → At h g5 c k := fun c k hc => (F4 c k hc).tr (F5 c k (by unfold rdC; unfold rdD at hc; omega))
        have E8 : gI g5 2 8 = z 0 := by rw [(F5 2 8 (by unfold rdC; omega)).1]; exact e8
        have E9 : gI g5 2 9 = z (-1) := by rw [(F5 2 9 (by unfold rdC; omega)).1]; exact e9
        rw [x2]
        refine ⟨by omega, ox, ?_⟩
        rintro _ rfl
        have q2 : gP (sI g5 (v + 1 - 1) 12 (z l)) 2 7 = v + 1 := by rw [gP_sI]; exact x2
        rw [q2]
        rw [show v + 1 - 1 = v by omega] at ox ⊢
        have h60 : gI (sI g5 v 12 (z l)) 6 (iN 0) = z (s'.on 0) := by rw [gI_out (by omega)]; exact x5 0 (by omega)
        have h9 : gI (sI g5 v 12 (z l)) v 9 = z 5 := by rw [gI_out (by omega), m4, O7.1]
        refine ⟨by omega, ox, ?_⟩
        have fin : ∀ w5 : Int, w5 = (if s'.on 0 = -1 then 5 else s'.on 0) → w_X5_read_130 1 v Q v (z w5) (sI g5 v 12 (z l)) := fun w5 ew => by
          unfold w_X5_read_130
          rintro _ rfl
          have q3 : gP (sI (sI g5 v 12 (z l)) v 9 (z w5)) 2 7 = v + 1 := by rw [gP_sI, gP_sI]; exact x2
          rw [q3, show v + 1 - 1 = v by omega]
          refine ⟨by omega, ox, ?_⟩
          have h61 : gI (sI (sI g5 v 12 (z l)) v 9 (z w5)) 6 (iN 1) = z (s'.on 1) := by rw [gI_out (by omega), gI_out (by omega)]; exact x5 1 (by omega)
          have h10 : gI (sI (sI g5 v 12 (z l)) v 9 (z w5)) v 10 = z 1 := by rw [gI_out (by omega), gI_out (by omega), m5, O7.2.1]
          have last : ∀ u : Int, u = (if s'.on 1 = -1 then 1 else s'.on 1) → Q 1 (sI (sI (sI g5 v 12 (z l)) v 9 (z w5)) v 10 (z u)) := fun u eu => by
            have fl : ∀ c k, ¬ (c = v ∧ (k = 9 ∨ k = 10 ∨ k = 12)) → At g5 (sI (sI (sI g5 v 12 (z l)) v 9 (z w5)) v 10 (z u)) c k := fun c k hc => (((At.rf g5 c k).sI (by omega)).sI (by omega)).sI (by omega)
            refine hG _ s' l et.symm O ?_ ?_ ⟨fun r hr => ⟨(m1 r hr).1.at' (fun k => fl _ k (by omega)), fun k c k0 k1 k2 => ?_⟩, m2.at' (fun c k b1 b2 => fl c k (by omega)), m3.at' (fun c k b1 b2 => fl c k (by omega)), ?_, ?_, ?_⟩ ?_ (fun c k hc => (FG c k hc).tr (fl c k (by unfold rdD at hc; omega)))
            · rw [(fl 2 8 (by omega)).1]; exact E8
            · rw [(fl 2 9 (by omega)).1]; exact E9
            · rw [(fl _ _ (by omega)).1, (m1 r hr).2 k c k0 k1 k2]
              unfold PS.fin
              rw [upF_out (by omega), upF_out (by omega)]
            · unfold PS.fin
              rw [gI_out (by omega), gI_in rfl rfl, upF_out (by omega), upF_in, ew]
            · unfold PS.fin
              rw [gI_in rfl rfl, upF_in, eu]
            · unfold PS.fin
              rw [(fl v 11 (by omega)).1, upF_out (by omega), upF_out (by omega)]
              exact m6
            · rw [gI_out (by omega), gI_out (by omega), gI_in rfl rfl]
          rw [h61]
          by_cases c1 : s'.on 1 = -1
          · rw [if_pos (by rw [c1]; rfl)]
            refine ⟨by omega, ox, ?_⟩
            rintro _ rfl
            rw [h10]
            exact last 1 (by rw [if_pos c1])
          · rw [if_neg (show ¬ z (s'.on 1) = -1 from z_ne (by omega) (by omega) (by decide) (by decide) c1)]
            rintro _ rfl
            exact last _ (by rw [if_neg c1])
        rw [h60]
        by_cases c0 : s'.on 0 = -1
        · rw [if_pos (by rw [c0]; rfl)]
          refine ⟨by omega, ox, ?_⟩
          rw [h9]
          exact fin 5 (by rw [if_pos c0])
        · rw [if_neg (show ¬ z (s'.on 0) = -1 from z_ne (by omega) (by omega) (by decide) (by decide) c0)]
          exact fin _ (by rw [if_neg c0])
      · rw [if_neg (show ¬ z (tK T L q) = 0 from z_ne (by omega) (by omega) (by decide) (by decide) k0)]
        rw [if_neg k0] at et
        refine x_readLine O R5 hq t5 (fun g6 kk u er Fl => ?_) (fun g6 s'' q' er R6 F6 e6 => ?_)
        · rw [if_pos rfl]
          rw [er] at et
          have FF := Fa.tr F5 Fl
          exact hF g6 kk u et.symm FF.1 FF.2.1 FF.2.2.1 (fun c k hc => (F4 c k hc).tr (FF.2.2.2 c k (by unfold rdC; unfold rdD at hc; omega)))
        · rw [if_neg (by decide), z_inc]
          rw [er] at et
          have lo := line_ok hTT O hq er
          have b := lo.1
          have nx := nx_lt (T := T) (L := L) hTT hq k0
          unfold bh at b
          exact hn _ ⟨s'', q', by rw [show (701 - (l + 1)).toNat = (700 - l).toNat by omega]; exact et, lo.2, R6, F5.tr F6, e6, by omega, by omega⟩
    · rintro kb' g ⟨s', q, et, O, R, F, e3, hq, hlt⟩
      omega
end READ
def fS (s : St) (fk fa : Int) : St := (s.1, s.2.1, s.2.2.1, s.2.2.2.1, (0, s.tp), (fk, fa))
def gS (s : St) (a : Wd) : St := (a, (0, fun _ => a), (false, s.im), (0, s.nt, -1), (0, s.tp), (0, -1))
def rT (s : St) (n : Int) : (Int × Int) ⊕ (PS × Int) := pText s.tp n 701 0 ps0 0
def t_text (s : St) (n : Int) : St := if n < 0 ∨ s.tn < n then s else match rT s n with
  | .inl (k, u) => fS s k u
  | .inr (s', _) => gS s s'.fin
def a_text (s : St) (n : Int) : Int := if n < 0 ∨ s.tn < n then -2 else match rT s n with
  | .inl _ => -1
  | .inr (_, l) => l
theorem OkS.fS {s : St} {fk fa : Int} (O : OkS s) : OkS (fS s fk fa) := ⟨O.1, O.2.1, O.2.2.1, O.2.2.2.1, O.2.2.2.2.1, O.2.2.2.2.2.1, ⟨⟨Int.le_refl _, by show (0 : Int) ≤ 700; decide, rfl⟩, O.2.2.2.2.2.2.2⟩⟩
theorem OkS.gS {s : St} {a : Wd} (O : OkS s) (N : Now a) (h9 : a.n 9 = 0) : OkS (gS s a) := ⟨⟨N, h9⟩, ⟨Int.le_refl _, by show (0 : Int) ≤ 20; decide⟩, rfl, fun k _ _ => ⟨N, h9, Tld.rf a⟩, fun x => absurd x (by show ¬ false = true; decide), ⟨⟨Int.le_refl _, by show (0 : Int) ≤ 24; decide⟩, ⟨Int.le_refl _, by show (-1 : Int) ≤ 0; decide⟩, fun k k0 k1 => absurd k1 (by show ¬ k < 0; omega)⟩, ⟨⟨Int.le_refl _, by show (0 : Int) ≤ 700; decide, rfl⟩, O.2.2.2.2.2.2.2⟩⟩
