/-! ===== the reader of the class: the law's line ===== -/
theorem lay_nil {s : PS} {k : Int} (h : s.law k = []) (hk : k = 0 ∨ k = 1) : s.lay k [] s.kc = s := by
  obtain ⟨⟨n, f, fd, wo⟩, on, kc⟩ := s
  rcases hk with rfl | rfl
  · replace h : fd = [] := h
    subst h
    rfl
  · replace h : wo = [] := h
    subst h
    rfl
section LAWL
variable {h g : PH} {v t n : Nat} {T : Int → Int} {L p q k o c fr : Int} {s : PS} {st out : List Int}
theorem x_lawLoop {Q : Int32 → PH → Prop} {rs : SR} (hk : (k = 0 ∧ t = v + 15) ∨ (k = 1 ∧ t = v + 19)) (W : LwX h v T L s k [] 0 s.kc []) (hc : 0 ≤ s.kc ∧ s.kc ≤ 64) (hp : 0 ≤ p ∧ p ≤ L) (e : gI h 3 3 = z p) (e0 : sy T L 701 false [] 0 s.kc [] p = rs)
    (hF : ∀ g kk u, rs = .inl (kk, u) → Fa v h g kk u → Q 0 g)
    (hT : ∀ g out c q, rs = .inr (out, c, q) → RdS g v T L (s.lay k out c) → Fr v h g → gI g 3 3 = z (tE T L q) → Q 1 g) :
    ∃ n, Lp2 (w_X5_readLaw_94 (fun h17 => w_X5_release t 1 h17 (fun h18 => Q 1 h18)) (fun h19 => Q 0 h19) (fun h20 => w_X5_refuse 1 h20 (fun z22 h21 => (z22 = 0 ∨ z22 = 1) ∧ Q z22 h21)) Q t) n 1 0 h := by
  have hv := W.1.1
  have hTT := W.1.2.2.1.2.2.2.2.1
  have hL := W.1.2.2.1.2.2.1
  refine for21 701 (fun i x2 g => ∃ b st o c out q, x2 = z (if b = true then 2 else 1) ∧ sy T L (701 - i).toNat b st o c out q = rs ∧ L - q < 701 - i ∧ (0 ≤ q ∧ q ≤ L) ∧ SyI s.kc b st o c out ∧ o ≤ 8 ∧ LwX g v T L s k st o c out ∧ Fr v h g ∧ gI g 3 3 = z q) 0 rfl (by omega) (by omega) (by omega) ⟨false, [], 0, s.kc, [], p, rfl, e0, by omega, hp, ⟨trivial, rfl, by show s.kc = s.kc + 0 + 0; omega, hc.2, rfl, fun k hk => absurd hk List.not_mem_nil⟩, by omega, W, Fr.rf v h, e⟩ ?_ ?_
  · rintro kb i x2 g i0 i1 ⟨b, st, o, c, out, q, rfl, es, hlt, hq, I, ho, W1, F1, eq⟩ hn
    have en : (701 - i).toNat = (700 - i).toNat + 1 := by omega
    rw [en] at es
    unfold w_X5_readLaw_94
    rw [zn_700, if_neg (by rw [z_lt (by omega) (by omega) (by omega) (by omega)]; omega)]
    refine x_adv W1.1 hq eq (fun g1 R1 f1 c5 c6 t1 ff1 => ?_)
    have W2 := W1.at' ff1
    have F2 := F1.tr f1
    have nx : tK T L q ≠ 0 → L - tE T L q < 701 - (i + 1) ∧ (0 ≤ tE T L q ∧ tE T L q ≤ L) := fun k0 => by
      have := nx_lt hTT hq k0
      omega
    have ok : ∀ b' : Bool, ∀ st' o' c' out' g', tK T L q ≠ 0 → sy T L (700 - i).toNat b' st' o' c' out' (tE T L q) = rs → SyI s.kc b' st' o' c' out' → o' ≤ 8 → LwX g' v T L s k st' o' c' out' → Fr v h g' → gI g' 3 3 = z (tE T L q) → w_X5_readLaw_158 (fun h19 => Q 0 h19) Q kb t (z i) (z (if b' = true then 2 else 1)) g' := fun b' st' o' c' out' g' k0 es' I' ho' W' F' e' => by
      have := nx k0
      unfold w_X5_readLaw_158
      rw [z_inc, if_neg (by cases b' <;> decide)]
      exact hn _ _ ⟨b', st', o', c', out', _, rfl, by rw [show (701 - (i + 1)).toNat = (700 - i).toNat by omega]; exact es', this.1, this.2, I', ho', W', F', e'⟩
    have no : ∀ g' kk u, rs = .inl (kk, u) → Fa v h g' kk u → w_X5_readLaw_158 (fun h19 => Q 0 h19) Q kb t (z i) 0 g' := fun g' kk u er F => by
      unfold w_X5_readLaw_158
      rw [if_pos rfl]
      exact hF g' kk u er F
    cases b with
    | false =>
      rw [if_neg (by decide)]
      unfold w_X5_readLaw_140
      rw [if_pos (by decide)]
      exact x_operand hk W2 I ho hc.1 t1 hq es (fun g' kk er F => no g' kk _ er (Fa.tr F2 F)) (fun k0 g' b' st' o' c' out' es' I' ho' W' F' e' => ok b' st' o' c' out' g' k0 es' I' ho' W' (F2.tr F') e')
    | true =>
      obtain ⟨n1, n2, n3, n4, n5, n6⟩ := I.nums'
      have jn : ¬ (isS T L q 59 = true ∧ o = 0) → w_X5_readLaw_140 (fun h19 => Q 0 h19) Q kb t (z (if true = true then 2 else 1)) (z i) g1 := fun hne => by
        unfold w_X5_readLaw_140
        rw [if_neg (by decide)]
        exact x_join hk W2 I ho hc.1 t1 hq hne es (fun g' kk er F => no g' kk _ er (Fa.tr F2 F)) (fun k0 g' b' st' o' c' out' es' I' ho' W' F' e' => ok b' st' o' c' out' g' k0 es' I' ho' W' (F2.tr F') e')
      rw [if_pos (by decide), W2.2.2.2]
      by_cases o0 : o = 0
      · rw [if_pos (by rw [o0]; rfl)]
        refine x_isSgn t1 hTT hq (n := 59) rfl (by omega) ?_
        cases c1 : isS T L q 59 with
        | false =>
          rw [if_pos (show z (bI false) = 0 from rfl)]
          exact jn (by rw [c1]; exact fun x => absurd x.1 (by decide))
        | true =>
          rw [if_neg (show ¬ z (bI true) = 0 by decide)]
          unfold sy at es
          rw [if_pos ⟨c1, o0⟩] at es
          refine x_release (r := 1) hk W2 n1 (by omega) (by omega) rfl (by omega) (fun g2 W3 f3 => ?_)
          refine hT g2 _ _ _ es.symm W3.1 (F2.tr (fun a b' hab => f3 a b' (by unfold rdC at hab; omega))) ?_
          rw [(f3 3 3 (by omega)).1]
          exact t1.1
      · rw [if_neg (show ¬ z o = 0 from z_ne (by omega) (by omega) (by decide) (by decide) o0)]
        exact jn (fun x => o0 x.2)
  · rintro kb x2 g ⟨b, st, o, c, out, q, rfl, es, hlt, hq, I, ho, W1, F1, eq⟩
    omega
theorem x_law66 {Q : Int32 → PH → Prop} {r0 : PR} (O : OkPs s) (hk : (k = 0 ∧ t = v + 15) ∨ (k = 1 ∧ t = v + 19)) (R : RdS h v T L s) (hp : 0 ≤ p ∧ p ≤ L) (t0 : TcX h T L p) (e0 : lnLaw2 T L s k p = r0)
    (hF : ∀ g kk u, r0 = .inl (kk, u) → Fa v h g kk u → Q 0 g)
    (hT : ∀ g s' q, r0 = .inr (s', q) → RdS g v T L s' → Fr v h g → gI g 3 3 = z q → Q 1 g) : w_X5_readLaw_66 Q t h := by
  have hv := R.1
  have lx : LX h t (s.law k) := by
    rcases hk with ⟨rfl, rfl⟩ | ⟨rfl, rfl⟩
    · exact R.2.2.2.1.2.1
    · exact R.2.2.2.1.2.2.1
  have l64 : (s.law k).length ≤ 64 := by
    rcases hk with ⟨rfl, rfl⟩ | ⟨rfl, rfl⟩
    · exact O.2.2.1.2.2
    · exact O.2.2.2.1.2.2
  have kc := O.2.2.2.2
  unfold lnLaw2 at e0
  unfold w_X5_readLaw_66
  rw [lx.1, zn_0]
  by_cases hl : s.law k = []
  · rw [hl, if_pos (by decide)]
    rw [if_pos hl] at e0
    rintro _ rfl _ rfl
    have fr1 : ∀ a b, ¬ (a = 2 ∧ (b = 4 ∨ b = 5)) → At h (sI (sI h 2 4 (z 0)) 2 5 (z 0)) a b := fun a b hab => ((At.rf h a b).sI (by omega)).sI (by omega)
    have W : LwX (sI (sI h 2 4 (z 0)) 2 5 (z 0)) v T L s k [] 0 s.kc [] := ⟨by rw [lay_nil hl (by omega)]; exact R.at' (fun a b hab => fr1 a b (by unfold stC at hab; omega)), by rw [gI_out (by omega), gI_in rfl rfl]; rfl, trivial, gI_in rfl rfl⟩
    have F1 : Fr v h (sI (sI h 2 4 (z 0)) 2 5 (z 0)) := fun a b hab => fr1 a b (by unfold rdC at hab; omega)
    have e1 : gI (sI (sI h 2 4 (z 0)) 2 5 (z 0)) 3 3 = z (tE T L p) := by rw [(fr1 3 3 (by omega)).1]; exact t0.1
    clear fr1
    generalize sI (sI h 2 4 (z 0)) 2 5 (z 0) = g at *
    refine x_lawLoop hk W (by omega) (R.nx hp) e1 rfl (fun g2 kk u er F => ?_) (fun g2 out c q er R2 F2 e2 => ?_)
    · rw [er] at e0
      exact hF g2 kk u e0.symm (Fa.tr F1 F)
    · rw [er] at e0
      exact hT g2 _ _ e0.symm R2 (F1.tr F2) e2
  · have l1 : 1 ≤ (s.law k).length := by
      cases hs : s.law k with
      | nil => exact absurd hs hl
      | cons a u => simp
    rw [if_neg (by rw [z_le (by omega) (by omega) (by omega) (by omega)]; omega)]
    rw [if_neg hl] at e0
    exact x_refuse (k := 3) R rfl t0.2.1 (fun g F => ⟨Or.inl rfl, hF g 3 _ e0.symm F⟩)
theorem x_readLaw {Q : Int32 → PH → Prop} (O : OkPs s) (R : RdS h v T L s) (hp : 0 ≤ p ∧ p ≤ L) (t0 : TcX h T L p)
    (hF : ∀ g kk u, lnLaw T L s p = .inl (kk, u) → Fa v h g kk u → Q 0 g)
    (hT : ∀ g s' q, lnLaw T L s p = .inr (s', q) → RdS g v T L s' → Fr v h g → gI g 3 3 = z q → Q 1 g) : w_X5_readLaw h Q := by
  have hTT := R.2.2.1.2.2.2.2.1
  have P1 := R.nx hp
  generalize e0 : lnLaw T L s p = r0 at hF hT
  unfold lnLaw at e0
  unfold w_X5_readLaw
  refine x_adv R P1 t0.1 (fun g1 R1 f1 c5 c6 t1 ff1 => ?_)
  refine x_isWrd t1 hTT P1 (n := 13) rfl (by omega) ?_
  have go : (isWd T L (tE T L p) 13 = true ∨ isWd T L (tE T L p) 14 = true) → w_X5_readLaw_37 Q g1 := fun hw => by
    unfold w_X5_readLaw_37
    refine x_isWrd t1 hTT P1 (n := 13) rfl (by omega) ?_
    cases c1 : isWd T L (tE T L p) 13 with
    | true =>
      rw [if_neg (show ¬ z (bI true) = 0 by decide)]
      rw [if_pos c1] at e0
      refine ⟨R1.o1, R1.o2, ?_⟩
      rw [R1.w]
      exact x_law66 O (Or.inl ⟨rfl, rfl⟩) R1 P1 t1 e0 (fun g kk u er F => hF g kk u er (Fa.tr f1 F)) (fun g s' q er R2 F2 e2 => hT g s' q er R2 (f1.tr F2) e2)
    | false =>
      rw [if_pos (show z (bI false) = 0 from rfl)]
      have c2 : isWd T L (tE T L p) 14 = true := hw.resolve_left (by rw [c1]; decide)
      rw [if_neg (by rw [c1]; decide), if_pos c2] at e0
      refine ⟨R1.o1, R1.o2, ?_⟩
      rw [R1.w]
      exact x_law66 O (Or.inr ⟨rfl, rfl⟩) R1 P1 t1 e0 (fun g kk u er F => hF g kk u er (Fa.tr f1 F)) (fun g s' q er R2 F2 e2 => hT g s' q er R2 (f1.tr F2) e2)
  cases c1 : isWd T L (tE T L p) 13 with
  | true =>
    rw [if_neg (show ¬ z (bI true) = 0 by decide)]
    exact go (Or.inl c1)
  | false =>
    rw [if_pos (show z (bI false) = 0 from rfl)]
    refine x_isWrd t1 hTT P1 (n := 14) rfl (by omega) ?_
    cases c2 : isWd T L (tE T L p) 14 with
    | true =>
      rw [if_neg (show ¬ z (bI true) = 0 by decide)]
      exact go (Or.inr c2)
    | false =>
      rw [if_pos (show z (bI false) = 0 from rfl)]
      rw [if_neg (by rw [c1]; decide), if_neg (by rw [c2]; decide)] at e0
      exact x_refuse (k := 1) R1 rfl t1.2.1 (fun g F => ⟨Or.inl rfl, hF g 1 _ e0.symm (Fa.tr f1 F)⟩)
theorem x_readLine {Q : Int32 → PH → Prop} (O : OkPs s) (R : RdS h v T L s) (hp : 0 ≤ p ∧ p ≤ L) (t0 : TcX h T L p)
    (hF : ∀ g kk u, pLine T L s p = .inl (kk, u) → Fa v h g kk u → Q 0 g)
    (hT : ∀ g s' q, pLine T L s p = .inr (s', q) → RdS g v T L s' → Fr v h g → gI g 3 3 = z q → Q 1 g) : w_X5_readLine h Q := by
  have hv := R.1
  have hTT := R.2.2.1.2.2.2.2.1
  have tr := tok_rg (T := T) hTT hp
  have on := O.2.1
  have tq := t0
  obtain ⟨u1, u2, u3, m, u4, u5⟩ := t0
  unfold pLine at hF hT
  unfold w_X5_readLine
  rw [u3, u4]
  have bad : ∀ x : Int, (∀ j : Int, 0 ≤ j → j ≤ 12 → x ≠ j) → (-2 ≤ x ∧ x < 1000) → (∀ g, Fa v h g 1 (tS T L p) → Q 0 g) → w_X5_readLine_22 Q (z x) h := fun x hx hr hb => by
    unfold w_X5_readLine_22
    rw [if_neg (show ¬ z x = 0 from z_ne (by omega) (by omega) (by decide) (by decide) (hx 0 (by omega) (by omega))), if_neg (show ¬ z x = 1 from z_ne (by omega) (by omega) (by decide) (by decide) (hx 1 (by omega) (by omega))), if_neg (show ¬ z x = 2 from z_ne (by omega) (by omega) (by decide) (by decide) (hx 2 (by omega) (by omega))), if_neg (show ¬ z x = 3 from z_ne (by omega) (by omega) (by decide) (by decide) (hx 3 (by omega) (by omega))), if_neg (show ¬ z x = 4 from z_ne (by omega) (by omega) (by decide) (by decide) (hx 4 (by omega) (by omega))), if_neg (show ¬ z x = 5 from z_ne (by omega) (by omega) (by decide) (by decide) (hx 5 (by omega) (by omega))), if_neg (show ¬ z x = 6 from z_ne (by omega) (by omega) (by decide) (by decide) (hx 6 (by omega) (by omega))), if_neg (show ¬ z x = 7 from z_ne (by omega) (by omega) (by decide) (by decide) (hx 7 (by omega) (by omega))), if_neg (show ¬ z x = 8 from z_ne (by omega) (by omega) (by decide) (by decide) (hx 8 (by omega) (by omega))), if_neg (show ¬ z x = 9 from z_ne (by omega) (by omega) (by decide) (by decide) (hx 9 (by omega) (by omega))), if_neg (show ¬ z x = 10 from z_ne (by omega) (by omega) (by decide) (by decide) (hx 10 (by omega) (by omega))), if_neg (show ¬ z x = 11 from z_ne (by omega) (by omega) (by decide) (by decide) (hx 11 (by omega) (by omega))), if_neg (show ¬ z x = 12 from z_ne (by omega) (by omega) (by decide) (by decide) (hx 12 (by omega) (by omega)))]
    exact x_refuse (k := 1) R rfl u2 (fun g F => ⟨Or.inl rfl, hb g F⟩)
  by_cases k4 : tK T L p = 4
  · rw [if_pos (by rw [k4]; rfl)]
    rw [if_pos k4] at hF hT
    have em : m = tV T L p := u5.2 (by omega)
    have tv := tr.2.2.2.2.2.2.2.1 k4
    rw [em]
    rw [em] at u4
    generalize tV T L p = w at *
    have cs : w = 0 ∨ w = 1 ∨ w = 2 ∨ w = 3 ∨ w = 4 ∨ w = 5 ∨ w = 6 ∨ w = 7 ∨ w = 8 ∨ w = 9 ∨ w = 10 ∨ w = 11 ∨ w = 12 ∨ 13 ≤ w := by omega
    rcases cs with rfl | rfl | rfl | rfl | rfl | rfl | rfl | rfl | rfl | rfl | rfl | rfl | rfl | w13
    · rw [if_pos rfl] at hF hT
      unfold w_X5_readLine_22
      rw [if_pos (show z 0 = 0 from rfl)]
      exact x_readPlace O R hp tq (fun g kk u er F => ⟨Or.inl rfl, hF g kk u er F⟩) (fun g s' q er R2 F2 e2 => ⟨Or.inr rfl, hT g s' q er R2 F2 e2⟩)
    · rw [if_neg (by decide), if_pos rfl] at hF hT
      unfold w_X5_readLine_22
      rw [if_neg (by decide), if_pos (show z 1 = 1 from rfl)]
      exact x_readLink O R hp tq (fun g kk u er F => ⟨Or.inl rfl, hF g kk u er F⟩) (fun g s' q er R2 F2 e2 => ⟨Or.inr rfl, hT g s' q er R2 F2 e2⟩)
    · rw [if_neg (by decide), if_neg (by decide), if_pos rfl] at hF hT
      unfold w_X5_readLine_22
      rw [if_neg (by decide), if_neg (by decide), if_pos (show z 2 = 2 from rfl)]
      exact x_readOwner O R hp tq (fun g kk u er F => ⟨Or.inl rfl, hF g kk u er F⟩) (fun g s' q er R2 F2 e2 => ⟨Or.inr rfl, hT g s' q er R2 F2 e2⟩)
    · rw [if_neg (by decide), if_neg (by decide), if_neg (by decide), if_pos rfl] at hF hT
      unfold w_X5_readLine_22
      rw [if_neg (by decide), if_neg (by decide), if_neg (by decide), if_pos (show z 3 = 3 from rfl)]
      exact x_readHeir O R hp tq (fun g kk u er F => ⟨Or.inl rfl, hF g kk u er F⟩) (fun g s' q er R2 F2 e2 => ⟨Or.inr rfl, hT g s' q er R2 F2 e2⟩)
    · rw [if_neg (by decide), if_neg (by decide), if_neg (by decide), if_neg (by decide), if_pos rfl] at hF hT
      unfold w_X5_readLine_22
      rw [if_neg (by decide), if_neg (by decide), if_neg (by decide), if_neg (by decide), if_pos (show z 4 = 4 from rfl)]
      exact x_readNoise O R hp tq (fun g kk u er F => ⟨Or.inl rfl, hF g kk u er F⟩) (fun g s' q er R2 F2 e2 => ⟨Or.inr rfl, hT g s' q er R2 F2 e2⟩)
    · rw [if_neg (by decide), if_neg (by decide), if_neg (by decide), if_neg (by decide), if_neg (by decide), if_pos rfl] at hF hT
      unfold w_X5_readLine_22
      rw [if_neg (by decide), if_neg (by decide), if_neg (by decide), if_neg (by decide), if_neg (by decide), if_pos (show z 5 = 5 from rfl)]
      refine ⟨R.o1, R.o2, ?_⟩
      exact x_readHolding (r := 4) (m := 8) O R hp tq (Or.inl ⟨rfl, rfl⟩) (by rw [R.w]) rfl (fun g kk u er F => ⟨Or.inl rfl, hF g kk u er F⟩) (fun g s' q er R2 F2 e2 => ⟨Or.inr rfl, hT g s' q er R2 F2 e2⟩)
    · rw [if_neg (by decide), if_neg (by decide), if_neg (by decide), if_neg (by decide), if_neg (by decide), if_neg (by decide), if_pos rfl] at hF hT
      unfold w_X5_readLine_22
      rw [if_neg (by decide), if_neg (by decide), if_neg (by decide), if_neg (by decide), if_neg (by decide), if_neg (by decide), if_pos (show z 6 = 6 from rfl)]
      refine ⟨R.o1, R.o2, ?_⟩
      exact x_readHolding (r := 5) (m := 6) O R hp tq (Or.inr ⟨rfl, rfl⟩) (by rw [R.w]) rfl (fun g kk u er F => ⟨Or.inl rfl, hF g kk u er F⟩) (fun g s' q er R2 F2 e2 => ⟨Or.inr rfl, hT g s' q er R2 F2 e2⟩)
    · rw [if_neg (by decide), if_neg (by decide), if_neg (by decide), if_neg (by decide), if_neg (by decide), if_neg (by decide), if_neg (by decide), if_pos rfl] at hF hT
      unfold w_X5_readLine_22
      rw [if_neg (by decide), if_neg (by decide), if_neg (by decide), if_neg (by decide), if_neg (by decide), if_neg (by decide), if_neg (by decide), if_pos (show z 7 = 7 from rfl)]
      exact x_readTask O R hp tq (fun g kk u er F => ⟨Or.inl rfl, hF g kk u er F⟩) (fun g s' q er R2 F2 e2 => ⟨Or.inr rfl, hT g s' q er R2 F2 e2⟩)
    · rw [if_neg (by decide), if_neg (by decide), if_neg (by decide), if_neg (by decide), if_neg (by decide), if_neg (by decide), if_neg (by decide), if_neg (by decide), if_pos rfl] at hF hT
      unfold w_X5_readLine_22
      rw [if_neg (by decide), if_neg (by decide), if_neg (by decide), if_neg (by decide), if_neg (by decide), if_neg (by decide), if_neg (by decide), if_neg (by decide), if_pos (show z 8 = 8 from rfl)]
      exact x_readDog O R hp tq (fun g kk u er F => ⟨Or.inl rfl, hF g kk u er F⟩) (fun g s' q er R2 F2 e2 => ⟨Or.inr rfl, hT g s' q er R2 F2 e2⟩)
    · rw [if_neg (by decide), if_neg (by decide), if_neg (by decide), if_neg (by decide), if_neg (by decide), if_neg (by decide), if_neg (by decide), if_neg (by decide), if_neg (by decide), if_pos rfl] at hF hT
      unfold w_X5_readLine_22
      rw [if_neg (by decide), if_neg (by decide), if_neg (by decide), if_neg (by decide), if_neg (by decide), if_neg (by decide), if_neg (by decide), if_neg (by decide), if_neg (by decide), if_pos (show z 9 = 9 from rfl)]
      exact x_readOnce (i := 0) (lo := 1) (hi := 9) O R hp tq (by omega) rfl rfl rfl (by omega) (by omega) (by omega) (fun g kk u er F => ⟨Or.inl rfl, hF g kk u er F⟩) (fun g s' q er R2 F2 e2 => ⟨Or.inr rfl, hT g s' q er R2 F2 e2⟩)
    · rw [if_neg (by decide), if_neg (by decide), if_neg (by decide), if_neg (by decide), if_neg (by decide), if_neg (by decide), if_neg (by decide), if_neg (by decide), if_neg (by decide), if_neg (by decide), if_pos rfl] at hF hT
      unfold w_X5_readLine_22
      rw [if_neg (by decide), if_neg (by decide), if_neg (by decide), if_neg (by decide), if_neg (by decide), if_neg (by decide), if_neg (by decide), if_neg (by decide), if_neg (by decide), if_neg (by decide), if_pos (show z 10 = 10 from rfl)]
      exact x_readOnce (i := 1) (lo := 0) (hi := 9) O R hp tq (by omega) rfl rfl rfl (by omega) (by omega) (by omega) (fun g kk u er F => ⟨Or.inl rfl, hF g kk u er F⟩) (fun g s' q er R2 F2 e2 => ⟨Or.inr rfl, hT g s' q er R2 F2 e2⟩)
    · rw [if_neg (by decide), if_neg (by decide), if_neg (by decide), if_neg (by decide), if_neg (by decide), if_neg (by decide), if_neg (by decide), if_neg (by decide), if_neg (by decide), if_neg (by decide), if_neg (by decide), if_pos rfl] at hF hT
      unfold w_X5_readLine_22
      rw [if_neg (by decide), if_neg (by decide), if_neg (by decide), if_neg (by decide), if_neg (by decide), if_neg (by decide), if_neg (by decide), if_neg (by decide), if_neg (by decide), if_neg (by decide), if_neg (by decide), if_pos (show z 11 = 11 from rfl)]
      exact x_readOnce (i := 2) (lo := 0) (hi := 99999) O R hp tq (by omega) rfl rfl rfl (by omega) (by omega) (by omega) (fun g kk u er F => ⟨Or.inl rfl, hF g kk u er F⟩) (fun g s' q er R2 F2 e2 => ⟨Or.inr rfl, hT g s' q er R2 F2 e2⟩)
    · rw [if_neg (by decide), if_neg (by decide), if_neg (by decide), if_neg (by decide), if_neg (by decide), if_neg (by decide), if_neg (by decide), if_neg (by decide), if_neg (by decide), if_neg (by decide), if_neg (by decide), if_neg (by decide), if_pos rfl] at hF hT
      unfold w_X5_readLine_22
      rw [if_neg (by decide), if_neg (by decide), if_neg (by decide), if_neg (by decide), if_neg (by decide), if_neg (by decide), if_neg (by decide), if_neg (by decide), if_neg (by decide), if_neg (by decide), if_neg (by decide), if_neg (by decide), if_pos (show z 12 = 12 from rfl)]
      exact x_readLaw O R hp tq (fun g kk u er F => ⟨Or.inl rfl, hF g kk u er F⟩) (fun g s' q er R2 F2 e2 => ⟨Or.inr rfl, hT g s' q er R2 F2 e2⟩)
    · refine bad w (fun j j0 j1 => by omega) (by omega) (fun g F => hF g 1 _ ?_ F)
      rw [if_neg (by omega), if_neg (by omega), if_neg (by omega), if_neg (by omega), if_neg (by omega), if_neg (by omega), if_neg (by omega), if_neg (by omega), if_neg (by omega), if_neg (by omega), if_neg (by omega), if_neg (by omega), if_neg (by omega)]
      rfl
  · rw [if_neg (show ¬ z (tK T L p) = 4 from z_ne (by omega) (by omega) (by decide) (by decide) k4)]
    rw [if_neg k4] at hF
    exact bad (-1) (fun j j0 j1 => by omega) (by omega) (fun g F => hF g 1 _ rfl F)
end LAWL
