/-! ===== the reference's reader: the law's line, any line ===== -/
section MLAW
variable {h : PH} {T : Int → Int} {L p : Int} {s : PS} {r0 : PR}
theorem m_lnF2 {Q : PH → Prop} {h0 g : PH} (S : ScM g T L) (f0 : fzF h0 g) (e : gI g 0 40 = z 0) (hp : 0 ≤ p ∧ p ≤ L) (t : TcM g T L p) (hn : isS T L p 59 = false) (er : r0 = pF T L 1 p) (hq : ∀ g, LnP h0 g T L r0 → Q g) : w_X10_line_671 Q g := by
  have n59 := isS_no hn
  refine m_671 (r := r0) (s' := ps0) S (Or.inr ⟨e, p, hp, t, ?_⟩) (fun g2 f x => ?_)
  · unfold pEnd
    rw [if_neg n59]
    exact er
  · refine hq g2 ⟨f0.tr (fun c k hc => f c k (fun x => hc (Or.inl ⟨x.1, by omega⟩))), S.at' (fun c k hc => f c k (by omega)), Or.inl ?_⟩
    rcases x with x | ⟨e, q, a, b, c, d⟩
    · exact x
    · exfalso
      rw [er] at c
      cases c
theorem m_lnF3 {Q : PH → Prop} {h0 g : PH} (S : ScM g T L) (f0 : fzF h0 g) (F : FtF g r0) (hq : ∀ g, LnP h0 g T L r0 → Q g) : w_X10_line_671 Q g := by
  refine m_671 (s' := ps0) S (Or.inl F) (fun g2 f x => ?_)
  refine hq g2 ⟨f0.tr (fun c k hc => f c k (fun x => hc (Or.inl ⟨x.1, by omega⟩))), S.at' (fun c k hc => f c k (by omega)), Or.inl ?_⟩
  rcases x with x | ⟨e, q, a, b, c, d⟩
  · exact x
  · exfalso
    obtain ⟨k, u, k1, k2, k3, k4⟩ := F
    rw [k4] at c
    cases c
theorem m_frs10 {Q : Int32 → PH → Prop} (hq : Q (gI h 2 21) h) : w_X10_fresher 10 h Q := by
  unfold w_X10_fresher
  rw [show (11 : Int32) + 10 = z 21 from rfl, z_iN (by omega) (by omega), show (21 : Int).toNat = 21 from rfl]
  exact ⟨z_in (by omega) (by omega) (by omega), hq⟩
theorem EF.fz {fr : Int} {g : PH} (a : EF fr h g) (h0 : 0 ≤ fr) : fzF h g := fun c k hc => a c k (fun x => hc (by
  rcases x with ⟨x1, x2⟩ | ⟨x1, x2⟩ | ⟨x1, x2⟩
  · exact Or.inl ⟨x1, by omega⟩
  · subst x1
    refine Or.inr ⟨by omega, by omega, ?_⟩
    show 11 ≤ k
    omega
  · refine Or.inr ⟨by omega, by omega, ?_⟩
    rcases x1 with rfl | rfl
    · show 64 ≤ k
      omega
    · show 64 ≤ k
      omega))
/-- a law is read: what stands then -/
theorem MF.law {g g3 : PH} {k c : Int} {out : List Int} (M : MF g s) (O : OkPs s) (hk : k = 0 ∨ k = 1) (h1 : gI g3 28 (2 + k.toNat) = z s.kc) (h2 : gI g3 29 (2 + k.toNat) = z (s.kc + out.length)) (E : EM g3 s.kc 0 c out) (hc : c = s.kc + out.length) (f : ∀ a b, ¬ (exC s.kc a b ∨ ((a = 28 ∨ a = 29) ∧ b = 2 + k.toNat) ∨ (a = 0 ∧ b = 33)) → At g g3 a b) : MF g3 (s.lay k out c) := by
  obtain ⟨m1, ⟨m2, m3, m4⟩, m5, ⟨⟨f1, m6⟩, ⟨f2, m7⟩⟩, m8, m9⟩ := M
  have kc := O.2.2.2.2
  have old : ∀ i : Nat, i < 2 → i ≠ k.toNat → ∀ fr ks, KF g i fr ks s.kc → KF g3 i fr ks c := fun i hi hne fr ks K => by
    obtain ⟨k1, k2, k3, k4, k5⟩ := K
    refine ⟨by rw [(f 28 _ (by unfold exC; omega)).1]; exact k1, by rw [(f 29 _ (by unfold exC; omega)).1]; exact k2, k3, by omega, fun j hj => ⟨?_, ?_⟩⟩
    · rw [(f 30 _ (by unfold exC; omega)).1]; exact (k5 j hj).1
    · rw [(f 31 _ (by unfold exC; omega)).1]; exact (k5 j hj).2
  have new : KF g3 k.toNat s.kc out c := ⟨h1, h2, by omega, by omega, E.2.2.2.2⟩
  refine ⟨fun r hr => by rw [(f 2 _ (by unfold exC; omega)).1]; exact m1 r hr, ⟨by rw [(f 2 18 (by unfold exC; omega)).1]; exact m2, by rw [(f 2 19 (by unfold exC; omega)).1]; exact m3, ?_⟩, fun r c hr hc k k0 k1 => ?_, ?_, E.2.1, E.2.2.1⟩
  · rw [E.1, hc]; rfl
  · have mr := mc_rg hr hc
    rw [(f _ _ (by unfold exC; omega)).1]; exact m5 r c hr hc k k0 k1
  · rcases hk with rfl | rfl
    · exact ⟨⟨s.kc, new⟩, ⟨f2, old 1 (by omega) (by decide) f2 _ m7⟩⟩
    · exact ⟨⟨f1, old 0 (by omega) (by decide) f1 _ m6⟩, ⟨s.kc, new⟩⟩
theorem ToldM.law {x : Int32} {k c : Int} {out : List Int} (U : ToldM x s) (hk : k = 0 ∨ k = 1) (hne : out ≠ []) : ToldM (x ||| ((1 : Int32) <<< (z (16 + k) &&& 31))) (s.lay k out c) := by
  obtain ⟨⟨u1, u2, u3⟩, u4, u5⟩ := U
  have b : ∀ j : Nat, j < 32 → bt (x ||| ((1 : Int32) <<< (z (16 + k) &&& 31))) j = (bt x j || decide (j = (16 + k).toNat)) := fun j hj => bt_on (by omega) (by omega) hj
  refine ⟨⟨?_, ?_, ?_⟩, ?_, ?_⟩
  · rw [b 9 (by omega), decide_eq_false (by omega), Bool.or_false]; exact u1
  · rw [b 10 (by omega), decide_eq_false (by omega), Bool.or_false]; exact u2
  · rw [b 11 (by omega), decide_eq_false (by omega), Bool.or_false]; exact u3
  · rw [b 16 (by omega)]
    rcases hk with rfl | rfl
    · rw [decide_eq_true (by decide), Bool.or_true]
      exact ⟨fun _ => hne, fun _ => rfl⟩
    · rw [decide_eq_false (by decide), Bool.or_false]; exact u4
  · rw [b 17 (by omega)]
    rcases hk with rfl | rfl
    · rw [decide_eq_false (by decide), Bool.or_false]; exact u5
    · rw [decide_eq_true (by decide), Bool.or_true]
      exact ⟨fun _ => hne, fun _ => rfl⟩
theorem m_law65 {Q : PH → Prop} {h0 g : PH} {tv : Int32} {k p1 : Int} (hL : L ≤ 700) (A : LnS h0 g T L s tv) (O : OkPs s) (U : ToldM tv s) (hk : k = 0 ∨ k = 1) (e : gI g 0 40 = z 0) (hp : 0 ≤ p1 ∧ p1 ≤ L) (t : TcM g T L p1) (k0 : tK T L p1 ≠ 0) (hl : s.law k = []) (er : r0 = lnLaw2 T L s k p1) (hq : ∀ g, LnP h0 g T L r0 → Q g) : w_X10_lawLine_65 (fun h149 => w_X10_line_671 Q h149) (z k) g := by
  have hT := A.1.2.2.2
  have nx := nx_lt (T := T) (L := L) (p := p1) hT hp k0
  have kc := O.2.2.2.2
  unfold lnLaw2 at er
  rw [if_pos hl] at er
  generalize ers : sy T L 701 false [] 0 s.kc [] (tE T L p1) = rs at er
  unfold w_X10_lawLine_65
  rw [e, if_pos (show z 0 = 0 from rfl), A.2.2.2.1, show (16 : Int32) = z 16 from rfl, zn_2, z_add, z_add, z_iN (a := 2 + k) (by omega) (by omega), show (2 + k).toNat = 2 + k.toNat by omega]
  rintro _ rfl
  have f1 : ∀ a b, ¬ (a = 0 ∧ b = 33) → At g (sI g 0 33 (tv ||| ((1 : Int32) <<< (z (16 + k) &&& 31)))) a b := fun a b hab => (At.rf g a b).sI hab
  have tv1 : gI (sI g 0 33 (tv ||| ((1 : Int32) <<< (z (16 + k) &&& 31)))) 0 33 = tv ||| ((1 : Int32) <<< (z (16 + k) &&& 31)) := gI_in rfl rfl
  generalize sI g 0 33 (tv ||| ((1 : Int32) <<< (z (16 + k) &&& 31))) = g1 at *
  have S1 : ScM g1 T L := A.1.at' (fun a b hab => f1 a b (by omega))
  refine m_tok S1 hp (t.at' (fun b _ _ => f1 0 b (by omega))) (fun g2 f2 n2 t2 => ?_)
  have f2' : ∀ a b, ¬ (a = 0 ∧ (b = 33 ∨ (36 ≤ b ∧ b ≤ 39))) → At g g2 a b := fun a b hab => (f1 a b (by omega)).tr (f2 a b (by omega))
  refine m_frs10 ?_
  refine ⟨z_in (by omega) (by omega) (by omega), ?_⟩
  rintro _ rfl
  have M := A.2.1
  have e21 : gI g2 2 21 = z s.kc := by rw [(f2' 2 21 (by omega)).1]; exact M.2.1.2.2
  rw [e21]
  have f3 : ∀ a b, ¬ ((a = 0 ∧ (b = 33 ∨ (36 ≤ b ∧ b ≤ 39))) ∨ (a = 28 ∧ b = 2 + k.toNat)) → At g (sI g2 28 (2 + k.toNat) (z s.kc)) a b := fun a b hab => (f2' a b (by omega)).sI (by omega)
  have e28 : gI (sI g2 28 (2 + k.toNat) (z s.kc)) 28 (2 + k.toNat) = z s.kc := gI_in rfl rfl
  have S2 : ScM g2 T L := S1.at' (fun a b hab => f2 a b (by omega))
  have S3 : ScM (sI g2 28 (2 + k.toNat) (z s.kc)) T L := S2.at' (fun a b hab => (At.rf g2 a b).sI (by omega))
  have t3 : TcM (sI g2 28 (2 + k.toNat) (z s.kc)) T L (tE T L p1) := t2.at' (fun b _ _ => (At.rf g2 0 b).sI (by omega))
  have tv3 : gI (sI g2 28 (2 + k.toNat) (z s.kc)) 0 33 = tv ||| ((1 : Int32) <<< (z (16 + k) &&& 31)) := by rw [gI_out (by omega), (f2 0 33 (by omega)).1]; exact tv1
  clear f2' f2 t2 S2
  generalize sI g2 28 (2 + k.toNat) (z s.kc) = g3 at *
  have E3 : EM g3 s.kc 0 s.kc [] := ⟨by rw [(f3 2 21 (by omega)).1, M.2.1.2.2]; congr 1; show s.kc = s.kc + 0; omega, by rw [(f3 0 44 (by omega)).1]; exact M.2.2.2.2.1, by rw [(f3 0 45 (by omega)).1]; exact M.2.2.2.2.2, by omega, fun j hj => absurd hj (Nat.not_lt_zero j)⟩
  refine m_expr (r := rs) (fr := s.kc) (n := 701) hT hL ⟨by rw [(f3 0 40 (by omega)).1]; exact e, S3, E3, n2, t3, by omega, ⟨trivial, rfl, by show s.kc = s.kc + 0 + 0; omega, by omega, rfl, fun k hk => absurd hk List.not_mem_nil⟩, by omega, ers.symm⟩ (by omega) (fun g4 f4 P4 => ?_)
  have fz4 : fzF h0 g4 := (A.2.2.1.tr (fun a b hab => f3 a b (fun x => hab (by
    rcases x with ⟨x1, x2⟩ | ⟨x1, x2⟩
    · exact Or.inl ⟨x1, by omega⟩
    · subst x1
      refine Or.inr ⟨by omega, by omega, ?_⟩
      show 2 ≤ b
      omega)))).tr (f4.fz (by omega))
  have S4 : ScM g4 T L := S3.ef f4
  refine m_frs10 ?_
  refine ⟨z_in (by omega) (by omega) (by omega), ?_⟩
  rintro _ rfl
  have fz5 : ∀ x, fzF h0 (sI g4 29 (2 + k.toNat) x) := fun x => fz4.tr (fun a b hab => (At.rf g4 a b).sI (fun y => hab (by
    rw [y.1]
    refine Or.inr ⟨by omega, by omega, ?_⟩
    show 2 ≤ b
    omega)))
  have S5 : ∀ x, ScM (sI g4 29 (2 + k.toNat) x) T L := fun x => S4.at' (fun a b hab => (At.rf g4 a b).sI (by omega))
  rcases P4 with F | ⟨e4, out, c, q, n, E, hq4, t4, hn4, nm, lv⟩
  · refine m_lnF3 (S5 _) (fz5 _) (FtF.at' (r := r0) ?_ (fun b _ _ => (At.rf g4 0 b).sI (by omega))) hq
    obtain ⟨kk, u, a1, a2, a3, a4⟩ := F
    refine ⟨kk, u, a1, a2, a3, ?_⟩
    rw [er, a4]
  · have e5 : ∀ x, gI (sI g4 29 (2 + k.toNat) x) 0 40 = z 0 := fun x => by rw [gI_out (by omega)]; exact e4
    have t5 : ∀ x, TcM (sI g4 29 (2 + k.toNat) x) T L q := fun x => t4.at' (fun b _ _ => (At.rf g4 0 b).sI (by omega))
    have bad : isS T L q 59 = false → r0 = pF T L 1 q → w_X10_line_671 Q (sI g4 29 (2 + k.toNat) (gI g4 2 21)) := fun h59 er1 => m_lnF2 (r0 := r0) (S5 _) (fz5 _) (e5 _) (by omega) (t5 _) h59 er1 hq
    obtain ⟨n', en⟩ : ∃ n', n = n' + 1 := ⟨n - 1, by omega⟩
    have ra := rkt_all T L q
    rcases lv with ⟨q1, q2, q3⟩ | ⟨q1, q2, q3⟩
    · rw [en] at q3
      unfold sy at q3
      cases h59 : isS T L q 59 with
      | false =>
        have j1 : jsg (tK T L q) (tV T L q) = -1 := by omega
        rw [if_neg (by rw [h59]; exact fun x => absurd x.1 (by decide)), if_neg (fun x => absurd x.2 (by omega)), if_pos j1] at q3
        refine bad h59 ?_
        rw [er, q3]
        rfl
      | true =>
        rw [if_pos ⟨h59, rfl⟩] at q3
        have s59 := isS_iff.mp h59
        have hne : out ≠ [] := fun x => by
          have := q2.2.2.2.2.1
          rw [x] at this
          exact absurd this (by decide)
        have nm1 : c = s.kc + out.length := by
          have : no [] = 0 := rfl
          omega
        have er2 : r0 = .inr (s.lay k out c, tE T L q) := by
          rw [er, q3]
          rfl
        have M5 : MF (sI g4 29 (2 + k.toNat) (gI g4 2 21)) (s.lay k out c) := by
          refine M.law O hk ?_ ?_ ?_ nm1 (fun a b hab => ((f3 a b (by unfold exC at hab; omega)).tr (f4 a b (fun x => hab (Or.inl x)))).sI (fun x => hab (Or.inr (Or.inl ⟨Or.inr x.1, x.2⟩))))
          · rw [gI_out (by omega), (f4 28 _ (by unfold exC; omega)).1]; exact e28
          · rw [gI_in rfl rfl]; exact E.1
          · obtain ⟨b1, b2, b3, b4, b5⟩ := E
            exact ⟨by rw [gI_out (by omega)]; exact b1, by rw [gI_out (by omega)]; exact b2, by rw [gI_out (by omega)]; exact b3, b4, fun j hj => ⟨by rw [gI_out (by omega)]; exact (b5 j hj).1, by rw [gI_out (by omega)]; exact (b5 j hj).2⟩⟩
        refine m_lnEnd (s' := s.lay k out c) (tv := tv ||| ((1 : Int32) <<< (z (16 + k) &&& 31))) ⟨S5 _, M5, fz5 _, by rw [gI_out (by omega), (f4 0 33 (by unfold exC; omega)).1]; exact tv3, by rw [gI_out (by omega), (f4 0 34 (by unfold exC; omega)).1, (f3 0 34 (by omega)).1]; exact A.2.2.2.2⟩ (by show c ≤ 64; omega) (U.law hk hne) (Or.inr ⟨e5 _, q, by omega, t5 _, ?_⟩) hq
        unfold pEnd
        rw [if_pos s59]
        exact er2
    · refine bad ?_ ?_
      · cases h59 : isS T L q 59 with
        | false => rfl
        | true =>
          have := isS_iff.mp h59
          omega
      · rw [er, q3]
        rfl
theorem m_l12 {Q : PH → Prop} (hL : L ≤ 700) (S : ScM h T L) (M : MF h s) (O : OkPs s) (U : ToldM (gI h 0 33) s) (e40 : gI h 0 40 = z 0) (hp : 0 ≤ p ∧ p ≤ L) (t : TcM h T L p) (er : r0 = lnLaw T L s p) (hq : ∀ g, LnP h g T L r0 → Q g) : w_X10_line_72 Q 12 h := by
  unfold w_X10_line_72
  rw [e40, if_pos (show z 0 = 0 from rfl)]
  rintro _ rfl
  refine m_preTok (B := fun p1 => if isWd T L p1 13 = true then lnLaw2 T L s 0 p1 else if isWd T L p1 14 = true then lnLaw2 T L s 1 p1 else pF T L 1 p1) S M O t hp e40 er (fun g1 A1 H1 => ?_)
  rw [if_neg (by decide), if_neg (by decide), if_neg (by decide), if_neg (by decide), if_neg (by decide), if_neg (by decide), if_neg (by decide), if_neg (by decide), if_neg (by decide), if_neg (by decide), if_neg (by decide), if_neg (by decide)]
  have U1 := U.keep (w := 12) (by omega) (by omega)
  have f65 : ∀ g x, fzF h g → ScM g T L → FtF g r0 → w_X10_lawLine_65 (fun h149 => w_X10_line_671 Q h149) x g := fun g x f S' F => by
    unfold w_X10_lawLine_65
    rw [if_neg F.ne]
    exact m_lnF3 S' f F hq
  have f30 : ∀ g, fzF h g → ScM g T L → FtF g r0 → w_X10_lawLine_30 (fun h149 => w_X10_line_671 Q h149) g := fun g f S' F => by
    unfold w_X10_lawLine_30
    rintro _ rfl
    rw [if_neg F.ne]
    exact f65 g _ f S' F
  unfold w_X10_lawLine
  rcases H1 with F | ⟨e, p1, hp1, t1, er1⟩
  · have a30 := f30 g1 A1.2.2.1 A1.1 F
    have a25 : w_X10_lawLine_25 (fun h149 => w_X10_line_671 Q h149) g1 := by
      unfold w_X10_lawLine_25
      exact m_wrongY F a30
    by_cases c0 : gI g1 0 38 = 0
    · rw [if_pos c0]
      by_cases c1 : gI g1 0 39 = 13
      · rw [if_pos c1]; exact a30
      · rw [if_neg c1]
        by_cases c2 : gI g1 0 39 = 14
        · rw [if_pos c2]; exact a30
        · rw [if_neg c2]; exact a25
    · rw [if_neg c0]; exact a25
  · dsimp only at er1
    have hT := A1.1.2.2.2
    have tr := tok_rg (T := T) hT hp1
    have mi := mk_iff tr.2.2.2.2.1
    obtain ⟨u1, u2, u3, mm, u4, u5⟩ := id t1
    have a25 : isWd T L p1 13 = false → isWd T L p1 14 = false → w_X10_lawLine_25 (fun h149 => w_X10_line_671 Q h149) g1 := fun b1 b2 => by
      rw [if_neg (by rw [b1]; decide), if_neg (by rw [b2]; decide)] at er1
      unfold w_X10_lawLine_25
      exact m_wrongN (k := 1) e t1 rfl (by omega) er1 (fun g f F => f30 g (A1.2.2.1.tr f.fz) (A1.1.ms f) F)
    have a30 : ∀ k : Int, k = 0 ∨ k = 1 → isWd T L p1 (13 + k) = true → r0 = lnLaw2 T L s k p1 → w_X10_lawLine_30 (fun h149 => w_X10_line_671 Q h149) g1 := fun k hk b1 er2 => by
      have b := isWd_iff.mp b1
      have em : mm = tV T L p1 := u5.2 (by omega)
      have lk : bt (gI h 0 33 ||| ((1 : Int32) <<< (z 12 &&& 31))) (16 + k).toNat = true ↔ s.law k ≠ [] := by
        rcases hk with rfl | rfl
        · exact U1.2.1
        · exact U1.2.2
      unfold w_X10_lawLine_30
      rintro _ rfl
      rw [e, if_pos (show z 0 = 0 from rfl), u4, em, b.2, show (13 : Int32) = z 13 from rfl, z_sub, show 13 + k - 13 = k by omega, A1.2.2.2.1, show (16 : Int32) = z 16 from rfl, z_add, show (12 : Int32) = z 12 from rfl, bitI (by omega) (by omega)]
      by_cases hl : s.law k = []
      · rw [if_neg (fun x => (lk.mp x) hl), if_neg (show ¬ z 0 = 1 by decide)]
        exact m_law65 hL A1 O U1 hk e hp1 t1 (by omega) hl er2 hq
      · rw [if_pos (lk.mpr hl), if_pos (show z 1 = 1 from rfl)]
        unfold lnLaw2 at er2
        rw [if_neg hl] at er2
        exact m_wrongN (k := 3) e t1 rfl (by omega) er2 (fun g f F => f65 g _ (A1.2.2.1.tr f.fz) (A1.1.ms f) F)
    rw [u3]
    by_cases k4 : tK T L p1 = 4
    · have em : mm = tV T L p1 := u5.2 (by omega)
      have tv := tr.2.2.2.2.2.2.2.1 k4
      rw [if_pos (by rw [mi.1.mpr k4]; rfl), u4]
      by_cases v13 : mm = 13
      · rw [if_pos (by rw [v13]; rfl)]
        have b : isWd T L p1 13 = true := isWd_iff.mpr ⟨k4, by omega⟩
        rw [if_pos b] at er1
        exact a30 0 (Or.inl rfl) b er1
      rw [if_neg (show ¬ z mm = 13 from z_ne (by omega) (by omega) (by decide) (by decide) v13)]
      have b13 : isWd T L p1 13 = false := by
        cases hb : isWd T L p1 13 with
        | false => rfl
        | true => have := isWd_iff.mp hb; omega
      by_cases v14 : mm = 14
      · rw [if_pos (by rw [v14]; rfl)]
        have b : isWd T L p1 14 = true := isWd_iff.mpr ⟨k4, by omega⟩
        rw [if_neg (by rw [b13]; decide), if_pos b] at er1
        exact a30 1 (Or.inr rfl) b er1
      rw [if_neg (show ¬ z mm = 14 from z_ne (by omega) (by omega) (by decide) (by decide) v14)]
      refine a25 b13 ?_
      cases hb : isWd T L p1 14 with
      | false => rfl
      | true => have := isWd_iff.mp hb; omega
    · rw [if_neg (show ¬ z (mk (tK T L p1)) = 0 from z_ne (by omega) (by omega) (by decide) (by decide) (fun x => k4 (mi.1.mp x)))]
      refine a25 ?_ ?_
      · cases hb : isWd T L p1 13 with
        | false => rfl
        | true => have := isWd_iff.mp hb; omega
      · cases hb : isWd T L p1 14 with
        | false => rfl
        | true => have := isWd_iff.mp hb; omega
end MLAW
