/-! ===== time goes on: fines ===== -/
def fc1 (a : Wd) (F : Int → Int → Int) (m p n : Int) (c : Int → Int) : Int → Int := if hr a F n p m = true ∧ agn a (a.f 3 1 n) p m ≠ -1 then pyC c (a.f 3 1 n) (agn a (a.f 3 1 n) p m) (min (a.f 7 1 0) (c (a.f 3 1 n))) else c
def fcN (a : Wd) (F : Int → Int → Int) (m p : Int) : Nat → (Int → Int) → (Int → Int)
  | 0, c => c
  | n + 1, c => fc1 a F m p n (fcN a F m p n c)
def fcP (a : Wd) (F : Int → Int → Int) (m : Int) : Nat → (Int → Int) → (Int → Int)
  | 0, c => c
  | p + 1, c => fcN a F m p (a.n 3).toNat (fcP a F m p c)
def fcM (a : Wd) (F : Int → Int → Int) : Nat → (Int → Int)
  | 0 => a.f 2 1
  | i + 1 => fcP a F (a.f 7 2 0 + i) (a.n 0).toNat (fcM a F i)
def goW (a : Wd) (i : Nat) : Wd := upF (upF a 2 1 (fcM a (far a (-1)) i)) 7 2 (fun _ => a.f 7 2 0 + i)
theorem fcN_s {a : Wd} {F : Int → Int → Int} {m p n : Int} {c : Int → Int} (h : 0 ≤ n) : fcN a F m p (n + 1).toNat c = fc1 a F m p n (fcN a F m p n.toNat c) := by
  rw [show (n + 1).toNat = n.toNat + 1 by omega]
  show fc1 a F m p ((n.toNat : Nat) : Int) _ = _
  rw [show ((n.toNat : Nat) : Int) = n by omega]
theorem fcP_s {a : Wd} {F : Int → Int → Int} {m p : Int} {c : Int → Int} (h : 0 ≤ p) : fcP a F m (p + 1).toNat c = fcN a F m p (a.n 3).toNat (fcP a F m p.toNat c) := by
  rw [show (p + 1).toNat = p.toNat + 1 by omega]
  show fcN a F m ((p.toNat : Nat) : Int) _ _ = _
  rw [show ((p.toNat : Nat) : Int) = p by omega]
theorem agn_in {a : Wd} (N : Now a) {o p m : Int} (h : agn a o p m ≠ -1) : (0 ≤ agn a o p m ∧ agn a o p m < a.n 2) ∧ agn a o p m ≠ o ∧ agn a o p m = clo a p m := by
  have OC := N.2.2.1
  have n9 := N.2.2.2.2.2.2.2.2.2.1
  unfold agn at h ⊢
  by_cases c : clo a p m = -1 ∨ clo a p m = o ∨ hasR a o p m = true
  · rw [if_pos c] at h; exact absurd rfl h
  · rw [if_neg c]
    have c1 : clo a p m ≠ -1 := fun e => c (Or.inl e)
    refine ⟨?_, fun e => c (Or.inr (Or.inl e)), rfl⟩
    have r := clm_rg OC p m
    unfold clo at c1 ⊢
    by_cases d : clm a p m = -1
    · rw [if_pos d] at c1; exact absurd rfl c1
    · rw [if_neg d]
      exact ⟨(OC.2 _ (by omega) r.2).1.1, n9 _ (by omega) r.2⟩
theorem fc1_ok {a : Wd} (N : Now a) {F : Int → Int → Int} {m p n : Int} {c : Int → Int} (h0 : 0 ≤ n) (h1 : n < a.n 3) (ok : okc c (a.n 2)) : okc (fc1 a F m p n c) (a.n 2) := by
  unfold fc1
  split
  · rename_i hh
    have mk := (N.2.2.2.2.2.2.2.1 n h0 h1).1
    have ag := agn_in N hh.2
    have n17 := N.2.2.2.2.2.2.2.2.2.2.2.2.2.2.2.2.2.1
    have := ok.1 _ mk.1 mk.2
    exact pyC_ok ok mk ag.1 (fun e => ag.2.1 e.symm) ⟨by omega, by omega⟩
  · exact ok
section FCSA
variable {a b : Wd}
theorem fc1_sa (S : SA a b) (F : Int → Int → Int) (m p n : Int) (c : Int → Int) : fc1 b F m p n c = fc1 a F m p n c := by
  unfold fc1
  rw [hr_sa S, S.2.1 3 1 n (by decide) (by decide), agn_sa S, S.2.1 7 1 0 (by decide) (by decide)]
theorem fcN_sa (S : SA a b) (F : Int → Int → Int) (m p : Int) : ∀ (n : Nat) (c : Int → Int), fcN b F m p n c = fcN a F m p n c
  | 0, c => rfl
  | n + 1, c => by
    show fc1 b F m p n (fcN b F m p n c) = fc1 a F m p n (fcN a F m p n c)
    rw [fcN_sa S F m p n c, fc1_sa S]
theorem fcP_sa (S : SA a b) (F : Int → Int → Int) (m : Int) : ∀ (p : Nat) (c : Int → Int), fcP b F m p c = fcP a F m p c
  | 0, c => rfl
  | p + 1, c => by
    show fcN b F m p (b.n 3).toNat (fcP b F m p c) = fcN a F m p (a.n 3).toNat (fcP a F m p c)
    rw [fcP_sa S F m p c, S.1 3 (by decide), fcN_sa S]
end FCSA
section GO
variable {h : PH} {w t : Nat} {b : Wd} {F : Int → Int → Int} {m : Int}
theorem x_fine {Q : PH → Prop} (H : WX h w b) (hH : HX h t b F) (C : CX' h t b) (N : Now b) (hm : 0 ≤ m ∧ m < 48) (ht : w + 22 < t) (hq : ∀ g, (∀ c k, c ≠ w + 6 → At h g c k) → WX g w (upF b 2 1 (fcP b F m (b.n 0).toNat (b.f 2 1))) → okc (fcP b F m (b.n 0).toNat (b.f 2 1)) (b.n 2) → Q g) : w_X0_fineMinute t w (z m) h Q := by
  have h6 := N.1.1
  have ON1 := N.2.1.1
  have n17 := N.2.2.2.2.2.2.2.2.2.2.2.2.2.2.2.2.2.1
  unfold w_X0_fineMinute
  refine for10 (b.n 0) (fun p g => (∀ c k, c ≠ w + 6 → At h g c k) ∧ WX g w (upF b 2 1 (fcP b F m p.toNat (b.f 2 1))) ∧ okc (fcP b F m p.toNat (b.f 2 1)) (b.n 2)) 0 rfl (by omega) (by omega) (by omega) ⟨fun c k _ => At.rf h c k, H.ext (fun r hr => rfl) (fun r c k hr hc k0 k1 => ?_) (fun c => rfl) rfl rfl, N.coins⟩ ?_ ?_
  · by_cases er : r = 2 ∧ c = 1
    · obtain ⟨rfl, rfl⟩ := er
      rw [upF_in]; rfl
    · rw [upF_out er]
  · rintro kb p g p0 p1 ⟨hf, W, ok⟩ hk
    unfold w_X0_fineMinute_2
    rw [show gI g (w + 1) 3 = z (b.n 0) from (W.n0 0 (by decide)).1, if_neg (by rw [z_le (by omega) (by omega) (by omega) (by omega)]; omega)]
    have hk' : ∀ g', (∀ c k, c ≠ w + 6 → At h g' c k) → WX g' w (upF b 2 1 (fcN b F m p (b.n 3).toNat (fcP b F m p.toNat (b.f 2 1)))) → okc (fcN b F m p (b.n 3).toNat (fcP b F m p.toNat (b.f 2 1))) (b.n 2) → kb (z (p + 1)) g' := fun g' f1 f2 f3 => hk g' ⟨f1, by rw [fcP_s p0]; exact f2, by rw [fcP_s p0]; exact f3⟩
    clear hk
    generalize fcP b F m p.toNat (b.f 2 1) = C0 at W ok hk'
    refine for10 (b.n 3) (fun n g => (∀ c k, c ≠ w + 6 → At h g c k) ∧ WX g w (upF b 2 1 (fcN b F m p n.toNat C0)) ∧ okc (fcN b F m p n.toNat C0) (b.n 2)) 0 rfl (by omega) (by omega) (by omega) ⟨hf, W, ok⟩ ?_ ?_
    · clear hf W ok g
      rintro kb2 n g n0 n1 ⟨hf, W, ok⟩ hk2
      have nx : ∀ (g' : PH), (∀ c k, c ≠ w + 6 → At g g' c k) → WX g' w (upF b 2 1 (fc1 b F m p n (fcN b F m p n.toNat C0))) → okc (fc1 b F m p n (fcN b F m p n.toNat C0)) (b.n 2) → kb2 (z (n + 1)) g' := fun g' f1 f2 f3 => hk2 _ ⟨fun c k hc => (hf c k hc).tr (f1 c k hc), by rw [fcN_s n0]; exact f2, by rw [fcN_s n0]; exact f3⟩
      clear hk2
      generalize fcN b F m p n.toNat C0 = D at W ok nx
      unfold w_X0_fineMinute_16
      rw [show gI g (w + 7) 3 = z (b.n 3) from (W.n0 3 (by decide)).1, if_neg (by rw [z_le (by omega) (by omega) (by omega) (by omega)]; omega)]
      have hH' : HX g t (upF b 2 1 D) F := fun n p c1 c2 c3 c4 => by rw [(hf (t + 2) _ (by omega)).2.1]; exact hH n p c1 c2 c3 c4
      have C' : CX' g t (upF b 2 1 D) := fun p m c1 c2 c3 c4 => by rw [(hf (t + 4) _ (by omega)).1, clo_sa SA.up]; exact C p m c1 c2 c3 c4
      have N' := N.coin ok
      refine x_isTrespass (a := upF b 2 1 D) W hH' C' N'.2.1 N'.2.2.1 N'.2.2.2.1 ⟨n0, n1⟩ ⟨p0, p1⟩ hm h6.2 (fun c1 c2 c3 => ?_) (fun c1 => ?_)
      · rw [hr_sa SA.up] at c1
        rw [agn_sa SA.up] at c2 c3
        rw [clo_sa SA.up] at c3
        have c2' : agn b (b.f 3 1 n) p m ≠ -1 := c2
        have c3' : agn b (b.f 3 1 n) p m = clo b p m := c3
        rw [if_neg (by decide)]
        refine W.at 3 1 (by decide) rfl (by decide) rfl rfl n0 n1 ?_
        rw [show (upF b 2 1 D).f 3 1 n = b.f 3 1 n from rfl]
        have mk := (N.2.2.2.2.2.2.2.1 n n0 n1).1
        refine W.at 2 1 (by decide) rfl (by decide) rfl rfl mk.1 mk.2 ?_
        rintro _ rfl
        have bo := ok.le mk.1 mk.2
        have e10 : gI g w 10 = z (b.f 7 1 0) := W.2.2.2.2.1
        have eC := C' p m p0 (by omega) hm.1 hm.2
        rw [clo_sa SA.up, ← c3'] at eC
        have ag := agn_in N c2'
        have n10 := N.2.2.2.2.2.2.2.2.2.2.1
        rw [upF_in, e10, z_mnI (by omega) (by omega) (by omega) (by omega), zn_48, z_mul, z_add, z_iN (by omega) (by omega), eC]
        refine ⟨z_in (by omega) (by omega) (by omega), ?_⟩
        refine x_pay W mk ag.1 (fun e => ag.2.1 e.symm) (fun g' f' W' => ?_)
        rw [z_inc]
        have e1 : fc1 b F m p n D = pyC D (b.f 3 1 n) (agn b (b.f 3 1 n) p m) (min (b.f 7 1 0) (D (b.f 3 1 n))) := if_pos ⟨c1, c2'⟩
        refine nx g' f' (W'.ext (fun r hr => rfl) (fun r c k hr hc k0 k1 => ?_) (fun c => rfl) rfl rfl) (fc1_ok N n0 n1 ok)
        by_cases er : r = 2 ∧ c = 1
        · obtain ⟨rfl, rfl⟩ := er
          rw [upF_in, e1]; rfl
        · unfold py
          rw [upF_out er, upF_out er, upF_out er]
      · rw [if_pos rfl, z_inc]
        have e1 : fc1 b F m p n D = D := if_neg (fun x => c1 ⟨by rw [hr_sa SA.up]; exact x.1, by rw [agn_sa SA.up]; exact x.2⟩)
        exact nx g (fun c k _ => At.rf g c k) (by rw [e1]; exact W) (by rw [e1]; exact ok)
    · clear hf W ok g
      rintro kb2 g ⟨hf, W, ok⟩
      unfold w_X0_fineMinute_16
      rw [show gI g (w + 7) 3 = z (b.n 3) from (W.n0 3 (by decide)).1, if_pos (by rw [z_le (by omega) (by omega) (by omega) (by omega)]; omega), z_inc]
      exact hk' g hf W ok
  · rintro kb g ⟨hf, W, ok⟩
    unfold w_X0_fineMinute_2
    rw [show gI g (w + 1) 3 = z (b.n 0) from (W.n0 0 (by decide)).1, if_pos (by rw [z_le (by omega) (by omega) (by omega) (by omega)]; omega)]
    exact hq g hf W ok
theorem m_pays {c : Int → Int} {Q : PH → Prop} (M : MT h b) (NN : NM h b) (FF : FM h F) (HH : HM h b) (N : Now b) (F3 : ∀ p q, 0 ≤ F p q ∧ F p q ≤ 100000) (hc : ∀ o, 0 ≤ o → o < b.n 2 → gI h 43 o.toNat = z (c o)) (ok0 : okc c (b.n 2)) (hm : 0 ≤ m ∧ m < 48) (hq : ∀ g, (∀ c k, ¬ lawC c k → ¬ (c = 43 ∧ k < 4) → At h g c k) → (∀ o, 0 ≤ o → o < b.n 2 → gI g 43 o.toNat = z (fcP b F m (b.n 0).toNat c o)) → okc (fcP b F m (b.n 0).toNat c) (b.n 2) → Q g) : w_X10_pays (z m) h Q := by
  have h6 := N.1.1
  have ON1 := N.2.1.1
  have n10 := N.2.2.2.2.2.2.2.2.2.2.1
  have n17 := N.2.2.2.2.2.2.2.2.2.2.2.2.2.2.2.2.2.1
  have dk : ∀ g, (∀ c k, ¬ lawC c k → ¬ (c = 43 ∧ k < 4) → At h g c k) → MT g b ∧ NM g b ∧ FM g F ∧ HM g b := fun g hg => ⟨M.at' (fun c k b1 b2 => hg c k (by unfold lawC; omega) (by omega)), NN.at' (hg 0 62 (by unfold lawC; omega) (by omega)) (fun c k b1 b2 => hg c k (by unfold lawC; omega) (by omega)), FF.at' (fun k => hg 50 k (by unfold lawC; omega) (by omega)), HH.at' (hg 0 70 (by unfold lawC; omega) (by omega)) (fun c k b1 b2 => hg c k (by unfold lawC; omega) (by omega))⟩
  unfold w_X10_pays
  refine for10 (b.n 0) (fun p g => (∀ c k, ¬ lawC c k → ¬ (c = 43 ∧ k < 4) → At h g c k) ∧ (∀ o, 0 ≤ o → o < b.n 2 → gI g 43 o.toNat = z (fcP b F m p.toNat c o)) ∧ okc (fcP b F m p.toNat c) (b.n 2)) 0 rfl (by omega) (by omega) (by omega) ⟨fun c k _ _ => At.rf h c k, hc, ok0⟩ ?_ ?_
  · rintro kb p g p0 p1 ⟨hf, W, ok⟩ hk
    unfold w_X10_pays_2
    rw [iN_0, (dk g hf).1.1.1, if_neg (by rw [z_le (by omega) (by omega) (by omega) (by omega)]; omega)]
    have hk' : ∀ g', (∀ c k, ¬ lawC c k → ¬ (c = 43 ∧ k < 4) → At h g' c k) → (∀ o, 0 ≤ o → o < b.n 2 → gI g' 43 o.toNat = z (fcN b F m p (b.n 3).toNat (fcP b F m p.toNat c) o)) → okc (fcN b F m p (b.n 3).toNat (fcP b F m p.toNat c)) (b.n 2) → kb (z (p + 1)) g' := fun g' f1 f2 f3 => hk g' ⟨f1, by rw [fcP_s p0]; exact f2, by rw [fcP_s p0]; exact f3⟩
    clear hk
    generalize fcP b F m p.toNat c = C0 at W ok hk'
    refine for10 (b.n 3) (fun n g => (∀ c k, ¬ lawC c k → ¬ (c = 43 ∧ k < 4) → At h g c k) ∧ (∀ o, 0 ≤ o → o < b.n 2 → gI g 43 o.toNat = z (fcN b F m p n.toNat C0 o)) ∧ okc (fcN b F m p n.toNat C0) (b.n 2)) 0 rfl (by omega) (by omega) (by omega) ⟨hf, W, ok⟩ ?_ ?_
    · clear hf W ok g
      rintro kb2 n g n0 n1 ⟨hf, W, ok⟩ hk2
      have nx : ∀ (g' : PH), (∀ c k, ¬ lawC c k → ¬ (c = 43 ∧ k < 4) → At g g' c k) → (∀ o, 0 ≤ o → o < b.n 2 → gI g' 43 o.toNat = z (fc1 b F m p n (fcN b F m p n.toNat C0) o)) → okc (fc1 b F m p n (fcN b F m p n.toNat C0)) (b.n 2) → kb2 (z (n + 1)) g' := fun g' f1 f2 f3 => hk2 _ ⟨fun c k h1 h2 => (hf c k h1 h2).tr (f1 c k h1 h2), by rw [fcN_s n0]; exact f2, by rw [fcN_s n0]; exact f3⟩
      clear hk2
      generalize fcN b F m p n.toNat C0 = D at W ok nx
      obtain ⟨M', NN', FF', HH'⟩ := dk g hf
      obtain ⟨fr, K⟩ := M'.2.2.2.2.2.2.2.1
      have mk := (N.2.2.2.2.2.2.2.1 n n0 n1).1
      unfold w_X10_pays_14
      rw [NN'.1, if_neg (by rw [z_le (by omega) (by omega) (by omega) (by omega)]; omega)]
      have off : ∀ g', (∀ c k, ¬ lawC c k → At g g' c k) → ¬ (hr b F n p m = true ∧ agn b (b.f 3 1 n) p m ≠ -1) → w_X10_pays_48 Q kb2 (z m) (z p) (z n) (-1) g' := by
        intro g' f' hn
        have e1 : fc1 b F m p n D = D := if_neg hn
        unfold w_X10_pays_48
        rw [if_pos rfl, z_inc]
        exact nx g' (fun c k h1 _ => f' c k h1) (fun o o0 o1 => by rw [e1, (f' 43 _ (by unfold lawC; omega)).1]; exact W o o0 o1) (by rw [e1]; exact ok)
      refine m_hears K N.2.2.2.2.1 FF' NN' N.2.1 F3 h6.2 ⟨n0, n1⟩ (by omega) hm (fun g2 f2 => ?_)
      cases hb : hr b F n p m with
      | false =>
        rw [if_pos (show z (if false = true then (1 : Int) else 0) = 0 from rfl)]
        exact off g2 f2 (fun x => by rw [hb] at x; exact absurd x.1 (by decide))
      | true =>
        rw [if_neg (show ¬ z (if true = true then (1 : Int) else 0) = 0 by decide)]
        refine ⟨z_in (by omega) (by omega) (by omega), ?_⟩
        obtain ⟨M2, NN2, FF2, HH2⟩ := dk g2 (fun c k h1 h2 => (hf c k h1 h2).tr (f2 c k h1))
        have e46 := (NN2.2 n n0 n1).2.1
        rw [z_iN (a := n) (by omega) (by omega), e46]
        refine m_against M2 HH2 N.2.2.1 N.2.2.2.1 (by omega) (by omega) hm h6.2 ?_
        by_cases c2 : agn b (b.f 3 1 n) p m = -1
        · rw [c2]
          exact off g2 f2 (fun x => x.2 c2)
        · have ag := agn_in N c2
          have bo := ok.le mk.1 mk.2
          have W2 : ∀ o, 0 ≤ o → o < b.n 2 → gI g2 43 o.toNat = z (D o) := fun o o0 o1 => by rw [(f2 43 _ (by unfold lawC; omega)).1]; exact W o o0 o1
          have e28 : gI g2 2 8 = z (b.f 7 1 0) := M2.1.2.2.2.2.2.2.2
          unfold w_X10_pays_48
          rw [if_neg (by rw [z_m1]; exact z_ne (by omega) (by omega) (by omega) (by omega) c2), z_iN (a := n) (by omega) (by omega), e46, z_iN (a := b.f 3 1 n) (by omega) (by omega), iN_8, e28, W2 _ mk.1 mk.2, z_mnI (by omega) (by omega) (by omega) (by omega)]
          refine ⟨z_in (by omega) (by omega) (by omega), z_in (by omega) (by omega) (by omega), ?_⟩
          rintro _ rfl
          refine ⟨z_in (by omega) (by omega) (by omega), z_in (by omega) (by omega) (by omega), z_in (by omega) (by omega) (by omega), ?_⟩
          rintro _ rfl
          refine ⟨z_in (by omega) (by omega) (by omega), z_in (by omega) (by omega) (by omega), ?_⟩
          rintro _ rfl
          rw [z_iN (a := agn b (b.f 3 1 n) p m) (by omega) (by omega), gI_out (by omega), W2 _ ag.1.1 ag.1.2, z_sub, z_add, z_inc]
          have e1 : fc1 b F m p n D = pyC D (b.f 3 1 n) (agn b (b.f 3 1 n) p m) (min (b.f 7 1 0) (D (b.f 3 1 n))) := if_pos ⟨hb, c2⟩
          refine nx _ (fun c k h1 h2 => ((f2 c k h1).sI (by omega)).sI (by omega)) (fun o o0 o1 => ?_) (fc1_ok N n0 n1 ok)
          rw [e1]
          unfold pyC
          by_cases d1 : o = b.f 3 1 n
          · rw [if_pos d1, gI_out (by omega), gI_in rfl (by rw [d1]), d1]
          · rw [if_neg d1]
            by_cases d2 : o = agn b (b.f 3 1 n) p m
            · rw [if_pos d2, gI_in rfl (by rw [d2])]
              rw [← d2]
            · rw [if_neg d2, gI_out (by omega), gI_out (by omega)]
              exact W2 o o0 o1
    · clear hf W ok g
      rintro kb2 g ⟨hf, W, ok⟩
      unfold w_X10_pays_14
      rw [(dk g hf).2.1.1, if_pos (by rw [z_le (by omega) (by omega) (by omega) (by omega)]; omega), z_inc]
      exact hk' g hf W ok
  · rintro kb g ⟨hf, W, ok⟩
    unfold w_X10_pays_2
    rw [iN_0, (dk g hf).1.1.1, if_pos (by rw [z_le (by omega) (by omega) (by omega) (by omega)]; omega)]
    exact hq g hf W ok
end GO
