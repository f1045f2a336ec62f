/-! ===== the reference's reader: a law's E ===== -/
/-- how tightly the sign at hand joins; 0: none does -/
def rkt (T : Int → Int) (L p : Int) : Int := if jsg (tK T L p) (tV T L p) = -1 then 0 else rk (jsg (tK T L p) (tV T L p))
theorem jsg_all (k v : Int) : (jsg k v = -1 ∧ ¬ (k = 4 ∧ (v = 15 ∨ v = 16)) ∧ ¬ (k = 5 ∧ (v = 42 ∨ v = 43 ∨ v = 45 ∨ v = 47 ∨ v = 60 ∨ v = 61 ∨ v = 62 ∨ v = 256 ∨ v = 257 ∨ v = 258))) ∨ (jsg k v = 0 ∧ k = 4 ∧ v = 15) ∨ (jsg k v = 1 ∧ k = 4 ∧ v = 16) ∨ (k = 5 ∧ ((jsg k v = 11 ∧ v = 42) ∨ (jsg k v = 9 ∧ v = 43) ∨ (jsg k v = 10 ∧ v = 45) ∨ (jsg k v = 12 ∧ v = 47) ∨ (jsg k v = 3 ∧ v = 60) ∨ (jsg k v = 5 ∧ v = 61) ∨ (jsg k v = 8 ∧ v = 62) ∨ (jsg k v = 4 ∧ v = 256) ∨ (jsg k v = 6 ∧ v = 257) ∨ (jsg k v = 7 ∧ v = 258))) := by
  by_cases k4 : k = 4
  · by_cases a : v = 15
    · exact Or.inr (Or.inl ⟨by unfold jsg; rw [if_pos k4, if_pos a], k4, a⟩)
    · by_cases b : v = 16
      · exact Or.inr (Or.inr (Or.inl ⟨by unfold jsg; rw [if_pos k4, if_neg a, if_pos b], k4, b⟩))
      · exact Or.inl ⟨by unfold jsg; rw [if_pos k4, if_neg a, if_neg b], by omega, by omega⟩
  · by_cases k5 : k = 5
    · have neg : ∀ x : Int, ¬ (k = 4 ∧ (v = 15 ∨ v = 16)) := fun _ x => k4 x.1
      by_cases a0 : v = 42
      · exact Or.inr (Or.inr (Or.inr ⟨k5, Or.inl ⟨by unfold jsg; rw [if_neg k4, if_pos k5, if_pos a0], a0⟩⟩))
      by_cases a1 : v = 43
      · exact Or.inr (Or.inr (Or.inr ⟨k5, Or.inr (Or.inl ⟨by unfold jsg; rw [if_neg k4, if_pos k5, if_neg a0, if_pos a1], a1⟩)⟩))
      by_cases a2 : v = 45
      · exact Or.inr (Or.inr (Or.inr ⟨k5, Or.inr (Or.inr (Or.inl ⟨by unfold jsg; rw [if_neg k4, if_pos k5, if_neg a0, if_neg a1, if_pos a2], a2⟩))⟩))
      by_cases a3 : v = 47
      · exact Or.inr (Or.inr (Or.inr ⟨k5, Or.inr (Or.inr (Or.inr (Or.inl ⟨by unfold jsg; rw [if_neg k4, if_pos k5, if_neg a0, if_neg a1, if_neg a2, if_pos a3], a3⟩)))⟩))
      by_cases a4 : v = 60
      · exact Or.inr (Or.inr (Or.inr ⟨k5, Or.inr (Or.inr (Or.inr (Or.inr (Or.inl ⟨by unfold jsg; rw [if_neg k4, if_pos k5, if_neg a0, if_neg a1, if_neg a2, if_neg a3, if_pos a4], a4⟩))))⟩))
      by_cases a5 : v = 61
      · exact Or.inr (Or.inr (Or.inr ⟨k5, Or.inr (Or.inr (Or.inr (Or.inr (Or.inr (Or.inl ⟨by unfold jsg; rw [if_neg k4, if_pos k5, if_neg a0, if_neg a1, if_neg a2, if_neg a3, if_neg a4, if_pos a5], a5⟩)))))⟩))
      by_cases a6 : v = 62
      · exact Or.inr (Or.inr (Or.inr ⟨k5, Or.inr (Or.inr (Or.inr (Or.inr (Or.inr (Or.inr (Or.inl ⟨by unfold jsg; rw [if_neg k4, if_pos k5, if_neg a0, if_neg a1, if_neg a2, if_neg a3, if_neg a4, if_neg a5, if_pos a6], a6⟩))))))⟩))
      by_cases a7 : v = 256
      · exact Or.inr (Or.inr (Or.inr ⟨k5, Or.inr (Or.inr (Or.inr (Or.inr (Or.inr (Or.inr (Or.inr (Or.inl ⟨by unfold jsg; rw [if_neg k4, if_pos k5, if_neg a0, if_neg a1, if_neg a2, if_neg a3, if_neg a4, if_neg a5, if_neg a6, if_pos a7], a7⟩)))))))⟩))
      by_cases a8 : v = 257
      · exact Or.inr (Or.inr (Or.inr ⟨k5, Or.inr (Or.inr (Or.inr (Or.inr (Or.inr (Or.inr (Or.inr (Or.inr (Or.inl ⟨by unfold jsg; rw [if_neg k4, if_pos k5, if_neg a0, if_neg a1, if_neg a2, if_neg a3, if_neg a4, if_neg a5, if_neg a6, if_neg a7, if_pos a8], a8⟩))))))))⟩))
      by_cases a9 : v = 258
      · exact Or.inr (Or.inr (Or.inr ⟨k5, Or.inr (Or.inr (Or.inr (Or.inr (Or.inr (Or.inr (Or.inr (Or.inr (Or.inr (⟨by unfold jsg; rw [if_neg k4, if_pos k5, if_neg a0, if_neg a1, if_neg a2, if_neg a3, if_neg a4, if_neg a5, if_neg a6, if_neg a7, if_neg a8, if_pos a9], a9⟩)))))))))⟩))
      exact Or.inl ⟨by unfold jsg; rw [if_neg k4, if_pos k5, if_neg a0, if_neg a1, if_neg a2, if_neg a3, if_neg a4, if_neg a5, if_neg a6, if_neg a7, if_neg a8, if_neg a9], neg 0, fun x => by omega⟩
    · exact Or.inl ⟨by unfold jsg; rw [if_neg k4, if_neg k5], fun x => k4 x.1, fun x => k5 x.1⟩
theorem rkt_all (T : Int → Int) (L p : Int) : (rkt T L p = 0 ∧ jsg (tK T L p) (tV T L p) = -1 ∧ ¬ (tK T L p = 4 ∧ (tV T L p = 15 ∨ tV T L p = 16)) ∧ ¬ (tK T L p = 5 ∧ (tV T L p = 42 ∨ tV T L p = 43 ∨ tV T L p = 45 ∨ tV T L p = 47 ∨ tV T L p = 60 ∨ tV T L p = 61 ∨ tV T L p = 62 ∨ tV T L p = 256 ∨ tV T L p = 257 ∨ tV T L p = 258))) ∨ (rkt T L p = 1 ∧ jsg (tK T L p) (tV T L p) = 0 ∧ tK T L p = 4 ∧ tV T L p = 15) ∨ (rkt T L p = 2 ∧ jsg (tK T L p) (tV T L p) = 1 ∧ tK T L p = 4 ∧ tV T L p = 16) ∨ (rkt T L p = 4 ∧ tK T L p = 5 ∧ (tV T L p = 60 ∨ tV T L p = 61 ∨ tV T L p = 62 ∨ tV T L p = 256 ∨ tV T L p = 257 ∨ tV T L p = 258) ∧ msg (jsg (tK T L p) (tV T L p)) = tV T L p ∧ rk (jsg (tK T L p) (tV T L p)) = 4) ∨ (rkt T L p = 5 ∧ tK T L p = 5 ∧ (tV T L p = 43 ∨ tV T L p = 45) ∧ msg (jsg (tK T L p) (tV T L p)) = tV T L p ∧ rk (jsg (tK T L p) (tV T L p)) = 5) ∨ (rkt T L p = 6 ∧ tK T L p = 5 ∧ (tV T L p = 42 ∨ tV T L p = 47) ∧ msg (jsg (tK T L p) (tV T L p)) = tV T L p ∧ rk (jsg (tK T L p) (tV T L p)) = 6) := by
  unfold rkt
  have j := jsg_all (tK T L p) (tV T L p)
  generalize jsg (tK T L p) (tV T L p) = x at *
  generalize tK T L p = k at *
  generalize tV T L p = v at *
  rcases j with ⟨rfl, n1, n2⟩ | ⟨rfl, rfl, rfl⟩ | ⟨rfl, rfl, rfl⟩ | ⟨rfl, j⟩
  · exact Or.inl ⟨if_pos rfl, rfl, n1, n2⟩
  · exact Or.inr (Or.inl (by decide))
  · exact Or.inr (Or.inr (Or.inl (by decide)))
  · rcases j with ⟨rfl, rfl⟩ | ⟨rfl, rfl⟩ | ⟨rfl, rfl⟩ | ⟨rfl, rfl⟩ | ⟨rfl, rfl⟩ | ⟨rfl, rfl⟩ | ⟨rfl, rfl⟩ | ⟨rfl, rfl⟩ | ⟨rfl, rfl⟩ | ⟨rfl, rfl⟩
    · exact Or.inr (Or.inr (Or.inr (Or.inr (Or.inr (by decide)))))
    · exact Or.inr (Or.inr (Or.inr (Or.inr (Or.inl (by decide)))))
    · exact Or.inr (Or.inr (Or.inr (Or.inr (Or.inl (by decide)))))
    · exact Or.inr (Or.inr (Or.inr (Or.inr (Or.inr (by decide)))))
    · exact Or.inr (Or.inr (Or.inr (Or.inl (by decide))))
    · exact Or.inr (Or.inr (Or.inr (Or.inl (by decide))))
    · exact Or.inr (Or.inr (Or.inr (Or.inl (by decide))))
    · exact Or.inr (Or.inr (Or.inr (Or.inl (by decide))))
    · exact Or.inr (Or.inr (Or.inr (Or.inl (by decide))))
    · exact Or.inr (Or.inr (Or.inr (Or.inl (by decide))))
theorem rkt_rk {T : Int → Int} {L p j : Int} (e : jsg (tK T L p) (tV T L p) = j) (hj : j ≠ -1) : rkt T L p = rk j := by
  unfold rkt
  rw [e, if_neg hj]
/-- a waiting sign may go out ahead of a token that joins no tighter -/
theorem sy_pop {T : Int → Int} {L p o c j : Int} {st out : List Int} (n : Nat) (hj : 1 ≤ rk j) (hr : rkt T L p ≤ rk j) (h4 : ¬ (rk j = 4 ∧ rkt T L p = 4)) : sy T L n true (j :: st) o c out p = sy T L n true st o c (out ++ [-10 - j]) p := by
  have eS : ∀ r, r ≤ rk j → rlS r (j :: st) = rlS r st := fun r h => if_pos h
  have eO : ∀ r, r ≤ rk j → rlO r (j :: st) out = rlO r st (out ++ [-10 - j]) := fun r h => if_pos h
  cases n with
  | zero => rfl
  | succ n =>
    unfold sy
    rw [eS 1 hj, eO 1 hj]
    by_cases c1 : isS T L p 59 = true ∧ o = 0
    · rw [if_pos c1, if_pos c1]
    rw [if_neg c1, if_neg c1]
    by_cases c2 : isS T L p 41 = true ∧ 0 < o
    · rw [if_pos c2, if_pos c2]
    rw [if_neg c2, if_neg c2]
    by_cases c3 : jsg (tK T L p) (tV T L p) = -1
    · rw [if_pos c3, if_pos c3]
    rw [if_neg c3, if_neg c3]
    rw [rkt_rk rfl c3] at hr h4
    by_cases c4 : rk (jsg (tK T L p) (tV T L p)) = 4
    · rw [if_pos c4, if_pos c4, eS 5 (by omega), eO 5 (by omega)]
    · rw [if_neg c4, if_neg c4, eS _ hr, eO _ hr]
theorem SyI.pop {fr o c j : Int} {st out : List Int} (I : SyI fr true (j :: st) o c out) (hj : (0 ≤ j ∧ j ≤ 12)) : SyI fr true st o c (out ++ [-10 - j]) := by
  obtain ⟨⟨s1, s2⟩, s3, s4, s5, s6, s7⟩ := I
  have e1 : no (j :: st) = (if j = 13 then 0 else 1) + no st := rfl
  have e2 : n13 (j :: st) = (if j = 13 then 1 else 0) + n13 st := rfl
  have e3 : (((out ++ [-10 - j]).length : Nat) : Int) = (out.length : Int) + 1 := by simp
  have e4 : njn (j :: st) = (if j = 13 ∨ j = 2 then 0 else 1) + njn st := rfl
  rw [if_neg (by omega)] at e1 e2
  refine ⟨s2, by omega, by omega, s5, ?_, kok_app s7 (Or.inr (Or.inr (by omega)))⟩
  have s6' : dpt out 0 = some (njn st + (if j = 2 then 0 else 1) + 1) := by
    rw [s6]
    congr 1
    show njn (j :: st) + 1 = _
    rw [e4]
    by_cases c2 : j = 2
    · rw [if_pos (Or.inr c2), if_pos c2]
      omega
    · rw [if_neg (by omega), if_neg c2]
      omega
  rw [dpt_app' s6', dpt_1, if_neg (by omega)]
  show _ = some (njn st + 1)
  by_cases c2 : j = 2
  · rw [if_pos (by omega), if_pos (by omega), if_pos c2]
  · rw [if_neg (by omega), if_pos (by rw [if_neg c2]; omega), if_neg c2]
    congr 1
/-! what the reference holds of a law under way -/
def EM (h : PH) (fr o c : Int) (out : List Int) : Prop := gI h 2 21 = z (fr + out.length) ∧ gI h 0 44 = z o ∧ gI h 0 45 = z c ∧ 0 ≤ fr ∧ ∀ j : Nat, j < out.length → gI h 30 (64 + (fr.toNat + j)) = z (kso (kat out j)) ∧ gI h 31 (64 + (fr.toNat + j)) = z (kva (kat out j))
def exC (fr : Int) (c k : Nat) : Prop := (c = 0 ∧ ((36 ≤ k ∧ k ≤ 41) ∨ k = 44 ∨ k = 45)) ∨ (c = 2 ∧ k = 21) ∨ ((c = 30 ∨ c = 31) ∧ 64 + fr ≤ (k : Int))
def EF (fr : Int) (h g : PH) : Prop := ∀ c k, ¬ exC fr c k → At h g c k
theorem EF.rf (fr : Int) (h : PH) : EF fr h h := fun c k _ => At.rf h c k
theorem EF.tr {fr : Int} {h g f : PH} (a : EF fr h g) (b : EF fr g f) : EF fr h f := fun c k hc => (a c k hc).tr (b c k hc)
theorem msF.ef {fr : Int} {h g : PH} (a : msF h g) : EF fr h g := fun c k hc => a c k (fun x => hc (Or.inl ⟨x.1, Or.inl x.2⟩))
section REXP
variable {h g : PH} {T : Int → Int} {L p o c fr : Int} {st out : List Int} {r : SR}
theorem EM.ms (E : EM h fr o c out) (f : msF h g) : EM g fr o c out := by
  obtain ⟨a1, a2, a3, a4, a5⟩ := E
  exact ⟨by rw [(f 2 21 (by omega)).1]; exact a1, by rw [(f 0 44 (by omega)).1]; exact a2, by rw [(f 0 45 (by omega)).1]; exact a3, a4, fun j hj => ⟨by rw [(f 30 _ (by omega)).1]; exact (a5 j hj).1, by rw [(f 31 _ (by omega)).1]; exact (a5 j hj).2⟩⟩
theorem ScM.ef (S : ScM h T L) (f : EF fr h g) : ScM g T L := S.at' (fun c k hc => f c k (by unfold exC; omega))
theorem m_knotN {Q : PH → Prop} (e : gI h 0 40 = z 0) (E : EM h fr o c out) (hc : 0 ≤ c ∧ c ≤ 64) (h1 : c < 64 → Q (sI h 0 45 (z (c + 1)))) (h2 : c = 64 → w_X10_wrong 2 h (fun h2 => Q h2)) : w_X10_knot h Q := by
  unfold w_X10_knot
  rw [e, if_pos (show z 0 = 0 from rfl), E.2.2.1]
  by_cases c64 : c = 64
  · rw [if_pos (by rw [c64]; rfl)]
    exact h2 c64
  · rw [if_neg (show ¬ z c = 64 from z_ne (by omega) (by omega) (by decide) (by decide) c64)]
    rintro _ rfl
    rw [z_inc]
    exact h1 (by omega)
theorem m_knotF {α : Type} {Q : PH → Prop} {r : (Int × Int) ⊕ α} (F : FtF h r) (hq : Q h) : w_X10_knot h Q := by
  unfold w_X10_knot
  rw [if_neg F.ne]
  exact hq
theorem m_putsF {α : Type} {Q : PH → Prop} {x y : Int32} {r : (Int × Int) ⊕ α} (F : FtF h r) (hq : Q h) : w_X10_puts x y h Q := by
  unfold w_X10_puts
  rw [if_neg F.ne]
  exact hq
theorem m_goOnF {α : Type} {Q : PH → Prop} {r : (Int × Int) ⊕ α} (F : FtF h r) (hq : Q h) : w_X10_goOn h Q := by
  unfold w_X10_goOn
  rw [if_neg F.ne]
  exact hq
theorem m_putsN {Q : PH → Prop} {x y : Int32} {kn : Int} (e : gI h 0 40 = z 0) (E : EM h fr o c out) (hl : fr + out.length ≤ 63) (ex : x = z (kso kn)) (ey : y = z (kva kn)) (hq : ∀ g, (∀ a b : Nat, ¬ ((a = 2 ∧ b = 21) ∨ ((a = 30 ∨ a = 31) ∧ 64 + fr ≤ (b : Int))) → At h g a b) → EM g fr o c (out ++ [kn]) → Q g) : w_X10_puts x y h Q := by
  subst ex ey
  obtain ⟨a1, a2, a3, a4, a5⟩ := E
  have f21 : ∀ h : PH, gI h 2 21 = z (fr + out.length) → ∀ Q' : Int32 → PH → Prop, Q' (z (fr + out.length)) h → w_X10_fresher 10 h Q' := fun h e Q' hQ => by
    unfold w_X10_fresher
    rw [show (11 : Int32) + 10 = z 21 from rfl, z_iN (by omega) (by omega), show (21 : Int).toNat = 21 from rfl, e]
    exact ⟨z_in (by omega) (by omega) (by omega), hQ⟩
  unfold w_X10_puts
  rw [e, if_pos (show z 0 = 0 from rfl)]
  refine f21 h a1 _ ?_
  rw [zn_64, z_add, z_iN (a := 64 + (fr + out.length)) (by omega) (by omega)]
  refine ⟨z_in (by omega) (by omega) (by omega), ?_⟩
  rintro _ rfl
  refine f21 _ (by rw [gI_out (by omega)]; exact a1) _ ?_
  rw [z_add, z_iN (a := 64 + (fr + out.length)) (by omega) (by omega)]
  refine ⟨z_in (by omega) (by omega) (by omega), ?_⟩
  rintro _ rfl
  refine f21 _ (by rw [gI_out (by omega), gI_out (by omega)]; exact a1) _ ?_
  unfold w_X10_reads
  rw [show (11 : Int32) + 10 = z 21 from rfl, z_iN (by omega) (by omega), show (21 : Int).toNat = 21 from rfl, z_inc]
  refine ⟨z_in (by omega) (by omega) (by omega), ?_⟩
  rintro _ rfl
  have fr1 : ∀ a b : Nat, ¬ ((a = 2 ∧ b = 21) ∨ ((a = 30 ∨ a = 31) ∧ 64 + fr ≤ (b : Int))) → At h (sI (sI (sI h 30 (64 + (fr + out.length)).toNat (z (kso kn))) 31 (64 + (fr + out.length)).toNat (z (kva kn))) 2 21 (z (fr + out.length + 1))) a b := fun a b hab => (((At.rf h a b).sI (by omega)).sI (by omega)).sI (by omega)
  have el : (((out ++ [kn]).length : Nat) : Int) = (out.length : Int) + 1 := by simp
  have eln : (out ++ [kn]).length = out.length + 1 := by simp
  refine hq _ fr1 ⟨?_, ?_, ?_, a4, fun j hj => ?_⟩
  · rw [gI_in rfl rfl, el]; congr 1; omega
  · rw [(fr1 0 44 (by omega)).1]; exact a2
  · rw [(fr1 0 45 (by omega)).1]; exact a3
  · by_cases ej : j = out.length
    · subst ej
      rw [kat_new]
      refine ⟨?_, ?_⟩
      · rw [gI_out (by omega), gI_out (by omega), gI_in rfl (by omega)]
      · rw [gI_out (by omega), gI_in rfl (by omega)]
    · have hj' : j < out.length := by omega
      rw [kat_app hj', gI_out (by omega), gI_out (by omega), gI_out (by omega), gI_out (by omega), gI_out (by omega), gI_out (by omega)]
      exact a5 j hj'
/-- a law's token at hand, waiting signs below -/
def PreE (h : PH) (T : Int → Int) (L : Int) (r : SR) (fr : Int) (st : List Int) (o c : Int) (out : List Int) (p : Int) (n : Nat) : Prop := gI h 0 40 = z 0 ∧ ScM h T L ∧ EM h fr o c out ∧ (0 ≤ p ∧ p ≤ L) ∧ TcM h T L p ∧ L - p < n ∧ SyI fr false st o c out ∧ o ≤ 8 ∧ r = sy T L n false st o c out p
/-- a part of level l is read: a fault, or its knots are out; or (below comparisons) a second comparison, which is a fault -/
def PostE (g : PH) (T : Int → Int) (L : Int) (r : SR) (fr : Int) (st : List Int) (o l p0 c0 : Int) : Prop := FtF g r ∨ (gI g 0 40 = z 0 ∧ ∃ out c p n, EM g fr o c out ∧ (p0 ≤ p ∧ p ≤ L) ∧ TcM g T L p ∧ L - p < (n : Nat) ∧ (c = fr + out.length + no st ∧ c ≤ 64 ∧ c0 ≤ c) ∧ ((rkt T L p < l ∧ SyI fr true st o c out ∧ r = sy T L n true st o c out p) ∨ (l ≤ 4 ∧ rkt T L p = 4 ∧ r = pF T L 1 p)))
def IC (W : PH → (PH → Prop) → Prop) (T : Int → Int) (L : Int) (r : SR) (fr l : Int) (st : List Int) (o : Int) (m : Int) (nt : Bool) : Prop := ∀ h c out p n Q, PreE h T L r fr st o c out p n → (8 - o) + (64 - c) + 2 ≤ m → (nt = true → isWd T L p 17 = true → 3 < top st) → (∀ g, EF fr h g → PostE g T L r fr st o l p c → Q g) → W h Q
def PZ (W : PH → (PH → Prop) → Prop) (r : SR) : Prop := ∀ h Q, FtF h r → Q h → W h Q
/-- a sign that waits, what stands behind it, and the sign goes out -/
theorem m_core0 {W : PH → (PH → Prop) → Prop} {kb : PH → Prop} {l lo j m : Int} {nt : Bool} {n' : Nat} {y : Int32} (hW : IC W T L r fr l (j :: st) o m nt) (hP : PZ W r) (S : ScM h T L) (e : gI h 0 40 = z 0) (E : EM h fr o c out) (hp : 0 ≤ p ∧ p ≤ L) (t : TcM h T L p) (k0 : tK T L p ≠ 0) (hn : L - tE T L p < n') (hc64 : c ≤ 64) (hI : c < 64 → SyI fr false (j :: st) o (c + 1) out) (ho : o ≤ 8) (er' : r = if c < 64 then sy T L n' false (j :: st) o (c + 1) out (tE T L p) else pF T L 2 p) (hm : c < 64 → (8 - o) + (64 - (c + 1)) + 2 ≤ m) (hc0 : 0 ≤ c)
    (hj : 0 ≤ j ∧ j ≤ 12) (rj : 1 ≤ rk j) (hnt : nt = true → 3 < rk j) (hpop : ∀ q, rkt T L q < l → (rkt T L q < lo ∧ rkt T L q ≤ rk j ∧ ¬ (rk j = 4 ∧ rkt T L q = 4)) ∨ (lo ≤ 4 ∧ rk j = 4 ∧ rkt T L q = 4)) (hll : l ≤ 4 → lo ≤ 4) (ey : y = z (msg j)) (hq : ∀ g, EF fr h g → PostE g T L r fr st o lo (tE T L p) c → kb g) : w_X10_knot h (fun h5 => w_X10_goOn h5 (fun h6 => W h6 (fun h7 => w_X10_puts 2 y h7 (fun h8 => kb h8)))) := by
  have jk : kso (-10 - j) = 2 ∧ kva (-10 - j) = msg j := by
    unfold kso kva
    rw [if_neg (by omega), if_neg (by omega), if_neg (by omega), if_neg (by omega), show -10 - (-10 - j) = j by omega]
    exact ⟨rfl, rfl⟩
  have fr0 := E.2.2.2.1
  have nst := no_rg st
  have endF : ∀ g, EF fr h g → FtF g r → w_X10_puts 2 y g (fun h8 => kb h8) := fun g f F => m_putsF F (hq g f (Or.inl F))
  refine m_knotN e E (by omega) (fun hc => ?_) (fun hc => ?_)
  · rw [if_pos hc] at er'
    have E1 : EM (sI h 0 45 (z (c + 1))) fr o (c + 1) out := by
      obtain ⟨a1, a2, a3, a4, a5⟩ := E
      exact ⟨by rw [gI_out (by omega)]; exact a1, by rw [gI_out (by omega)]; exact a2, gI_in rfl rfl, a4, fun i hi => ⟨by rw [gI_out (by omega)]; exact (a5 i hi).1, by rw [gI_out (by omega)]; exact (a5 i hi).2⟩⟩
    have f1 : ∀ a b, ¬ (a = 0 ∧ b = 45) → At h (sI h 0 45 (z (c + 1))) a b := fun a b hab => (At.rf h a b).sI hab
    have e1 : gI (sI h 0 45 (z (c + 1))) 0 40 = z 0 := by rw [gI_out (by omega)]; exact e
    have S1 : ScM (sI h 0 45 (z (c + 1))) T L := S.at' (fun a b hab => f1 a b (by omega))
    have t1 : TcM (sI h 0 45 (z (c + 1))) T L p := t.at' (fun k k0' k1' => f1 0 k (by omega))
    generalize sI h 0 45 (z (c + 1)) = g1 at *
    have F1 : EF fr h g1 := fun a b hab => f1 a b (by unfold exC at hab; omega)
    unfold w_X10_goOn
    rw [e1, if_pos (show z 0 = 0 from rfl)]
    refine m_tok S1 hp t1 (fun g2 f2 n2 t2 => ?_)
    have f2' : msF g1 g2 := fun a b hab => f2 a b (by omega)
    have I2 := hI hc
    refine hW g2 (c + 1) out (tE T L p) n' _ ⟨by rw [(f2 0 40 (by omega)).1]; exact e1, S1.ms f2', E1.ms f2', n2, t2, by omega, I2, ho, er'⟩ (hm hc) (fun a b => hnt a) (fun g3 f3 P3 => ?_)
    have F3 : EF fr h g3 := (F1.tr f2'.ef).tr f3
    rcases P3 with F | ⟨e3, out3, c3, p3, n3, E3, hp3, t3, hn3, nm3, lv⟩
    · exact endF g3 F3 F
    · have eno : no (j :: st) = 1 + no st := by
        show (if j = 13 then (0 : Int) else 1) + no st = _
        rw [if_neg (by omega)]
      have el : (((out3 ++ [-10 - j]).length : Nat) : Int) = (out3.length : Int) + 1 := by simp
      refine m_putsN (kn := -10 - j) e3 E3 (by omega) (by rw [jk.1]; rfl) (by rw [jk.2]; exact ey) (fun g4 f4 E4 => ?_)
      refine hq g4 (F3.tr (fun a b hab => f4 a b (by unfold exC at hab; omega))) (Or.inr ⟨by rw [(f4 0 40 (by omega)).1]; exact e3, _, c3, p3, n3, E4, by omega, t3.at' (fun k _ _ => f4 0 k (by omega)), hn3, by omega, ?_⟩)
      rcases lv with ⟨q1, q2, q3⟩ | ⟨q1, q2, q3⟩
      · rcases hpop p3 q1 with ⟨w1, w2, w3⟩ | ⟨w1, w2, w3⟩
        · exact Or.inl ⟨w1, q2.pop hj, by rw [q3]; exact sy_pop n3 rj w2 w3⟩
        · refine Or.inr ⟨w1, w3, ?_⟩
          obtain ⟨n4, en4⟩ : ∃ n4, n3 = n4 + 1 := ⟨n3 - 1, by omega⟩
          rw [q3, en4]
          have ra := rkt_all T L p3
          have j3 : jsg (tK T L p3) (tV T L p3) ≠ -1 := fun x => by
            unfold rkt at w3
            rw [if_pos x] at w3
            omega
          have r4 : rk (jsg (tK T L p3) (tV T L p3)) = 4 := by rw [← rkt_rk rfl j3]; exact w3
          have k5 : tK T L p3 = 5 ∧ ¬ (tV T L p3 = 59 ∨ tV T L p3 = 41) := by omega
          have s5 : rlS 5 (j :: st) = j :: st := if_neg (by omega)
          unfold sy
          rw [if_neg (fun x => by have := isS_iff.mp x.1; omega), if_neg (fun x => by have := isS_iff.mp x.1; omega), if_neg j3, if_pos r4, s5, if_pos (show top (j :: st) = 4 from w2)]
      · exact Or.inr ⟨hll q1, q2, q3⟩
  · rw [if_neg (by omega)] at er'
    refine m_wrongN (k := 2) e t rfl (by omega) er' (fun g f F => ?_)
    refine m_goOnF F ?_
    refine hP g _ F ?_
    exact endF g f.ef F
/-- a sign that joins, its right side, and the sign goes out -/
theorem m_core {W : PH → (PH → Prop) → Prop} {kb : PH → Prop} {l lo j m : Int} {nt : Bool} {n : Nat} {y : Int32} (hW : IC W T L r fr l (j :: st) o m nt) (hP : PZ W r) (S : ScM h T L) (e : gI h 0 40 = z 0) (E : EM h fr o c out) (hp : 0 ≤ p ∧ p ≤ L) (t : TcM h T L p) (hn : L - p < n) (I : SyI fr true st o c out) (ho : o ≤ 8) (er : r = sy T L n true st o c out p) (hm : (8 - o) + (64 - c) + 2 ≤ m)
    (ej : jsg (tK T L p) (tV T L p) = j) (hj : 0 ≤ j) (htop : top st < rk j) (hl4 : rk j = 4 → top st < 4) (hnt : nt = true → 3 < rk j) (hpop : ∀ q, rkt T L q < l → (rkt T L q < lo ∧ rkt T L q ≤ rk j ∧ ¬ (rk j = 4 ∧ rkt T L q = 4)) ∨ (lo ≤ 4 ∧ rk j = 4 ∧ rkt T L q = 4)) (hll : l ≤ 4 → lo ≤ 4) (ey : y = z (msg j)) (hq : ∀ g, EF fr h g → PostE g T L r fr st o lo (tE T L p) c → kb g) : w_X10_knot h (fun h5 => w_X10_goOn h5 (fun h6 => W h6 (fun h7 => w_X10_puts 2 y h7 (fun h8 => kb h8)))) := by
  have jr := jsg_rg (tK T L p) (tV T L p)
  rw [ej] at jr
  have hj' := jr.resolve_left (by omega)
  have nums := I.nums'
  have fr0 := E.2.2.2.1
  have rj : 1 ≤ rk j := by
    rcases Int.lt_or_le (rk j) 1 with x | x
    · have := rk_13 (o := j) (by omega) x
      omega
    · exact x
  have k0 : tK T L p ≠ 0 := fun x => by
    have : jsg (tK T L p) (tV T L p) = -1 := by unfold jsg; rw [if_neg (by omega), if_neg (by omega)]
    omega
  have nx := nx_lt S.2.2.2 hp k0
  have rl : ∀ q, top st < q → rlS q st = st ∧ rlO q st out = out := fun q hq' => by
    cases st with
    | nil => exact ⟨rfl, rfl⟩
    | cons a u =>
      replace hq' : rk a < q := hq'
      exact ⟨if_neg (by omega), if_neg (by omega)⟩
  -- the machine's step over the sign
  have step : ∀ n' : Nat, n = n' + 1 → r = if c < 64 then sy T L n' false (j :: st) o (c + 1) out (tE T L p) else pF T L 2 p := fun n' en => by
    rw [en] at er
    have al := jsg_all (tK T L p) (tV T L p)
    unfold sy at er
    have s1 : ¬ (isS T L p 59 = true ∧ o = 0) := fun x => by have := isS_iff.mp x.1; omega
    have s2 : ¬ (isS T L p 41 = true ∧ 0 < o) := fun x => by have := isS_iff.mp x.1; omega
    rw [if_neg s1, if_neg s2, ej, if_neg (by omega)] at er
    by_cases c4 : rk j = 4
    · have t4 := hl4 c4
      obtain ⟨l1, l2⟩ := rl 5 (by omega)
      rw [if_pos c4, l1, l2, if_neg (by omega)] at er
      exact er
    · obtain ⟨l1, l2⟩ := rl (rk j) htop
      rw [if_neg c4, l1, l2] at er
      exact er
  obtain ⟨n', en⟩ : ∃ n', n = n' + 1 := ⟨n - 1, by omega⟩
  have er' := step n' en
  refine m_core0 hW hP S e E hp t k0 (n' := n') (by omega) (by omega) (fun hc => ?_) ho er' (fun _ => by omega) (by omega) hj'.1 rj hnt hpop hll ey hq
  have I2 := I.push hj' hc rj
  rw [(rl (rk j) htop).1, (rl (rk j) htop).2] at I2
  exact I2
end REXP
