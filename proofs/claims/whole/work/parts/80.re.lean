/-! ===== THE STATE OF BOTH ===== -/
/-- the words of the language as the class packs them -/
def tgL : List Int := [549489824, 412560384, 527898176, 273991680, 485805216, 113288608, 613655168, 672771072, 150175744, 773206016, 211227648, 642945024, 404455424, 202511360, 788091136, 522190848, 48365568, 486146048, 419074048, 202964992, 446125701, 418847744, 437740544, 780632064]
def tg24 (k : Nat) : Int := tgL.getD k 0
abbrev St : Type := Wd × (Int × (Int → Wd)) × (Bool × Wd) × (Int × (Nat → Int → Int) × Int) × (Int × (Int → Int)) × (Int × Int)
abbrev St.a (s : St) : Wd := s.1
abbrev St.un (s : St) : Int := s.2.1.1
abbrev St.u (s : St) : Int → Wd := s.2.1.2
abbrev St.ik (s : St) : Bool := s.2.2.1.1
abbrev St.im (s : St) : Wd := s.2.2.1.2
abbrev St.nn (s : St) : Int := s.2.2.2.1.1
abbrev St.nt (s : St) : Nat → Int → Int := s.2.2.2.1.2.1
abbrev St.kb (s : St) : Int := s.2.2.2.1.2.2
abbrev St.tn (s : St) : Int := s.2.2.2.2.1.1
abbrev St.tp (s : St) : Int → Int := s.2.2.2.2.1.2
abbrev St.fk (s : St) : Int := s.2.2.2.2.2.1
abbrev St.fa (s : St) : Int := s.2.2.2.2.2.2
def OkNt (p nn : Int) (nt : Nat → Int → Int) (kb : Int) : Prop := (0 ≤ nn ∧ nn ≤ 24) ∧ (-1 ≤ kb ∧ kb ≤ nn) ∧ ∀ k, 0 ≤ k → k < nn → ((nt 0 k = 0 ∨ nt 0 k = 1) ∧ (0 ≤ nt 1 k ∧ nt 1 k < p) ∧ (0 ≤ nt 2 k ∧ nt 2 k < 48)) ∨ (nt 0 k = 2 ∧ (0 ≤ nt 1 k ∧ nt 1 k < k) ∧ nt 2 k = 0)
def OkTp (tn : Int) (tp : Int → Int) : Prop := (0 ≤ tn ∧ tn ≤ 700 ∧ tn % 20 = 0) ∧ ∀ k, 0 ≤ tp k ∧ tp k < 256
def OkS (s : St) : Prop := (Now s.a ∧ s.a.n 9 = 0) ∧ (0 ≤ s.un ∧ s.un ≤ 20) ∧ s.u s.un = s.a ∧ (∀ k, 0 ≤ k → k ≤ s.un → Now (s.u k) ∧ (s.u k).n 9 = 0 ∧ Tld s.a (s.u k)) ∧ (s.ik = true → Now s.im ∧ s.im.n 9 = 0 ∧ Tld s.a s.im) ∧ OkNt (s.a.n 0) s.nn s.nt s.kb ∧ OkTp s.tn s.tp
def NtX (h : PH) (s : St) : Prop := Rw h 130 3 24 s.nn ∧ (∀ k, 0 ≤ k → k < s.nn → ∀ c : Nat, c < 3 → gI h 131 (k * 3 + c).toNat = z (s.nt c k)) ∧ gI h 129 4 = z s.kb
/-- a byte as the class keeps it -/
def sb (v : Int) : Int := if v < 128 then v else v - 256
def TpX (h : PH) (s : St) : Prop := gI h 0 1 = z s.tn ∧ ∀ k, 0 ≤ k → k < s.tn → gI h 1 k.toNat = z (sb (s.tp k))
def RdX (h : PH) (s : St) : Prop := (∀ k, k < 24 → gI h 4 k = z (tg24 k)) ∧ gI h 2 8 = z s.fk ∧ gI h 2 9 = z s.fa
def PcR (h : PH) : Prop := (∃ n, Rw h 113 4 144 n) ∧ ∃ n, Rw h 115 6 144 n
def bI (b : Bool) : Int := if b = true then 1 else 0
theorem bI_T : bI true = 1 := rfl
theorem bI_F : bI false = 0 := rfl
def ImX (h : PH) (s : St) : Prop := WS h 54 ∧ gI h 0 6 = z (bI s.ik) ∧ (s.ik = true → WX h 54 s.im)
def IX (h : PH) (w : Nat) (s : St) : Prop := NX h w s.a ∧ (gP h 0 4 = 40 - w ∧ WS h (39 - w)) ∧ WS h 77 ∧ ImX h s ∧ LgX h s.un s.u ∧ NtX h s ∧ TpX h s ∧ RdX h s ∧ PcR h ∧ OkS s
/-- cells of the class that hold nothing from one call to the next, and the air -/
def scrX (w c k : Nat) : Prop := (c = 0 ∧ k = 9) ∨ (101 ≤ c ∧ c ≤ 105) ∨ c = w + 17 ∨ c = w + 18 ∨ c = w + 21 ∨ c = w + 22 ∨ (77 ≤ c ∧ c ≤ 99) ∨ (107 ≤ c ∧ c ≤ 111) ∨ (118 ≤ c ∧ c ≤ 128) ∨ (132 ≤ c ∧ c ≤ 134) ∨ (c = 129 ∧ 5 ≤ k ∧ k ≤ 7) ∨ c = 137 ∨ c = 138
/-- the pieces stay, or are stale -/
def KpX (h g : PH) : Prop := gI g 0 12 = 0 ∨ (gI g 0 12 = gI h 0 12 ∧ (gI h 0 9 = 1 → gI g 0 9 = 1) ∧ ∀ c k, 113 ≤ c → c ≤ 116 → At h g c k)
theorem WS.fr {h g : PH} {t : Nat} (S : WS h t) (e : ∀ c k, t ≤ c → c < t + 15 → At h g c k) : WS g t := S.at' (fun r hr => ⟨(e _ _ (by omega) (by omega)).1, (e _ _ (by omega) (by omega)).1⟩)
theorem IX.fr {h g : PH} {w : Nat} {s : St} (I : IX h w s) (N : NX g w s.a) (S : WS g 77) (e : ∀ c k, ¬ scrX w c k → At h g c k) : IX g w s := by
  obtain ⟨i1, ⟨i2, i2'⟩, i3, ⟨i4, i5, i6⟩, i7, ⟨i8, i9, i10⟩, ⟨i11, i12⟩, ⟨i13, i14, i15⟩, ⟨⟨p1, i16⟩, ⟨p2, i17⟩⟩, i18⟩ := I
  have hw := N.1
  refine ⟨N, ⟨?_, ?_⟩, S, ⟨?_, ?_, fun b => ?_⟩, ?_, ⟨?_, fun k k0 k1 c hc => ?_, ?_⟩, ⟨?_, fun k k0 k1 => ?_⟩, ⟨fun k hk => ?_, ?_, ?_⟩, ⟨⟨p1, ?_⟩, ⟨p2, ?_⟩⟩, i18⟩
  · rw [(e 0 4 (by unfold scrX; omega)).2.2]; exact i2
  · exact i2'.fr (fun c k b1 b2 => e c k (by unfold scrX; omega))
  · exact i4.fr (fun c k b1 b2 => e c k (by unfold scrX; omega))
  · rw [(e 0 6 (by unfold scrX; omega)).1]; exact i5
  · exact (i6 b).at' (fun c k b1 b2 b3 b4 b5 b6 => e c k (by unfold scrX; omega))
  · exact i7.at' (fun c k hc => e c k (by unfold scrX; omega))
  · exact i8.at' (fun k => e 130 k (by unfold scrX; omega))
  · rw [(e 131 _ (by unfold scrX; omega)).1]; exact i9 k k0 k1 c hc
  · rw [(e 129 4 (by unfold scrX; omega)).1]; exact i10
  · rw [(e 0 1 (by unfold scrX; omega)).1]; exact i11
  · rw [(e 1 _ (by unfold scrX; omega)).1]; exact i12 k k0 k1
  · rw [(e 4 _ (by unfold scrX; omega)).1]; exact i13 k hk
  · rw [(e 2 8 (by unfold scrX; omega)).1]; exact i14
  · rw [(e 2 9 (by unfold scrX; omega)).1]; exact i15
  · exact i16.at' (fun k => e 113 k (by unfold scrX; omega))
  · exact i17.at' (fun k => e 115 k (by unfold scrX; omega))
/-- a world with a mark: its air must stay fresh -/
def mkd (t : Int) (a : Wd) : Wd := (fun r => if r = 9 then t else a.n r, a.2)
theorem mkd_n {t : Int} {a : Wd} {r : Nat} (h : r ≠ 9) : (mkd t a).n r = a.n r := if_neg h
theorem mkd_sa (t : Int) (a : Wd) : SA a (mkd t a) := ⟨fun r hr => mkd_n hr, fun _ _ _ _ _ => rfl, rfl, rfl⟩
theorem NX.gh {h : PH} {w : Nat} {a : Wd} {t : Int} (N : NX h w a) (ht : t = 1 → gI h 0 9 = 1) : NX h w (mkd t a) := by
  obtain ⟨n1, n2, n3, n4, n5, n6⟩ := N
  refine ⟨n1, n2, n3.ext (fun r hr => mkd_n (by omega)) (fun r c k _ _ _ _ => rfl) (fun c => rfl) rfl rfl, n4, ?_, fun e => by rw [far_sa (mkd_sa t a)]; exact (n6 e).sa (mkd_sa t a)⟩
  rcases n5 with ⟨e, _⟩ | e
  · by_cases c : t = 1
    · exact Or.inr (ht c)
    · exact Or.inl ⟨e, c⟩
  · exact Or.inr e
theorem NX.ungh {h : PH} {w : Nat} {a : Wd} {t : Int} (N : NX h w (mkd t a)) (h9 : a.n 9 = 0) : NX h w a ∧ (t = 1 → gI h 0 9 = 1) := by
  obtain ⟨n1, n2, n3, n4, n5, n6⟩ := N
  refine ⟨⟨n1, n2, n3.ext (fun r hr => (mkd_n (by omega)).symm) (fun r c k _ _ _ _ => rfl) (fun c => rfl) rfl rfl, n4, ?_, fun e => by rw [← far_sa (mkd_sa t a)]; exact (n6 e).sa (mkd_sa t a).sy⟩, fun e => ?_⟩
  · rcases n5 with ⟨e, _⟩ | e
    · exact Or.inl ⟨e, by omega⟩
    · exact Or.inr e
  · rcases n5 with ⟨_, e2⟩ | e2
    · exact absurd e e2
    · exact e2
def fl (h : PH) : Int := if gI h 0 9 = 1 then 1 else 0
theorem IX.gh {h : PH} {w : Nat} {s : St} (I : IX h w s) : NX h w (mkd (fl h) s.a) := I.1.gh (fun e => by
  unfold fl at e
  by_cases c : gI h 0 9 = 1
  · exact c
  · rw [if_neg c] at e; omega)
theorem IX.fin {h g : PH} {w : Nat} {s : St} (I : IX h w s) (N : NX g w (mkd (fl h) s.a)) (S : WS g 77) (e : ∀ c k, ¬ scrX w c k → At h g c k) : IX g w s ∧ KpX h g := by
  have hw := N.1
  obtain ⟨N', f⟩ := N.ungh I.2.2.2.2.2.2.2.2.2.1.2
  refine ⟨I.fr N' S e, Or.inr ⟨(e 0 12 (by unfold scrX; omega)).1, fun x => f (if_pos x), fun c k c1 c2 => e c k (by unfold scrX; omega)⟩⟩
theorem IX.w {h : PH} {w : Nat} {s : St} (I : IX h w s) : w = 8 ∨ w = 31 := I.1.1
theorem KpX.rf (h : PH) : KpX h h := Or.inr ⟨rfl, fun e => e, fun c k _ _ => At.rf h c k⟩
theorem IX.air {h g : PH} {w : Nat} {s : St} (I : IX h w s) (N : NX g w (mkd (fl h) s.a)) (e : ∀ c k, ¬ airR w c k → At h g c k) : IX g w s ∧ KpX h g := by
  have hw := I.w
  exact I.fin N (I.2.2.1.fr (fun c k b1 b2 => e c k (by unfold airR; omega))) (fun c k hc => e c k (by unfold scrX at hc; unfold airR; omega))
/-! the reference -/
def NtM (h : PH) (s : St) : Prop := gI h 0 94 = z s.nn ∧ gI h 0 95 = z s.kb ∧ ∀ k, 0 ≤ k → k < s.nn → (s.nt 0 k ≤ 1 → gI h 67 k.toNat = z (s.nt 1 k) ∧ gI h 68 k.toNat = z (s.nt 2 k) ∧ gI h 69 k.toNat = z (s.nt 0 k) ∧ gI h 70 k.toNat = -1) ∧ (s.nt 0 k = 2 → gI h 70 k.toNat = z (s.nt 1 k))
def TpM (h : PH) (s : St) : Prop := gI h 0 2 = z s.tn ∧ ∀ k, 0 ≤ k → k < s.tn → gI h 1 k.toNat = z (s.tp k)
def FtM (h : PH) (s : St) : Prop := gI h 0 42 = z s.fk ∧ gI h 0 43 = z s.fa
def ImM (h : PH) (s : St) : Prop := gI h 0 60 = z (bI s.ik) ∧ (s.ik = true → MD h 1 s.im)
def IM (h : PH) (s : St) : Prop := MW h s.a ∧ DyM h s.un s.u ∧ ImM h s ∧ NtM h s ∧ TpM h s ∧ FtM h s ∧ OkS s
theorem DyM.at' {h g : PH} {un : Int} {u : Int → Wd} (D : DyM h un u) (e0 : At h g 0 61) (e : ∀ c k, 34 ≤ c → c < 45 → At h g c k) : DyM g un u := ⟨by rw [e0.1]; exact D.1, D.2.1, fun i i0 i1 => ⟨(D.2.2 i i0 i1).1.at' e, (D.2.2 i i0 i1).2⟩⟩
theorem NtM.at' {h g : PH} {s : St} (D : NtM h s) (e0 : ∀ k, k = 94 ∨ k = 95 → At h g 0 k) (e : ∀ c k, 67 ≤ c → c ≤ 70 → At h g c k) : NtM g s := by
  refine ⟨by rw [(e0 94 (Or.inl rfl)).1]; exact D.1, by rw [(e0 95 (Or.inr rfl)).1]; exact D.2.1, fun k k0 k1 => ?_⟩
  rw [(e 67 _ (by omega) (by omega)).1, (e 68 _ (by omega) (by omega)).1, (e 69 _ (by omega) (by omega)).1, (e 70 _ (by omega) (by omega)).1]
  exact D.2.2 k k0 k1
theorem IM.fr {h g : PH} {s : St} (J : IM h s) (e : ∀ c k, ¬ scrM c k → At h g c k) : IM g s := by
  obtain ⟨j1, j2, ⟨j3, j4⟩, j5, ⟨j6, j7⟩, ⟨j8, j9⟩, j10⟩ := J
  refine ⟨j1.at' e, j2.at' (e 0 61 (by unfold scrM; omega)) (fun c k b1 b2 => e c k (by unfold scrM; omega)), ⟨?_, fun b => (j4 b).at' (fun c k b1 b2 => e c k (by unfold scrM; omega))⟩, j5.at' (fun k hk => e 0 k (by unfold scrM; omega)) (fun c k b1 b2 => e c k (by unfold scrM; omega)), ⟨?_, fun k k0 k1 => ?_⟩, ⟨?_, ?_⟩, j10⟩
  · rw [(e 0 60 (by unfold scrM; omega)).1]; exact j3
  · rw [(e 0 2 (by unfold scrM; omega)).1]; exact j6
  · rw [(e 1 _ (by unfold scrM; omega)).1]; exact j7 k k0 k1
  · rw [(e 0 42 (by unfold scrM; omega)).1]; exact j8
  · rw [(e 0 43 (by unfold scrM; omega)).1]; exact j9
