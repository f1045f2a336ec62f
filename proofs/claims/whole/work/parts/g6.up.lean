/-- the words packed, letter by letter: word, start, list -/
def swS : Nat → Int32 × Int32 × List Int32
  | 0 => (0, 0, List.replicate 24 0)
  | i + 1 =>
    let p := swS i
    let c : Int := wch ((i : Nat) : Int)
    if c = 32 then (p.1 + 1, z ((i : Nat) : Int) + 1, if 24 ≤ p.1 then p.2.2 else p.2.2.set (iN p.1) ((p.2.2.getD (iN p.1) 0) <<< (((5 * (6 - (z ((i : Nat) : Int) - p.2.1))) : Int32) &&& 31)))
    else (p.1, p.2.1, if 24 ≤ p.1 then p.2.2 else p.2.2.set (iN p.1) (((p.2.2.getD (iN p.1) 0) <<< ((5 : Int32) &&& 31)) ||| ((z c - 97) + 1)))
theorem swS_in0 : ∀ i : Fin 120, (24 ≤ (swS i.val).1 ∨ (¬ ((swS i.val).1 < 0 ∨ 24 ≤ (swS i.val).1.toNatClampNeg) ∧ iN (swS i.val).1 < 24)) ∧ (swS i.val).2.2.length = 24 := by decide +kernel
theorem swS_in (i : Fin 120) : (24 ≤ (swS i.val).1 ∨ (vp_in (swS i.val).1 24 ∧ iN (swS i.val).1 < 24)) ∧ (swS i.val).2.2.length = 24 := by
  obtain ⟨h1, h2⟩ := swS_in0 i
  refine ⟨h1.imp id (fun x => ⟨x.1, x.2⟩), h2⟩
theorem swS_end : (swS 120).2.2 = tgL.map z := by decide +kernel
theorem getD_set {A : Type} (T : List A) (i j : Nat) (v d : A) (hi : i < T.length) : (T.set i v).getD j d = if j = i then v else T.getD j d := by
  rw [List.getD_eq_getElem?_getD, List.getD_eq_getElem?_getD, List.getElem?_set]
  by_cases c : i = j
  · rw [if_pos c, if_pos hi, if_pos c.symm]; rfl
  · rw [if_neg c, if_neg (fun e => c e.symm)]
theorem tg_ok : Tg (fun j => z (tg24 j)) := by
  unfold Tg w_X7_init
  refine for32 120 (fun i x1 x2 g => x1 = (swS i.toNat).1 ∧ x2 = (swS i.toNat).2.1 ∧ (∀ j, j < 24 → gI g 1 j = (swS i.toNat).2.2.getD j 0) ∧ (∀ k, gI g 0 k = 0) ∧ (∀ k, gP g 0 k = 0)) 0 rfl (by omega) (by omega) (by omega) ⟨rfl, rfl, fun j j1 => ?_, fun _ => rfl, fun _ => rfl⟩ ?_ ?_
  · show (0 : Int32) = (List.replicate 24 0).getD j 0
    rw [List.getD_eq_getElem?_getD, List.getElem?_replicate]
    by_cases c : j < 24
    · rw [if_pos c]; rfl
    · rw [if_neg c]; rfl
  · rintro kb i _ _ g i0 i1 ⟨rfl, rfl, r1, r2, r3⟩ hn
    have ei : ((i.toNat : Nat) : Int) = i := by omega
    have hi := swS_in ⟨i.toNat, by omega⟩
    dsimp only at hi
    have es : (i + 1).toNat = i.toNat + 1 := by omega
    have hn' := fun (b0 b1 : Int32) (g' : PH) (q : b0 = (swS (i.toNat + 1)).1 ∧ b1 = (swS (i.toNat + 1)).2.1 ∧ (∀ j, j < 24 → gI g' 1 j = (swS (i.toNat + 1)).2.2.getD j 0) ∧ (∀ k, gI g' 0 k = 0) ∧ (∀ k, gP g' 0 k = 0)) => hn b0 b1 g' (by rw [es]; exact q)
    unfold w_X7_init_18
    refine m_length ?_
    rw [if_neg (by rw [z_le (by omega) (by omega) (by omega) (by omega)]; omega)]
    refine m_charAt i0 (by omega) ?_
    obtain ⟨⟨w, s0, T⟩, eS⟩ : ∃ p, p = swS i.toNat := ⟨_, rfl⟩
    have hn'' := hn'
    unfold swS at hn''
    rw [← eS, ei] at hn''
    rw [← eS] at r1 hi
    rw [← eS]
    dsimp only at hn'' r1 hi ⊢
    have hw : (z (wch i) = 32) ↔ (wch i = 32) := by
      obtain ⟨-, e2, e3⟩ := wch_tab ⟨i.toNat, by omega⟩
      simp only [ei] at e2 e3
      rw [show (32 : Int32) = z 32 from rfl, z_eq (by omega) (by omega) (by omega) (by omega)]
    by_cases c : wch i = 32
    · rw [if_pos (hw.mpr c)]
      simp only [if_pos c] at hn''
      unfold w_X7_init_61
      by_cases d : 24 ≤ w
      · rw [if_pos d]
        simp only [if_pos d] at hn''
        rintro _ rfl
        rw [z_inc]
        exact hn'' _ _ _ ⟨rfl, by rw [z_inc], r1, r2, r3⟩
      · rw [if_neg d]
        simp only [if_neg d] at hn''
        obtain ⟨v1, v2⟩ := hi.1.resolve_left d
        refine ⟨v1, v1, ?_⟩
        rintro _ rfl _ rfl
        rw [z_inc]
        refine hn'' _ _ _ ⟨rfl, by rw [z_inc], fun j j1 => ?_, fun k => ?_, fun k => r3 k⟩
        · rw [getD_set _ _ _ _ _ (by rw [hi.2]; exact v2)]
          by_cases ej : j = iN w
          · rw [if_pos ej, ej, gI_in rfl rfl, r1 _ v2]
          · rw [if_neg ej, gI_out (by omega)]
            exact r1 j j1
        · rw [gI_out (by omega)]; exact r2 k
    · rw [if_neg (fun x => c (hw.mp x))]
      simp only [if_neg c] at hn''
      by_cases d : 24 ≤ w
      · rw [if_pos d, z_inc]
        simp only [if_pos d] at hn''
        exact hn'' _ _ _ ⟨rfl, rfl, r1, r2, r3⟩
      · rw [if_neg d]
        simp only [if_neg d] at hn''
        obtain ⟨v1, v2⟩ := hi.1.resolve_left d
        refine ⟨v1, m_charAt i0 (by omega) ⟨v1, ?_⟩⟩
        rintro _ rfl
        rw [z_inc]
        refine hn'' _ _ _ ⟨rfl, rfl, fun j j1 => ?_, fun k => ?_, fun k => r3 k⟩
        · rw [getD_set _ _ _ _ _ (by rw [hi.2]; exact v2)]
          by_cases ej : j = iN w
          · rw [if_pos ej, ej, gI_in rfl rfl, r1 _ v2]
          · rw [if_neg ej, gI_out (by omega)]
            exact r1 j j1
        · rw [gI_out (by omega)]; exact r2 k
  · rintro kb _ _ g ⟨rfl, rfl, r1, r2, r3⟩
    unfold w_X7_init_18
    refine m_length ?_
    rw [if_pos (by rw [z_le (by omega) (by omega) (by omega) (by omega)]; omega)]
    refine ⟨fun j j1 => ?_, r2, r3⟩
    rw [r1 j j1, show (120 : Int).toNat = 120 from rfl, swS_end]
    unfold tg24
    show _ = z (tgL.getD j 0)
    rw [List.getD_eq_getElem?_getD, List.getD_eq_getElem?_getD, List.getElem?_map]
    have : j < tgL.length := j1
    rw [List.getElem?_eq_getElem this]
    rfl
