/-! ===== questions: from state to state ===== -/
def i32 (v : Int) : Prop := -2147483648 ≤ v ∧ v < 2147483648
section SX
variable {h : PH} {w : Nat} {s : St} {p q m k v x c : Int}
theorem xs_far {Q : Int32 → PH → Prop} (I : IX h w s) (hp : i32 p) (hq1 : i32 q) (hq : ∀ g, IX g w s → KpX h g → Q (z (a_far s.a p q)) g) : w_X9_far (z p) (z q) h Q :=
  xq_far I.gh hp hq1 (fun g f N => by rw [a_far_sa (mkd_sa _ _)]; exact hq g (I.air N f).1 (I.air N f).2)
theorem xs_heard {Q : Int32 → PH → Prop} (I : IX h w s) (hp : i32 p) (hm : i32 m) (hq : ∀ g, IX g w s → KpX h g → Q (z (a_heard s.a p m)) g) : w_X9_heard (z p) (z m) h Q :=
  xq_heard I.gh hp hm (fun g f N => by rw [a_heard_sa (mkd_sa _ _)]; exact hq g (I.air N f).1 (I.air N f).2)
theorem xs_whose {Q : Int32 → PH → Prop} (I : IX h w s) (hp : i32 p) (hm : i32 m) (hq : ∀ g, IX g w s → KpX h g → Q (z (a_whose s.a p m)) g) : w_X9_whose (z p) (z m) h Q :=
  xq_whose I.gh hp hm (fun g f N => by rw [a_whose_sa (mkd_sa _ _)]; exact hq g (I.air N f).1 (I.air N f).2)
theorem xs_hush {Q : Int64 → PH → Prop} (I : IX h w s) (hp : i32 p) (hq : ∀ g, IX g w s → KpX h g → Q (a_hush s.a p) g) : w_X9_hush (z p) h Q :=
  xq_hush I.gh hp (fun g f N => by rw [a_hush_sa (mkd_sa _ _)]; exact hq g (I.air N f).1 (I.air N f).2)
theorem xs_noise {Q : Int32 → PH → Prop} (I : IX h w s) (hp : i32 p) (hm : i32 q) (hq : ∀ g, IX g w s → KpX h g → Q (z (a_cell s.a 3 p q)) g) : w_X9_noise (z p) (z q) h Q :=
  xq_noise I.1 hp hm (hq h I (KpX.rf h))
theorem xs_claim {Q : Int32 → PH → Prop} (I : IX h w s) (hp : i32 p) (hm : i32 q) (hq : ∀ g, IX g w s → KpX h g → Q (z (a_cell s.a 4 p q)) g) : w_X9_claim (z p) (z q) h Q :=
  xq_claim I.1 hp hm (hq h I (KpX.rf h))
theorem xs_link {Q : Int32 → PH → Prop} (I : IX h w s) (hp : i32 p) (hm : i32 q) (hq : ∀ g, IX g w s → KpX h g → Q (z (a_cell s.a 1 p q)) g) : w_X9_link (z p) (z q) h Q :=
  xq_link I.1 hp hm (hq h I (KpX.rf h))
theorem xs_named {Q : Int32 → PH → Prop} (I : IX h w s) (hk : i32 k) (hv : i32 v) (hq : ∀ g, IX g w s → KpX h g → Q (z (a_named s.a k v)) g) : w_X9_named (z k) (z v) h Q :=
  xq_named I.1 hk hv (hq h I (KpX.rf h))
theorem xs_rests {Q : Int32 → PH → Prop} (I : IX h w s) (h1 : i32 p) (h2 : i32 q) (h3 : i32 m) (hq : ∀ g, IX g w s → KpX h g → Q (z (a_rests p q m)) g) : w_X9_rests (z p) (z q) (z m) h Q :=
  xq_rests h1 h2 h3 (hq h I (KpX.rf h))
theorem xs_rest {Q : Int32 → PH → Prop} (I : IX h w s) (h1 : i32 p) (h2 : i32 q) (h3 : i32 m) (h4 : i32 k) (hq : ∀ g, IX g w s → KpX h g → Q (z (a_rest p q m k)) g) : w_X9_rest (z p) (z q) (z m) (z k) h Q :=
  xq_rest h1 h2 h3 h4 (hq h I (KpX.rf h))
theorem xs_law {Q : Int64 → PH → Prop} (I : IX h w s) (hk : i32 k) (hx : i32 x) (hv : i32 v) (hc : i32 c) (hq : ∀ g, IX g w s → KpX h g → Q (a_law s.a k x v c) g) : w_X9_law (z k) (z x) (z v) (z c) h Q :=
  xq_law I.gh hk hx hv hc (fun g f N => by
    have hw := I.w
    have r := I.fin N (I.2.2.1.fr (fun c k b1 b2 => f c k (by unfold lawR; omega))) (fun c k hc => f c k (by unfold scrX at hc; unfold lawR; omega))
    exact hq g r.1 r.2)
theorem xs_tried {Q : Int32 → PH → Prop} (I : IX h w s) (hk : i32 k) (hp : i32 p) (hq : ∀ g, IX g w s → KpX h g → Q (z (a_tried s.a k p)) g) : w_X9_tried (z k) (z p) h Q :=
  xq_tried I.gh I.2.2.1 hk hp (fun g f N S => by
    have hw := I.w
    have r := I.fin N S (fun c k hc => f c k (by unfold scrX at hc; unfold trR; omega))
    rw [a_tried_sa (mkd_sa _ _)]
    exact hq g r.1 r.2)
def a_fault (s : St) (k : Int) : Int := if k = 0 then s.fk else if k = 1 then s.fa else -1
theorem xs_fault {Q : Int32 → PH → Prop} (I : IX h w s) (hk : i32 k) (hq : ∀ g, IX g w s → KpX h g → Q (z (a_fault s k)) g) : w_X9_fault (z k) h Q := by
  have r := hq h I (KpX.rf h)
  obtain ⟨_, _, _, _, _, _, _, ⟨_, i14, i15⟩, _, _⟩ := I
  unfold a_fault at r
  unfold w_X9_fault
  by_cases c1 : k = 0
  · rw [if_pos (by rw [c1]; rfl), i14]
    rw [if_pos c1] at r; exact r
  · rw [if_neg (show ¬ z k = 0 from z_ne hk.1 hk.2 (by decide) (by decide) c1)]
    rw [if_neg c1] at r
    by_cases c2 : k = 1
    · rw [if_pos (by rw [c2]; rfl), i15]
      rw [if_pos c2] at r; exact r
    · rw [if_neg (show ¬ z k = 1 from z_ne hk.1 hk.2 (by decide) (by decide) c2)]
      rw [if_neg c2] at r; exact r
end SX
section SM
variable {h : PH} {s : St} {p q m k v x c : Int}
theorem ms_far {Q : Int32 → PH → Prop} (J : IM h s) (hp : i32 p) (hq1 : i32 q) (hq : ∀ g, IM g s → Q (z (a_far s.a p q)) g) : w_X10_far (z p) (z q) h Q := mq_far J.1 hp hq1 (fun g f => hq g (J.fr f))
theorem ms_heard {Q : Int32 → PH → Prop} (J : IM h s) (hp : i32 p) (hm : i32 m) (hq : ∀ g, IM g s → Q (z (a_heard s.a p m)) g) : w_X10_heard (z p) (z m) h Q := mq_heard J.1 hp hm (fun g f => hq g (J.fr f))
theorem ms_whose {Q : Int32 → PH → Prop} (J : IM h s) (hp : i32 p) (hm : i32 m) (hq : ∀ g, IM g s → Q (z (a_whose s.a p m)) g) : w_X10_whose (z p) (z m) h Q := mq_whose J.1 hp hm (fun g f => hq g (J.fr f))
theorem ms_hush {Q : Int64 → PH → Prop} (J : IM h s) (hp : i32 p) (hq : ∀ g, IM g s → Q (a_hush s.a p) g) : w_X10_hush (z p) h Q := mq_hush J.1 hp (fun g f => hq g (J.fr f))
theorem ms_noise {Q : Int32 → PH → Prop} (J : IM h s) (hp : i32 p) (hm : i32 q) (hq : ∀ g, IM g s → Q (z (a_cell s.a 3 p q)) g) : w_X10_noise (z p) (z q) h Q := mq_noise J.1 hp hm (fun g f => hq g (J.fr f))
theorem ms_claim {Q : Int32 → PH → Prop} (J : IM h s) (hp : i32 p) (hm : i32 q) (hq : ∀ g, IM g s → Q (z (a_cell s.a 4 p q)) g) : w_X10_claim (z p) (z q) h Q := mq_claim J.1 hp hm (fun g f => hq g (J.fr f))
theorem ms_link {Q : Int32 → PH → Prop} (J : IM h s) (hp : i32 p) (hm : i32 q) (hq : ∀ g, IM g s → Q (z (a_cell s.a 1 p q)) g) : w_X10_link (z p) (z q) h Q := mq_link J.1 hp hm (fun g f => hq g (J.fr f))
theorem ms_named {Q : Int32 → PH → Prop} (J : IM h s) (hk : i32 k) (hv : i32 v) (hq : ∀ g, IM g s → Q (z (a_named s.a k v)) g) : w_X10_named (z k) (z v) h Q := mq_named J.1 hk hv (fun g f => hq g (J.fr f))
theorem ms_rests {Q : Int32 → PH → Prop} (J : IM h s) (h1 : i32 p) (h2 : i32 q) (h3 : i32 m) (hq : ∀ g, IM g s → Q (z (a_rests p q m)) g) : w_X10_rests (z p) (z q) (z m) h Q := mq_rests h1 h2 h3 (fun g f => hq g (J.fr f))
theorem ms_rest {Q : Int32 → PH → Prop} (J : IM h s) (h1 : i32 p) (h2 : i32 q) (h3 : i32 m) (h4 : i32 k) (hq : ∀ g, IM g s → Q (z (a_rest p q m k)) g) : w_X10_rest (z p) (z q) (z m) (z k) h Q := mq_rest h1 h2 h3 h4 (fun g f => hq g (J.fr f))
theorem ms_law {Q : Int64 → PH → Prop} (J : IM h s) (hk : i32 k) (hx : i32 x) (hv : i32 v) (hc : i32 c) (hq : ∀ g, IM g s → Q (a_law s.a k x v c) g) : w_X10_law (z k) (z x) (z v) (z c) h Q := mq_law J.1 hk hx hv hc (fun g f => hq g (J.fr f))
theorem ms_tried {Q : Int32 → PH → Prop} (J : IM h s) (hk : i32 k) (hp : i32 p) (hq : ∀ g, IM g s → Q (z (a_tried s.a k p)) g) : w_X10_tried (z k) (z p) h Q := mq_tried J.1 hk hp (fun g f => hq g (J.fr f))
theorem ms_owner {Q : Int32 → PH → Prop} (J : IM h s) (hp : i32 p) (hk : i32 k) (hq : ∀ g, IM g s → gI g 0 0 = z (thr s.a p k) → Q (z (if thr s.a p k = 0 then a_owner s.a p k else 0)) g) : w_X10_owner (z p) (z k) h Q := mq_owner J.1 hp hk (fun g f e => hq g (J.fr f) e)
theorem ms_fault {Q : Int32 → PH → Prop} (J : IM h s) (hk : i32 k) (hq : ∀ g, IM g s → Q (z (a_fault s k)) g) : w_X10_fault (z k) h Q := by
  unfold w_X10_fault
  rintro _ rfl
  have J1 := J.fr (fr0 h 0)
  have r := hq _ J1
  obtain ⟨_, _, _, _, _, ⟨i14, i15⟩, _⟩ := J1
  unfold a_fault at r
  by_cases c1 : k = 0
  · rw [if_pos (by rw [c1]; rfl), i14]
    rw [if_pos c1] at r; exact r
  · rw [if_neg (show ¬ z k = 0 from z_ne hk.1 hk.2 (by decide) (by decide) c1)]
    rw [if_neg c1] at r
    by_cases c2 : k = 1
    · rw [if_pos (by rw [c2]; rfl), i15]
      rw [if_pos c2] at r; exact r
    · rw [if_neg (show ¬ z k = 1 from z_ne hk.1 hk.2 (by decide) (by decide) c2)]
      rw [if_neg c2] at r; exact r
end SM
