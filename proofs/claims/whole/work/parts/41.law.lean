/-! ===== first one, sums ===== -/
def ffr (p : Int → Bool) : Nat → Int → Int
  | 0, _ => -1
  | n + 1, i => if p i = true then i else ffr p n (i + 1)
def ff (p : Int → Bool) (n : Int) : Int := ffr p n.toNat 0
theorem ffr_yes {p : Int → Bool} : ∀ (n : Nat) (i r : Int), i ≤ r → r < i + n → p r = true → (∀ j, i ≤ j → j < r → p j = false) → ffr p n i = r
  | 0, i, r, h1, h2, _, _ => by omega
  | n + 1, i, r, h1, h2, h3, h4 => by
    unfold ffr
    by_cases e : i = r
    · subst e; rw [if_pos h3]
    · rw [if_neg (by rw [h4 i (Int.le_refl _) (by omega)]; decide)]
      exact ffr_yes n (i + 1) r (by omega) (by omega) h3 (fun j a b => h4 j (by omega) b)
theorem ffr_no {p : Int → Bool} : ∀ (n : Nat) (i : Int), (∀ j, i ≤ j → j < i + n → p j = false) → ffr p n i = -1
  | 0, _, _ => rfl
  | n + 1, i, h => by
    unfold ffr
    rw [if_neg (by rw [h i (Int.le_refl _) (by omega)]; decide)]
    exact ffr_no n (i + 1) (fun j a b => h j (by omega) (by omega))
theorem ff_yes {p : Int → Bool} {n r : Int} (h1 : 0 ≤ r) (h2 : r < n) (h3 : p r = true) (h4 : ∀ j, 0 ≤ j → j < r → p j = false) : ff p n = r := ffr_yes _ _ _ h1 (by omega) h3 h4
theorem ff_no {p : Int → Bool} {n : Int} (h : ∀ j, 0 ≤ j → j < n → p j = false) : ff p n = -1 := ffr_no _ _ (fun j a b => h j a (by omega))
theorem ffr_ca {p : Int → Bool} : ∀ (n : Nat) (i : Int), (ffr p n i = -1 ∧ ∀ j, i ≤ j → j < i + n → p j = false) ∨ (i ≤ ffr p n i ∧ ffr p n i < i + n ∧ p (ffr p n i) = true ∧ ∀ j, i ≤ j → j < ffr p n i → p j = false)
  | 0, i => Or.inl ⟨rfl, fun j a b => by omega⟩
  | n + 1, i => by
    unfold ffr
    by_cases e : p i = true
    · rw [if_pos e]
      exact Or.inr ⟨by omega, by omega, e, fun j a b => by omega⟩
    · rw [if_neg e]
      have e' : p i = false := by simpa using e
      rcases ffr_ca (p := p) n (i + 1) with ⟨h1, h2⟩ | ⟨h1, h2, h3, h4⟩
      · refine Or.inl ⟨h1, fun j a b => ?_⟩
        by_cases ej : j = i
        · rw [ej]; exact e'
        · exact h2 j (by omega) (by omega)
      · refine Or.inr ⟨by omega, by omega, h3, fun j a b => ?_⟩
        by_cases ej : j = i
        · rw [ej]; exact e'
        · exact h4 j (by omega) b
theorem ff_ca (p : Int → Bool) (n : Int) : (ff p n = -1 ∧ ∀ j, 0 ≤ j → j < n → p j = false) ∨ (0 ≤ ff p n ∧ ff p n < n ∧ p (ff p n) = true ∧ ∀ j, 0 ≤ j → j < ff p n → p j = false) := by
  rcases ffr_ca (p := p) n.toNat 0 with ⟨h1, h2⟩ | ⟨h1, h2, h3, h4⟩
  · exact Or.inl ⟨h1, fun j a b => h2 j a (by omega)⟩
  · refine Or.inr ⟨h1, ?_, h3, h4⟩
    show ffr p n.toNat 0 < n
    omega
theorem ff_cong {p q : Int → Bool} {n : Int} (h : ∀ j, 0 ≤ j → j < n → p j = q j) : ff p n = ff q n := by
  rcases ff_ca q n with ⟨h1, h2⟩ | ⟨h1, h2, h3, h4⟩
  · rw [h1]; exact ff_no (fun j a b => by rw [h j a b]; exact h2 j a b)
  · exact ff_yes h1 h2 (by rw [h _ h1 h2]; exact h3) (fun j a b => by rw [h j a (by omega)]; exact h4 j a b)
theorem ff_rg (p : Int → Bool) {n : Int} (hn : 0 ≤ n) : -1 ≤ ff p n ∧ ff p n < n := by
  rcases ff_ca p n with ⟨h1, h2⟩ | ⟨h1, h2, h3, h4⟩ <;> omega
def smN (f : Int → Int) : Nat → Int
  | 0 => 0
  | n + 1 => smN f n + f n
def sm (f : Int → Int) (n : Int) : Int := smN f n.toNat
theorem sm_0 (f : Int → Int) : sm f 0 = 0 := rfl
theorem sm_s {f : Int → Int} {n : Int} (h : 0 ≤ n) : sm f (n + 1) = sm f n + f n := by
  unfold sm
  rw [show (n + 1).toNat = n.toNat + 1 by omega]
  show smN f n.toNat + f (n.toNat : Int) = _
  rw [Int.toNat_of_nonneg h]
theorem smN_cong {f g : Int → Int} : ∀ {n : Nat}, (∀ j : Int, 0 ≤ j → j < n → f j = g j) → smN f n = smN g n
  | 0, _ => rfl
  | n + 1, h => by
    show smN f n + f n = smN g n + g n
    rw [smN_cong (fun j a b => h j a (by omega)), h n (by omega) (by omega)]
theorem sm_cong {f g : Int → Int} {n : Int} (h : ∀ j, 0 ≤ j → j < n → f j = g j) : sm f n = sm g n := smN_cong (fun j a b => h j a (by omega))
theorem smN_rg {f : Int → Int} {c : Int} (hc : 0 ≤ c) : ∀ {n : Nat}, (∀ j : Int, 0 ≤ j → j < n → 0 ≤ f j ∧ f j ≤ c) → 0 ≤ smN f n ∧ smN f n ≤ n * c
  | 0, _ => ⟨Int.le_refl _, by simp [smN]⟩
  | n + 1, h => by
    have a := smN_rg hc (n := n) (fun j a b => h j a (by omega))
    have b := h n (by omega) (by omega)
    have e : ((n + 1 : Nat) : Int) * c = n * c + c := by rw [Int.natCast_add, Int.add_mul]; simp
    show 0 ≤ smN f n + f n ∧ smN f n + f n ≤ _
    rw [e]
    omega
theorem sm_rg {f : Int → Int} {c n : Int} (hn : 0 ≤ n) (hc : 0 ≤ c) (h : ∀ j : Int, 0 ≤ j → j < n → 0 ≤ f j ∧ f j ≤ c) : 0 ≤ sm f n ∧ sm f n ≤ n * c := by
  have := smN_rg hc (n := n.toNat) (f := f) (fun j a b => h j a (by omega))
  rw [Int.toNat_of_nonneg hn] at this
  exact this
/-! ===== the law's E: knots as the class codes them, worked out on a stack ===== -/
def lim (v : Int) : Option Int := if 1000000000000 < v ∨ v < -1000000000000 then none else some v
def jn (s x y : Int) : Option Int :=
  if s = 0 then some (if x = 0 ∧ y = 0 then 0 else 1)
  else if s = 1 then some (if x = 0 ∨ y = 0 then 0 else 1)
  else if s = 3 then some (if x < y then 1 else 0)
  else if s = 4 then some (if x ≤ y then 1 else 0)
  else if s = 5 then some (if x = y then 1 else 0)
  else if s = 6 then some (if x = y then 0 else 1)
  else if s = 7 then some (if y ≤ x then 1 else 0)
  else if s = 8 then some (if y < x then 1 else 0)
  else if s = 9 then lim (x + y)
  else if s = 10 then lim (x - y)
  else if s = 11 then lim (x * y)
  else if y = 0 then none else lim (x.tdiv y)
def bd (v : Int) : Prop := -1000000000000 ≤ v ∧ v ≤ 1000000000000
theorem lim_bd {v w : Int} (h : lim v = some w) : bd w := by
  unfold lim at h
  split at h
  · cases h
  · injection h with h; subst h; unfold bd; omega
theorem jn_bd {s x y v : Int} (h : jn s x y = some v) : bd v := by
  unfold jn at h
  repeat' split at h
  all_goals first | exact lim_bd h | (injection h with h; subst h; unfold bd; omega) | cases h
def kn (nm : Int → Int) (k : Int) (st : List Int) : Option (List Int) :=
  if 0 ≤ k then some (k :: st)
  else if -10 < k then some (nm (-1 - k) :: st)
  else if k = -12 then (match st with
    | v :: r => some ((if v = 0 then 1 else 0) :: r)
    | [] => none)
  else match st with
    | v :: u :: r => (jn (-10 - k) u v).map (fun w => w :: r)
    | _ => none
def evl (nm : Int → Int) : List Int → List Int → Option (List Int)
  | [], st => some st
  | k :: ks, st => (kn nm k st).bind (evl nm ks)
def dpt : List Int → Nat → Option Nat
  | [], d => some d
  | k :: ks, d => if -10 < k then dpt ks (d + 1) else if k = -12 then (if 1 ≤ d then dpt ks d else none) else if 2 ≤ d then dpt ks (d - 1) else none
theorem dpt_c (k : Int) (ks : List Int) (d : Nat) : dpt (k :: ks) d = if -10 < k then dpt ks (d + 1) else if k = -12 then (if 1 ≤ d then dpt ks d else none) else if 2 ≤ d then dpt ks (d - 1) else none := rfl
theorem lz_ge (x y : Int64) : (z 0 ≤ lg_cmp x y) ↔ y ≤ x := lg_cmp_ge x y
theorem lz_le (x y : Int64) : (lg_cmp x y ≤ z 0) ↔ x ≤ y := lg_cmp_le x y
theorem lz_gt (x y : Int64) : (z 0 < lg_cmp x y) ↔ y < x := lg_cmp_gt x y
theorem lz_lt (x y : Int64) : (lg_cmp x y < z 0) ↔ x < y := lg_cmp_lt x y
theorem lz_eq (x y : Int64) : (lg_cmp x y = z 0) ↔ x = y := lg_cmp_eq x y
def kok (k : Int) : Prop := (0 ≤ k ∧ k ≤ 9999) ∨ (-6 ≤ k ∧ k ≤ -1) ∨ (-22 ≤ k ∧ k ≤ -10)
def Wf (ks : List Int) : Prop := (ks = [] ∨ dpt ks 0 = some 1) ∧ (∀ k ∈ ks, kok k) ∧ ks.length ≤ 64
def lv (nm : Int → Int) (ks : List Int) : Option Int := (evl nm ks []).bind (fun st => st.head?)
def kat (ks : List Int) (i : Nat) : Int := ks.getD i 0
theorem kat_in {ks : List Int} {i : Nat} (h : i < ks.length) : kat ks i ∈ ks := by
  have e : kat ks i = ks[i] := by simp [kat, h]
  rw [e]
  exact List.getElem_mem h
theorem drop_kat {ks : List Int} {i : Nat} (h : i < ks.length) : ks.drop i = kat ks i :: ks.drop (i + 1) := by
  have e : kat ks i = ks[i] := by simp [kat, h]
  rw [e]
  exact List.drop_eq_getElem_cons h
def stk (h : PH) (c : Nat) : List Int → Prop
  | [] => True
  | v :: r => gJ h c r.length = zl v ∧ stk h c r
theorem stk_cong {h g : PH} {c : Nat} : ∀ {st : List Int}, (∀ k, k < st.length → gJ g c k = gJ h c k) → stk h c st → stk g c st
  | [], _, _ => trivial
  | v :: r, e, ⟨a, b⟩ => ⟨by rw [e _ (by simp)]; exact a, stk_cong (fun k hk => e k (by simp; omega)) b⟩
theorem stk_push {h : PH} {c : Nat} {st : List Int} {v : Int} (s : stk h c st) : stk (sJ h c st.length (zl v)) c (v :: st) :=
  ⟨gJ_in rfl rfl, stk_cong (fun k hk => gJ_out (by omega)) s⟩
def ey : Option Int → Int64
  | some v => zl v
  | none => zl (-9223372036854775808)
theorem mul_lim {x v a c : Int} (ha : a = x ∨ a = -x) (ha0 : 0 ≤ a) (hc : c = v ∨ c = -v) (hc0 : 0 < c) : (1000000000000 / c < a) = (1000000000000 < x * v ∨ x * v < -1000000000000) := by
  rw [Int.ediv_lt_iff_lt_mul hc0]
  have h0 : 0 ≤ a * c := Int.mul_nonneg ha0 (Int.le_of_lt hc0)
  rcases ha with rfl | rfl <;> rcases hc with rfl | rfl
  · apply propext; omega
  · rw [Int.mul_neg] at h0 ⊢; apply propext; omega
  · rw [Int.neg_mul] at h0 ⊢; apply propext; omega
  · rw [Int.neg_mul_neg] at h0 ⊢; apply propext; omega
theorem lim_mul {x v : Int} : lim (x * v) = if 1000000000000 < x * v ∨ x * v < -1000000000000 then none else some (x * v) := rfl
