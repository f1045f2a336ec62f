abbrev classes : List vw_C := [(RX0, TX0, 5), (RX1, TX1, 5), (RX2, TX2, 8), (RX3, TX3, 7), (RX4, TX4, 7), (RX5, TX5, 10), (RX6, TX6, 4), (RX7, TX7, 7), (RX8, TX8, 13), (RX9, TX9, 18), (RX10, TX10, 105)]
def fkl : List (List Nat) := [[4, 5, 6, 7, 8],
  [4, 5, 6, 0, 0],
  [4, 6, 7, 8, 0, 0, 0, 0],
  [4, 6, 8, 9, 10, 11, 12],
  [4, 5, 6, 7, 8, 9, 0],
  [4, 6, 7, 8, 0, 0, 0, 2, 0, 0],
  [0, 0, 4, 0],
  [4, 2, 0, 0, 0, 0, 0],
  [4, 6, 8, 10, 12, 14, 16, 18, 22, 0, 0, 0, 0],
  [4, 0, 5, 2, 2, 57, 0, 80, 103, 0, 109, 115, 0, 125, 132, 138, 140, 141],
  [0, 4, 0, 5, 6, 7, 8, 9, 10, 11, 12, 13, 14, 15, 16, 17, 18, 19, 20, 21, 22, 23, 24, 25, 26, 27, 28, 29, 30, 31, 32, 33, 34, 0, 0, 0, 0, 0, 0, 0, 0, 0, 0, 0, 0, 0, 35, 36, 0, 37, 38, 39, 40, 41, 42, 43, 44, 45, 46, 47, 0, 0, 0, 48, 49, 50, 51, 52, 53, 54, 0, 55, 56, 57, 58, 59, 0, 0, 60, 61, 62, 63, 0, 0, 0, 0, 0, 64, 65, 66, 67, 68, 0, 69, 0, 0, 70, 71, 72, 73, 74, 0, 0, 0, 0]]
def fk (ci k : Nat) : Nat := (fkl.getD ci []).getD k 0
def fnu (ci : Nat) : Nat := ([5, 5, 8, 7, 7, 10, 4, 7, 13, 18, 105] : List Nat).getD ci 0
def shXl : List (Nat ⊕ (Nat × Nat)) := [.inl 9, .inr (2, 700), .inl 5, .inl 7, .inr (0, 24), .inr (0, 5), .inr (0, 3), .inr (0, 72), .inl 8, .inl 6, .inr (0, 12), .inl 6, .inr (0, 36), .inl 6, .inr (0, 12), .inl 6, .inr (0, 78), .inl 6, .inr (0, 64), .inl 6, .inr (0, 24), .inl 6, .inr (0, 16), .inl 1, .inr (0, 64), .inr (1, 64), .inr (1, 6), .inl 1, .inr (0, 64), .inr (1, 64), .inr (1, 6), .inl 8, .inl 6, .inr (0, 12), .inl 6, .inr (0, 36), .inl 6, .inr (0, 12), .inl 6, .inr (0, 78), .inl 6, .inr (0, 64), .inl 6, .inr (0, 24), .inl 6, .inr (0, 16), .inl 1, .inr (0, 64), .inr (1, 64), .inr (1, 6), .inl 1, .inr (0, 64), .inr (1, 64), .inr (1, 6), .inl 8, .inl 6, .inr (0, 12), .inl 6, .inr (0, 36), .inl 6, .inr (0, 12), .inl 6, .inr (0, 78), .inl 6, .inr (0, 64), .inl 6, .inr (0, 24), .inl 6, .inr (0, 16), .inl 1, .inr (0, 64), .inr (1, 64), .inr (1, 6), .inl 1, .inr (0, 64), .inr (1, 64), .inr (1, 6), .inl 8, .inl 6, .inr (0, 12), .inl 6, .inr (0, 36), .inl 6, .inr (0, 12), .inl 6, .inr (0, 78), .inl 6, .inr (0, 64), .inl 6, .inr (0, 24), .inl 6, .inr (0, 16), .inl 1, .inr (0, 64), .inr (1, 64), .inr (1, 6), .inl 1, .inr (0, 64), .inr (1, 64), .inr (1, 6), .inl 0, .inr (0, 36), .inr (1, 78), .inr (1, 6), .inr (0, 288), .inr (0, 288), .inl 0, .inr (0, 36), .inr (1, 78), .inr (1, 6), .inr (0, 288), .inr (0, 288), .inl 3, .inl 6, .inr (0, 576), .inl 6, .inr (0, 864), .inr (0, 6), .inr (0, 144), .inr (0, 4), .inr (0, 4), .inr (0, 4), .inl 4, .inr (1, 4), .inr (1, 4), .inr (0, 4), .inr (0, 4), .inr (0, 4), .inr (0, 4), .inl 2, .inl 6, .inr (0, 72), .inr (3, 24), .inr (0, 48), .inr (0, 48), .inl 6, .inr (0, 100), .inr (0, 64), .inr (0, 91)]
def shMl : List (Nat ⊕ (Nat × Nat)) := [.inl 10, .inr (0, 700), .inr (0, 22), .inr (0, 12), .inr (0, 18), .inr (0, 18), .inr (0, 18), .inr (0, 8), .inr (0, 8), .inr (0, 8), .inr (0, 16), .inr (0, 16), .inr (0, 16), .inr (0, 16), .inr (0, 16), .inr (0, 16), .inr (0, 16), .inr (0, 16), .inr (0, 16), .inr (0, 12), .inr (0, 12), .inr (0, 12), .inr (0, 12), .inr (0, 8), .inr (0, 8), .inr (0, 8), .inr (0, 8), .inr (0, 12), .inr (0, 4), .inr (0, 4), .inr (0, 128), .inr (0, 128), .inr (1, 6), .inr (1, 64), .inr (0, 22), .inr (0, 264), .inr (0, 264), .inr (0, 264), .inr (0, 264), .inr (0, 264), .inr (0, 22), .inr (0, 176), .inr (0, 22), .inr (0, 88), .inr (0, 22), .inr (0, 16), .inr (0, 16), .inr (0, 16), .inr (0, 16), .inr (0, 16), .inr (0, 36), .inr (0, 288), .inr (0, 16), .inr (0, 16), .inr (0, 16), .inr (0, 16), .inr (0, 288), .inr (0, 144), .inr (0, 144), .inr (0, 144), .inr (0, 144), .inr (3, 192), .inr (0, 4), .inr (0, 4), .inr (0, 4), .inr (0, 4), .inr (0, 64), .inr (0, 24), .inr (0, 24), .inr (3, 24), .inr (0, 24), .inr (3, 24)]
def shX (i : Nat) : Nat ⊕ (Nat × Nat) := shXl.getD i (.inl 99)
def shM (i : Nat) : Nat ⊕ (Nat × Nat) := shMl.getD i (.inl 99)
def alX (i : Nat) : Nat := match shX i with
  | .inr (_, n) => n
  | .inl _ => 0
def alM (i : Nat) : Nat := match shM i with
  | .inr (_, n) => n
  | .inl _ => 0
def oX (i ci : Nat) : Prop := i < 139 ∧ shX i = .inl ci
def aX (i t n : Nat) : Prop := i < 139 ∧ shX i = .inr (t, n)
def oM (i ci : Nat) : Prop := i < 72 ∧ shM i = .inl ci
def aM (i t n : Nat) : Prop := i < 72 ∧ shM i = .inr (t, n)
/-- the room of a method d calls deep -/
def rmd (d : Nat) : Room := { frames := d, cells := 0, slots := 0, locals := 80 * d }
/-! ===== THE PURE HEAP: numbers, long numbers, moving references, by cell and place ===== -/
abbrev iN (x : Int32) : Nat := x.toNatClampNeg
abbrev PH : Type := (Nat → Nat → Int32) × (Nat → Nat → Int64) × (Nat → Nat → Nat)
def gI (h : PH) (i k : Nat) : Int32 := h.1 i k
def gJ (h : PH) (i k : Nat) : Int64 := h.2.1 i k
def gP (h : PH) (i k : Nat) : Nat := h.2.2 i k
def sI (h : PH) (i k : Nat) (x : Int32) : PH := (fun a b => if a = i ∧ b = k then x else h.1 a b, h.2.1, h.2.2)
def sJ (h : PH) (i k : Nat) (x : Int64) : PH := (h.1, fun a b => if a = i ∧ b = k then x else h.2.1 a b, h.2.2)
def sP (h : PH) (i k : Nat) (x : Nat) : PH := (h.1, h.2.1, fun a b => if a = i ∧ b = k then x else h.2.2 a b)
/-- what world a method works in: class numbers and slots, array classes, addresses, shapes, how many cells -/
abbrev Gt : Type := va_G × (Nat → ClassId) × (Nat → Nat) × (Nat → Nat ⊕ (Nat × Nat)) × Nat
abbrev Gt.D (G : Gt) : va_G := G.1
abbrev Gt.ca (G : Gt) : Nat → ClassId := G.2.1
abbrev Gt.ad (G : Gt) : Nat → Nat := G.2.2.1
abbrev Gt.sh (G : Gt) : Nat → Nat ⊕ (Nat × Nat) := G.2.2.2.1
abbrev Gt.n (G : Gt) : Nat := G.2.2.2.2
def aty : Nat → FieldType
  | 0 => .int
  | 1 => .long
  | 2 => .byte
  | _ => .boolean
def cv (G : Gt) : Value → Value
  | .ref i => .ref (G.ad i)
  | v => v
def fval (G : Gt) (h : PH) (ci i k : Nat) : Value := match fk ci k with
  | 0 => .int (gI h i k)
  | 1 => .long (gJ h i k)
  | 2 => if gP h i k = 0 then .null else .ref (G.ad (gP h i k - 1))
  | o + 3 => .ref (G.ad (i + o))
def fsl (G : Gt) (h : PH) (ci i : Nat) : List Value := (List.range (fnu ci)).map (fval G h ci i)
def ce (G : Gt) (h : PH) (i : Nat) : va_E := match G.sh i with
  | .inl ci => .inr (ci, fsl G h ci i)
  | .inr (t, L) => .inl (G.ca t, L, if t = 1 then .inr (.inl (gJ h i)) else .inl (gI h i))
def pw (G : Gt) (h : PH) : va_W := (List.range G.n).map (fun i => (G.ad i, ce G h i))
def Aw (G : Gt) : Nat → Prop := fun q => ∃ i, i < G.n ∧ q = G.ad i
def inj (G : Gt) : Prop := ∀ i j, i < G.n → j < G.n → G.ad i = G.ad j → i = j
def isO (G : Gt) (i ci : Nat) : Prop := i < G.n ∧ G.sh i = .inl ci
def isA (G : Gt) (i t L : Nat) : Prop := i < G.n ∧ G.sh i = .inr (t, L)
theorem pw_at {G : Gt} {h : PH} {i : Nat} (hi : i < G.n) : (pw G h)[i]? = some (G.ad i, ce G h i) := by
  simp [pw, hi]
theorem pw_D {G : Gt} {h : PH} (hj : inj G) : va_D (Aw G) (pw G h) := by
  have key : ∀ (k : Nat) (q : Nat × va_E), (pw G h)[k]? = some q → k < G.n ∧ q.1 = G.ad k := by
    intro k q hk
    have hl : k < G.n := by
      have := (List.getElem?_eq_some_iff.mp hk).1
      simpa [pw] using this
    rw [pw_at hl] at hk
    cases hk
    exact ⟨hl, rfl⟩
  refine ⟨fun i j x y hi hj' hxy => ?_, fun k q hk => ?_⟩
  · obtain ⟨a1, a2⟩ := key i x hi
    obtain ⟨b1, b2⟩ := key j y hj'
    exact hj i j a1 b1 (by rw [← a2, ← b2]; exact hxy)
  · obtain ⟨a1, a2⟩ := key k q hk
    exact ⟨k, a1, a2⟩
theorem pw_set {G : Gt} {h h' : PH} {i : Nat} {e : va_E} (he : ce G h' i = e) (ho : ∀ j, j ≠ i → ce G h' j = ce G h j) : (pw G h).set i (G.ad i, e) = pw G h' := by
  apply List.ext_getElem?
  intro j
  by_cases hj : j < G.n
  · by_cases hji : j = i
    · subst hji
      rw [List.getElem?_set_self (by simpa [pw] using hj), pw_at hj, he]
    · rw [List.getElem?_set_ne (Ne.symm hji), pw_at hj, pw_at hj, ho j hji]
  · rw [List.getElem?_eq_none (by simp [pw]; omega), List.getElem?_eq_none (by simp [pw]; omega)]
theorem fsl_at {G : Gt} {h : PH} {ci i k : Nat} (hk : k < fnu ci) : (fsl G h ci i)[k]? = some (fval G h ci i k) := by
  simp [fsl, hk]
theorem ce_O {G : Gt} {h : PH} {i ci : Nat} (hi : isO G i ci) : ce G h i = .inr (ci, fsl G h ci i) := by
  unfold ce; rw [hi.2]
theorem ce_A {G : Gt} {h : PH} {i t L : Nat} (hi : isA G i t L) : ce G h i = .inl (G.ca t, L, if t = 1 then .inr (.inl (gJ h i)) else .inl (gI h i)) := by
  unfold ce; rw [hi.2]
theorem fsl_congr {G : Gt} {h h' : PH} {ci i : Nat} (e : ∀ k, k < fnu ci → fval G h' ci i k = fval G h ci i k) : fsl G h' ci i = fsl G h ci i := by
  unfold fsl
  apply List.map_congr_left
  intro k hk
  exact e k (List.mem_range.mp hk)
theorem fsl_set {G : Gt} {h h' : PH} {ci i k : Nat} {v : Value} (hk : k < fnu ci) (e : fval G h' ci i k = v) (o : ∀ j, j ≠ k → fval G h' ci i j = fval G h ci i j) : fsl G h' ci i = (fsl G h ci i).set k v := by
  apply List.ext_getElem?
  intro j
  by_cases hj : j < fnu ci
  · by_cases hjk : j = k
    · subst hjk
      rw [List.getElem?_set_self (by simpa [fsl] using hj), fsl_at hj, e]
    · rw [List.getElem?_set_ne (Ne.symm hjk), fsl_at hj, fsl_at hj, o j hjk]
  · rw [List.getElem?_eq_none (by simp [fsl]; omega), List.getElem?_eq_none (by simp [fsl]; omega)]
/-! a change of one place leaves every other cell -/
theorem ce_off {G : Gt} {h h' : PH} {i : Nat} (e1 : ∀ k, gI h' i k = gI h i k) (e2 : ∀ k, gJ h' i k = gJ h i k) (e3 : ∀ k, gP h' i k = gP h i k) : ce G h' i = ce G h i := by
  have f1 : gI h' i = gI h i := funext e1
  have f2 : gJ h' i = gJ h i := funext e2
  unfold ce
  split
  · rw [fsl_congr]
    intro k _
    unfold fval
    rw [e1, e2, e3]
  · rw [f1, f2]
theorem gI_sI (h : PH) (i k a b : Nat) (x : Int32) : gI (sI h i k x) a b = if a = i ∧ b = k then x else gI h a b := rfl
theorem gJ_sI (h : PH) (i k a b : Nat) (x : Int32) : gJ (sI h i k x) a b = gJ h a b := rfl
theorem gP_sI (h : PH) (i k a b : Nat) (x : Int32) : gP (sI h i k x) a b = gP h a b := rfl
theorem gI_sJ (h : PH) (i k a b : Nat) (x : Int64) : gI (sJ h i k x) a b = gI h a b := rfl
theorem gJ_sJ (h : PH) (i k a b : Nat) (x : Int64) : gJ (sJ h i k x) a b = if a = i ∧ b = k then x else gJ h a b := rfl
theorem gP_sJ (h : PH) (i k a b : Nat) (x : Int64) : gP (sJ h i k x) a b = gP h a b := rfl
theorem gI_sP (h : PH) (i k a b : Nat) (x : Nat) : gI (sP h i k x) a b = gI h a b := rfl
theorem gJ_sP (h : PH) (i k a b : Nat) (x : Nat) : gJ (sP h i k x) a b = gJ h a b := rfl
theorem gP_sP (h : PH) (i k a b : Nat) (x : Nat) : gP (sP h i k x) a b = if a = i ∧ b = k then x else gP h a b := rfl
theorem fv_congr {G : Gt} {h h' : PH} {ci i k : Nat} (e1 : gI h' i k = gI h i k) (e2 : gJ h' i k = gJ h i k) (e3 : gP h' i k = gP h i k) : fval G h' ci i k = fval G h ci i k := by unfold fval; rw [e1, e2, e3]
theorem pw_sI {G : Gt} {h : PH} {i ci k : Nat} {x : Int32} (hi : isO G i ci) (hk : k < fnu ci) (hf : fk ci k = 0) : (pw G h).set i (G.ad i, .inr (ci, (fsl G h ci i).set k (.int x))) = pw G (sI h i k x) := by
  refine pw_set ?_ (fun j hj => ce_off (fun q => by rw [gI_sI, if_neg (fun z => hj z.1)]) (fun _ => rfl) (fun _ => rfl))
  rw [ce_O hi, fsl_set hk (v := .int x) (h := h)]
  · unfold fval; rw [hf]; simp [gI_sI]
  · intro j hj; exact fv_congr (by rw [gI_sI, if_neg (fun z => hj z.2)]) rfl rfl
theorem pw_sJ {G : Gt} {h : PH} {i ci k : Nat} {x : Int64} (hi : isO G i ci) (hk : k < fnu ci) (hf : fk ci k = 1) : (pw G h).set i (G.ad i, .inr (ci, (fsl G h ci i).set k (.long x))) = pw G (sJ h i k x) := by
  refine pw_set ?_ (fun j hj => ce_off (fun _ => rfl) (fun q => by rw [gJ_sJ, if_neg (fun z => hj z.1)]) (fun _ => rfl))
  rw [ce_O hi, fsl_set hk (v := .long x) (h := h)]
  · unfold fval; rw [hf]; simp [gJ_sJ]
  · intro j hj; exact fv_congr rfl (by rw [gJ_sJ, if_neg (fun z => hj z.2)]) rfl
theorem pw_sP {G : Gt} {h : PH} {i ci k r : Nat} (hi : isO G i ci) (hk : k < fnu ci) (hf : fk ci k = 2) : (pw G h).set i (G.ad i, .inr (ci, (fsl G h ci i).set k (.ref (G.ad r)))) = pw G (sP h i k (r + 1)) := by
  refine pw_set ?_ (fun j hj => ce_off (fun _ => rfl) (fun _ => rfl) (fun q => by rw [gP_sP, if_neg (fun z => hj z.1)]))
  rw [ce_O hi, fsl_set hk (v := .ref (G.ad r)) (h := h)]
  · unfold fval; rw [hf]; simp [gP_sP]
  · intro j hj; exact fv_congr rfl rfl (by rw [gP_sP, if_neg (fun z => hj z.2)])
theorem pw_aI {G : Gt} {h : PH} {i t L k : Nat} {x : Int32} (hi : isA G i t L) (ht : t ≠ 1) : (pw G h).set i (G.ad i, .inl (G.ca t, L, .inl (upd (gI h i) k x))) = pw G (sI h i k x) := by
  refine pw_set ?_ (fun j hj => ce_off (fun q => by rw [gI_sI, if_neg (fun z => hj z.1)]) (fun _ => rfl) (fun _ => rfl))
  rw [ce_A hi, if_neg ht]
  have : gI (sI h i k x) i = upd (gI h i) k x := by
    funext j
    rw [gI_sI]
    unfold upd
    simp
  rw [this]
theorem pw_aJ {G : Gt} {h : PH} {i L k : Nat} {x : Int64} (hi : isA G i 1 L) : (pw G h).set i (G.ad i, .inl (G.ca 1, L, .inr (.inl (vp_updL (gJ h i) k x)))) = pw G (sJ h i k x) := by
  refine pw_set ?_ (fun j hj => ce_off (fun _ => rfl) (fun q => by rw [gJ_sJ, if_neg (fun z => hj z.1)]) (fun _ => rfl))
  rw [ce_A hi, if_pos rfl]
  have : gJ (sJ h i k x) i = vp_updL (gJ h i) k x := by
    funext j
    rw [gJ_sJ]
    unfold vp_updL
    simp
  rw [this]
/-! ===== WALKS OVER THE PURE HEAP ===== -/
def LT : List Cond := lw_tbl.filter goodWord
theorem LT_in {w : Cond} (h : w ∈ lw_tbl) (g : goodWord w = true) : w ∈ LT := List.mem_filter.mpr ⟨h, g⟩
theorem LT_good {big : List Cond} (h : ∀ w ∈ LT, w ∈ big) : GoodIn big LT := fun w hw => ⟨h w hw, good_of_word (List.mem_filter.mp hw).2⟩
def tyl (G : Gt) : List (ClassId × FieldType) := [(G.ca 0, .int), (G.ca 1, .long), (G.ca 2, .byte), (G.ca 3, .boolean)]
/-- words of nest mates: they hold at every later state, too -/
def isNest : Cond → Bool
  | .fieldLinkNest .. => true
  | .methodLinkNest .. => true
  | _ => false
def NT : List Cond := lw_tbl.filter isNest
theorem NT_in {w : Cond} (h : w ∈ lw_tbl) (g : isNest w = true) : w ∈ NT := List.mem_filter.mpr ⟨h, g⟩
/-- what is known of the state at a method's start, beside the words: classes, nest mates, the constants of before -/
def KS (G : Gt) (X : State → Prop) (U : State) : Prop := va_K G.D classes (tyl G) U ∧ (∀ w ∈ NT, va_Nw w U) ∧ inj G ∧ X U
theorem nt_warm {s U : State} (hW : s.WarmedH U.vm) (h : ∀ w ∈ NT, va_Nw w s) : ∀ w ∈ NT, va_Nw w U := by
  intro w hw
  have h1 := h w hw
  have h2 := (List.mem_filter.mp hw).2
  cases w <;> first | exact va_Nw.warmF hW h1 | exact va_Nw.warmM hW h1 | cases h2
theorem nt_same {s U : State} (hv : s.vm = U.vm) (h : ∀ w ∈ NT, va_Nw w s) : ∀ w ∈ NT, va_Nw w U := by
  intro w hw
  have h1 := h w hw
  have h2 := (List.mem_filter.mp hw).2
  cases w <;> first | exact va_Nw.same rfl hv h1 | cases h2
abbrev Kt : Type := Program × Launch × Env × Room × State × MethodId × Array Value × List Frame × Method × Code × Nat × Nat
abbrev Kt.p (K : Kt) : Program := K.1
abbrev Kt.l (K : Kt) : Launch := K.2.1
abbrev Kt.e (K : Kt) : Env := K.2.2.1
abbrev Kt.R (K : Kt) : Room := K.2.2.2.1
abbrev Kt.s (K : Kt) : State := K.2.2.2.2.1
abbrev Kt.m (K : Kt) : MethodId := K.2.2.2.2.2.1
abbrev Kt.args (K : Kt) : Array Value := K.2.2.2.2.2.2.1
abbrev Kt.below (K : Kt) : List Frame := K.2.2.2.2.2.2.2.1
abbrev Kt.meth (K : Kt) : Method := K.2.2.2.2.2.2.2.2.1
abbrev Kt.c (K : Kt) : Code := K.2.2.2.2.2.2.2.2.2.1
abbrev Kt.c0 (K : Kt) : Nat := K.2.2.2.2.2.2.2.2.2.2.1
abbrev Kt.s0 (K : Kt) : Nat := K.2.2.2.2.2.2.2.2.2.2.2
/-- what goes through calls beside the heap: it must be blind to frames, and live on in warmed states over a heap whose old part is the same -/
def Xok (G : Gt) (X : State → Prop) : Prop := (∀ (U : State) (g : JFrame) (mk : MethodId) (a : Array Value), X U → X (U.calling g mk a)) ∧ ∀ (s U : State) (locs : List Loc), va_S (Aw G) s.heap U.heap locs → s.WarmedH U.vm → X s → X U
def CX (G : Gt) (X : State → Prop) (cc : ByteArray) (own : String) (nL : Nat) (ret : Option FieldType) (d : Nat) (K : Kt) : Prop :=
  K.p.tables.exec = Jvm.exec ∧ K.c.code = cc ∧ K.c.maxLocals = nL ∧ K.s.vm.findClass own = some K.m.cls ∧ (∀ w ∈ LT, w.before K.args K.s = true) ∧ K.meth.locks = false ∧ K.meth.sig.returnType = ret ∧ KS G X K.s ∧ Xok G X ∧ d ≤ K.R.frames ∧ 80 * d ≤ K.R.locals ∧ K.c0 ≤ K.R.cells ∧ K.s0 ≤ K.R.slots
def Qp (G : Gt) (Q : Option Value → PH → Prop) : Array Value → State → Outcome → State → Prop := fun _ st oc t => (∃ (r : Option Value) (h : PH), oc = .returned (r.map (cv G)) ∧ Q r h ∧ va_P G.D classes (pw G h) t.heap) ∧ va_F (Aw G) st t
def prs (G : Gt) : Nat → List (Option Value) → List (Nat × Value)
  | _, [] => []
  | i, none :: r => prs G (i + 1) r
  | i, some v :: r => (i, cv G v) :: prs G (i + 1) r
theorem prs_mem (G : Gt) : ∀ (L : List (Option Value)) (i : Nat) (q : Nat × Value), q ∈ prs G i L ↔ ∃ (j : Nat) (v : Value), L[j]? = some (some v) ∧ q = (i + j, cv G v)
  | [], i, q => by simp [prs]
  | none :: r, i, q => by
    rw [prs, prs_mem G r (i + 1) q]
    constructor
    · rintro ⟨j, v, h1, h2⟩
      exact ⟨j + 1, v, by simpa using h1, by rw [h2]; simp; omega⟩
    · rintro ⟨j, v, h1, h2⟩
      cases j with
      | zero => simp at h1
      | succ j => exact ⟨j, v, by simpa using h1, by rw [h2]; simp; omega⟩
  | some w :: r, i, q => by
    rw [prs, List.mem_cons, prs_mem G r (i + 1) q]
    constructor
    · rintro (rfl | ⟨j, v, h1, h2⟩)
      · exact ⟨0, w, rfl, rfl⟩
      · exact ⟨j + 1, v, by simpa using h1, by rw [h2]; simp; omega⟩
    · rintro ⟨j, v, h1, h2⟩
      cases j with
      | zero => 
        simp at h1
        subst h1
        exact Or.inl h2
      | succ j => exact Or.inr ⟨j, v, by simpa using h1, by rw [h2]; simp; omega⟩
def lh (G : Gt) (nL : Nat) (L : List (Option Value)) (ls : Array Slot) : Prop := lv_has ls nL (prs G 0 L)
theorem lh_at {G : Gt} {nL : Nat} {L : List (Option Value)} {ls : Array Slot} (h : lh G nL L ls) (i : Nat) {v : Value} (hv : L[i]? = some (some v)) : ls[i]? = some (.val (cv G v)) := by
  have := h.2.2 (i, cv G v) ((prs_mem G L 0 _).mpr ⟨i, v, hv, by simp⟩)
  exact this
theorem cv_cat (G : Gt) (v : Value) : (cv G v).category = v.category := by cases v <;> rfl
/-- fewer known locals -/
theorem lh_wk {G : Gt} {nL : Nat} {L L' : List (Option Value)} {ls : Array Slot} (h : lh G nL L ls) (hw : ∀ (i : Nat) (v : Value), L'[i]? = some (some v) → L[i]? = some (some v)) : lh G nL L' ls := by
  refine ⟨h.1, h.2.1, fun q hq => ?_⟩
  obtain ⟨j, v, h1, rfl⟩ := (prs_mem G L' 0 q).mp hq
  simp only [Nat.zero_add]
  exact lh_at h j (hw j v h1)
def PW (G : Gt) (K : Kt) (nL : Nat) (Q : Option Value → PH → Prop) (h : PH) (pc : Nat) (L : List (Option Value)) (st : List Value) : Prop :=
  ∀ (H : Heap) (locs : List Loc) (ls : Array Slot), va_P G.D classes (pw G h) H → va_S (Aw G) K.s.heap H locs → lh G nL L ls →
    W K.p K.l K.e K.R K.s K.m K.args K.below K.meth K.c H locs K.c0 K.s0 (MQ K.below (Qp G Q) K.args K.s K.c0 K.s0 (Aw G)) (F0 K.m pc ls (st.map (cv G)))
/-- a method's contract: from the pure heap h with these arguments it returns, and Q -/
def Sp (G : Gt) (X : State → Prop) (l : Launch) (d : Nat) (y : MethodName) (cc : ByteArray) (mL : Nat) (ret : Option FieldType) (as : List Value) (h : PH) (Q : Option Value → PH → Prop) : Prop :=
  Xok G X → Met l y (Cond.code y cc mL ret :: LT) (rmd d) (fun v U => v = (as.map (cv G)).toArray ∧ va_P G.D classes (pw G h) U.heap ∧ KS G X U) (Qp G Q) 0 0 (Aw G)
theorem Sp.of {G : Gt} {X : State → Prop} {l : Launch} {d : Nat} {y : MethodName} {cc : ByteArray} {mL : Nat} {ret : Option FieldType} {as : List Value} {h : PH} {Q : Option Value → PH → Prop} {own : String} (L0 : List (Option Value))
    (hy : plainName y.cls = true) (ho : y.cls = own) (hL : prs G 0 L0 = lv_args 0 (as.map (cv G))) (hn : (lg_sl (as.map (cv G))).length ≤ mL)
    (body : ∀ K : Kt, K.l = l → CX G X cc own mL ret d K → PW G K mL Q h 0 L0 []) : Sp G X l d y cc mL ret as h Q := by
  intro hX
  refine Met.ofW (cc := cc) (maxL := mL) (ret := ret) hy rfl ?_
  intro p e s m args below meth c s₁ B hml hv
  obtain ⟨rfl, hP, hK⟩ := hv
  have hts := atoms_spec (ws := Cond.code y cc mL ret :: LT) B.pre
  have hown : s.vm.findClass own = some m.cls := ho ▸ findClass_of_methodNamed B.named
  rw [lg_entry_eq]
  have hl := lv_entry (as.map (cv G)) (n := mL) hn
  rw [← hL] at hl
  exact body (p, l, e, rmd d, s, m, (as.map (cv G)).toArray, below, meth, c, 0, 0) rfl ⟨B.exec, B.bytes, hml, hown, fun w hw => hts w (List.mem_cons_of_mem _ hw), B.notSynchronized, B.returns, hK, hX, Nat.le_refl _, Nat.le_refl _, Nat.le_refl _, Nat.le_refl _⟩ s.heap [] _ hP va_S.rf hl
theorem PW.wk {G : Gt} {K : Kt} {nL : Nat} {Q : Option Value → PH → Prop} {h : PH} {pc : Nat} {L L' : List (Option Value)} {st : List Value} (hw : ∀ (i : Nat) (v : Value), L'[i]? = some (some v) → L[i]? = some (some v)) (k : PW G K nL Q h pc L' st) : PW G K nL Q h pc L st :=
  fun H locs ls hP hS hl => k H locs ls hP hS (lh_wk hl hw)
