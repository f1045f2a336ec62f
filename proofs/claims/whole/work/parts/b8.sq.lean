/-! ===== plans ===== -/
theorem l_or (a b : Nat) : lN a ||| lN b = lN (a ||| b) := by
  apply wb_inj
  apply BitVec.eq_of_getLsbD_eq
  intro i hi
  rw [Int64.toBitVec_or, wb_tb, wb_tb, wb_tb, BitVec.getLsbD_or, BitVec.getLsbD_ofNat, BitVec.getLsbD_ofNat, BitVec.getLsbD_ofNat, Nat.testBit_or]
  simp only [hi, decide_true, Bool.true_and]
theorem l_and (a b : Nat) : lN a &&& lN b = lN (a &&& b) := by
  apply wb_inj
  apply BitVec.eq_of_getLsbD_eq
  intro i hi
  rw [Int64.toBitVec_and, wb_tb, wb_tb, wb_tb, BitVec.getLsbD_and, BitVec.getLsbD_ofNat, BitVec.getLsbD_ofNat, BitVec.getLsbD_ofNat, Nat.testBit_and]
  simp only [hi, decide_true, Bool.true_and]
theorem l_one {m : Int} (h0 : 0 ≤ m) (h1 : m < 64) : (1 : Int64) <<< ((z m).toInt64 &&& 63) = lN (2 ^ m.toNat) := by
  rw [show (1 : Int64) = lN 1 from rfl, l_shl h0 h1, Nat.one_mul]
/-- a task may not be done at a minute -/
def bdQ (a : Wd) (t m : Int) : Int → Bool := fun q => car a (far a (-1)) (a.f 6 1 t) (a.f 6 3 t) q m && decide (agn a (a.f 6 0 t) q m ≠ -1)
def bad (a : Wd) (t m : Int) : Bool := ex (bdQ a t m) (a.n 0)
def tkn (a : Wd) (P : List (Int × Int)) (o m : Int) : Bool := P.any (fun q => decide (a.f 6 0 q.1 = o) && decide (q.2 ≤ m) && decide (m < q.2 + a.f 6 2 q.1))
def opn (a : Wd) (P : List (Int × Int)) (t x : Int) : Bool := decide (ff (fun d => bad a t (x + d) || tkn a P (a.f 6 0 t) (x + d)) (a.f 6 2 t) = -1)
def est (a : Wd) (P : List (Int × Int)) (t : Int) : Int := ff (opn a P t) (49 - a.f 6 2 t)
def runP (a : Wd) : List Int → List (Int × Int) → Option (List (Int × Int))
  | [], P => some P
  | t :: ts, P => if est a P t = -1 then none else runP a ts (P ++ [(t, est a P t)])
def enF (a : Wd) (e : Int) (P : List (Int × Int)) : Int := P.foldl (fun e q => max e (q.2 + a.f 6 2 q.1 - 1)) e
theorem enF_app (a : Wd) (e : Int) (P : List (Int × Int)) (q : Int × Int) : enF a e (P ++ [q]) = max (enF a e P) (q.2 + a.f 6 2 q.1 - 1) := by
  unfold enF
  rw [List.foldl_append]
  rfl
theorem enF_0 (a : Wd) : ∀ (P : List (Int × Int)) (e : Int), enF a (max 0 e) P = max 0 (enF a e P)
  | [], e => rfl
  | q :: P, e => by
    show enF a (max (max 0 e) (q.2 + a.f 6 2 q.1 - 1)) P = max 0 (enF a (max e (q.2 + a.f 6 2 q.1 - 1)) P)
    rw [← enF_0 a P, show max (max 0 e) (q.2 + a.f 6 2 q.1 - 1) = max 0 (max e (q.2 + a.f 6 2 q.1 - 1)) by omega]
def upP (a : Wd) (b : Option (Int × List (Int × Int))) (P : List (Int × Int)) : Option (Int × List (Int × Int)) := match b with
  | none => some (enF a 0 P, P)
  | some (e, P0) => if enF a 0 P < e then some (enF a 0 P, P) else some (e, P0)
def upO (a : Wd) (b : Option (Int × List (Int × Int))) (o : Option (List (Int × Int))) : Option (Int × List (Int × Int)) := match o with
  | none => b
  | some P => upP a b P
def mk1 (mask : Int → Bool) (t : Int) : Int → Bool := fun j => mask j || decide (j = t)
def cmp (n : Nat) : Nat → (Int → Bool) → List (List Int)
  | 0, _ => [[]]
  | k + 1, mask => (List.range n).flatMap (fun (t : Nat) => if mask (t : Int) = true then [] else (cmp n k (mk1 mask (t : Int))).map (fun c => (t : Int) :: c))
def dfs (a : Wd) (n : Nat) : Nat → (Int → Bool) → List (Int × Int) → Option (Int × List (Int × Int)) → Option (Int × List (Int × Int))
  | 0, _, P, b => upP a b P
  | k + 1, mask, P, b => (List.range n).foldl (fun b (t : Nat) => if mask (t : Int) = true then b else if est a P (t : Int) = -1 then b else dfs a n k (mk1 mask (t : Int)) (P ++ [((t : Int), est a P t)]) b) b
theorem foldl_fm {α β γ : Type} (f : γ → β → γ) (g : α → List β) : ∀ (l : List α) (b : γ), (l.flatMap g).foldl f b = l.foldl (fun b x => (g x).foldl f b) b
  | [], b => rfl
  | x :: l, b => by
    rw [List.flatMap_cons, List.foldl_append, foldl_fm f g l]
    rfl
theorem foldl_no {α γ : Type} (f : γ → α → γ) (h : ∀ b x, f b x = b) : ∀ (l : List α) (b : γ), l.foldl f b = b
  | [], b => rfl
  | x :: l, b => by
    show l.foldl f (f b x) = b
    rw [h, foldl_no f h l]
theorem foldl_cg {α γ : Type} {f g : γ → α → γ} (h : ∀ b x, f b x = g b x) : ∀ (l : List α) (b : γ), l.foldl f b = l.foldl g b
  | [], b => rfl
  | x :: l, b => by
    show l.foldl f (f b x) = l.foldl g (g b x)
    rw [h, foldl_cg h l]
theorem dfs_eq (a : Wd) (n : Nat) : ∀ (k : Nat) (mask : Int → Bool) (P : List (Int × Int)) (b : Option (Int × List (Int × Int))), dfs a n k mask P b = (cmp n k mask).foldl (fun b c => upO a b (runP a c P)) b
  | 0, mask, P, b => rfl
  | k + 1, mask, P, b => by
    show (List.range n).foldl _ b = ((List.range n).flatMap _).foldl _ b
    rw [foldl_fm]
    refine foldl_cg (fun b t => ?_) _ _
    by_cases c : mask (t : Int) = true
    · rw [if_pos c, if_pos c]; rfl
    · rw [if_neg c, if_neg c, List.foldl_map]
      by_cases e : est a P (t : Int) = -1
      · rw [if_pos e]
        refine (foldl_no _ (fun b c => ?_) _ b).symm
        show upO a b (if est a P (t : Int) = -1 then none else runP a c (P ++ [((t : Int), est a P t)])) = b
        rw [if_pos e]; rfl
      · rw [if_neg e, dfs_eq a n k]
        refine foldl_cg (fun b c => ?_) _ _
        show _ = upO a b (if est a P (t : Int) = -1 then none else runP a c (P ++ [((t : Int), est a P t)]))
        rw [if_neg e]
def plB (a : Wd) : Option (Int × List (Int × Int)) := (cmp (a.n 6).toNat (a.n 6).toNat (fun _ => false)).foldl (fun b c => upO a b (runP a c [])) none
def a_plan (a : Wd) : Int := if a.n 6 = 0 then -1 else match plB a with
  | none => -2
  | some (e, _) => e
def a_planned (a : Wd) (k w : Int) : Int := if 0 ≤ k ∧ (0 ≤ w ∧ w ≤ 1) then (if k < a.n 6 then (match plB a with
  | none => -2
  | some (_, P) => if w = 0 then (P.getD k.toNat (0, 0)).1 else (P.getD k.toNat (0, 0)).2) else -2) else -1
/-! orders one after another -/
def swp (o : Int → Int) (i j : Int) : Int → Int := fun k => if k = j then o i else if k = i then o j else o k
def pvN (o : Int → Int) : Nat → Int
  | 0 => -1
  | i + 1 => if o i ≤ o ((i : Int) + 1) then i else pvN o i
def qvN (o : Int → Int) (p : Int) : Nat → Int
  | 0 => 0
  | k + 1 => if (k : Int) + 1 ≤ p then (k : Int) + 1 else if o p ≤ o ((k : Int) + 1) then (k : Int) + 1 else qvN o p k
def rvN : Nat → (Int → Int) → Int → Int → Int → Int
  | 0, o, _, _ => o
  | k + 1, o, l, r => if r ≤ l then o else rvN k (swp o l r) (l + 1) (r - 1)
def nxo (n : Nat) (o : Int → Int) : Option (Int → Int) := if pvN o (n - 1) < 0 then none else some (rvN 4 (swp o (pvN o (n - 1)) (qvN o (pvN o (n - 1)) (n - 1))) (pvN o (n - 1) + 1) ((n : Int) - 1))
def fnL (L : List Int) : Int → Int := fun k => L.getD k.toNat 0
def prm (n : Nat) : List (List Int) := cmp n n (fun _ => false)
def chn (n : Nat) : List (List Int) → Bool
  | [] => true
  | [L] => (nxo n (fnL L)).isNone
  | L :: M :: r => (match nxo n (fnL L) with
    | none => false
    | some o => (List.range n).all (fun k => decide (o k = fnL M k))) && chn n (M :: r)
theorem chn_tab : ∀ n : Fin 5, n.val ≠ 0 → chn n.val (prm n.val) = true := by decide +kernel
theorem prm_len : ∀ n : Fin 5, (prm n.val).length ≤ 24 ∧ 0 < (prm n.val).length ∧ (prm n.val).all (fun L => decide (L.length = n.val) && L.all (fun t => decide (0 ≤ t) && decide (t < n.val))) = true ∧ (n.val ≠ 0 → ∀ k : Fin 4, k.val < n.val → fnL ((prm n.val).getD 0 []) k.val = k.val) := by decide +kernel
