/-! ===== what a text tells: the lines ===== -/
abbrev PS : Type := Wd × (Nat → Int) × Int
abbrev PS.a (s : PS) : Wd := s.1
/-- what is told once: wall, fine, seed (-1: not told) -/
abbrev PS.on (s : PS) : Nat → Int := s.2.1
/-- knots so far -/
abbrev PS.kc (s : PS) : Int := s.2.2
def PS.wd (s : PS) (a : Wd) : PS := (a, s.2)
def PS.put (s : PS) (i : Nat) (v : Int) : PS := (s.1, (fun j => if j = i then v else s.on j), s.2.2)
abbrev PR : Type := (Int × Int) ⊕ (PS × Int)
def rowf (a b c d e : Int) : Nat → Int := fun i => if i = 0 then a else if i = 1 then b else if i = 2 then c else if i = 3 then d else if i = 4 then e else 0
def pF {α : Type} (T : Int → Int) (L k p : Int) : (Int × Int) ⊕ α := .inl (k, tS T L p)
def fnd (a : Wd) (r : Nat) (v : Int) : Int := ff (fun j => decide (a.f r 0 j = v)) (a.n r)
def pTold (T : Int → Int) (L : Int) (a : Wd) (r : Nat) (K : Int → Int → PR) (p : Int) : PR := if tK T L p = 3 then (if fnd a r (tV T L p) = -1 then pF T L 4 p else K (fnd a r (tV T L p)) p) else pF T L 1 p
def pNew (T : Int → Int) (L : Int) (a : Wd) (r : Nat) (K : Int → Int → PR) (p : Int) : PR := if tK T L p = 3 then (if fnd a r (tV T L p) = -1 then K (tV T L p) p else pF T L 3 p) else pF T L 1 p
def pNum (T : Int → Int) (L lo hi : Int) (K : Int → Int → PR) (p : Int) : PR := if tK T L p = 2 then (if lo ≤ tV T L p ∧ tV T L p ≤ hi then K (tV T L p) p else pF T L 2 p) else pF T L 1 p
def pEnd (T : Int → Int) (L : Int) (s : PS) (p : Int) : PR := if tK T L p = 5 ∧ tV T L p = 59 then .inr (s, tE T L p) else pF T L 1 p
def lkd (a : Wd) (x v : Int) : Bool := decide (ff (fun k => (decide (a.f 1 0 k = x) && decide (a.f 1 1 k = v)) || (decide (a.f 1 0 k = v) && decide (a.f 1 1 k = x))) (a.n 1) ≠ -1)
section LINES
variable (T : Int → Int) (L : Int) (s : PS) (p : Int)
def lnPlace : PR := if s.a.n 0 < 6 then pNew T L s.a 0 (fun v p1 => pEnd T L (s.wd (adR s.a 0 (rowf v 0 0 0 0))) (tE T L p1)) (tE T L p) else pF T L 2 p
def lnOwner : PR := if s.a.n 2 < 4 then pNew T L s.a 2 (fun v p1 => pNum T L 0 999 (fun c p2 => pEnd T L (s.wd (adR s.a 2 (rowf v c (-1) 0 0))) (tE T L p2)) (tE T L p1)) (tE T L p) else pF T L 2 p
def lnLink : PR := if s.a.n 1 < 9 then pTold T L s.a 0 (fun x p1 => pTold T L s.a 0 (fun v p2 => if x = v then pF T L 5 p2 else if lkd s.a x v = true then pF T L 3 p2 else pNum T L 1 9 (fun l p3 => pEnd T L (s.wd (adR s.a 1 (rowf x v l 0 0))) (tE T L p3)) (tE T L p2)) (tE T L p1)) (tE T L p) else pF T L 2 p
def lnHeir : PR := pTold T L s.a 2 (fun x p1 => if s.a.f 2 2 x = -1 then pTold T L s.a 2 (fun v p2 => if x = v then pF T L 5 p2 else pEnd T L (s.wd (upF s.a 2 2 (fun j => if j = x then v else s.a.f 2 2 j))) (tE T L p2)) (tE T L p1) else pF T L 3 p1) (tE T L p)
def lnNoise : PR := if s.a.n 3 < 8 then pTold T L s.a 0 (fun x p1 => pTold T L s.a 2 (fun o p2 => pNum T L 0 47 (fun f p3 => pNum T L f 47 (fun t p4 => pNum T L 1 20 (fun l p5 => pEnd T L (s.wd (adR s.a 3 (rowf x o f t l))) (tE T L p5)) (tE T L p4)) (tE T L p3)) (tE T L p2)) (tE T L p1)) (tE T L p) else pF T L 2 p
def lnHold (r : Nat) (m : Int) : PR := if s.a.n r < m then pTold T L s.a 2 (fun o p1 => pTold T L s.a 0 (fun x p2 => pNum T L 0 47 (fun f p3 => pNum T L f 47 (fun t p4 => pEnd T L (s.wd (adR s.a r (rowf o x f t 0))) (tE T L p4)) (tE T L p3)) (tE T L p2)) (tE T L p1)) (tE T L p) else pF T L 2 p
def lnTask : PR := if s.a.n 6 < 4 then pTold T L s.a 2 (fun o p1 => pTold T L s.a 0 (fun x p2 => pNum T L 1 12 (fun d p3 => pNum T L 1 20 (fun l p4 => pEnd T L (s.wd (adR s.a 6 (rowf o x d l 0))) (tE T L p4)) (tE T L p3)) (tE T L p2)) (tE T L p1)) (tE T L p) else pF T L 2 p
def lnDog : PR := pTold T L s.a 0 (fun x p1 => if s.a.f 0 1 x ≤ 0 then pNum T L 1 20 (fun e p2 => pEnd T L (s.wd (upF s.a 0 1 (fun j => if j = x then e else s.a.f 0 1 j))) (tE T L p2)) (tE T L p1) else pF T L 3 p1) (tE T L p)
def lnOnce (i : Nat) (lo hi : Int) : PR := if s.on i = -1 then pNum T L lo hi (fun v p1 => pEnd T L (s.put i v) (tE T L p1)) (tE T L p) else pF T L 3 p
end LINES
/-! ===== a law's E, by waiting signs ===== -/
def rk (o : Int) : Int := if o = 0 then 1 else if o = 1 then 2 else if o = 2 then 3 else if o ≤ 8 then 4 else if o ≤ 10 then 5 else if o ≤ 12 then 6 else 0
def top : List Int → Int
  | [] => 0
  | o :: _ => rk o
def rlS (r : Int) : List Int → List Int
  | [] => []
  | o :: st => if r ≤ rk o then rlS r st else o :: st
def rlO (r : Int) : List Int → List Int → List Int
  | [], out => out
  | o :: st, out => if r ≤ rk o then rlO r st (out ++ [-10 - o]) else out
/-- the sign that joins, or -1 -/
def jsg (k v : Int) : Int := if k = 4 then (if v = 15 then 0 else if v = 16 then 1 else -1) else if k = 5 then (if v = 42 then 11 else if v = 43 then 9 else if v = 45 then 10 else if v = 47 then 12 else if v = 60 then 3 else if v = 61 then 5 else if v = 62 then 8 else if v = 256 then 4 else if v = 257 then 6 else if v = 258 then 7 else -1) else -1
abbrev SR : Type := (Int × Int) ⊕ (List Int × Int × Int)
def isS (T : Int → Int) (L p v : Int) : Bool := decide (tK T L p = 5) && decide (tV T L p = v)
def isWd (T : Int → Int) (L p v : Int) : Bool := decide (tK T L p = 4) && decide (tV T L p = v)
def sy (T : Int → Int) (L : Int) : Nat → Bool → List Int → Int → Int → List Int → Int → SR
  | 0, _, _, _, _, _, _ => .inl (0, 0)
  | n + 1, false, st, o, c, out, p =>
    if isS T L p 40 = true then (if o < 8 then sy T L n false (13 :: st) (o + 1) c out (tE T L p) else pF T L 2 p)
    else if isWd T L p 17 = true ∧ top st ≤ 3 then (if c < 64 then sy T L n false (2 :: st) o (c + 1) out (tE T L p) else pF T L 2 p)
    else if tK T L p = 4 ∧ 18 ≤ tV T L p then (if c < 64 then sy T L n true st o (c + 1) (out ++ [-1 - (tV T L p - 18)]) (tE T L p) else pF T L 2 p)
    else if tK T L p = 2 then (if c < 64 ∧ tV T L p ≤ 9999 then sy T L n true st o (c + 1) (out ++ [tV T L p]) (tE T L p) else pF T L 2 p)
    else pF T L 1 p
  | n + 1, true, st, o, c, out, p =>
    if isS T L p 59 = true ∧ o = 0 then .inr (rlO 1 st out, c, p)
    else if isS T L p 41 = true ∧ 0 < o then sy T L n true (rlS 1 st).tail (o - 1) c (rlO 1 st out) (tE T L p)
    else if jsg (tK T L p) (tV T L p) = -1 then pF T L 1 p
    else if rk (jsg (tK T L p) (tV T L p)) = 4 then (if top (rlS 5 st) = 4 then pF T L 1 p else if c < 64 then sy T L n false (jsg (tK T L p) (tV T L p) :: rlS 5 st) o (c + 1) (rlO 5 st out) (tE T L p) else pF T L 2 p)
    else if c < 64 then sy T L n false (jsg (tK T L p) (tV T L p) :: rlS (rk (jsg (tK T L p) (tV T L p))) st) o (c + 1) (rlO (rk (jsg (tK T L p) (tV T L p))) st out) (tE T L p) else pF T L 2 p
/-- the law of kind k (0 fade, 1 worth) is told -/
def PS.law (s : PS) (k : Int) : List Int := if k = 0 then s.a.fd else s.a.wo
def PS.lay (s : PS) (k : Int) (out : List Int) (c : Int) : PS := ((s.a.1, s.a.2.1, (if k = 0 then out else s.a.fd), (if k = 0 then s.a.wo else out)), s.on, c)
def lnLaw2 (T : Int → Int) (L : Int) (s : PS) (k p1 : Int) : PR := if s.law k = [] then (match sy T L 701 false [] 0 s.kc [] (tE T L p1) with
    | .inl f => .inl f
    | .inr (out, c, q) => .inr (s.lay k out c, tE T L q)) else pF T L 3 p1
def lnLaw (T : Int → Int) (L : Int) (s : PS) (p : Int) : PR := if isWd T L (tE T L p) 13 = true then lnLaw2 T L s 0 (tE T L p) else if isWd T L (tE T L p) 14 = true then lnLaw2 T L s 1 (tE T L p) else pF T L 1 (tE T L p)
def pLine (T : Int → Int) (L : Int) (s : PS) (p : Int) : PR :=
  if tK T L p = 4 then
    (if tV T L p = 0 then lnPlace T L s p
    else if tV T L p = 1 then lnLink T L s p
    else if tV T L p = 2 then lnOwner T L s p
    else if tV T L p = 3 then lnHeir T L s p
    else if tV T L p = 4 then lnNoise T L s p
    else if tV T L p = 5 then lnHold T L s p 4 8
    else if tV T L p = 6 then lnHold T L s p 5 6
    else if tV T L p = 7 then lnTask T L s p
    else if tV T L p = 8 then lnDog T L s p
    else if tV T L p = 9 then lnOnce T L s p 0 1 9
    else if tV T L p = 10 then lnOnce T L s p 1 0 9
    else if tV T L p = 11 then lnOnce T L s p 2 0 99999
    else if tV T L p = 12 then lnLaw T L s p
    else pF T L 1 p)
  else pF T L 1 p
/-- all lines: a fault with its place, or what is told and how many lines -/
def pText (T : Int → Int) (L : Int) : Nat → Int → PS → Int → (Int × Int) ⊕ (PS × Int)
  | 0, _, _, _ => .inl (0, 0)
  | n + 1, l, s, p => if tK T L p = 0 then .inr (s, l) else match pLine T L s p with
    | .inl f => .inl f
    | .inr (s', q) => pText T L n (l + 1) s' q
def a0 : Wd := ((fun _ => 0), (fun r c _ => if r = 7 then (if c = 0 then 5 else if c = 1 then 1 else 0) else 0), [], [])
def ps0 : PS := (a0, (fun _ => -1), 0)
/-- what is told once comes in at the end -/
def PS.fin (s : PS) : Wd := upF (upF s.a 7 0 (fun _ => if s.on 0 = -1 then 5 else s.on 0)) 7 1 (fun _ => if s.on 1 = -1 then 1 else s.on 1)
