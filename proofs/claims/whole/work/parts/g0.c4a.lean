def d10 : List Value := (List.range 105).map (fun k => if fk 10 k = 0 then .int 0 else .null)
def hM0 : PH := (fun i => if i = 2 then (upd (upd (upd (upd (upd (upd (upd (upd (upd (upd (upd (upd (upd (upd (upd (upd (upd (upd (upd (upd (upd (upd (fun _ => 0) (iN 0) 0) (iN 1) 0) (iN 2) 0) (iN 3) 0) (iN 4) 0) (iN 5) 0) (iN 6) 0) (iN 7) 5) (iN 8) 1) (iN 9) 0) (iN 10) 0) (iN 11) 0) (iN 12) 0) (iN 13) 0) (iN 14) 0) (iN 15) 0) (iN 16) 0) (iN 17) 0) (iN 18) 5) (iN 19) 1) (iN 20) 0) (iN 21) 0) else if i = 0 then (fun k => if k = 43 then -1 else if k = 95 then -1 else 0) else (fun _ => 0), fun _ _ => 0, fun _ _ => 0)
def Bg : Prop := w_X10_begins hM0 (fun h => h = hM0)
theorem W.weakL {p : Program} {l : Launch} {e : Env} {R : Room} {s : State} {m : MethodId} {args : Array Value} {below : List Frame} {meth : Method} {c : Code} {H : Heap} {locs l' : List Loc} {cells slots : Nat} {Q : State → Prop} {g : JFrame} (hl : ∀ x ∈ locs, x.base < s.heap.size → x ∈ l') (k : W p l e R s m args below meth c H l' cells slots Q g) : W p l e R s m args below meth c H locs cells slots Q g :=
  fun T hT X => k T hT { X with same := State.sameButNew.weaken X.same hl (Nat.le_refl _) (Nat.le_refl _) }
/-- the reference's cells when it is made, by where they lie -/
noncomputable def bl_10 (D : va_G) (ca ad : Nat → Nat) (B : Nat) : List va_E := (List.range 72).map (ce (GM D ca (fun i => if i < 72 then B + i else ad i)) hM0)
theorem wsB_map (f : Nat → va_E) : ∀ (n k B : Nat), wsB (B + k) ((List.range' k n).map f) = (List.range' k n).map (fun i => (B + i, f i))
  | 0, _, _ => rfl
  | n + 1, k, B => by
    rw [List.range'_succ, List.map_cons, List.map_cons]
    show (B + k, f k) :: wsB (B + k + 1) _ = _
    rw [show B + k + 1 = B + (k + 1) by omega, wsB_map f n (k + 1) B]
theorem pw_M0 {D : va_G} {ca ad : Nat → Nat} {B : Nat} : pw (GM D ca (fun i => if i < 72 then B + i else ad i)) hM0 = wsB B (bl_10 D ca ad B) := by
  have h := wsB_map (ce (GM D ca (fun i => if i < 72 then B + i else ad i)) hM0) 72 0 B
  unfold bl_10 pw
  rw [List.range_eq_range', show wsB B = wsB (B + 0) from rfl, h]
  refine List.map_congr_left (fun i hi => ?_)
  have hi' : i < 72 := by
    have hj : i < 0 + 72 := (List.mem_range'_1.mp hi).2
    omega
  show ((if i < 72 then B + i else ad i), _) = (B + i, _)
  rw [if_pos hi']
theorem bl_10_len (D : va_G) (ca ad : Nat → Nat) (B : Nat) : (bl_10 D ca ad B).length = 72 := by
  unfold bl_10
  rw [List.length_map, List.length_range]
