/-! making: single instructions -/
abbrev xO : Type := Option (Nat × List zV × List zV × xHp)
abbrev xS (b : zH) (c : Nat) (H : xHp) : zS := (false, H.length, c, den b H)
def cel (H : xHp) (o k : Int) : Int := (H.getD (o.toNat - 1) []).getD k.toNat 0
theorem den_cel {b : zH} {H : xHp} {o k : Int} (h1 : 1 ≤ o ∧ o ≤ (H.length : Int)) (h2 : 0 ≤ k) : den b H o k = cel H o k := by
  unfold den
  rw [if_pos h1, if_pos h2]
  rfl
/-- an instruction is told right -/
def xOk (op : Nat) (a b : Int) (nx : Nat) (ls st : List zV) (H : xHp) (r : xO) : Prop := ∀ (B : zH) (c μ pc pc' : Nat) (ls' st' : List zV) (H' : xHp), r = some (pc', ls', st', H') → zR op a b nx μ pc ls st (xS B c H) pc' ls' st' (xS B c H')
theorem xOk_0 {op : Nat} {a b : Int} {nx : Nat} {ls st : List zV} {H : xHp} : xOk op a b nx ls st H none := fun _ _ _ _ _ _ _ _ e => nomatch e
theorem xOk_i {op : Nat} {a b : Int} {nx : Nat} {ls st : List zV} {H : xHp} {p : Prop} [Decidable p] {r : xO} (k : p → xOk op a b nx ls st H r) : xOk op a b nx ls st H (if p then r else none) := by
  by_cases q : p
  · rw [if_pos q]
    exact k q
  · rw [if_neg q]
    exact xOk_0
theorem xOk_s {op : Nat} {a b : Int} {nx : Nat} {ls st : List zV} {H : xHp} {pc1 : Nat} {ls1 st1 : List zV} {H1 : xHp} (k : ∀ (B : zH) (c μ pc : Nat), zR op a b nx μ pc ls st (xS B c H) pc1 ls1 st1 (xS B c H1)) : xOk op a b nx ls st H (some (pc1, ls1, st1, H1)) := fun B c μ pc pc' ls' st' H' e => by
  injection e with e
  injection e with e1 e
  injection e with e2 e
  injection e with e3 e4
  subst e1
  subst e2
  subst e3
  subst e4
  exact k B c μ pc
def x1 (a : Int) (nx : Nat) (ls st : List zV) (H : xHp) : xO := some (nx, ls, (0, a) :: st, H)
theorem x1_ok {a b : Int} {nx : Nat} {ls st : List zV} {H : xHp} : xOk 1 a b nx ls st H (x1 a nx ls st H) := xOk_s (fun _ _ _ _ => ⟨rfl, rfl, rfl, rfl⟩)
def xTok (b : Int) (v : zV) : Bool := if b = 0 then v.1 = 0 else if b = 1 then v.1 = 1 else (v.1 = 2 ∨ v.1 = 4 ∨ v.1 = 5)
theorem xTok_ok {b : Int} {v : zV} (h : xTok b v = true) (hb : b = 0 ∨ b = 1 ∨ b = 2) : zTok b v := by
  unfold xTok at h
  rcases hb with e | e | e <;> subst e
  · simpa [zTok] using h
  · simpa [zTok] using h
  · simpa [zTok] using h
def x4 (a b : Int) (nx : Nat) (ls st : List zV) (H : xHp) : xO := match ls[a.toNat]? with
  | some v => if (b = 0 ∨ b = 1 ∨ b = 2) ∧ xTok b v = true then some (nx, ls, v :: st, H) else none
  | none => none
theorem x4_ok {a b : Int} {nx : Nat} {ls st : List zV} {H : xHp} : xOk 4 a b nx ls st H (x4 a b nx ls st H) := by
  unfold x4
  split
  · rename_i v e
    exact xOk_i (fun q => xOk_s (fun _ _ _ _ => ⟨rfl, rfl, rfl, v, e, xTok_ok q.2 q.1, rfl⟩))
  · exact xOk_0
def x5 (a b : Int) (nx : Nat) (ls st : List zV) (H : xHp) : xO := match st with
  | v :: r => if ((b = 0 ∧ v.1 = 0) ∨ (b = 2 ∧ (v.1 = 2 ∨ v.1 = 4 ∨ v.1 = 5))) ∧ a.toNat < ls.length then some (nx, zSt ls a.toNat v, r, H) else none
  | [] => none
theorem x5_ok {a b : Int} {nx : Nat} {ls st : List zV} {H : xHp} : xOk 5 a b nx ls st H (x5 a b nx ls st H) := by
  unfold x5
  split
  · rename_i v r
    exact xOk_i (fun q => xOk_s (fun _ _ _ _ => ⟨rfl, rfl, v, rfl, q.1, q.2, rfl⟩))
  · exact xOk_0
def x7 (a b : Int) (nx : Nat) (ls st : List zV) (H : xHp) : xO := match ls[a.toNat]? with
  | some v => if v.1 = 0 then some (nx, zSt ls a.toNat (0, w32 (v.2 + b)), st, H) else none
  | none => none
theorem x7_ok {a b : Int} {nx : Nat} {ls st : List zV} {H : xHp} : xOk 7 a b nx ls st H (x7 a b nx ls st H) := by
  unfold x7
  split
  · rename_i v e
    refine xOk_i (fun q => xOk_s (fun _ _ _ _ => ⟨rfl, rfl, rfl, v.2, ?_, rfl⟩))
    rw [e, ← q]
  · exact xOk_0
def x12 (nx : Nat) (ls st : List zV) (H : xHp) : xO := match st with
  | v :: r => if v.1 ≠ 1 then some (nx, ls, v :: v :: r, H) else none
  | [] => none
theorem x12_ok {a b : Int} {nx : Nat} {ls st : List zV} {H : xHp} : xOk 12 a b nx ls st H (x12 nx ls st H) := by
  unfold x12
  split
  · rename_i v r
    exact xOk_i (fun q => xOk_s (fun _ _ _ _ => ⟨rfl, rfl, rfl, v, r, rfl, q, rfl⟩))
  · exact xOk_0
def x16 (a b : Int) (nx : Nat) (ls st : List zV) (H : xHp) : xO := match st with
  | y :: x :: r => if y.1 = 0 ∧ x.1 = 0 then some (if zCond a.toNat x.2 y.2 then b.toNat else nx, ls, r, H) else none
  | _ => none
theorem x16_ok {a b : Int} {nx : Nat} {ls st : List zV} {H : xHp} : xOk 16 a b nx ls st H (x16 a b nx ls st H) := by
  unfold x16
  split
  · rename_i y x r
    refine xOk_i (fun q => xOk_s (fun _ _ _ _ => ⟨rfl, rfl, x.2, y.2, ?_, rfl⟩))
    rw [show ((0 : Nat), y.2) = y by rw [← q.1], show ((0 : Nat), x.2) = x by rw [← q.2]]
  · exact xOk_0
def x17 (b : Int) (ls st : List zV) (H : xHp) : xO := some (b.toNat, ls, st, H)
theorem x17_ok {a b : Int} {nx : Nat} {ls st : List zV} {H : xHp} : xOk 17 a b nx ls st H (x17 b ls st H) := xOk_s (fun _ _ _ _ => ⟨rfl, rfl, rfl, rfl⟩)
def x19 (a b : Int) (nx : Nat) (ls st : List zV) (H : xHp) : xO := match st with
  | v :: r => if v.1 = 2 ∧ (zK v.2).1 = a.toNat ∧ (1 ≤ v.2 ∧ v.2 ≤ (H.length : Int)) ∧ 0 ≤ b ∧ (zTy a.toNat b.toNat = 2 → cel H v.2 b ≠ 0) then some (nx, ls, (if zTy a.toNat b.toNat = 2 then 2 else 0, cel H v.2 b) :: r, H) else none
  | [] => none
theorem x19_ok {a b : Int} {nx : Nat} {ls st : List zV} {H : xHp} : xOk 19 a b nx ls st H (x19 a b nx ls st H) := by
  unfold x19
  split
  · rename_i v r
    refine xOk_i (fun q => xOk_s (fun B c _ _ => ⟨rfl, rfl, rfl, v.2, r, ?_, q.2.1, fun _ t => ?_, ?_⟩))
    · rw [show ((2 : Nat), v.2) = v by rw [← q.1]]
    · show den B H v.2 b ≠ 0
      rw [den_cel q.2.2.1 q.2.2.2.1]
      exact q.2.2.2.2 t
    · have e : den B H v.2 ((b.toNat : Nat) : Int) = cel H v.2 b := by rw [show ((b.toNat : Nat) : Int) = b by omega, den_cel q.2.2.1 q.2.2.2.1]
      unfold zGv
      show _ = (if zTy a.toNat b.toNat = 2 then ((2 : Nat), if false = true ∧ zCs a.toNat b.toNat ≠ 0 then v.2 + zCs a.toNat b.toNat else den B H v.2 ((b.toNat : Nat) : Int)) else (0, den B H v.2 ((b.toNat : Nat) : Int))) :: r
      rw [e]
      by_cases t : zTy a.toNat b.toNat = 2
      · rw [if_pos t, if_pos t, if_neg (fun w => Bool.noConfusion w.1)]
      · rw [if_neg t, if_neg t]
  · exact xOk_0
theorem xS_upd {B : zH} {c : Nat} {H : xHp} {o k v : Int} (h1 : 1 ≤ o ∧ o ≤ (H.length : Int)) (h2 : 0 ≤ k) : xS B c (updH H o k v) = zSet (xS B c H) (hw (den B H) o k v) := by
  show (false, (updH H o k v).length, c, den B (updH H o k v)) = (false, H.length, c, hw (den B H) o k v)
  rw [updH_len, den_upd h1 h2]
def x20 (a b : Int) (nx : Nat) (ls st : List zV) (H : xHp) : xO := match st with
  | v :: w :: r => if w.1 = 2 ∧ (zK w.2).1 = a.toNat ∧ (1 ≤ w.2 ∧ w.2 ≤ (H.length : Int)) ∧ 0 ≤ b ∧ v.1 = (if zTy a.toNat b.toNat = 2 then 2 else 0) ∧ (zTy a.toNat b.toNat = 1 → v.2 = 0 ∨ v.2 = 1) then some (nx, ls, r, updH H w.2 b v.2) else none
  | _ => none
theorem x20_ok {a b : Int} {nx : Nat} {ls st : List zV} {H : xHp} : xOk 20 a b nx ls st H (x20 a b nx ls st H) := by
  unfold x20
  split
  · rename_i v w r
    refine xOk_i (fun q => xOk_s (fun B c _ _ => ⟨rfl, rfl, v, w.2, ?_, q.2.1, q.2.2.2.2.1, q.2.2.2.2.2, fun e => Bool.noConfusion e, xS_upd q.2.2.1 q.2.2.2.1⟩))
    rw [show ((2 : Nat), w.2) = w by rw [← q.1]]
  · exact xOk_0
def x21 (nx : Nat) (ls st : List zV) (H : xHp) : xO := match st with
  | v :: r => if v.1 = 2 then (if 50 ≤ (zK v.2).1 ∧ (zK v.2).1 ≤ 55 then some (nx, ls, (0, ((zK v.2).2 : Int)) :: r, H) else none) else if v = (4, 1) then some (nx, ls, (0, 12) :: r, H) else none
  | [] => none
theorem x21_ok {a b : Int} {nx : Nat} {ls st : List zV} {H : xHp} : xOk 21 a b nx ls st H (x21 nx ls st H) := by
  unfold x21
  split
  · rename_i v r
    by_cases e : v.1 = 2
    · rw [if_pos e]
      refine xOk_i (fun q => xOk_s (fun B c _ _ => ⟨rfl, rfl, rfl, r, Or.inl ⟨v.2, ?_, q.1, q.2, rfl⟩⟩))
      rw [show ((2 : Nat), v.2) = v by rw [← e]]
    · rw [if_neg e]
      exact xOk_i (fun q => xOk_s (fun B c _ _ => ⟨rfl, rfl, rfl, r, Or.inr (Or.inr ⟨by rw [q], rfl⟩)⟩))
  · exact xOk_0
def x22 (a : Int) (nx : Nat) (ls st : List zV) (H : xHp) : xO := match st with
  | u :: v :: r => if u.1 = 0 ∧ v.1 = 2 ∧ ((zK v.2).1 = a.toNat ∨ (a = 51 ∧ (zK v.2).1 = 52)) ∧ (1 ≤ v.2 ∧ v.2 ≤ (H.length : Int)) ∧ 0 ≤ u.2 ∧ u.2 < (zK v.2).2 then some (nx, ls, ((if a = 53 then 1 else 0), cel H v.2 u.2) :: r, H) else if a = 50 ∧ u.1 = 0 ∧ v = (4, 1) ∧ 0 ≤ u.2 ∧ u.2 < 12 then some (nx, ls, (0, zMK.getD u.2.toNat 0) :: r, H) else none
  | _ => none
theorem x22_ok {a b : Int} {nx : Nat} {ls st : List zV} {H : xHp} : xOk 22 a b nx ls st H (x22 a nx ls st H) := by
  unfold x22
  split
  · rename_i u v r
    split
    · rename_i q
      refine xOk_s (fun B c _ _ => ⟨rfl, rfl, rfl, u.2, r, Or.inl ⟨v.2, ?_, q.2.2.1, q.2.2.2.2.1, q.2.2.2.2.2, ?_⟩⟩)
      · rw [show ((0 : Nat), u.2) = u by rw [← q.1], show ((2 : Nat), v.2) = v by rw [← q.2.1]]
      · show _ = ((if a = 53 then 1 else 0), den B H v.2 u.2) :: r
        rw [den_cel q.2.2.2.1 q.2.2.2.2.1]
    · refine xOk_i (fun q => xOk_s (fun B c _ _ => ⟨rfl, rfl, rfl, u.2, r, Or.inr (Or.inr ⟨q.1, ?_, q.2.2.2.1, q.2.2.2.2, rfl⟩)⟩))
      rw [show ((0 : Nat), u.2) = u by rw [← q.2.1], q.2.2.1]
  · exact xOk_0
def x23 (a : Int) (nx : Nat) (ls st : List zV) (H : xHp) : xO := match st with
  | v :: u :: w :: r => if u.1 = 0 ∧ w.1 = 2 ∧ v.1 = (if a = 53 then 1 else 0) ∧ ((zK w.2).1 = a.toNat ∨ (a = 51 ∧ (zK w.2).1 = 52 ∧ (v.2 = 0 ∨ v.2 = 1))) ∧ ((zK w.2).1 = 51 → -128 ≤ v.2 ∧ v.2 ≤ 127) ∧ (1 ≤ w.2 ∧ w.2 ≤ (H.length : Int)) ∧ 0 ≤ u.2 ∧ u.2 < (zK w.2).2 then some (nx, ls, r, updH H w.2 u.2 v.2) else none
  | _ => none
theorem x23_ok {a b : Int} {nx : Nat} {ls st : List zV} {H : xHp} : xOk 23 a b nx ls st H (x23 a nx ls st H) := by
  unfold x23
  split
  · rename_i v u w r
    refine xOk_i (fun q => xOk_s (fun B c _ _ => ⟨rfl, rfl, v, u.2, w.2, ?_, q.2.2.1, q.2.2.2.1, q.2.2.2.2.1, q.2.2.2.2.2.2.1, q.2.2.2.2.2.2.2, xS_upd q.2.2.2.2.2.1 q.2.2.2.2.2.2.1⟩))
    rw [show ((0 : Nat), u.2) = u by rw [← q.1], show ((2 : Nat), w.2) = w by rw [← q.2.1]]
  · exact xOk_0
def x24 (nx : Nat) (ls st : List zV) (H : xHp) : xO := match st with
  | u :: v :: r => if u.1 = 0 ∧ v.1 = 2 ∧ ((zK v.2).1 = 54 ∨ (zK v.2).1 = 55) ∧ (1 ≤ v.2 ∧ v.2 ≤ (H.length : Int)) ∧ 0 ≤ u.2 ∧ u.2 < (zK v.2).2 ∧ cel H v.2 u.2 ≠ 0 then some (nx, ls, (2, cel H v.2 u.2) :: r, H) else none
  | _ => none
theorem x24_ok {a b : Int} {nx : Nat} {ls st : List zV} {H : xHp} : xOk 24 a b nx ls st H (x24 nx ls st H) := by
  unfold x24
  split
  · rename_i u v r
    refine xOk_i (fun q => xOk_s (fun B c _ _ => ⟨rfl, rfl, rfl, u.2, v.2, r, ?_, q.2.2.1, q.2.2.2.2.1, q.2.2.2.2.2.1, fun _ => ?_, ?_⟩))
    · rw [show ((0 : Nat), u.2) = u by rw [← q.1], show ((2 : Nat), v.2) = v by rw [← q.2.1]]
    · show den B H v.2 u.2 ≠ 0
      rw [den_cel q.2.2.2.1 q.2.2.2.2.1]
      exact q.2.2.2.2.2.2
    · show _ = (2, if false = true then v.2 + 1 + zStr1 (zK v.2).1 * u.2 else den B H v.2 u.2) :: r
      rw [if_neg (fun w => Bool.noConfusion w), den_cel q.2.2.2.1 q.2.2.2.2.1]
  · exact xOk_0
theorem xS_new {B : zH} {c : Nat} {H : xHp} : xS B c (H ++ [[]]) = (false, H.length + 1, c, hz (den B H) ((H.length : Int) + 1)) := by
  show (false, (H ++ [[]]).length, c, den B (H ++ [[]])) = _
  rw [den_new, List.length_append]
  rfl
def x25 (a : Int) (nx : Nat) (ls st : List zV) (H : xHp) : xO := if (zK ((H.length : Int) + 1)).1 = a.toNat then some (nx, ls, (2, (H.length : Int) + 1) :: st, H ++ [[]]) else none
theorem x25_ok {a b : Int} {nx : Nat} {ls st : List zV} {H : xHp} : xOk 25 a b nx ls st H (x25 a nx ls st H) := xOk_i (fun q => xOk_s (fun _ _ _ _ => ⟨rfl, rfl, rfl, q, rfl, xS_new⟩))
def x26 (a : Int) (nx : Nat) (ls st : List zV) (H : xHp) : xO := match st with
  | u :: r => if u.1 = 0 ∧ 0 ≤ u.2 ∧ zK ((H.length : Int) + 1) = (a.toNat, u.2.toNat) then some (nx, ls, (2, (H.length : Int) + 1) :: r, H ++ [[]]) else none
  | [] => none
theorem x26_ok {a b : Int} {nx : Nat} {ls st : List zV} {H : xHp} : xOk 26 a b nx ls st H (x26 a nx ls st H) := by
  unfold x26
  split
  · rename_i u r
    refine xOk_i (fun q => xOk_s (fun _ _ _ _ => ⟨rfl, rfl, rfl, u.2, r, ?_, q.2.1, q.2.2, rfl, xS_new⟩))
    rw [show ((0 : Nat), u.2) = u by rw [← q.1]]
  · exact xOk_0
def x27 (nx : Nat) (ls st : List zV) (H : xHp) : xO := x26 55 nx ls st H
theorem x27_ok {a b : Int} {nx : Nat} {ls st : List zV} {H : xHp} : xOk 27 a b nx ls st H (x27 nx ls st H) := fun B c μ pc pc' ls' st' H' e => x26_ok (b := b) B c μ pc pc' ls' st' H' e
def x29 (nx : Nat) (ls st : List zV) (H : xHp) : xO := match st with
  | v :: u :: w :: r => if v.1 = 2 ∧ u.1 = 0 ∧ w.1 = 2 ∧ (zK w.2).1 = 55 ∧ (zK v.2).1 = 4 ∧ (1 ≤ w.2 ∧ w.2 ≤ (H.length : Int)) ∧ 0 ≤ u.2 ∧ u.2 < (zK w.2).2 then some (nx, ls, r, updH H w.2 u.2 v.2) else none
  | _ => none
theorem x29_ok {a b : Int} {nx : Nat} {ls st : List zV} {H : xHp} : xOk 29 a b nx ls st H (x29 nx ls st H) := by
  unfold x29
  split
  · rename_i v u w r
    refine xOk_i (fun q => xOk_s (fun B c _ _ => ⟨rfl, rfl, rfl, v.2, u.2, w.2, ?_, q.2.2.2.1, q.2.2.2.2.1, q.2.2.2.2.2.2.1, q.2.2.2.2.2.2.2, xS_upd q.2.2.2.2.2.1 q.2.2.2.2.2.2.1⟩))
    rw [show ((2 : Nat), v.2) = v by rw [← q.1], show ((0 : Nat), u.2) = u by rw [← q.2.1], show ((2 : Nat), w.2) = w by rw [← q.2.2.1]]
  · exact xOk_0
def x30 (nx : Nat) (ls st : List zV) (H : xHp) : xO := match st with
  | v :: r => if v.1 = 2 ∧ (r.map zcat).sum ≤ 8 then some (nx, ls, r, H) else none
  | [] => none
theorem x30_ok {a b : Int} {nx : Nat} {ls st : List zV} {H : xHp} : xOk 30 a b nx ls st H (x30 nx ls st H) := by
  unfold x30
  split
  · rename_i v r
    refine xOk_i (fun q => xOk_s (fun B c _ _ => ⟨rfl, rfl, rfl, v.2, ?_, q.2⟩))
    rw [show ((2 : Nat), v.2) = v by rw [← q.1]]
  · exact xOk_0
def x31 (nx : Nat) (ls st : List zV) (H : xHp) : xO := some (nx, ls, (4, 1) :: st, H)
theorem x31_ok {a b : Int} {nx : Nat} {ls st : List zV} {H : xHp} : xOk 31 a b nx ls st H (x31 nx ls st H) := xOk_s (fun _ _ _ _ => ⟨rfl, rfl, rfl, rfl⟩)
