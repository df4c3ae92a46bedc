/-! behind the making: the state is (exceptions so far, heap); a method's text unrolled into a proposition -/
abbrev zTS (c : Nat) (h : zH) : zS := (true, 156, c, h)
abbrev zK1 : Type := Nat → List zV → List zV → Nat → zH → Prop
def zTokB (b : Int) (v : zV) : Bool := match b with
  | 0 => v.1 == 0
  | 1 => v.1 == 1
  | _ => v.1 == 2 || v.1 == 4 || v.1 == 5
theorem zTokB_ok {b : Int} {v : zV} (h : zTokB b v = true) : zTok b v := by
  unfold zTokB at h
  unfold zTok
  split <;> simp_all
  omega
/-- a call's two ends: the value, or the exception's number -/
def zEnd1 (R : List zV → Nat → zH → Prop) (X : Nat → Nat → zH → Prop) (r : zO) : Prop := (∃ vs c h, r = (.inl vs, zTS c h) ∧ R vs c h) ∨ ∃ E c h, r = (.inr E, zTS c h) ∧ X E c h
def zCi (d ν : Nat) (as : List zV) (c : Nat) (h : zH) (R : Int → Nat → zH → Prop) (X : Nat → Nat → zH → Prop) : Prop := zWp d ν 0 (zEntry ν as) [] (zTS c h) (zEnd1 (fun vs c h => ∃ y, vs = [(0, y)] ∧ R y c h) X)
def zCj (d ν : Nat) (as : List zV) (c : Nat) (h : zH) (R : Int → Nat → zH → Prop) (X : Nat → Nat → zH → Prop) : Prop := zWp d ν 0 (zEntry ν as) [] (zTS c h) (zEnd1 (fun vs c h => ∃ y, vs = [(1, y)] ∧ R y c h) X)
def zCv (d ν : Nat) (as : List zV) (c : Nat) (h : zH) (R : Nat → zH → Prop) (X : Nat → Nat → zH → Prop) : Prop := zWp d ν 0 (zEntry ν as) [] (zTS c h) (zEnd1 (fun vs c h => vs = [] ∧ R c h) X)
def zXt (Z : zK1) (μ pc : Nat) (ls : List zV) (Q : zO → Prop) (E c : Nat) (h : zH) : Prop := match zHd μ pc E with
  | some (p', k) => ls[k]? = some (9, 0) ∧ (∀ j v, k = j + 1 → ls[j]? = some v → v.1 ≠ 1) ∧ Z p' ls [] c h
  | none => (zMof μ).2.2.2.2.2 = false ∧ Q (.inr E, zTS c h)
/-- one instruction -/
def zev1 (Z : zK1) (d μ : Nat) (Q : zO → Prop) (pc op : Nat) (a b : Int) (nx : Nat) (ls st : List zV) (c : Nat) (h : zH) : Prop := match op with
  | 1 => Z nx ls ((0, a) :: st) c h
  | 2 => Z nx ls ((1, a) :: st) c h
  | 3 => Z nx ls ((5, a) :: st) c h
  | 4 => match ls[a.toNat]? with
    | some v => bif zTokB b v then Z nx ls (v :: st) c h else False
    | none => False
  | 5 => match st with
    | v :: r => bif ((b == 0 && v.1 == 0) || (b == 2 && (v.1 == 2 || v.1 == 4 || v.1 == 5))) && decide (a.toNat < ls.length) then Z nx (zSt ls a.toNat v) r c h else False
    | [] => False
  | 6 => match st with
    | (1, x) :: r => bif decide (a.toNat + 1 < ls.length) then Z nx (zSt2 ls a.toNat (1, x)) r c h else False
    | _ => False
  | 7 => match ls[a.toNat]? with
    | some (0, x) => Z nx (zSt ls a.toNat (0, w32 (x + b))) st c h
    | _ => False
  | 8 => match st with
    | (0, y) :: (0, x) :: r => match a with
      | 0 => Z nx ls ((0, w32 (x + y)) :: r) c h
      | 1 => Z nx ls ((0, w32 (x - y)) :: r) c h
      | 2 => Z nx ls ((0, w32 (x * y)) :: r) c h
      | 3 => y ≠ 0 ∧ Z nx ls ((0, w32 (x.tdiv y)) :: r) c h
      | 4 => y ≠ 0 ∧ Z nx ls ((0, x.tmod y) :: r) c h
      | 5 => Z nx ls ((0, zAnd x y) :: r) c h
      | 6 => Z nx ls ((0, zOr x y) :: r) c h
      | 7 => Z nx ls ((0, zXor x y) :: r) c h
      | 8 => Z nx ls ((0, zShl x y) :: r) c h
      | 9 => Z nx ls ((0, zShr x y) :: r) c h
      | 10 => Z nx ls ((0, zUsh x y) :: r) c h
      | _ => False
    | _ => False
  | 9 => match st with
    | (1, y) :: (1, x) :: r => match a with
      | 0 => Z nx ls ((1, w64 (x + y)) :: r) c h
      | 1 => Z nx ls ((1, w64 (x - y)) :: r) c h
      | 2 => Z nx ls ((1, w64 (x * y)) :: r) c h
      | 3 => y ≠ 0 ∧ Z nx ls ((1, w64 (x.tdiv y)) :: r) c h
      | 4 => y ≠ 0 ∧ Z nx ls ((1, x.tmod y) :: r) c h
      | _ => False
    | _ => False
  | 10 => match st with
    | (1, y) :: (1, x) :: r => Z nx ls ((0, zCmp x y) :: r) c h
    | _ => False
  | 11 => match st with
    | (0, x) :: r => match a with
      | 0 => Z nx ls ((1, x) :: r) c h
      | 1 => Z nx ls ((0, (x + 128) % 256 - 128) :: r) c h
      | _ => False
    | _ => False
  | 12 => match st with
    | v :: r => bif v.1 == 1 then False else Z nx ls (v :: v :: r) c h
    | _ => False
  | 13 => match st with
    | v :: r => bif v.1 == 1 then False else Z nx ls r c h
    | _ => False
  | 14 => match st with
    | v :: w :: r => bif v.1 == 1 || w.1 == 1 then False else Z nx ls (v :: w :: v :: w :: r) c h
    | _ => False
  | 15 => match st with
    | (0, x) :: r => match a with
      | 0 => (x = 0 → Z b.toNat ls r c h) ∧ (x ≠ 0 → Z nx ls r c h)
      | 1 => (x ≠ 0 → Z b.toNat ls r c h) ∧ (x = 0 → Z nx ls r c h)
      | 2 => (x < 0 → Z b.toNat ls r c h) ∧ (0 ≤ x → Z nx ls r c h)
      | 3 => (0 ≤ x → Z b.toNat ls r c h) ∧ (x < 0 → Z nx ls r c h)
      | 4 => (0 < x → Z b.toNat ls r c h) ∧ (x ≤ 0 → Z nx ls r c h)
      | 5 => (x ≤ 0 → Z b.toNat ls r c h) ∧ (0 < x → Z nx ls r c h)
      | _ => False
    | _ => False
  | 16 => match st with
    | (0, y) :: (0, x) :: r => match a with
      | 0 => (x = y → Z b.toNat ls r c h) ∧ (x ≠ y → Z nx ls r c h)
      | 1 => (x ≠ y → Z b.toNat ls r c h) ∧ (x = y → Z nx ls r c h)
      | 2 => (x < y → Z b.toNat ls r c h) ∧ (y ≤ x → Z nx ls r c h)
      | 3 => (y ≤ x → Z b.toNat ls r c h) ∧ (x < y → Z nx ls r c h)
      | 4 => (y < x → Z b.toNat ls r c h) ∧ (x ≤ y → Z nx ls r c h)
      | 5 => (x ≤ y → Z b.toNat ls r c h) ∧ (y < x → Z nx ls r c h)
      | _ => False
    | _ => False
  | 17 => Z b.toNat ls st c h
  | 18 => match st with
    | (0, x) :: r => Z (zSw μ pc x) ls r c h
    | _ => False
  | 19 => match st with
    | (2, o) :: r => if (zK o).1 = a.toNat then Z nx ls (zGv (zTS c h) o a.toNat b.toNat :: r) c h else False
    | _ => False
  | 20 => match st with
    | v :: (2, o) :: r => if (zK o).1 = a.toNat ∧ zCs a.toNat b.toNat = 0 then (match zTy a.toNat b.toNat with
      | 2 => bif v.1 == 2 then Z nx ls r c (hw h o b v.2) else False
      | 1 => bif v.1 == 0 then (v.2 = 0 ∨ v.2 = 1) ∧ Z nx ls r c (hw h o b v.2) else False
      | _ => bif v.1 == 0 then Z nx ls r c (hw h o b v.2) else False) else False
    | _ => False
  | 21 => match st with
    | (2, o) :: r => if 50 ≤ (zK o).1 ∧ (zK o).1 ≤ 55 then Z nx ls ((0, ((zK o).2 : Int)) :: r) c h else False
    | (4, 0) :: r => Z nx ls ((0, h 0 (-1)) :: r) c h
    | (4, 1) :: r => Z nx ls ((0, 12) :: r) c h
    | _ => False
  | 22 => match st with
    | (0, i) :: (2, o) :: r => if (zK o).1 = a.toNat ∨ a = 51 ∧ (zK o).1 = 52 then (0 ≤ i ∧ i < (zK o).2) ∧ Z nx ls (((if a = 53 then 1 else 0), h o i) :: r) c h else False
    | (0, i) :: (4, 0) :: r => a = 50 ∧ (0 ≤ i ∧ i < h 0 (-1)) ∧ Z nx ls ((0, h 0 i) :: r) c h
    | (0, i) :: (4, 1) :: r => a = 50 ∧ (0 ≤ i ∧ i < 12) ∧ Z nx ls ((0, zMK.getD i.toNat 0) :: r) c h
    | _ => False
  | 23 => match st with
    | v :: (0, i) :: (2, o) :: r => if (zK o).1 = a.toNat ∨ a = 51 ∧ (zK o).1 = 52 then (match (zK o).1 with
      | 50 => bif v.1 == 0 then (0 ≤ i ∧ i < (zK o).2) ∧ Z nx ls r c (hw h o i v.2) else False
      | 51 => bif v.1 == 0 then (0 ≤ i ∧ i < (zK o).2) ∧ (-128 ≤ v.2 ∧ v.2 ≤ 127) ∧ Z nx ls r c (hw h o i v.2) else False
      | 52 => bif v.1 == 0 then (0 ≤ i ∧ i < (zK o).2) ∧ (v.2 = 0 ∨ v.2 = 1) ∧ Z nx ls r c (hw h o i v.2) else False
      | 53 => bif v.1 == 1 then (0 ≤ i ∧ i < (zK o).2) ∧ Z nx ls r c (hw h o i v.2) else False
      | _ => False) else False
    | _ => False
  | 24 => match st with
    | (0, i) :: (2, o) :: r => if (zK o).1 = 54 ∨ (zK o).1 = 55 then (0 ≤ i ∧ i < (zK o).2) ∧ Z nx ls ((2, o + 1 + zStr1 (zK o).1 * i) :: r) c h else False
    | _ => False
  | 31 => Z nx ls ((4, 1) :: st) c h
  | 32 => match d with
    | 0 => False
    | d + 1 => if (zMof a.toNat).2.1 ≤ st.length ∧ (zArgs (st.take (zMof a.toNat).2.1).reverse).length ≤ (zMof a.toNat).2.2.1 ∧ (∀ v ∈ (st.take (zMof a.toNat).2.1).reverse, v.1 ≠ 9) ∧ ((st.drop (zMof a.toNat).2.1).map zcat).sum ≤ 8 then
        (zRecv (zTS c h) a.toNat (st.take (zMof a.toNat).2.1).reverse) ∧ (match (zMof a.toNat).2.2.2.2.1 with
        | 0 => zCv d a.toNat (st.take (zMof a.toNat).2.1).reverse c h (fun c h => Z (pc + 3) ls (st.drop (zMof a.toNat).2.1) c h) (zXt Z μ pc ls Q)
        | 3 => zCj d a.toNat (st.take (zMof a.toNat).2.1).reverse c h (fun y c h => Z (pc + 3) ls ((1, y) :: st.drop (zMof a.toNat).2.1) c h) (zXt Z μ pc ls Q)
        | _ => zCi d a.toNat (st.take (zMof a.toNat).2.1).reverse c h (fun y c h => Z (pc + 3) ls ((0, y) :: st.drop (zMof a.toNat).2.1) c h) (zXt Z μ pc ls Q)) else False
  | 33 => match (zMof μ).2.2.2.2.1, st with
    | 0, [] => Q (.inl [], zTS c h)
    | 1, [(0, x)] => Q (.inl [(0, x)], zTS c h)
    | 2, [(0, x)] => (x = 0 ∨ x = 1) ∧ Q (.inl [(0, x)], zTS c h)
    | 3, [(1, x)] => Q (.inl [(1, x)], zTS c h)
    | _, _ => False
  | 34 => if (zMof μ).2.2.2.2.2 = false ∧ (st.map zcat).sum ≤ 8 then Q (.inr a.toNat, zTS (c + 1) h) else False
  | 35 => match st with
    | (0, y) :: (0, x) :: r => if (r.map zcat).sum ≤ 8 then (match a with
      | 0 => Z nx ls ((0, if x < y then y else x) :: r) c h
      | 1 => Z nx ls ((0, if y < x then y else x) :: r) c h
      | 2 => if (((0, x) :: r).map zcat).sum ≤ 8 then Z nx ls ((0, zAbs y) :: (0, x) :: r) c h else False
      | _ => False) else False
    | (0, y) :: r => if a = 2 ∧ (r.map zcat).sum ≤ 8 then Z nx ls ((0, zAbs y) :: r) c h else False
    | _ => False
  | 36 => match st with
    | (0, n) :: (0, dp) :: (2, dst) :: (0, sp) :: (2, src) :: r => if (zK dst).1 = 50 ∧ (zK src).1 = 50 ∧ (r.map zcat).sum ≤ 8 then (0 ≤ n ∧ 0 ≤ sp ∧ 0 ≤ dp ∧ sp + n ≤ (zK src).2 ∧ dp + n ≤ (zK dst).2) ∧ Z nx ls r c (hcp h src sp dst dp n) else False
    | _ => False
  | 37 => match st with
    | (5, j) :: r => if 0 ≤ j ∧ j.toNat < zStr.length ∧ (r.map zcat).sum ≤ 8 then Z nx ls ((0, ((zStr.getD j.toNat []).length : Int)) :: r) c h else False
    | _ => False
  | 38 => match st with
    | (0, i) :: (5, j) :: r => if 0 ≤ j ∧ j.toNat < zStr.length ∧ (r.map zcat).sum ≤ 8 then (0 ≤ i ∧ i < (zStr.getD j.toNat []).length) ∧ Z nx ls ((0, (zStr.getD j.toNat []).getD i.toNat 0) :: r) c h else False
    | _ => False
  | _ => False
/-- k instructions -/
def zev (d μ : Nat) (Q : zO → Prop) : Nat → zK1
  | 0 => fun pc ls st c h => zWp d μ pc ls st (zTS c h) Q
  | k + 1 => fun pc ls st c h => match zC μ pc with
    | some (op, a, b, len) => zev1 (zev d μ Q k) d μ Q pc op a b (pc + len) ls st c h
    | none => False
