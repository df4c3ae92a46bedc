/-! THE ABSTRACT MACHINE: numbers are integers, an object is its number, the heap is a function -/
abbrev zV : Type := Nat × Int
abbrev zH : Type := Int → Int → Int
/-- whether the making is done, how many objects, how many exceptions, the heap -/
abbrev zS : Type := Bool × Nat × Nat × zH
abbrev zO : Type := (List zV ⊕ Nat) × zS
abbrev zX : Type := Nat → Nat → Nat → List zV → List zV → zS → (zO → Prop) → Prop
def w32 (x : Int) : Int := (x + 2147483648) % 4294967296 - 2147483648
def w64 (x : Int) : Int := (x + 9223372036854775808) % 18446744073709551616 - 9223372036854775808
def hw (h : zH) (o k v : Int) : zH := fun o' k' => if o' = o ∧ k' = k then v else h o' k'
def hz (h : zH) (o : Int) : zH := fun o' k' => if o' = o then 0 else h o' k'
def hcp (h : zH) (src sp dst dp n : Int) : zH := fun o k => if o = dst ∧ dp ≤ k ∧ k < dp + n then h src (sp + (k - dp)) else h o k
def hmu (h : zH) (o N : Int) : zH := fun o' k => if o' = o then (if 0 ≤ k ∧ k < N then o + 1 + k else 0) else if o < o' ∧ o' ≤ o + N then 0 else h o' k
def zr32 (x : Int) : Prop := -2147483648 ≤ x ∧ x ≤ 2147483647
def zr64 (x : Int) : Prop := -9223372036854775808 ≤ x ∧ x ≤ 9223372036854775807
def zAnd (x y : Int) : Int := (Int32.ofInt x &&& Int32.ofInt y).toInt
def zOr (x y : Int) : Int := (Int32.ofInt x ||| Int32.ofInt y).toInt
def zXor (x y : Int) : Int := (Int32.ofInt x ^^^ Int32.ofInt y).toInt
def zShl (x y : Int) : Int := (Int32.ofInt x <<< (Int32.ofInt y &&& 31)).toInt
def zShr (x y : Int) : Int := (Int32.ofInt x >>> (Int32.ofInt y &&& 31)).toInt
def zUsh (x y : Int) : Int := ((Int32.ofInt x).toUInt32 >>> ((Int32.ofInt y).toUInt32 &&& Int32.toUInt32 31)).toInt32.toInt
def zBin (a : Nat) (x y : Int) : Option Int := match a with
  | 0 => some (w32 (x + y))
  | 1 => some (w32 (x - y))
  | 2 => some (w32 (x * y))
  | 3 => if y = 0 then none else some (w32 (x.tdiv y))
  | 4 => if y = 0 then none else some (x.tmod y)
  | 5 => some (zAnd x y)
  | 6 => some (zOr x y)
  | 7 => some (zXor x y)
  | 8 => some (zShl x y)
  | 9 => some (zShr x y)
  | 10 => some (zUsh x y)
  | _ => none
def zBinL (a : Nat) (x y : Int) : Option Int := match a with
  | 0 => some (w64 (x + y))
  | 1 => some (w64 (x - y))
  | 2 => some (w64 (x * y))
  | 3 => if y = 0 then none else some (w64 (x.tdiv y))
  | 4 => if y = 0 then none else some (x.tmod y)
  | _ => none
def zCmp (x y : Int) : Int := if x < y then -1 else if x = y then 0 else 1
def zUn (a : Nat) (x : Int) : Option zV := match a with
  | 0 => some (1, x)
  | 1 => some (0, (x + 128) % 256 - 128)
  | _ => none
def zCond (a : Nat) (x y : Int) : Bool := match a with
  | 0 => x = y
  | 1 => x ≠ y
  | 2 => x < y
  | 3 => y ≤ x
  | 4 => y < x
  | _ => x ≤ y
def zMath (a : Nat) (x y : Int) : Int := match a with
  | 0 => if x < y then y else x
  | _ => if y < x then y else x
def zAbs (x : Int) : Int := if x < 0 then w32 (-x) else x
def zcat (v : zV) : Nat := if v.1 = 1 then 2 else 1
/-- one slot of the locals is stored into: a long that reached into it is gone -/
def zSt (ls : List zV) (i : Nat) (v : zV) : List zV := match i with
  | 0 => ls.set 0 v
  | j + 1 => ((match ls[j]? with | some (1, _) => ls.set j (9, 0) | _ => ls)).set (j + 1) v
def zSt2 (ls : List zV) (i : Nat) (v : zV) : List zV := (zSt ls i v).set (i + 1) (9, 0)
def zArgs : List zV → List zV
  | [] => []
  | v :: r => if v.1 = 1 then v :: (9, 0) :: zArgs r else v :: zArgs r
def zEntry (ν : Nat) (as : List zV) : List zV := zArgs as ++ List.replicate ((zMof ν).2.2.1 - (zArgs as).length) (9, 0)
def zIs (o : Int) (ci : Nat) : Prop := (zK o).1 = ci
/-- a value of the kind that a load or a store is for: 0 an int, 1 a long, 2 a reference -/
def zTok (b : Int) (v : zV) : Prop := match b with
  | 0 => v.1 = 0
  | 1 => v.1 = 1
  | _ => v.1 = 2 ∨ v.1 = 4 ∨ v.1 = 5
def zGv (S : zS) (o : Int) (ci k : Nat) : zV := if zTy ci k = 2 then (2, if S.1 = true ∧ zCs ci k ≠ 0 then o + zCs ci k else S.2.2.2 o k) else (0, S.2.2.2 o k)
def zStr1 (kind : Nat) : Int := if kind = 54 then 1 else 6
def zSet (S : zS) (h : zH) : zS := (S.1, S.2.1, S.2.2.1, h)
/-- all final fields hold what they will -/
def zLay (n : Nat) (h : zH) : Prop := ∀ o : Nat, 1 ≤ o → o ≤ n → ((zK o).1 < 50 → ∀ k, (zCs (zK o).1 k ≠ 0 → h o k = o + zCs (zK o).1 k) ∧ (zTy (zK o).1 k = 2 → h o k ≠ 0)) ∧ ((zK o).1 = 54 ∨ (zK o).1 = 55 → ∀ i : Nat, i < (zK o).2 → h o i = o + 1 + zStr1 (zK o).1 * i)
/-- an instruction that neither calls nor leaves: from (ls, st, S) to (pc', ls', st', S') -/
def zR (op : Nat) (a b : Int) (nx μ pc : Nat) (ls st : List zV) (S : zS) (pc' : Nat) (ls' st' : List zV) (S' : zS) : Prop := match op with
  | 1 => pc' = nx ∧ ls' = ls ∧ st' = (0, a) :: st ∧ S' = S
  | 2 => pc' = nx ∧ ls' = ls ∧ st' = (1, a) :: st ∧ S' = S
  | 3 => pc' = nx ∧ ls' = ls ∧ st' = (5, a) :: st ∧ S' = S
  | 4 => pc' = nx ∧ ls' = ls ∧ S' = S ∧ ∃ v, ls[a.toNat]? = some v ∧ zTok b v ∧ st' = v :: st
  | 5 => pc' = nx ∧ S' = S ∧ ∃ v, st = v :: st' ∧ (b = 0 ∧ v.1 = 0 ∨ b = 2 ∧ (v.1 = 2 ∨ v.1 = 4 ∨ v.1 = 5)) ∧ a.toNat < ls.length ∧ ls' = zSt ls a.toNat v
  | 6 => pc' = nx ∧ S' = S ∧ ∃ x, st = (1, x) :: st' ∧ a.toNat + 1 < ls.length ∧ ls' = zSt2 ls a.toNat (1, x)
  | 7 => pc' = nx ∧ st' = st ∧ S' = S ∧ ∃ x, ls[a.toNat]? = some (0, x) ∧ ls' = zSt ls a.toNat (0, w32 (x + b))
  | 8 => pc' = nx ∧ ls' = ls ∧ S' = S ∧ ∃ x y r c, st = (0, y) :: (0, x) :: r ∧ zBin a.toNat x y = some c ∧ st' = (0, c) :: r
  | 9 => pc' = nx ∧ ls' = ls ∧ S' = S ∧ ∃ x y r c, st = (1, y) :: (1, x) :: r ∧ zBinL a.toNat x y = some c ∧ st' = (1, c) :: r
  | 10 => pc' = nx ∧ ls' = ls ∧ S' = S ∧ ∃ x y r, st = (1, y) :: (1, x) :: r ∧ st' = (0, zCmp x y) :: r
  | 11 => pc' = nx ∧ ls' = ls ∧ S' = S ∧ ∃ x r v, st = (0, x) :: r ∧ zUn a.toNat x = some v ∧ st' = v :: r
  | 12 => pc' = nx ∧ ls' = ls ∧ S' = S ∧ ∃ v r, st = v :: r ∧ v.1 ≠ 1 ∧ st' = v :: v :: r
  | 13 => pc' = nx ∧ ls' = ls ∧ S' = S ∧ ∃ v, st = v :: st' ∧ v.1 ≠ 1
  | 14 => pc' = nx ∧ ls' = ls ∧ S' = S ∧ ∃ v w r, st = v :: w :: r ∧ v.1 ≠ 1 ∧ w.1 ≠ 1 ∧ st' = v :: w :: v :: w :: r
  | 15 => ls' = ls ∧ S' = S ∧ ∃ x, st = (0, x) :: st' ∧ pc' = if zCond a.toNat x 0 then b.toNat else nx
  | 16 => ls' = ls ∧ S' = S ∧ ∃ x y, st = (0, y) :: (0, x) :: st' ∧ pc' = if zCond a.toNat x y then b.toNat else nx
  | 17 => pc' = b.toNat ∧ ls' = ls ∧ st' = st ∧ S' = S
  | 18 => ls' = ls ∧ S' = S ∧ ∃ x, st = (0, x) :: st' ∧ pc' = zSw μ pc x
  | 19 => pc' = nx ∧ ls' = ls ∧ S' = S ∧ ∃ o r, st = (2, o) :: r ∧ zIs o a.toNat ∧ (S.1 = false → zTy a.toNat b.toNat = 2 → S.2.2.2 o b ≠ 0) ∧ st' = zGv S o a.toNat b.toNat :: r
  | 20 => pc' = nx ∧ ls' = ls ∧ ∃ v o, st = v :: (2, o) :: st' ∧ zIs o a.toNat ∧ v.1 = (if zTy a.toNat b.toNat = 2 then 2 else 0) ∧ (zTy a.toNat b.toNat = 1 → v.2 = 0 ∨ v.2 = 1) ∧ (S.1 = true → zCs a.toNat b.toNat = 0) ∧ S' = zSet S (hw S.2.2.2 o b v.2)
  | 21 => pc' = nx ∧ ls' = ls ∧ S' = S ∧ ∃ r, (∃ o, st = (2, o) :: r ∧ 50 ≤ (zK o).1 ∧ (zK o).1 ≤ 55 ∧ st' = (0, ((zK o).2 : Int)) :: r) ∨ (st = (4, 0) :: r ∧ st' = (0, S.2.2.2 0 (-1)) :: r) ∨ (st = (4, 1) :: r ∧ st' = (0, 12) :: r)
  | 22 => pc' = nx ∧ ls' = ls ∧ S' = S ∧ ∃ i r, (∃ o, st = (0, i) :: (2, o) :: r ∧ (zIs o a.toNat ∨ a = 51 ∧ zIs o 52) ∧ 0 ≤ i ∧ i < (zK o).2 ∧ st' = ((if a = 53 then 1 else 0), S.2.2.2 o i) :: r) ∨ (a = 50 ∧ st = (0, i) :: (4, 0) :: r ∧ 0 ≤ i ∧ i < S.2.2.2 0 (-1) ∧ st' = (0, S.2.2.2 0 i) :: r) ∨ (a = 50 ∧ st = (0, i) :: (4, 1) :: r ∧ 0 ≤ i ∧ i < 12 ∧ st' = (0, zMK.getD i.toNat 0) :: r)
  | 23 => pc' = nx ∧ ls' = ls ∧ ∃ v i o, st = v :: (0, i) :: (2, o) :: st' ∧ v.1 = (if a = 53 then 1 else 0) ∧ (zIs o a.toNat ∨ a = 51 ∧ zIs o 52 ∧ (v.2 = 0 ∨ v.2 = 1)) ∧ (zIs o 51 → -128 ≤ v.2 ∧ v.2 ≤ 127) ∧ 0 ≤ i ∧ i < (zK o).2 ∧ S' = zSet S (hw S.2.2.2 o i v.2)
  | 24 => pc' = nx ∧ ls' = ls ∧ S' = S ∧ ∃ i o r, st = (0, i) :: (2, o) :: r ∧ (zIs o 54 ∨ zIs o 55) ∧ 0 ≤ i ∧ i < (zK o).2 ∧ (S.1 = false → S.2.2.2 o i ≠ 0) ∧ st' = (2, if S.1 = true then o + 1 + zStr1 (zK o).1 * i else S.2.2.2 o i) :: r
  | 25 => pc' = nx ∧ ls' = ls ∧ S.1 = false ∧ (zK (S.2.1 + 1)).1 = a.toNat ∧ st' = (2, (S.2.1 : Int) + 1) :: st ∧ S' = (false, S.2.1 + 1, S.2.2.1, hz S.2.2.2 (S.2.1 + 1))
  | 26 => pc' = nx ∧ ls' = ls ∧ S.1 = false ∧ ∃ k r, st = (0, k) :: r ∧ 0 ≤ k ∧ zK (S.2.1 + 1) = (a.toNat, k.toNat) ∧ st' = (2, (S.2.1 : Int) + 1) :: r ∧ S' = (false, S.2.1 + 1, S.2.2.1, hz S.2.2.2 (S.2.1 + 1))
  | 27 => pc' = nx ∧ ls' = ls ∧ S.1 = false ∧ ∃ k r, st = (0, k) :: r ∧ 0 ≤ k ∧ zK (S.2.1 + 1) = (55, k.toNat) ∧ st' = (2, (S.2.1 : Int) + 1) :: r ∧ S' = (false, S.2.1 + 1, S.2.2.1, hz S.2.2.2 (S.2.1 + 1))
  | 28 => pc' = nx ∧ ls' = ls ∧ S.1 = false ∧ ∃ k N r, st = (0, k) :: (0, N) :: r ∧ 0 ≤ k ∧ 0 ≤ N ∧ zK (S.2.1 + 1) = (54, N.toNat) ∧ (∀ i : Nat, i < N.toNat → zK (S.2.1 + 2 + i) = (50, k.toNat)) ∧ st' = (2, (S.2.1 : Int) + 1) :: r ∧ S' = (false, S.2.1 + 1 + N.toNat, S.2.2.1, hmu S.2.2.2 (S.2.1 + 1) N)
  | 29 => pc' = nx ∧ ls' = ls ∧ S.1 = false ∧ ∃ v i o, st = (2, v) :: (0, i) :: (2, o) :: st' ∧ zIs o 55 ∧ zIs v 4 ∧ 0 ≤ i ∧ i < (zK o).2 ∧ S' = zSet S (hw S.2.2.2 o i v)
  | 30 => pc' = nx ∧ ls' = ls ∧ S' = S ∧ ∃ o, st = (2, o) :: st' ∧ (st'.map zcat).sum ≤ 8
  | 31 => pc' = nx ∧ ls' = ls ∧ st' = (4, 1) :: st ∧ S' = S
  | 35 => pc' = nx ∧ ls' = ls ∧ S' = S ∧ ∃ r, (a ≠ 2 ∧ ∃ x y, st = (0, y) :: (0, x) :: r ∧ st' = (0, zMath a.toNat x y) :: r ∧ (r.map zcat).sum ≤ 8) ∨ (a = 2 ∧ ∃ x, st = (0, x) :: r ∧ st' = (0, zAbs x) :: r ∧ (r.map zcat).sum ≤ 8)
  | 36 => pc' = nx ∧ ls' = ls ∧ ∃ n dp dst sp src, st = (0, n) :: (0, dp) :: (2, dst) :: (0, sp) :: (2, src) :: st' ∧ zIs dst 50 ∧ zIs src 50 ∧ 0 ≤ n ∧ 0 ≤ sp ∧ 0 ≤ dp ∧ sp + n ≤ (zK src).2 ∧ dp + n ≤ (zK dst).2 ∧ (st'.map zcat).sum ≤ 8 ∧ S' = zSet S (hcp S.2.2.2 src sp dst dp n)
  | 37 => pc' = nx ∧ ls' = ls ∧ S' = S ∧ ∃ j r, st = (5, j) :: r ∧ 0 ≤ j ∧ j.toNat < zStr.length ∧ (r.map zcat).sum ≤ 8 ∧ st' = (0, ((zStr.getD j.toNat []).length : Int)) :: r
  | 38 => pc' = nx ∧ ls' = ls ∧ S' = S ∧ ∃ i j r, st = (0, i) :: (5, j) :: r ∧ 0 ≤ j ∧ j.toNat < zStr.length ∧ 0 ≤ i ∧ i < (zStr.getD j.toNat []).length ∧ (r.map zcat).sum ≤ 8 ∧ st' = (0, (zStr.getD j.toNat []).getD i.toNat 0) :: r
  | _ => False
/-- what a callee's end leads to -/
def zAft (X : zX) (d μ pc : Nat) (ls rest : List zV) (Q : zO → Prop) (r : zO) : Prop := match r.1 with
  | .inl vs => X d μ (pc + 3) ls (vs ++ rest) r.2 Q
  | .inr E => match zHd μ pc E with
    | some (p', k) => (∃ v, ls[k]? = some v ∧ v.1 = 9) ∧ (∀ j v, k = j + 1 → ls[j]? = some v → v.1 ≠ 1) ∧ X d μ p' ls [] r.2 Q
    | none => (zMof μ).2.2.2.2.2 = false ∧ Q (.inr E, r.2)
def zRecv (S : zS) (ν : Nat) (as : List zV) : Prop := (zMof ν).2.2.2.1 = true ∨ ∃ o t, as = (2, o) :: t ∧ zIs o (zMof ν).1
def zRetOk (c : Nat) (vs : List zV) : Prop := match c with
  | 0 => vs = []
  | 1 => ∃ x, vs = [(0, x)]
  | 2 => ∃ x, vs = [(0, x)] ∧ (x = 0 ∨ x = 1)
  | _ => ∃ x, vs = [(1, x)]
def zF (X : zX) : zX := fun d μ pc ls st S Q =>
  (∃ op a b len pc' ls' st' S', zC μ pc = some (op, a, b, len) ∧ zR op a b (pc + len) μ pc ls st S pc' ls' st' S' ∧ X d μ pc' ls' st' S' Q) ∨
  (∃ a b len, zC μ pc = some (33, a, b, len) ∧ zRetOk (zMof μ).2.2.2.2.1 st ∧ Q (.inl st, S)) ∨
  (∃ a b len, zC μ pc = some (34, a, b, len) ∧ (zMof μ).2.2.2.2.2 = false ∧ S.1 = true ∧ (st.map zcat).sum ≤ 8 ∧ Q (.inr a.toNat, (S.1, S.2.1, S.2.2.1 + 1, S.2.2.2))) ∨
  (∃ a b len d' as rest, zC μ pc = some (32, a, b, len) ∧ d = d' + 1 ∧ st = as.reverse ++ rest ∧ as.length = (zMof a.toNat).2.1 ∧ (zArgs as).length ≤ (zMof a.toNat).2.2.1 ∧ (∀ v ∈ as, v.1 ≠ 9) ∧ (rest.map zcat).sum ≤ 8 ∧ zRecv S a.toNat as ∧
    X d' a.toNat 0 (zEntry a.toNat as) [] S (zAft X d μ pc ls rest Q)) ∨
  (S.1 = false ∧ zLay S.2.1 S.2.2.2 ∧ X d μ pc ls st (true, S.2) Q)
def zMono (X : zX) : Prop := ∀ d μ pc ls st S (Q Q' : zO → Prop), (∀ r, Q r → Q' r) → X d μ pc ls st S Q → X d μ pc ls st S Q'
def zClosed (X : zX) : Prop := ∀ d μ pc ls st S Q, zF X d μ pc ls st S Q → X d μ pc ls st S Q
/-- from this place the machine comes to an end with Q: the least predicate that the rules close -/
def zWp : zX := fun d μ pc ls st S Q => ∀ X : zX, zMono X → zClosed X → X d μ pc ls st S Q
theorem zAft_mono {X Y : zX} (hXY : ∀ d μ pc ls st S Q, X d μ pc ls st S Q → Y d μ pc ls st S Q) {d μ pc : Nat} {ls rest : List zV} {Q : zO → Prop} (r : zO) (h : zAft X d μ pc ls rest Q r) : zAft Y d μ pc ls rest Q r := by
  unfold zAft at h ⊢
  split
  · rename_i vs e
    rw [e] at h
    exact hXY _ _ _ _ _ _ _ h
  · rename_i E e
    rw [e] at h
    dsimp only at h ⊢
    split
    · rename_i p' k e2
      rw [e2] at h
      exact ⟨h.1, h.2.1, hXY _ _ _ _ _ _ _ h.2.2⟩
    · rename_i e2
      rw [e2] at h
      exact h
theorem zAft_post {X : zX} (hX : zMono X) {d μ pc : Nat} {ls rest : List zV} {Q Q' : zO → Prop} (hQ : ∀ r, Q r → Q' r) (r : zO) (h : zAft X d μ pc ls rest Q r) : zAft X d μ pc ls rest Q' r := by
  unfold zAft at h ⊢
  split
  · rename_i vs e
    rw [e] at h
    exact hX _ _ _ _ _ _ _ _ hQ h
  · rename_i E e
    rw [e] at h
    dsimp only at h ⊢
    split
    · rename_i p' k e2
      rw [e2] at h
      exact ⟨h.1, h.2.1, hX _ _ _ _ _ _ _ _ hQ h.2.2⟩
    · rename_i e2
      rw [e2] at h
      exact ⟨h.1, hQ _ h.2⟩
theorem zF_mono {X Y : zX} (hY : zMono Y) (hXY : ∀ d μ pc ls st S Q, X d μ pc ls st S Q → Y d μ pc ls st S Q) {d μ pc : Nat} {ls st : List zV} {S : zS} {Q : zO → Prop} (h : zF X d μ pc ls st S Q) : zF Y d μ pc ls st S Q := by
  rcases h with ⟨op, a, b, len, pc', ls', st', S', h1, h2, h3⟩ | h | h | ⟨a, b, len, d', as, rest, h1, h2, h3, h4, h5, h6, h7, h8, h9⟩ | ⟨h1, h2, h3⟩
  · exact Or.inl ⟨op, a, b, len, pc', ls', st', S', h1, h2, hXY _ _ _ _ _ _ _ h3⟩
  · exact Or.inr (Or.inl h)
  · exact Or.inr (Or.inr (Or.inl h))
  · exact Or.inr (Or.inr (Or.inr (Or.inl ⟨a, b, len, d', as, rest, h1, h2, h3, h4, h5, h6, h7, h8, hY _ _ _ _ _ _ _ _ (fun r hr => zAft_mono hXY r hr) (hXY _ _ _ _ _ _ _ h9)⟩)))
  · exact Or.inr (Or.inr (Or.inr (Or.inr ⟨h1, h2, hXY _ _ _ _ _ _ _ h3⟩)))
theorem zF_post {X : zX} (hX : zMono X) {d μ pc : Nat} {ls st : List zV} {S : zS} {Q Q' : zO → Prop} (hQ : ∀ r, Q r → Q' r) (h : zF X d μ pc ls st S Q) : zF X d μ pc ls st S Q' := by
  rcases h with ⟨op, a, b, len, pc', ls', st', S', h1, h2, h3⟩ | ⟨a, b, len, h1, h2, h3⟩ | ⟨a, b, len, h1, h2, h3, h4, h5⟩ | ⟨a, b, len, d', as, rest, h1, h2, h3, h4, h5, h6, h7, h8, h9⟩ | ⟨h1, h2, h3⟩
  · exact Or.inl ⟨op, a, b, len, pc', ls', st', S', h1, h2, hX _ _ _ _ _ _ _ _ hQ h3⟩
  · exact Or.inr (Or.inl ⟨a, b, len, h1, h2, hQ _ h3⟩)
  · exact Or.inr (Or.inr (Or.inl ⟨a, b, len, h1, h2, h3, h4, hQ _ h5⟩))
  · exact Or.inr (Or.inr (Or.inr (Or.inl ⟨a, b, len, d', as, rest, h1, h2, h3, h4, h5, h6, h7, h8, hX _ _ _ _ _ _ _ _ (fun r hr => zAft_post hX hQ r hr) h9⟩)))
  · exact Or.inr (Or.inr (Or.inr (Or.inr ⟨h1, h2, hX _ _ _ _ _ _ _ _ hQ h3⟩)))
theorem zWp_mono : zMono zWp := fun _ _ _ _ _ _ _ _ hQ h X hX hC => hX _ _ _ _ _ _ _ _ hQ (h X hX hC)
/-- the rules hold of it -/
theorem zWp_closed : zClosed zWp := fun _ _ _ _ _ _ _ h X hX hC => hC _ _ _ _ _ _ _ (zF_mono hX (fun _ _ _ _ _ _ _ k => k X hX hC) h)
/-- it is the least -/
theorem zWp_least {X : zX} (hX : zMono X) (hC : zClosed X) {d μ pc : Nat} {ls st : List zV} {S : zS} {Q : zO → Prop} (h : zWp d μ pc ls st S Q) : X d μ pc ls st S Q := h X hX hC
