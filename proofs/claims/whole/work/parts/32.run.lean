/-! a block of a method unrolled: calls and ends in one form, stops, known values of the changing references -/
def zVal (κ : Nat) (y : Int) : List zV := match κ with
  | 0 => []
  | 3 => [(1, y)]
  | _ => [(0, y)]
/-- how a method of return kind κ ends: R with its value (0 where there is none), or X with the exception -/
def zQ (κ : Nat) (R : Int → Nat → zH → Prop) (X : Nat → Nat → zH → Prop) (r : zO) : Prop := (∃ y c h, r = (.inl (zVal κ y), zTS c h) ∧ R y c h) ∨ ∃ E c h, r = (.inr E, zTS c h) ∧ X E c h
def zCl (d ν : Nat) (as : List zV) (c : Nat) (h : zH) (R : Int → Nat → zH → Prop) (X : Nat → Nat → zH → Prop) : Prop := zWp d ν 0 (zEntry ν as) [] (zTS c h) (zQ (zMof ν).2.2.2.2.1 R X)
theorem zQ_mono {κ : Nat} {R R' : Int → Nat → zH → Prop} {X X' : Nat → Nat → zH → Prop} (hR : ∀ y c h, R y c h → R' y c h) (hX : ∀ E c h, X E c h → X' E c h) (r : zO) (h : zQ κ R X r) : zQ κ R' X' r := by
  rcases h with ⟨y, c, h, e, k⟩ | ⟨E, c, h, e, k⟩
  · exact Or.inl ⟨y, c, h, e, hR _ _ _ k⟩
  · exact Or.inr ⟨E, c, h, e, hX _ _ _ k⟩
theorem zCl_mono {d ν : Nat} {as : List zV} {c : Nat} {h : zH} {R R' : Int → Nat → zH → Prop} {X X' : Nat → Nat → zH → Prop} (hR : ∀ y c h, R y c h → R' y c h) (hX : ∀ E c h, X E c h → X' E c h) (hw : zCl d ν as c h R X) : zCl d ν as c h R' X' :=
  zWp_mono _ _ _ _ _ _ _ _ (fun r q => zQ_mono hR hX r q) hw
def zSwP : List (Int × Nat) → Nat → Int → (Nat → Prop) → Prop
  | [], d, _, K => K d
  | (v, t) :: l, d, x, K => (x = v → K t) ∧ (x ≠ v → zSwP l d x K)
theorem zSwP_ok {K : Nat → Prop} {d : Nat} {x : Int} : ∀ {l : List (Int × Nat)}, zSwP l d x K → K ((l.lookup x).getD d) := by
  intro l
  induction l with
  | nil => exact fun h => h
  | cons e l ih =>
    obtain ⟨v, t⟩ := e
    intro h
    by_cases e : x = v
    · subst e
      rw [List.lookup_cons_self]
      exact h.1 rfl
    · rw [List.lookup_cons, show (x == v) = false by simpa using e]
      exact ih (h.2 e)
def zNhB (μ : Nat) : Bool := zHdL.all (fun e => e.1.1 != μ) && (zMof μ).2.2.2.2.2 == false
theorem zNhB_ok {μ : Nat} (hn : zNhB μ = true) (pc E : Nat) : zHd μ pc E = none ∧ (zMof μ).2.2.2.2.2 = false := by
  unfold zNhB at hn
  rw [Bool.and_eq_true] at hn
  refine ⟨?_, by simpa using hn.2⟩
  unfold zHd
  have := hn.1
  generalize zHdL = l at this
  induction l with
  | nil => rfl
  | cons e l ih =>
    obtain ⟨⟨a, b, c⟩, v⟩ := e
    rw [List.all_cons, Bool.and_eq_true] at this
    rw [List.lookup_cons, show ((μ, pc, E) == (a, b, c)) = false by
      have t := this.1
      simp at t ⊢
      intro q
      exact absurd q.symm t]
    exact ih this.2
def zCallB (n m : Nat) (st : List zV) : Bool := Nat.ble n st.length && Nat.ble (zArgs (st.take n).reverse).length m && (st.take n).all (fun v => v.1 != 9) && Nat.ble ((st.drop n).map zcat).sum 8
theorem zCallB_ok {n m : Nat} {st : List zV} (h : zCallB n m st = true) : n ≤ st.length ∧ (zArgs (st.take n).reverse).length ≤ m ∧ (∀ v ∈ (st.take n).reverse, v.1 ≠ 9) ∧ ((st.drop n).map zcat).sum ≤ 8 := by
  unfold zCallB at h
  rw [Bool.and_eq_true, Bool.and_eq_true, Bool.and_eq_true] at h
  refine ⟨by simpa using h.1.1.1, Nat.le_of_ble_eq_true h.1.1.2, ?_, Nat.le_of_ble_eq_true h.2⟩
  intro v hv
  have := List.all_eq_true.mp h.1.2 v (by simpa using hv)
  simpa using this
def zeu1 (Z : zK1) (d μ κ : Nat) (R : Int → Nat → zH → Prop) (X : Nat → Nat → zH → Prop) (nh : Bool) (om : List (Nat × Int)) (pc op : Nat) (a b : Int) (nx : Nat) (ls st : List zV) (c : Nat) (h : zH) : Prop := match op with
  | 18 => match st with
    | (0, x) :: r => match zSwL.lookup (μ, pc) with
      | some (l, dd) => zSwP l dd x (fun p => Z p ls r c h)
      | none => False
    | _ => False
  | 19 => match st with
    | (2, o) :: r => (zK o).1 = a.toNat ∧ (bif decide (0 ≤ b) then (match zTy a.toNat b.toNat with
      | 2 => bif zCs a.toNat b.toNat == 0 then (match om.lookup pc with
        | some v => h o b = v ∧ Z nx ls ((2, v) :: r) c h
        | none => False) else Z nx ls ((2, o + zCs a.toNat b.toNat) :: r) c h
      | _ => Z nx ls ((0, h o b) :: r) c h) else False)
    | _ => False
  | 20 => match st with
    | v :: (2, o) :: r => (zK o).1 = a.toNat ∧ (bif zCs a.toNat b.toNat == 0 then (match zTy a.toNat b.toNat with
      | 2 => bif v.1 == 2 then Z nx ls r c (hw h o b v.2) else False
      | 1 => bif v.1 == 0 then (v.2 = 0 ∨ v.2 = 1) ∧ Z nx ls r c (hw h o b v.2) else False
      | _ => bif v.1 == 0 then Z nx ls r c (hw h o b v.2) else False) else False)
    | _ => False
  | 21 => match st with
    | (2, o) :: r => (50 ≤ (zK o).1 ∧ (zK o).1 ≤ 55) ∧ (match om.lookup pc with
      | some n => ((zK o).2 : Int) = n ∧ Z nx ls ((0, n) :: r) c h
      | none => Z nx ls ((0, ((zK o).2 : Int)) :: r) c h)
    | (4, 0) :: r => Z nx ls ((0, h 0 (-1)) :: r) c h
    | (4, 1) :: r => Z nx ls ((0, 12) :: r) c h
    | _ => False
  | 22 => match st with
    | (0, i) :: (2, o) :: r => ((zK o).1 = a.toNat ∨ a = 51 ∧ (zK o).1 = 52) ∧ (match om.lookup pc with
      | some n => ((zK o).2 : Int) = n ∧ (0 ≤ i ∧ i < n) ∧ Z nx ls ((bif a == 53 then 1 else 0, h o i) :: r) c h
      | none => False)
    | (0, i) :: (4, 0) :: r => (0 ≤ i ∧ i < h 0 (-1)) ∧ (bif a == 50 then Z nx ls ((0, h 0 i) :: r) c h else False)
    | (0, i) :: (4, 1) :: r => (0 ≤ i ∧ i < 12) ∧ (bif a == 50 then Z nx ls ((0, zMK.getD i.toNat 0) :: r) c h else False)
    | _ => False
  | 23 => match st with
    | v :: (0, i) :: (2, o) :: r => match a with
      | 50 => bif v.1 == 0 then (zK o).1 = 50 ∧ (match om.lookup pc with
        | some n => ((zK o).2 : Int) = n ∧ (0 ≤ i ∧ i < n) ∧ Z nx ls r c (hw h o i v.2)
        | none => False) else False
      | 51 => match om.lookup pc with
        | some n => ((zK o).2 : Int) = n ∧ (0 ≤ i ∧ i < n) ∧ (bif v.1 == 0 then (match (zK o).1 with
          | 51 => (-128 ≤ v.2 ∧ v.2 ≤ 127) ∧ Z nx ls r c (hw h o i v.2)
          | 52 => (v.2 = 0 ∨ v.2 = 1) ∧ Z nx ls r c (hw h o i v.2)
          | _ => False) else False)
        | none => False
      | 53 => bif v.1 == 1 then (zK o).1 = 53 ∧ (match om.lookup pc with
        | some n => ((zK o).2 : Int) = n ∧ (0 ≤ i ∧ i < n) ∧ Z nx ls r c (hw h o i v.2)
        | none => False) else False
      | _ => False
    | _ => False
  | 24 => match st with
    | (0, i) :: (2, o) :: r => match om.lookup pc with
      | some v => ((zK o).1 = 54 ∨ (zK o).1 = 55) ∧ (0 ≤ i ∧ i < (zK o).2) ∧ v = o + 1 + zStr1 (zK o).1 * i ∧ Z nx ls ((2, v) :: r) c h
      | none => False
    | _ => False
  | 32 => match d with
    | 0 => False
    | d + 1 => bif zCallB (zMof a.toNat).2.1 (zMof a.toNat).2.2.1 st then
        (zRecv (zTS c h) a.toNat (st.take (zMof a.toNat).2.1).reverse) ∧ zCl d a.toNat (st.take (zMof a.toNat).2.1).reverse c h (fun y c h => Z (pc + 3) ls (zVal (zMof a.toNat).2.2.2.2.1 y ++ st.drop (zMof a.toNat).2.1) c h) (bif nh then X else zXt Z μ pc ls (zQ κ R X)) else False
  | 33 => match κ, st with
    | 0, [] => R 0 c h
    | 1, [(0, x)] => R x c h
    | 2, [(0, x)] => (x = 0 ∨ x = 1) ∧ R x c h
    | 3, [(1, x)] => R x c h
    | _, _ => False
  | 34 => bif (zMof μ).2.2.2.2.2 == false && Nat.ble (st.map zcat).sum 8 then X a.toNat (c + 1) h else False
  | 35 => match a with
    | 0 => match st with
      | (0, y) :: (0, x) :: r => bif Nat.ble (r.map zcat).sum 8 then Z nx ls ((0, if x < y then y else x) :: r) c h else False
      | _ => False
    | 1 => match st with
      | (0, y) :: (0, x) :: r => bif Nat.ble (r.map zcat).sum 8 then Z nx ls ((0, if y < x then y else x) :: r) c h else False
      | _ => False
    | 2 => match st with
      | (0, y) :: r => bif Nat.ble (r.map zcat).sum 8 then Z nx ls ((0, zAbs y) :: r) c h else False
      | _ => False
    | _ => False
  | 36 => match st with
    | (0, n) :: (0, dp) :: (2, dst) :: (0, sp) :: (2, src) :: r => ((zK dst).1 = 50 ∧ (zK src).1 = 50) ∧ (0 ≤ n ∧ 0 ≤ sp ∧ 0 ≤ dp ∧ sp + n ≤ (zK src).2 ∧ dp + n ≤ (zK dst).2) ∧ (bif Nat.ble (r.map zcat).sum 8 then Z nx ls r c (hcp h src sp dst dp n) else False)
    | _ => False
  | 37 => match st with
    | (5, j) :: r => (0 ≤ j ∧ j.toNat < zStr.length) ∧ (bif Nat.ble (r.map zcat).sum 8 then Z nx ls ((0, ((zStr.getD j.toNat []).length : Int)) :: r) c h else False)
    | _ => False
  | 38 => match st with
    | (0, i) :: (5, j) :: r => (0 ≤ j ∧ j.toNat < zStr.length) ∧ (0 ≤ i ∧ i < (zStr.getD j.toNat []).length) ∧ (bif Nat.ble (r.map zcat).sum 8 then Z nx ls ((0, (zStr.getD j.toNat []).getD i.toNat 0) :: r) c h else False)
    | _ => False
  | op => zev1 Z d μ (zQ κ R X) pc op a b nx ls st c h
theorem zbif {b : Bool} {P : Prop} (h : bif b then P else False) : b = true ∧ P := by
  cases b with
  | true => exact ⟨rfl, h⟩
  | false => exact absurd h id
set_option maxHeartbeats 4000000 in
theorem zeu1_ok {Z : zK1} {d μ κ : Nat} {R : Int → Nat → zH → Prop} {X : Nat → Nat → zH → Prop} {nh : Bool} {om : List (Nat × Int)} (hκ : (zMof μ).2.2.2.2.1 = κ) (hn : nh = true → zNhB μ = true) (hZ : ∀ pc ls st c h, Z pc ls st c h → zWp d μ pc ls st (zTS c h) (zQ κ R X)) {pc op : Nat} {a b : Int} {len : Nat} {ls st : List zV} {c : Nat} {h : zH} (hC : zC μ pc = some (op, a, b, len)) (hv : zeu1 Z d μ κ R X nh om pc op a b (pc + len) ls st c h) : zWp d μ pc ls st (zTS c h) (zQ κ R X) := by
  unfold zeu1 at hv
  split at hv
  · -- 18
    split at hv
    · rename_i x r
      split at hv
      · rename_i l dd e
        exact zWp_step hC ⟨rfl, rfl, x, rfl, rfl⟩ (by unfold zSw; rw [e]; exact hZ _ _ _ _ _ (zSwP_ok (K := fun p => Z p ls r c h) hv))
      · exact absurd hv id
    · exact absurd hv id
  · -- 19
    split at hv
    · rename_i o r
      obtain ⟨hb', hv⟩ := hv
      obtain ⟨hb0, hv⟩ := zbif hv
      have hbb : ((b.toNat : Nat) : Int) = b := by
        have : 0 ≤ b := by simpa using hb0
        omega
      split at hv
      · rename_i ty
        cases hc : (zCs a.toNat b.toNat == 0) with
        | true =>
          rw [hc] at hv
          have hc' : zCs a.toNat b.toNat = 0 := by simpa using hc
          simp only [cond_true] at hv
          split at hv
          · rename_i v e
            refine zWp_step hC ⟨rfl, rfl, rfl, o, r, rfl, hb', (fun q => absurd q (by simp)), rfl⟩ (hZ _ _ _ _ _ ?_)
            unfold zGv
            rw [if_pos ty, if_neg (by simp [hc']), hbb]
            rw [show (zTS c h).2.2.2 o b = v from hv.1]
            exact hv.2
          · exact absurd hv id
        | false =>
          rw [hc] at hv
          have hc' : zCs a.toNat b.toNat ≠ 0 := by simpa using hc
          refine zWp_step hC ⟨rfl, rfl, rfl, o, r, rfl, hb', (fun q => absurd q (by simp)), rfl⟩ (hZ _ _ _ _ _ ?_)
          unfold zGv
          rw [if_pos ty, if_pos ⟨rfl, hc'⟩]
          exact hv
      · rename_i ty
        refine zWp_step hC ⟨rfl, rfl, rfl, o, r, rfl, hb', (fun q => absurd q (by simp)), rfl⟩ (hZ _ _ _ _ _ ?_)
        unfold zGv
        rw [if_neg (fun q => ty q), hbb]
        exact hv
    · exact absurd hv id
  · -- 20
    split at hv
    · rename_i v o r
      obtain ⟨e1, hv⟩ := hv
      obtain ⟨e2, hv⟩ := zbif hv
      have e2 : zCs a.toNat b.toNat = 0 := by simpa using e2
      split at hv
      · rename_i ty
        obtain ⟨hb, hv⟩ := zbif hv
        exact zWp_step hC ⟨rfl, rfl, v, o, rfl, e1, (by rw [if_pos ty]; simpa using hb), (fun q => by omega), (fun _ => e2), rfl⟩ (hZ _ _ _ _ _ hv)
      · rename_i ty
        obtain ⟨hb, hv⟩ := zbif hv
        exact zWp_step hC ⟨rfl, rfl, v, o, rfl, e1, (by rw [if_neg (by omega)]; simpa using hb), (fun q => hv.1), (fun _ => e2), rfl⟩ (hZ _ _ _ _ _ hv.2)
      · rename_i t1 t2
        obtain ⟨hb, hv⟩ := zbif hv
        exact zWp_step hC ⟨rfl, rfl, v, o, rfl, e1, (by rw [if_neg (fun q => t1 q)]; simpa using hb), (fun q => absurd q (fun q => t2 q)), (fun _ => e2), rfl⟩ (hZ _ _ _ _ _ hv)
    · exact absurd hv id
  · -- 21
    split at hv
    · rename_i o r
      obtain ⟨e, hv⟩ := hv
      split at hv
      · rename_i n _
        exact zWp_step hC ⟨rfl, rfl, rfl, r, Or.inl ⟨o, rfl, e.1, e.2, rfl⟩⟩ (hZ _ _ _ _ _ (by rw [hv.1]; exact hv.2))
      · exact zWp_step hC ⟨rfl, rfl, rfl, r, Or.inl ⟨o, rfl, e.1, e.2, rfl⟩⟩ (hZ _ _ _ _ _ hv)
    · rename_i r
      exact zWp_step hC ⟨rfl, rfl, rfl, r, Or.inr (Or.inl ⟨rfl, rfl⟩)⟩ (hZ _ _ _ _ _ hv)
    · rename_i r
      exact zWp_step hC ⟨rfl, rfl, rfl, r, Or.inr (Or.inr ⟨rfl, rfl⟩)⟩ (hZ _ _ _ _ _ hv)
    · exact absurd hv id
  · -- 22
    split at hv
    · rename_i i o r
      obtain ⟨e, hv⟩ := hv
      split at hv
      · rename_i n _
        obtain ⟨en, hi, hv⟩ := hv
        refine zWp_step hC ⟨rfl, rfl, rfl, i, r, Or.inl ⟨o, rfl, e, hi.1, (by rw [en]; exact hi.2), rfl⟩⟩ (hZ _ _ _ _ _ ?_)
        by_cases q : a = 53
        · rw [show (a == 53) = true by simpa using q] at hv
          rw [if_pos q]
          exact hv
        · rw [show (a == 53) = false by simpa using q] at hv
          rw [if_neg q]
          exact hv
      · exact absurd hv id
    · rename_i i r
      obtain ⟨q, k⟩ := zbif hv.2
      exact zWp_step hC ⟨rfl, rfl, rfl, i, r, Or.inr (Or.inl ⟨by simpa using q, rfl, hv.1.1, hv.1.2, rfl⟩)⟩ (hZ _ _ _ _ _ k)
    · rename_i i r
      obtain ⟨q, k⟩ := zbif hv.2
      exact zWp_step hC ⟨rfl, rfl, rfl, i, r, Or.inr (Or.inr ⟨by simpa using q, rfl, hv.1.1, hv.1.2, rfl⟩)⟩ (hZ _ _ _ _ _ k)
    · exact absurd hv id
  · -- 23
    split at hv
    · rename_i v i o r
      split at hv
      · obtain ⟨hb, t, hv⟩ := zbif hv
        split at hv
        · rename_i n _
          obtain ⟨en, hi, hv⟩ := hv
          exact zWp_step hC ⟨rfl, rfl, v, i, o, rfl, (by simpa using hb), Or.inl t, (fun q => absurd (show (zK o).1 = 51 from q) (by omega)), hi.1, (by rw [en]; exact hi.2), rfl⟩ (hZ _ _ _ _ _ hv)
        · exact absurd hv id
      · split at hv
        · rename_i n _
          obtain ⟨en, hi, hv⟩ := hv
          obtain ⟨hb, hv⟩ := zbif hv
          split at hv
          · rename_i t
            exact zWp_step hC ⟨rfl, rfl, v, i, o, rfl, (by simpa using hb), Or.inl t, (fun q => hv.1), hi.1, (by rw [en]; exact hi.2), rfl⟩ (hZ _ _ _ _ _ hv.2)
          · rename_i t
            exact zWp_step hC ⟨rfl, rfl, v, i, o, rfl, (by simpa using hb), Or.inr ⟨rfl, t, hv.1⟩, (fun q => absurd (show (zK o).1 = 51 from q) (by omega)), hi.1, (by rw [en]; exact hi.2), rfl⟩ (hZ _ _ _ _ _ hv.2)
          · exact absurd hv id
        · exact absurd hv id
      · obtain ⟨hb, t, hv⟩ := zbif hv
        split at hv
        · rename_i n _
          obtain ⟨en, hi, hv⟩ := hv
          exact zWp_step hC ⟨rfl, rfl, v, i, o, rfl, (by simpa using hb), Or.inl t, (fun q => absurd (show (zK o).1 = 51 from q) (by omega)), hi.1, (by rw [en]; exact hi.2), rfl⟩ (hZ _ _ _ _ _ hv)
        · exact absurd hv id
      · exact absurd hv id
    · exact absurd hv id
  · -- 24
    split at hv
    · rename_i i o r
      split at hv
      · rename_i v _
        obtain ⟨e, hi, ev, hv⟩ := hv
        refine zWp_step hC ⟨rfl, rfl, rfl, i, o, r, rfl, e, hi.1, hi.2, (fun q => absurd q (by simp)), rfl⟩ (hZ _ _ _ _ _ ?_)
        rw [if_pos rfl, ← ev]
        exact hv
      · exact absurd hv id
    · exact absurd hv id
  · -- 32
    split at hv
    · exact absurd hv id
    · rename_i d
      obtain ⟨hb, hv⟩ := zbif hv
      refine zCall_ok hZ hC rfl (zCallB_ok hb) hv.1 ?_
      refine zWp_mono _ _ _ _ _ _ _ _ (fun r q => ?_) hv.2
      rcases q with ⟨y, c, h, e, k⟩ | ⟨E, c, h, e, k⟩
      · subst e
        exact hZ _ _ _ _ _ k
      · subst e
        cases nh with
        | false => exact zXt_ok hZ k
        | true =>
          have k' : X E c h := k
          have := zNhB_ok (hn rfl) pc E
          unfold zAft
          dsimp only
          rw [this.1]
          exact ⟨this.2, Or.inr ⟨E, c, h, rfl, k'⟩⟩
  · -- 33
    split at hv
    · exact zWp_closed _ _ _ _ _ _ _ (Or.inr (Or.inl ⟨a, b, len, hC, by rw [hκ]; rfl, Or.inl ⟨0, c, h, rfl, hv⟩⟩))
    · exact zWp_closed _ _ _ _ _ _ _ (Or.inr (Or.inl ⟨a, b, len, hC, by rw [hκ]; exact ⟨_, rfl⟩, Or.inl ⟨_, c, h, rfl, hv⟩⟩))
    · exact zWp_closed _ _ _ _ _ _ _ (Or.inr (Or.inl ⟨a, b, len, hC, by rw [hκ]; exact ⟨_, rfl, hv.1⟩, Or.inl ⟨_, c, h, rfl, hv.2⟩⟩))
    · exact zWp_closed _ _ _ _ _ _ _ (Or.inr (Or.inl ⟨a, b, len, hC, by rw [hκ]; exact ⟨_, rfl⟩, Or.inl ⟨_, c, h, rfl, hv⟩⟩))
    · exact absurd hv id
  · -- 34
    obtain ⟨hb, hv⟩ := zbif hv
    rw [Bool.and_eq_true] at hb
    exact zWp_closed _ _ _ _ _ _ _ (Or.inr (Or.inr (Or.inl ⟨a, b, len, hC, by simpa using hb.1, rfl, Nat.le_of_ble_eq_true hb.2, Or.inr ⟨_, _, _, rfl, hv⟩⟩)))
  · -- 35
    split at hv
    · split at hv
      · rename_i y x r
        obtain ⟨hb, hv⟩ := zbif hv
        exact zWp_step hC ⟨rfl, rfl, rfl, r, Or.inl ⟨by decide, x, y, rfl, rfl, Nat.le_of_ble_eq_true hb⟩⟩ (hZ _ _ _ _ _ hv)
      · exact absurd hv id
    · split at hv
      · rename_i y x r
        obtain ⟨hb, hv⟩ := zbif hv
        exact zWp_step hC ⟨rfl, rfl, rfl, r, Or.inl ⟨by decide, x, y, rfl, rfl, Nat.le_of_ble_eq_true hb⟩⟩ (hZ _ _ _ _ _ hv)
      · exact absurd hv id
    · split at hv
      · rename_i y r
        obtain ⟨hb, hv⟩ := zbif hv
        exact zWp_step hC ⟨rfl, rfl, rfl, r, Or.inr ⟨rfl, y, rfl, rfl, Nat.le_of_ble_eq_true hb⟩⟩ (hZ _ _ _ _ _ hv)
      · exact absurd hv id
    · exact absurd hv id
  · -- 36
    split at hv
    · rename_i n dp dst sp src r
      obtain ⟨e, hi, hv⟩ := hv
      obtain ⟨hb, hv⟩ := zbif hv
      exact zWp_step hC ⟨rfl, rfl, n, dp, dst, sp, src, rfl, e.1, e.2, hi.1, hi.2.1, hi.2.2.1, hi.2.2.2.1, hi.2.2.2.2, Nat.le_of_ble_eq_true hb, rfl⟩ (hZ _ _ _ _ _ hv)
    · exact absurd hv id
  · -- 37
    split at hv
    · rename_i j r
      obtain ⟨e, hv⟩ := hv
      obtain ⟨hb, hv⟩ := zbif hv
      exact zWp_step hC ⟨rfl, rfl, rfl, j, r, rfl, e.1, e.2, Nat.le_of_ble_eq_true hb, rfl⟩ (hZ _ _ _ _ _ hv)
    · exact absurd hv id
  · -- 38
    split at hv
    · rename_i i j r
      obtain ⟨e, hi, hv⟩ := hv
      obtain ⟨hb, hv⟩ := zbif hv
      exact zWp_step hC ⟨rfl, rfl, rfl, i, j, r, rfl, e.1, e.2, hi.1, hi.2, Nat.le_of_ble_eq_true hb, rfl⟩ (hZ _ _ _ _ _ hv)
    · exact absurd hv id
  · exact zev1_ok hZ hC hv
/-- k instructions of the block cs, up to the stops ss -/
def zeu (cs : List (Nat × zI)) (ss : List Nat) (d μ κ : Nat) (R : Int → Nat → zH → Prop) (X : Nat → Nat → zH → Prop) (nh : Bool) (om : List (Nat × Int)) : Nat → zK1
  | 0 => fun pc ls st c h => zWp d μ pc ls st (zTS c h) (zQ κ R X)
  | k + 1 => fun pc ls st c h => match cs.lookup pc with
    | some (op, a, b, len) => zeu1 (fun pc ls st c h => bif ss.elem pc then zWp d μ pc ls st (zTS c h) (zQ κ R X) else zeu cs ss d μ κ R X nh om k pc ls st c h) d μ κ R X nh om pc op a b (pc + len) ls st c h
    | none => False
def zOkB (μ κ : Nat) (nh : Bool) (cs : List (Nat × zI)) : Bool := cs.all (fun e => zC μ e.1 == some e.2) && ((zMof μ).2.2.2.2.1 == κ) && (!nh || zNhB μ)
theorem zeu_ok {cs : List (Nat × zI)} {ss : List Nat} {d μ κ : Nat} {R : Int → Nat → zH → Prop} {X : Nat → Nat → zH → Prop} {nh : Bool} {om : List (Nat × Int)} (hcs : zOkB μ κ nh cs = true) : ∀ (k : Nat) {pc : Nat} {ls st : List zV} {c : Nat} {h : zH}, zeu cs ss d μ κ R X nh om k pc ls st c h → zWp d μ pc ls st (zTS c h) (zQ κ R X) := by
  unfold zOkB at hcs
  rw [Bool.and_eq_true, Bool.and_eq_true] at hcs
  have hκ : (zMof μ).2.2.2.2.1 = κ := by simpa using hcs.1.2
  have hn : nh = true → zNhB μ = true := by
    intro q
    have := hcs.2
    rw [q] at this
    simpa using this
  have hcc : ∀ pc e, cs.lookup pc = some e → zC μ pc = some e := by
    intro pc e
    have := hcs.1.1
    clear hcs
    induction cs with
    | nil => exact fun q => absurd q (by simp)
    | cons x l ih =>
      obtain ⟨p, i⟩ := x
      rw [List.all_cons, Bool.and_eq_true] at this
      by_cases q : pc = p
      · subst q
        rw [List.lookup_cons_self]
        intro q
        have t := this.1
        simp at t
        rw [t, q]
      · rw [List.lookup_cons, show (pc == p) = false by simpa using q]
        exact ih this.2
  intro k
  induction k with
  | zero => exact fun h => h
  | succ k ih =>
    intro pc ls st c h hv
    unfold zeu at hv
    split at hv
    · rename_i op a b len e
      refine zeu1_ok hκ hn (fun pc ls st c h q => ?_) (hcc _ _ e) hv
      cases hb : ss.elem pc with
      | true => rw [hb] at q; exact q
      | false => rw [hb] at q; exact ih q
    · exact absurd hv id
theorem zcmp_lt {x y : Int} : zCmp x y < 0 ↔ x < y := by unfold zCmp; split <;> (try split) <;> omega
theorem zcmp_ge {x y : Int} : 0 ≤ zCmp x y ↔ y ≤ x := by unfold zCmp; split <;> (try split) <;> omega
theorem zcmp_gt {x y : Int} : 0 < zCmp x y ↔ y < x := by unfold zCmp; split <;> (try split) <;> omega
theorem zcmp_le {x y : Int} : zCmp x y ≤ 0 ↔ x ≤ y := by unfold zCmp; split <;> (try split) <;> omega
theorem zcmp_eq {x y : Int} : zCmp x y = 0 ↔ x = y := by unfold zCmp; split <;> (try split) <;> omega
theorem zcmp_ne {x y : Int} : zCmp x y ≠ 0 ↔ x ≠ y := by unfold zCmp; split <;> (try split) <;> omega
