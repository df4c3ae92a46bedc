/-! a block of a method unrolled: calls and ends in one form, stops, known values of the changing references -/
def zVal (κ : Nat) (y : Int) : List zV := match κ with
  | 0 => []
  | 3 => [(1, y)]
  | _ => [(0, y)]
/-- how a method of return kind κ ends: R with its value (0 where there is none), or X with the exception -/
def zQ (κ : Nat) (R : Int → Nat → zH → Prop) (X : Nat → Nat → zH → Prop) (r : zO) : Prop := (∃ y c h, r = (.inl (zVal κ y), zTS c h) ∧ R y c h) ∨ ∃ E c h, r = (.inr E, zTS c h) ∧ X E c h
def zCl (d ν : Nat) (as : List zV) (c : Nat) (h : zH) (R : Int → Nat → zH → Prop) (X : Nat → Nat → zH → Prop) : Prop := zWp d ν 0 (zEntry ν as) [] (zTS c h) (zQ (zMof ν).2.2.2.2.1 R X)
theorem zQ_mono {κ : Nat} {R R' : Int → Nat → zH → Prop} {X X' : Nat → Nat → zH → Prop} (hR : ∀ y c h, R y c h → R' y c h) (hX : ∀ E c h, X E c h → X' E c h) (r : zO) (h : zQ κ R X r) : zQ κ R' X' r := by
  rcases h with ⟨y, c, h, e, k⟩ | ⟨E, c, h, e, k⟩
  · exact Or.inl ⟨y, c, h, e, hR _ _ _ k⟩
  · exact Or.inr ⟨E, c, h, e, hX _ _ _ k⟩
theorem zCl_mono {d ν : Nat} {as : List zV} {c : Nat} {h : zH} {R R' : Int → Nat → zH → Prop} {X X' : Nat → Nat → zH → Prop} (hR : ∀ y c h, R y c h → R' y c h) (hX : ∀ E c h, X E c h → X' E c h) (hw : zCl d ν as c h R X) : zCl d ν as c h R' X' :=
  zWp_mono _ _ _ _ _ _ _ _ (fun r q => zQ_mono hR hX r q) hw
def zSwP : List (Int × Nat) → Nat → Int → (Nat → Prop) → Prop
  | [], d, _, K => K d
  | (v, t) :: l, d, x, K => (x = v → K t) ∧ (x ≠ v → zSwP l d x K)
theorem zSwP_ok {K : Nat → Prop} {d : Nat} {x : Int} : ∀ {l : List (Int × Nat)}, zSwP l d x K → K ((l.lookup x).getD d) := by
  intro l
  induction l with
  | nil => exact fun h => h
  | cons e l ih =>
    obtain ⟨v, t⟩ := e
    intro h
    by_cases e : x = v
    · subst e
      rw [List.lookup_cons_self]
      exact h.1 rfl
    · rw [List.lookup_cons, show (x == v) = false by simpa using e]
      exact ih (h.2 e)
def zNhB (μ : Nat) : Bool := zHdL.all (fun e => e.1.1 != μ) && (zMof μ).2.2.2.2.2 == false
theorem zNhB_ok {μ : Nat} (hn : zNhB μ = true) (pc E : Nat) : zHd μ pc E = none ∧ (zMof μ).2.2.2.2.2 = false := by
  unfold zNhB at hn
  rw [Bool.and_eq_true] at hn
  refine ⟨?_, by simpa using hn.2⟩
  unfold zHd
  have := hn.1
  generalize zHdL = l at this
  induction l with
  | nil => rfl
  | cons e l ih =>
    obtain ⟨⟨a, b, c⟩, v⟩ := e
    rw [List.all_cons, Bool.and_eq_true] at this
    rw [List.lookup_cons, show ((μ, pc, E) == (a, b, c)) = false by
      have t := this.1
      simp at t ⊢
      intro q
      exact absurd q.symm t]
    exact ih this.2
def zeu1 (Z : zK1) (d μ κ : Nat) (R : Int → Nat → zH → Prop) (X : Nat → Nat → zH → Prop) (nh : Bool) (τ : Int → Int) (pc op : Nat) (a b : Int) (nx : Nat) (ls st : List zV) (c : Nat) (h : zH) : Prop := match op with
  | 18 => match st with
    | (0, x) :: r => match zSwL.lookup (μ, pc) with
      | some (l, dd) => zSwP l dd x (fun p => Z p ls r c h)
      | none => False
    | _ => False
  | 19 => match st with
    | (2, o) :: r => bif (zK o).1 == a.toNat && decide (0 ≤ b) then (match zTy a.toNat b.toNat with
      | 2 => bif zCs a.toNat b.toNat == 0 then h o b = τ b ∧ Z nx ls ((2, τ b) :: r) c h else Z nx ls ((2, o + zCs a.toNat b.toNat) :: r) c h
      | _ => Z nx ls ((0, h o b) :: r) c h) else False
    | _ => False
  | 32 => match d with
    | 0 => False
    | d + 1 => if (zMof a.toNat).2.1 ≤ st.length ∧ (zArgs (st.take (zMof a.toNat).2.1).reverse).length ≤ (zMof a.toNat).2.2.1 ∧ (∀ v ∈ (st.take (zMof a.toNat).2.1).reverse, v.1 ≠ 9) ∧ ((st.drop (zMof a.toNat).2.1).map zcat).sum ≤ 8 then
        (zRecv (zTS c h) a.toNat (st.take (zMof a.toNat).2.1).reverse) ∧ zCl d a.toNat (st.take (zMof a.toNat).2.1).reverse c h (fun y c h => Z (pc + 3) ls (zVal (zMof a.toNat).2.2.2.2.1 y ++ st.drop (zMof a.toNat).2.1) c h) (bif nh then X else zXt Z μ pc ls (zQ κ R X)) else False
  | 33 => match κ, st with
    | 0, [] => R 0 c h
    | 1, [(0, x)] => R x c h
    | 2, [(0, x)] => (x = 0 ∨ x = 1) ∧ R x c h
    | 3, [(1, x)] => R x c h
    | _, _ => False
  | 34 => if (zMof μ).2.2.2.2.2 = false ∧ (st.map zcat).sum ≤ 8 then X a.toNat (c + 1) h else False
  | op => zev1 Z d μ (zQ κ R X) pc op a b nx ls st c h
set_option maxHeartbeats 4000000 in
theorem zeu1_ok {Z : zK1} {d μ κ : Nat} {R : Int → Nat → zH → Prop} {X : Nat → Nat → zH → Prop} {nh : Bool} {τ : Int → Int} (hκ : (zMof μ).2.2.2.2.1 = κ) (hn : nh = true → zNhB μ = true) (hZ : ∀ pc ls st c h, Z pc ls st c h → zWp d μ pc ls st (zTS c h) (zQ κ R X)) {pc op : Nat} {a b : Int} {len : Nat} {ls st : List zV} {c : Nat} {h : zH} (hC : zC μ pc = some (op, a, b, len)) (hv : zeu1 Z d μ κ R X nh τ pc op a b (pc + len) ls st c h) : zWp d μ pc ls st (zTS c h) (zQ κ R X) := by
  unfold zeu1 at hv
  split at hv
  · split at hv
    · rename_i x r
      split at hv
      · rename_i l dd e
        exact zWp_step hC ⟨rfl, rfl, x, rfl, rfl⟩ (by unfold zSw; rw [e]; exact hZ _ _ _ _ _ (zSwP_ok (K := fun p => Z p ls r c h) hv))
      · exact absurd hv id
    · exact absurd hv id
  · split at hv
    · rename_i o r
      cases hb : ((zK o).1 == a.toNat && decide (0 ≤ b)) with
      | false => rw [hb] at hv; exact absurd hv id
      | true =>
        rw [hb] at hv
        rw [Bool.and_eq_true] at hb
        have hb' : (zK o).1 = a.toNat := by simpa using hb.1
        have hbb : ((b.toNat : Nat) : Int) = b := by
          have : 0 ≤ b := by simpa using hb.2
          omega
        simp only [cond_true] at hv
        split at hv
        · rename_i ty
          cases hc : (zCs a.toNat b.toNat == 0) with
          | true =>
            rw [hc] at hv
            have hc' : zCs a.toNat b.toNat = 0 := by simpa using hc
            refine zWp_step hC ⟨rfl, rfl, rfl, o, r, rfl, hb', (fun q => absurd q (by simp)), rfl⟩ (hZ _ _ _ _ _ ?_)
            unfold zGv
            rw [if_pos ty, if_neg (by simp [hc']), hbb]
            rw [show (zTS c h).2.2.2 o b = τ b from hv.1]
            exact hv.2
          | false =>
            rw [hc] at hv
            have hc' : zCs a.toNat b.toNat ≠ 0 := by simpa using hc
            refine zWp_step hC ⟨rfl, rfl, rfl, o, r, rfl, hb', (fun q => absurd q (by simp)), rfl⟩ (hZ _ _ _ _ _ ?_)
            unfold zGv
            rw [if_pos ty, if_pos ⟨rfl, hc'⟩]
            exact hv
        · rename_i ty
          refine zWp_step hC ⟨rfl, rfl, rfl, o, r, rfl, hb', (fun q => absurd q (by simp)), rfl⟩ (hZ _ _ _ _ _ ?_)
          unfold zGv
          rw [if_neg (fun q => ty q), hbb]
          exact hv
    · exact absurd hv id
  · split at hv
    · exact absurd hv id
    · rename_i d
      split at hv
      · rename_i e
        refine zCall_ok hZ hC rfl e hv.1 ?_
        refine zWp_mono _ _ _ _ _ _ _ _ (fun r q => ?_) hv.2
        rcases q with ⟨y, c, h, e, k⟩ | ⟨E, c, h, e, k⟩
        · subst e
          exact hZ _ _ _ _ _ k
        · subst e
          cases nh with
          | false => exact zXt_ok hZ k
          | true =>
            have k' : X E c h := k
            have := zNhB_ok (hn rfl) pc E
            unfold zAft
            dsimp only
            rw [this.1]
            exact ⟨this.2, Or.inr ⟨E, c, h, rfl, k'⟩⟩
      · exact absurd hv id
  · split at hv
    · exact zWp_closed _ _ _ _ _ _ _ (Or.inr (Or.inl ⟨a, b, len, hC, by rw [hκ]; rfl, Or.inl ⟨0, c, h, rfl, hv⟩⟩))
    · exact zWp_closed _ _ _ _ _ _ _ (Or.inr (Or.inl ⟨a, b, len, hC, by rw [hκ]; exact ⟨_, rfl⟩, Or.inl ⟨_, c, h, rfl, hv⟩⟩))
    · exact zWp_closed _ _ _ _ _ _ _ (Or.inr (Or.inl ⟨a, b, len, hC, by rw [hκ]; exact ⟨_, rfl, hv.1⟩, Or.inl ⟨_, c, h, rfl, hv.2⟩⟩))
    · exact zWp_closed _ _ _ _ _ _ _ (Or.inr (Or.inl ⟨a, b, len, hC, by rw [hκ]; exact ⟨_, rfl⟩, Or.inl ⟨_, c, h, rfl, hv⟩⟩))
    · exact absurd hv id
  · split at hv
    · rename_i e
      exact zWp_closed _ _ _ _ _ _ _ (Or.inr (Or.inr (Or.inl ⟨a, b, len, hC, e.1, rfl, e.2, Or.inr ⟨_, _, _, rfl, hv⟩⟩)))
    · exact absurd hv id
  · exact zev1_ok hZ hC hv
/-- k instructions of the block cs, up to the stops ss -/
def zeu (cs : List (Nat × zI)) (ss : List Nat) (d μ κ : Nat) (R : Int → Nat → zH → Prop) (X : Nat → Nat → zH → Prop) (nh : Bool) (τ : Int → Int) : Nat → zK1
  | 0 => fun pc ls st c h => zWp d μ pc ls st (zTS c h) (zQ κ R X)
  | k + 1 => fun pc ls st c h => match cs.lookup pc with
    | some (op, a, b, len) => zeu1 (fun pc ls st c h => bif ss.elem pc then zWp d μ pc ls st (zTS c h) (zQ κ R X) else zeu cs ss d μ κ R X nh τ k pc ls st c h) d μ κ R X nh τ pc op a b (pc + len) ls st c h
    | none => False
def zOkB (μ κ : Nat) (nh : Bool) (cs : List (Nat × zI)) : Bool := cs.all (fun e => zC μ e.1 == some e.2) && ((zMof μ).2.2.2.2.1 == κ) && (!nh || zNhB μ)
theorem zeu_ok {cs : List (Nat × zI)} {ss : List Nat} {d μ κ : Nat} {R : Int → Nat → zH → Prop} {X : Nat → Nat → zH → Prop} {nh : Bool} {τ : Int → Int} (hcs : zOkB μ κ nh cs = true) : ∀ (k : Nat) {pc : Nat} {ls st : List zV} {c : Nat} {h : zH}, zeu cs ss d μ κ R X nh τ k pc ls st c h → zWp d μ pc ls st (zTS c h) (zQ κ R X) := by
  unfold zOkB at hcs
  rw [Bool.and_eq_true, Bool.and_eq_true] at hcs
  have hκ : (zMof μ).2.2.2.2.1 = κ := by simpa using hcs.1.2
  have hn : nh = true → zNhB μ = true := by
    intro q
    have := hcs.2
    rw [q] at this
    simpa using this
  have hcc : ∀ pc e, cs.lookup pc = some e → zC μ pc = some e := by
    intro pc e
    have := hcs.1.1
    clear hcs
    induction cs with
    | nil => exact fun q => absurd q (by simp)
    | cons x l ih =>
      obtain ⟨p, i⟩ := x
      rw [List.all_cons, Bool.and_eq_true] at this
      by_cases q : pc = p
      · subst q
        rw [List.lookup_cons_self]
        intro q
        have t := this.1
        simp at t
        rw [t, q]
      · rw [List.lookup_cons, show (pc == p) = false by simpa using q]
        exact ih this.2
  intro k
  induction k with
  | zero => exact fun h => h
  | succ k ih =>
    intro pc ls st c h hv
    unfold zeu at hv
    split at hv
    · rename_i op a b len e
      refine zeu1_ok hκ hn (fun pc ls st c h q => ?_) (hcc _ _ e) hv
      cases hb : ss.elem pc with
      | true => rw [hb] at q; exact q
      | false => rw [hb] at q; exact ih q
    · exact absurd hv id
theorem zcmp_lt {x y : Int} : zCmp x y < 0 ↔ x < y := by unfold zCmp; split <;> (try split) <;> omega
theorem zcmp_ge {x y : Int} : 0 ≤ zCmp x y ↔ y ≤ x := by unfold zCmp; split <;> (try split) <;> omega
theorem zcmp_gt {x y : Int} : 0 < zCmp x y ↔ y < x := by unfold zCmp; split <;> (try split) <;> omega
theorem zcmp_le {x y : Int} : zCmp x y ≤ 0 ↔ x ≤ y := by unfold zCmp; split <;> (try split) <;> omega
theorem zcmp_eq {x y : Int} : zCmp x y = 0 ↔ x = y := by unfold zCmp; split <;> (try split) <;> omega
theorem zcmp_ne {x y : Int} : zCmp x y ≠ 0 ↔ x ≠ y := by unfold zCmp; split <;> (try split) <;> omega
