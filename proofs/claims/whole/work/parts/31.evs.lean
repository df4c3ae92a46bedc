/-! one unrolled instruction is a step of the machine -/
theorem zWp_step {d μ pc op : Nat} {a b : Int} {len : Nat} {ls st : List zV} {S : zS} {Q : zO → Prop} {pc' : Nat} {ls' st' : List zV} {S' : zS} (hC : zC μ pc = some (op, a, b, len)) (hR : zR op a b (pc + len) μ pc ls st S pc' ls' st' S') (hw : zWp d μ pc' ls' st' S' Q) : zWp d μ pc ls st S Q :=
  zWp_closed _ _ _ _ _ _ _ (Or.inl ⟨op, a, b, len, pc', ls', st', S', hC, hR, hw⟩)
theorem zXt_ok {Z : zK1} {d μ pc : Nat} {ls rest : List zV} {Q : zO → Prop} (hZ : ∀ pc ls st c h, Z pc ls st c h → zWp d μ pc ls st (zTS c h) Q) {E c : Nat} {h : zH} (hx : zXt Z μ pc ls Q E c h) : zAft zWp d μ pc ls rest Q (.inr E, zTS c h) := by
  unfold zXt at hx
  unfold zAft
  dsimp only
  split at hx
  · rename_i p' k e
    rw [e]
    exact ⟨⟨_, hx.1, rfl⟩, hx.2.1, hZ _ _ _ _ _ hx.2.2⟩
  · rename_i e
    rw [e]
    exact hx
theorem zCall_ok {Z : zK1} {d μ pc ν : Nat} {b : Int} {len : Nat} {ls st : List zV} {Q : zO → Prop} {a : Int} {c : Nat} {h : zH} (hZ : ∀ pc ls st c h, Z pc ls st c h → zWp (d + 1) μ pc ls st (zTS c h) Q) (hC : zC μ pc = some (32, a, b, len)) (hν : a.toNat = ν)
    (h1 : (zMof ν).2.1 ≤ st.length ∧ (zArgs (st.take (zMof ν).2.1).reverse).length ≤ (zMof ν).2.2.1 ∧ (∀ v ∈ (st.take (zMof ν).2.1).reverse, v.1 ≠ 9) ∧ ((st.drop (zMof ν).2.1).map zcat).sum ≤ 8)
    (h2 : zRecv (zTS c h) ν (st.take (zMof ν).2.1).reverse)
    (h3 : zWp d ν 0 (zEntry ν (st.take (zMof ν).2.1).reverse) [] (zTS c h) (zAft zWp (d + 1) μ pc ls (st.drop (zMof ν).2.1) Q)) : zWp (d + 1) μ pc ls st (zTS c h) Q := by
  refine zWp_closed _ _ _ _ _ _ _ (Or.inr (Or.inr (Or.inr (Or.inl ⟨a, b, len, d, (st.take (zMof ν).2.1).reverse, st.drop (zMof ν).2.1, hC, rfl, ?_, ?_, ?_, h1.2.2.1, h1.2.2.2, ?_, ?_⟩))))
  · rw [List.reverse_reverse, List.take_append_drop]
  · rw [List.length_reverse, List.length_take, hν]
    omega
  · rw [hν]
    exact h1.2.1
  · rw [hν]
    exact h2
  · rw [hν]
    exact h3
theorem zEnd_ok {Z : zK1} {d μ pc : Nat} {ls rest : List zV} {Q : zO → Prop} {R : List zV → Nat → zH → Prop} (hZ : ∀ pc ls st c h, Z pc ls st c h → zWp d μ pc ls st (zTS c h) Q) (hR : ∀ vs c h, R vs c h → Z (pc + 3) ls (vs ++ rest) c h) (r : zO) (h : zEnd1 R (zXt Z μ pc ls Q) r) : zAft zWp d μ pc ls rest Q r := by
  rcases h with ⟨vs, c, h, e, k⟩ | ⟨E, c, h, e, k⟩
  · subst e
    exact hZ _ _ _ _ _ (hR _ _ _ k)
  · subst e
    exact zXt_ok hZ k
set_option maxHeartbeats 4000000 in
theorem zev1_ok {Z : zK1} {d μ : Nat} {Q : zO → Prop} (hZ : ∀ pc ls st c h, Z pc ls st c h → zWp d μ pc ls st (zTS c h) Q) {pc op : Nat} {a b : Int} {len : Nat} {ls st : List zV} {c : Nat} {h : zH} (hC : zC μ pc = some (op, a, b, len)) (hv : zev1 Z d μ Q pc op a b (pc + len) ls st c h) : zWp d μ pc ls st (zTS c h) Q := by
  unfold zev1 at hv
  split at hv
  · exact zWp_step hC ⟨rfl, rfl, rfl, rfl⟩ (hZ _ _ _ _ _ hv)
  · exact zWp_step hC ⟨rfl, rfl, rfl, rfl⟩ (hZ _ _ _ _ _ hv)
  · exact zWp_step hC ⟨rfl, rfl, rfl, rfl⟩ (hZ _ _ _ _ _ hv)
  · -- 4
    split at hv
    · rename_i v e
      cases hb : zTokB b v with
      | true => rw [hb] at hv; exact zWp_step hC ⟨rfl, rfl, rfl, v, e, zTokB_ok hb, rfl⟩ (hZ _ _ _ _ _ hv)
      | false => rw [hb] at hv; exact absurd hv id
    · exact absurd hv id
  · -- 5
    split at hv
    · rename_i v r
      cases hb : (((b == 0 && v.1 == 0) || (b == 2 && (v.1 == 2 || v.1 == 4 || v.1 == 5))) && decide (a.toNat < ls.length)) with
      | true =>
        rw [hb] at hv
        simp only [Bool.and_eq_true, Bool.or_eq_true, beq_iff_eq, decide_eq_true_eq] at hb
        exact zWp_step hC ⟨rfl, rfl, v, rfl, by omega, hb.2, rfl⟩ (hZ _ _ _ _ _ hv)
      | false => rw [hb] at hv; exact absurd hv id
    · exact absurd hv id
  · -- 6
    split at hv
    · rename_i x r
      cases hb : decide (a.toNat + 1 < ls.length) with
      | true =>
        rw [hb] at hv
        exact zWp_step hC ⟨rfl, rfl, x, rfl, by simpa using hb, rfl⟩ (hZ _ _ _ _ _ hv)
      | false => rw [hb] at hv; exact absurd hv id
    · exact absurd hv id
  · -- 7
    split at hv
    · rename_i x e
      exact zWp_step hC ⟨rfl, rfl, rfl, x, e, rfl⟩ (hZ _ _ _ _ _ hv)
    · exact absurd hv id
  · -- 8
    split at hv
    · rename_i y x r
      split at hv
      · exact zWp_step hC ⟨rfl, rfl, rfl, x, y, r, _, rfl, rfl, rfl⟩ (hZ _ _ _ _ _ hv)
      · exact zWp_step hC ⟨rfl, rfl, rfl, x, y, r, _, rfl, rfl, rfl⟩ (hZ _ _ _ _ _ hv)
      · exact zWp_step hC ⟨rfl, rfl, rfl, x, y, r, _, rfl, rfl, rfl⟩ (hZ _ _ _ _ _ hv)
      · exact zWp_step hC ⟨rfl, rfl, rfl, x, y, r, _, rfl, if_neg hv.1, rfl⟩ (hZ _ _ _ _ _ hv.2)
      · exact zWp_step hC ⟨rfl, rfl, rfl, x, y, r, _, rfl, if_neg hv.1, rfl⟩ (hZ _ _ _ _ _ hv.2)
      · exact zWp_step hC ⟨rfl, rfl, rfl, x, y, r, _, rfl, rfl, rfl⟩ (hZ _ _ _ _ _ hv)
      · exact zWp_step hC ⟨rfl, rfl, rfl, x, y, r, _, rfl, rfl, rfl⟩ (hZ _ _ _ _ _ hv)
      · exact zWp_step hC ⟨rfl, rfl, rfl, x, y, r, _, rfl, rfl, rfl⟩ (hZ _ _ _ _ _ hv)
      · exact zWp_step hC ⟨rfl, rfl, rfl, x, y, r, _, rfl, rfl, rfl⟩ (hZ _ _ _ _ _ hv)
      · exact zWp_step hC ⟨rfl, rfl, rfl, x, y, r, _, rfl, rfl, rfl⟩ (hZ _ _ _ _ _ hv)
      · exact zWp_step hC ⟨rfl, rfl, rfl, x, y, r, _, rfl, rfl, rfl⟩ (hZ _ _ _ _ _ hv)
      · exact absurd hv id
    · exact absurd hv id
  · -- 9
    split at hv
    · rename_i y x r
      split at hv
      · exact zWp_step hC ⟨rfl, rfl, rfl, x, y, r, _, rfl, rfl, rfl⟩ (hZ _ _ _ _ _ hv)
      · exact zWp_step hC ⟨rfl, rfl, rfl, x, y, r, _, rfl, rfl, rfl⟩ (hZ _ _ _ _ _ hv)
      · exact zWp_step hC ⟨rfl, rfl, rfl, x, y, r, _, rfl, rfl, rfl⟩ (hZ _ _ _ _ _ hv)
      · exact zWp_step hC ⟨rfl, rfl, rfl, x, y, r, _, rfl, if_neg hv.1, rfl⟩ (hZ _ _ _ _ _ hv.2)
      · exact zWp_step hC ⟨rfl, rfl, rfl, x, y, r, _, rfl, if_neg hv.1, rfl⟩ (hZ _ _ _ _ _ hv.2)
      · exact absurd hv id
    · exact absurd hv id
  · -- 10
    split at hv
    · rename_i y x r
      exact zWp_step hC ⟨rfl, rfl, rfl, x, y, r, rfl, rfl⟩ (hZ _ _ _ _ _ hv)
    · exact absurd hv id
  · -- 11
    split at hv
    · rename_i x r
      split at hv
      · exact zWp_step hC ⟨rfl, rfl, rfl, x, r, _, rfl, rfl, rfl⟩ (hZ _ _ _ _ _ hv)
      · exact zWp_step hC ⟨rfl, rfl, rfl, x, r, _, rfl, rfl, rfl⟩ (hZ _ _ _ _ _ hv)
      · exact absurd hv id
    · exact absurd hv id
  · -- 12
    split at hv
    · rename_i v r
      cases hb : (v.1 == 1) with
      | false => rw [hb] at hv; exact zWp_step hC ⟨rfl, rfl, rfl, v, r, rfl, by simpa using hb, rfl⟩ (hZ _ _ _ _ _ hv)
      | true => rw [hb] at hv; exact absurd hv id
    · exact absurd hv id
  · -- 13
    split at hv
    · rename_i v r
      cases hb : (v.1 == 1) with
      | false => rw [hb] at hv; exact zWp_step hC ⟨rfl, rfl, rfl, v, rfl, by simpa using hb⟩ (hZ _ _ _ _ _ hv)
      | true => rw [hb] at hv; exact absurd hv id
    · exact absurd hv id
  · -- 14
    split at hv
    · rename_i v w r
      cases hb : (v.1 == 1 || w.1 == 1) with
      | false =>
        rw [hb] at hv
        simp only [Bool.or_eq_false_iff, beq_eq_false_iff_ne] at hb
        exact zWp_step hC ⟨rfl, rfl, rfl, v, w, r, rfl, hb.1, hb.2, rfl⟩ (hZ _ _ _ _ _ hv)
      | true => rw [hb] at hv; exact absurd hv id
    · exact absurd hv id
  · -- 15
    split at hv
    · rename_i x r
      have key : ∀ (cc : Bool) (P P' : Prop), zCond a.toNat x 0 = cc → (P → zWp d μ b.toNat ls r (zTS c h) Q) → (P' → zWp d μ (pc + len) ls r (zTS c h) Q) → (cc = true → P) → (cc = false → P') → zWp d μ pc ls ((0, x) :: r) (zTS c h) Q := by
        intro cc P P' e k1 k2 k3 k4
        cases cc with
        | true => exact zWp_step hC ⟨rfl, rfl, x, rfl, rfl⟩ (by rw [e]; exact k1 (k3 rfl))
        | false => exact zWp_step hC ⟨rfl, rfl, x, rfl, rfl⟩ (by rw [e]; exact k2 (k4 rfl))
      have k1 := hZ b.toNat ls r c h
      have k2 := hZ (pc + len) ls r c h
      split at hv
      · exact key (decide (x = 0)) _ _ rfl (fun q => k1 (hv.1 q)) (fun q => k2 (hv.2 q)) (by simp) (by simp)
      · exact key (decide (x ≠ 0)) _ _ rfl (fun q => k1 (hv.1 q)) (fun q => k2 (hv.2 q)) (by simp) (by simp)
      · exact key (decide (x < 0)) _ _ rfl (fun q => k1 (hv.1 q)) (fun q => k2 (hv.2 q)) (by simp) (by simp)
      · exact key (decide (0 ≤ x)) _ _ rfl (fun q => k1 (hv.1 q)) (fun q => k2 (hv.2 q)) (by simp) (by simp)
      · exact key (decide (0 < x)) _ _ rfl (fun q => k1 (hv.1 q)) (fun q => k2 (hv.2 q)) (by simp) (by simp)
      · exact key (decide (x ≤ 0)) _ _ rfl (fun q => k1 (hv.1 q)) (fun q => k2 (hv.2 q)) (by simp) (by simp)
      · exact absurd hv id
    · exact absurd hv id
  · -- 16
    split at hv
    · rename_i y x r
      have key : ∀ (cc : Bool) (P P' : Prop), zCond a.toNat x y = cc → (P → zWp d μ b.toNat ls r (zTS c h) Q) → (P' → zWp d μ (pc + len) ls r (zTS c h) Q) → (cc = true → P) → (cc = false → P') → zWp d μ pc ls ((0, y) :: (0, x) :: r) (zTS c h) Q := by
        intro cc P P' e k1 k2 k3 k4
        cases cc with
        | true => exact zWp_step hC ⟨rfl, rfl, x, y, rfl, rfl⟩ (by rw [e]; exact k1 (k3 rfl))
        | false => exact zWp_step hC ⟨rfl, rfl, x, y, rfl, rfl⟩ (by rw [e]; exact k2 (k4 rfl))
      have k1 := hZ b.toNat ls r c h
      have k2 := hZ (pc + len) ls r c h
      split at hv
      · exact key (decide (x = y)) _ _ rfl (fun q => k1 (hv.1 q)) (fun q => k2 (hv.2 q)) (by simp) (by simp)
      · exact key (decide (x ≠ y)) _ _ rfl (fun q => k1 (hv.1 q)) (fun q => k2 (hv.2 q)) (by simp) (by simp)
      · exact key (decide (x < y)) _ _ rfl (fun q => k1 (hv.1 q)) (fun q => k2 (hv.2 q)) (by simp) (by simp)
      · exact key (decide (y ≤ x)) _ _ rfl (fun q => k1 (hv.1 q)) (fun q => k2 (hv.2 q)) (by simp) (by simp)
      · exact key (decide (y < x)) _ _ rfl (fun q => k1 (hv.1 q)) (fun q => k2 (hv.2 q)) (by simp) (by simp)
      · exact key (decide (x ≤ y)) _ _ rfl (fun q => k1 (hv.1 q)) (fun q => k2 (hv.2 q)) (by simp) (by simp)
      · exact absurd hv id
    · exact absurd hv id
  · -- 17
    exact zWp_step hC ⟨rfl, rfl, rfl, rfl⟩ (hZ _ _ _ _ _ hv)
  · -- 18
    split at hv
    · rename_i x r
      exact zWp_step hC ⟨rfl, rfl, x, rfl, rfl⟩ (hZ _ _ _ _ _ hv)
    · exact absurd hv id
  · -- 19
    split at hv
    · rename_i o r
      split at hv
      · rename_i e
        exact zWp_step hC ⟨rfl, rfl, rfl, o, r, rfl, e, (fun q => absurd q (by simp)), rfl⟩ (hZ _ _ _ _ _ hv)
      · exact absurd hv id
    · exact absurd hv id
  · -- 20
    split at hv
    · rename_i v o r
      split at hv
      · rename_i e
        split at hv
        · rename_i ty
          cases hb : (v.1 == 2) with
          | true => rw [hb] at hv; exact zWp_step hC ⟨rfl, rfl, v, o, rfl, e.1, (by rw [if_pos ty]; simpa using hb), (fun q => by omega), (fun _ => e.2), rfl⟩ (hZ _ _ _ _ _ hv)
          | false => rw [hb] at hv; exact absurd hv id
        · rename_i ty
          cases hb : (v.1 == 0) with
          | true => rw [hb] at hv; exact zWp_step hC ⟨rfl, rfl, v, o, rfl, e.1, (by rw [if_neg (by omega)]; simpa using hb), (fun q => hv.1), (fun _ => e.2), rfl⟩ (hZ _ _ _ _ _ hv.2)
          | false => rw [hb] at hv; exact absurd hv id
        · rename_i t1 t2
          cases hb : (v.1 == 0) with
          | true => rw [hb] at hv; exact zWp_step hC ⟨rfl, rfl, v, o, rfl, e.1, (by rw [if_neg (fun q => t1 q)]; simpa using hb), (fun q => absurd q (fun q => t2 q)), (fun _ => e.2), rfl⟩ (hZ _ _ _ _ _ hv)
          | false => rw [hb] at hv; exact absurd hv id
      · exact absurd hv id
    · exact absurd hv id
  · -- 21
    split at hv
    · rename_i o r
      split at hv
      · rename_i e
        exact zWp_step hC ⟨rfl, rfl, rfl, r, Or.inl ⟨o, rfl, e.1, e.2, rfl⟩⟩ (hZ _ _ _ _ _ hv)
      · exact absurd hv id
    · rename_i r
      exact zWp_step hC ⟨rfl, rfl, rfl, r, Or.inr (Or.inl ⟨rfl, rfl⟩)⟩ (hZ _ _ _ _ _ hv)
    · rename_i r
      exact zWp_step hC ⟨rfl, rfl, rfl, r, Or.inr (Or.inr ⟨rfl, rfl⟩)⟩ (hZ _ _ _ _ _ hv)
    · exact absurd hv id
  · -- 22
    split at hv
    · rename_i i o r
      split at hv
      · rename_i e
        exact zWp_step hC ⟨rfl, rfl, rfl, i, r, Or.inl ⟨o, rfl, e, hv.1.1, hv.1.2, rfl⟩⟩ (hZ _ _ _ _ _ hv.2)
      · exact absurd hv id
    · rename_i i r
      exact zWp_step hC ⟨rfl, rfl, rfl, i, r, Or.inr (Or.inl ⟨hv.1, rfl, hv.2.1.1, hv.2.1.2, rfl⟩)⟩ (hZ _ _ _ _ _ hv.2.2)
    · rename_i i r
      exact zWp_step hC ⟨rfl, rfl, rfl, i, r, Or.inr (Or.inr ⟨hv.1, rfl, hv.2.1.1, hv.2.1.2, rfl⟩)⟩ (hZ _ _ _ _ _ hv.2.2)
    · exact absurd hv id
  · -- 23
    split at hv
    · rename_i v i o r
      split at hv
      · rename_i e
        split at hv
        · rename_i t
          cases hb : (v.1 == 0) with
          | true => rw [hb] at hv; exact zWp_step hC ⟨rfl, rfl, v, i, o, rfl, (by rw [if_neg (by omega)]; simpa using hb), Or.inl (show (zK o).1 = a.toNat by omega), (fun q => absurd (show (zK o).1 = 51 from q) (by omega)), hv.1.1, hv.1.2, rfl⟩ (hZ _ _ _ _ _ hv.2)
          | false => rw [hb] at hv; exact absurd hv id
        · rename_i t
          cases hb : (v.1 == 0) with
          | true => rw [hb] at hv; exact zWp_step hC ⟨rfl, rfl, v, i, o, rfl, (by rw [if_neg (by omega)]; simpa using hb), Or.inl (show (zK o).1 = a.toNat by omega), (fun q => hv.2.1), hv.1.1, hv.1.2, rfl⟩ (hZ _ _ _ _ _ hv.2.2)
          | false => rw [hb] at hv; exact absurd hv id
        · rename_i t
          cases hb : (v.1 == 0) with
          | true => rw [hb] at hv; exact zWp_step hC ⟨rfl, rfl, v, i, o, rfl, (by rw [if_neg (by omega)]; simpa using hb), (by
                rcases e with e | e
                · exact Or.inl e
                · exact Or.inr ⟨e.1, e.2, hv.2.1⟩), (fun q => absurd (show (zK o).1 = 51 from q) (by omega)), hv.1.1, hv.1.2, rfl⟩ (hZ _ _ _ _ _ hv.2.2)
          | false => rw [hb] at hv; exact absurd hv id
        · rename_i t
          cases hb : (v.1 == 1) with
          | true => rw [hb] at hv; exact zWp_step hC ⟨rfl, rfl, v, i, o, rfl, (by rw [if_pos (by omega)]; simpa using hb), Or.inl (show (zK o).1 = a.toNat by omega), (fun q => absurd (show (zK o).1 = 51 from q) (by omega)), hv.1.1, hv.1.2, rfl⟩ (hZ _ _ _ _ _ hv.2)
          | false => rw [hb] at hv; exact absurd hv id
        · exact absurd hv id
      · exact absurd hv id
    · exact absurd hv id
  · -- 24
    split at hv
    · rename_i i o r
      split at hv
      · rename_i e
        exact zWp_step hC ⟨rfl, rfl, rfl, i, o, r, rfl, e, hv.1.1, hv.1.2, (fun q => absurd q (by simp)), rfl⟩ (hZ _ _ _ _ _ hv.2)
      · exact absurd hv id
    · exact absurd hv id
  · exact zWp_step hC ⟨rfl, rfl, rfl, rfl⟩ (hZ _ _ _ _ _ hv)
  · -- 32
    split at hv
    · exact absurd hv id
    · rename_i d
      split at hv
      · rename_i e
        refine zCall_ok hZ hC rfl e hv.1 ?_
        have hv := hv.2
        split at hv
        · exact zWp_mono _ _ _ _ _ _ _ _ (fun r q => zEnd_ok hZ (fun vs c h k => by rw [k.1]; exact k.2) r q) hv
        · exact zWp_mono _ _ _ _ _ _ _ _ (fun r q => zEnd_ok hZ (fun vs c h k => by obtain ⟨y, e1, e2⟩ := k; rw [e1]; exact e2) r q) hv
        · exact zWp_mono _ _ _ _ _ _ _ _ (fun r q => zEnd_ok hZ (fun vs c h k => by obtain ⟨y, e1, e2⟩ := k; rw [e1]; exact e2) r q) hv
      · exact absurd hv id
  · -- 33
    split at hv
    · rename_i e
      exact zWp_closed _ _ _ _ _ _ _ (Or.inr (Or.inl ⟨a, b, len, hC, by rw [e]; rfl, hv⟩))
    · rename_i e
      exact zWp_closed _ _ _ _ _ _ _ (Or.inr (Or.inl ⟨a, b, len, hC, by rw [e]; exact ⟨_, rfl⟩, hv⟩))
    · rename_i e
      exact zWp_closed _ _ _ _ _ _ _ (Or.inr (Or.inl ⟨a, b, len, hC, by rw [e]; exact ⟨_, rfl, hv.1⟩, hv.2⟩))
    · rename_i e
      exact zWp_closed _ _ _ _ _ _ _ (Or.inr (Or.inl ⟨a, b, len, hC, by rw [e]; exact ⟨_, rfl⟩, hv⟩))
    · exact absurd hv id
  · -- 34
    split at hv
    · rename_i e
      exact zWp_closed _ _ _ _ _ _ _ (Or.inr (Or.inr (Or.inl ⟨a, b, len, hC, e.1, rfl, e.2, hv⟩)))
    · exact absurd hv id
  · -- 35
    split at hv
    · rename_i y x r
      split at hv
      · rename_i e
        split at hv
        · exact zWp_step hC ⟨rfl, rfl, rfl, r, Or.inl ⟨by decide, x, y, rfl, rfl, e⟩⟩ (hZ _ _ _ _ _ hv)
        · exact zWp_step hC ⟨rfl, rfl, rfl, r, Or.inl ⟨by decide, x, y, rfl, rfl, e⟩⟩ (hZ _ _ _ _ _ hv)
        · split at hv
          · rename_i e
            exact zWp_step hC ⟨rfl, rfl, rfl, (0, x) :: r, Or.inr ⟨rfl, y, rfl, rfl, e⟩⟩ (hZ _ _ _ _ _ hv)
          · exact absurd hv id
        · exact absurd hv id
      · exact absurd hv id
    · rename_i y r _
      split at hv
      · rename_i e
        exact zWp_step hC ⟨rfl, rfl, rfl, r, Or.inr ⟨e.1, y, rfl, rfl, e.2⟩⟩ (hZ _ _ _ _ _ hv)
      · exact absurd hv id
    · exact absurd hv id
  · -- 36
    split at hv
    · rename_i n dp dst sp src r
      split at hv
      · rename_i e
        exact zWp_step hC ⟨rfl, rfl, n, dp, dst, sp, src, rfl, e.1, e.2.1, hv.1.1, hv.1.2.1, hv.1.2.2.1, hv.1.2.2.2.1, hv.1.2.2.2.2, e.2.2, rfl⟩ (hZ _ _ _ _ _ hv.2)
      · exact absurd hv id
    · exact absurd hv id
  · -- 37
    split at hv
    · rename_i j r
      split at hv
      · rename_i e
        exact zWp_step hC ⟨rfl, rfl, rfl, j, r, rfl, e.1, e.2.1, e.2.2, rfl⟩ (hZ _ _ _ _ _ hv)
      · exact absurd hv id
    · exact absurd hv id
  · -- 38
    split at hv
    · rename_i i j r
      split at hv
      · rename_i e
        exact zWp_step hC ⟨rfl, rfl, rfl, i, j, r, rfl, e.1, e.2.1, hv.1.1, hv.1.2, e.2.2, rfl⟩ (hZ _ _ _ _ _ hv.2)
      · exact absurd hv id
    · exact absurd hv id
  · exact absurd hv id
theorem zev_ok {d μ : Nat} {Q : zO → Prop} : ∀ (k : Nat) {pc : Nat} {ls st : List zV} {c : Nat} {h : zH}, zev d μ Q k pc ls st c h → zWp d μ pc ls st (zTS c h) Q := by
  intro k
  induction k with
  | zero => exact fun h => h
  | succ k ih =>
    intro pc ls st c h hv
    unfold zev at hv
    split at hv
    · rename_i op a b len e
      exact zev1_ok (fun _ _ _ _ _ q => ih q) e hv
    · exact absurd hv id
