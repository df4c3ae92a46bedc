/-! the road's text: a clause, all clauses; bounds of what is told -/
def kOf (w : Int) : Int := if w = wC 1 then 0 else if w = wC 2 then 1 else if w = wC 3 then 2 else if w = wC 4 then 3 else if w = wC 5 then 4 else if w = wC 6 then 5 else if w = wC 7 then 6 else if w = wC 8 then 7 else if w = wC 9 then 8 else if w = wC 10 then 9 else if w = wC 11 then 10 else if w = wC 12 then 11 else -1
theorem kOf_r (w : Int) : -1 ≤ kOf w ∧ kOf w ≤ 11 := by
  unfold kOf
  repeat' split
  all_goals omega
def kW (T : Int → Int) (n a : Int) : Int := kOf (wH T (nB T n a) (wE T n a))
def kM (k : Int) : Int := zMK.getD k.toNat 0
theorem kM_r {k : Int} (h0 : 0 ≤ k) (h1 : k < 12) : 1 ≤ kM k ∧ kM k ≤ 60 := by
  have : ∀ j : Nat, j < 12 → 1 ≤ kM (j : Int) ∧ kM (j : Int) ≤ 60 := by decide +kernel
  have := this k.toNat (by omega)
  rw [Int.toNat_of_nonneg h0] at this
  exact this
/-- a clause that begins at a, i clauses ahead of it -/
def rCl (T : Int → Int) (n i : Int) (m : Int → Int) (q : zH) (a : Int) : ((Int × Int) ⊕ Int) × (Int → Int) × zH :=
  if kW T n a = -1 then (.inl (1, nB T n a), m, q)
  else if 60 ≤ i ∨ kM (kW T n a) ≤ m (kW T n a) then (.inl (3, nB T n a), m, q)
  else (rdX T n 59 (rC T n (kW T n a) m q (.inr (wE T n a))).1, mUp m (kW T n a), (rC T n (kW T n a) m q (.inr (wE T n a))).2)
/-- all clauses -/
def rLp (T : Int → Int) (n : Int) : Nat → Int → (Int → Int) → zH → Int → ((Int × Int) ⊕ Int) × (Int → Int) × zH
  | 0, _, m, q, a => (.inl (3, a), m, q)
  | f + 1, i, m, q, a => if nB T n a < n then (match (rCl T n i m q a).1 with
      | .inl e => (.inl e, (rCl T n i m q a).2.1, (rCl T n i m q a).2.2)
      | .inr a' => rLp T n f (i + 1) (rCl T n i m q a).2.1 (rCl T n i m q a).2.2 a') else (.inr n, m, q)
def wDfB (m : Int → Int) (q : zH) : Prop := (1 ≤ q 0 5 ∧ q 0 5 ≤ 99) ∧ (0 ≤ q 0 6 ∧ q 0 6 ≤ 16) ∧ (0 ≤ q 0 7 ∧ q 0 7 ≤ 16) ∧ (0 ≤ q 0 8 ∧ q 0 8 ≤ 99) ∧ (1 ≤ q 0 9 ∧ q 0 9 ≤ 9)
def wDfC (m : Int → Int) (q : zH) : Prop := ∀ k : Int, 0 ≤ k → k < m 0 → 1 ≤ q 1 k ∧ q 1 k ≤ 9
def wDfD (m : Int → Int) (q : zH) : Prop := ∀ k : Int, 0 ≤ k → k < m 1 → (1 ≤ q 2 k ∧ q 2 k ≤ 30) ∧ (0 ≤ q 3 k ∧ q 3 k ≤ 1) ∧ (1 ≤ q 4 k ∧ q 4 k ≤ 2) ∧ (0 ≤ q 5 k ∧ q 5 k ≤ 18)
def wDfE (m : Int → Int) (q : zH) : Prop := ∀ k : Int, 0 ≤ k → k < 12 → (0 ≤ q 6 k ∧ q 6 k < 2 ^ k.toNat) ∧ (m 1 ≤ k → q 6 k = 0)
def wDfF (m : Int → Int) (q : zH) : Prop := ∀ k : Int, 0 ≤ k → k < 60 → 0 ≤ q 7 k ∧ q 7 k ≤ 20
def wDfG (m : Int → Int) (q : zH) : Prop := ∀ k : Int, 0 ≤ k → k < m 5 → 1 ≤ q 8 k ∧ q 8 k ≤ 9
def wDfH (m : Int → Int) (q : zH) : Prop := ∀ k : Int, 0 ≤ k → k < m 7 → 0 ≤ q 9 k ∧ q 9 k ≤ 15
def wDfI (m : Int → Int) (q : zH) : Prop := ∀ k : Int, 0 ≤ k → k < m 9 → (1 ≤ q 10 k ∧ q 10 k ≤ 16) ∧ (0 ≤ q 11 k ∧ q 11 k ≤ 16) ∧ (0 ≤ q 12 k ∧ q 12 k ≤ 16) ∧ (0 ≤ q 13 k ∧ q 13 k ≤ 16)
def wDfJ (m : Int → Int) (q : zH) : Prop := ∀ k : Int, 0 ≤ k → k < 241 → 0 ≤ q 14 k ∧ q 14 k ≤ 1
def wDf (m : Int → Int) (q : zH) : Prop := (∀ k : Int, 0 ≤ k → k < 12 → 0 ≤ m k ∧ m k ≤ kM k) ∧ wDfB m q ∧ wDfC m q ∧ wDfD m q ∧ wDfE m q ∧ wDfF m q ∧ wDfG m q ∧ wDfH m q ∧ wDfI m q ∧ wDfJ m q
theorem mUp_r {m : Int → Int} {i : Int} (w : ∀ k : Int, 0 ≤ k → k < 12 → 0 ≤ m k ∧ m k ≤ kM k) (hi : m i < kM i) : ∀ k : Int, 0 ≤ k → k < 12 → 0 ≤ mUp m i k ∧ mUp m i k ≤ kM k := by
  intro k a b
  have := w k a b
  unfold mUp
  split
  · rename_i e
    subst e
    omega
  · omega
theorem wDfB_k {m m' : Int → Int} {q q' : zH} (e0 : ∀ k, q' 0 k = q 0 k) (w : wDfB m q) : wDfB m' q' := by
  unfold wDfB at w ⊢
  rw [e0, e0, e0, e0, e0]
  exact w
theorem wDfC_k {m m' : Int → Int} {q q' : zH} (em : m' 0 = m 0) (e1 : ∀ k, q' 1 k = q 1 k) (w : wDfC m q) : wDfC m' q' := by
  unfold wDfC at w ⊢
  intro k a b
  rw [em] at b
  rw [e1]
  exact w k a b
theorem wDfD_k {m m' : Int → Int} {q q' : zH} (em : m' 1 = m 1) (e2 : ∀ k, q' 2 k = q 2 k) (e3 : ∀ k, q' 3 k = q 3 k) (e4 : ∀ k, q' 4 k = q 4 k) (e5 : ∀ k, q' 5 k = q 5 k) (w : wDfD m q) : wDfD m' q' := by
  unfold wDfD at w ⊢
  intro k a b
  rw [em] at b
  rw [e2, e3, e4, e5]
  exact w k a b
theorem wDfE_k {m m' : Int → Int} {q q' : zH} (em : m' 1 = m 1) (e6 : ∀ k, q' 6 k = q 6 k) (w : wDfE m q) : wDfE m' q' := by
  unfold wDfE at w ⊢
  intro k a b
  rw [em]
  rw [e6]
  exact w k a b
theorem wDfF_k {m m' : Int → Int} {q q' : zH} (e7 : ∀ k, q' 7 k = q 7 k) (w : wDfF m q) : wDfF m' q' := by
  unfold wDfF at w ⊢
  intro k a b
  rw [e7]
  exact w k a b
theorem wDfG_k {m m' : Int → Int} {q q' : zH} (em : m' 5 = m 5) (e8 : ∀ k, q' 8 k = q 8 k) (w : wDfG m q) : wDfG m' q' := by
  unfold wDfG at w ⊢
  intro k a b
  rw [em] at b
  rw [e8]
  exact w k a b
theorem wDfH_k {m m' : Int → Int} {q q' : zH} (em : m' 7 = m 7) (e9 : ∀ k, q' 9 k = q 9 k) (w : wDfH m q) : wDfH m' q' := by
  unfold wDfH at w ⊢
  intro k a b
  rw [em] at b
  rw [e9]
  exact w k a b
theorem wDfI_k {m m' : Int → Int} {q q' : zH} (em : m' 9 = m 9) (e10 : ∀ k, q' 10 k = q 10 k) (e11 : ∀ k, q' 11 k = q 11 k) (e12 : ∀ k, q' 12 k = q 12 k) (e13 : ∀ k, q' 13 k = q 13 k) (w : wDfI m q) : wDfI m' q' := by
  unfold wDfI at w ⊢
  intro k a b
  rw [em] at b
  rw [e10, e11, e12, e13]
  exact w k a b
theorem wDfJ_k {m m' : Int → Int} {q q' : zH} (e14 : ∀ k, q' 14 k = q 14 k) (w : wDfJ m q) : wDfJ m' q' := by
  unfold wDfJ at w ⊢
  intro k a b
  rw [e14]
  exact w k a b
theorem rC0_w {T : Int → Int} {n : Int} {m : Int → Int} {q : zH} {st : (Int × Int) ⊕ Int} (w : wDf m q) (hi : m 0 < kM 0) (ok : isOkS (rC0 T n m q st).1) : wDf (mUp m 0) (rC0 T n m q st).2 := by
  unfold rC0 at ok ⊢
  dsimp only at ok ⊢
  obtain ⟨wA, wB, wC, wD, wE, wF, wG, wH, wI, wJ⟩ := w
  have wA' := mUp_r wA hi
  have r := (rdN_ok ok).2
  refine ⟨wA', (wDfB_k (fun k => by rw [hw_ne (by omega)]) wB), ?_, (wDfD_k rfl (fun k => by rw [hw_ne (by omega)]) (fun k => by rw [hw_ne (by omega)]) (fun k => by rw [hw_ne (by omega)]) (fun k => by rw [hw_ne (by omega)]) wD), (wDfE_k rfl (fun k => by rw [hw_ne (by omega)]) wE), (wDfF_k (fun k => by rw [hw_ne (by omega)]) wF), (wDfG_k rfl (fun k => by rw [hw_ne (by omega)]) wG), (wDfH_k rfl (fun k => by rw [hw_ne (by omega)]) wH), (wDfI_k rfl (fun k => by rw [hw_ne (by omega)]) (fun k => by rw [hw_ne (by omega)]) (fun k => by rw [hw_ne (by omega)]) (fun k => by rw [hw_ne (by omega)]) wI), (wDfJ_k (fun k => by rw [hw_ne (by omega)]) wJ)⟩
  unfold wDfC at wC ⊢
  intro k a b
  have b' : k < m 0 + 1 := b
  by_cases e : k = m 0
  · rw [hw_eq ⟨rfl, e⟩]
    exact r
  · rw [hw_ne (by omega)]
    exact wC k a (by omega)
theorem rC5_w {T : Int → Int} {n : Int} {m : Int → Int} {q : zH} {st : (Int × Int) ⊕ Int} (w : wDf m q) (hi : m 5 < kM 5) (ok : isOkS (rC5 T n m q st).1) : wDf (mUp m 5) (rC5 T n m q st).2 := by
  unfold rC5 at ok ⊢
  dsimp only at ok ⊢
  obtain ⟨wA, wB, wC, wD, wE, wF, wG, wH, wI, wJ⟩ := w
  have wA' := mUp_r wA hi
  have r := (rdN_ok ok).2
  refine ⟨wA', (wDfB_k (fun k => by rw [hw_ne (by omega)]) wB), (wDfC_k rfl (fun k => by rw [hw_ne (by omega)]) wC), (wDfD_k rfl (fun k => by rw [hw_ne (by omega)]) (fun k => by rw [hw_ne (by omega)]) (fun k => by rw [hw_ne (by omega)]) (fun k => by rw [hw_ne (by omega)]) wD), (wDfE_k rfl (fun k => by rw [hw_ne (by omega)]) wE), (wDfF_k (fun k => by rw [hw_ne (by omega)]) wF), ?_, (wDfH_k rfl (fun k => by rw [hw_ne (by omega)]) wH), (wDfI_k rfl (fun k => by rw [hw_ne (by omega)]) (fun k => by rw [hw_ne (by omega)]) (fun k => by rw [hw_ne (by omega)]) (fun k => by rw [hw_ne (by omega)]) wI), (wDfJ_k (fun k => by rw [hw_ne (by omega)]) wJ)⟩
  unfold wDfG at wG ⊢
  intro k a b
  have b' : k < m 5 + 1 := b
  by_cases e : k = m 5
  · rw [hw_eq ⟨rfl, e⟩]
    exact r
  · rw [hw_ne (by omega)]
    exact wG k a (by omega)
theorem rC7_w {T : Int → Int} {n : Int} {m : Int → Int} {q : zH} {st : (Int × Int) ⊕ Int} (w : wDf m q) (hi : m 7 < kM 7) (ok : isOkS (rC7 T n m q st).1) : wDf (mUp m 7) (rC7 T n m q st).2 := by
  unfold rC7 at ok ⊢
  dsimp only at ok ⊢
  obtain ⟨wA, wB, wC, wD, wE, wF, wG, wH, wI, wJ⟩ := w
  have wA' := mUp_r wA hi
  have r := (rdN_ok ok).2
  refine ⟨wA', (wDfB_k (fun k => by rw [hw_ne (by omega)]) wB), (wDfC_k rfl (fun k => by rw [hw_ne (by omega)]) wC), (wDfD_k rfl (fun k => by rw [hw_ne (by omega)]) (fun k => by rw [hw_ne (by omega)]) (fun k => by rw [hw_ne (by omega)]) (fun k => by rw [hw_ne (by omega)]) wD), (wDfE_k rfl (fun k => by rw [hw_ne (by omega)]) wE), (wDfF_k (fun k => by rw [hw_ne (by omega)]) wF), (wDfG_k rfl (fun k => by rw [hw_ne (by omega)]) wG), ?_, (wDfI_k rfl (fun k => by rw [hw_ne (by omega)]) (fun k => by rw [hw_ne (by omega)]) (fun k => by rw [hw_ne (by omega)]) (fun k => by rw [hw_ne (by omega)]) wI), (wDfJ_k (fun k => by rw [hw_ne (by omega)]) wJ)⟩
  unfold wDfH at wH ⊢
  intro k a b
  have b' : k < m 7 + 1 := b
  by_cases e : k = m 7
  · rw [hw_eq ⟨rfl, e⟩]
    exact r
  · rw [hw_ne (by omega)]
    exact wH k a (by omega)
theorem rC6_w {T : Int → Int} {n : Int} {m : Int → Int} {q : zH} {st : (Int × Int) ⊕ Int} (w : wDf m q) (hi : m 6 < kM 6) (ok : isOkS (rC6 T n m q st).1) : wDf (mUp m 6) (rC6 T n m q st).2 := by
  unfold rC6 at ok ⊢
  dsimp only at ok ⊢
  obtain ⟨wA, wB, wC, wD, wE, wF, wG, wH, wI, wJ⟩ := w
  have wA' := mUp_r wA hi
  have r := (rdN_ok ok).2
  refine ⟨wA', ?_, (wDfC_k rfl (fun k => by rw [hw_ne (by omega)]) wC), (wDfD_k rfl (fun k => by rw [hw_ne (by omega)]) (fun k => by rw [hw_ne (by omega)]) (fun k => by rw [hw_ne (by omega)]) (fun k => by rw [hw_ne (by omega)]) wD), (wDfE_k rfl (fun k => by rw [hw_ne (by omega)]) wE), (wDfF_k (fun k => by rw [hw_ne (by omega)]) wF), (wDfG_k rfl (fun k => by rw [hw_ne (by omega)]) wG), (wDfH_k rfl (fun k => by rw [hw_ne (by omega)]) wH), (wDfI_k rfl (fun k => by rw [hw_ne (by omega)]) (fun k => by rw [hw_ne (by omega)]) (fun k => by rw [hw_ne (by omega)]) (fun k => by rw [hw_ne (by omega)]) wI), (wDfJ_k (fun k => by rw [hw_ne (by omega)]) wJ)⟩
  unfold wDfB at wB ⊢
  refine ⟨?_, ?_, ?_, ?_, ?_⟩
  · rw [hw_eq ⟨rfl, rfl⟩]
    exact r
  · rw [hw_ne (by omega)]
    exact wB.2.1
  · rw [hw_ne (by omega)]
    exact wB.2.2.1
  · rw [hw_ne (by omega)]
    exact wB.2.2.2.1
  · rw [hw_ne (by omega)]
    exact wB.2.2.2.2
theorem rC8_w {T : Int → Int} {n : Int} {m : Int → Int} {q : zH} {st : (Int × Int) ⊕ Int} (w : wDf m q) (hi : m 8 < kM 8) (ok : isOkS (rC8 T n m q st).1) : wDf (mUp m 8) (rC8 T n m q st).2 := by
  unfold rC8 at ok ⊢
  dsimp only at ok ⊢
  obtain ⟨wA, wB, wC, wD, wE, wF, wG, wH, wI, wJ⟩ := w
  have wA' := mUp_r wA hi
  have r := (rdN_ok ok).2
  refine ⟨wA', ?_, (wDfC_k rfl (fun k => by rw [hw_ne (by omega)]) wC), (wDfD_k rfl (fun k => by rw [hw_ne (by omega)]) (fun k => by rw [hw_ne (by omega)]) (fun k => by rw [hw_ne (by omega)]) (fun k => by rw [hw_ne (by omega)]) wD), (wDfE_k rfl (fun k => by rw [hw_ne (by omega)]) wE), (wDfF_k (fun k => by rw [hw_ne (by omega)]) wF), (wDfG_k rfl (fun k => by rw [hw_ne (by omega)]) wG), (wDfH_k rfl (fun k => by rw [hw_ne (by omega)]) wH), (wDfI_k rfl (fun k => by rw [hw_ne (by omega)]) (fun k => by rw [hw_ne (by omega)]) (fun k => by rw [hw_ne (by omega)]) (fun k => by rw [hw_ne (by omega)]) wI), (wDfJ_k (fun k => by rw [hw_ne (by omega)]) wJ)⟩
  unfold wDfB at wB ⊢
  refine ⟨?_, ?_, ?_, ?_, ?_⟩
  · rw [hw_ne (by omega)]
    exact wB.1
  · rw [hw_eq ⟨rfl, rfl⟩]
    exact r
  · rw [hw_ne (by omega)]
    exact wB.2.2.1
  · rw [hw_ne (by omega)]
    exact wB.2.2.2.1
  · rw [hw_ne (by omega)]
    exact wB.2.2.2.2
theorem rC10_w {T : Int → Int} {n : Int} {m : Int → Int} {q : zH} {st : (Int × Int) ⊕ Int} (w : wDf m q) (hi : m 10 < kM 10) (ok : isOkS (rC10 T n m q st).1) : wDf (mUp m 10) (rC10 T n m q st).2 := by
  unfold rC10 at ok ⊢
  dsimp only at ok ⊢
  obtain ⟨wA, wB, wC, wD, wE, wF, wG, wH, wI, wJ⟩ := w
  have wA' := mUp_r wA hi
  have r := (rdN_ok ok).2
  refine ⟨wA', ?_, (wDfC_k rfl (fun k => by rw [hw_ne (by omega)]) wC), (wDfD_k rfl (fun k => by rw [hw_ne (by omega)]) (fun k => by rw [hw_ne (by omega)]) (fun k => by rw [hw_ne (by omega)]) (fun k => by rw [hw_ne (by omega)]) wD), (wDfE_k rfl (fun k => by rw [hw_ne (by omega)]) wE), (wDfF_k (fun k => by rw [hw_ne (by omega)]) wF), (wDfG_k rfl (fun k => by rw [hw_ne (by omega)]) wG), (wDfH_k rfl (fun k => by rw [hw_ne (by omega)]) wH), (wDfI_k rfl (fun k => by rw [hw_ne (by omega)]) (fun k => by rw [hw_ne (by omega)]) (fun k => by rw [hw_ne (by omega)]) (fun k => by rw [hw_ne (by omega)]) wI), (wDfJ_k (fun k => by rw [hw_ne (by omega)]) wJ)⟩
  unfold wDfB at wB ⊢
  refine ⟨?_, ?_, ?_, ?_, ?_⟩
  · rw [hw_ne (by omega)]
    exact wB.1
  · rw [hw_ne (by omega)]
    exact wB.2.1
  · rw [hw_eq ⟨rfl, rfl⟩]
    exact r
  · rw [hw_ne (by omega)]
    exact wB.2.2.2.1
  · rw [hw_ne (by omega)]
    exact wB.2.2.2.2
theorem rC11_w {T : Int → Int} {n : Int} {m : Int → Int} {q : zH} {st : (Int × Int) ⊕ Int} (w : wDf m q) (hi : m 11 < kM 11) (ok : isOkS (rC11 T n m q st).1) : wDf (mUp m 11) (rC11 T n m q st).2 := by
  unfold rC11 at ok ⊢
  dsimp only at ok ⊢
  obtain ⟨wA, wB, wC, wD, wE, wF, wG, wH, wI, wJ⟩ := w
  have wA' := mUp_r wA hi
  have r := (rdN_ok ok).2
  have r2 := (rdN_ok (rdN_ok ok).1).2
  refine ⟨wA', ?_, (wDfC_k rfl (fun k => by rw [hw_ne (by omega), hw_ne (by omega)]) wC), (wDfD_k rfl (fun k => by rw [hw_ne (by omega), hw_ne (by omega)]) (fun k => by rw [hw_ne (by omega), hw_ne (by omega)]) (fun k => by rw [hw_ne (by omega), hw_ne (by omega)]) (fun k => by rw [hw_ne (by omega), hw_ne (by omega)]) wD), (wDfE_k rfl (fun k => by rw [hw_ne (by omega), hw_ne (by omega)]) wE), (wDfF_k (fun k => by rw [hw_ne (by omega), hw_ne (by omega)]) wF), (wDfG_k rfl (fun k => by rw [hw_ne (by omega), hw_ne (by omega)]) wG), (wDfH_k rfl (fun k => by rw [hw_ne (by omega), hw_ne (by omega)]) wH), (wDfI_k rfl (fun k => by rw [hw_ne (by omega), hw_ne (by omega)]) (fun k => by rw [hw_ne (by omega), hw_ne (by omega)]) (fun k => by rw [hw_ne (by omega), hw_ne (by omega)]) (fun k => by rw [hw_ne (by omega), hw_ne (by omega)]) wI), (wDfJ_k (fun k => by rw [hw_ne (by omega), hw_ne (by omega)]) wJ)⟩
  unfold wDfB at wB ⊢
  refine ⟨?_, ?_, ?_, ?_, ?_⟩
  · rw [hw_ne (by omega), hw_ne (by omega)]
    exact wB.1
  · rw [hw_ne (by omega), hw_ne (by omega)]
    exact wB.2.1
  · rw [hw_ne (by omega), hw_ne (by omega)]
    exact wB.2.2.1
  · rw [hw_ne (by omega), hw_eq ⟨rfl, rfl⟩]
    exact r2
  · rw [hw_eq ⟨rfl, rfl⟩]
    exact r
theorem rC1_w {T : Int → Int} {n : Int} {m : Int → Int} {q : zH} {st : (Int × Int) ⊕ Int} (w : wDf m q) (hi : m 1 < kM 1) (ok : isOkS (rC1 T n m q st).1) : wDf (mUp m 1) (rC1 T n m q st).2 := by
  unfold rC1 at ok ⊢
  dsimp only at ok ⊢
  obtain ⟨wA, wB, wC, wD, wE, wF, wG, wH, wI, wJ⟩ := w
  have wA' := mUp_r wA hi
  have ok3 := rdN_ok ok
  have ok2 := rdN_ok ok3.1
  have ok1 := rdN_ok ok2.1
  have ok0 := rdN_ok ok1.1
  refine ⟨wA', (wDfB_k (fun k => by rw [hw_ne (by omega), hw_ne (by omega), hw_ne (by omega), hw_ne (by omega)]) wB), (wDfC_k rfl (fun k => by rw [hw_ne (by omega), hw_ne (by omega), hw_ne (by omega), hw_ne (by omega)]) wC), ?_, ?_, (wDfF_k (fun k => by rw [hw_ne (by omega), hw_ne (by omega), hw_ne (by omega), hw_ne (by omega)]) wF), (wDfG_k rfl (fun k => by rw [hw_ne (by omega), hw_ne (by omega), hw_ne (by omega), hw_ne (by omega)]) wG), (wDfH_k rfl (fun k => by rw [hw_ne (by omega), hw_ne (by omega), hw_ne (by omega), hw_ne (by omega)]) wH), (wDfI_k rfl (fun k => by rw [hw_ne (by omega), hw_ne (by omega), hw_ne (by omega), hw_ne (by omega)]) (fun k => by rw [hw_ne (by omega), hw_ne (by omega), hw_ne (by omega), hw_ne (by omega)]) (fun k => by rw [hw_ne (by omega), hw_ne (by omega), hw_ne (by omega), hw_ne (by omega)]) (fun k => by rw [hw_ne (by omega), hw_ne (by omega), hw_ne (by omega), hw_ne (by omega)]) wI), (wDfJ_k (fun k => by rw [hw_ne (by omega), hw_ne (by omega), hw_ne (by omega), hw_ne (by omega)]) wJ)⟩
  · unfold wDfD at wD ⊢
    intro k a b
    have b' : k < m 1 + 1 := b
    by_cases e : k = m 1
    · refine ⟨?_, ?_, ?_, ?_⟩
      · rw [hw_ne (by omega), hw_ne (by omega), hw_ne (by omega), hw_eq ⟨rfl, e⟩]
        exact ok0.2
      · rw [hw_ne (by omega), hw_ne (by omega), hw_eq ⟨rfl, e⟩]
        exact ok1.2
      · rw [hw_ne (by omega), hw_eq ⟨rfl, e⟩]
        exact ok2.2
      · rw [hw_eq ⟨rfl, e⟩]
        exact ok3.2
    · rw [hw_ne (by omega), hw_ne (by omega), hw_ne (by omega), hw_ne (by omega), hw_ne (by omega), hw_ne (by omega), hw_ne (by omega), hw_ne (by omega), hw_ne (by omega), hw_ne (by omega), hw_ne (by omega), hw_ne (by omega), hw_ne (by omega), hw_ne (by omega), hw_ne (by omega), hw_ne (by omega)]
      exact wD k a (by omega)
  · unfold wDfE at wE ⊢
    intro k a b
    rw [hw_ne (by omega), hw_ne (by omega), hw_ne (by omega), hw_ne (by omega)]
    exact ⟨(wE k a b).1, fun v => (wE k a b).2 (by have v' : m 1 + 1 ≤ k := v; omega)⟩
theorem rC9_w {T : Int → Int} {n : Int} {m : Int → Int} {q : zH} {st : (Int × Int) ⊕ Int} (w : wDf m q) (hi : m 9 < kM 9) (ok : isOkS (rC9 T n m q st).1) : wDf (mUp m 9) (rC9 T n m q st).2 := by
  unfold rC9 at ok ⊢
  dsimp only at ok ⊢
  obtain ⟨wA, wB, wC, wD, wE, wF, wG, wH, wI, wJ⟩ := w
  have wA' := mUp_r wA hi
  have ok3 := rdN_ok ok
  have ok2 := rdN_ok ok3.1
  have ok1 := rdN_ok ok2.1
  have ok0 := rdN_ok ok1.1
  refine ⟨wA', (wDfB_k (fun k => by rw [hw_ne (by omega), hw_ne (by omega), hw_ne (by omega), hw_ne (by omega)]) wB), (wDfC_k rfl (fun k => by rw [hw_ne (by omega), hw_ne (by omega), hw_ne (by omega), hw_ne (by omega)]) wC), (wDfD_k rfl (fun k => by rw [hw_ne (by omega), hw_ne (by omega), hw_ne (by omega), hw_ne (by omega)]) (fun k => by rw [hw_ne (by omega), hw_ne (by omega), hw_ne (by omega), hw_ne (by omega)]) (fun k => by rw [hw_ne (by omega), hw_ne (by omega), hw_ne (by omega), hw_ne (by omega)]) (fun k => by rw [hw_ne (by omega), hw_ne (by omega), hw_ne (by omega), hw_ne (by omega)]) wD), (wDfE_k rfl (fun k => by rw [hw_ne (by omega), hw_ne (by omega), hw_ne (by omega), hw_ne (by omega)]) wE), (wDfF_k (fun k => by rw [hw_ne (by omega), hw_ne (by omega), hw_ne (by omega), hw_ne (by omega)]) wF), (wDfG_k rfl (fun k => by rw [hw_ne (by omega), hw_ne (by omega), hw_ne (by omega), hw_ne (by omega)]) wG), (wDfH_k rfl (fun k => by rw [hw_ne (by omega), hw_ne (by omega), hw_ne (by omega), hw_ne (by omega)]) wH), ?_, (wDfJ_k (fun k => by rw [hw_ne (by omega), hw_ne (by omega), hw_ne (by omega), hw_ne (by omega)]) wJ)⟩
  · unfold wDfI at wI ⊢
    intro k a b
    have b' : k < m 9 + 1 := b
    by_cases e : k = m 9
    · refine ⟨?_, ?_, ?_, ?_⟩
      · rw [hw_ne (by omega), hw_ne (by omega), hw_ne (by omega), hw_eq ⟨rfl, e⟩]
        exact ok0.2
      · rw [hw_ne (by omega), hw_ne (by omega), hw_eq ⟨rfl, e⟩]
        exact ok1.2
      · rw [hw_ne (by omega), hw_eq ⟨rfl, e⟩]
        exact ok2.2
      · rw [hw_eq ⟨rfl, e⟩]
        exact ok3.2
    · rw [hw_ne (by omega), hw_ne (by omega), hw_ne (by omega), hw_ne (by omega), hw_ne (by omega), hw_ne (by omega), hw_ne (by omega), hw_ne (by omega), hw_ne (by omega), hw_ne (by omega), hw_ne (by omega), hw_ne (by omega), hw_ne (by omega), hw_ne (by omega), hw_ne (by omega), hw_ne (by omega)]
      exact wI k a (by omega)
theorem rC2_w {T : Int → Int} {n : Int} {m : Int → Int} {q : zH} {st : (Int × Int) ⊕ Int} (w : wDf m q) (hi : m 2 < kM 2) (ok : isOkS (rC2 T n m q st).1) : wDf (mUp m 2) (rC2 T n m q st).2 := by
  unfold rC2 at ok ⊢
  dsimp only at ok ⊢
  obtain ⟨wA, wB, wC, wD, wE, wF, wG, wH, wI, wJ⟩ := w
  have wA' := mUp_r wA hi
  have ok2 := rdN_ok ok
  have ok1 := rdN_ok ok2.1
  refine ⟨wA', (wDfB_k (fun k => by rw [hw_ne (by omega)]) wB), (wDfC_k rfl (fun k => by rw [hw_ne (by omega)]) wC), (wDfD_k rfl (fun k => by rw [hw_ne (by omega)]) (fun k => by rw [hw_ne (by omega)]) (fun k => by rw [hw_ne (by omega)]) (fun k => by rw [hw_ne (by omega)]) wD), ?_, (wDfF_k (fun k => by rw [hw_ne (by omega)]) wF), (wDfG_k rfl (fun k => by rw [hw_ne (by omega)]) wG), (wDfH_k rfl (fun k => by rw [hw_ne (by omega)]) wH), (wDfI_k rfl (fun k => by rw [hw_ne (by omega)]) (fun k => by rw [hw_ne (by omega)]) (fun k => by rw [hw_ne (by omega)]) (fun k => by rw [hw_ne (by omega)]) wI), (wDfJ_k (fun k => by rw [hw_ne (by omega)]) wJ)⟩
  unfold wDfE at wE ⊢
  intro k a b
  by_cases e : k = (rdN T n 0 (m 1 - 1) st).2
  · rw [hw_eq ⟨rfl, e⟩, ← e]
    rw [← e] at ok1 ok2
    have x := wE k a b
    refine ⟨zOr_r (n := k.toNat) (by omega) x.1.1 x.1.2 ok2.2.1 (by omega), fun v => ?_⟩
    have v' : m 1 ≤ k := v
    omega
  · rw [hw_ne (by omega)]
    exact wE k a b
theorem rC4_w {T : Int → Int} {n : Int} {m : Int → Int} {q : zH} {st : (Int × Int) ⊕ Int} (w : wDf m q) (hi : m 4 < kM 4) (ok : isOkS (rC4 T n m q st).1) : wDf (mUp m 4) (rC4 T n m q st).2 := by
  unfold rC4 at ok ⊢
  dsimp only at ok ⊢
  obtain ⟨wA, wB, wC, wD, wE, wF, wG, wH, wI, wJ⟩ := w
  have wA' := mUp_r wA hi
  have ok2 := rdN_ok ok
  have ok1 := rdN_ok ok2.1
  refine ⟨wA', (wDfB_k (fun k => by rw [hw_ne (by omega)]) wB), (wDfC_k rfl (fun k => by rw [hw_ne (by omega)]) wC), (wDfD_k rfl (fun k => by rw [hw_ne (by omega)]) (fun k => by rw [hw_ne (by omega)]) (fun k => by rw [hw_ne (by omega)]) (fun k => by rw [hw_ne (by omega)]) wD), (wDfE_k rfl (fun k => by rw [hw_ne (by omega)]) wE), ?_, (wDfG_k rfl (fun k => by rw [hw_ne (by omega)]) wG), (wDfH_k rfl (fun k => by rw [hw_ne (by omega)]) wH), (wDfI_k rfl (fun k => by rw [hw_ne (by omega)]) (fun k => by rw [hw_ne (by omega)]) (fun k => by rw [hw_ne (by omega)]) (fun k => by rw [hw_ne (by omega)]) wI), (wDfJ_k (fun k => by rw [hw_ne (by omega)]) wJ)⟩
  unfold wDfF at wF ⊢
  intro k a b
  by_cases e : k = (rdN T n 0 59 st).2
  · rw [hw_eq ⟨rfl, e⟩]
    exact ok2.2
  · rw [hw_ne (by omega)]
    exact wF k a b
theorem rC3_w {T : Int → Int} {n : Int} {m : Int → Int} {q : zH} {st : (Int × Int) ⊕ Int} (w : wDf m q) (hi : m 3 < kM 3) (ok : isOkS (rC3 T n m q st).1) : wDf (mUp m 3) (rC3 T n m q st).2 := by
  unfold rC3 at ok ⊢
  dsimp only at ok ⊢
  obtain ⟨wA, wB, wC, wD, wE, wF, wG, wH, wI, wJ⟩ := w
  have wA' := mUp_r wA hi
  refine ⟨wA', (wDfB_k (fun k => if_neg (by omega)) wB), (wDfC_k rfl (fun k => if_neg (by omega)) wC), (wDfD_k rfl (fun k => if_neg (by omega)) (fun k => if_neg (by omega)) (fun k => if_neg (by omega)) (fun k => if_neg (by omega)) wD), (wDfE_k rfl (fun k => if_neg (by omega)) wE), (wDfF_k (fun k => if_neg (by omega)) wF), (wDfG_k rfl (fun k => if_neg (by omega)) wG), (wDfH_k rfl (fun k => if_neg (by omega)) wH), (wDfI_k rfl (fun k => if_neg (by omega)) (fun k => if_neg (by omega)) (fun k => if_neg (by omega)) (fun k => if_neg (by omega)) wI), ?_⟩
  unfold wDfJ at wJ ⊢
  intro k a b
  dsimp only
  split
  · omega
  · exact wJ k a b
theorem rC_w {T : Int → Int} {n kd : Int} {m : Int → Int} {q : zH} {st : (Int × Int) ⊕ Int} (hk : 0 ≤ kd ∧ kd ≤ 11) (w : wDf m q) (hi : m kd < kM kd) (ok : isOkS (rC T n kd m q st).1) : wDf (mUp m kd) (rC T n kd m q st).2 := by
  have : kd = 0 ∨ kd = 1 ∨ kd = 2 ∨ kd = 3 ∨ kd = 4 ∨ kd = 5 ∨ kd = 6 ∨ kd = 7 ∨ kd = 8 ∨ kd = 9 ∨ kd = 10 ∨ kd = 11 := by omega
  rcases this with e | e | e | e | e | e | e | e | e | e | e | e <;> subst e
  · exact rC0_w w hi ok
  · exact rC1_w w hi ok
  · exact rC2_w w hi ok
  · exact rC3_w w hi ok
  · exact rC4_w w hi ok
  · exact rC5_w w hi ok
  · exact rC6_w w hi ok
  · exact rC7_w w hi ok
  · exact rC8_w w hi ok
  · exact rC9_w w hi ok
  · exact rC10_w w hi ok
  · exact rC11_w w hi ok
/-- the road that is told by a draft -/
def rEnd (m : Int → Int) (q : zH) : zH := fun o k => if o = 0 ∧ k = 0 then m 0 else if o = 0 ∧ k = 1 then m 1 else if o = 0 ∧ k = 2 then m 5 else if o = 0 ∧ k = 3 then m 7 else if o = 0 ∧ k = 4 then m 9 else q o k
theorem rEnd_o {m : Int → Int} {q : zH} {o k : Int} (h : ¬ (o = 0 ∧ 0 ≤ k ∧ k ≤ 4)) : rEnd m q o k = q o k := by
  unfold rEnd
  rw [if_neg (by omega), if_neg (by omega), if_neg (by omega), if_neg (by omega), if_neg (by omega)]
theorem rEnd_r {m : Int → Int} {q : zH} {o : Int} (h : o ≠ 0) : rEnd m q o = q o := funext (fun k => rEnd_o (by omega))
theorem rEnd_w {m : Int → Int} {q : zH} (w : wDf m q) : wRoad (rEnd m q) := by
  obtain ⟨wA, wB, wC, wD, wE, wF, wG, wH, wI, wJ⟩ := w
  have a0 := wA 0 (by decide) (by decide)
  have a1 := wA 1 (by decide) (by decide)
  have a5 := wA 5 (by decide) (by decide)
  have a7 := wA 7 (by decide) (by decide)
  have a9 := wA 9 (by decide) (by decide)
  have e0 : rEnd m q 0 0 = m 0 := rfl
  have e1 : rEnd m q 0 1 = m 1 := rfl
  have e2 : rEnd m q 0 2 = m 5 := rfl
  have e3 : rEnd m q 0 3 = m 7 := rfl
  have e4 : rEnd m q 0 4 = m 9 := rfl
  unfold wDfB wDfC wDfD wDfE wDfF wDfG wDfH wDfI wDfJ at *
  unfold wRoad
  rw [rEnd_r (o := 1) (by decide), rEnd_r (o := 2) (by decide), rEnd_r (o := 3) (by decide), rEnd_r (o := 4) (by decide), rEnd_r (o := 5) (by decide), rEnd_r (o := 6) (by decide), rEnd_r (o := 7) (by decide), rEnd_r (o := 8) (by decide), rEnd_r (o := 9) (by decide), rEnd_r (o := 10) (by decide), rEnd_r (o := 11) (by decide), rEnd_r (o := 12) (by decide), rEnd_r (o := 13) (by decide), rEnd_r (o := 14) (by decide)]
  rw [rEnd_o (k := 5) (by decide), rEnd_o (k := 6) (by decide), rEnd_o (k := 7) (by decide), rEnd_o (k := 8) (by decide), rEnd_o (k := 9) (by decide), e0, e1, e2, e3, e4]
  exact ⟨a0, a1, a5, a7, a9, wB.1, wB.2.1, wB.2.2.1, wB.2.2.2.1, wB.2.2.2.2, wC, fun k x y => ⟨(wD k x y).1, (wD k x y).2.1, (wD k x y).2.2.1, (wD k x y).2.2.2, (wE k x (by have : kM 1 = 12 := rfl; omega)).1⟩, wF, wG, wH, wI, wJ⟩
/-- a clause keeps the bounds -/
theorem rCl_w {T : Int → Int} {n i a : Int} {m : Int → Int} {q : zH} (w : wDf m q) (ok : isOkS (rCl T n i m q a).1) : wDf (rCl T n i m q a).2.1 (rCl T n i m q a).2.2 := by
  unfold rCl at ok ⊢
  have kr := kOf_r (wH T (nB T n a) (wE T n a))
  rw [show kOf (wH T (nB T n a) (wE T n a)) = kW T n a from rfl] at kr
  by_cases h1 : kW T n a = -1
  · rw [if_pos h1] at ok
    exact absurd ok (fun x => x)
  · rw [if_neg h1] at ok ⊢
    by_cases h2 : 60 ≤ i ∨ kM (kW T n a) ≤ m (kW T n a)
    · rw [if_pos h2] at ok
      exact absurd ok (fun x => x)
    · rw [if_neg h2] at ok ⊢
      exact rC_w (by omega) w (by omega) (rdX_ok ok)
/-- the counts in any case -/
theorem rCl_m {T : Int → Int} {n i a : Int} {m : Int → Int} {q : zH} (w : ∀ k : Int, 0 ≤ k → k < 12 → 0 ≤ m k ∧ m k ≤ kM k) : ∀ k : Int, 0 ≤ k → k < 12 → 0 ≤ (rCl T n i m q a).2.1 k ∧ (rCl T n i m q a).2.1 k ≤ kM k := by
  unfold rCl
  by_cases h1 : kW T n a = -1
  · rw [if_pos h1]
    exact w
  · rw [if_neg h1]
    by_cases h2 : 60 ≤ i ∨ kM (kW T n a) ≤ m (kW T n a)
    · rw [if_pos h2]
      exact w
    · rw [if_neg h2]
      exact mUp_r w (by omega)
theorem nB_W {T : Int → Int} {n a : Int} (h : a ≤ n) : kW T n (nB T n a) = kW T n a := by
  unfold kW
  rw [nB_i h, wE_i h]
theorem rCl_i {T : Int → Int} {n i a : Int} {m : Int → Int} {q : zH} (h : a ≤ n) : rCl T n i m q (nB T n a) = rCl T n i m q a := by
  unfold rCl
  rw [nB_W h, nB_i h, wE_i h]
/-- places of faults -/
def stK (st : (Int × Int) ⊕ Int) (n : Int) : Prop := match st with
  | .inl f => (1 ≤ f.1 ∧ f.1 ≤ 3) ∧ 0 ≤ f.2
  | .inr a => 0 ≤ a ∧ a ≤ n
theorem rdN_K {T : Int → Int} {n lo hi : Int} {st : (Int × Int) ⊕ Int} (w : stK st n) : stK (rdN T n lo hi st).1 n := by
  cases st with
  | inl f => exact w
  | inr a =>
    unfold rdN
    dsimp only
    cases e : nF T n a lo hi with
    | some f =>
      have := nF_K (K := f.1) (PL := f.2) w.1 w.2 e
      show (1 ≤ f.1 ∧ f.1 ≤ 3) ∧ 0 ≤ f.2
      omega
    | none =>
      have := nBE (T := T) w.2
      have w' : 0 ≤ a ∧ a ≤ n := w
      show 0 ≤ nE T n a ∧ nE T n a ≤ n
      omega
theorem rdX_K {T : Int → Int} {n s : Int} {st : (Int × Int) ⊕ Int} (w : stK st n) : stK (rdX T n s st) n := by
  cases st with
  | inl f => exact w
  | inr a =>
    unfold rdX
    dsimp only
    cases e : xF T n a s with
    | some f =>
      have := xF_K (K := f.1) (PL := f.2) w.1 w.2 e
      show (1 ≤ f.1 ∧ f.1 ≤ 3) ∧ 0 ≤ f.2
      omega
    | none =>
      have := xF_n e
      have h2 := nBE (T := T) w.2
      have w' : 0 ≤ a ∧ a ≤ n := w
      show 0 ≤ nB T n a + 1 ∧ nB T n a + 1 ≤ n
      omega
