/-! the road's text: the reference's draft, things -/
def mDs (o j : Int) : Prop := (o = 113 ∧ 26 ≤ j ∧ j ≤ 31) ∨ (116 ≤ o ∧ o ≤ 121) ∨ o = 128 ∨ o = 130
def mCn (h : zH) (m : Int → Int) : Prop := h 113 26 = m 0 ∧ h 113 27 = m 1 ∧ h 113 28 = m 3 ∧ h 113 29 = m 5 ∧ h 113 30 = m 7 ∧ h 113 31 = m 9
def mDrA (h q : zH) (m : Int → Int) : Prop := h 130 0 = q 0 5 ∧ h 130 1 = q 0 6 ∧ h 130 2 = q 0 7 ∧ h 130 3 = q 0 8 ∧ h 130 4 = q 0 9
def mDrB (h q : zH) (m : Int → Int) : Prop := ∀ k : Int, 0 ≤ k → k < m 0 → h 116 k = q 1 k
def mDrC (h q : zH) (m : Int → Int) : Prop := ∀ k : Int, 0 ≤ k → k < m 1 → h 117 (5 * k) = q 2 k ∧ h 117 (5 * k + 1) = q 3 k ∧ h 117 (5 * k + 2) = q 4 k ∧ h 117 (5 * k + 3) = q 5 k ∧ h 117 (5 * k + 4) = q 6 k
def mDrD (h q : zH) (m : Int → Int) : Prop := ∀ k : Int, 0 ≤ k → k < 60 → h 118 k = q 7 k
def mDrE (h q : zH) (m : Int → Int) : Prop := ∀ k : Int, 0 ≤ k → k < m 5 → h 119 k = q 8 k
def mDrF (h q : zH) (m : Int → Int) : Prop := ∀ k : Int, 0 ≤ k → k < m 7 → h 120 k = q 9 k
def mDrG (h q : zH) (m : Int → Int) : Prop := ∀ k : Int, 0 ≤ k → k < m 9 → h 121 (4 * k) = q 10 k ∧ h 121 (4 * k + 1) = q 11 k ∧ h 121 (4 * k + 2) = q 12 k ∧ h 121 (4 * k + 3) = q 13 k
def mDrH (h q : zH) (m : Int → Int) : Prop := ∀ k : Int, 0 ≤ k → k < 241 → h 128 k = q 14 k
def mDr (h q : zH) (m : Int → Int) : Prop := mDrA h q m ∧ mDrB h q m ∧ mDrC h q m ∧ mDrD h q m ∧ mDrE h q m ∧ mDrF h q m ∧ mDrG h q m ∧ mDrH h q m
theorem mDrA_k {h h' q q' : zH} {m m' : Int → Int} (eh : ∀ j, h' 130 j = h 130 j) (e0 : ∀ k, q' 0 k = q 0 k) (w : mDrA h q m) : mDrA h' q' m' := by
  unfold mDrA at w ⊢
  rw [eh, eh, eh, eh, eh, e0, e0, e0, e0, e0]
  exact w
theorem mDrB_k {h h' q q' : zH} {m m' : Int → Int} (em : m' 0 = m 0) (eh : ∀ j, h' 116 j = h 116 j) (e1 : ∀ k, q' 1 k = q 1 k) (w : mDrB h q m) : mDrB h' q' m' := by
  unfold mDrB at w ⊢
  intro k a b
  rw [em] at b
  rw [eh, e1]
  exact w k a b
theorem mDrC_k {h h' q q' : zH} {m m' : Int → Int} (em : m' 1 = m 1) (eh : ∀ j, h' 117 j = h 117 j) (e2 : ∀ k, q' 2 k = q 2 k) (e3 : ∀ k, q' 3 k = q 3 k) (e4 : ∀ k, q' 4 k = q 4 k) (e5 : ∀ k, q' 5 k = q 5 k) (e6 : ∀ k, q' 6 k = q 6 k) (w : mDrC h q m) : mDrC h' q' m' := by
  unfold mDrC at w ⊢
  intro k a b
  rw [em] at b
  rw [eh, eh, eh, eh, eh, e2, e3, e4, e5, e6]
  exact w k a b
theorem mDrD_k {h h' q q' : zH} {m m' : Int → Int} (eh : ∀ j, h' 118 j = h 118 j) (e7 : ∀ k, q' 7 k = q 7 k) (w : mDrD h q m) : mDrD h' q' m' := by
  unfold mDrD at w ⊢
  intro k a b
  rw [eh, e7]
  exact w k a b
theorem mDrE_k {h h' q q' : zH} {m m' : Int → Int} (em : m' 5 = m 5) (eh : ∀ j, h' 119 j = h 119 j) (e8 : ∀ k, q' 8 k = q 8 k) (w : mDrE h q m) : mDrE h' q' m' := by
  unfold mDrE at w ⊢
  intro k a b
  rw [em] at b
  rw [eh, e8]
  exact w k a b
theorem mDrF_k {h h' q q' : zH} {m m' : Int → Int} (em : m' 7 = m 7) (eh : ∀ j, h' 120 j = h 120 j) (e9 : ∀ k, q' 9 k = q 9 k) (w : mDrF h q m) : mDrF h' q' m' := by
  unfold mDrF at w ⊢
  intro k a b
  rw [em] at b
  rw [eh, e9]
  exact w k a b
theorem mDrG_k {h h' q q' : zH} {m m' : Int → Int} (em : m' 9 = m 9) (eh : ∀ j, h' 121 j = h 121 j) (e10 : ∀ k, q' 10 k = q 10 k) (e11 : ∀ k, q' 11 k = q 11 k) (e12 : ∀ k, q' 12 k = q 12 k) (e13 : ∀ k, q' 13 k = q 13 k) (w : mDrG h q m) : mDrG h' q' m' := by
  unfold mDrG at w ⊢
  intro k a b
  rw [em] at b
  rw [eh, eh, eh, eh, e10, e11, e12, e13]
  exact w k a b
theorem mDrH_k {h h' q q' : zH} {m m' : Int → Int} (eh : ∀ j, h' 128 j = h 128 j) (e14 : ∀ k, q' 14 k = q 14 k) (w : mDrH h q m) : mDrH h' q' m' := by
  unfold mDrH at w ⊢
  intro k a b
  rw [eh, e14]
  exact w k a b
theorem mDr_fr {h h' q : zH} {m : Int → Int} (fr : ∀ o j, (116 ≤ o ∧ o ≤ 121) ∨ o = 128 ∨ o = 130 → h' o j = h o j) (w : mDr h q m) : mDr h' q m := by
  obtain ⟨a, b, c, d, e, f, g, i⟩ := w
  exact ⟨mDrA_k (fun j => fr _ _ (by omega)) (fun _ => rfl) a, mDrB_k rfl (fun j => fr _ _ (by omega)) (fun _ => rfl) b, mDrC_k rfl (fun j => fr _ _ (by omega)) (fun _ => rfl) (fun _ => rfl) (fun _ => rfl) (fun _ => rfl) (fun _ => rfl) c, mDrD_k (fun j => fr _ _ (by omega)) (fun _ => rfl) d, mDrE_k rfl (fun j => fr _ _ (by omega)) (fun _ => rfl) e, mDrF_k rfl (fun j => fr _ _ (by omega)) (fun _ => rfl) f, mDrG_k rfl (fun j => fr _ _ (by omega)) (fun _ => rfl) (fun _ => rfl) (fun _ => rfl) (fun _ => rfl) g, mDrH_k (fun j => fr _ _ (by omega)) (fun _ => rfl) i⟩
theorem mCn_fr {h h' : zH} {m : Int → Int} (fr : ∀ j, 26 ≤ j → j ≤ 31 → h' 113 j = h 113 j) (w : mCn h m) : mCn h' m := by
  unfold mCn at w ⊢
  rw [fr _ (by decide) (by decide), fr _ (by decide) (by decide), fr _ (by decide) (by decide), fr _ (by decide) (by decide), fr _ (by decide) (by decide), fr _ (by decide) (by decide)]
  exact w
theorem mtw {h : zH} {T : Int → Int} {n a b v : Int} (e : ¬ (a = 113 ∧ b = 3) ∧ a ≠ 115) (m : mTape h T n) : mTape (hw h a b v) T n :=
  ⟨by rw [hw_ne (by omega)]; exact m.1, fun k x y => by rw [hw_ne (by omega)]; exact m.2 k x y⟩
theorem mpw {h : zH} {n a b v : Int} {st : (Int × Int) ⊕ Int} (e : ¬ (a = 113 ∧ 4 ≤ b ∧ b ≤ 6)) (m : mPs h n st) : mPs (hw h a b v) n st :=
  mPs_fr ⟨hw_ne (by omega), hw_ne (by omega), hw_ne (by omega)⟩ m
theorem s_235_0 {d c : Nat} {T : Int → Int} {n : Int} (wt : wTape T n) {R : Int → Nat → zH → Prop} {X : Nat → Nat → zH → Prop} {h q : zH} {m : Int → Int} {st : (Int × Int) ⊕ Int} (mt : mTape h T n) (ps : mPs h n st) (dr : mDr h q m) (cn : mCn h m) (wd : wDf m q) (hi : 0 ≤ m 0 ∧ m 0 < 4) (K : ∀ h', (∀ o j, ¬ mTs o j → ¬ mDs o j → h' o j = h o j) → mPs h' n (rC0 T n m q st).1 → (isOkS (rC0 T n m q st).1 → mDr h' (rC0 T n m q st).2 (mUp m 0) ∧ mCn h' (mUp m 0)) → R 0 c h') : zCl (d + 2) 235 [(2, 113), (0, wC 1)] c h R X := by
  unfold rC0 at K
  dsimp only at K
  obtain ⟨dA, dB, dC, dD, dE, dF, dG, dH⟩ := dr
  have cn0 := cn
  obtain ⟨c0, c1, c3, c5, c7, c9⟩ := cn0
  refine b_235 ?_
  refine s_230 (wOk_j (by decide) (by decide) (by decide)) ⟨fun w => absurd (by decide +kernel) w, fun _ => ?_⟩
  rw [c0]
  refine m_236 wt (by decide) (by decide) mt ps (fun h1 f1 p1 => ?_)
  rw [f1 113 26 (by unfold mTs; omega), c0, w32_e (by omega) (by omega)]
  refine ⟨hi, K _ (fun o j a b => by rw [hw_ne (by unfold mDs at b; omega), hw_ne (by unfold mDs at b; omega), f1 o j a]) (mpw (by omega) (mpw (by omega) p1)) (fun ok => ⟨?_, ?_⟩)⟩
  · refine ⟨(mDrA_k (fun j => by rw [hw_ne (by omega), hw_ne (by omega), f1 _ _ (by unfold mTs; omega)]) (fun k => hw_ne (by omega)) dA), ?_, (mDrC_k rfl (fun j => by rw [hw_ne (by omega), hw_ne (by omega), f1 _ _ (by unfold mTs; omega)]) (fun k => hw_ne (by omega)) (fun k => hw_ne (by omega)) (fun k => hw_ne (by omega)) (fun k => hw_ne (by omega)) (fun k => hw_ne (by omega)) dC), (mDrD_k (fun j => by rw [hw_ne (by omega), hw_ne (by omega), f1 _ _ (by unfold mTs; omega)]) (fun k => hw_ne (by omega)) dD), (mDrE_k rfl (fun j => by rw [hw_ne (by omega), hw_ne (by omega), f1 _ _ (by unfold mTs; omega)]) (fun k => hw_ne (by omega)) dE), (mDrF_k rfl (fun j => by rw [hw_ne (by omega), hw_ne (by omega), f1 _ _ (by unfold mTs; omega)]) (fun k => hw_ne (by omega)) dF), (mDrG_k rfl (fun j => by rw [hw_ne (by omega), hw_ne (by omega), f1 _ _ (by unfold mTs; omega)]) (fun k => hw_ne (by omega)) (fun k => hw_ne (by omega)) (fun k => hw_ne (by omega)) (fun k => hw_ne (by omega)) dG), (mDrH_k (fun j => by rw [hw_ne (by omega), hw_ne (by omega), f1 _ _ (by unfold mTs; omega)]) (fun k => hw_ne (by omega)) dH)⟩
    unfold mDrB at dB ⊢
    intro k a b
    have b' : k < m 0 + 1 := b
    rw [hw_ne (by omega)]
    by_cases e : k = m 0
    · rw [hw_eq ⟨rfl, e⟩, hw_eq ⟨rfl, e⟩]
    · rw [hw_ne (by omega), hw_ne (by omega), f1 _ _ (by unfold mTs; omega)]
      exact dB k a (by omega)
  · exact ⟨by rw [hw_eq ⟨rfl, rfl⟩]; rfl, by rw [hw_ne (by omega), hw_ne (by omega), f1 _ _ (by unfold mTs; omega)]; exact c1, by rw [hw_ne (by omega), hw_ne (by omega), f1 _ _ (by unfold mTs; omega)]; exact c3, by rw [hw_ne (by omega), hw_ne (by omega), f1 _ _ (by unfold mTs; omega)]; exact c5, by rw [hw_ne (by omega), hw_ne (by omega), f1 _ _ (by unfold mTs; omega)]; exact c7, by rw [hw_ne (by omega), hw_ne (by omega), f1 _ _ (by unfold mTs; omega)]; exact c9⟩
theorem s_235_5 {d c : Nat} {T : Int → Int} {n : Int} (wt : wTape T n) {R : Int → Nat → zH → Prop} {X : Nat → Nat → zH → Prop} {h q : zH} {m : Int → Int} {st : (Int × Int) ⊕ Int} (mt : mTape h T n) (ps : mPs h n st) (dr : mDr h q m) (cn : mCn h m) (wd : wDf m q) (hi : 0 ≤ m 5 ∧ m 5 < 6) (K : ∀ h', (∀ o j, ¬ mTs o j → ¬ mDs o j → h' o j = h o j) → mPs h' n (rC5 T n m q st).1 → (isOkS (rC5 T n m q st).1 → mDr h' (rC5 T n m q st).2 (mUp m 5) ∧ mCn h' (mUp m 5)) → R 0 c h') : zCl (d + 2) 235 [(2, 113), (0, wC 6)] c h R X := by
  unfold rC5 at K
  dsimp only at K
  obtain ⟨dA, dB, dC, dD, dE, dF, dG, dH⟩ := dr
  have cn0 := cn
  obtain ⟨c0, c1, c3, c5, c7, c9⟩ := cn0
  refine b_235 ?_
  refine s_230 (wOk_j (by decide) (by decide) (by decide)) ⟨fun _ => ?_, fun w => absurd w (by decide +kernel)⟩
  refine s_230 (wOk_j (by decide) (by decide) (by decide)) ⟨fun _ => ?_, fun w => absurd w (by decide +kernel)⟩
  refine s_230 (wOk_j (by decide) (by decide) (by decide)) ⟨fun w => absurd (by decide +kernel) w, fun _ => ?_⟩
  rw [c5]
  refine m_236 wt (by decide) (by decide) mt ps (fun h1 f1 p1 => ?_)
  rw [f1 113 29 (by unfold mTs; omega), c5, w32_e (by omega) (by omega)]
  refine ⟨hi, K _ (fun o j a b => by rw [hw_ne (by unfold mDs at b; omega), hw_ne (by unfold mDs at b; omega), f1 o j a]) (mpw (by omega) (mpw (by omega) p1)) (fun ok => ⟨?_, ?_⟩)⟩
  · refine ⟨(mDrA_k (fun j => by rw [hw_ne (by omega), hw_ne (by omega), f1 _ _ (by unfold mTs; omega)]) (fun k => hw_ne (by omega)) dA), (mDrB_k rfl (fun j => by rw [hw_ne (by omega), hw_ne (by omega), f1 _ _ (by unfold mTs; omega)]) (fun k => hw_ne (by omega)) dB), (mDrC_k rfl (fun j => by rw [hw_ne (by omega), hw_ne (by omega), f1 _ _ (by unfold mTs; omega)]) (fun k => hw_ne (by omega)) (fun k => hw_ne (by omega)) (fun k => hw_ne (by omega)) (fun k => hw_ne (by omega)) (fun k => hw_ne (by omega)) dC), (mDrD_k (fun j => by rw [hw_ne (by omega), hw_ne (by omega), f1 _ _ (by unfold mTs; omega)]) (fun k => hw_ne (by omega)) dD), ?_, (mDrF_k rfl (fun j => by rw [hw_ne (by omega), hw_ne (by omega), f1 _ _ (by unfold mTs; omega)]) (fun k => hw_ne (by omega)) dF), (mDrG_k rfl (fun j => by rw [hw_ne (by omega), hw_ne (by omega), f1 _ _ (by unfold mTs; omega)]) (fun k => hw_ne (by omega)) (fun k => hw_ne (by omega)) (fun k => hw_ne (by omega)) (fun k => hw_ne (by omega)) dG), (mDrH_k (fun j => by rw [hw_ne (by omega), hw_ne (by omega), f1 _ _ (by unfold mTs; omega)]) (fun k => hw_ne (by omega)) dH)⟩
    unfold mDrE at dE ⊢
    intro k a b
    have b' : k < m 5 + 1 := b
    rw [hw_ne (by omega)]
    by_cases e : k = m 5
    · rw [hw_eq ⟨rfl, e⟩, hw_eq ⟨rfl, e⟩]
    · rw [hw_ne (by omega), hw_ne (by omega), f1 _ _ (by unfold mTs; omega)]
      exact dE k a (by omega)
  · exact ⟨by rw [hw_ne (by omega), hw_ne (by omega), f1 _ _ (by unfold mTs; omega)]; exact c0, by rw [hw_ne (by omega), hw_ne (by omega), f1 _ _ (by unfold mTs; omega)]; exact c1, by rw [hw_ne (by omega), hw_ne (by omega), f1 _ _ (by unfold mTs; omega)]; exact c3, by rw [hw_eq ⟨rfl, rfl⟩]; rfl, by rw [hw_ne (by omega), hw_ne (by omega), f1 _ _ (by unfold mTs; omega)]; exact c7, by rw [hw_ne (by omega), hw_ne (by omega), f1 _ _ (by unfold mTs; omega)]; exact c9⟩
theorem s_235_7 {d c : Nat} {T : Int → Int} {n : Int} (wt : wTape T n) {R : Int → Nat → zH → Prop} {X : Nat → Nat → zH → Prop} {h q : zH} {m : Int → Int} {st : (Int × Int) ⊕ Int} (mt : mTape h T n) (ps : mPs h n st) (dr : mDr h q m) (cn : mCn h m) (wd : wDf m q) (hi : 0 ≤ m 7 ∧ m 7 < 8) (K : ∀ h', (∀ o j, ¬ mTs o j → ¬ mDs o j → h' o j = h o j) → mPs h' n (rC7 T n m q st).1 → (isOkS (rC7 T n m q st).1 → mDr h' (rC7 T n m q st).2 (mUp m 7) ∧ mCn h' (mUp m 7)) → R 0 c h') : zCl (d + 2) 235 [(2, 113), (0, wC 8)] c h R X := by
  unfold rC7 at K
  dsimp only at K
  obtain ⟨dA, dB, dC, dD, dE, dF, dG, dH⟩ := dr
  have cn0 := cn
  obtain ⟨c0, c1, c3, c5, c7, c9⟩ := cn0
  refine b_235 ?_
  refine s_230 (wOk_j (by decide) (by decide) (by decide)) ⟨fun _ => ?_, fun w => absurd w (by decide +kernel)⟩
  refine s_230 (wOk_j (by decide) (by decide) (by decide)) ⟨fun _ => ?_, fun w => absurd w (by decide +kernel)⟩
  refine s_230 (wOk_j (by decide) (by decide) (by decide)) ⟨fun _ => ?_, fun w => absurd w (by decide +kernel)⟩
  refine s_230 (wOk_j (by decide) (by decide) (by decide)) ⟨fun w => absurd (by decide +kernel) w, fun _ => ?_⟩
  rw [c7]
  refine m_236 wt (by decide) (by decide) mt ps (fun h1 f1 p1 => ?_)
  rw [f1 113 30 (by unfold mTs; omega), c7, w32_e (by omega) (by omega)]
  refine ⟨hi, K _ (fun o j a b => by rw [hw_ne (by unfold mDs at b; omega), hw_ne (by unfold mDs at b; omega), f1 o j a]) (mpw (by omega) (mpw (by omega) p1)) (fun ok => ⟨?_, ?_⟩)⟩
  · refine ⟨(mDrA_k (fun j => by rw [hw_ne (by omega), hw_ne (by omega), f1 _ _ (by unfold mTs; omega)]) (fun k => hw_ne (by omega)) dA), (mDrB_k rfl (fun j => by rw [hw_ne (by omega), hw_ne (by omega), f1 _ _ (by unfold mTs; omega)]) (fun k => hw_ne (by omega)) dB), (mDrC_k rfl (fun j => by rw [hw_ne (by omega), hw_ne (by omega), f1 _ _ (by unfold mTs; omega)]) (fun k => hw_ne (by omega)) (fun k => hw_ne (by omega)) (fun k => hw_ne (by omega)) (fun k => hw_ne (by omega)) (fun k => hw_ne (by omega)) dC), (mDrD_k (fun j => by rw [hw_ne (by omega), hw_ne (by omega), f1 _ _ (by unfold mTs; omega)]) (fun k => hw_ne (by omega)) dD), (mDrE_k rfl (fun j => by rw [hw_ne (by omega), hw_ne (by omega), f1 _ _ (by unfold mTs; omega)]) (fun k => hw_ne (by omega)) dE), ?_, (mDrG_k rfl (fun j => by rw [hw_ne (by omega), hw_ne (by omega), f1 _ _ (by unfold mTs; omega)]) (fun k => hw_ne (by omega)) (fun k => hw_ne (by omega)) (fun k => hw_ne (by omega)) (fun k => hw_ne (by omega)) dG), (mDrH_k (fun j => by rw [hw_ne (by omega), hw_ne (by omega), f1 _ _ (by unfold mTs; omega)]) (fun k => hw_ne (by omega)) dH)⟩
    unfold mDrF at dF ⊢
    intro k a b
    have b' : k < m 7 + 1 := b
    rw [hw_ne (by omega)]
    by_cases e : k = m 7
    · rw [hw_eq ⟨rfl, e⟩, hw_eq ⟨rfl, e⟩]
    · rw [hw_ne (by omega), hw_ne (by omega), f1 _ _ (by unfold mTs; omega)]
      exact dF k a (by omega)
  · exact ⟨by rw [hw_ne (by omega), hw_ne (by omega), f1 _ _ (by unfold mTs; omega)]; exact c0, by rw [hw_ne (by omega), hw_ne (by omega), f1 _ _ (by unfold mTs; omega)]; exact c1, by rw [hw_ne (by omega), hw_ne (by omega), f1 _ _ (by unfold mTs; omega)]; exact c3, by rw [hw_ne (by omega), hw_ne (by omega), f1 _ _ (by unfold mTs; omega)]; exact c5, by rw [hw_eq ⟨rfl, rfl⟩]; rfl, by rw [hw_ne (by omega), hw_ne (by omega), f1 _ _ (by unfold mTs; omega)]; exact c9⟩
theorem s_235_1 {d c : Nat} {T : Int → Int} {n : Int} (wt : wTape T n) {R : Int → Nat → zH → Prop} {X : Nat → Nat → zH → Prop} {h q : zH} {m : Int → Int} {st : (Int × Int) ⊕ Int} (mt : mTape h T n) (ps : mPs h n st) (dr : mDr h q m) (cn : mCn h m) (wd : wDf m q) (hi : 0 ≤ m 1 ∧ m 1 < 12) (K : ∀ h', (∀ o j, ¬ mTs o j → ¬ mDs o j → h' o j = h o j) → mPs h' n (rC1 T n m q st).1 → (isOkS (rC1 T n m q st).1 → mDr h' (rC1 T n m q st).2 (mUp m 1) ∧ mCn h' (mUp m 1)) → R 0 c h') : zCl (d + 2) 235 [(2, 113), (0, wC 2)] c h R X := by
  unfold rC1 at K
  dsimp only at K
  obtain ⟨dA, dB, dC, dD, dE, dF, dG, dH⟩ := dr
  have cn0 := cn
  obtain ⟨c0, c1, c3, c5, c7, c9⟩ := cn0
  have w6 : q 6 (m 1) = 0 := (wd.2.2.2.2.1 (m 1) hi.1 hi.2).2 (Int.le_refl _)
  refine b_235 ?_
  refine s_230 (wOk_j (by decide) (by decide) (by decide)) ⟨fun _ => ?_, fun w => absurd w (by decide +kernel)⟩
  refine s_230 (wOk_j (by decide) (by decide) (by decide)) ⟨fun w => absurd (by decide +kernel) w, fun _ => ?_⟩
  have e0 : w32 (w32 (5 * h 113 27) + 0) = 5 * m 1 + 0 := by rw [c1, w32_e (x := 5 * m 1) (by omega) (by omega), w32_e (by omega) (by omega)]
  have e1 : w32 (w32 (5 * h 113 27) + 1) = 5 * m 1 + 1 := by rw [c1, w32_e (x := 5 * m 1) (by omega) (by omega), w32_e (by omega) (by omega)]
  have e2 : w32 (w32 (5 * h 113 27) + 2) = 5 * m 1 + 2 := by rw [c1, w32_e (x := 5 * m 1) (by omega) (by omega), w32_e (by omega) (by omega)]
  have e3 : w32 (w32 (5 * h 113 27) + 3) = 5 * m 1 + 3 := by rw [c1, w32_e (x := 5 * m 1) (by omega) (by omega), w32_e (by omega) (by omega)]
  have e4 : w32 (w32 (5 * h 113 27) + 4) = 5 * m 1 + 4 := by rw [c1, w32_e (x := 5 * m 1) (by omega) (by omega), w32_e (by omega) (by omega)]
  rw [e0, e1, e2, e3, e4]
  refine m_236 wt (by decide) (by decide) mt ps (fun h1 f1 p1 => ⟨by omega, ?_⟩)
  have mt1 := mtw (a := 117) (b := 5 * m 1 + 0) (v := (rdN T n 1 30 st).2) (by omega) (mTape_fr f1 mt)
  refine m_236 wt (by decide) (by decide) mt1 (mpw (by omega) p1) (fun h2 f2 p2 => ⟨by omega, ?_⟩)
  have mt2 := mtw (a := 117) (b := 5 * m 1 + 1) (v := (rdN T n 0 1 (rdN T n 1 30 st).1).2) (by omega) (mTape_fr f2 mt1)
  refine m_236 wt (by decide) (by decide) mt2 (mpw (by omega) p2) (fun h3 f3 p3 => ⟨by omega, ?_⟩)
  have mt3 := mtw (a := 117) (b := 5 * m 1 + 2) (v := (rdN T n 1 2 (rdN T n 0 1 (rdN T n 1 30 st).1).1).2) (by omega) (mTape_fr f3 mt2)
  refine m_236 wt (by decide) (by decide) mt3 (mpw (by omega) p3) (fun h4 f4 p4 => ⟨by omega, by omega, ?_⟩)
  rw [f4 113 27 (by unfold mTs; omega), hw_ne (by omega), f3 113 27 (by unfold mTs; omega), hw_ne (by omega), f2 113 27 (by unfold mTs; omega), hw_ne (by omega), f1 113 27 (by unfold mTs; omega), c1, w32_e (by omega) (by omega)]
  refine K _ (fun o j a b => by rw [hw_ne (by unfold mDs at b; omega), hw_ne (by unfold mDs at b; omega), hw_ne (by unfold mDs at b; omega), f4 o j a, hw_ne (by unfold mDs at b; omega), f3 o j a, hw_ne (by unfold mDs at b; omega), f2 o j a, hw_ne (by unfold mDs at b; omega), f1 o j a]) (mpw (by omega) (mpw (by omega) (mpw (by omega) p4))) (fun ok => ⟨?_, ?_⟩)
  · refine ⟨(mDrA_k (fun j => by rw [hw_ne (by omega), hw_ne (by omega), hw_ne (by omega), f4 _ _ (by unfold mTs; omega), hw_ne (by omega), f3 _ _ (by unfold mTs; omega), hw_ne (by omega), f2 _ _ (by unfold mTs; omega), hw_ne (by omega), f1 _ _ (by unfold mTs; omega)]) (fun k => by rw [hw_ne (by omega), hw_ne (by omega), hw_ne (by omega), hw_ne (by omega)]) dA), (mDrB_k rfl (fun j => by rw [hw_ne (by omega), hw_ne (by omega), hw_ne (by omega), f4 _ _ (by unfold mTs; omega), hw_ne (by omega), f3 _ _ (by unfold mTs; omega), hw_ne (by omega), f2 _ _ (by unfold mTs; omega), hw_ne (by omega), f1 _ _ (by unfold mTs; omega)]) (fun k => by rw [hw_ne (by omega), hw_ne (by omega), hw_ne (by omega), hw_ne (by omega)]) dB), ?_, (mDrD_k (fun j => by rw [hw_ne (by omega), hw_ne (by omega), hw_ne (by omega), f4 _ _ (by unfold mTs; omega), hw_ne (by omega), f3 _ _ (by unfold mTs; omega), hw_ne (by omega), f2 _ _ (by unfold mTs; omega), hw_ne (by omega), f1 _ _ (by unfold mTs; omega)]) (fun k => by rw [hw_ne (by omega), hw_ne (by omega), hw_ne (by omega), hw_ne (by omega)]) dD), (mDrE_k rfl (fun j => by rw [hw_ne (by omega), hw_ne (by omega), hw_ne (by omega), f4 _ _ (by unfold mTs; omega), hw_ne (by omega), f3 _ _ (by unfold mTs; omega), hw_ne (by omega), f2 _ _ (by unfold mTs; omega), hw_ne (by omega), f1 _ _ (by unfold mTs; omega)]) (fun k => by rw [hw_ne (by omega), hw_ne (by omega), hw_ne (by omega), hw_ne (by omega)]) dE), (mDrF_k rfl (fun j => by rw [hw_ne (by omega), hw_ne (by omega), hw_ne (by omega), f4 _ _ (by unfold mTs; omega), hw_ne (by omega), f3 _ _ (by unfold mTs; omega), hw_ne (by omega), f2 _ _ (by unfold mTs; omega), hw_ne (by omega), f1 _ _ (by unfold mTs; omega)]) (fun k => by rw [hw_ne (by omega), hw_ne (by omega), hw_ne (by omega), hw_ne (by omega)]) dF), (mDrG_k rfl (fun j => by rw [hw_ne (by omega), hw_ne (by omega), hw_ne (by omega), f4 _ _ (by unfold mTs; omega), hw_ne (by omega), f3 _ _ (by unfold mTs; omega), hw_ne (by omega), f2 _ _ (by unfold mTs; omega), hw_ne (by omega), f1 _ _ (by unfold mTs; omega)]) (fun k => by rw [hw_ne (by omega), hw_ne (by omega), hw_ne (by omega), hw_ne (by omega)]) (fun k => by rw [hw_ne (by omega), hw_ne (by omega), hw_ne (by omega), hw_ne (by omega)]) (fun k => by rw [hw_ne (by omega), hw_ne (by omega), hw_ne (by omega), hw_ne (by omega)]) (fun k => by rw [hw_ne (by omega), hw_ne (by omega), hw_ne (by omega), hw_ne (by omega)]) dG), (mDrH_k (fun j => by rw [hw_ne (by omega), hw_ne (by omega), hw_ne (by omega), f4 _ _ (by unfold mTs; omega), hw_ne (by omega), f3 _ _ (by unfold mTs; omega), hw_ne (by omega), f2 _ _ (by unfold mTs; omega), hw_ne (by omega), f1 _ _ (by unfold mTs; omega)]) (fun k => by rw [hw_ne (by omega), hw_ne (by omega), hw_ne (by omega), hw_ne (by omega)]) dH)⟩
    unfold mDrC at dC ⊢
    intro k a b
    have b' : k < m 1 + 1 := b
    by_cases e : k = m 1
    · subst e
      refine ⟨?_, ?_, ?_, ?_, ?_⟩
      · rw [hw_ne (by omega), hw_ne (by omega), hw_ne (by omega), f4 _ _ (by unfold mTs; omega), hw_ne (by omega), f3 _ _ (by unfold mTs; omega), hw_ne (by omega), f2 _ _ (by unfold mTs; omega), hw_eq ⟨rfl, by omega⟩, hw_ne (by omega), hw_ne (by omega), hw_ne (by omega), hw_eq ⟨rfl, rfl⟩]
      · rw [hw_ne (by omega), hw_ne (by omega), hw_ne (by omega), f4 _ _ (by unfold mTs; omega), hw_ne (by omega), f3 _ _ (by unfold mTs; omega), hw_eq ⟨rfl, rfl⟩, hw_ne (by omega), hw_ne (by omega), hw_eq ⟨rfl, rfl⟩]
      · rw [hw_ne (by omega), hw_ne (by omega), hw_ne (by omega), f4 _ _ (by unfold mTs; omega), hw_eq ⟨rfl, rfl⟩, hw_ne (by omega), hw_eq ⟨rfl, rfl⟩]
      · rw [hw_ne (by omega), hw_ne (by omega), hw_eq ⟨rfl, rfl⟩, hw_eq ⟨rfl, rfl⟩]
      · rw [hw_ne (by omega), hw_eq ⟨rfl, rfl⟩, hw_ne (by omega), hw_ne (by omega), hw_ne (by omega), hw_ne (by omega), w6]
    · have old : ∀ j, j < 5 * m 1 → (hw (hw (hw h4 117 (5 * m 1 + 3) (rdN T n 0 18 (rdN T n 1 2 (rdN T n 0 1 (rdN T n 1 30 st).1).1).1).2) 117 (5 * m 1 + 4) 0) 113 27 (m 1 + 1)) 117 j = h 117 j := fun j hj => by rw [hw_ne (by omega), hw_ne (by omega), hw_ne (by omega), f4 _ _ (by unfold mTs; omega), hw_ne (by omega), f3 _ _ (by unfold mTs; omega), hw_ne (by omega), f2 _ _ (by unfold mTs; omega), hw_ne (by omega), f1 _ _ (by unfold mTs; omega)]
      rw [old _ (by omega), old _ (by omega), old _ (by omega), old _ (by omega), old _ (by omega)]
      rw [hw_ne (by omega), hw_ne (by omega), hw_ne (by omega), hw_ne (by omega), hw_ne (by omega), hw_ne (by omega), hw_ne (by omega), hw_ne (by omega), hw_ne (by omega), hw_ne (by omega), hw_ne (by omega), hw_ne (by omega), hw_ne (by omega), hw_ne (by omega), hw_ne (by omega), hw_ne (by omega), hw_ne (by omega), hw_ne (by omega), hw_ne (by omega), hw_ne (by omega)]
      exact dC k a (by omega)
  · exact ⟨by rw [hw_ne (by omega), hw_ne (by omega), hw_ne (by omega), f4 _ _ (by unfold mTs; omega), hw_ne (by omega), f3 _ _ (by unfold mTs; omega), hw_ne (by omega), f2 _ _ (by unfold mTs; omega), hw_ne (by omega), f1 _ _ (by unfold mTs; omega)]; exact c0, by rw [hw_eq ⟨rfl, rfl⟩]; rfl, by rw [hw_ne (by omega), hw_ne (by omega), hw_ne (by omega), f4 _ _ (by unfold mTs; omega), hw_ne (by omega), f3 _ _ (by unfold mTs; omega), hw_ne (by omega), f2 _ _ (by unfold mTs; omega), hw_ne (by omega), f1 _ _ (by unfold mTs; omega)]; exact c3, by rw [hw_ne (by omega), hw_ne (by omega), hw_ne (by omega), f4 _ _ (by unfold mTs; omega), hw_ne (by omega), f3 _ _ (by unfold mTs; omega), hw_ne (by omega), f2 _ _ (by unfold mTs; omega), hw_ne (by omega), f1 _ _ (by unfold mTs; omega)]; exact c5, by rw [hw_ne (by omega), hw_ne (by omega), hw_ne (by omega), f4 _ _ (by unfold mTs; omega), hw_ne (by omega), f3 _ _ (by unfold mTs; omega), hw_ne (by omega), f2 _ _ (by unfold mTs; omega), hw_ne (by omega), f1 _ _ (by unfold mTs; omega)]; exact c7, by rw [hw_ne (by omega), hw_ne (by omega), hw_ne (by omega), f4 _ _ (by unfold mTs; omega), hw_ne (by omega), f3 _ _ (by unfold mTs; omega), hw_ne (by omega), f2 _ _ (by unfold mTs; omega), hw_ne (by omega), f1 _ _ (by unfold mTs; omega)]; exact c9⟩
theorem s_235_9 {d c : Nat} {T : Int → Int} {n : Int} (wt : wTape T n) {R : Int → Nat → zH → Prop} {X : Nat → Nat → zH → Prop} {h q : zH} {m : Int → Int} {st : (Int × Int) ⊕ Int} (mt : mTape h T n) (ps : mPs h n st) (dr : mDr h q m) (cn : mCn h m) (wd : wDf m q) (hi : 0 ≤ m 9 ∧ m 9 < 4) (K : ∀ h', (∀ o j, ¬ mTs o j → ¬ mDs o j → h' o j = h o j) → mPs h' n (rC9 T n m q st).1 → (isOkS (rC9 T n m q st).1 → mDr h' (rC9 T n m q st).2 (mUp m 9) ∧ mCn h' (mUp m 9)) → R 0 c h') : zCl (d + 2) 235 [(2, 113), (0, wC 10)] c h R X := by
  unfold rC9 at K
  dsimp only at K
  obtain ⟨dA, dB, dC, dD, dE, dF, dG, dH⟩ := dr
  have cn0 := cn
  obtain ⟨c0, c1, c3, c5, c7, c9⟩ := cn0
  refine b_235 ?_
  refine s_230 (wOk_j (by decide) (by decide) (by decide)) ⟨fun _ => ?_, fun w => absurd w (by decide +kernel)⟩
  refine s_230 (wOk_j (by decide) (by decide) (by decide)) ⟨fun _ => ?_, fun w => absurd w (by decide +kernel)⟩
  refine s_230 (wOk_j (by decide) (by decide) (by decide)) ⟨fun _ => ?_, fun w => absurd w (by decide +kernel)⟩
  refine s_230 (wOk_j (by decide) (by decide) (by decide)) ⟨fun _ => ?_, fun w => absurd w (by decide +kernel)⟩
  have e0 : w32 (4 * h 113 31) = 4 * m 9 := by rw [c9, w32_e (by omega) (by omega)]
  rw [e0]
  refine m_236 wt (by decide) (by decide) mt ps (fun h1 f1 p1 => ⟨by omega, b_235_235 ⟨fun w => by omega, fun _ => ?_⟩⟩)
  have mt1 := mtw (a := 121) (b := 4 * m 9) (v := (rdN T n 1 16 st).2) (by omega) (mTape_fr f1 mt)
  rw [w32_e (x := 4 * m 9 + 1) (by omega) (by omega), show w32 (1 + 1) = 2 by decide]
  refine m_236 wt (by decide) (by decide) mt1 (mpw (by omega) p1) (fun h2 f2 p2 => ⟨by omega, b_235_235 ⟨fun w => by omega, fun _ => ?_⟩⟩)
  have mt2 := mtw (a := 121) (b := 4 * m 9 + 1) (v := (rdN T n 0 16 (rdN T n 1 16 st).1).2) (by omega) (mTape_fr f2 mt1)
  rw [w32_e (x := 4 * m 9 + 2) (by omega) (by omega), show w32 (2 + 1) = 3 by decide]
  refine m_236 wt (by decide) (by decide) mt2 (mpw (by omega) p2) (fun h3 f3 p3 => ⟨by omega, b_235_235 ⟨fun w => by omega, fun _ => ?_⟩⟩)
  have mt3 := mtw (a := 121) (b := 4 * m 9 + 2) (v := (rdN T n 0 16 (rdN T n 0 16 (rdN T n 1 16 st).1).1).2) (by omega) (mTape_fr f3 mt2)
  rw [w32_e (x := 4 * m 9 + 3) (by omega) (by omega), show w32 (3 + 1) = 4 by decide]
  refine m_236 wt (by decide) (by decide) mt3 (mpw (by omega) p3) (fun h4 f4 p4 => ⟨by omega, b_235_235 ⟨fun _ => ?_, fun w => by omega⟩⟩)
  rw [hw_ne (o := 121) (by omega), f4 113 31 (by unfold mTs; omega), hw_ne (by omega), f3 113 31 (by unfold mTs; omega), hw_ne (by omega), f2 113 31 (by unfold mTs; omega), hw_ne (by omega), f1 113 31 (by unfold mTs; omega), c9, w32_e (by omega) (by omega)]
  refine K _ (fun o j a b => by rw [hw_ne (by unfold mDs at b; omega), hw_ne (by unfold mDs at b; omega), f4 o j a, hw_ne (by unfold mDs at b; omega), f3 o j a, hw_ne (by unfold mDs at b; omega), f2 o j a, hw_ne (by unfold mDs at b; omega), f1 o j a]) (mpw (by omega) (mpw (by omega) p4)) (fun ok => ⟨?_, ?_⟩)
  · refine ⟨(mDrA_k (fun j => by rw [hw_ne (by omega), hw_ne (by omega), f4 _ _ (by unfold mTs; omega), hw_ne (by omega), f3 _ _ (by unfold mTs; omega), hw_ne (by omega), f2 _ _ (by unfold mTs; omega), hw_ne (by omega), f1 _ _ (by unfold mTs; omega)]) (fun k => by rw [hw_ne (by omega), hw_ne (by omega), hw_ne (by omega), hw_ne (by omega)]) dA), (mDrB_k rfl (fun j => by rw [hw_ne (by omega), hw_ne (by omega), f4 _ _ (by unfold mTs; omega), hw_ne (by omega), f3 _ _ (by unfold mTs; omega), hw_ne (by omega), f2 _ _ (by unfold mTs; omega), hw_ne (by omega), f1 _ _ (by unfold mTs; omega)]) (fun k => by rw [hw_ne (by omega), hw_ne (by omega), hw_ne (by omega), hw_ne (by omega)]) dB), (mDrC_k rfl (fun j => by rw [hw_ne (by omega), hw_ne (by omega), f4 _ _ (by unfold mTs; omega), hw_ne (by omega), f3 _ _ (by unfold mTs; omega), hw_ne (by omega), f2 _ _ (by unfold mTs; omega), hw_ne (by omega), f1 _ _ (by unfold mTs; omega)]) (fun k => by rw [hw_ne (by omega), hw_ne (by omega), hw_ne (by omega), hw_ne (by omega)]) (fun k => by rw [hw_ne (by omega), hw_ne (by omega), hw_ne (by omega), hw_ne (by omega)]) (fun k => by rw [hw_ne (by omega), hw_ne (by omega), hw_ne (by omega), hw_ne (by omega)]) (fun k => by rw [hw_ne (by omega), hw_ne (by omega), hw_ne (by omega), hw_ne (by omega)]) (fun k => by rw [hw_ne (by omega), hw_ne (by omega), hw_ne (by omega), hw_ne (by omega)]) dC), (mDrD_k (fun j => by rw [hw_ne (by omega), hw_ne (by omega), f4 _ _ (by unfold mTs; omega), hw_ne (by omega), f3 _ _ (by unfold mTs; omega), hw_ne (by omega), f2 _ _ (by unfold mTs; omega), hw_ne (by omega), f1 _ _ (by unfold mTs; omega)]) (fun k => by rw [hw_ne (by omega), hw_ne (by omega), hw_ne (by omega), hw_ne (by omega)]) dD), (mDrE_k rfl (fun j => by rw [hw_ne (by omega), hw_ne (by omega), f4 _ _ (by unfold mTs; omega), hw_ne (by omega), f3 _ _ (by unfold mTs; omega), hw_ne (by omega), f2 _ _ (by unfold mTs; omega), hw_ne (by omega), f1 _ _ (by unfold mTs; omega)]) (fun k => by rw [hw_ne (by omega), hw_ne (by omega), hw_ne (by omega), hw_ne (by omega)]) dE), (mDrF_k rfl (fun j => by rw [hw_ne (by omega), hw_ne (by omega), f4 _ _ (by unfold mTs; omega), hw_ne (by omega), f3 _ _ (by unfold mTs; omega), hw_ne (by omega), f2 _ _ (by unfold mTs; omega), hw_ne (by omega), f1 _ _ (by unfold mTs; omega)]) (fun k => by rw [hw_ne (by omega), hw_ne (by omega), hw_ne (by omega), hw_ne (by omega)]) dF), ?_, (mDrH_k (fun j => by rw [hw_ne (by omega), hw_ne (by omega), f4 _ _ (by unfold mTs; omega), hw_ne (by omega), f3 _ _ (by unfold mTs; omega), hw_ne (by omega), f2 _ _ (by unfold mTs; omega), hw_ne (by omega), f1 _ _ (by unfold mTs; omega)]) (fun k => by rw [hw_ne (by omega), hw_ne (by omega), hw_ne (by omega), hw_ne (by omega)]) dH)⟩
    unfold mDrG at dG ⊢
    intro k a b
    have b' : k < m 9 + 1 := b
    by_cases e : k = m 9
    · subst e
      refine ⟨?_, ?_, ?_, ?_⟩
      · rw [hw_ne (by omega), hw_ne (by omega), f4 _ _ (by unfold mTs; omega), hw_ne (by omega), f3 _ _ (by unfold mTs; omega), hw_ne (by omega), f2 _ _ (by unfold mTs; omega), hw_eq ⟨rfl, rfl⟩, hw_ne (by omega), hw_ne (by omega), hw_ne (by omega), hw_eq ⟨rfl, rfl⟩]
      · rw [hw_ne (by omega), hw_ne (by omega), f4 _ _ (by unfold mTs; omega), hw_ne (by omega), f3 _ _ (by unfold mTs; omega), hw_eq ⟨rfl, rfl⟩, hw_ne (by omega), hw_ne (by omega), hw_eq ⟨rfl, rfl⟩]
      · rw [hw_ne (by omega), hw_ne (by omega), f4 _ _ (by unfold mTs; omega), hw_eq ⟨rfl, rfl⟩, hw_ne (by omega), hw_eq ⟨rfl, rfl⟩]
      · rw [hw_ne (by omega), hw_eq ⟨rfl, rfl⟩, hw_eq ⟨rfl, rfl⟩]
    · have old : ∀ j, j < 4 * m 9 → (hw (hw h4 121 (4 * m 9 + 3) (rdN T n 0 16 (rdN T n 0 16 (rdN T n 0 16 (rdN T n 1 16 st).1).1).1).2) 113 31 (m 9 + 1)) 121 j = h 121 j := fun j hj => by rw [hw_ne (by omega), hw_ne (by omega), f4 _ _ (by unfold mTs; omega), hw_ne (by omega), f3 _ _ (by unfold mTs; omega), hw_ne (by omega), f2 _ _ (by unfold mTs; omega), hw_ne (by omega), f1 _ _ (by unfold mTs; omega)]
      rw [old _ (by omega), old _ (by omega), old _ (by omega), old _ (by omega)]
      rw [hw_ne (by omega), hw_ne (by omega), hw_ne (by omega), hw_ne (by omega), hw_ne (by omega), hw_ne (by omega), hw_ne (by omega), hw_ne (by omega), hw_ne (by omega), hw_ne (by omega), hw_ne (by omega), hw_ne (by omega), hw_ne (by omega), hw_ne (by omega), hw_ne (by omega), hw_ne (by omega)]
      exact dG k a (by omega)
  · exact ⟨by rw [hw_ne (by omega), hw_ne (by omega), f4 _ _ (by unfold mTs; omega), hw_ne (by omega), f3 _ _ (by unfold mTs; omega), hw_ne (by omega), f2 _ _ (by unfold mTs; omega), hw_ne (by omega), f1 _ _ (by unfold mTs; omega)]; exact c0, by rw [hw_ne (by omega), hw_ne (by omega), f4 _ _ (by unfold mTs; omega), hw_ne (by omega), f3 _ _ (by unfold mTs; omega), hw_ne (by omega), f2 _ _ (by unfold mTs; omega), hw_ne (by omega), f1 _ _ (by unfold mTs; omega)]; exact c1, by rw [hw_ne (by omega), hw_ne (by omega), f4 _ _ (by unfold mTs; omega), hw_ne (by omega), f3 _ _ (by unfold mTs; omega), hw_ne (by omega), f2 _ _ (by unfold mTs; omega), hw_ne (by omega), f1 _ _ (by unfold mTs; omega)]; exact c3, by rw [hw_ne (by omega), hw_ne (by omega), f4 _ _ (by unfold mTs; omega), hw_ne (by omega), f3 _ _ (by unfold mTs; omega), hw_ne (by omega), f2 _ _ (by unfold mTs; omega), hw_ne (by omega), f1 _ _ (by unfold mTs; omega)]; exact c5, by rw [hw_ne (by omega), hw_ne (by omega), f4 _ _ (by unfold mTs; omega), hw_ne (by omega), f3 _ _ (by unfold mTs; omega), hw_ne (by omega), f2 _ _ (by unfold mTs; omega), hw_ne (by omega), f1 _ _ (by unfold mTs; omega)]; exact c7, by rw [hw_eq ⟨rfl, rfl⟩]; rfl⟩
