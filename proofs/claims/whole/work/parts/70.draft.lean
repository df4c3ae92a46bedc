/-! the road's text: the draft's data, the class -/
theorem rdN_c {T : Int → Int} {n lo hi lo' hi' : Int} {st : (Int × Int) ⊕ Int} (h : isOkS st → lo = lo' ∧ hi = hi') : rdN T n lo hi st = rdN T n lo' hi' st := by
  cases st with
  | inl f => rfl
  | inr a =>
    obtain ⟨e1, e2⟩ := h trivial
    rw [e1, e2]
/-- a draft in the class: q holds what is told so far, m how many of each kind -/
def cDr (t : Int) (h q : zH) (m : Int → Int) : Prop := (h t 8 = q 0 5 ∧ h t 9 = q 0 6 ∧ h t 10 = q 0 7 ∧ h t 11 = q 0 8 ∧ h t 12 = q 0 9) ∧ (∀ k : Int, 0 ≤ k → k < m 0 → h (t + 5) k = q 1 k) ∧ (∀ k : Int, 0 ≤ k → k < m 1 → h (t + 8) k = q 2 k ∧ h (t + 9) k = q 3 k ∧ h (t + 10) k = q 4 k ∧ h (t + 11) k = q 5 k) ∧ (∀ k : Int, 0 ≤ k → k < 12 → h (t + 12) k = q 6 k) ∧ (∀ k : Int, 0 ≤ k → k < 60 → h (t + 6) k = q 7 k) ∧ (∀ k : Int, 0 ≤ k → k < m 5 → h (t + 3) k = q 8 k) ∧ (∀ k : Int, 0 ≤ k → k < m 7 → h (t + 4) k = q 9 k) ∧ (∀ k : Int, 0 ≤ k → k < m 9 → h (t + 16) k = q 10 k ∧ h (t + 17) k = q 11 k ∧ h (t + 18) k = q 12 k ∧ h (t + 19) k = q 13 k) ∧ (h (t + 2) 0 = 0 ∧ ∀ k : Int, 0 ≤ k → k < 241 → h (t + 2) (k + 1) = q 14 k)
/-- cells of a draft that hold nothing yet -/
def cUn (t : Int) (m : Int → Int) (o j : Int) : Prop := (o = t + 5 ∧ j = m 0) ∨ (t + 8 ≤ o ∧ o ≤ t + 11 ∧ j = m 1) ∨ (o = t + 3 ∧ j = m 5) ∨ (o = t + 4 ∧ j = m 7) ∨ (t + 16 ≤ o ∧ o ≤ t + 19 ∧ j = m 9) ∨ o = t + 1
theorem cDr_fr {t : Int} {h h' q : zH} {m : Int → Int} (fr : ∀ o j, t ≤ o → o ≤ t + 19 → ¬ cUn t m o j → h' o j = h o j) (c : cDr t h q m) : cDr t h' q m := by
  unfold cUn at fr
  obtain ⟨⟨a1, a2, a3, a4, a5⟩, b, c2, d, e, f, g, i, j1, j2⟩ := c
  refine ⟨⟨?_, ?_, ?_, ?_, ?_⟩, fun k x y => ?_, fun k x y => ?_, fun k x y => ?_, fun k x y => ?_, fun k x y => ?_, fun k x y => ?_, fun k x y => ?_, ?_, fun k x y => ?_⟩
  · rw [fr _ _ (by omega) (by omega) (by omega), a1]
  · rw [fr _ _ (by omega) (by omega) (by omega), a2]
  · rw [fr _ _ (by omega) (by omega) (by omega), a3]
  · rw [fr _ _ (by omega) (by omega) (by omega), a4]
  · rw [fr _ _ (by omega) (by omega) (by omega), a5]
  · rw [fr _ _ (by omega) (by omega) (by omega)]; exact b k x y
  · rw [fr _ _ (by omega) (by omega) (by omega), fr _ _ (by omega) (by omega) (by omega), fr _ _ (by omega) (by omega) (by omega), fr _ _ (by omega) (by omega) (by omega)]; exact c2 k x y
  · rw [fr _ _ (by omega) (by omega) (by omega)]; exact d k x y
  · rw [fr _ _ (by omega) (by omega) (by omega)]; exact e k x y
  · rw [fr _ _ (by omega) (by omega) (by omega)]; exact f k x y
  · rw [fr _ _ (by omega) (by omega) (by omega)]; exact g k x y
  · rw [fr _ _ (by omega) (by omega) (by omega), fr _ _ (by omega) (by omega) (by omega), fr _ _ (by omega) (by omega) (by omega), fr _ _ (by omega) (by omega) (by omega)]; exact i k x y
  · rw [fr _ _ (by omega) (by omega) (by omega), j1]
  · rw [fr _ _ (by omega) (by omega) (by omega)]; exact j2 k x y
/-- the same numbers of things -/
theorem cDr_m {t : Int} {h q : zH} {m m' : Int → Int} (e : m' 0 = m 0 ∧ m' 1 = m 1 ∧ m' 5 = m 5 ∧ m' 7 = m 7 ∧ m' 9 = m 9) (c : cDr t h q m) : cDr t h q m' := by
  obtain ⟨a, b, c2, d, e2, f, g, i, j⟩ := c
  obtain ⟨e0, e1, e5, e7, e9⟩ := e
  exact ⟨a, fun k x y => b k x (by omega), fun k x y => c2 k x (by omega), d, e2, fun k x y => f k x (by omega), fun k x y => g k x (by omega), fun k x y => i k x (by omega), j⟩
/-- other data -/
theorem cDr_q {t : Int} {h q q' : zH} {m : Int → Int} (e : ∀ o k, q' o k = q o k) (c : cDr t h q m) : cDr t h q' m := by
  have : q' = q := funext (fun o => funext (fun k => e o k))
  rw [this]
  exact c
def mUp (m : Int → Int) (i : Int) : Int → Int := fun k => if k = i then m k + 1 else m k
def rC0 (T : Int → Int) (n : Int) (m : Int → Int) (q : zH) (st : (Int × Int) ⊕ Int) : ((Int × Int) ⊕ Int) × zH := ((rdN T n 1 9 st).1, hw q 1 (m 0) (rdN T n 1 9 st).2)
def rC1 (T : Int → Int) (n : Int) (m : Int → Int) (q : zH) (st : (Int × Int) ⊕ Int) : ((Int × Int) ⊕ Int) × zH := ((rdN T n 0 18 (rdN T n 1 2 (rdN T n 0 1 (rdN T n 1 30 st).1).1).1).1, hw (hw (hw (hw q 2 (m 1) (rdN T n 1 30 st).2) 3 (m 1) (rdN T n 0 1 (rdN T n 1 30 st).1).2) 4 (m 1) (rdN T n 1 2 (rdN T n 0 1 (rdN T n 1 30 st).1).1).2) 5 (m 1) (rdN T n 0 18 (rdN T n 1 2 (rdN T n 0 1 (rdN T n 1 30 st).1).1).1).2)
def rC2 (T : Int → Int) (n : Int) (m : Int → Int) (q : zH) (st : (Int × Int) ⊕ Int) : ((Int × Int) ⊕ Int) × zH := ((rdN T n 0 ((rdN T n 0 (m 1 - 1) st).2 - 1) (rdN T n 0 (m 1 - 1) st).1).1, hw q 6 (rdN T n 0 (m 1 - 1) st).2 (zOr (q 6 (rdN T n 0 (m 1 - 1) st).2) (zShl 1 (rdN T n 0 ((rdN T n 0 (m 1 - 1) st).2 - 1) (rdN T n 0 (m 1 - 1) st).1).2)))
def rC3 (T : Int → Int) (n : Int) (m : Int → Int) (q : zH) (st : (Int × Int) ⊕ Int) : ((Int × Int) ⊕ Int) × zH := ((rdN T n (rdN T n 0 240 st).2 240 (rdN T n 0 240 st).1).1, fun o k => if o = 14 ∧ (rdN T n 0 240 st).2 ≤ k ∧ k ≤ (rdN T n (rdN T n 0 240 st).2 240 (rdN T n 0 240 st).1).2 then 1 else q o k)
def rC4 (T : Int → Int) (n : Int) (m : Int → Int) (q : zH) (st : (Int × Int) ⊕ Int) : ((Int × Int) ⊕ Int) × zH := ((rdN T n 0 20 (rdN T n 0 59 st).1).1, hw q 7 (rdN T n 0 59 st).2 (rdN T n 0 20 (rdN T n 0 59 st).1).2)
def rC5 (T : Int → Int) (n : Int) (m : Int → Int) (q : zH) (st : (Int × Int) ⊕ Int) : ((Int × Int) ⊕ Int) × zH := ((rdN T n 1 9 st).1, hw q 8 (m 5) (rdN T n 1 9 st).2)
def rC6 (T : Int → Int) (n : Int) (m : Int → Int) (q : zH) (st : (Int × Int) ⊕ Int) : ((Int × Int) ⊕ Int) × zH := ((rdN T n 1 99 st).1, hw q 0 5 (rdN T n 1 99 st).2)
def rC7 (T : Int → Int) (n : Int) (m : Int → Int) (q : zH) (st : (Int × Int) ⊕ Int) : ((Int × Int) ⊕ Int) × zH := ((rdN T n 0 15 st).1, hw q 9 (m 7) (rdN T n 0 15 st).2)
def rC8 (T : Int → Int) (n : Int) (m : Int → Int) (q : zH) (st : (Int × Int) ⊕ Int) : ((Int × Int) ⊕ Int) × zH := ((rdN T n 0 16 st).1, hw q 0 6 (rdN T n 0 16 st).2)
def rC9 (T : Int → Int) (n : Int) (m : Int → Int) (q : zH) (st : (Int × Int) ⊕ Int) : ((Int × Int) ⊕ Int) × zH := ((rdN T n 0 16 (rdN T n 0 16 (rdN T n 0 16 (rdN T n 1 16 st).1).1).1).1, hw (hw (hw (hw q 10 (m 9) (rdN T n 1 16 st).2) 11 (m 9) (rdN T n 0 16 (rdN T n 1 16 st).1).2) 12 (m 9) (rdN T n 0 16 (rdN T n 0 16 (rdN T n 1 16 st).1).1).2) 13 (m 9) (rdN T n 0 16 (rdN T n 0 16 (rdN T n 0 16 (rdN T n 1 16 st).1).1).1).2)
def rC10 (T : Int → Int) (n : Int) (m : Int → Int) (q : zH) (st : (Int × Int) ⊕ Int) : ((Int × Int) ⊕ Int) × zH := ((rdN T n 0 16 st).1, hw q 0 7 (rdN T n 0 16 st).2)
def rC11 (T : Int → Int) (n : Int) (m : Int → Int) (q : zH) (st : (Int × Int) ⊕ Int) : ((Int × Int) ⊕ Int) × zH := ((rdN T n 1 9 (rdN T n 0 99 st).1).1, hw (hw q 0 8 (rdN T n 0 99 st).2) 0 9 (rdN T n 1 9 (rdN T n 0 99 st).1).2)
/-- what the numbers behind the word of a kind do -/
def rC (T : Int → Int) (n kind : Int) (m : Int → Int) (q : zH) (st : (Int × Int) ⊕ Int) : ((Int × Int) ⊕ Int) × zH :=
  if kind = 0 then rC0 T n m q st else if kind = 1 then rC1 T n m q st else if kind = 2 then rC2 T n m q st else if kind = 3 then rC3 T n m q st else if kind = 4 then rC4 T n m q st else if kind = 5 then rC5 T n m q st else if kind = 6 then rC6 T n m q st else if kind = 7 then rC7 T n m q st else if kind = 8 then rC8 T n m q st else if kind = 9 then rC9 T n m q st else if kind = 10 then rC10 T n m q st else rC11 T n m q st
theorem cDr_t0 {t : Int} {h q : zH} {m : Int → Int} {v : Int} (c : cDr t h q m) (h0 : h (t + 5) (m 0) = v) : cDr t h (hw q 1 (m 0) v) (mUp m 0) := by
  obtain ⟨a, b, c2, d, e, f, g, i, j⟩ := c
  refine ⟨?_, fun k x y => ?_, ?_, ?_, ?_, ?_, ?_, ?_, ?_⟩
  · exact a
  · by_cases w : k = m 0
    · rw [hw_eq ⟨rfl, w⟩, w, h0]
    · have y' : k < m 0 + 1 := y
      rw [hw_ne (by omega)]
      exact b k x (by omega)
  · exact c2
  · exact d
  · exact e
  · exact f
  · exact g
  · exact i
  · exact j
theorem cDr_t5 {t : Int} {h q : zH} {m : Int → Int} {v : Int} (c : cDr t h q m) (h0 : h (t + 3) (m 5) = v) : cDr t h (hw q 8 (m 5) v) (mUp m 5) := by
  obtain ⟨a, b, c2, d, e, f, g, i, j⟩ := c
  refine ⟨a, b, c2, d, e, fun k x y => ?_, g, i, j⟩
  by_cases w : k = m 5
  · rw [hw_eq ⟨rfl, w⟩, w, h0]
  · have y' : k < m 5 + 1 := y
    rw [hw_ne (by omega)]
    exact f k x (by omega)
theorem cDr_t7 {t : Int} {h q : zH} {m : Int → Int} {v : Int} (c : cDr t h q m) (h0 : h (t + 4) (m 7) = v) : cDr t h (hw q 9 (m 7) v) (mUp m 7) := by
  obtain ⟨a, b, c2, d, e, f, g, i, j⟩ := c
  refine ⟨a, b, c2, d, e, f, fun k x y => ?_, i, j⟩
  by_cases w : k = m 7
  · rw [hw_eq ⟨rfl, w⟩, w, h0]
  · have y' : k < m 7 + 1 := y
    rw [hw_ne (by omega)]
    exact g k x (by omega)
theorem cDr_t1 {t : Int} {h q : zH} {m : Int → Int} {v1 v2 v3 v4 : Int} (c : cDr t h q m) (h1 : h (t + 8) (m 1) = v1) (h2 : h (t + 9) (m 1) = v2) (h3 : h (t + 10) (m 1) = v3) (h4 : h (t + 11) (m 1) = v4) : cDr t h (hw (hw (hw (hw q 2 (m 1) v1) 3 (m 1) v2) 4 (m 1) v3) 5 (m 1) v4) (mUp m 1) := by
  obtain ⟨a, b, c2, d, e, f, g, i, j⟩ := c
  refine ⟨a, b, fun k x y => ?_, d, e, f, g, i, j⟩
  by_cases w : k = m 1
  · refine ⟨?_, ?_, ?_, ?_⟩
    · rw [hw_ne (by omega), hw_ne (by omega), hw_ne (by omega), hw_eq ⟨rfl, w⟩, w, h1]
    · rw [hw_ne (by omega), hw_ne (by omega), hw_eq ⟨rfl, w⟩, w, h2]
    · rw [hw_ne (by omega), hw_eq ⟨rfl, w⟩, w, h3]
    · rw [hw_eq ⟨rfl, w⟩, w, h4]
  · have y' : k < m 1 + 1 := y
    rw [hw_ne (by omega), hw_ne (by omega), hw_ne (by omega), hw_ne (by omega), hw_ne (by omega), hw_ne (by omega), hw_ne (by omega), hw_ne (by omega), hw_ne (by omega), hw_ne (by omega), hw_ne (by omega), hw_ne (by omega), hw_ne (by omega), hw_ne (by omega), hw_ne (by omega), hw_ne (by omega)]
    exact c2 k x (by omega)
theorem cDr_t9 {t : Int} {h q : zH} {m : Int → Int} {v1 v2 v3 v4 : Int} (c : cDr t h q m) (h1 : h (t + 16) (m 9) = v1) (h2 : h (t + 17) (m 9) = v2) (h3 : h (t + 18) (m 9) = v3) (h4 : h (t + 19) (m 9) = v4) : cDr t h (hw (hw (hw (hw q 10 (m 9) v1) 11 (m 9) v2) 12 (m 9) v3) 13 (m 9) v4) (mUp m 9) := by
  obtain ⟨a, b, c2, d, e, f, g, i, j⟩ := c
  refine ⟨a, b, c2, d, e, f, g, fun k x y => ?_, j⟩
  by_cases w : k = m 9
  · refine ⟨?_, ?_, ?_, ?_⟩
    · rw [hw_ne (by omega), hw_ne (by omega), hw_ne (by omega), hw_eq ⟨rfl, w⟩, w, h1]
    · rw [hw_ne (by omega), hw_ne (by omega), hw_eq ⟨rfl, w⟩, w, h2]
    · rw [hw_ne (by omega), hw_eq ⟨rfl, w⟩, w, h3]
    · rw [hw_eq ⟨rfl, w⟩, w, h4]
  · have y' : k < m 9 + 1 := y
    rw [hw_ne (by omega), hw_ne (by omega), hw_ne (by omega), hw_ne (by omega), hw_ne (by omega), hw_ne (by omega), hw_ne (by omega), hw_ne (by omega), hw_ne (by omega), hw_ne (by omega), hw_ne (by omega), hw_ne (by omega), hw_ne (by omega), hw_ne (by omega), hw_ne (by omega), hw_ne (by omega)]
    exact i k x (by omega)
