/-! the road's text: the numbers of a clause, the class -/
theorem ctw {h : zH} {T : Int → Int} {n a b v : Int} (e : a ≠ 2 ∧ a ≠ 3) (m : cTape h T n) : cTape (hw h a b v) T n :=
  ⟨by rw [hw_ne (by omega)]; exact m.1, fun k x y => by rw [hw_ne (by omega)]; exact m.2 k x y⟩
theorem cpw {h : zH} {n pl a b v : Int} {st : (Int × Int) ⊕ Int} (e : a ≠ 2) (m : cPs h n pl st) : cPs (hw h a b v) n pl st :=
  cPs_fr ⟨hw_ne (by omega), hw_ne (by omega), hw_ne (by omega)⟩ m
theorem cDr_u8 {t : Int} {h q : zH} {m : Int → Int} {v : Int} (c : cDr t h q m) : cDr t (hw h t 8 v) (hw q 0 5 v) m := by
  obtain ⟨⟨a1, a2, a3, a4, a5⟩, b, c2, d, e, f, g, i, j1, j2⟩ := c
  refine ⟨⟨?_, ?_, ?_, ?_, ?_⟩, fun k x y => ?_, fun k x y => ?_, fun k x y => ?_, fun k x y => ?_, fun k x y => ?_, fun k x y => ?_, fun k x y => ?_, ?_, fun k x y => ?_⟩
  · rw [hw_eq ⟨rfl, rfl⟩, hw_eq ⟨rfl, rfl⟩]
  · rw [hw_ne (by omega), hw_ne (by omega)]; exact a2
  · rw [hw_ne (by omega), hw_ne (by omega)]; exact a3
  · rw [hw_ne (by omega), hw_ne (by omega)]; exact a4
  · rw [hw_ne (by omega), hw_ne (by omega)]; exact a5
  · rw [hw_ne (by omega), hw_ne (by omega)]; exact b k x y
  · rw [hw_ne (by omega), hw_ne (by omega), hw_ne (by omega), hw_ne (by omega), hw_ne (by omega), hw_ne (by omega), hw_ne (by omega), hw_ne (by omega)]; exact c2 k x y
  · rw [hw_ne (by omega), hw_ne (by omega)]; exact d k x y
  · rw [hw_ne (by omega), hw_ne (by omega)]; exact e k x y
  · rw [hw_ne (by omega), hw_ne (by omega)]; exact f k x y
  · rw [hw_ne (by omega), hw_ne (by omega)]; exact g k x y
  · rw [hw_ne (by omega), hw_ne (by omega), hw_ne (by omega), hw_ne (by omega), hw_ne (by omega), hw_ne (by omega), hw_ne (by omega), hw_ne (by omega)]; exact i k x y
  · rw [hw_ne (by omega)]; exact j1
  · rw [hw_ne (by omega), hw_ne (by omega)]; exact j2 k x y
theorem cDr_u9 {t : Int} {h q : zH} {m : Int → Int} {v : Int} (c : cDr t h q m) : cDr t (hw h t 9 v) (hw q 0 6 v) m := by
  obtain ⟨⟨a1, a2, a3, a4, a5⟩, b, c2, d, e, f, g, i, j1, j2⟩ := c
  refine ⟨⟨?_, ?_, ?_, ?_, ?_⟩, fun k x y => ?_, fun k x y => ?_, fun k x y => ?_, fun k x y => ?_, fun k x y => ?_, fun k x y => ?_, fun k x y => ?_, ?_, fun k x y => ?_⟩
  · rw [hw_ne (by omega), hw_ne (by omega)]; exact a1
  · rw [hw_eq ⟨rfl, rfl⟩, hw_eq ⟨rfl, rfl⟩]
  · rw [hw_ne (by omega), hw_ne (by omega)]; exact a3
  · rw [hw_ne (by omega), hw_ne (by omega)]; exact a4
  · rw [hw_ne (by omega), hw_ne (by omega)]; exact a5
  · rw [hw_ne (by omega), hw_ne (by omega)]; exact b k x y
  · rw [hw_ne (by omega), hw_ne (by omega), hw_ne (by omega), hw_ne (by omega), hw_ne (by omega), hw_ne (by omega), hw_ne (by omega), hw_ne (by omega)]; exact c2 k x y
  · rw [hw_ne (by omega), hw_ne (by omega)]; exact d k x y
  · rw [hw_ne (by omega), hw_ne (by omega)]; exact e k x y
  · rw [hw_ne (by omega), hw_ne (by omega)]; exact f k x y
  · rw [hw_ne (by omega), hw_ne (by omega)]; exact g k x y
  · rw [hw_ne (by omega), hw_ne (by omega), hw_ne (by omega), hw_ne (by omega), hw_ne (by omega), hw_ne (by omega), hw_ne (by omega), hw_ne (by omega)]; exact i k x y
  · rw [hw_ne (by omega)]; exact j1
  · rw [hw_ne (by omega), hw_ne (by omega)]; exact j2 k x y
theorem cDr_u10 {t : Int} {h q : zH} {m : Int → Int} {v : Int} (c : cDr t h q m) : cDr t (hw h t 10 v) (hw q 0 7 v) m := by
  obtain ⟨⟨a1, a2, a3, a4, a5⟩, b, c2, d, e, f, g, i, j1, j2⟩ := c
  refine ⟨⟨?_, ?_, ?_, ?_, ?_⟩, fun k x y => ?_, fun k x y => ?_, fun k x y => ?_, fun k x y => ?_, fun k x y => ?_, fun k x y => ?_, fun k x y => ?_, ?_, fun k x y => ?_⟩
  · rw [hw_ne (by omega), hw_ne (by omega)]; exact a1
  · rw [hw_ne (by omega), hw_ne (by omega)]; exact a2
  · rw [hw_eq ⟨rfl, rfl⟩, hw_eq ⟨rfl, rfl⟩]
  · rw [hw_ne (by omega), hw_ne (by omega)]; exact a4
  · rw [hw_ne (by omega), hw_ne (by omega)]; exact a5
  · rw [hw_ne (by omega), hw_ne (by omega)]; exact b k x y
  · rw [hw_ne (by omega), hw_ne (by omega), hw_ne (by omega), hw_ne (by omega), hw_ne (by omega), hw_ne (by omega), hw_ne (by omega), hw_ne (by omega)]; exact c2 k x y
  · rw [hw_ne (by omega), hw_ne (by omega)]; exact d k x y
  · rw [hw_ne (by omega), hw_ne (by omega)]; exact e k x y
  · rw [hw_ne (by omega), hw_ne (by omega)]; exact f k x y
  · rw [hw_ne (by omega), hw_ne (by omega)]; exact g k x y
  · rw [hw_ne (by omega), hw_ne (by omega), hw_ne (by omega), hw_ne (by omega), hw_ne (by omega), hw_ne (by omega), hw_ne (by omega), hw_ne (by omega)]; exact i k x y
  · rw [hw_ne (by omega)]; exact j1
  · rw [hw_ne (by omega), hw_ne (by omega)]; exact j2 k x y
theorem cDr_u11 {t : Int} {h q : zH} {m : Int → Int} {v : Int} (c : cDr t h q m) : cDr t (hw h t 11 v) (hw q 0 8 v) m := by
  obtain ⟨⟨a1, a2, a3, a4, a5⟩, b, c2, d, e, f, g, i, j1, j2⟩ := c
  refine ⟨⟨?_, ?_, ?_, ?_, ?_⟩, fun k x y => ?_, fun k x y => ?_, fun k x y => ?_, fun k x y => ?_, fun k x y => ?_, fun k x y => ?_, fun k x y => ?_, ?_, fun k x y => ?_⟩
  · rw [hw_ne (by omega), hw_ne (by omega)]; exact a1
  · rw [hw_ne (by omega), hw_ne (by omega)]; exact a2
  · rw [hw_ne (by omega), hw_ne (by omega)]; exact a3
  · rw [hw_eq ⟨rfl, rfl⟩, hw_eq ⟨rfl, rfl⟩]
  · rw [hw_ne (by omega), hw_ne (by omega)]; exact a5
  · rw [hw_ne (by omega), hw_ne (by omega)]; exact b k x y
  · rw [hw_ne (by omega), hw_ne (by omega), hw_ne (by omega), hw_ne (by omega), hw_ne (by omega), hw_ne (by omega), hw_ne (by omega), hw_ne (by omega)]; exact c2 k x y
  · rw [hw_ne (by omega), hw_ne (by omega)]; exact d k x y
  · rw [hw_ne (by omega), hw_ne (by omega)]; exact e k x y
  · rw [hw_ne (by omega), hw_ne (by omega)]; exact f k x y
  · rw [hw_ne (by omega), hw_ne (by omega)]; exact g k x y
  · rw [hw_ne (by omega), hw_ne (by omega), hw_ne (by omega), hw_ne (by omega), hw_ne (by omega), hw_ne (by omega), hw_ne (by omega), hw_ne (by omega)]; exact i k x y
  · rw [hw_ne (by omega)]; exact j1
  · rw [hw_ne (by omega), hw_ne (by omega)]; exact j2 k x y
theorem cDr_u12 {t : Int} {h q : zH} {m : Int → Int} {v : Int} (c : cDr t h q m) : cDr t (hw h t 12 v) (hw q 0 9 v) m := by
  obtain ⟨⟨a1, a2, a3, a4, a5⟩, b, c2, d, e, f, g, i, j1, j2⟩ := c
  refine ⟨⟨?_, ?_, ?_, ?_, ?_⟩, fun k x y => ?_, fun k x y => ?_, fun k x y => ?_, fun k x y => ?_, fun k x y => ?_, fun k x y => ?_, fun k x y => ?_, ?_, fun k x y => ?_⟩
  · rw [hw_ne (by omega), hw_ne (by omega)]; exact a1
  · rw [hw_ne (by omega), hw_ne (by omega)]; exact a2
  · rw [hw_ne (by omega), hw_ne (by omega)]; exact a3
  · rw [hw_ne (by omega), hw_ne (by omega)]; exact a4
  · rw [hw_eq ⟨rfl, rfl⟩, hw_eq ⟨rfl, rfl⟩]
  · rw [hw_ne (by omega), hw_ne (by omega)]; exact b k x y
  · rw [hw_ne (by omega), hw_ne (by omega), hw_ne (by omega), hw_ne (by omega), hw_ne (by omega), hw_ne (by omega), hw_ne (by omega), hw_ne (by omega)]; exact c2 k x y
  · rw [hw_ne (by omega), hw_ne (by omega)]; exact d k x y
  · rw [hw_ne (by omega), hw_ne (by omega)]; exact e k x y
  · rw [hw_ne (by omega), hw_ne (by omega)]; exact f k x y
  · rw [hw_ne (by omega), hw_ne (by omega)]; exact g k x y
  · rw [hw_ne (by omega), hw_ne (by omega), hw_ne (by omega), hw_ne (by omega), hw_ne (by omega), hw_ne (by omega), hw_ne (by omega), hw_ne (by omega)]; exact i k x y
  · rw [hw_ne (by omega)]; exact j1
  · rw [hw_ne (by omega), hw_ne (by omega)]; exact j2 k x y
theorem cDr_n {t : Int} {h q : zH} {m : Int → Int} {x v : Int} (c : cDr t h q m) : cDr t (hw h (t + 12) x v) (hw q 6 x v) m := by
  obtain ⟨⟨a1, a2, a3, a4, a5⟩, b, c2, d, e, f, g, i, j1, j2⟩ := c
  refine ⟨⟨?_, ?_, ?_, ?_, ?_⟩, fun k x y => ?_, fun k x y => ?_, fun k x1 y => ?_, fun k x y => ?_, fun k x y => ?_, fun k x y => ?_, fun k x y => ?_, ?_, fun k x y => ?_⟩
  · rw [hw_ne (by omega), hw_ne (by omega)]; exact a1
  · rw [hw_ne (by omega), hw_ne (by omega)]; exact a2
  · rw [hw_ne (by omega), hw_ne (by omega)]; exact a3
  · rw [hw_ne (by omega), hw_ne (by omega)]; exact a4
  · rw [hw_ne (by omega), hw_ne (by omega)]; exact a5
  · rw [hw_ne (by omega), hw_ne (by omega)]; exact b k x y
  · rw [hw_ne (by omega), hw_ne (by omega), hw_ne (by omega), hw_ne (by omega), hw_ne (by omega), hw_ne (by omega), hw_ne (by omega), hw_ne (by omega)]; exact c2 k x y
  · by_cases w : k = x
    · rw [hw_eq ⟨rfl, w⟩, hw_eq ⟨rfl, w⟩]
    · rw [hw_ne (by omega), hw_ne (by omega)]; exact d k x1 y
  · rw [hw_ne (by omega), hw_ne (by omega)]; exact e k x y
  · rw [hw_ne (by omega), hw_ne (by omega)]; exact f k x y
  · rw [hw_ne (by omega), hw_ne (by omega)]; exact g k x y
  · rw [hw_ne (by omega), hw_ne (by omega), hw_ne (by omega), hw_ne (by omega), hw_ne (by omega), hw_ne (by omega), hw_ne (by omega), hw_ne (by omega)]; exact i k x y
  · rw [hw_ne (by omega)]; exact j1
  · rw [hw_ne (by omega), hw_ne (by omega)]; exact j2 k x y
theorem cDr_y {t : Int} {h q : zH} {m : Int → Int} {x v : Int} (c : cDr t h q m) : cDr t (hw h (t + 6) x v) (hw q 7 x v) m := by
  obtain ⟨⟨a1, a2, a3, a4, a5⟩, b, c2, d, e, f, g, i, j1, j2⟩ := c
  refine ⟨⟨?_, ?_, ?_, ?_, ?_⟩, fun k x y => ?_, fun k x y => ?_, fun k x y => ?_, fun k x1 y => ?_, fun k x y => ?_, fun k x y => ?_, fun k x y => ?_, ?_, fun k x y => ?_⟩
  · rw [hw_ne (by omega), hw_ne (by omega)]; exact a1
  · rw [hw_ne (by omega), hw_ne (by omega)]; exact a2
  · rw [hw_ne (by omega), hw_ne (by omega)]; exact a3
  · rw [hw_ne (by omega), hw_ne (by omega)]; exact a4
  · rw [hw_ne (by omega), hw_ne (by omega)]; exact a5
  · rw [hw_ne (by omega), hw_ne (by omega)]; exact b k x y
  · rw [hw_ne (by omega), hw_ne (by omega), hw_ne (by omega), hw_ne (by omega), hw_ne (by omega), hw_ne (by omega), hw_ne (by omega), hw_ne (by omega)]; exact c2 k x y
  · rw [hw_ne (by omega), hw_ne (by omega)]; exact d k x y
  · by_cases w : k = x
    · rw [hw_eq ⟨rfl, w⟩, hw_eq ⟨rfl, w⟩]
    · rw [hw_ne (by omega), hw_ne (by omega)]; exact e k x1 y
  · rw [hw_ne (by omega), hw_ne (by omega)]; exact f k x y
  · rw [hw_ne (by omega), hw_ne (by omega)]; exact g k x y
  · rw [hw_ne (by omega), hw_ne (by omega), hw_ne (by omega), hw_ne (by omega), hw_ne (by omega), hw_ne (by omega), hw_ne (by omega), hw_ne (by omega)]; exact i k x y
  · rw [hw_ne (by omega)]; exact j1
  · rw [hw_ne (by omega), hw_ne (by omega)]; exact j2 k x y
theorem cDr_r {t : Int} {h h' q : zH} {m : Int → Int} {x y : Int} (c : cDr t h q m) (fr : ∀ o j, t ≤ o → o ≤ t + 19 → o ≠ t + 2 → h' o j = h o j) (f2 : h' (t + 2) 0 = h (t + 2) 0 ∧ ∀ k : Int, 0 ≤ k → k < 241 → h' (t + 2) (k + 1) = if x ≤ k ∧ k ≤ y then 1 else h (t + 2) (k + 1)) : cDr t h' (fun o k => if o = 14 ∧ x ≤ k ∧ k ≤ y then 1 else q o k) m := by
  obtain ⟨⟨a1, a2, a3, a4, a5⟩, b, c2, d, e, f, g, i, j1, j2⟩ := c
  refine ⟨⟨?_, ?_, ?_, ?_, ?_⟩, fun k x y => ?_, fun k x y => ?_, fun k x y => ?_, fun k x y => ?_, fun k x y => ?_, fun k x y => ?_, fun k x y => ?_, ?_, fun k x1 y1 => ?_⟩
  · rw [fr _ _ (by omega) (by omega) (by omega)]; exact a1
  · rw [fr _ _ (by omega) (by omega) (by omega)]; exact a2
  · rw [fr _ _ (by omega) (by omega) (by omega)]; exact a3
  · rw [fr _ _ (by omega) (by omega) (by omega)]; exact a4
  · rw [fr _ _ (by omega) (by omega) (by omega)]; exact a5
  · rw [fr _ _ (by omega) (by omega) (by omega)]; exact b k x y
  · rw [fr _ _ (by omega) (by omega) (by omega), fr _ _ (by omega) (by omega) (by omega), fr _ _ (by omega) (by omega) (by omega), fr _ _ (by omega) (by omega) (by omega)]; exact c2 k x y
  · rw [fr _ _ (by omega) (by omega) (by omega)]; exact d k x y
  · rw [fr _ _ (by omega) (by omega) (by omega)]; exact e k x y
  · rw [fr _ _ (by omega) (by omega) (by omega)]; exact f k x y
  · rw [fr _ _ (by omega) (by omega) (by omega)]; exact g k x y
  · rw [fr _ _ (by omega) (by omega) (by omega), fr _ _ (by omega) (by omega) (by omega), fr _ _ (by omega) (by omega) (by omega), fr _ _ (by omega) (by omega) (by omega)]; exact i k x y
  · rw [f2.1]; exact j1
  · rw [f2.2 k x1 y1]
    show _ = if (14 : Int) = 14 ∧ x ≤ k ∧ k ≤ y then 1 else q 14 k
    by_cases w : x ≤ k ∧ k ≤ y
    · rw [if_pos w, if_pos ⟨rfl, w⟩]
    · rw [if_neg w, if_neg (fun v => w v.2)]; exact j2 k x1 y1
