/-! the road's text: a deed's numbers, the class -/
theorem s_73_1 {d c : Nat} {T : Int → Int} {n : Int} (wt : wTape T n) {R : Int → Nat → zH → Prop} {X : Nat → Nat → zH → Prop} {h q : zH} {t pl : Int} {m : Int → Int} {st : (Int × Int) ⊕ Int} (ht : t = 30 ∨ t = 50) (ct : cTape h T n) (ps : cPs h n pl st) (cd : cDr t h q m) (hi : 0 ≤ m 1 ∧ m 1 < 12) (K : ∀ h', (∀ o j, ¬ cTs o j → ¬ (t ≤ o ∧ o ≤ t + 19 ∧ o ≠ t + 1) → h' o j = h o j) → cPs h' n pl (rC1 T n m q st).1 → (isOkS (rC1 T n m q st).1 → cDr t h' (rC1 T n m q st).2 (mUp m 1)) → R 0 c h') : zCl (d + 2) 74 [(2, 2), (0, 1), (0, 30)] c h (fun y1 c1 h1 => (0 ≤ m 1 ∧ m 1 < 12) ∧ zCl (d + 2) 74 [(2, 2), (0, 0), (0, 1)] c1 (hw h1 (t + 8) (m 1) y1) (fun y2 c2 h2 => (0 ≤ m 1 ∧ m 1 < 12) ∧ zCl (d + 2) 74 [(2, 2), (0, 1), (0, 2)] c2 (hw h2 (t + 9) (m 1) y2) (fun y3 c3 h3 => (0 ≤ m 1 ∧ m 1 < 12) ∧ zCl (d + 2) 74 [(2, 2), (0, 0), (0, 18)] c3 (hw h3 (t + 10) (m 1) y3) (fun y4 c4 h4 => (0 ≤ m 1 ∧ m 1 < 12) ∧ R 0 c4 (hw h4 (t + 11) (m 1) y4)) X) X) X) X := by
  unfold rC1 at K
  dsimp only at K
  refine c_74 wt ct ps (fun y1 h1 f1 p1 e1 b1 => ⟨hi, c_74 wt (ctw (by omega) (cTape_fr f1 ct)) (cpw (by omega) p1) (fun y2 h2 f2 p2 e2 b2 => ⟨hi, c_74 wt (ctw (by omega) (cTape_fr f2 (ctw (by omega) (cTape_fr f1 ct)))) (cpw (by omega) p2) (fun y3 h3 f3 p3 e3 b3 => ⟨hi, c_74 wt (ctw (by omega) (cTape_fr f3 (ctw (by omega) (cTape_fr f2 (ctw (by omega) (cTape_fr f1 ct)))))) (cpw (by omega) p3) (fun y4 h4 f4 p4 e4 b4 => ⟨hi, K _ (fun o j q1 q2 => by rw [hw_ne (by omega), f4 o j q1, hw_ne (by omega), f3 o j q1, hw_ne (by omega), f2 o j q1, hw_ne (by omega), f1 o j q1]) (cpw (by omega) p4) (fun ok => ?_)⟩)⟩)⟩)⟩)
  have ok3 := (rdN_ok ok).1
  have ok2 := (rdN_ok ok3).1
  have ok1 := (rdN_ok ok2).1
  refine cDr_t1 (cDr_fr (fun o j o1 o2 un => ?_) cd) ?_ ?_ ?_ ?_
  · have u1 : ¬ (t + 8 ≤ o ∧ o ≤ t + 11 ∧ j = m 1) := fun w => un (Or.inr (Or.inl w))
    clear un
    rw [hw_ne (by omega), f4 o j (by unfold cTs; omega), hw_ne (by omega), f3 o j (by unfold cTs; omega), hw_ne (by omega), f2 o j (by unfold cTs; omega), hw_ne (by omega), f1 o j (by unfold cTs; omega)]
  · rw [hw_ne (by omega), f4 _ _ (by unfold cTs; omega), hw_ne (by omega), f3 _ _ (by unfold cTs; omega), hw_ne (by omega), f2 _ _ (by unfold cTs; omega), hw_eq ⟨rfl, rfl⟩]
    exact e1 ok1
  · rw [hw_ne (by omega), f4 _ _ (by unfold cTs; omega), hw_ne (by omega), f3 _ _ (by unfold cTs; omega), hw_eq ⟨rfl, rfl⟩]
    exact e2 ok2
  · rw [hw_ne (by omega), f4 _ _ (by unfold cTs; omega), hw_eq ⟨rfl, rfl⟩]
    exact e3 ok3
  · rw [hw_eq ⟨rfl, rfl⟩]
    exact e4 ok
