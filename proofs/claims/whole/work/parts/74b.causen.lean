/-! the road's text: a cause's numbers, the class -/
theorem s_73_9 {d c : Nat} {T : Int → Int} {n : Int} (wt : wTape T n) {R : Int → Nat → zH → Prop} {X : Nat → Nat → zH → Prop} {h q : zH} {t pl : Int} {m : Int → Int} {st : (Int × Int) ⊕ Int} (ht : t = 30 ∨ t = 50) (ct : cTape h T n) (ps : cPs h n pl st) (cd : cDr t h q m) (hi : 0 ≤ m 9 ∧ m 9 < 4) (K : ∀ h', (∀ o j, ¬ cTs o j → ¬ (t ≤ o ∧ o ≤ t + 19 ∧ o ≠ t + 1) → h' o j = h o j) → cPs h' n pl (rC9 T n m q st).1 → (isOkS (rC9 T n m q st).1 → cDr t h' (rC9 T n m q st).2 (mUp m 9)) → R 0 c h') : zCl (d + 2) 80 [(2, t), (2, 2), (0, m 9)] c h R X := by
  unfold rC9 at K
  dsimp only at K
  have ht' : zIsR t := by unfold zIsR; exact ht
  refine b_80 ht' (c_74 wt ct ps (fun y1 h1 f1 p1 e1 b1 => ⟨hi, b_80_17 ht' ⟨fun v => by omega, fun _ => ?_⟩⟩))
  rw [show (w32 (1 + 0) : Int) = 1 by decide, show (w32 (0 + 1) : Int) = 1 by decide]
  refine ⟨by decide, c_74 wt (ctw (by omega) (cTape_fr f1 ct)) (cpw (by omega) p1) (fun y2 h2 f2 p2 e2 b2 => ⟨hi, b_80_17 ht' ⟨fun v => by omega, fun _ => ?_⟩⟩)⟩
  rw [show (w32 (1 + 1) : Int) = 2 by decide]
  refine ⟨by decide, c_74 wt (ctw (by omega) (cTape_fr f2 (ctw (by omega) (cTape_fr f1 ct)))) (cpw (by omega) p2) (fun y3 h3 f3 p3 e3 b3 => ⟨hi, b_80_17 ht' ⟨fun v => by omega, fun _ => ?_⟩⟩)⟩
  rw [show (w32 (1 + 2) : Int) = 3 by decide, show (w32 (2 + 1) : Int) = 3 by decide]
  refine ⟨by decide, c_74 wt (ctw (by omega) (cTape_fr f3 (ctw (by omega) (cTape_fr f2 (ctw (by omega) (cTape_fr f1 ct)))))) (cpw (by omega) p3) (fun y4 h4 f4 p4 e4 b4 => ⟨hi, b_80_17 ht' ⟨fun _ => K _ (fun o j q1 q2 => by rw [hw_ne (by omega), f4 o j q1, hw_ne (by omega), f3 o j q1, hw_ne (by omega), f2 o j q1, hw_ne (by omega), f1 o j q1]) (cpw (by omega) p4) (fun ok => ?_), fun v => by omega⟩⟩)⟩
  have ok3 := (rdN_ok ok).1
  have ok2 := (rdN_ok ok3).1
  have ok1 := (rdN_ok ok2).1
  refine cDr_t9 (cDr_fr (fun o j o1 o2 un => ?_) cd) ?_ ?_ ?_ ?_
  · have u1 : ¬ (t + 16 ≤ o ∧ o ≤ t + 19 ∧ j = m 9) := fun w => un (Or.inr (Or.inr (Or.inr (Or.inr (Or.inl w)))))
    clear un
    rw [hw_ne (by omega), f4 o j (by unfold cTs; omega), hw_ne (by omega), f3 o j (by unfold cTs; omega), hw_ne (by omega), f2 o j (by unfold cTs; omega), hw_ne (by omega), f1 o j (by unfold cTs; omega)]
  · rw [hw_ne (by omega), f4 _ _ (by unfold cTs; omega), hw_ne (by omega), f3 _ _ (by unfold cTs; omega), hw_ne (by omega), f2 _ _ (by unfold cTs; omega), hw_eq ⟨rfl, rfl⟩]
    exact e1 ok1
  · rw [hw_ne (by omega), f4 _ _ (by unfold cTs; omega), hw_ne (by omega), f3 _ _ (by unfold cTs; omega), hw_eq ⟨by omega, rfl⟩]
    exact e2 ok2
  · rw [hw_ne (by omega), f4 _ _ (by unfold cTs; omega), hw_eq ⟨by omega, rfl⟩]
    exact e3 ok3
  · rw [hw_eq ⟨by omega, rfl⟩]
    exact e4 ok
