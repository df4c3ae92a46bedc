/-! the road's text: rains, the class -/
theorem s_73_3 {d c : Nat} {T : Int → Int} {n : Int} (wt : wTape T n) {R : Int → Nat → zH → Prop} {X : Nat → Nat → zH → Prop} {h q : zH} {t pl : Int} {m : Int → Int} {st : (Int × Int) ⊕ Int} (ht : t = 30 ∨ t = 50) (ct : cTape h T n) (ps : cPs h n pl st) (cd : cDr t h q m) (K : ∀ h', (∀ o j, ¬ cTs o j → ¬ (t ≤ o ∧ o ≤ t + 19 ∧ o ≠ t + 1) → h' o j = h o j) → cPs h' n pl (rC3 T n m q st).1 → (isOkS (rC3 T n m q st).1 → cDr t h' (rC3 T n m q st).2 (mUp m 3)) → R 0 c h') : zCl (d + 2) 78 [(2, t), (2, 2)] c h R X := by
  unfold rC3 at K
  dsimp only at K
  have ht' : zIsR t := by unfold zIsR; exact ht
  refine b_78 ht' (c_74 wt ct ps (fun y1 h1 f1 p1 e1 b1 => c_74 wt (cTape_fr f1 ct) p1 (fun y2 h2 f2 p2 e2 b2 => ?_)))
  have er : rdN T n y1 240 (rdN T n 0 240 st).1 = rdN T n (rdN T n 0 240 st).2 240 (rdN T n 0 240 st).1 := rdN_c (fun ok => ⟨e1 ok, rfl⟩)
  rw [er] at p2 e2
  refine c_77 p2 (fun ok => ⟨fun v => absurd v (by decide), fun _ => ?_⟩) (fun nok => ⟨fun _ => K h2 (fun o j q1 q2 => by rw [f2 o j q1, f1 o j q1]) p2 (fun ok => absurd ok nok), fun v => absurd rfl v⟩)
  have ok1 := rdN_ok ok
  have r1 := rdN_ok ok1.1
  have ey := e1 ok1.1
  have ey2 := e2 ok
  have cd2 : cDr t h2 q m := cDr_fr (fun o j o1 o2 un => by rw [f2 o j (by unfold cTs; omega), f1 o j (by unfold cTs; omega)]) cd
  have main := zDown (W := fun k => y1 ≤ (k : Int) → ∀ h3, (∀ o j, o ≠ t + 2 → h3 o j = h2 o j) → h3 (t + 2) 0 = h2 (t + 2) 0 → (∀ j : Int, 0 ≤ j → j < 241 → h3 (t + 2) (j + 1) = if y1 ≤ j ∧ j < k then 1 else h2 (t + 2) (j + 1)) → zWp (d + 2) 78 28 [(2, t), (2, 2), (0, y1), (0, y2), (0, (k : Int))] [] (zTS c h3) (zQ 0 R X)) (y2 + 1).toNat ?_ ?_ y1.toNat (by omega) (by omega) h2 (fun _ _ _ => rfl) rfl (fun j a b => by rw [if_neg (by omega)])
  · rw [Int.toNat_of_nonneg (by omega)] at main
    exact main
  · intro _ h3 g1 g2 g3
    refine b_78_28 ht' ⟨fun _ => K h3 (fun o j q1 q2 => by rw [g1 o j (by omega), f2 o j q1, f1 o j q1]) (cPs_fr ⟨g1 _ _ (by omega), g1 _ _ (by omega), g1 _ _ (by omega)⟩ p2) (fun _ => ?_), fun v => by omega⟩
    rw [← ey] at ey2
    have cv : ∀ k : Int, 0 ≤ k → k < 241 → h3 (t + 2) (k + 1) = if y1 ≤ k ∧ k ≤ y2 then 1 else h2 (t + 2) (k + 1) := by
      intro k a b
      rw [g3 k a b]
      by_cases w : y1 ≤ k ∧ k ≤ y2
      · rw [if_pos (by omega), if_pos w]
      · rw [if_neg (by omega), if_neg w]
    have c3 := cDr_r (x := y1) (y := y2) cd2 (fun o j o1 o2 o3 => g1 o j o3) ⟨g2, cv⟩
    rw [ey2, ey] at c3
    exact cDr_m ⟨rfl, rfl, rfl, rfl, rfl⟩ c3
  · intro k hk ih hyk h3 g1 g2 g3
    refine b_78_28 ht' ⟨fun v => by omega, fun _ => ?_⟩
    rw [w32_s (by omega)]
    refine ⟨by omega, ih (by omega) _ (fun o j v => by rw [hw_ne (by omega), g1 o j v]) (by rw [hw_ne (by omega), g2]) (fun j a b => ?_)⟩
    by_cases w : j = k
    · rw [hw_eq ⟨rfl, by omega⟩, if_pos (by omega)]
    · rw [hw_ne (by omega), g3 j a b]
      by_cases w2 : y1 ≤ j ∧ j < k
      · rw [if_pos w2, if_pos (by omega)]
      · rw [if_neg w2, if_neg (by omega)]
