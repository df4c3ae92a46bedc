/-! the road's text: needs and yards, the class -/
theorem s_73_2 {d c : Nat} {T : Int → Int} {n : Int} (wt : wTape T n) {R : Int → Nat → zH → Prop} {X : Nat → Nat → zH → Prop} {h q : zH} {t pl : Int} {m : Int → Int} {st : (Int × Int) ⊕ Int} (ht : t = 30 ∨ t = 50) (ct : cTape h T n) (ps : cPs h n pl st) (cd : cDr t h q m) (hi : 0 ≤ m 1 ∧ m 1 ≤ 12) (h1m : h (t + 1) 1 = m 1) (K : ∀ h', (∀ o j, ¬ cTs o j → ¬ (t ≤ o ∧ o ≤ t + 19 ∧ o ≠ t + 1) → h' o j = h o j) → cPs h' n pl (rC2 T n m q st).1 → (isOkS (rC2 T n m q st).1 → cDr t h' (rC2 T n m q st).2 (mUp m 2)) → R 0 c h') : zCl (d + 2) 76 [(2, t), (2, 2)] c h R X := by
  unfold rC2 at K
  dsimp only at K
  refine b_76 (by unfold zIsR; exact ht) ?_
  rw [h1m, w32_e (by omega) (by omega)]
  refine c_74 wt ct ps (fun y1 h1 f1 p1 e1 b1 => c_74 wt (cTape_fr f1 ct) p1 (fun y2 h2 f2 p2 e2 b2 => ?_))
  have er : rdN T n 0 (w32 (y1 - 1)) (rdN T n 0 (m 1 - 1) st).1 = rdN T n 0 ((rdN T n 0 (m 1 - 1) st).2 - 1) (rdN T n 0 (m 1 - 1) st).1 := rdN_c (fun ok => ⟨rfl, by rw [w32_e (by omega) (by omega), e1 ok]⟩)
  rw [er] at p2 e2
  refine c_77 p2 (fun ok => ⟨fun v => absurd v (by decide), fun _ => ?_⟩) (fun nok => ⟨fun _ => K h2 (fun o j q1 q2 => by rw [f2 o j q1, f1 o j q1]) p2 (fun ok => absurd ok nok), fun v => absurd rfl v⟩)
  have ok1 := rdN_ok ok
  have r1 := rdN_ok ok1.1
  have ey := e1 ok1.1
  have ey2 := e2 ok
  have cd2 : cDr t h2 q m := cDr_fr (fun o j o1 o2 un => by rw [f2 o j (by unfold cTs; omega), f1 o j (by unfold cTs; omega)]) cd
  have e6 : h2 (t + 12) y1 = q 6 y1 := cd2.2.2.2.1 y1 (by omega) (by omega)
  refine ⟨by omega, by omega, K _ (fun o j q1 q2 => by rw [hw_ne (by omega), f2 o j q1, f1 o j q1]) (cpw (by omega) p2) (fun _ => ?_)⟩
  rw [e6, ey, ey2]
  exact cDr_m ⟨rfl, rfl, rfl, rfl, rfl⟩ (cDr_n cd2)
theorem s_73_4 {d c : Nat} {T : Int → Int} {n : Int} (wt : wTape T n) {R : Int → Nat → zH → Prop} {X : Nat → Nat → zH → Prop} {h q : zH} {t pl : Int} {m : Int → Int} {st : (Int × Int) ⊕ Int} (ht : t = 30 ∨ t = 50) (ct : cTape h T n) (ps : cPs h n pl st) (cd : cDr t h q m) (K : ∀ h', (∀ o j, ¬ cTs o j → ¬ (t ≤ o ∧ o ≤ t + 19 ∧ o ≠ t + 1) → h' o j = h o j) → cPs h' n pl (rC4 T n m q st).1 → (isOkS (rC4 T n m q st).1 → cDr t h' (rC4 T n m q st).2 (mUp m 4)) → R 0 c h') : zCl (d + 2) 79 [(2, t), (2, 2)] c h R X := by
  unfold rC4 at K
  dsimp only at K
  refine b_79 (by unfold zIsR; exact ht) (c_74 wt ct ps (fun y1 h1 f1 p1 e1 b1 => c_74 wt (cTape_fr f1 ct) p1 (fun y2 h2 f2 p2 e2 b2 => ?_)))
  refine c_77 p2 (fun ok => ⟨fun v => absurd v (by decide), fun _ => ?_⟩) (fun nok => ⟨fun _ => K h2 (fun o j q1 q2 => by rw [f2 o j q1, f1 o j q1]) p2 (fun ok => absurd ok nok), fun v => absurd rfl v⟩)
  have ok1 := rdN_ok ok
  have r1 := rdN_ok ok1.1
  have ey := e1 ok1.1
  have ey2 := e2 ok
  have cd2 : cDr t h2 q m := cDr_fr (fun o j o1 o2 un => by rw [f2 o j (by unfold cTs; omega), f1 o j (by unfold cTs; omega)]) cd
  refine ⟨by omega, K _ (fun o j q1 q2 => by rw [hw_ne (by omega), f2 o j q1, f1 o j q1]) (cpw (by omega) p2) (fun _ => ?_)⟩
  rw [ey, ey2]
  exact cDr_m ⟨rfl, rfl, rfl, rfl, rfl⟩ (cDr_y cd2)
