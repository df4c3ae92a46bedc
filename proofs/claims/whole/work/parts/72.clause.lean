/-! the road's text: the numbers of a clause, the class -/
theorem s_73_0 {d c : Nat} {T : Int → Int} {n : Int} (wt : wTape T n) {R : Int → Nat → zH → Prop} {X : Nat → Nat → zH → Prop} {h q : zH} {t pl : Int} {m : Int → Int} {st : (Int × Int) ⊕ Int} (ht : t = 30 ∨ t = 50) (ct : cTape h T n) (ps : cPs h n pl st) (cd : cDr t h q m) (hi : 0 ≤ m 0 ∧ m 0 < 4) (K : ∀ h', (∀ o j, ¬ cTs o j → ¬ (t ≤ o ∧ o ≤ t + 19 ∧ o ≠ t + 1) → h' o j = h o j) → cPs h' n pl (rC0 T n m q st).1 → (isOkS (rC0 T n m q st).1 → cDr t h' (rC0 T n m q st).2 (mUp m 0)) → R 0 c h') : zCl (d + 2) 74 [(2, 2), (0, 1), (0, 9)] c h (fun y c1 h1 => (0 ≤ m 0 ∧ m 0 < 4) ∧ R 0 c1 (hw h1 (t + 5) (m 0) y)) X := by
  unfold rC0 at K
  dsimp only at K
  refine c_74 wt ct ps (fun y h1 f1 p1 e1 b1 => ⟨hi, K _ (fun o j q1 q2 => by rw [hw_ne (by omega), f1 o j q1]) (cpw (by omega) p1) (fun ok => ?_)⟩)
  have ey := e1 ok
  refine cDr_t0 (cDr_fr (fun o j o1 o2 un => ?_) cd) (by rw [hw_eq ⟨rfl, rfl⟩]; exact ey)
  unfold cUn at un
  rw [hw_ne (by omega), f1 o j (by unfold cTs; omega)]
theorem s_73_5 {d c : Nat} {T : Int → Int} {n : Int} (wt : wTape T n) {R : Int → Nat → zH → Prop} {X : Nat → Nat → zH → Prop} {h q : zH} {t pl : Int} {m : Int → Int} {st : (Int × Int) ⊕ Int} (ht : t = 30 ∨ t = 50) (ct : cTape h T n) (ps : cPs h n pl st) (cd : cDr t h q m) (hi : 0 ≤ m 5 ∧ m 5 < 6) (K : ∀ h', (∀ o j, ¬ cTs o j → ¬ (t ≤ o ∧ o ≤ t + 19 ∧ o ≠ t + 1) → h' o j = h o j) → cPs h' n pl (rC5 T n m q st).1 → (isOkS (rC5 T n m q st).1 → cDr t h' (rC5 T n m q st).2 (mUp m 5)) → R 0 c h') : zCl (d + 2) 74 [(2, 2), (0, 1), (0, 9)] c h (fun y c1 h1 => (0 ≤ m 5 ∧ m 5 < 6) ∧ R 0 c1 (hw h1 (t + 3) (m 5) y)) X := by
  unfold rC5 at K
  dsimp only at K
  refine c_74 wt ct ps (fun y h1 f1 p1 e1 b1 => ⟨hi, K _ (fun o j q1 q2 => by rw [hw_ne (by omega), f1 o j q1]) (cpw (by omega) p1) (fun ok => ?_)⟩)
  have ey := e1 ok
  refine cDr_t5 (cDr_fr (fun o j o1 o2 un => ?_) cd) (by rw [hw_eq ⟨rfl, rfl⟩]; exact ey)
  unfold cUn at un
  rw [hw_ne (by omega), f1 o j (by unfold cTs; omega)]
theorem s_73_7 {d c : Nat} {T : Int → Int} {n : Int} (wt : wTape T n) {R : Int → Nat → zH → Prop} {X : Nat → Nat → zH → Prop} {h q : zH} {t pl : Int} {m : Int → Int} {st : (Int × Int) ⊕ Int} (ht : t = 30 ∨ t = 50) (ct : cTape h T n) (ps : cPs h n pl st) (cd : cDr t h q m) (hi : 0 ≤ m 7 ∧ m 7 < 8) (K : ∀ h', (∀ o j, ¬ cTs o j → ¬ (t ≤ o ∧ o ≤ t + 19 ∧ o ≠ t + 1) → h' o j = h o j) → cPs h' n pl (rC7 T n m q st).1 → (isOkS (rC7 T n m q st).1 → cDr t h' (rC7 T n m q st).2 (mUp m 7)) → R 0 c h') : zCl (d + 2) 74 [(2, 2), (0, 0), (0, 15)] c h (fun y c1 h1 => (0 ≤ m 7 ∧ m 7 < 8) ∧ R 0 c1 (hw h1 (t + 4) (m 7) y)) X := by
  unfold rC7 at K
  dsimp only at K
  refine c_74 wt ct ps (fun y h1 f1 p1 e1 b1 => ⟨hi, K _ (fun o j q1 q2 => by rw [hw_ne (by omega), f1 o j q1]) (cpw (by omega) p1) (fun ok => ?_)⟩)
  have ey := e1 ok
  refine cDr_t7 (cDr_fr (fun o j o1 o2 un => ?_) cd) (by rw [hw_eq ⟨rfl, rfl⟩]; exact ey)
  unfold cUn at un
  rw [hw_ne (by omega), f1 o j (by unfold cTs; omega)]
theorem s_73_6 {d c : Nat} {T : Int → Int} {n : Int} (wt : wTape T n) {R : Int → Nat → zH → Prop} {X : Nat → Nat → zH → Prop} {h q : zH} {t pl : Int} {m : Int → Int} {st : (Int × Int) ⊕ Int} (ht : t = 30 ∨ t = 50) (ct : cTape h T n) (ps : cPs h n pl st) (cd : cDr t h q m) (K : ∀ h', (∀ o j, ¬ cTs o j → ¬ (t ≤ o ∧ o ≤ t + 19 ∧ o ≠ t + 1) → h' o j = h o j) → cPs h' n pl (rC6 T n m q st).1 → (isOkS (rC6 T n m q st).1 → cDr t h' (rC6 T n m q st).2 (mUp m 6)) → R 0 c h') : zCl (d + 2) 74 [(2, 2), (0, 1), (0, 99)] c h (fun y c1 h1 => R 0 c1 (hw h1 t 8 y)) X := by
  unfold rC6 at K
  dsimp only at K
  refine c_74 wt ct ps (fun y h1 f1 p1 e1 b1 => K _ (fun o j q1 q2 => by rw [hw_ne (by omega), f1 o j q1]) (cpw (by omega) p1) (fun ok => ?_))
  have ey := e1 ok
  rw [ey]
  exact cDr_m ⟨rfl, rfl, rfl, rfl, rfl⟩ (cDr_u8 (cDr_fr (fun o j o1 o2 un => f1 o j (by unfold cTs; omega)) cd))
theorem s_73_8 {d c : Nat} {T : Int → Int} {n : Int} (wt : wTape T n) {R : Int → Nat → zH → Prop} {X : Nat → Nat → zH → Prop} {h q : zH} {t pl : Int} {m : Int → Int} {st : (Int × Int) ⊕ Int} (ht : t = 30 ∨ t = 50) (ct : cTape h T n) (ps : cPs h n pl st) (cd : cDr t h q m) (K : ∀ h', (∀ o j, ¬ cTs o j → ¬ (t ≤ o ∧ o ≤ t + 19 ∧ o ≠ t + 1) → h' o j = h o j) → cPs h' n pl (rC8 T n m q st).1 → (isOkS (rC8 T n m q st).1 → cDr t h' (rC8 T n m q st).2 (mUp m 8)) → R 0 c h') : zCl (d + 2) 74 [(2, 2), (0, 0), (0, 16)] c h (fun y c1 h1 => R 0 c1 (hw h1 t 9 y)) X := by
  unfold rC8 at K
  dsimp only at K
  refine c_74 wt ct ps (fun y h1 f1 p1 e1 b1 => K _ (fun o j q1 q2 => by rw [hw_ne (by omega), f1 o j q1]) (cpw (by omega) p1) (fun ok => ?_))
  have ey := e1 ok
  rw [ey]
  exact cDr_m ⟨rfl, rfl, rfl, rfl, rfl⟩ (cDr_u9 (cDr_fr (fun o j o1 o2 un => f1 o j (by unfold cTs; omega)) cd))
theorem s_73_10 {d c : Nat} {T : Int → Int} {n : Int} (wt : wTape T n) {R : Int → Nat → zH → Prop} {X : Nat → Nat → zH → Prop} {h q : zH} {t pl : Int} {m : Int → Int} {st : (Int × Int) ⊕ Int} (ht : t = 30 ∨ t = 50) (ct : cTape h T n) (ps : cPs h n pl st) (cd : cDr t h q m) (K : ∀ h', (∀ o j, ¬ cTs o j → ¬ (t ≤ o ∧ o ≤ t + 19 ∧ o ≠ t + 1) → h' o j = h o j) → cPs h' n pl (rC10 T n m q st).1 → (isOkS (rC10 T n m q st).1 → cDr t h' (rC10 T n m q st).2 (mUp m 10)) → R 0 c h') : zCl (d + 2) 74 [(2, 2), (0, 0), (0, 16)] c h (fun y c1 h1 => R 0 c1 (hw h1 t 10 y)) X := by
  unfold rC10 at K
  dsimp only at K
  refine c_74 wt ct ps (fun y h1 f1 p1 e1 b1 => K _ (fun o j q1 q2 => by rw [hw_ne (by omega), f1 o j q1]) (cpw (by omega) p1) (fun ok => ?_))
  have ey := e1 ok
  rw [ey]
  exact cDr_m ⟨rfl, rfl, rfl, rfl, rfl⟩ (cDr_u10 (cDr_fr (fun o j o1 o2 un => f1 o j (by unfold cTs; omega)) cd))
theorem s_73_11 {d c : Nat} {T : Int → Int} {n : Int} (wt : wTape T n) {R : Int → Nat → zH → Prop} {X : Nat → Nat → zH → Prop} {h q : zH} {t pl : Int} {m : Int → Int} {st : (Int × Int) ⊕ Int} (ht : t = 30 ∨ t = 50) (ct : cTape h T n) (ps : cPs h n pl st) (cd : cDr t h q m) (K : ∀ h', (∀ o j, ¬ cTs o j → ¬ (t ≤ o ∧ o ≤ t + 19 ∧ o ≠ t + 1) → h' o j = h o j) → cPs h' n pl (rC11 T n m q st).1 → (isOkS (rC11 T n m q st).1 → cDr t h' (rC11 T n m q st).2 (mUp m 11)) → R 0 c h') : zCl (d + 2) 74 [(2, 2), (0, 0), (0, 99)] c h (fun y c1 h1 => zCl (d + 2) 74 [(2, 2), (0, 1), (0, 9)] c1 (hw h1 t 11 y) (fun y2 c2 h2 => R 0 c2 (hw h2 t 12 y2)) X) X := by
  unfold rC11 at K
  dsimp only at K
  refine c_74 wt ct ps (fun y h1 f1 p1 e1 b1 => c_74 wt (ctw (by omega) (cTape_fr f1 ct)) (cpw (by omega) p1) (fun y2 h2 f2 p2 e2 b2 => K _ (fun o j q1 q2 => by rw [hw_ne (by omega), f2 o j q1, hw_ne (by omega), f1 o j q1]) (cpw (by omega) p2) (fun ok => ?_)))
  have ey2 := e2 ok
  have ey := e1 (rdN_ok ok).1
  rw [ey2]
  rw [ey] at f2
  have c1 := cDr_u11 (v := (rdN T n 0 99 st).2) (cDr_fr (fun o j o1 o2 un => f1 o j (by unfold cTs; omega)) cd)
  exact cDr_m ⟨rfl, rfl, rfl, rfl, rfl⟩ (cDr_u12 (cDr_fr (fun o j o1 o2 un => f2 o j (by unfold cTs; omega)) c1))
