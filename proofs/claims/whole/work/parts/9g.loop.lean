/-! the loop of the law: every call answered alike, and the law answers yes -/
abbrev lpZ (d pc : Nat) (i : Int) (c : Nat) (h : zH) (R : Int → Nat → zH → Prop) (X : Nat → Nat → zH → Prop) : Prop := zWp (d + 60) 0 pc [(4, 0), (2, 1), (2, 113), (2, 156), (0, i), (9, 0), (9, 0), (9, 0)] [] (zTS c h) (zQ 2 R X)
def lpC (d c : Nat) (i : Int) (h : zH) (R : Int → Nat → zH → Prop) (X : Nat → Nat → zH → Prop) : Prop := ∀ c' h2, c' ≤ c + 2 → gI h2 → (∀ j, h2 0 j = h 0 j) → lpZ d 2918 i c' h2 R X
theorem lpB {h : zH} {i : Int} (hi : 0 ≤ i ∧ i + 7 ≤ h 0 (-1) ∧ h 0 (-1) ≤ 2147483647) (k : Int) (h1 : 1 ≤ k) (h2 : k ≤ 6) : 0 ≤ w32 (i + k) ∧ w32 (i + k) < h 0 (-1) := by
  rw [w32_e (by omega) (by omega)]
  omega
theorem gP_go {h h2 : zH} {y b : Int} {A B : Prop} (q : gP h y b h2) (c : gI h2 → (∀ j, h2 0 j = h 0 j) → A) : (h2 113 0 = y → (y ≠ 0 → A) ∧ (y = 0 → (h2 156 0 = b → A) ∧ (h2 156 0 ≠ b → B))) ∧ (h2 113 0 ≠ y → B) :=
  ⟨fun _ => ⟨fun _ => c q.1 q.2.2.2, fun e => ⟨fun _ => c q.1 q.2.2.2, fun n => absurd (q.2.2.1 e) n⟩⟩, fun n => absurd q.2.1 n⟩
theorem gP_gob {h h2 : zH} {y b : Int} {A B : Prop} (hb : b = 0 ∨ b = 1) (q : gP h y b h2) (c : gI h2 → (∀ j, h2 0 j = h 0 j) → A) : (h2 113 0 = y → (y ≠ 0 → A) ∧ (y = 0 → (b = 0 → (h2 156 0 = 0 → A) ∧ (h2 156 0 ≠ 0 → B)) ∧ (b ≠ 0 → (h2 156 0 = 1 → A) ∧ (h2 156 0 ≠ 1 → B)))) ∧ (h2 113 0 ≠ y → B) :=
  ⟨fun _ => ⟨fun _ => c q.1 q.2.2.2, fun e => ⟨fun e2 => ⟨fun _ => c q.1 q.2.2.2, fun n => absurd ((q.2.2.1 e).trans e2) n⟩, fun e2 => ⟨fun _ => c q.1 q.2.2.2, fun n => absurd ((q.2.2.1 e).trans (hb.resolve_left e2)) n⟩⟩⟩, fun n => absurd q.2.1 n⟩
theorem gQ_go {h h2 : zH} {y b : Int} {A B : Prop} (q : gQ h y b h2) (c : gI h2 → (∀ j, h2 0 j = h 0 j) → A) : (y = b → A) ∧ (y ≠ b → B) := ⟨fun _ => c q.1 q.2.2, fun n => absurd q.2.1 n⟩
theorem l_0 {d c : Nat} {R : Int → Nat → zH → Prop} {X : Nat → Nat → zH → Prop} {h : zH} {i : Int} (g : gI h) (hi : 0 ≤ i ∧ i + 7 ≤ h 0 (-1) ∧ h 0 (-1) ≤ 2147483647) (cont : lpC d c i h R X) : lpZ d 252 i c h R X := by
  refine b_0_252 ⟨lpB hi 1 (by decide) (by decide), lpB hi 2 (by decide) (by decide), lpB hi 3 (by decide) (by decide), lpB hi 4 (by decide) (by decide), lpB hi 5 (by decide) (by decide), zCl_mono (fun y c1 h1 q => ?_) (fun _ _ _ w => w.1) (cCnt (by decide) (o_0 g))⟩
  obtain ⟨⟨sc, q⟩, u1⟩ := q
  simp only [sc]
  exact ⟨lpB hi 1 (by decide) (by decide), lpB hi 2 (by decide) (by decide), lpB hi 3 (by decide) (by decide), lpB hi 4 (by decide) (by decide), lpB hi 5 (by decide) (by decide), zCl_mono (fun b c2 h2 q2 => gQ_go q2.1 (fun a e => cont _ _ (by have := q2.2; omega) a e)) (fun _ _ _ w => w.1) (cCnt (by decide) q)⟩
theorem l_1 {d c : Nat} {R : Int → Nat → zH → Prop} {X : Nat → Nat → zH → Prop} {h : zH} {i : Int} (g : gI h) (hi : 0 ≤ i ∧ i + 7 ≤ h 0 (-1) ∧ h 0 (-1) ≤ 2147483647) (cont : lpC d c i h R X) : lpZ d 325 i c h R X := by
  refine b_0_325 ⟨lpB hi 1 (by decide) (by decide), zCl_mono (fun y c1 h1 q => ?_) (fun _ _ _ w => w.1) (cCnt (by decide) (o_1 g))⟩
  obtain ⟨⟨sc, q⟩, u1⟩ := q
  simp only [sc]
  exact ⟨lpB hi 1 (by decide) (by decide), zCl_mono (fun b c2 h2 q2 => gP_go q2.1 (fun a e => cont _ _ (by have := q2.2; omega) a e)) (fun _ _ _ w => w.1) (cCnt (by decide) q)⟩
theorem l_2 {d c : Nat} {R : Int → Nat → zH → Prop} {X : Nat → Nat → zH → Prop} {h : zH} {i : Int} (g : gI h) (hi : 0 ≤ i ∧ i + 7 ≤ h 0 (-1) ∧ h 0 (-1) ≤ 2147483647) (cont : lpC d c i h R X) : lpZ d 381 i c h R X := by
  refine b_0_381 ⟨lpB hi 1 (by decide) (by decide), zCl_mono (fun y c1 h1 q => ?_) (fun _ _ _ w => w.1) (cCnt (by decide) (o_2 g))⟩
  obtain ⟨⟨sc, q⟩, u1⟩ := q
  simp only [sc]
  exact ⟨lpB hi 1 (by decide) (by decide), zCl_mono (fun b c2 h2 q2 => gP_go q2.1 (fun a e => cont _ _ (by have := q2.2; omega) a e)) (fun _ _ _ w => w.1) (cCnt (by decide) q)⟩
theorem l_3 {d c : Nat} {R : Int → Nat → zH → Prop} {X : Nat → Nat → zH → Prop} {h : zH} {i : Int} (g : gI h) (hi : 0 ≤ i ∧ i + 7 ≤ h 0 (-1) ∧ h 0 (-1) ≤ 2147483647) (cont : lpC d c i h R X) : lpZ d 437 i c h R X := by
  refine b_0_437 ⟨lpB hi 1 (by decide) (by decide), zCl_mono (fun y c1 h1 q => ?_) (fun _ _ _ w => w.1) (cCnt (by decide) (o_3 g))⟩
  obtain ⟨⟨sc, q⟩, u1⟩ := q
  simp only [sc]
  exact ⟨lpB hi 1 (by decide) (by decide), zCl_mono (fun b c2 h2 q2 => gP_go q2.1 (fun a e => cont _ _ (by have := q2.2; omega) a e)) (fun _ _ _ w => w.1) (cCnt (by decide) q)⟩
theorem l_4 {d c : Nat} {R : Int → Nat → zH → Prop} {X : Nat → Nat → zH → Prop} {h : zH} {i : Int} (g : gI h) (hi : 0 ≤ i ∧ i + 7 ≤ h 0 (-1) ∧ h 0 (-1) ≤ 2147483647) (cont : lpC d c i h R X) : lpZ d 493 i c h R X := by
  refine b_0_493 ⟨lpB hi 1 (by decide) (by decide), zCl_mono (fun y c1 h1 q => ?_) (fun _ _ _ w => w.1) (cCnt (by decide) (o_4 g))⟩
  obtain ⟨⟨sc, q⟩, u1⟩ := q
  simp only [sc]
  exact ⟨lpB hi 1 (by decide) (by decide), zCl_mono (fun b c2 h2 q2 => gP_go q2.1 (fun a e => cont _ _ (by have := q2.2; omega) a e)) (fun _ _ _ w => w.1) (cCnt (by decide) q)⟩
theorem l_5 {d c : Nat} {R : Int → Nat → zH → Prop} {X : Nat → Nat → zH → Prop} {h : zH} {i : Int} (g : gI h) (hi : 0 ≤ i ∧ i + 7 ≤ h 0 (-1) ∧ h 0 (-1) ≤ 2147483647) (cont : lpC d c i h R X) : lpZ d 549 i c h R X := b_0_549 ⟨fun _ => cont _ _ (Nat.le_add_right _ _) (gI_fr g (fun o j a => by rw [hw_ne (by unfold cCel mCel at a; omega)]) (gX_fr (gI_x g) (fun o j a => by rw [hw_ne (by omega)]))) (fun j => by rw [hw_ne (by omega)]), fun n => absurd (gI_x g).1 n⟩
theorem l_6 {d c : Nat} {R : Int → Nat → zH → Prop} {X : Nat → Nat → zH → Prop} {h : zH} {i : Int} (g : gI h) (hi : 0 ≤ i ∧ i + 7 ≤ h 0 (-1) ∧ h 0 (-1) ≤ 2147483647) (cont : lpC d c i h R X) : lpZ d 562 i c h R X := by
  refine b_0_562 ⟨lpB hi 1 (by decide) (by decide), zCl_mono (fun y c1 h1 q => ?_) (fun _ _ _ w => w.1) (cCnt (by decide) (o_6 g))⟩
  obtain ⟨⟨sc, q⟩, u1⟩ := q
  simp only [sc]
  exact ⟨lpB hi 1 (by decide) (by decide), zCl_mono (fun b c2 h2 q2 => gP_go q2.1 (fun a e => cont _ _ (by have := q2.2; omega) a e)) (fun _ _ _ w => w.1) (cCnt (by decide) q)⟩
theorem l_7 {d c : Nat} {R : Int → Nat → zH → Prop} {X : Nat → Nat → zH → Prop} {h : zH} {i : Int} (g : gI h) (hi : 0 ≤ i ∧ i + 7 ≤ h 0 (-1) ∧ h 0 (-1) ≤ 2147483647) (cont : lpC d c i h R X) : lpZ d 618 i c h R X := by
  refine b_0_618 ⟨lpB hi 1 (by decide) (by decide), lpB hi 2 (by decide) (by decide), zCl_mono (fun y c1 h1 q => ?_) (fun _ _ _ w => w.1) (cCnt (by decide) (o_7 g))⟩
  obtain ⟨⟨sc, q⟩, u1⟩ := q
  simp only [sc]
  exact ⟨lpB hi 1 (by decide) (by decide), lpB hi 2 (by decide) (by decide), zCl_mono (fun b c2 h2 q2 => gP_go q2.1 (fun a e => cont _ _ (by have := q2.2; omega) a e)) (fun _ _ _ w => w.1) (cCnt (by decide) q)⟩
theorem l_8 {d c : Nat} {R : Int → Nat → zH → Prop} {X : Nat → Nat → zH → Prop} {h : zH} {i : Int} (g : gI h) (hi : 0 ≤ i ∧ i + 7 ≤ h 0 (-1) ∧ h 0 (-1) ≤ 2147483647) (cont : lpC d c i h R X) : lpZ d 686 i c h R X := by
  refine b_0_686 ⟨lpB hi 1 (by decide) (by decide), zCl_mono (fun y c1 h1 q => ?_) (fun _ _ _ w => w.1) (cCnt (by decide) (o_8 g))⟩
  obtain ⟨⟨sc, q⟩, u1⟩ := q
  simp only [sc]
  exact ⟨lpB hi 1 (by decide) (by decide), zCl_mono (fun b c2 h2 q2 => gP_go q2.1 (fun a e => cont _ _ (by have := q2.2; omega) a e)) (fun _ _ _ w => w.1) (cCnt (by decide) q)⟩
theorem l_9 {d c : Nat} {R : Int → Nat → zH → Prop} {X : Nat → Nat → zH → Prop} {h : zH} {i : Int} (g : gI h) (hi : 0 ≤ i ∧ i + 7 ≤ h 0 (-1) ∧ h 0 (-1) ≤ 2147483647) (cont : lpC d c i h R X) : lpZ d 742 i c h R X := by
  refine b_0_742 ⟨lpB hi 1 (by decide) (by decide), zCl_mono (fun y c1 h1 q => ?_) (fun _ _ _ w => w.1) (cCnt (by decide) (o_9 g))⟩
  obtain ⟨⟨sc, q⟩, u1⟩ := q
  simp only [sc]
  exact ⟨lpB hi 1 (by decide) (by decide), zCl_mono (fun b c2 h2 q2 => gP_go q2.1 (fun a e => cont _ _ (by have := q2.2; omega) a e)) (fun _ _ _ w => w.1) (cCnt (by decide) q)⟩
theorem l_10 {d c : Nat} {R : Int → Nat → zH → Prop} {X : Nat → Nat → zH → Prop} {h : zH} {i : Int} (g : gI h) (hi : 0 ≤ i ∧ i + 7 ≤ h 0 (-1) ∧ h 0 (-1) ≤ 2147483647) (cont : lpC d c i h R X) : lpZ d 798 i c h R X := by
  refine b_0_798 ⟨lpB hi 1 (by decide) (by decide), zCl_mono (fun y c1 h1 q => ?_) (fun _ _ _ w => w.1) (cCnt (by decide) (o_10 g))⟩
  obtain ⟨⟨sc, q⟩, u1⟩ := q
  simp only [sc]
  exact ⟨lpB hi 1 (by decide) (by decide), zCl_mono (fun b c2 h2 q2 => gP_gob q2.1.1 q2.1.2 (fun a e => cont _ _ (by have := q2.2; omega) a e)) (fun _ _ _ w => w.1) (cCnt (by decide) q)⟩
theorem l_11 {d c : Nat} {R : Int → Nat → zH → Prop} {X : Nat → Nat → zH → Prop} {h : zH} {i : Int} (g : gI h) (hi : 0 ≤ i ∧ i + 7 ≤ h 0 (-1) ∧ h 0 (-1) ≤ 2147483647) (cont : lpC d c i h R X) : lpZ d 861 i c h R X := by
  refine b_0_861 ⟨lpB hi 1 (by decide) (by decide), lpB hi 2 (by decide) (by decide), lpB hi 3 (by decide) (by decide), lpB hi 4 (by decide) (by decide), lpB hi 5 (by decide) (by decide), lpB hi 6 (by decide) (by decide), zCl_mono (fun y c1 h1 q => ?_) (fun _ _ _ w => w.1) (cCnt (by decide) (o_11 g))⟩
  obtain ⟨⟨sc, q⟩, u1⟩ := q
  simp only [sc]
  exact ⟨lpB hi 1 (by decide) (by decide), lpB hi 2 (by decide) (by decide), lpB hi 3 (by decide) (by decide), lpB hi 4 (by decide) (by decide), lpB hi 5 (by decide) (by decide), lpB hi 6 (by decide) (by decide), zCl_mono (fun b c2 h2 q2 => gP_go q2.1 (fun a e => cont _ _ (by have := q2.2; omega) a e)) (fun _ _ _ w => w.1) (cCnt (by decide) q)⟩
theorem l_12 {d c : Nat} {R : Int → Nat → zH → Prop} {X : Nat → Nat → zH → Prop} {h : zH} {i : Int} (g : gI h) (hi : 0 ≤ i ∧ i + 7 ≤ h 0 (-1) ∧ h 0 (-1) ≤ 2147483647) (cont : lpC d c i h R X) : lpZ d 979 i c h R X := by
  refine b_0_979 ⟨lpB hi 1 (by decide) (by decide), lpB hi 2 (by decide) (by decide), zCl_mono (fun y c1 h1 q => ?_) (fun _ _ _ w => w.1) (cCnt (by decide) (o_12 g))⟩
  obtain ⟨⟨sc, q⟩, u1⟩ := q
  simp only [sc]
  exact ⟨lpB hi 1 (by decide) (by decide), lpB hi 2 (by decide) (by decide), zCl_mono (fun b c2 h2 q2 => gP_go q2.1 (fun a e => cont _ _ (by have := q2.2; omega) a e)) (fun _ _ _ w => w.1) (cCnt (by decide) q)⟩
theorem l_13 {d c : Nat} {R : Int → Nat → zH → Prop} {X : Nat → Nat → zH → Prop} {h : zH} {i : Int} (g : gI h) (hi : 0 ≤ i ∧ i + 7 ≤ h 0 (-1) ∧ h 0 (-1) ≤ 2147483647) (cont : lpC d c i h R X) : lpZ d 1047 i c h R X := by
  refine b_0_1047 (zCl_mono (fun y c1 h1 q => ?_) (fun _ _ _ w => w.1) (cCnt (by decide) (o_13 g)))
  obtain ⟨⟨sc, q⟩, u1⟩ := q
  exact zCl_mono (fun b c2 h2 q2 => gQ_go q2.1 (fun a e => cont _ _ (by have := q2.2; omega) a e)) (fun _ _ _ w => w.1) (cCnt (by decide) q)
theorem l_14 {d c : Nat} {R : Int → Nat → zH → Prop} {X : Nat → Nat → zH → Prop} {h : zH} {i : Int} (g : gI h) (hi : 0 ≤ i ∧ i + 7 ≤ h 0 (-1) ∧ h 0 (-1) ≤ 2147483647) (cont : lpC d c i h R X) : lpZ d 1060 i c h R X := by
  refine b_0_1060 ⟨lpB hi 1 (by decide) (by decide), zCl_mono (fun y c1 h1 q => ?_) (fun _ _ _ w => w.1) (cCnt (by decide) (o_14 g))⟩
  obtain ⟨⟨sc, q⟩, u1⟩ := q
  simp only [sc]
  exact ⟨lpB hi 1 (by decide) (by decide), zCl_mono (fun b c2 h2 q2 => gP_go q2.1 (fun a e => cont _ _ (by have := q2.2; omega) a e)) (fun _ _ _ w => w.1) (cCnt (by decide) q)⟩
theorem l_15 {d c : Nat} {R : Int → Nat → zH → Prop} {X : Nat → Nat → zH → Prop} {h : zH} {i : Int} (g : gI h) (hi : 0 ≤ i ∧ i + 7 ≤ h 0 (-1) ∧ h 0 (-1) ≤ 2147483647) (cont : lpC d c i h R X) : lpZ d 1116 i c h R X := by
  refine b_0_1116 ⟨lpB hi 1 (by decide) (by decide), zCl_mono (fun y c1 h1 q => ?_) (fun _ _ _ w => w.1) (cCnt (by decide) (o_15 g))⟩
  obtain ⟨⟨sc, q⟩, u1⟩ := q
  simp only [sc]
  exact ⟨lpB hi 1 (by decide) (by decide), zCl_mono (fun b c2 h2 q2 => gP_go q2.1 (fun a e => cont _ _ (by have := q2.2; omega) a e)) (fun _ _ _ w => w.1) (cCnt (by decide) q)⟩
theorem l_16 {d c : Nat} {R : Int → Nat → zH → Prop} {X : Nat → Nat → zH → Prop} {h : zH} {i : Int} (g : gI h) (hi : 0 ≤ i ∧ i + 7 ≤ h 0 (-1) ∧ h 0 (-1) ≤ 2147483647) (cont : lpC d c i h R X) : lpZ d 1172 i c h R X := by
  refine b_0_1172 (zCl_mono (fun y c1 h1 q => ?_) (fun _ _ _ w => w.1) (cCnt (by decide) (o_16 g)))
  obtain ⟨⟨sc, q⟩, u1⟩ := q
  exact zCl_mono (fun b c2 h2 q2 => gQ_go q2.1 (fun a e => cont _ _ (by have := q2.2; omega) a e)) (fun _ _ _ w => w.1) (cCnt (by decide) q)
theorem l_17 {d c : Nat} {R : Int → Nat → zH → Prop} {X : Nat → Nat → zH → Prop} {h : zH} {i : Int} (g : gI h) (hi : 0 ≤ i ∧ i + 7 ≤ h 0 (-1) ∧ h 0 (-1) ≤ 2147483647) (cont : lpC d c i h R X) : lpZ d 1185 i c h R X := by
  refine b_0_1185 ⟨lpB hi 1 (by decide) (by decide), zCl_mono (fun y c1 h1 q => ?_) (fun _ _ _ w => w.1) (cCnt (by decide) (o_17 g))⟩
  obtain ⟨⟨sc, q⟩, u1⟩ := q
  simp only [sc]
  exact ⟨lpB hi 1 (by decide) (by decide), zCl_mono (fun b c2 h2 q2 => gP_go q2.1 (fun a e => cont _ _ (by have := q2.2; omega) a e)) (fun _ _ _ w => w.1) (cCnt (by decide) q)⟩
theorem l_18 {d c : Nat} {R : Int → Nat → zH → Prop} {X : Nat → Nat → zH → Prop} {h : zH} {i : Int} (g : gI h) (hi : 0 ≤ i ∧ i + 7 ≤ h 0 (-1) ∧ h 0 (-1) ≤ 2147483647) (cont : lpC d c i h R X) : lpZ d 1241 i c h R X := by
  refine b_0_1241 (zCl_mono (fun y c1 h1 q => ?_) (fun _ _ _ w => w.1) (cCnt (by decide) (o_18 g)))
  obtain ⟨⟨sc, q⟩, u1⟩ := q
  exact zCl_mono (fun b c2 h2 q2 => gQ_go q2.1 (fun a e => cont _ _ (by have := q2.2; omega) a e)) (fun _ _ _ w => w.1) (cCnt (by decide) q)
theorem l_19 {d c : Nat} {R : Int → Nat → zH → Prop} {X : Nat → Nat → zH → Prop} {h : zH} {i : Int} (g : gI h) (hi : 0 ≤ i ∧ i + 7 ≤ h 0 (-1) ∧ h 0 (-1) ≤ 2147483647) (cont : lpC d c i h R X) : lpZ d 1254 i c h R X := by
  refine b_0_1254 ⟨lpB hi 1 (by decide) (by decide), zCl_mono (fun y c1 h1 q => ?_) (fun _ _ _ w => w.1) (cCnt (by decide) (o_19 g))⟩
  obtain ⟨⟨sc, q⟩, u1⟩ := q
  simp only [sc]
  exact ⟨lpB hi 1 (by decide) (by decide), zCl_mono (fun b c2 h2 q2 => gP_go q2.1 (fun a e => cont _ _ (by have := q2.2; omega) a e)) (fun _ _ _ w => w.1) (cCnt (by decide) q)⟩
theorem l_20 {d c : Nat} {R : Int → Nat → zH → Prop} {X : Nat → Nat → zH → Prop} {h : zH} {i : Int} (g : gI h) (hi : 0 ≤ i ∧ i + 7 ≤ h 0 (-1) ∧ h 0 (-1) ≤ 2147483647) (cont : lpC d c i h R X) : lpZ d 1310 i c h R X := by
  refine b_0_1310 ⟨lpB hi 1 (by decide) (by decide), zCl_mono (fun y c1 h1 q => ?_) (fun _ _ _ w => w.1) (cCnt (by decide) (o_20 g))⟩
  obtain ⟨⟨sc, q⟩, u1⟩ := q
  simp only [sc]
  exact ⟨lpB hi 1 (by decide) (by decide), zCl_mono (fun b c2 h2 q2 => gP_go q2.1 (fun a e => cont _ _ (by have := q2.2; omega) a e)) (fun _ _ _ w => w.1) (cCnt (by decide) q)⟩
theorem l_21 {d c : Nat} {R : Int → Nat → zH → Prop} {X : Nat → Nat → zH → Prop} {h : zH} {i : Int} (g : gI h) (hi : 0 ≤ i ∧ i + 7 ≤ h 0 (-1) ∧ h 0 (-1) ≤ 2147483647) (cont : lpC d c i h R X) : lpZ d 1366 i c h R X := by
  refine b_0_1366 ⟨lpB hi 1 (by decide) (by decide), zCl_mono (fun y c1 h1 q => ?_) (fun _ _ _ w => w.1) (cCnt (by decide) (o_21 g))⟩
  obtain ⟨⟨sc, q⟩, u1⟩ := q
  simp only [sc]
  exact ⟨lpB hi 1 (by decide) (by decide), zCl_mono (fun b c2 h2 q2 => gP_go q2.1 (fun a e => cont _ _ (by have := q2.2; omega) a e)) (fun _ _ _ w => w.1) (cCnt (by decide) q)⟩
theorem l_22 {d c : Nat} {R : Int → Nat → zH → Prop} {X : Nat → Nat → zH → Prop} {h : zH} {i : Int} (g : gI h) (hi : 0 ≤ i ∧ i + 7 ≤ h 0 (-1) ∧ h 0 (-1) ≤ 2147483647) (cont : lpC d c i h R X) : lpZ d 1422 i c h R X := by
  refine b_0_1422 ⟨lpB hi 1 (by decide) (by decide), zCl_mono (fun y c1 h1 q => ?_) (fun _ _ _ w => w.1) (cCnt (by decide) (o_22 g))⟩
  obtain ⟨⟨sc, q⟩, u1⟩ := q
  simp only [sc]
  exact ⟨lpB hi 1 (by decide) (by decide), zCl_mono (fun b c2 h2 q2 => gP_go q2.1 (fun a e => cont _ _ (by have := q2.2; omega) a e)) (fun _ _ _ w => w.1) (cCnt (by decide) q)⟩
theorem l_23 {d c : Nat} {R : Int → Nat → zH → Prop} {X : Nat → Nat → zH → Prop} {h : zH} {i : Int} (g : gI h) (hi : 0 ≤ i ∧ i + 7 ≤ h 0 (-1) ∧ h 0 (-1) ≤ 2147483647) (cont : lpC d c i h R X) : lpZ d 1478 i c h R X := by
  refine b_0_1478 ⟨lpB hi 1 (by decide) (by decide), lpB hi 2 (by decide) (by decide), lpB hi 3 (by decide) (by decide), zCl_mono (fun y c1 h1 q => ?_) (fun _ _ _ w => w.1) (cCnt (by decide) (o_23 g))⟩
  obtain ⟨⟨sc, q⟩, u1⟩ := q
  simp only [sc]
  exact ⟨lpB hi 1 (by decide) (by decide), lpB hi 2 (by decide) (by decide), lpB hi 3 (by decide) (by decide), zCl_mono (fun b c2 h2 q2 => gP_go q2.1 (fun a e => cont _ _ (by have := q2.2; omega) a e)) (fun _ _ _ w => w.1) (cCnt (by decide) q)⟩
theorem l_24 {d c : Nat} {R : Int → Nat → zH → Prop} {X : Nat → Nat → zH → Prop} {h : zH} {i : Int} (g : gI h) (hi : 0 ≤ i ∧ i + 7 ≤ h 0 (-1) ∧ h 0 (-1) ≤ 2147483647) (cont : lpC d c i h R X) : lpZ d 1558 i c h R X := by
  refine b_0_1558 ⟨lpB hi 1 (by decide) (by decide), lpB hi 2 (by decide) (by decide), lpB hi 3 (by decide) (by decide), zCl_mono (fun y c1 h1 q => ?_) (fun _ _ _ w => w.1) (cCnt (by decide) (o_24 g))⟩
  obtain ⟨⟨sc, q⟩, u1⟩ := q
  simp only [sc]
  exact ⟨lpB hi 1 (by decide) (by decide), lpB hi 2 (by decide) (by decide), lpB hi 3 (by decide) (by decide), zCl_mono (fun b c2 h2 q2 => gP_go q2.1 (fun a e => cont _ _ (by have := q2.2; omega) a e)) (fun _ _ _ w => w.1) (cCnt (by decide) q)⟩
theorem l_25 {d c : Nat} {R : Int → Nat → zH → Prop} {X : Nat → Nat → zH → Prop} {h : zH} {i : Int} (g : gI h) (hi : 0 ≤ i ∧ i + 7 ≤ h 0 (-1) ∧ h 0 (-1) ≤ 2147483647) (cont : lpC d c i h R X) : lpZ d 1638 i c h R X := by
  refine b_0_1638 ⟨lpB hi 1 (by decide) (by decide), lpB hi 2 (by decide) (by decide), lpB hi 3 (by decide) (by decide), lpB hi 4 (by decide) (by decide), zCl_mono (fun y c1 h1 q => ?_) (fun _ _ _ w => w.1) (cCnt (by decide) (o_25 g))⟩
  obtain ⟨⟨sc, q⟩, u1⟩ := q
  simp only [sc]
  exact ⟨lpB hi 1 (by decide) (by decide), lpB hi 2 (by decide) (by decide), lpB hi 3 (by decide) (by decide), lpB hi 4 (by decide) (by decide), zCl_mono (fun b c2 h2 q2 => gP_go q2.1 (fun a e => cont _ _ (by have := q2.2; omega) a e)) (fun _ _ _ w => w.1) (cCnt (by decide) q)⟩
theorem l_26 {d c : Nat} {R : Int → Nat → zH → Prop} {X : Nat → Nat → zH → Prop} {h : zH} {i : Int} (g : gI h) (hi : 0 ≤ i ∧ i + 7 ≤ h 0 (-1) ∧ h 0 (-1) ≤ 2147483647) (cont : lpC d c i h R X) : lpZ d 1730 i c h R X := by
  refine b_0_1730 ⟨lpB hi 1 (by decide) (by decide), lpB hi 2 (by decide) (by decide), lpB hi 3 (by decide) (by decide), lpB hi 4 (by decide) (by decide), zCl_mono (fun y c1 h1 q => ?_) (fun _ _ _ w => w.1) (cCnt (by decide) (o_26 g))⟩
  obtain ⟨⟨sc, q⟩, u1⟩ := q
  simp only [sc]
  exact ⟨lpB hi 1 (by decide) (by decide), lpB hi 2 (by decide) (by decide), lpB hi 3 (by decide) (by decide), lpB hi 4 (by decide) (by decide), zCl_mono (fun b c2 h2 q2 => gP_go q2.1 (fun a e => cont _ _ (by have := q2.2; omega) a e)) (fun _ _ _ w => w.1) (cCnt (by decide) q)⟩
theorem l_27 {d c : Nat} {R : Int → Nat → zH → Prop} {X : Nat → Nat → zH → Prop} {h : zH} {i : Int} (g : gI h) (hi : 0 ≤ i ∧ i + 7 ≤ h 0 (-1) ∧ h 0 (-1) ≤ 2147483647) (cont : lpC d c i h R X) : lpZ d 1821 i c h R X := by
  refine b_0_1821 ⟨lpB hi 1 (by decide) (by decide), lpB hi 2 (by decide) (by decide), zCl_mono (fun y c1 h1 q => ?_) (fun _ _ _ w => w.1) (cCnt (by decide) (o_27 g))⟩
  obtain ⟨⟨sc, q⟩, u1⟩ := q
  simp only [sc]
  exact ⟨lpB hi 1 (by decide) (by decide), lpB hi 2 (by decide) (by decide), zCl_mono (fun b c2 h2 q2 => gP_go q2.1 (fun a e => cont _ _ (by have := q2.2; omega) a e)) (fun _ _ _ w => w.1) (cCnt (by decide) q)⟩
theorem l_28 {d c : Nat} {R : Int → Nat → zH → Prop} {X : Nat → Nat → zH → Prop} {h : zH} {i : Int} (g : gI h) (hi : 0 ≤ i ∧ i + 7 ≤ h 0 (-1) ∧ h 0 (-1) ≤ 2147483647) (cont : lpC d c i h R X) : lpZ d 1889 i c h R X := by
  refine b_0_1889 ⟨lpB hi 1 (by decide) (by decide), zCl_mono (fun y c1 h1 q => ?_) (fun _ _ _ w => w.1) (cCnt (by decide) (o_28 g))⟩
  obtain ⟨⟨sc, q⟩, u1⟩ := q
  simp only [sc]
  exact ⟨lpB hi 1 (by decide) (by decide), zCl_mono (fun b c2 h2 q2 => gP_go q2.1 (fun a e => cont _ _ (by have := q2.2; omega) a e)) (fun _ _ _ w => w.1) (cCnt (by decide) q)⟩
theorem l_29 {d c : Nat} {R : Int → Nat → zH → Prop} {X : Nat → Nat → zH → Prop} {h : zH} {i : Int} (g : gI h) (hi : 0 ≤ i ∧ i + 7 ≤ h 0 (-1) ∧ h 0 (-1) ≤ 2147483647) (cont : lpC d c i h R X) : lpZ d 1945 i c h R X := by
  refine b_0_1945 ⟨lpB hi 1 (by decide) (by decide), lpB hi 2 (by decide) (by decide), lpB hi 3 (by decide) (by decide), lpB hi 4 (by decide) (by decide), zCl_mono (fun y c1 h1 q => ?_) (fun _ _ _ w => w.1) (cCnt (by decide) (o_29 g))⟩
  obtain ⟨⟨sc, q⟩, u1⟩ := q
  simp only [sc]
  exact ⟨lpB hi 1 (by decide) (by decide), lpB hi 2 (by decide) (by decide), lpB hi 3 (by decide) (by decide), lpB hi 4 (by decide) (by decide), zCl_mono (fun b c2 h2 q2 => gP_go q2.1 (fun a e => cont _ _ (by have := q2.2; omega) a e)) (fun _ _ _ w => w.1) (cCnt (by decide) q)⟩
theorem l_30 {d c : Nat} {R : Int → Nat → zH → Prop} {X : Nat → Nat → zH → Prop} {h : zH} {i : Int} (g : gI h) (hi : 0 ≤ i ∧ i + 7 ≤ h 0 (-1) ∧ h 0 (-1) ≤ 2147483647) (cont : lpC d c i h R X) : lpZ d 2036 i c h R X := by
  refine b_0_2036 ⟨lpB hi 1 (by decide) (by decide), lpB hi 2 (by decide) (by decide), zCl_mono (fun y c1 h1 q => ?_) (fun _ _ _ w => w.1) (cCnt (by decide) (o_30 g))⟩
  obtain ⟨⟨sc, q⟩, u1⟩ := q
  simp only [sc]
  exact ⟨lpB hi 1 (by decide) (by decide), lpB hi 2 (by decide) (by decide), zCl_mono (fun b c2 h2 q2 => gP_go q2.1 (fun a e => cont _ _ (by have := q2.2; omega) a e)) (fun _ _ _ w => w.1) (cCnt (by decide) q)⟩
theorem l_31 {d c : Nat} {R : Int → Nat → zH → Prop} {X : Nat → Nat → zH → Prop} {h : zH} {i : Int} (g : gI h) (hi : 0 ≤ i ∧ i + 7 ≤ h 0 (-1) ∧ h 0 (-1) ≤ 2147483647) (cont : lpC d c i h R X) : lpZ d 2104 i c h R X := by
  refine b_0_2104 ⟨lpB hi 1 (by decide) (by decide), lpB hi 2 (by decide) (by decide), zCl_mono (fun y c1 h1 q => ?_) (fun _ _ _ w => w.1) (cCnt (by decide) (o_31 g))⟩
  obtain ⟨⟨sc, q⟩, u1⟩ := q
  simp only [sc]
  exact ⟨lpB hi 1 (by decide) (by decide), lpB hi 2 (by decide) (by decide), zCl_mono (fun b c2 h2 q2 => gP_go q2.1 (fun a e => cont _ _ (by have := q2.2; omega) a e)) (fun _ _ _ w => w.1) (cCnt (by decide) q)⟩
theorem l_32 {d c : Nat} {R : Int → Nat → zH → Prop} {X : Nat → Nat → zH → Prop} {h : zH} {i : Int} (g : gI h) (hi : 0 ≤ i ∧ i + 7 ≤ h 0 (-1) ∧ h 0 (-1) ≤ 2147483647) (cont : lpC d c i h R X) : lpZ d 2172 i c h R X := by
  refine b_0_2172 ⟨lpB hi 1 (by decide) (by decide), zCl_mono (fun y c1 h1 q => ?_) (fun _ _ _ w => w.1) (cCnt (by decide) (o_32 g))⟩
  obtain ⟨⟨sc, q⟩, u1⟩ := q
  simp only [sc]
  exact ⟨lpB hi 1 (by decide) (by decide), zCl_mono (fun b c2 h2 q2 => gP_go q2.1 (fun a e => cont _ _ (by have := q2.2; omega) a e)) (fun _ _ _ w => w.1) (cCnt (by decide) q)⟩
theorem l_33 {d c : Nat} {R : Int → Nat → zH → Prop} {X : Nat → Nat → zH → Prop} {h : zH} {i : Int} (g : gI h) (hi : 0 ≤ i ∧ i + 7 ≤ h 0 (-1) ∧ h 0 (-1) ≤ 2147483647) (cont : lpC d c i h R X) : lpZ d 2228 i c h R X := by
  refine b_0_2228 ⟨lpB hi 1 (by decide) (by decide), zCl_mono (fun y c1 h1 q => ?_) (fun _ _ _ w => w.1) (cCnt (by decide) (o_33 g))⟩
  obtain ⟨⟨sc, q⟩, u1⟩ := q
  simp only [sc]
  exact ⟨lpB hi 1 (by decide) (by decide), zCl_mono (fun b c2 h2 q2 => gP_go q2.1 (fun a e => cont _ _ (by have := q2.2; omega) a e)) (fun _ _ _ w => w.1) (cCnt (by decide) q)⟩
theorem l_34 {d c : Nat} {R : Int → Nat → zH → Prop} {X : Nat → Nat → zH → Prop} {h : zH} {i : Int} (g : gI h) (hi : 0 ≤ i ∧ i + 7 ≤ h 0 (-1) ∧ h 0 (-1) ≤ 2147483647) (cont : lpC d c i h R X) : lpZ d 2284 i c h R X := by
  refine b_0_2284 ⟨lpB hi 1 (by decide) (by decide), zCl_mono (fun y c1 h1 q => ?_) (fun _ _ _ w => w.1) (cCnt (by decide) (o_34 g))⟩
  obtain ⟨⟨sc, q⟩, u1⟩ := q
  simp only [sc]
  exact ⟨lpB hi 1 (by decide) (by decide), zCl_mono (fun b c2 h2 q2 => gP_go q2.1 (fun a e => cont _ _ (by have := q2.2; omega) a e)) (fun _ _ _ w => w.1) (cCnt (by decide) q)⟩
theorem l_35 {d c : Nat} {R : Int → Nat → zH → Prop} {X : Nat → Nat → zH → Prop} {h : zH} {i : Int} (g : gI h) (hi : 0 ≤ i ∧ i + 7 ≤ h 0 (-1) ∧ h 0 (-1) ≤ 2147483647) (cont : lpC d c i h R X) : lpZ d 2340 i c h R X := by
  refine b_0_2340 ⟨lpB hi 1 (by decide) (by decide), zCl_mono (fun y c1 h1 q => ?_) (fun _ _ _ w => w.1) (cCnt (by decide) (o_35 g))⟩
  obtain ⟨⟨sc, q⟩, u1⟩ := q
  simp only [sc]
  exact ⟨lpB hi 1 (by decide) (by decide), zCl_mono (fun b c2 h2 q2 => gP_go q2.1 (fun a e => cont _ _ (by have := q2.2; omega) a e)) (fun _ _ _ w => w.1) (cCnt (by decide) q)⟩
theorem l_36 {d c : Nat} {R : Int → Nat → zH → Prop} {X : Nat → Nat → zH → Prop} {h : zH} {i : Int} (g : gI h) (hi : 0 ≤ i ∧ i + 7 ≤ h 0 (-1) ∧ h 0 (-1) ≤ 2147483647) (cont : lpC d c i h R X) : lpZ d 2396 i c h R X := by
  refine b_0_2396 ⟨lpB hi 1 (by decide) (by decide), lpB hi 2 (by decide) (by decide), zCl_mono (fun y c1 h1 q => ?_) (fun _ _ _ w => w.1) (cCnt (by decide) (o_36 g))⟩
  obtain ⟨⟨sc, q⟩, u1⟩ := q
  simp only [sc]
  exact ⟨lpB hi 1 (by decide) (by decide), lpB hi 2 (by decide) (by decide), zCl_mono (fun b c2 h2 q2 => gP_go q2.1 (fun a e => cont _ _ (by have := q2.2; omega) a e)) (fun _ _ _ w => w.1) (cCnt (by decide) q)⟩
theorem l_37 {d c : Nat} {R : Int → Nat → zH → Prop} {X : Nat → Nat → zH → Prop} {h : zH} {i : Int} (g : gI h) (hi : 0 ≤ i ∧ i + 7 ≤ h 0 (-1) ∧ h 0 (-1) ≤ 2147483647) (cont : lpC d c i h R X) : lpZ d 2463 i c h R X := by
  refine b_0_2463 (zCl_mono (fun y c1 h1 q => ?_) (fun _ _ _ w => w.1) (cCnt (by decide) (o_37 g)))
  obtain ⟨⟨sc, q⟩, u1⟩ := q
  exact zCl_mono (fun b c2 h2 q2 => gQ_go q2.1 (fun a e => cont _ _ (by have := q2.2; omega) a e)) (fun _ _ _ w => w.1) (cCnt (by decide) q)
theorem l_38 {d c : Nat} {R : Int → Nat → zH → Prop} {X : Nat → Nat → zH → Prop} {h : zH} {i : Int} (g : gI h) (hi : 0 ≤ i ∧ i + 7 ≤ h 0 (-1) ∧ h 0 (-1) ≤ 2147483647) (cont : lpC d c i h R X) : lpZ d 2476 i c h R X := by
  refine b_0_2476 (zCl_mono (fun y c1 h1 q => ?_) (fun _ _ _ w => w.1) (cCnt (by decide) (o_38 g)))
  obtain ⟨⟨sc, q⟩, u1⟩ := q
  exact zCl_mono (fun b c2 h2 q2 => gQ_go q2.1 (fun a e => cont _ _ (by have := q2.2; omega) a e)) (fun _ _ _ w => w.1) (cCnt (by decide) q)
theorem l_39 {d c : Nat} {R : Int → Nat → zH → Prop} {X : Nat → Nat → zH → Prop} {h : zH} {i : Int} (g : gI h) (hi : 0 ≤ i ∧ i + 7 ≤ h 0 (-1) ∧ h 0 (-1) ≤ 2147483647) (cont : lpC d c i h R X) : lpZ d 2489 i c h R X := by
  refine b_0_2489 ⟨lpB hi 1 (by decide) (by decide), lpB hi 2 (by decide) (by decide), zCl_mono (fun y c1 h1 q => ?_) (fun _ _ _ w => w.1) (cCnt (by decide) (o_39 g))⟩
  obtain ⟨⟨sc, q⟩, u1⟩ := q
  simp only [sc]
  exact ⟨lpB hi 1 (by decide) (by decide), lpB hi 2 (by decide) (by decide), zCl_mono (fun b c2 h2 q2 => gP_go q2.1 (fun a e => cont _ _ (by have := q2.2; omega) a e)) (fun _ _ _ w => w.1) (cCnt (by decide) q)⟩
theorem l_40 {d c : Nat} {R : Int → Nat → zH → Prop} {X : Nat → Nat → zH → Prop} {h : zH} {i : Int} (g : gI h) (hi : 0 ≤ i ∧ i + 7 ≤ h 0 (-1) ∧ h 0 (-1) ≤ 2147483647) (cont : lpC d c i h R X) : lpZ d 2557 i c h R X := by
  refine b_0_2557 ⟨lpB hi 1 (by decide) (by decide), lpB hi 2 (by decide) (by decide), lpB hi 3 (by decide) (by decide), zCl_mono (fun y c1 h1 q => ?_) (fun _ _ _ w => w.1) (cCnt (by decide) (o_40 g))⟩
  obtain ⟨⟨sc, q⟩, u1⟩ := q
  simp only [sc]
  exact ⟨lpB hi 1 (by decide) (by decide), lpB hi 2 (by decide) (by decide), lpB hi 3 (by decide) (by decide), zCl_mono (fun b c2 h2 q2 => gP_go q2.1 (fun a e => cont _ _ (by have := q2.2; omega) a e)) (fun _ _ _ w => w.1) (cCnt (by decide) q)⟩
theorem l_41 {d c : Nat} {R : Int → Nat → zH → Prop} {X : Nat → Nat → zH → Prop} {h : zH} {i : Int} (g : gI h) (hi : 0 ≤ i ∧ i + 7 ≤ h 0 (-1) ∧ h 0 (-1) ≤ 2147483647) (cont : lpC d c i h R X) : lpZ d 2637 i c h R X := by
  refine b_0_2637 ⟨lpB hi 1 (by decide) (by decide), lpB hi 2 (by decide) (by decide), zCl_mono (fun y c1 h1 q => ?_) (fun _ _ _ w => w.1) (cCnt (by decide) (o_41 g))⟩
  obtain ⟨⟨sc, q⟩, u1⟩ := q
  simp only [sc]
  exact ⟨lpB hi 1 (by decide) (by decide), lpB hi 2 (by decide) (by decide), zCl_mono (fun b c2 h2 q2 => gP_go q2.1 (fun a e => cont _ _ (by have := q2.2; omega) a e)) (fun _ _ _ w => w.1) (cCnt (by decide) q)⟩
theorem l_42 {d c : Nat} {R : Int → Nat → zH → Prop} {X : Nat → Nat → zH → Prop} {h : zH} {i : Int} (g : gI h) (hi : 0 ≤ i ∧ i + 7 ≤ h 0 (-1) ∧ h 0 (-1) ≤ 2147483647) (cont : lpC d c i h R X) : lpZ d 2705 i c h R X := by
  refine b_0_2705 ⟨lpB hi 1 (by decide) (by decide), lpB hi 2 (by decide) (by decide), zCl_mono (fun y c1 h1 q => ?_) (fun _ _ _ w => w.1) (cCnt (by decide) (o_42 g))⟩
  obtain ⟨⟨sc, q⟩, u1⟩ := q
  simp only [sc]
  exact ⟨lpB hi 1 (by decide) (by decide), lpB hi 2 (by decide) (by decide), zCl_mono (fun b c2 h2 q2 => gP_go q2.1 (fun a e => cont _ _ (by have := q2.2; omega) a e)) (fun _ _ _ w => w.1) (cCnt (by decide) q)⟩
theorem l_43 {d c : Nat} {R : Int → Nat → zH → Prop} {X : Nat → Nat → zH → Prop} {h : zH} {i : Int} (g : gI h) (hi : 0 ≤ i ∧ i + 7 ≤ h 0 (-1) ∧ h 0 (-1) ≤ 2147483647) (cont : lpC d c i h R X) : lpZ d 2773 i c h R X := by
  refine b_0_2773 ⟨lpB hi 1 (by decide) (by decide), zCl_mono (fun y c1 h1 q => ?_) (fun _ _ _ w => w.1) (cCnt (by decide) (o_43 g))⟩
  obtain ⟨⟨sc, q⟩, u1⟩ := q
  simp only [sc]
  exact ⟨lpB hi 1 (by decide) (by decide), zCl_mono (fun b c2 h2 q2 => gP_go q2.1 (fun a e => cont _ _ (by have := q2.2; omega) a e)) (fun _ _ _ w => w.1) (cCnt (by decide) q)⟩
theorem l_44 {d c : Nat} {R : Int → Nat → zH → Prop} {X : Nat → Nat → zH → Prop} {h : zH} {i : Int} (g : gI h) (hi : 0 ≤ i ∧ i + 7 ≤ h 0 (-1) ∧ h 0 (-1) ≤ 2147483647) (cont : lpC d c i h R X) : lpZ d 2829 i c h R X := by
  refine b_0_2829 (zCl_mono (fun y c1 h1 q => ?_) (fun _ _ _ w => w.1) (cCnt (by decide) (o_44 g)))
  obtain ⟨⟨sc, q⟩, u1⟩ := q
  exact zCl_mono (fun b c2 h2 q2 => gQ_go q2.1 (fun a e => cont _ _ (by have := q2.2; omega) a e)) (fun _ _ _ w => w.1) (cCnt (by decide) q)
theorem l_45 {d c : Nat} {R : Int → Nat → zH → Prop} {X : Nat → Nat → zH → Prop} {h : zH} {i : Int} (g : gI h) (hi : 0 ≤ i ∧ i + 7 ≤ h 0 (-1) ∧ h 0 (-1) ≤ 2147483647) (cont : lpC d c i h R X) : lpZ d 2842 i c h R X := by
  refine b_0_2842 (zCl_mono (fun y c1 h1 q => ?_) (fun _ _ _ w => w.1) (cCnt (by decide) (o_45 g)))
  obtain ⟨⟨sc, q⟩, u1⟩ := q
  exact zCl_mono (fun b c2 h2 q2 => gQ_go q2.1 (fun a e => cont _ _ (by have := q2.2; omega) a e)) (fun _ _ _ w => w.1) (cCnt (by decide) q)
theorem l_46 {d c : Nat} {R : Int → Nat → zH → Prop} {X : Nat → Nat → zH → Prop} {h : zH} {i : Int} (g : gI h) (hi : 0 ≤ i ∧ i + 7 ≤ h 0 (-1) ∧ h 0 (-1) ≤ 2147483647) (cont : lpC d c i h R X) : lpZ d 2855 i c h R X := by
  refine b_0_2855 (zCl_mono (fun y c1 h1 q => ?_) (fun _ _ _ w => w.1) (cCnt (by decide) (o_46 g)))
  obtain ⟨⟨sc, q⟩, u1⟩ := q
  exact zCl_mono (fun b c2 h2 q2 => gQ_go q2.1 (fun a e => cont _ _ (by have := q2.2; omega) a e)) (fun _ _ _ w => w.1) (cCnt (by decide) q)
theorem l_47 {d c : Nat} {R : Int → Nat → zH → Prop} {X : Nat → Nat → zH → Prop} {h : zH} {i : Int} (g : gI h) (hi : 0 ≤ i ∧ i + 7 ≤ h 0 (-1) ∧ h 0 (-1) ≤ 2147483647) (cont : lpC d c i h R X) : lpZ d 2868 i c h R X := by
  refine b_0_2868 ⟨lpB hi 1 (by decide) (by decide), zCl_mono (fun y c1 h1 q => ?_) (fun _ _ _ w => w.1) (cCnt (by decide) (o_47 g))⟩
  obtain ⟨⟨sc, q⟩, u1⟩ := q
  simp only [sc]
  exact ⟨lpB hi 1 (by decide) (by decide), zCl_mono (fun b c2 h2 q2 => gQ_go q2.1 (fun a e => cont _ _ (by have := q2.2; omega) a e)) (fun _ _ _ w => w.1) (cCnt (by decide) q)⟩
theorem l_48 {d c : Nat} {R : Int → Nat → zH → Prop} {X : Nat → Nat → zH → Prop} {h : zH} {i : Int} (g : gI h) (hi : 0 ≤ i ∧ i + 7 ≤ h 0 (-1) ∧ h 0 (-1) ≤ 2147483647) (cont : lpC d c i h R X) : lpZ d 2893 i c h R X := by
  refine b_0_2893 ⟨lpB hi 1 (by decide) (by decide), zCl_mono (fun y c1 h1 q => ?_) (fun _ _ _ w => w.1) (cCnt (by decide) (o_48 g))⟩
  obtain ⟨⟨sc, q⟩, u1⟩ := q
  simp only [sc]
  exact ⟨lpB hi 1 (by decide) (by decide), zCl_mono (fun b c2 h2 q2 => gQ_go q2.1 (fun a e => cont _ _ (by have := q2.2; omega) a e)) (fun _ _ _ w => w.1) (cCnt (by decide) q)⟩
theorem l_all {d c : Nat} {R : Int → Nat → zH → Prop} {X : Nat → Nat → zH → Prop} {h : zH} {i : Int} (g : gI h) (hi : 0 ≤ i ∧ i + 7 ≤ h 0 (-1) ∧ h 0 (-1) ≤ 2147483647) (cont : lpC d c i h R X) : lpZ d 23 i c h R X := by
  refine b_0_23 ⟨fun n => ?_, fun _ => ⟨by omega, ?_⟩⟩
  · rw [w32_e (by omega) (by omega)] at n
    omega
  exact ⟨fun _ => l_0 g hi cont, fun _ => ⟨fun _ => l_1 g hi cont, fun _ => ⟨fun _ => l_2 g hi cont, fun _ => ⟨fun _ => l_3 g hi cont, fun _ => ⟨fun _ => l_4 g hi cont, fun _ => ⟨fun _ => l_5 g hi cont, fun _ => ⟨fun _ => l_6 g hi cont, fun _ => ⟨fun _ => l_7 g hi cont, fun _ => ⟨fun _ => l_8 g hi cont, fun _ => ⟨fun _ => l_9 g hi cont, fun _ => ⟨fun _ => l_10 g hi cont, fun _ => ⟨fun _ => l_11 g hi cont, fun _ => ⟨fun _ => l_12 g hi cont, fun _ => ⟨fun _ => l_13 g hi cont, fun _ => ⟨fun _ => l_14 g hi cont, fun _ => ⟨fun _ => l_15 g hi cont, fun _ => ⟨fun _ => l_16 g hi cont, fun _ => ⟨fun _ => l_17 g hi cont, fun _ => ⟨fun _ => l_18 g hi cont, fun _ => ⟨fun _ => l_19 g hi cont, fun _ => ⟨fun _ => l_20 g hi cont, fun _ => ⟨fun _ => l_21 g hi cont, fun _ => ⟨fun _ => l_22 g hi cont, fun _ => ⟨fun _ => l_23 g hi cont, fun _ => ⟨fun _ => l_24 g hi cont, fun _ => ⟨fun _ => l_25 g hi cont, fun _ => ⟨fun _ => l_26 g hi cont, fun _ => ⟨fun _ => l_27 g hi cont, fun _ => ⟨fun _ => l_28 g hi cont, fun _ => ⟨fun _ => l_29 g hi cont, fun _ => ⟨fun _ => l_30 g hi cont, fun _ => ⟨fun _ => l_31 g hi cont, fun _ => ⟨fun _ => l_32 g hi cont, fun _ => ⟨fun _ => l_33 g hi cont, fun _ => ⟨fun _ => l_34 g hi cont, fun _ => ⟨fun _ => l_35 g hi cont, fun _ => ⟨fun _ => l_36 g hi cont, fun _ => ⟨fun _ => l_37 g hi cont, fun _ => ⟨fun _ => l_38 g hi cont, fun _ => ⟨fun _ => l_39 g hi cont, fun _ => ⟨fun _ => l_40 g hi cont, fun _ => ⟨fun _ => l_41 g hi cont, fun _ => ⟨fun _ => l_42 g hi cont, fun _ => ⟨fun _ => l_43 g hi cont, fun _ => ⟨fun _ => l_44 g hi cont, fun _ => ⟨fun _ => l_45 g hi cont, fun _ => ⟨fun _ => l_46 g hi cont, fun _ => ⟨fun _ => l_47 g hi cont, fun _ => ⟨fun _ => l_48 g hi cont, fun _ => cont _ _ (Nat.le_add_right _ _) g (fun _ => rfl)⟩⟩⟩⟩⟩⟩⟩⟩⟩⟩⟩⟩⟩⟩⟩⟩⟩⟩⟩⟩⟩⟩⟩⟩⟩⟩⟩⟩⟩⟩⟩⟩⟩⟩⟩⟩⟩⟩⟩⟩⟩⟩⟩⟩⟩⟩⟩⟩⟩
/-- from a state of both sides on, the law answers yes -/
theorem l_loop {d C : Nat} {R : Int → Nat → zH → Prop} {X : Nat → Nat → zH → Prop} {n : Int} (hn : n ≤ 2147483647) (K : ∀ c h, c ≤ C → R 1 c h) : ∀ (k : Nat) (i : Int) (c : Nat) (h : zH), 0 ≤ i → n - i < 7 * k → c + 2 * k ≤ C → gI h → h 0 (-1) = n → 0 ≤ n → lpZ d 23 i c h R X
  | 0, i, c, h, h0, hk, hC, g, e, h1 => by
    refine b_0_23 ⟨fun _ => K _ _ (by omega), fun q => ?_⟩
    rw [e, w32_e (by omega) (by omega)] at q
    omega
  | k + 1, i, c, h, h0, hk, hC, g, e, h1 => by
    by_cases q : i + 7 ≤ n
    · refine l_all g ⟨h0, by rw [e]; exact q, by rw [e]; exact hn⟩ (fun c' h2 u g2 f2 => b_0_2918 ?_)
      rw [w32_e (by omega) (by omega)]
      exact l_loop hn K k (i + 7) c' h2 (by omega) (by omega) (by omega) g2 (by rw [f2]; exact e) h1
    · refine b_0_23 ⟨fun _ => K _ _ (by omega), fun q2 => ?_⟩
      rw [e, w32_e (by omega) (by omega)] at q2
      omega
