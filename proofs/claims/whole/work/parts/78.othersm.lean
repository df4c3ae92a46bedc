/-! the road's text: the reference's draft, the other clauses -/
theorem rdN_0 {T : Int → Int} {n lo hi : Int} {st : (Int × Int) ⊕ Int} (h : ¬ isOkS (rdN T n lo hi st).1) : (rdN T n lo hi st).2 = 0 := by
  unfold rdN at h ⊢
  cases st with
  | inl f => rfl
  | inr a =>
    dsimp only at h ⊢
    cases e : nF T n a lo hi with
    | some f => rfl
    | none =>
      rw [e] at h
      exact absurd trivial h
theorem s_238_6 {d c : Nat} {T : Int → Int} {n : Int} (wt : wTape T n) {R : Int → Nat → zH → Prop} {X : Nat → Nat → zH → Prop} {h q : zH} {m : Int → Int} {st : (Int × Int) ⊕ Int} (mt : mTape h T n) (ps : mPs h n st) (dr : mDr h q m) (cn : mCn h m) (wd : wDf m q) (K : ∀ h', (∀ o j, ¬ mTs o j → ¬ mDs o j → h' o j = h o j) → mPs h' n (rC6 T n m q st).1 → (isOkS (rC6 T n m q st).1 → mDr h' (rC6 T n m q st).2 (mUp m 6) ∧ mCn h' (mUp m 6)) → R 0 c h') : zCl (d + 2) 238 [(2, 113), (0, wC 7)] c h R X := by
  unfold rC6 at K
  dsimp only at K
  obtain ⟨dA, dB, dC, dD, dE, dF, dG, dH⟩ := dr
  have cn0 := cn
  obtain ⟨c0, c1, c3, c5, c7, c9⟩ := cn0
  refine b_238 ?_
  refine s_230 (wOk_j (by decide) (by decide) (by decide)) ⟨fun _ => ?_, fun w => absurd w (by decide +kernel)⟩
  refine s_230 (wOk_j (by decide) (by decide) (by decide)) ⟨fun _ => ?_, fun w => absurd w (by decide +kernel)⟩
  refine s_230 (wOk_j (by decide) (by decide) (by decide)) ⟨fun _ => ?_, fun w => absurd w (by decide +kernel)⟩
  refine s_230 (wOk_j (by decide) (by decide) (by decide)) ⟨fun w => absurd (by decide +kernel) w, fun _ => ?_⟩
  refine m_236 wt (by decide) (by decide) mt ps (fun h1 f1 p1 => ?_)
  refine K _ (fun o j a b => by rw [hw_ne (by unfold mDs at b; omega), f1 o j a]) (mpw (by omega) p1) (fun ok => ⟨?_, mCn_fr (fun j a b => by rw [hw_ne (by omega), f1 _ _ (by unfold mTs; omega)]) cn⟩)
  refine ⟨?_, (mDrB_k rfl (fun j => by rw [hw_ne (by omega), f1 _ _ (by unfold mTs; omega)]) (fun k => hw_ne (by omega)) dB), (mDrC_k rfl (fun j => by rw [hw_ne (by omega), f1 _ _ (by unfold mTs; omega)]) (fun k => hw_ne (by omega)) (fun k => hw_ne (by omega)) (fun k => hw_ne (by omega)) (fun k => hw_ne (by omega)) (fun k => hw_ne (by omega)) dC), (mDrD_k (fun j => by rw [hw_ne (by omega), f1 _ _ (by unfold mTs; omega)]) (fun k => hw_ne (by omega)) dD), (mDrE_k rfl (fun j => by rw [hw_ne (by omega), f1 _ _ (by unfold mTs; omega)]) (fun k => hw_ne (by omega)) dE), (mDrF_k rfl (fun j => by rw [hw_ne (by omega), f1 _ _ (by unfold mTs; omega)]) (fun k => hw_ne (by omega)) dF), (mDrG_k rfl (fun j => by rw [hw_ne (by omega), f1 _ _ (by unfold mTs; omega)]) (fun k => hw_ne (by omega)) (fun k => hw_ne (by omega)) (fun k => hw_ne (by omega)) (fun k => hw_ne (by omega)) dG), (mDrH_k (fun j => by rw [hw_ne (by omega), f1 _ _ (by unfold mTs; omega)]) (fun k => hw_ne (by omega)) dH)⟩
  unfold mDrA at dA ⊢
  refine ⟨?_, ?_, ?_, ?_, ?_⟩
  · rw [hw_eq ⟨rfl, rfl⟩, hw_eq ⟨rfl, rfl⟩]
  · rw [hw_ne (by omega), f1 _ _ (by unfold mTs; omega), hw_ne (by omega)]
    exact dA.2.1
  · rw [hw_ne (by omega), f1 _ _ (by unfold mTs; omega), hw_ne (by omega)]
    exact dA.2.2.1
  · rw [hw_ne (by omega), f1 _ _ (by unfold mTs; omega), hw_ne (by omega)]
    exact dA.2.2.2.1
  · rw [hw_ne (by omega), f1 _ _ (by unfold mTs; omega), hw_ne (by omega)]
    exact dA.2.2.2.2
theorem s_238_8 {d c : Nat} {T : Int → Int} {n : Int} (wt : wTape T n) {R : Int → Nat → zH → Prop} {X : Nat → Nat → zH → Prop} {h q : zH} {m : Int → Int} {st : (Int × Int) ⊕ Int} (mt : mTape h T n) (ps : mPs h n st) (dr : mDr h q m) (cn : mCn h m) (wd : wDf m q) (K : ∀ h', (∀ o j, ¬ mTs o j → ¬ mDs o j → h' o j = h o j) → mPs h' n (rC8 T n m q st).1 → (isOkS (rC8 T n m q st).1 → mDr h' (rC8 T n m q st).2 (mUp m 8) ∧ mCn h' (mUp m 8)) → R 0 c h') : zCl (d + 2) 238 [(2, 113), (0, wC 9)] c h R X := by
  unfold rC8 at K
  dsimp only at K
  obtain ⟨dA, dB, dC, dD, dE, dF, dG, dH⟩ := dr
  have cn0 := cn
  obtain ⟨c0, c1, c3, c5, c7, c9⟩ := cn0
  refine b_238 ?_
  refine s_230 (wOk_j (by decide) (by decide) (by decide)) ⟨fun _ => ?_, fun w => absurd w (by decide +kernel)⟩
  refine s_230 (wOk_j (by decide) (by decide) (by decide)) ⟨fun _ => ?_, fun w => absurd w (by decide +kernel)⟩
  refine s_230 (wOk_j (by decide) (by decide) (by decide)) ⟨fun _ => ?_, fun w => absurd w (by decide +kernel)⟩
  refine s_230 (wOk_j (by decide) (by decide) (by decide)) ⟨fun _ => ?_, fun w => absurd w (by decide +kernel)⟩
  refine s_230 (wOk_j (by decide) (by decide) (by decide)) ⟨fun w => absurd (by decide +kernel) w, fun _ => ?_⟩
  refine m_236 wt (by decide) (by decide) mt ps (fun h1 f1 p1 => ?_)
  refine K _ (fun o j a b => by rw [hw_ne (by unfold mDs at b; omega), f1 o j a]) (mpw (by omega) p1) (fun ok => ⟨?_, mCn_fr (fun j a b => by rw [hw_ne (by omega), f1 _ _ (by unfold mTs; omega)]) cn⟩)
  refine ⟨?_, (mDrB_k rfl (fun j => by rw [hw_ne (by omega), f1 _ _ (by unfold mTs; omega)]) (fun k => hw_ne (by omega)) dB), (mDrC_k rfl (fun j => by rw [hw_ne (by omega), f1 _ _ (by unfold mTs; omega)]) (fun k => hw_ne (by omega)) (fun k => hw_ne (by omega)) (fun k => hw_ne (by omega)) (fun k => hw_ne (by omega)) (fun k => hw_ne (by omega)) dC), (mDrD_k (fun j => by rw [hw_ne (by omega), f1 _ _ (by unfold mTs; omega)]) (fun k => hw_ne (by omega)) dD), (mDrE_k rfl (fun j => by rw [hw_ne (by omega), f1 _ _ (by unfold mTs; omega)]) (fun k => hw_ne (by omega)) dE), (mDrF_k rfl (fun j => by rw [hw_ne (by omega), f1 _ _ (by unfold mTs; omega)]) (fun k => hw_ne (by omega)) dF), (mDrG_k rfl (fun j => by rw [hw_ne (by omega), f1 _ _ (by unfold mTs; omega)]) (fun k => hw_ne (by omega)) (fun k => hw_ne (by omega)) (fun k => hw_ne (by omega)) (fun k => hw_ne (by omega)) dG), (mDrH_k (fun j => by rw [hw_ne (by omega), f1 _ _ (by unfold mTs; omega)]) (fun k => hw_ne (by omega)) dH)⟩
  unfold mDrA at dA ⊢
  refine ⟨?_, ?_, ?_, ?_, ?_⟩
  · rw [hw_ne (by omega), f1 _ _ (by unfold mTs; omega), hw_ne (by omega)]
    exact dA.1
  · rw [hw_eq ⟨rfl, rfl⟩, hw_eq ⟨rfl, rfl⟩]
  · rw [hw_ne (by omega), f1 _ _ (by unfold mTs; omega), hw_ne (by omega)]
    exact dA.2.2.1
  · rw [hw_ne (by omega), f1 _ _ (by unfold mTs; omega), hw_ne (by omega)]
    exact dA.2.2.2.1
  · rw [hw_ne (by omega), f1 _ _ (by unfold mTs; omega), hw_ne (by omega)]
    exact dA.2.2.2.2
theorem s_238_10 {d c : Nat} {T : Int → Int} {n : Int} (wt : wTape T n) {R : Int → Nat → zH → Prop} {X : Nat → Nat → zH → Prop} {h q : zH} {m : Int → Int} {st : (Int × Int) ⊕ Int} (mt : mTape h T n) (ps : mPs h n st) (dr : mDr h q m) (cn : mCn h m) (wd : wDf m q) (K : ∀ h', (∀ o j, ¬ mTs o j → ¬ mDs o j → h' o j = h o j) → mPs h' n (rC10 T n m q st).1 → (isOkS (rC10 T n m q st).1 → mDr h' (rC10 T n m q st).2 (mUp m 10) ∧ mCn h' (mUp m 10)) → R 0 c h') : zCl (d + 2) 238 [(2, 113), (0, wC 11)] c h R X := by
  unfold rC10 at K
  dsimp only at K
  obtain ⟨dA, dB, dC, dD, dE, dF, dG, dH⟩ := dr
  have cn0 := cn
  obtain ⟨c0, c1, c3, c5, c7, c9⟩ := cn0
  refine b_238 ?_
  refine s_230 (wOk_j (by decide) (by decide) (by decide)) ⟨fun _ => ?_, fun w => absurd w (by decide +kernel)⟩
  refine s_230 (wOk_j (by decide) (by decide) (by decide)) ⟨fun _ => ?_, fun w => absurd w (by decide +kernel)⟩
  refine s_230 (wOk_j (by decide) (by decide) (by decide)) ⟨fun _ => ?_, fun w => absurd w (by decide +kernel)⟩
  refine s_230 (wOk_j (by decide) (by decide) (by decide)) ⟨fun _ => ?_, fun w => absurd w (by decide +kernel)⟩
  refine s_230 (wOk_j (by decide) (by decide) (by decide)) ⟨fun _ => ?_, fun w => absurd w (by decide +kernel)⟩
  refine s_230 (wOk_j (by decide) (by decide) (by decide)) ⟨fun w => absurd (by decide +kernel) w, fun _ => ?_⟩
  refine m_236 wt (by decide) (by decide) mt ps (fun h1 f1 p1 => ?_)
  refine K _ (fun o j a b => by rw [hw_ne (by unfold mDs at b; omega), f1 o j a]) (mpw (by omega) p1) (fun ok => ⟨?_, mCn_fr (fun j a b => by rw [hw_ne (by omega), f1 _ _ (by unfold mTs; omega)]) cn⟩)
  refine ⟨?_, (mDrB_k rfl (fun j => by rw [hw_ne (by omega), f1 _ _ (by unfold mTs; omega)]) (fun k => hw_ne (by omega)) dB), (mDrC_k rfl (fun j => by rw [hw_ne (by omega), f1 _ _ (by unfold mTs; omega)]) (fun k => hw_ne (by omega)) (fun k => hw_ne (by omega)) (fun k => hw_ne (by omega)) (fun k => hw_ne (by omega)) (fun k => hw_ne (by omega)) dC), (mDrD_k (fun j => by rw [hw_ne (by omega), f1 _ _ (by unfold mTs; omega)]) (fun k => hw_ne (by omega)) dD), (mDrE_k rfl (fun j => by rw [hw_ne (by omega), f1 _ _ (by unfold mTs; omega)]) (fun k => hw_ne (by omega)) dE), (mDrF_k rfl (fun j => by rw [hw_ne (by omega), f1 _ _ (by unfold mTs; omega)]) (fun k => hw_ne (by omega)) dF), (mDrG_k rfl (fun j => by rw [hw_ne (by omega), f1 _ _ (by unfold mTs; omega)]) (fun k => hw_ne (by omega)) (fun k => hw_ne (by omega)) (fun k => hw_ne (by omega)) (fun k => hw_ne (by omega)) dG), (mDrH_k (fun j => by rw [hw_ne (by omega), f1 _ _ (by unfold mTs; omega)]) (fun k => hw_ne (by omega)) dH)⟩
  unfold mDrA at dA ⊢
  refine ⟨?_, ?_, ?_, ?_, ?_⟩
  · rw [hw_ne (by omega), f1 _ _ (by unfold mTs; omega), hw_ne (by omega)]
    exact dA.1
  · rw [hw_ne (by omega), f1 _ _ (by unfold mTs; omega), hw_ne (by omega)]
    exact dA.2.1
  · rw [hw_eq ⟨rfl, rfl⟩, hw_eq ⟨rfl, rfl⟩]
  · rw [hw_ne (by omega), f1 _ _ (by unfold mTs; omega), hw_ne (by omega)]
    exact dA.2.2.2.1
  · rw [hw_ne (by omega), f1 _ _ (by unfold mTs; omega), hw_ne (by omega)]
    exact dA.2.2.2.2
theorem s_238_11 {d c : Nat} {T : Int → Int} {n : Int} (wt : wTape T n) {R : Int → Nat → zH → Prop} {X : Nat → Nat → zH → Prop} {h q : zH} {m : Int → Int} {st : (Int × Int) ⊕ Int} (mt : mTape h T n) (ps : mPs h n st) (dr : mDr h q m) (cn : mCn h m) (wd : wDf m q) (K : ∀ h', (∀ o j, ¬ mTs o j → ¬ mDs o j → h' o j = h o j) → mPs h' n (rC11 T n m q st).1 → (isOkS (rC11 T n m q st).1 → mDr h' (rC11 T n m q st).2 (mUp m 11) ∧ mCn h' (mUp m 11)) → R 0 c h') : zCl (d + 2) 238 [(2, 113), (0, wC 12)] c h R X := by
  unfold rC11 at K
  dsimp only at K
  obtain ⟨dA, dB, dC, dD, dE, dF, dG, dH⟩ := dr
  have cn0 := cn
  obtain ⟨c0, c1, c3, c5, c7, c9⟩ := cn0
  refine b_238 ?_
  refine s_230 (wOk_j (by decide) (by decide) (by decide)) ⟨fun _ => ?_, fun w => absurd w (by decide +kernel)⟩
  refine s_230 (wOk_j (by decide) (by decide) (by decide)) ⟨fun _ => ?_, fun w => absurd w (by decide +kernel)⟩
  refine s_230 (wOk_j (by decide) (by decide) (by decide)) ⟨fun _ => ?_, fun w => absurd w (by decide +kernel)⟩
  refine s_230 (wOk_j (by decide) (by decide) (by decide)) ⟨fun _ => ?_, fun w => absurd w (by decide +kernel)⟩
  refine s_230 (wOk_j (by decide) (by decide) (by decide)) ⟨fun _ => ?_, fun w => absurd w (by decide +kernel)⟩
  refine s_230 (wOk_j (by decide) (by decide) (by decide)) ⟨fun _ => ?_, fun w => absurd w (by decide +kernel)⟩
  refine m_236 wt (by decide) (by decide) mt ps (fun h1 f1 p1 => m_236 wt (by decide) (by decide) (mtw (by omega) (mTape_fr f1 mt)) (mpw (by omega) p1) (fun h2 f2 p2 => ?_))
  refine K _ (fun o j a b => by rw [hw_ne (by unfold mDs at b; omega), f2 o j a, hw_ne (by unfold mDs at b; omega), f1 o j a]) (mpw (by omega) p2) (fun ok => ⟨?_, mCn_fr (fun j a b => by rw [hw_ne (by omega), f2 _ _ (by unfold mTs; omega), hw_ne (by omega), f1 _ _ (by unfold mTs; omega)]) cn⟩)
  refine ⟨?_, (mDrB_k rfl (fun j => by rw [hw_ne (by omega), f2 _ _ (by unfold mTs; omega), hw_ne (by omega), f1 _ _ (by unfold mTs; omega)]) (fun k => by rw [hw_ne (by omega), hw_ne (by omega)]) dB), (mDrC_k rfl (fun j => by rw [hw_ne (by omega), f2 _ _ (by unfold mTs; omega), hw_ne (by omega), f1 _ _ (by unfold mTs; omega)]) (fun k => by rw [hw_ne (by omega), hw_ne (by omega)]) (fun k => by rw [hw_ne (by omega), hw_ne (by omega)]) (fun k => by rw [hw_ne (by omega), hw_ne (by omega)]) (fun k => by rw [hw_ne (by omega), hw_ne (by omega)]) (fun k => by rw [hw_ne (by omega), hw_ne (by omega)]) dC), (mDrD_k (fun j => by rw [hw_ne (by omega), f2 _ _ (by unfold mTs; omega), hw_ne (by omega), f1 _ _ (by unfold mTs; omega)]) (fun k => by rw [hw_ne (by omega), hw_ne (by omega)]) dD), (mDrE_k rfl (fun j => by rw [hw_ne (by omega), f2 _ _ (by unfold mTs; omega), hw_ne (by omega), f1 _ _ (by unfold mTs; omega)]) (fun k => by rw [hw_ne (by omega), hw_ne (by omega)]) dE), (mDrF_k rfl (fun j => by rw [hw_ne (by omega), f2 _ _ (by unfold mTs; omega), hw_ne (by omega), f1 _ _ (by unfold mTs; omega)]) (fun k => by rw [hw_ne (by omega), hw_ne (by omega)]) dF), (mDrG_k rfl (fun j => by rw [hw_ne (by omega), f2 _ _ (by unfold mTs; omega), hw_ne (by omega), f1 _ _ (by unfold mTs; omega)]) (fun k => by rw [hw_ne (by omega), hw_ne (by omega)]) (fun k => by rw [hw_ne (by omega), hw_ne (by omega)]) (fun k => by rw [hw_ne (by omega), hw_ne (by omega)]) (fun k => by rw [hw_ne (by omega), hw_ne (by omega)]) dG), (mDrH_k (fun j => by rw [hw_ne (by omega), f2 _ _ (by unfold mTs; omega), hw_ne (by omega), f1 _ _ (by unfold mTs; omega)]) (fun k => by rw [hw_ne (by omega), hw_ne (by omega)]) dH)⟩
  unfold mDrA at dA ⊢
  refine ⟨?_, ?_, ?_, ?_, ?_⟩
  · rw [hw_ne (by omega), f2 _ _ (by unfold mTs; omega), hw_ne (by omega), f1 _ _ (by unfold mTs; omega), hw_ne (by omega), hw_ne (by omega)]
    exact dA.1
  · rw [hw_ne (by omega), f2 _ _ (by unfold mTs; omega), hw_ne (by omega), f1 _ _ (by unfold mTs; omega), hw_ne (by omega), hw_ne (by omega)]
    exact dA.2.1
  · rw [hw_ne (by omega), f2 _ _ (by unfold mTs; omega), hw_ne (by omega), f1 _ _ (by unfold mTs; omega), hw_ne (by omega), hw_ne (by omega)]
    exact dA.2.2.1
  · rw [hw_ne (by omega), f2 _ _ (by unfold mTs; omega), hw_eq ⟨rfl, rfl⟩, hw_ne (by omega), hw_eq ⟨rfl, rfl⟩]
  · rw [hw_eq ⟨rfl, rfl⟩, hw_eq ⟨rfl, rfl⟩]
theorem s_238_2 {d c : Nat} {T : Int → Int} {n : Int} (wt : wTape T n) {R : Int → Nat → zH → Prop} {X : Nat → Nat → zH → Prop} {h q : zH} {m : Int → Int} {st : (Int × Int) ⊕ Int} (mt : mTape h T n) (ps : mPs h n st) (dr : mDr h q m) (cn : mCn h m) (wd : wDf m q) (hi : 0 ≤ m 1 ∧ m 1 ≤ 12) (K : ∀ h', (∀ o j, ¬ mTs o j → ¬ mDs o j → h' o j = h o j) → mPs h' n (rC2 T n m q st).1 → (isOkS (rC2 T n m q st).1 → mDr h' (rC2 T n m q st).2 (mUp m 2) ∧ mCn h' (mUp m 2)) → R 0 c h') : zCl (d + 2) 238 [(2, 113), (0, wC 3)] c h R X := by
  unfold rC2 at K
  dsimp only at K
  obtain ⟨dA, dB, dC, dD, dE, dF, dG, dH⟩ := dr
  have cn0 := cn
  obtain ⟨c0, c1, c3, c5, c7, c9⟩ := cn0
  refine b_238 ?_
  refine s_230 (wOk_j (by decide) (by decide) (by decide)) ⟨fun w => absurd (by decide +kernel) w, fun _ => ?_⟩
  rw [c1, w32_e (x := m 1 - 1) (by omega) (by omega)]
  refine m_236 wt (by decide) (by omega) mt ps (fun h1 f1 p1 => ?_)
  have y1r : 0 ≤ (rdN T n 0 (m 1 - 1) st).2 ∧ (rdN T n 0 (m 1 - 1) st).2 ≤ 11 := by
    by_cases ok : isOkS (rdN T n 0 (m 1 - 1) st).1
    · have := rdN_ok ok
      omega
    · have := rdN_0 ok
      omega
  rw [w32_e (x := (rdN T n 0 (m 1 - 1) st).2 - 1) (by omega) (by omega)]
  refine m_236 wt (by decide) (by omega) (mTape_fr f1 mt) p1 (fun h2 f2 p2 => ?_)
  refine m_224 p2 (fun ok => ⟨fun v => absurd v (by decide), fun _ => ?_⟩) (fun nok => ⟨fun _ => K h2 (fun o j a b => by rw [f2 o j a, f1 o j a]) p2 (fun ok => absurd ok nok), fun v => absurd rfl v⟩)
  have ok1 := rdN_ok ok
  have r1 := rdN_ok ok1.1
  rw [w32_e (x := 5 * (rdN T n 0 (m 1 - 1) st).2) (by omega) (by omega), w32_e (x := 5 * (rdN T n 0 (m 1 - 1) st).2 + 4) (by omega) (by omega)]
  have dC' := dC
  unfold mDrC at dC'
  have e6 : h2 117 (5 * (rdN T n 0 (m 1 - 1) st).2 + 4) = q 6 (rdN T n 0 (m 1 - 1) st).2 := by rw [f2 _ _ (by unfold mTs; omega), f1 _ _ (by unfold mTs; omega)]; exact (dC' _ (by omega) (by omega)).2.2.2.2
  rw [e6]
  refine ⟨by omega, by omega, K _ (fun o j a b => by rw [hw_ne (by unfold mDs at b; omega), f2 o j a, f1 o j a]) (mpw (by omega) p2) (fun _ => ⟨?_, mCn_fr (fun j a b => by rw [hw_ne (by omega), f2 _ _ (by unfold mTs; omega), f1 _ _ (by unfold mTs; omega)]) cn⟩)⟩
  refine ⟨(mDrA_k (fun j => by rw [hw_ne (by omega), f2 _ _ (by unfold mTs; omega), f1 _ _ (by unfold mTs; omega)]) (fun k => hw_ne (by omega)) dA), (mDrB_k rfl (fun j => by rw [hw_ne (by omega), f2 _ _ (by unfold mTs; omega), f1 _ _ (by unfold mTs; omega)]) (fun k => hw_ne (by omega)) dB), ?_, (mDrD_k (fun j => by rw [hw_ne (by omega), f2 _ _ (by unfold mTs; omega), f1 _ _ (by unfold mTs; omega)]) (fun k => hw_ne (by omega)) dD), (mDrE_k rfl (fun j => by rw [hw_ne (by omega), f2 _ _ (by unfold mTs; omega), f1 _ _ (by unfold mTs; omega)]) (fun k => hw_ne (by omega)) dE), (mDrF_k rfl (fun j => by rw [hw_ne (by omega), f2 _ _ (by unfold mTs; omega), f1 _ _ (by unfold mTs; omega)]) (fun k => hw_ne (by omega)) dF), (mDrG_k rfl (fun j => by rw [hw_ne (by omega), f2 _ _ (by unfold mTs; omega), f1 _ _ (by unfold mTs; omega)]) (fun k => hw_ne (by omega)) (fun k => hw_ne (by omega)) (fun k => hw_ne (by omega)) (fun k => hw_ne (by omega)) dG), (mDrH_k (fun j => by rw [hw_ne (by omega), f2 _ _ (by unfold mTs; omega), f1 _ _ (by unfold mTs; omega)]) (fun k => hw_ne (by omega)) dH)⟩
  unfold mDrC at dC ⊢
  intro k a b
  have b' : k < m 1 := b
  have x := dC k a b'
  refine ⟨?_, ?_, ?_, ?_, ?_⟩
  · rw [hw_ne (by omega), f2 _ _ (by unfold mTs; omega), f1 _ _ (by unfold mTs; omega), hw_ne (by omega)]
    exact x.1
  · rw [hw_ne (by omega), f2 _ _ (by unfold mTs; omega), f1 _ _ (by unfold mTs; omega), hw_ne (by omega)]
    exact x.2.1
  · rw [hw_ne (by omega), f2 _ _ (by unfold mTs; omega), f1 _ _ (by unfold mTs; omega), hw_ne (by omega)]
    exact x.2.2.1
  · rw [hw_ne (by omega), f2 _ _ (by unfold mTs; omega), f1 _ _ (by unfold mTs; omega), hw_ne (by omega)]
    exact x.2.2.2.1
  · by_cases e : k = (rdN T n 0 (m 1 - 1) st).2
    · rw [hw_eq ⟨rfl, by omega⟩, hw_eq ⟨rfl, e⟩]
    · rw [hw_ne (by omega), f2 _ _ (by unfold mTs; omega), f1 _ _ (by unfold mTs; omega), hw_ne (by omega)]
      exact x.2.2.2.2
theorem s_238_4 {d c : Nat} {T : Int → Int} {n : Int} (wt : wTape T n) {R : Int → Nat → zH → Prop} {X : Nat → Nat → zH → Prop} {h q : zH} {m : Int → Int} {st : (Int × Int) ⊕ Int} (mt : mTape h T n) (ps : mPs h n st) (dr : mDr h q m) (cn : mCn h m) (wd : wDf m q) (K : ∀ h', (∀ o j, ¬ mTs o j → ¬ mDs o j → h' o j = h o j) → mPs h' n (rC4 T n m q st).1 → (isOkS (rC4 T n m q st).1 → mDr h' (rC4 T n m q st).2 (mUp m 4) ∧ mCn h' (mUp m 4)) → R 0 c h') : zCl (d + 2) 238 [(2, 113), (0, wC 5)] c h R X := by
  unfold rC4 at K
  dsimp only at K
  obtain ⟨dA, dB, dC, dD, dE, dF, dG, dH⟩ := dr
  have cn0 := cn
  obtain ⟨c0, c1, c3, c5, c7, c9⟩ := cn0
  refine b_238 ?_
  refine s_230 (wOk_j (by decide) (by decide) (by decide)) ⟨fun _ => ?_, fun w => absurd w (by decide +kernel)⟩
  refine s_230 (wOk_j (by decide) (by decide) (by decide)) ⟨fun _ => ?_, fun w => absurd w (by decide +kernel)⟩
  refine s_230 (wOk_j (by decide) (by decide) (by decide)) ⟨fun w => absurd (by decide +kernel) w, fun _ => ?_⟩
  refine m_236 wt (by decide) (by decide) mt ps (fun h1 f1 p1 => m_236 wt (by decide) (by decide) (mTape_fr f1 mt) p1 (fun h2 f2 p2 => ?_))
  refine m_224 p2 (fun ok => ⟨fun v => absurd v (by decide), fun _ => ?_⟩) (fun nok => ⟨fun _ => K h2 (fun o j a b => by rw [f2 o j a, f1 o j a]) p2 (fun ok => absurd ok nok), fun v => absurd rfl v⟩)
  have ok1 := rdN_ok ok
  have r1 := rdN_ok ok1.1
  refine ⟨by omega, K _ (fun o j a b => by rw [hw_ne (by unfold mDs at b; omega), f2 o j a, f1 o j a]) (mpw (by omega) p2) (fun _ => ⟨?_, mCn_fr (fun j a b => by rw [hw_ne (by omega), f2 _ _ (by unfold mTs; omega), f1 _ _ (by unfold mTs; omega)]) cn⟩)⟩
  refine ⟨(mDrA_k (fun j => by rw [hw_ne (by omega), f2 _ _ (by unfold mTs; omega), f1 _ _ (by unfold mTs; omega)]) (fun k => hw_ne (by omega)) dA), (mDrB_k rfl (fun j => by rw [hw_ne (by omega), f2 _ _ (by unfold mTs; omega), f1 _ _ (by unfold mTs; omega)]) (fun k => hw_ne (by omega)) dB), (mDrC_k rfl (fun j => by rw [hw_ne (by omega), f2 _ _ (by unfold mTs; omega), f1 _ _ (by unfold mTs; omega)]) (fun k => hw_ne (by omega)) (fun k => hw_ne (by omega)) (fun k => hw_ne (by omega)) (fun k => hw_ne (by omega)) (fun k => hw_ne (by omega)) dC), ?_, (mDrE_k rfl (fun j => by rw [hw_ne (by omega), f2 _ _ (by unfold mTs; omega), f1 _ _ (by unfold mTs; omega)]) (fun k => hw_ne (by omega)) dE), (mDrF_k rfl (fun j => by rw [hw_ne (by omega), f2 _ _ (by unfold mTs; omega), f1 _ _ (by unfold mTs; omega)]) (fun k => hw_ne (by omega)) dF), (mDrG_k rfl (fun j => by rw [hw_ne (by omega), f2 _ _ (by unfold mTs; omega), f1 _ _ (by unfold mTs; omega)]) (fun k => hw_ne (by omega)) (fun k => hw_ne (by omega)) (fun k => hw_ne (by omega)) (fun k => hw_ne (by omega)) dG), (mDrH_k (fun j => by rw [hw_ne (by omega), f2 _ _ (by unfold mTs; omega), f1 _ _ (by unfold mTs; omega)]) (fun k => hw_ne (by omega)) dH)⟩
  unfold mDrD at dD ⊢
  intro k a b
  by_cases e : k = (rdN T n 0 59 st).2
  · rw [hw_eq ⟨rfl, e⟩, hw_eq ⟨rfl, e⟩]
  · rw [hw_ne (by omega), f2 _ _ (by unfold mTs; omega), f1 _ _ (by unfold mTs; omega), hw_ne (by omega)]
    exact dD k a b
theorem s_238_3 {d c : Nat} {T : Int → Int} {n : Int} (wt : wTape T n) {R : Int → Nat → zH → Prop} {X : Nat → Nat → zH → Prop} {h q : zH} {m : Int → Int} {st : (Int × Int) ⊕ Int} (mt : mTape h T n) (ps : mPs h n st) (dr : mDr h q m) (cn : mCn h m) (wd : wDf m q) (hi : 0 ≤ m 3 ∧ m 3 < 100) (K : ∀ h', (∀ o j, ¬ mTs o j → ¬ mDs o j → h' o j = h o j) → mPs h' n (rC3 T n m q st).1 → (isOkS (rC3 T n m q st).1 → mDr h' (rC3 T n m q st).2 (mUp m 3) ∧ mCn h' (mUp m 3)) → R 0 c h') : zCl (d + 2) 238 [(2, 113), (0, wC 4)] c h R X := by
  unfold rC3 at K
  dsimp only at K
  obtain ⟨dA, dB, dC, dD, dE, dF, dG, dH⟩ := dr
  have cn0 := cn
  obtain ⟨c0, c1, c3, c5, c7, c9⟩ := cn0
  refine b_238 ?_
  refine s_230 (wOk_j (by decide) (by decide) (by decide)) ⟨fun _ => ?_, fun w => absurd w (by decide +kernel)⟩
  refine s_230 (wOk_j (by decide) (by decide) (by decide)) ⟨fun w => absurd (by decide +kernel) w, fun _ => ?_⟩
  refine m_236 wt (by decide) (by decide) mt ps (fun h1 f1 p1 => ?_)
  have y1r : 0 ≤ (rdN T n 0 240 st).2 ∧ (rdN T n 0 240 st).2 ≤ 240 := by
    by_cases ok : isOkS (rdN T n 0 240 st).1
    · have := rdN_ok ok
      omega
    · have := rdN_0 ok
      omega
  refine m_236 wt (by omega) (by decide) (mTape_fr f1 mt) p1 (fun h2 f2 p2 => ?_)
  refine m_224 p2 (fun ok => ⟨fun _ => ?_, fun v => absurd v (by decide)⟩) (fun nok => ⟨fun v => absurd rfl v, fun _ => K h2 (fun o j a b => by rw [f2 o j a, f1 o j a]) p2 (fun ok => absurd ok nok)⟩)
  have ok1 := rdN_ok ok
  have r1 := rdN_ok ok1.1
  generalize hy1 : (rdN T n 0 240 st).2 = y1 at *
  generalize hy2 : (rdN T n y1 240 (rdN T n 0 240 st).1).2 = y2 at *
  have main := zDown (W := fun k : Nat => y1 ≤ (k : Int) → ∀ h3, (∀ o j, o ≠ 128 → h3 o j = h2 o j) → (∀ j : Int, 0 ≤ j → j < 241 → h3 128 j = if y1 ≤ j ∧ j < k then 1 else h2 128 j) → zWp (d + 2) 238 96 [(2, 113), (0, wC 4), (0, y1), (0, y2), (0, (k : Int))] [] (zTS c h3) (zQ 0 R X)) (y2 + 1).toNat ?_ ?_ y1.toNat (by omega) (by omega) h2 (fun _ _ _ => rfl) (fun j a b => by rw [if_neg (by omega)])
  · rw [Int.toNat_of_nonneg (by omega)] at main
    exact main
  · intro _ h3 g1 g3
    refine b_238_96 ⟨fun _ => ?_, fun v => by omega⟩
    rw [g1 113 28 (by omega), f2 113 28 (by unfold mTs; omega), f1 113 28 (by unfold mTs; omega), c3, w32_e (by omega) (by omega)]
    refine K _ (fun o j a b => by rw [hw_ne (by unfold mDs at b; omega), g1 o j (by unfold mDs at b; omega), f2 o j a, f1 o j a]) (mpw (by omega) (mPs_fr ⟨g1 _ _ (by omega), g1 _ _ (by omega), g1 _ _ (by omega)⟩ p2)) (fun _ => ⟨?_, ?_⟩)
    · refine ⟨(mDrA_k (fun j => by rw [hw_ne (by omega), g1 _ _ (by omega), f2 _ _ (by unfold mTs; omega), f1 _ _ (by unfold mTs; omega)]) (fun k => if_neg (by omega)) dA), (mDrB_k rfl (fun j => by rw [hw_ne (by omega), g1 _ _ (by omega), f2 _ _ (by unfold mTs; omega), f1 _ _ (by unfold mTs; omega)]) (fun k => if_neg (by omega)) dB), (mDrC_k rfl (fun j => by rw [hw_ne (by omega), g1 _ _ (by omega), f2 _ _ (by unfold mTs; omega), f1 _ _ (by unfold mTs; omega)]) (fun k => if_neg (by omega)) (fun k => if_neg (by omega)) (fun k => if_neg (by omega)) (fun k => if_neg (by omega)) (fun k => if_neg (by omega)) dC), (mDrD_k (fun j => by rw [hw_ne (by omega), g1 _ _ (by omega), f2 _ _ (by unfold mTs; omega), f1 _ _ (by unfold mTs; omega)]) (fun k => if_neg (by omega)) dD), (mDrE_k rfl (fun j => by rw [hw_ne (by omega), g1 _ _ (by omega), f2 _ _ (by unfold mTs; omega), f1 _ _ (by unfold mTs; omega)]) (fun k => if_neg (by omega)) dE), (mDrF_k rfl (fun j => by rw [hw_ne (by omega), g1 _ _ (by omega), f2 _ _ (by unfold mTs; omega), f1 _ _ (by unfold mTs; omega)]) (fun k => if_neg (by omega)) dF), (mDrG_k rfl (fun j => by rw [hw_ne (by omega), g1 _ _ (by omega), f2 _ _ (by unfold mTs; omega), f1 _ _ (by unfold mTs; omega)]) (fun k => if_neg (by omega)) (fun k => if_neg (by omega)) (fun k => if_neg (by omega)) (fun k => if_neg (by omega)) dG), ?_⟩
      unfold mDrH at dH ⊢
      intro k a b
      rw [hw_ne (by omega), g3 k a b]
      show _ = if (14 : Int) = 14 ∧ y1 ≤ k ∧ k ≤ y2 then 1 else q 14 k
      by_cases w : y1 ≤ k ∧ k ≤ y2
      · rw [if_pos (by omega), if_pos ⟨rfl, w⟩]
      · rw [if_neg (by omega), if_neg (fun v => w v.2), f2 _ _ (by unfold mTs; omega), f1 _ _ (by unfold mTs; omega)]
        exact dH k a b
    · exact ⟨by rw [hw_ne (by omega), g1 _ _ (by omega), f2 _ _ (by unfold mTs; omega), f1 _ _ (by unfold mTs; omega)]; exact c0, by rw [hw_ne (by omega), g1 _ _ (by omega), f2 _ _ (by unfold mTs; omega), f1 _ _ (by unfold mTs; omega)]; exact c1, by rw [hw_eq ⟨rfl, rfl⟩]; rfl, by rw [hw_ne (by omega), g1 _ _ (by omega), f2 _ _ (by unfold mTs; omega), f1 _ _ (by unfold mTs; omega)]; exact c5, by rw [hw_ne (by omega), g1 _ _ (by omega), f2 _ _ (by unfold mTs; omega), f1 _ _ (by unfold mTs; omega)]; exact c7, by rw [hw_ne (by omega), g1 _ _ (by omega), f2 _ _ (by unfold mTs; omega), f1 _ _ (by unfold mTs; omega)]; exact c9⟩
  · intro k hk ih hyk h3 g1 g3
    refine b_238_96 ⟨fun v => by omega, fun _ => ⟨by omega, ?_⟩⟩
    rw [w32_s (by omega)]
    refine ih (by omega) _ (fun o j v => by rw [hw_ne (by omega), g1 o j v]) (fun j a b => ?_)
    by_cases w : j = k
    · rw [hw_eq ⟨rfl, by omega⟩, if_pos (by omega)]
    · rw [hw_ne (by omega), g3 j a b]
      by_cases w2 : y1 ≤ j ∧ j < k
      · rw [if_pos w2, if_pos (by omega)]
      · rw [if_neg w2, if_neg (by omega)]
