/-! the tape: numbers, signs, words -/
/-- what reading changes in the class -/
def cTs (o j : Int) : Prop := o = 2 ∧ (j = 2 ∨ j = 3 ∨ j = 4 ∨ j = 6)
theorem cTape_fr {h h' : zH} {T : Int → Int} {n : Int} (fr : ∀ o j, ¬ cTs o j → h' o j = h o j) (m : cTape h T n) : cTape h' T n := by
  unfold cTs at fr
  exact ⟨by rw [fr _ _ (by omega)]; exact m.1, fun k a b => by rw [fr _ _ (by omega)]; exact m.2 k a b⟩
theorem cTs2 {o j : Int} (q : ¬ cTs o j) : ¬ (o = 2 ∧ j = 2) ∧ ¬ (o = 2 ∧ j = 3) ∧ ¬ (o = 2 ∧ j = 4) ∧ ¬ (o = 2 ∧ j = 6) := by
  unfold cTs at q
  omega
theorem s_74 {d c : Nat} {T : Int → Int} {n : Int} (wt : wTape T n) {R : Int → Nat → zH → Prop} {X : Nat → Nat → zH → Prop} {h : zH} {lo hi : Int} (ct : cTape h T n) (ha : 0 ≤ h 2 2 ∧ h 2 2 ≤ n) (h4 : h 2 4 = 0) (kf : ∀ K PL, nF T n (h 2 2) lo hi = some (K, PL) → ∀ y h', (∀ o j, ¬ cTs o j → h' o j = h o j) → h' 2 4 = K → h' 2 6 = PL → (0 ≤ h' 2 2 ∧ h' 2 2 ≤ n) → (0 ≤ y ∧ y ≤ 9999) → R y c h') (ks : nF T n (h 2 2) lo hi = none → ∀ h', (∀ o j, ¬ cTs o j → h' o j = h o j) → h' 2 2 = nE T n (h 2 2) → h' 2 3 = nB T n (h 2 2) → h' 2 4 = 0 → h' 2 6 = h 2 6 → R (nV T n (h 2 2)) c h') : zCl (d + 1) 74 [(2, 2), (0, lo), (0, hi)] c h R X := by
  have hbe := nBE (T := T) ha.2
  refine b_74 (s_66 wt ct ha (fun h1 f1 e2 => ?_))
  have eB : h1 2 2 = nB T n (h 2 2) := e2
  rw [eB]
  have dg : ∀ j : Int, nB T n (h 2 2) ≤ j → j < nB T n (h 2 2) + (nE T n (h 2 2) - nB T n (h 2 2)).toNat → 48 ≤ T j ∧ T j ≤ 57 := fun j a b => isD_t.mp (run_in (p := isD) (T := T) (n := n) (n - nB T n (h 2 2)).toNat (nB T n (h 2 2)) (by omega) j a (by have : run isD T n (nB T n (h 2 2)) = nE T n (h 2 2) := rfl; omega))
  have vr := v_r (T := T) (b := nB T n (h 2 2)) (nE T n (h 2 2) - nB T n (h 2 2)).toNat dg
  have h2 : (hw h1 2 3 (nB T n (h 2 2))) 2 4 = 0 := by rw [hw_ne (by omega), f1 _ _ (by omega), h4]
  refine s_74_15 (h := hw h1 2 3 (nB T n (h 2 2))) wt (cTape_fr (fun o j q => by have := cTs2 q; rw [hw_ne (by omega), f1 o j (by omega)]) ct) (by omega) (hw_eq ⟨rfl, rfl⟩) (by rw [hw_ne (by omega), eB]) (fun h3 g1 g2 => ⟨fun w => absurd h2 w, fun _ => ⟨fun w => ?_, fun w => ⟨fun w2 => ?_, fun w2 => ?_⟩⟩⟩)
  · refine kf 1 (nB T n (h 2 2)) ?_ _ _ (fun o j q => ?_) ?_ (hw_eq ⟨rfl, rfl⟩) ?_ vr.1
    · unfold nF
      rw [if_pos (show nE T n (h 2 2) = nB T n (h 2 2) from w)]
    · have := cTs2 q
      rw [hw_ne (by omega), hw_ne (by omega), g1 o j (by omega), hw_ne (by omega), f1 o j (by omega)]
    · rw [hw_ne (by omega), hw_eq ⟨rfl, rfl⟩]
    · rw [hw_ne (by omega), hw_ne (by omega), g2]
      show 0 ≤ nE T n (h 2 2) ∧ nE T n (h 2 2) ≤ n
      omega
  · refine kf 2 (nB T n (h 2 2)) ?_ _ _ (fun o j q => ?_) ?_ (hw_eq ⟨rfl, rfl⟩) ?_ vr.1
    · unfold nF
      rw [if_neg (show ¬ nE T n (h 2 2) = nB T n (h 2 2) from w), if_pos (show nV T n (h 2 2) < lo ∨ hi < nV T n (h 2 2) from w2)]
    · have := cTs2 q
      rw [hw_ne (by omega), hw_ne (by omega), g1 o j (by omega), hw_ne (by omega), f1 o j (by omega)]
    · rw [hw_ne (by omega), hw_eq ⟨rfl, rfl⟩]
    · rw [hw_ne (by omega), hw_ne (by omega), g2]
      show 0 ≤ nE T n (h 2 2) ∧ nE T n (h 2 2) ≤ n
      omega
  · refine ks ?_ _ (fun o j q => ?_) g2 ?_ ?_ ?_
    · unfold nF
      have w2' : ¬ (nV T n (h 2 2) < lo ∨ hi < nV T n (h 2 2)) := by
        have w3 : lo ≤ nV T n (h 2 2) ∧ nV T n (h 2 2) ≤ hi := w2
        omega
      rw [if_neg (show ¬ nE T n (h 2 2) = nB T n (h 2 2) from w), if_neg w2']
    · have := cTs2 q
      rw [g1 o j (by omega), hw_ne (by omega), f1 o j (by omega)]
    · rw [g1 _ _ (by omega), hw_eq ⟨rfl, rfl⟩]
    · rw [g1 _ _ (by omega), h2]
    · rw [g1 _ _ (by omega), hw_ne (by omega), f1 _ _ (by omega)]
theorem s_74u {d c : Nat} {T : Int → Int} {n : Int} (wt : wTape T n) {R : Int → Nat → zH → Prop} {X : Nat → Nat → zH → Prop} {h : zH} {lo hi : Int} (ct : cTape h T n) (ha : 0 ≤ h 2 2 ∧ h 2 2 ≤ n) (h4 : h 2 4 ≠ 0) (k : ∀ y h', (∀ o j, ¬ cTs o j → h' o j = h o j) → h' 2 4 = h 2 4 → h' 2 6 = h 2 6 → (0 ≤ h' 2 2 ∧ h' 2 2 ≤ n) → (0 ≤ y ∧ y ≤ 9999) → R y c h') : zCl (d + 1) 74 [(2, 2), (0, lo), (0, hi)] c h R X := by
  have hbe := nBE (T := T) ha.2
  refine b_74 (s_66 wt ct ha (fun h1 f1 e2 => ?_))
  have eB : h1 2 2 = nB T n (h 2 2) := e2
  rw [eB]
  have dg : ∀ j : Int, nB T n (h 2 2) ≤ j → j < nB T n (h 2 2) + (nE T n (h 2 2) - nB T n (h 2 2)).toNat → 48 ≤ T j ∧ T j ≤ 57 := fun j a b => isD_t.mp (run_in (p := isD) (T := T) (n := n) (n - nB T n (h 2 2)).toNat (nB T n (h 2 2)) (by omega) j a (by have : run isD T n (nB T n (h 2 2)) = nE T n (h 2 2) := rfl; omega))
  have vr := v_r (T := T) (b := nB T n (h 2 2)) (nE T n (h 2 2) - nB T n (h 2 2)).toNat dg
  have h2 : (hw h1 2 3 (nB T n (h 2 2))) 2 4 = h 2 4 := by rw [hw_ne (by omega), f1 _ _ (by omega)]
  refine s_74_15 (h := hw h1 2 3 (nB T n (h 2 2))) wt (cTape_fr (fun o j q => by have := cTs2 q; rw [hw_ne (by omega), f1 o j (by omega)]) ct) (by omega) (hw_eq ⟨rfl, rfl⟩) (by rw [hw_ne (by omega), eB]) (fun h3 g1 g2 => ⟨fun w => ?_, fun w => absurd (by rw [h2] at w; exact w) h4⟩)
  refine k _ _ (fun o j q => ?_) ?_ ?_ ?_ vr.1
  · have := cTs2 q
    rw [g1 o j (by omega), hw_ne (by omega), f1 o j (by omega)]
  · rw [g1 _ _ (by omega), h2]
  · rw [g1 _ _ (by omega), hw_ne (by omega), f1 _ _ (by omega)]
  · rw [g2]
    show 0 ≤ nE T n (h 2 2) ∧ nE T n (h 2 2) ≤ n
    omega
/-- what reading changes in the reference -/
def mTs (o j : Int) : Prop := o = 113 ∧ (j = 4 ∨ j = 5 ∨ j = 6)
theorem mTs2 {o j : Int} (q : ¬ mTs o j) : ¬ (o = 113 ∧ j = 4) ∧ ¬ (o = 113 ∧ j = 5) ∧ ¬ (o = 113 ∧ j = 6) := by
  unfold mTs at q
  omega
theorem mTape_fr {h h' : zH} {T : Int → Int} {n : Int} (fr : ∀ o j, ¬ mTs o j → h' o j = h o j) (m : mTape h T n) : mTape h' T n := by
  unfold mTs at fr
  exact ⟨by rw [fr _ _ (by omega)]; exact m.1, fun k a b => by rw [fr _ _ (by omega)]; exact m.2 k a b⟩
theorem s_232 {d c : Nat} {h : zH} {R : Int → Nat → zH → Prop} {X : Nat → Nat → zH → Prop} {K PL : Int} (h5 : h 113 5 = -1) (k : R 0 c (hw (hw h 113 5 PL) 113 6 K)) : zCl d 232 [(2, 113), (0, K), (0, PL)] c h R X := b_232 ⟨fun _ => k, fun q => absurd h5 q⟩
theorem s_236 {d c : Nat} {T : Int → Int} {n : Int} (wt : wTape T n) {R : Int → Nat → zH → Prop} {X : Nat → Nat → zH → Prop} {h : zH} {lo hi : Int} (hlo : lo ≤ 1000) (hhi : hi ≤ 999) (mt : mTape h T n) (ha : 0 ≤ h 113 4 ∧ h 113 4 ≤ n) (h5 : h 113 5 = -1) (kf : ∀ K PL, nF T n (h 113 4) lo hi = some (K, PL) → ∀ h', (∀ o j, ¬ mTs o j → h' o j = h o j) → h' 113 5 = PL → h' 113 6 = K → (0 ≤ h' 113 4 ∧ h' 113 4 ≤ n) → R 0 c h') (ks : nF T n (h 113 4) lo hi = none → ∀ h', (∀ o j, ¬ mTs o j → h' o j = h o j) → h' 113 4 = nE T n (h 113 4) → h' 113 5 = -1 → R (nV T n (h 113 4)) c h') : zCl (d + 1) 236 [(2, 113), (0, lo), (0, hi)] c h R X := by
  have hbe := nBE (T := T) ha.2
  have w1 := wt.1
  refine b_236 (b_224 ⟨fun q => absurd h5 q, fun _ => ⟨fun _ => s_226 wt mt ha (fun h1 f1 e4 => ?_), fun q => absurd q (by decide)⟩⟩)
  have eB : h1 113 4 = nB T n (h 113 4) := e4
  have e5 : h1 113 5 = -1 := by rw [f1 _ _ (by omega), h5]
  have eRE : run isD T n (nB T n (h 113 4)) = nE T n (h 113 4) := rfl
  have eRB : run isB T n (h 113 4) = nB T n (h 113 4) := rfl
  rw [eRB, eB]
  clear e4 eRB
  generalize hb : nB T n (h 113 4) = b at *
  -- no digit
  have none1 : nE T n (h 113 4) = b → zCl d 232 [(2, 113), (0, 1), (0, h1 113 4)] c h1 (fun _ c h => R 0 c h) X := by
    intro w
    rw [eB]
    refine s_232 e5 (kf 1 b ?_ _ (fun o j q => ?_) ?_ (hw_eq ⟨rfl, rfl⟩) ?_)
    · unfold nF
      rw [hb, if_pos w]
    · have := mTs2 q
      rw [hw_ne (by omega), hw_ne (by omega), f1 o j (by omega)]
    · rw [hw_ne (by omega), hw_eq ⟨rfl, rfl⟩]
    · rw [hw_ne (by omega), hw_ne (by omega), eB]
      omega
  -- the digits
  have loop : ∀ (m j : Nat) (h2 : zH), (∀ o i, ¬ (o = 113 ∧ i = 4) → h2 o i = h o i) → h2 113 4 = b + j → 1 ≤ j ∨ nE T n (h 113 4) ≠ b → n - (b + j) = m → run isD T n (b + j) = nE T n (h 113 4) → (∀ i : Int, b ≤ i → i < b + j → 48 ≤ T i ∧ T i ≤ 57) → ∀ x, zWp (d + 1) 236 41 [(2, 113), (0, lo), (0, hi), (0, x), (0, b), (0, vM T b j)] [] (zTS c h2) (zQ 1 R X) := by
    have fin : ∀ (j : Nat) (h2 : zH), (∀ o i, ¬ (o = 113 ∧ i = 4) → h2 o i = h o i) → h2 113 4 = b + j → nE T n (h 113 4) = b + j → nE T n (h 113 4) ≠ b → (∀ i : Int, b ≤ i → i < b + j → 48 ≤ T i ∧ T i ≤ 57) → (vM T b j < lo → zCl d 232 [(2, 113), (0, 2), (0, b)] c h2 (fun _ c h => R 0 c h) X) ∧ (lo ≤ vM T b j → (vM T b j ≤ hi → R (vM T b j) c h2) ∧ (hi < vM T b j → zCl d 232 [(2, 113), (0, 2), (0, b)] c h2 (fun _ c h => R 0 c h) X)) := by
      intro j h2 fr e2 ej hne dg
      have vr := v_r (T := T) (b := b) j dg
      have env : nV T n (h 113 4) = vC T b j := by
        unfold nV
        rw [hb, ej, show (b + (j : Int) - b).toNat = j by omega]
      have bad : (vC T b j < lo ∨ hi < vC T b j) → zCl d 232 [(2, 113), (0, 2), (0, b)] c h2 (fun _ c h => R 0 c h) X := by
        intro w
        refine s_232 (by rw [fr _ _ (by omega), h5]) (kf 2 b ?_ _ (fun o i q => ?_) ?_ (hw_eq ⟨rfl, rfl⟩) ?_)
        · unfold nF
          rw [hb, if_neg hne, env, if_pos w]
        · have := mTs2 q
          rw [hw_ne (by omega), hw_ne (by omega), fr o i (by omega)]
        · rw [hw_ne (by omega), hw_eq ⟨rfl, rfl⟩]
        · rw [hw_ne (by omega), hw_ne (by omega), e2]
          omega
      refine ⟨fun w => bad (by omega), fun w => ⟨fun w2 => ?_, fun w2 => bad (by omega)⟩⟩
      have ev : vM T b j = vC T b j := by omega
      rw [ev, ← env]
      refine ks ?_ h2 (fun o i q => fr o i (by have := mTs2 q; omega)) (by rw [e2, ej]) (by rw [fr _ _ (by omega), h5])
      unfold nF
      rw [hb, if_neg hne, env, if_neg (by omega)]
    intro m
    induction m with
    | zero =>
      intro j h2 fr e2 hj hm er dg x
      have e3 : h2 113 3 = n := by rw [fr _ _ (by omega), mt.1]
      have en : run isD T n (b + j) = n := run_n (by omega)
      have f := fin j h2 fr e2 (by omega) (by omega) dg
      exact b_236_41 ⟨fun _ => f, fun w => by omega⟩
    | succ m ih =>
      intro j h2 fr e2 hj hm er dg x
      have e3 : h2 113 3 = n := by rw [fr _ _ (by omega), mt.1]
      have et : h2 115 (b + j) = T (b + j) := by rw [fr _ _ (by omega), mt.2 _ (by omega) (by omega)]
      have el := run_lt (p := isD) (T := T) (n := n) (a := b + j) (by omega)
      have vr := v_r (T := T) (b := b) j dg
      have stop : ¬ isD (T (b + j)) = true → (vM T b j < lo → zCl d 232 [(2, 113), (0, 2), (0, b)] c h2 (fun _ c h => R 0 c h) X) ∧ (lo ≤ vM T b j → (vM T b j ≤ hi → R (vM T b j) c h2) ∧ (hi < vM T b j → zCl d 232 [(2, 113), (0, 2), (0, b)] c h2 (fun _ c h => R 0 c h) X)) := by
        intro w
        rw [if_neg w] at el
        exact fin j h2 fr e2 (by omega) (by omega) dg
      have go : isD (T (b + j)) = true → ∀ v, v = vM T b (j + 1) → zWp (d + 1) 236 41 [(2, 113), (0, lo), (0, hi), (0, x), (0, b), (0, v)] [] (zTS c (hw h2 113 4 (w32 (h2 113 4 + 1)))) (zQ 1 R X) := by
        intro w v hv
        rw [if_pos w] at el
        rw [hv, e2, w32_e (by omega) (by omega)]
        refine ih (j + 1) _ (fun o i q => by rw [hw_ne (by omega), fr o i q]) ?_ (by omega) (by omega) ?_ (fun i i1 i2 => ?_) x
        · rw [hw_eq ⟨rfl, rfl⟩]
          omega
        · rw [show b + ((j + 1 : Nat) : Int) = b + j + 1 by omega, ← el, er]
        · by_cases ei : i = b + j
          · rw [ei]
            exact isD_t.mp w
          · exact dg i i1 (by omega)
      refine b_236_41 ⟨fun w => by omega, fun _ => ⟨by omega, ?_⟩⟩
      rw [e2, et]
      refine b_237 ⟨fun w => ⟨fun _ => stop (fun q => by have := isD_t.mp q; omega), fun q => absurd rfl q⟩, fun w => ⟨fun w3 => ⟨fun _ => stop (fun q => by have := isD_t.mp q; omega), fun q => absurd rfl q⟩, fun w3 => ⟨fun q => absurd q (by decide), fun _ => ⟨fun q => ⟨by omega, ?_⟩, fun q => ?_⟩⟩⟩⟩
      · rw [e2, et]
        have := go (isD_t.mpr (by omega)) (w32 (w32 (w32 (10 * vM T b j) + T (b + j)) - 48)) (by
          rw [vM, if_neg (by omega), w32_e (x := 10 * vM T b j) (by omega) (by omega), w32_e (x := 10 * vM T b j + _) (by omega) (by omega), w32_e (by omega) (by omega)])
        rw [e2] at this
        exact this
      · refine go (isD_t.mpr (by omega)) _ ?_
        rw [vM, if_pos (by omega)]
  have start : nE T n (h 113 4) ≠ b → ∀ x, zWp (d + 1) 236 41 [(2, 113), (0, lo), (0, hi), (0, x), (0, b), (0, 0)] [] (zTS c h1) (zQ 1 R X) := fun w x => loop (n - b).toNat 0 h1 f1 (by rw [eB]; omega) (Or.inr w) (by omega) (by rw [show b + ((0 : Nat) : Int) = b by omega]; exact eRE) (fun i i1 i2 => by omega) x
  by_cases q : b < n
  · rw [if_pos q]
    have el := run_lt (p := isD) (T := T) (n := n) (a := b) q
    refine b_237 ⟨fun w => ⟨fun q1 => absurd rfl q1, fun _ => none1 ?_⟩, fun w => ⟨fun w2 => ⟨fun q1 => absurd rfl q1, fun _ => none1 ?_⟩, fun w2 => ⟨fun _ => start ?_ _, fun q1 => absurd q1 (by decide)⟩⟩⟩
    · rw [if_neg (fun v => by have := isD_t.mp v; omega)] at el
      omega
    · rw [if_neg (fun v => by have := isD_t.mp v; omega)] at el
      omega
    · rw [if_pos (isD_t.mpr ⟨w, w2⟩)] at el
      have := run_b (p := isD) (T := T) (n := n) (a := b + 1) (by omega)
      omega
  · rw [if_neg q]
    exact b_237 ⟨fun w => ⟨fun q1 => absurd rfl q1, fun _ => none1 (by omega)⟩, fun w => by omega⟩
theorem s_236u {d c : Nat} {R : Int → Nat → zH → Prop} {X : Nat → Nat → zH → Prop} {h : zH} {lo hi : Int} (h5 : h 113 5 ≠ -1) (k : R 0 c h) : zCl (d + 1) 236 [(2, 113), (0, lo), (0, hi)] c h R X :=
  b_236 (b_224 ⟨fun _ => ⟨fun q => absurd rfl q, fun _ => k⟩, fun q => absurd q h5⟩)
/-- a sign at a: where it stands, and its fault -/
def xF (T : Int → Int) (n a s : Int) : Option (Int × Int) := if nB T n a < n ∧ T (nB T n a) = s then none else some (1, nB T n a)
theorem s_81 {d c : Nat} {T : Int → Int} {n : Int} (wt : wTape T n) {R : Int → Nat → zH → Prop} {X : Nat → Nat → zH → Prop} {h : zH} {s : Int} (hs : 33 ≤ s) (ct : cTape h T n) (ha : 0 ≤ h 2 2 ∧ h 2 2 ≤ n) (h4 : h 2 4 = 0) (kf : ∀ K PL, xF T n (h 2 2) s = some (K, PL) → ∀ h', (∀ o j, ¬ cTs o j → h' o j = h o j) → h' 2 4 = K → h' 2 6 = PL → (0 ≤ h' 2 2 ∧ h' 2 2 ≤ n) → R 0 c h') (ks : xF T n (h 2 2) s = none → ∀ h', (∀ o j, ¬ cTs o j → h' o j = h o j) → h' 2 2 = nB T n (h 2 2) + 1 → (0 ≤ h' 2 2 ∧ h' 2 2 ≤ n) → h' 2 4 = 0 → h' 2 6 = h 2 6 → R 0 c h') : zCl (d + 2) 81 [(2, 2), (0, s)] c h R X := by
  have hbe := nBE (T := T) ha.2
  have w1 := wt.1
  refine b_81 (b_82 (s_66 wt ct ha (fun h1 f1 e2 => ?_)))
  have eB : h1 2 2 = nB T n (h 2 2) := e2
  have e4 : h1 2 4 = 0 := by rw [f1 _ _ (by omega), h4]
  have eRB : run isB T n (h 2 2) = nB T n (h 2 2) := rfl
  rw [eRB, eB]
  refine ⟨fun q => ⟨fun _ => ?_, fun q1 => absurd q1 (by decide)⟩, fun q => ⟨fun q1 => absurd rfl q1, fun _ => s_72 (fun w => absurd e4 w) (fun _ => kf 1 (nB T n (h 2 2)) ?_ _ (fun o j w => ?_) ?_ ?_ ?_)⟩⟩
  · by_cases w : nB T n (h 2 2) < n
    · rw [if_pos w] at q
      rw [w32_e (by omega) (by omega)]
      refine ks ?_ _ (fun o j w => ?_) (hw_eq ⟨rfl, rfl⟩) ?_ ?_ ?_
      · unfold xF
        rw [if_pos ⟨w, q⟩]
      · have := cTs2 w
        rw [hw_ne (by omega), f1 o j (by omega)]
      · rw [hw_eq ⟨rfl, rfl⟩]
        omega
      · rw [hw_ne (by omega), e4]
      · rw [hw_ne (by omega), f1 _ _ (by omega)]
    · rw [if_neg w] at q
      omega
  · unfold xF
    rw [if_neg]
    intro v
    rw [if_pos v.1] at q
    exact q v.2
  · have := cTs2 w
    rw [hw_ne (by omega), hw_ne (by omega), f1 o j (by omega)]
  · rw [hw_ne (by omega), hw_eq ⟨rfl, rfl⟩]
  · rw [hw_eq ⟨rfl, rfl⟩]
  · rw [hw_ne (by omega), hw_ne (by omega), eB]
    omega
theorem s_81u {d c : Nat} {T : Int → Int} {n : Int} (wt : wTape T n) {R : Int → Nat → zH → Prop} {X : Nat → Nat → zH → Prop} {h : zH} {s : Int} (hs : 33 ≤ s) (ct : cTape h T n) (ha : 0 ≤ h 2 2 ∧ h 2 2 ≤ n) (h4 : h 2 4 ≠ 0) (k : ∀ h', (∀ o j, ¬ cTs o j → h' o j = h o j) → h' 2 4 = h 2 4 → h' 2 6 = h 2 6 → (0 ≤ h' 2 2 ∧ h' 2 2 ≤ n) → R 0 c h') : zCl (d + 2) 81 [(2, 2), (0, s)] c h R X := by
  have hbe := nBE (T := T) ha.2
  have w1 := wt.1
  refine b_81 (b_82 (s_66 wt ct ha (fun h1 f1 e2 => ?_)))
  have eB : h1 2 2 = nB T n (h 2 2) := e2
  have e4 : h1 2 4 = h 2 4 := f1 _ _ (by omega)
  have eRB : run isB T n (h 2 2) = nB T n (h 2 2) := rfl
  rw [eRB, eB]
  refine ⟨fun q => ⟨fun _ => ?_, fun q1 => absurd q1 (by decide)⟩, fun q => ⟨fun q1 => absurd rfl q1, fun _ => s_72 (fun _ => k h1 (fun o j w => f1 o j (by have := cTs2 w; omega)) e4 (f1 _ _ (by omega)) (by omega)) (fun w => absurd (by rw [← e4]; exact w) h4)⟩⟩
  by_cases w : nB T n (h 2 2) < n
  · rw [w32_e (by omega) (by omega)]
    refine k _ (fun o j w => ?_) ?_ ?_ ?_
    · have := cTs2 w
      rw [hw_ne (by omega), f1 o j (by omega)]
    · rw [hw_ne (by omega), e4]
    · rw [hw_ne (by omega), f1 _ _ (by omega)]
    · rw [hw_eq ⟨rfl, rfl⟩]
      omega
  · rw [if_neg w] at q
    omega
theorem s_239 {d c : Nat} {T : Int → Int} {n : Int} (wt : wTape T n) {R : Int → Nat → zH → Prop} {X : Nat → Nat → zH → Prop} {h : zH} {s : Int} (hs : 33 ≤ s) (mt : mTape h T n) (ha : 0 ≤ h 113 4 ∧ h 113 4 ≤ n) (h5 : h 113 5 = -1) (kf : ∀ K PL, xF T n (h 113 4) s = some (K, PL) → ∀ h', (∀ o j, ¬ mTs o j → h' o j = h o j) → h' 113 5 = PL → h' 113 6 = K → (0 ≤ h' 113 4 ∧ h' 113 4 ≤ n) → R 0 c h') (ks : xF T n (h 113 4) s = none → ∀ h', (∀ o j, ¬ mTs o j → h' o j = h o j) → h' 113 4 = nB T n (h 113 4) + 1 → (0 ≤ h' 113 4 ∧ h' 113 4 ≤ n) → h' 113 5 = -1 → R 0 c h') : zCl (d + 1) 239 [(2, 113), (0, s)] c h R X := by
  have hbe := nBE (T := T) ha.2
  have w1 := wt.1
  refine b_239 (b_224 ⟨fun q => absurd h5 q, fun _ => ⟨fun q => absurd q (by decide), fun _ => s_226 wt mt ha (fun h1 f1 e4 => ?_)⟩⟩)
  have eB : h1 113 4 = nB T n (h 113 4) := e4
  have e5 : h1 113 5 = -1 := by rw [f1 _ _ (by omega), h5]
  have eRB : run isB T n (h 113 4) = nB T n (h 113 4) := rfl
  rw [eRB, eB]
  refine ⟨fun q => b_224 ⟨fun w => absurd e5 w, fun _ => ⟨fun w => absurd w (by decide), fun _ => ?_⟩⟩, fun q => s_232 e5 (b_224 ⟨fun w => ⟨fun _ => kf 1 (nB T n (h 113 4)) ?_ _ (fun o j w => ?_) ?_ ?_ ?_, fun q1 => absurd rfl q1⟩, fun w => ?_⟩)⟩
  · by_cases w : nB T n (h 113 4) < n
    · rw [if_pos w] at q
      rw [eB, w32_e (by omega) (by omega)]
      refine ks ?_ _ (fun o j w => ?_) (hw_eq ⟨rfl, rfl⟩) ?_ ?_
      · unfold xF
        rw [if_pos ⟨w, q⟩]
      · have := mTs2 w
        rw [hw_ne (by omega), f1 o j (by omega)]
      · rw [hw_eq ⟨rfl, rfl⟩]
        omega
      · rw [hw_ne (by omega), e5]
    · rw [if_neg w] at q
      omega
  · unfold xF
    rw [if_neg]
    intro v
    rw [if_pos v.1] at q
    exact q v.2
  · have := mTs2 w
    rw [hw_ne (by omega), hw_ne (by omega), f1 o j (by omega)]
  · rw [hw_ne (by omega), hw_eq ⟨rfl, rfl⟩]
  · rw [hw_eq ⟨rfl, rfl⟩]
  · rw [hw_ne (by omega), hw_ne (by omega), eB]
    omega
  · rw [hw_ne (by omega), hw_eq ⟨rfl, rfl⟩] at w
    omega
theorem s_239u {d c : Nat} {R : Int → Nat → zH → Prop} {X : Nat → Nat → zH → Prop} {h : zH} {s : Int} (h5 : h 113 5 ≠ -1) (k : R 0 c h) : zCl (d + 1) 239 [(2, 113), (0, s)] c h R X :=
  b_239 (b_224 ⟨fun _ => ⟨fun _ => b_224 ⟨fun _ => ⟨fun _ => k, fun q => absurd rfl q⟩, fun q => absurd q h5⟩, fun q => absurd rfl q⟩, fun q => absurd q h5⟩)
