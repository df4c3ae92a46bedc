/-! swaps, drops, undoing and images: the rest -/
theorem mPlan_of {h : zH} {n : Nat} {D B : Int → Int} (h1 : h 113 49 = n) (h2 : ∀ k : Int, 0 ≤ k → k < n → h 139 (2 * k) = D k ∧ h 139 (2 * k + 1) = B k) : mPlan h (mkP n D B) := by
  refine ⟨by rw [mkP_len]; exact h1, fun k a b => ?_⟩
  rw [mkP_len] at b
  rw [mkP_D a b, mkP_B a b]
  exact h2 k a b
theorem s_324_43 {d c : Nat} {h : zH} {R : Int → Nat → zH → Prop} {X : Nat → Nat → zH → Prop} {l v : Int} {P : List (Int × Int)} (mp : mPlan h P) (h12 : P.length ≤ 12) (hl : 0 ≤ l ∧ l < P.length) (hv : 0 ≤ v ∧ v < P.length) (hne : l ≠ v) (k : ∀ h', (∀ a j, a ≠ 139 → h' a j = h a j) → mPlan h' (pSw P l v) → R 1 c h') : zWp (d + 2) 324 43 [(2, 113), (0, l), (0, v), (0, 0), (9, 0)] [] (zTS c h) (zQ 1 R X) := by
  have e1 : ∀ i : Int, 0 ≤ i → i < 2 → w32 (w32 (2 * l) + i) = 2 * l + i := fun i a b => by rw [w32_e (x := 2 * l) (by omega) (by omega), w32_e (by omega) (by omega)]
  have e2 : ∀ i : Int, 0 ≤ i → i < 2 → w32 (w32 (2 * v) + i) = 2 * v + i := fun i a b => by rw [w32_e (x := 2 * v) (by omega) (by omega), w32_e (by omega) (by omega)]
  refine b_324_43 ⟨fun w => by omega, fun _ => ?_⟩
  rw [e1 0 (by omega) (by omega), e2 0 (by omega) (by omega), show (w32 (0 + 1) : Int) = 1 by decide]
  refine ⟨by omega, by omega, by omega, by omega, b_324_43 ⟨fun w => by omega, fun _ => ?_⟩⟩
  rw [e1 1 (by omega) (by omega), e2 1 (by omega) (by omega), show (w32 (1 + 1) : Int) = 2 by decide]
  refine ⟨by omega, by omega, by omega, by omega, b_324_43 ⟨fun _ => ?_, fun w => by omega⟩⟩
  refine k _ (fun a j w => by rw [hw_ne (by omega), hw_ne (by omega), hw_ne (by omega), hw_ne (by omega)]) (mPlan_of ?_ (fun i a b => ?_))
  · rw [hw_ne (by omega), hw_ne (by omega), hw_ne (by omega), hw_ne (by omega)]
    exact mp.1
  · have ml := mp.2 l hl.1 hl.2
    have mv := mp.2 v hv.1 hv.2
    have mi := mp.2 i a b
    unfold zsw
    by_cases q1 : i = l
    · rw [if_pos q1, q1]
      refine ⟨?_, ?_⟩
      · rw [hw_ne (by omega), hw_ne (by omega), hw_ne (by omega), hw_eq ⟨rfl, by omega⟩, show 2 * v + 0 = 2 * v by omega, mv.1]
      · rw [hw_ne (by omega), hw_eq ⟨rfl, by omega⟩, hw_ne (by omega), hw_ne (by omega), mv.2]
    · rw [if_neg q1]
      by_cases q2 : i = v
      · rw [if_pos q2, q2]
        refine ⟨?_, ?_⟩
        · rw [hw_ne (by omega), hw_ne (by omega), hw_eq ⟨rfl, by omega⟩, show 2 * l + 0 = 2 * l by omega, ml.1]
        · rw [hw_eq ⟨rfl, by omega⟩, hw_ne (by omega), hw_ne (by omega), ml.2]
      · rw [if_neg q2, hw_ne (by omega), hw_ne (by omega), hw_ne (by omega), hw_ne (by omega), hw_ne (by omega), hw_ne (by omega), hw_ne (by omega), hw_ne (by omega)]
        exact mi
theorem s_328_39 {d c : Nat} {h : zH} {R : Int → Nat → zH → Prop} {X : Nat → Nat → zH → Prop} {l : Int} {P : List (Int × Int)} (h49 : h 113 49 = (P.length : Int) - 1) (mp : ∀ k : Int, 0 ≤ k → k < P.length → h 139 (2 * k) = pD P k ∧ h 139 (2 * k + 1) = pB P k) (h12 : P.length ≤ 12) (hl : 0 ≤ l ∧ l < P.length) (k : ∀ h', (∀ a j, a ≠ 139 → h' a j = h a j) → mPlan h' (pDr P l) → R ((pDr P l).length : Int) c h') : zWp (d + 2) 328 39 [(2, 113), (0, l), (0, 2 * l)] [] (zTS c h) (zQ 1 R X) := by
  have main := zDown (W := fun m => 2 * l ≤ (m : Int) → ∀ h', (∀ a j, a ≠ 139 → h' a j = h a j) → (∀ j : Int, 0 ≤ j → j < 2 * (P.length : Int) → h' 139 j = (if j < 2 * l then h 139 j else if j < m then h 139 (j + 2) else h 139 j)) → zWp (d + 2) 328 39 [(2, 113), (0, l), (0, (m : Int))] [] (zTS c h') (zQ 1 R X)) (2 * (P.length - 1)) ?_ ?_ (2 * l).toNat (by omega) (by omega) h (fun _ _ _ => rfl) (fun j a b => by (repeat' split) <;> first | rfl | omega)
  · rw [Int.toNat_of_nonneg (by omega)] at main
    exact main
  · intro _ h' f1 f2
    refine b_328_39 ?_
    rw [f1 _ _ (by omega), h49, w32_e (by omega) (by omega)]
    refine ⟨fun _ => ?_, fun w => by omega⟩
    have hn : (pDr P l).length = P.length - 1 := mkP_len _ _ _
    have kk := k h' f1 (mPlan_of ?_ (fun i a b => ?_))
    · rw [hn] at kk
      rw [show (P.length : Int) - 1 = ((P.length - 1 : Nat) : Int) by omega]
      exact kk
    · rw [f1 _ _ (by omega), h49]
      omega
    · rw [f2 _ (by omega) (by omega), f2 _ (by omega) (by omega)]
      by_cases q : i < l
      · rw [if_pos (show 2 * i < 2 * l by omega), if_pos (show 2 * i + 1 < 2 * l by omega), if_pos q, if_pos q]
        exact mp i a (by omega)
      · have := mp (i + 1) (by omega) (by omega)
        rw [if_neg (show ¬ 2 * i < 2 * l by omega), if_pos (show 2 * i < ((2 * (P.length - 1) : Nat) : Int) by omega), if_neg (show ¬ 2 * i + 1 < 2 * l by omega), if_pos (show 2 * i + 1 < ((2 * (P.length - 1) : Nat) : Int) by omega), if_neg q, if_neg q, show 2 * i + 2 = 2 * (i + 1) by omega, show 2 * i + 1 + 2 = 2 * (i + 1) + 1 by omega]
        exact this
  · intro m hm ih hlm h' f1 f2
    refine b_328_39 ?_
    rw [f1 113 49 (by omega), h49, w32_e (x := 2 * ((P.length : Int) - 1)) (by omega) (by omega), w32_e (x := (m : Int) + 2) (by omega) (by omega), w32_s (by omega)]
    refine ⟨fun w => by omega, fun _ => ⟨by omega, by omega, ih (by omega) _ (fun a j w => by rw [hw_ne (by omega), f1 a j w]) (fun j a b => ?_)⟩⟩
    by_cases e : j = m
    · rw [hw_eq ⟨rfl, e⟩, f2 _ (by omega) (by omega), if_neg (by omega), if_neg (by omega), if_neg (by omega), if_pos (by omega), e]
    · rw [hw_ne (by omega), f2 j a b]
      repeat' split
      all_goals first | rfl | omega
theorem s_329 {d c : Nat} {h : zH} {R : Int → Nat → zH → Prop} {X : Nat → Nat → zH → Prop} {r : zH} {P : List (Int × Int)} {L : List ((Int × Int × Int) × List (Int × Int))} (hk : hOk r P L) (ml : h 113 70 = L.length ∧ mLogR h 154 0 L) (hL : L.length ≤ 20) (k0 : L = [] → R (-1) c (hw h 113 0 0)) (k1 : ∀ e S L', L = (e, S) :: L' → ∀ h', (∀ a j, ¬ (a = 139 ∨ (a = 113 ∧ (j = 0 ∨ j = 49 ∨ j = 70))) → h' a j = h a j) → h' 113 0 = 0 → mPlan h' S → (h' 113 70 = L'.length ∧ mLogR h' 154 0 L') → R (L'.length : Int) c h') : zCl (d + 1) 329 [(2, 113)] c h R X := by
  match L, ml, hL, hk, k0, k1 with
  | [], ml, _, _, k0, _ =>
    exact b_329 ⟨fun q => absurd ml.1 q, fun _ => k0 rfl⟩
  | (e, S) :: L', ml, hL, hk, _, k1 =>
    have hl : (((e, S) :: L').length : Int) = (L'.length : Int) + 1 := rfl
    have hL' : ((e, S) :: L').length = L'.length + 1 := rfl
    obtain ⟨_, wS, hk2⟩ := hk
    obtain ⟨m1, m2, m3⟩ := ml
    refine b_329 ⟨fun _ => ?_, fun q => by rw [m1, hl] at q; omega⟩
    rw [m1, hl, w32_e (x := (L'.length : Int) + 1 - 1) (by omega) (by omega), show (L'.length : Int) + 1 - 1 = L'.length by omega, w32_e (by omega) (by omega)]
    rw [show (0 : Int) + 25 * (L'.length : Int) = 25 * L'.length by omega] at m2
    refine s_330 zo_154 (Or.inl rfl) (by omega) (mSnap_fr wS.1 (fun j a b => by rw [hw_ne (by omega), hw_ne (by omega)]) m2) wS.1 (fun h' f1 f2 => ?_)
    have e70 : h' 113 70 = L'.length := by rw [f1 _ _ (by omega), hw_eq ⟨rfl, rfl⟩]
    rw [e70]
    refine k1 e S L' rfl h' (fun a j w => by rw [f1 a j (by omega), hw_ne (by omega), hw_ne (by omega)]) ?_ f2 ⟨e70, mLogR_fr hk2 (fun j a b => by rw [f1 _ _ (by omega), hw_ne (by omega), hw_ne (by omega)]) m3⟩
    rw [f1 _ _ (by omega), hw_ne (by omega), hw_eq ⟨rfl, rfl⟩]
/-- the reference's images -/
def mImR (h : zH) : List (List (Int × Int) × List ((Int × Int × Int) × List (Int × Int))) → Prop
  | [] => True
  | (P, L) :: I => (mSnap h 155 (526 * I.length) P ∧ h 155 (526 * I.length + 25) = L.length ∧ mLogR h 155 (526 * I.length + 26) L) ∧ mImR h I
theorem mImR_fr {r : zH} {h g h' : zH} : ∀ {I : List (List (Int × Int) × List ((Int × Int × Int) × List (Int × Int)))}, cImR r g I → (∀ j, 0 ≤ j → j < 526 * (I.length : Int) → h' 155 j = h 155 j) → mImR h I → mImR h' I
  | [], _, _, _ => trivial
  | (P, L) :: I, k, fr, q => by
    have hl : (((P, L) :: I).length : Int) = (I.length : Int) + 1 := rfl
    obtain ⟨⟨a, b, c⟩, q2⟩ := q
    obtain ⟨⟨_, _, _, w1, w2, w3⟩, k2⟩ := k
    refine ⟨⟨mSnap_fr w1.1 (fun j j1 j2 => fr j (by omega) (by omega)) a, ?_, mLogR_fr w3 (fun j j1 j2 => fr j (by omega) (by omega)) c⟩, mImR_fr k2 (fun j j1 j2 => fr j j1 (by omega)) q2⟩
    rw [fr _ (by omega) (by omega), b]
theorem mLogR_mv {h h' : zH} {o o' q q' : Int} : ∀ {L : List ((Int × Int × Int) × List (Int × Int))}, (∀ j, 0 ≤ j → j < 25 * (L.length : Int) → h' o' (q' + j) = h o (q + j)) → (∀ x ∈ L, x.2.length ≤ 12) → mLogR h o q L → mLogR h' o' q' L
  | [], _, _, _ => trivial
  | (e, S) :: L, fr, hs, m => by
    have hl : (((e, S) :: L).length : Int) = (L.length : Int) + 1 := rfl
    have h12 := hs (e, S) (List.mem_cons_self ..)
    simp only at h12
    refine ⟨⟨?_, fun k a b => ⟨?_, ?_⟩⟩, mLogR_mv (fun j a b => fr j a (by omega)) (fun x hx => hs x (List.mem_cons_of_mem _ hx)) m.2⟩
    · have := fr (25 * (L.length : Int) + 24) (by omega) (by omega)
      rw [show q' + (25 * (L.length : Int) + 24) = q' + 25 * (L.length : Int) + 24 by omega, show q + (25 * (L.length : Int) + 24) = q + 25 * (L.length : Int) + 24 by omega] at this
      rw [this]
      exact m.1.1
    · have := fr (25 * (L.length : Int) + 2 * k) (by omega) (by omega)
      rw [show q' + (25 * (L.length : Int) + 2 * k) = q' + 25 * (L.length : Int) + 2 * k by omega, show q + (25 * (L.length : Int) + 2 * k) = q + 25 * (L.length : Int) + 2 * k by omega] at this
      rw [this]
      exact (m.1.2 k a b).1
    · have := fr (25 * (L.length : Int) + 2 * k + 1) (by omega) (by omega)
      rw [show q' + (25 * (L.length : Int) + 2 * k + 1) = q' + 25 * (L.length : Int) + 2 * k + 1 by omega, show q + (25 * (L.length : Int) + 2 * k + 1) = q + 25 * (L.length : Int) + 2 * k + 1 by omega] at this
      rw [this]
      exact (m.1.2 k a b).2
theorem hOk_12 {r : zH} : ∀ {P : List (Int × Int)} {L : List ((Int × Int × Int) × List (Int × Int))}, hOk r P L → ∀ x ∈ L, x.2.length ≤ 12
  | _, [], _, x, hx => by cases hx
  | _, (e, S) :: L, k, x, hx => by
    rcases List.mem_cons.mp hx with w | w
    · rw [w]
      exact k.2.1.1
    · exact hOk_12 k.2.2 x w
theorem s_331 {d c : Nat} {h : zH} {R : Int → Nat → zH → Prop} {X : Nat → Nat → zH → Prop} {r g : zH} {P : List (Int × Int)} {L : List ((Int × Int × Int) × List (Int × Int))} {I : List (List (Int × Int) × List ((Int × Int × Int) × List (Int × Int)))} (mp : mPlan h P) (h12 : P.length ≤ 12) (hk : hOk r P L) (ml : h 113 70 = L.length ∧ mLogR h 154 0 L) (hL : L.length ≤ 20) (mi : h 113 72 = I.length ∧ mImR h I) (hI : I.length ≤ 3) (ci : cImR r g I) (k0 : I.length = 3 → R (-1) c (hw h 113 0 0)) (k1 : I.length < 3 → ∀ h', (∀ a j, ¬ (a = 155 ∨ (a = 113 ∧ (j = 0 ∨ j = 72))) → h' a j = h a j) → h' 113 0 = 0 → (h' 113 72 = (((P, L) :: I).length : Int) ∧ mImR h' ((P, L) :: I)) → R ((I.length : Int) + 1) c h') : zCl (d + 1) 331 [(2, 113)] c h R X := by
  refine b_331 ⟨fun q => ?_, fun q => k0 (by omega)⟩
  have e72 := mi.1
  rw [e72, w32_e (x := 526 * (I.length : Int)) (by omega) (by omega), w32_e (x := 526 * (I.length : Int) + 25) (by omega) (by omega)]
  refine s_326 zo_155 (Or.inr rfl) (by omega) (mPlan_fr (fun o j w => by rw [hw_ne (by omega)]) mp) h12 (fun h1 f1 f2 => ⟨by omega, ?_⟩)
  have e70 : h1 113 70 = L.length := by rw [f1 _ _ (by omega), hw_ne (by omega), ml.1]
  rw [e70]
  refine zDown (W := fun m => ∀ h', (∀ a j, ¬ (a = 155 ∧ 526 * (I.length : Int) + 26 ≤ j ∧ j < 526 * (I.length : Int) + 526) → h' a j = (hw h1 155 (526 * (I.length : Int) + 25) L.length) a j) → (∀ j : Int, 0 ≤ j → j < (m : Int) → h' 155 (526 * (I.length : Int) + 26 + j) = h 154 j) → zWp (d + 1) 331 48 [(2, 113), (0, 526 * (I.length : Int)), (0, (m : Int))] [] (zTS c h') (zQ 1 R X)) (25 * L.length) ?_ ?_ 0 (Nat.zero_le _) _ (fun _ _ _ => rfl) (fun j a b => by omega)
  · intro h' g1 g2
    have e70' : h' 113 70 = L.length := by rw [g1 _ _ (by omega), hw_ne (by omega), e70]
    have e72' : h' 113 72 = I.length := by rw [g1 _ _ (by omega), hw_ne (by omega), f1 _ _ (by omega), hw_ne (by omega), e72]
    refine b_331_48 ?_
    rw [e70', e72', w32_e (x := 25 * (L.length : Int)) (by omega) (by omega), w32_e (x := (I.length : Int) + 1) (by omega) (by omega)]
    refine ⟨fun _ => k1 (by omega) _ (fun a j w => ?_) ?_ ⟨?_, ⟨⟨mSnap_fr h12 (fun j a b => ?_) f2, ?_, mLogR_mv (fun j a b => ?_) (hOk_12 hk) ml.2⟩, mImR_fr ci (fun j a b => ?_) mi.2⟩⟩, fun w => by omega⟩
    · rw [hw_ne (by omega), g1 a j (by omega), hw_ne (by omega), f1 a j (by omega), hw_ne (by omega)]
    · rw [hw_ne (by omega), g1 _ _ (by omega), hw_ne (by omega), f1 _ _ (by omega), hw_eq ⟨rfl, rfl⟩]
    · rw [hw_eq ⟨rfl, rfl⟩]
      rfl
    · rw [hw_ne (by omega), g1 _ _ (by omega), hw_ne (by omega)]
    · rw [hw_ne (by omega), g1 _ _ (by omega), hw_eq ⟨rfl, rfl⟩]
    · rw [hw_ne (by omega), g2 j a (by omega), show (0 : Int) + j = j by omega]
    · rw [hw_ne (by omega), g1 _ _ (by omega), hw_ne (by omega), f1 _ _ (by omega), hw_ne (by omega)]
  · intro m hm ih h' g1 g2
    have e70' : h' 113 70 = L.length := by rw [g1 _ _ (by omega), hw_ne (by omega), e70]
    have e154 : h' 154 (m : Int) = h 154 m := by rw [g1 _ _ (by omega), hw_ne (by omega), f1 _ _ (by omega), hw_ne (by omega)]
    refine b_331_48 ?_
    rw [e70', e154, w32_e (x := 25 * (L.length : Int)) (by omega) (by omega), w32_e (x := 526 * (I.length : Int) + 25) (by omega) (by omega), w32_e (x := 526 * (I.length : Int) + 25 + 1) (by omega) (by omega), w32_e (x := 526 * (I.length : Int) + 25 + 1 + (m : Int)) (by omega) (by omega), w32_s (by omega)]
    refine ⟨fun w => by omega, fun _ => ⟨by omega, by omega, ih _ (fun a j w => by rw [hw_ne (by omega), g1 a j w]) (fun j a b => ?_)⟩⟩
    by_cases e : j = m
    · rw [hw_eq ⟨rfl, by omega⟩, e]
    · rw [hw_ne (by omega), g2 j a (by omega)]
theorem s_332 {d c : Nat} {h : zH} {R : Int → Nat → zH → Prop} {X : Nat → Nat → zH → Prop} {r g : zH} {I : List (List (Int × Int) × List ((Int × Int × Int) × List (Int × Int)))} (mi : h 113 72 = I.length ∧ mImR h I) (hI : I.length ≤ 3) (ci : cImR r g I) (k0 : I = [] → R (-1) c (hw h 113 0 0)) (k1 : ∀ P L I', I = (P, L) :: I' → ∀ h', (∀ a j, ¬ (a = 139 ∨ a = 154 ∨ (a = 113 ∧ (j = 0 ∨ j = 49 ∨ j = 70 ∨ j = 72))) → h' a j = h a j) → h' 113 0 = 0 → mPlan h' P → (h' 113 70 = L.length ∧ mLogR h' 154 0 L) → (h' 113 72 = I'.length ∧ mImR h' I') → R (I'.length : Int) c h') : zCl (d + 1) 332 [(2, 113)] c h R X := by
  match I, mi, hI, ci, k0, k1 with
  | [], mi, _, _, k0, _ =>
    exact b_332 ⟨fun q => absurd mi.1 q, fun _ => k0 rfl⟩
  | (P, L) :: I', mi, hI, ci, _, k1 =>
    have hl : (((P, L) :: I').length : Int) = (I'.length : Int) + 1 := rfl
    have hl' : ((P, L) :: I').length = I'.length + 1 := rfl
    obtain ⟨m1, ⟨m2, m3, m4⟩, m5⟩ := mi
    obtain ⟨⟨_, _, _, w1, w2, w3⟩, ci2⟩ := ci
    refine b_332 ⟨fun _ => ?_, fun q => by rw [m1, hl] at q; omega⟩
    rw [m1, hl, w32_e (x := (I'.length : Int) + 1 - 1) (by omega) (by omega), show (I'.length : Int) + 1 - 1 = I'.length by omega, w32_e (x := 526 * (I'.length : Int)) (by omega) (by omega), w32_e (x := 526 * (I'.length : Int) + 25) (by omega) (by omega)]
    refine s_330 zo_155 (Or.inr rfl) (by omega) (mSnap_fr w1.1 (fun j a b => by rw [hw_ne (by omega), hw_ne (by omega)]) m2) w1.1 (fun h1 f1 f2 => ⟨by omega, ?_⟩)
    have e25 : h1 155 (526 * (I'.length : Int) + 25) = L.length := by rw [f1 _ _ (by omega), hw_ne (by omega), hw_ne (by omega), m3]
    rw [e25]
    refine zDown (W := fun m => ∀ h', (∀ a j, a ≠ 154 → h' a j = (hw h1 113 70 L.length) a j) → (∀ j : Int, 0 ≤ j → j < (m : Int) → h' 154 j = h 155 (526 * (I'.length : Int) + 26 + j)) → zWp (d + 1) 332 57 [(2, 113), (0, 526 * (I'.length : Int)), (0, (m : Int))] [] (zTS c h') (zQ 1 R X)) (25 * L.length) ?_ ?_ 0 (Nat.zero_le _) _ (fun _ _ _ => rfl) (fun j a b => by omega)
    · intro h' g1 g2
      have e70' : h' 113 70 = L.length := by rw [g1 _ _ (by omega), hw_eq ⟨rfl, rfl⟩]
      have e72' : h' 113 72 = I'.length := by rw [g1 _ _ (by omega), hw_ne (by omega), f1 _ _ (by omega), hw_eq ⟨rfl, rfl⟩]
      refine b_332_57 ?_
      rw [e70', e72', w32_e (x := 25 * (L.length : Int)) (by omega) (by omega)]
      refine ⟨fun _ => k1 P L I' rfl h' (fun a j w => ?_) ?_ (mPlan_fr (fun o j w => ?_) f2) ⟨e70', mLogR_mv (fun j a b => ?_) (hOk_12 w3) m4⟩ ⟨e72', mImR_fr ci2 (fun j a b => ?_) m5⟩, fun w => by omega⟩
      · rw [g1 a j (by omega), hw_ne (by omega), f1 a j (by omega), hw_ne (by omega), hw_ne (by omega)]
      · rw [g1 _ _ (by omega), hw_ne (by omega), f1 _ _ (by omega), hw_ne (by omega), hw_eq ⟨rfl, rfl⟩]
      · rw [g1 o j (by omega), hw_ne (by omega)]
      · rw [show (0 : Int) + j = j by omega, g2 j a (by omega)]
      · rw [g1 _ _ (by omega), hw_ne (by omega), f1 _ _ (by omega), hw_ne (by omega), hw_ne (by omega)]
    · intro m hm ih h' g1 g2
      have e70' : h' 113 70 = L.length := by rw [g1 _ _ (by omega), hw_eq ⟨rfl, rfl⟩]
      refine b_332_57 ?_
      rw [e70', w32_e (x := 25 * (L.length : Int)) (by omega) (by omega), w32_e (x := 526 * (I'.length : Int) + 25) (by omega) (by omega), w32_e (x := 526 * (I'.length : Int) + 25 + 1) (by omega) (by omega), w32_e (x := 526 * (I'.length : Int) + 25 + 1 + (m : Int)) (by omega) (by omega), w32_s (by omega)]
      have e155 : h' 155 (526 * (I'.length : Int) + 25 + 1 + m) = h 155 (526 * (I'.length : Int) + 26 + m) := by rw [g1 _ _ (by omega), hw_ne (by omega), f1 _ _ (by omega), hw_ne (by omega), hw_ne (by omega), show 526 * (I'.length : Int) + 25 + 1 + m = 526 * (I'.length : Int) + 26 + m by omega]
      rw [e155]
      refine ⟨fun w => by omega, fun _ => ⟨by omega, by omega, ih _ (fun a j w => by rw [hw_ne (by omega), g1 a j w]) (fun j a b => ?_)⟩⟩
      by_cases e : j = m
      · rw [hw_eq ⟨rfl, e⟩, e]
      · rw [hw_ne (by omega), g2 j a (by omega)]
theorem s_53 {d c : Nat} {h : zH} {R : Int → Nat → zH → Prop} {X : Nat → Nat → zH → Prop} {r : zH} {p : Int} {P : List (Int × Int)} {L : List ((Int × Int × Int) × List (Int × Int))} {I : List (List (Int × Int) × List ((Int × Int × Int) × List (Int × Int)))} (hp : p = 78 ∨ p = 84) (h9 : h 1 9 = p) (cp : cPlan p h P) (wp : wPlan r P) (hk : hOk r P L) (cl : h p 6 = L.length ∧ cLogR p h L) (hL : L.length ≤ 20) (ci : h 1 14 = I.length ∧ cImR r h I) (hI : I.length ≤ 3) (k0 : I.length = 3 → R (-1) c h) (k1 : I.length < 3 → ∀ h', (∀ a j, ¬ (95 ≤ a ∧ a ≤ 112) → ¬ (a = 1 ∧ j = 14) → h' a j = h a j) → (h' 1 14 = (((P, L) :: I).length : Int) ∧ cImR r h' ((P, L) :: I)) → R ((I.length : Int) + 1) c h') : zCl (d + 1) 53 [(2, 1)] c h R X := by
  have hp' : zIsP p := by unfold zIsP; omega
  refine b_53 hp' ⟨fun q => ?_, fun q => k0 (by rw [ci.1] at q; omega)⟩
  rw [ci.1] at q ⊢
  refine ⟨by omega, h9, s_54 (by unfold zIsP; omega) hp' (by omega) cp wp.1 cl hL (fun h' f1 f2 f3 => ?_)⟩
  rw [f1 1 14 (by omega), ci.1, w32_e (by omega) (by omega)]
  refine k1 (by omega) _ (fun a j w1 w2 => by rw [hw_ne (by omega), f1 a j (by omega)]) ⟨?_, ⟨cPlan_fr (fun o j a b => by rw [hw_ne (by omega)]) f2, ?_, cLogR_fr (fun o j a b _ _ => by rw [hw_ne (by omega)]) f3.2, wp, hL, hk⟩, cImR_fr (fun o j a b => by rw [hw_ne (by omega), f1 o j (by omega)]) ci.2⟩
  · rw [hw_eq ⟨rfl, rfl⟩]
    rfl
  · rw [hw_ne (by omega)]
    exact f3.1
theorem s_55 {d c : Nat} {h : zH} {R : Int → Nat → zH → Prop} {X : Nat → Nat → zH → Prop} {r : zH} {p : Int} {I : List (List (Int × Int) × List ((Int × Int × Int) × List (Int × Int)))} (hp : p = 78 ∨ p = 84) (h9 : h 1 9 = p) (ci : h 1 14 = I.length ∧ cImR r h I) (hI : I.length ≤ 3) (k0 : I = [] → R (-1) c h) (k1 : ∀ P L I', I = (P, L) :: I' → ∀ h', (∀ a j, ¬ (p ≤ a ∧ a ≤ p + 5) → ¬ (a = 1 ∧ j = 14) → h' a j = h a j) → cPlan p h' P → (h' p 6 = L.length ∧ cLogR p h' L) → (h' 1 14 = I'.length ∧ cImR r h' I') → R (I'.length : Int) c h') : zCl (d + 1) 55 [(2, 1)] c h R X := by
  have hp' : zIsP p := by unfold zIsP; omega
  match I, ci, hI, k0, k1 with
  | [], ci, _, k0, _ =>
    refine b_55 hp' ⟨fun q => ?_, fun _ => k0 rfl⟩
    rw [ci.1] at q
    exact absurd q (by simp)
  | (P, L) :: I', ci, hI, _, k1 =>
    have hl : (((P, L) :: I').length : Int) = (I'.length : Int) + 1 := rfl
    have hl' : ((P, L) :: I').length = I'.length + 1 := rfl
    obtain ⟨c1, ⟨c2, c3, c4, w1, w2, w3⟩, c5⟩ := ci
    refine b_55 hp' ⟨fun _ => ?_, fun q => by rw [c1, hl] at q; omega⟩
    rw [c1, hl, w32_e (by omega) (by omega), show (I'.length : Int) + 1 - 1 = I'.length by omega]
    refine ⟨h9, by omega, s_54 (L := L) hp' (by unfold zIsP; omega) (by omega) (cPlan_fr (fun o j a b => by rw [hw_ne (by omega)]) c2) w1.1 ⟨by rw [hw_ne (by omega)]; exact c3, cLogR_fr (fun o j a b _ _ => by rw [hw_ne (by omega)]) c4⟩ w2 (fun h' f1 f2 f3 => ?_)⟩
    have e14 : h' 1 14 = I'.length := by rw [f1 _ _ (by omega), hw_eq ⟨rfl, rfl⟩]
    rw [e14]
    exact k1 P L I' rfl h' (fun a j w1 w2 => by rw [f1 a j w1, hw_ne (by omega)]) f2 f3 ⟨e14, cImR_fr (fun o j a b => by rw [f1 o j (by omega), hw_ne (by omega)]) c5⟩
