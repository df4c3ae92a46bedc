/-! the state of both sides between two calls -/
def gRf (h : zH) (t t' l l' p p' b b' : Int) : Prop := (h 1 5 = t ∧ h 1 6 = t' ∧ h 1 7 = l ∧ h 1 8 = l' ∧ h 1 9 = p ∧ h 1 10 = p' ∧ h 1 11 = b ∧ h 1 12 = b') ∧ ((t = 30 ∧ t' = 50) ∨ (t = 50 ∧ t' = 30)) ∧ ((l = 70 ∧ l' = 74) ∨ (l = 74 ∧ l' = 70)) ∧ ((p = 78 ∧ p' = 84) ∨ (p = 84 ∧ p' = 78)) ∧ ((b = 90 ∧ b' = 92) ∨ (b = 92 ∧ b' = 90))
abbrev gLg : Type := List ((Int × Int × Int) × List (Int × Int))
abbrev gIm : Type := List (List (Int × Int) × gLg)
def gW (r : zH) (f : Int → Int) (N : Nat) (P : List (Int × Int)) (L : gLg) (I : gIm) (T : Int → Int) (m : Int) : Prop := wD r f N P ∧ (L.length ≤ 20 ∧ hOk r P L) ∧ I.length ≤ 3 ∧ (0 ≤ m ∧ m ≤ 600) ∧ ∀ k : Int, 0 ≤ k → k < m → 0 ≤ T k ∧ T k ≤ 255
def gCl (h : zH) (t t' l l' p p' b b' : Int) (r : zH) (f : Int → Int) (N : Nat) (P : List (Int × Int)) (s : Int → Int) (n : Int) (L : gLg) (I : gIm) (T : Int → Int) (m : Int) : Prop := gRf h t t' l l' p p' b b' ∧ cRoad t h r ∧ cLaw l h f N ∧ cPlan p h P ∧ cBook b h s n ∧ (h p 6 = L.length ∧ cLogR p h L) ∧ (h 1 14 = I.length ∧ cImR r h I) ∧ (h 2 5 = m ∧ ∀ k : Int, 0 ≤ k → k < m → h 3 k = (T k + 128) % 256 - 128) ∧ ((∀ p : Int, 0 ≤ p → p < 4 → h 17 p = 0) ∧ h 23 0 = 0 ∧ h 24 0 = 0) ∧ (h 11 8 ≠ 0 → cBs h (sFull r f N))
def gMl (h : zH) (r : zH) (f : Int → Int) (N : Nat) (P : List (Int × Int)) (s : Int → Int) (n : Int) (L : gLg) (I : gIm) (T : Int → Int) (m : Int) : Prop := mRoad h r ∧ mLaw h f N ∧ mPlan h P ∧ mBook h s n ∧ (h 113 70 = L.length ∧ mLogR h 154 0 L) ∧ (h 113 72 = I.length ∧ mImR h I) ∧ (h 113 2 = m ∧ ∀ k : Int, 0 ≤ k → k < m → h 115 k = T k) ∧ (∀ i : Int, 0 ≤ i → i < 12 → h 148 i = 0) ∧ mCW h
def gX (h : zH) : Prop := h 2 6 = h 113 8 ∧ h 1 15 = h 114 0 ∧ h 1 16 = h 114 1 ∧ h 1 17 = h 114 2
def gI (h : zH) : Prop := ∃ t t' l l' p p' b b' r f N P s n L I T m, gW r f N P L I T m ∧ gCl h t t' l l' p p' b b' r f N P s n L I T m ∧ gMl h r f N P s n L I T m ∧ gX h
def cCel (o j : Int) : Prop := (o = 1 ∧ 5 ≤ j ∧ j ≤ 14) ∨ (o = 2 ∧ j = 5) ∨ o = 3 ∨ (o = 11 ∧ 8 ≤ j ∧ j ≤ 10) ∨ o = 14 ∨ o = 17 ∨ ((o = 23 ∨ o = 24) ∧ j = 0) ∨ (30 ≤ o ∧ o ≤ 71) ∨ o = 74 ∨ o = 75 ∨ (78 ≤ o ∧ o ≤ 112)
def mCel (o j : Int) : Prop := (o = 113 ∧ (j = 2 ∨ (32 ≤ j ∧ j ≤ 36) ∨ j = 43 ∨ j = 49 ∨ j = 50 ∨ j = 66 ∨ j = 70 ∨ j = 72)) ∨ o = 115 ∨ (122 ≤ o ∧ o ≤ 127) ∨ o = 129 ∨ o = 131 ∨ o = 134 ∨ o = 135 ∨ o = 139 ∨ o = 141 ∨ o = 148 ∨ o = 154 ∨ o = 155
theorem cBook_fr {b : Int} {h h' : zH} {s : Int → Int} {n : Int} (fr : ∀ o j, o = b ∨ o = b + 1 → h' o j = h o j) (w : cBook b h s n) : cBook b h' s n := ⟨by rw [fr _ _ (Or.inl rfl)]; exact w.1, fun k a c => by rw [fr _ _ (Or.inr rfl)]; exact w.2 k a c⟩
theorem mBook_fr {h h' : zH} {s : Int → Int} {n : Int} (fr : ∀ o j, (o = 113 ∧ j = 50) ∨ o = 141 → h' o j = h o j) (w : mBook h s n) : mBook h' s n := ⟨by rw [fr _ _ (Or.inl ⟨rfl, rfl⟩)]; exact w.1, fun k a c => by rw [fr _ _ (Or.inr rfl)]; exact w.2 k a c⟩
theorem gRf_fr {h h' : zH} {t t' l l' p p' b b' : Int} (fr : ∀ j, 5 ≤ j → j ≤ 12 → h' 1 j = h 1 j) (w : gRf h t t' l l' p p' b b') : gRf h' t t' l l' p p' b b' := by
  unfold gRf at w ⊢
  rw [fr _ (by decide) (by decide), fr _ (by decide) (by decide), fr _ (by decide) (by decide), fr _ (by decide) (by decide), fr _ (by decide) (by decide), fr _ (by decide) (by decide), fr _ (by decide) (by decide), fr _ (by decide) (by decide)]
  exact w
theorem gCl_fr {h h' : zH} {t t' l l' p p' b b' : Int} {r : zH} {f : Int → Int} {N : Nat} {P : List (Int × Int)} {s : Int → Int} {n : Int} {L : gLg} {I : gIm} {T : Int → Int} {m : Int} (hI : I.length ≤ 3) (fr : ∀ o j, cCel o j → h' o j = h o j) (w : gCl h t t' l l' p p' b b' r f N P s n L I T m) : gCl h' t t' l l' p p' b b' r f N P s n L I T m := by
  obtain ⟨w1, w2, w3, w4, w5, w6, w7, w8, w9, w10⟩ := w
  have w1' := w1
  obtain ⟨_, e1, e2, e3, e4⟩ := w1'
  unfold cCel at fr
  refine ⟨gRf_fr (fun j a c => fr _ _ (by omega)) w1, cRoad_fr (fun o j a c => fr _ _ (by omega)) w2, cLaw_fr (fun o j a => fr _ _ (by omega)) w3, cPlan_fr (fun o j a c => fr _ _ (by omega)) w4, cBook_fr (fun o j a => fr _ _ (by omega)) w5, ⟨?_, cLogR_fr (fun o j a c _ _ => fr _ _ (by omega)) w6.2⟩, ⟨?_, cImR_fr (fun o j a c => fr _ _ (by omega)) w7.2⟩, ⟨?_, fun k a c => ?_⟩, ⟨fun p a c => ?_, ?_, ?_⟩, fun e => ?_⟩
  · rw [fr _ _ (by omega)]; exact w6.1
  · rw [fr _ _ (by omega)]; exact w7.1
  · rw [fr _ _ (by omega)]; exact w8.1
  · rw [fr _ _ (by omega)]; exact w8.2 k a c
  · rw [fr _ _ (by omega)]; exact w9.1 p a c
  · rw [fr _ _ (by omega)]; exact w9.2.1
  · rw [fr _ _ (by omega)]; exact w9.2.2
  · rw [fr _ _ (by omega)] at e
    exact cBs_fr ⟨fr _ _ (by omega), fr _ _ (by omega)⟩ (fun i => fr _ _ (by omega)) (w10 e)
theorem mSnap_f {h h' : zH} {o q : Int} {S : List (Int × Int)} (fr : ∀ j, h' o j = h o j) (w : mSnap h o q S) : mSnap h' o q S := ⟨by rw [fr]; exact w.1, fun k a c => by rw [fr, fr]; exact w.2 k a c⟩
theorem mLogR_f {h h' : zH} {o q : Int} (fr : ∀ j, h' o j = h o j) : ∀ {L : gLg}, mLogR h o q L → mLogR h' o q L
  | [], _ => trivial
  | (_, _) :: _, w => ⟨mSnap_f fr w.1, mLogR_f fr w.2⟩
theorem mImR_f {h h' : zH} (fr : ∀ j, h' 155 j = h 155 j) : ∀ {I : gIm}, mImR h I → mImR h' I
  | [], _ => trivial
  | (_, _) :: _, w => ⟨⟨mSnap_f fr w.1.1, by rw [fr]; exact w.1.2.1, mLogR_f fr w.1.2.2⟩, mImR_f fr w.2⟩
theorem gMl_fr {h h' : zH} {r : zH} {f : Int → Int} {N : Nat} {P : List (Int × Int)} {s : Int → Int} {n : Int} {L : gLg} {I : gIm} {T : Int → Int} {m : Int} (fr : ∀ o j, mCel o j → h' o j = h o j) (w : gMl h r f N P s n L I T m) : gMl h' r f N P s n L I T m := by
  obtain ⟨w1, w2, w3, w4, w5, w6, w7, w8, w9⟩ := w
  unfold mCel at fr
  refine ⟨mRoad_fr (fun o j a => fr _ _ (by unfold mRo at a; omega)) w1, mLaw_fr (fun o j a => fr _ _ (by unfold mLo at a; omega)) w2, mPlan_fr (fun o j a => fr _ _ (by omega)) w3, mBook_fr (fun o j a => fr _ _ (by omega)) w4, ⟨?_, mLogR_f (fun j => fr _ _ (by omega)) w5.2⟩, ⟨?_, mImR_f (fun j => fr _ _ (by omega)) w6.2⟩, ⟨?_, fun k a c => ?_⟩, fun i a c => ?_, ?_⟩
  · rw [fr _ _ (by omega)]; exact w5.1
  · rw [fr _ _ (by omega)]; exact w6.1
  · rw [fr _ _ (by omega)]; exact w7.1
  · rw [fr _ _ (by omega)]; exact w7.2 k a c
  · rw [fr _ _ (by omega)]; exact w8 i a c
  · unfold mCW at w9 ⊢
    rw [fr _ _ (by omega)]
    exact w9
def xCel (o j : Int) : Prop := (o = 2 ∧ j = 6) ∨ (o = 113 ∧ j = 8) ∨ (o = 1 ∧ 15 ≤ j ∧ j ≤ 17) ∨ o = 114
theorem gI_fr {h h' : zH} (g : gI h) (f1 : ∀ o j, cCel o j ∨ mCel o j → h' o j = h o j) (x : gX h') : gI h' := by
  obtain ⟨t, t', l, l', p, p', b, b', r, f, N, P, s, n, L, I, T, m, gw, gc, gm, gx⟩ := g
  exact ⟨t, t', l, l', p, p', b, b', r, f, N, P, s, n, L, I, T, m, gw, gCl_fr gw.2.2.1 (fun o j a => f1 o j (Or.inl a)) gc, gMl_fr (fun o j a => f1 o j (Or.inr a)) gm, x⟩
/-- behind both calls: the same state on both sides, and the same answer -/
def gP (h : zH) (k b : Int) (h2 : zH) : Prop := gI h2 ∧ h2 113 0 = k ∧ (k = 0 → h2 156 0 = b) ∧ ∀ j, h2 0 j = h 0 j
/-- cells that calls use for reckoning alone -/
def scC (o j : Int) : Prop := (4 ≤ o ∧ o ≤ 10) ∨ (26 ≤ o ∧ o ≤ 29) ∨ o = 72 ∨ o = 73 ∨ o = 76 ∨ o = 77
def scM (o j : Int) : Prop := o = 136 ∨ o = 137 ∨ (142 ≤ o ∧ o ≤ 147) ∨ (149 ≤ o ∧ o ≤ 153) ∨ (o = 113 ∧ (j = 58 ∨ j = 63 ∨ j = 64 ∨ j = 65 ∨ j = 68))
theorem gI_x {h : zH} (g : gI h) : gX h := by
  obtain ⟨t, t', l, l', p, p', b, b', r, f, N, P, s, n, L, I, T, m, gw, gc, gm, gx⟩ := g
  exact gx
/-- the answer of both, nothing changed -/
theorem gP_ok {h h1 h2 : zH} {V : Int} (g : gI h) (f1 : ∀ o j, ¬ scC o j → h1 o j = h o j) (f2 : ∀ o j, ¬ scM o j → h2 o j = (hw (hw h1 156 0 V) 113 0 0) o j) : gP h 0 V h2 := by
  have x := gI_x g
  have e : ∀ o j, ¬ scC o j → ¬ scM o j → ¬ (o = 156 ∧ j = 0) → ¬ (o = 113 ∧ j = 0) → h2 o j = h o j := fun o j a b c d => by rw [f2 o j b, hw_ne (by omega), hw_ne (by omega), f1 o j a]
  refine ⟨gI_fr g (fun o j a => e o j (by unfold cCel mCel at a; unfold scC; omega) (by unfold cCel mCel at a; unfold scM; omega) (by unfold cCel mCel at a; omega) (by unfold cCel mCel at a; omega)) ?_, ?_, fun _ => ?_, fun j => ?_⟩
  · unfold gX at x ⊢
    rw [e _ _ (by unfold scC; omega) (by unfold scM; omega) (by omega) (by omega), e _ _ (by unfold scC; omega) (by unfold scM; omega) (by omega) (by omega), e _ _ (by unfold scC; omega) (by unfold scM; omega) (by omega) (by omega), e _ _ (by unfold scC; omega) (by unfold scM; omega) (by omega) (by omega), e _ _ (by unfold scC; omega) (by unfold scM; omega) (by omega) (by omega), e _ _ (by unfold scC; omega) (by unfold scM; omega) (by omega) (by omega), e _ _ (by unfold scC; omega) (by unfold scM; omega) (by omega) (by omega), e _ _ (by unfold scC; omega) (by unfold scM; omega) (by omega) (by omega)]
    exact x
  · rw [f2 _ _ (by unfold scM; omega), hw_eq ⟨rfl, rfl⟩]
  · rw [f2 _ _ (by unfold scM; omega), hw_ne (by omega), hw_eq ⟨rfl, rfl⟩]
  · rw [e _ _ (by unfold scC; omega) (by unfold scM; omega) (by omega) (by omega)]
/-- both refuse, for the same reason -/
theorem gP_no {h : zH} {i k b : Int} (g : gI h) (hi : i = 0 ∨ i = 1 ∨ i = 2) (hk : k ≠ 0) : gP h k b (hw (hw (hw (hw h 1 (15 + i) (w32 (h 1 (15 + i) + 1))) 113 0 0) 113 0 k) 114 i (w32 (h 114 i + 1))) := by
  have x := gI_x g
  obtain ⟨h2, hh2⟩ : ∃ h2, h2 = hw (hw (hw (hw h 1 (15 + i) (w32 (h 1 (15 + i) + 1))) 113 0 0) 113 0 k) 114 i (w32 (h 114 i + 1)) := ⟨_, rfl⟩
  rw [← hh2]
  have e : ∀ o j, ¬ (o = 1 ∧ j = 15 + i) → ¬ (o = 114 ∧ j = i) → ¬ (o = 113 ∧ j = 0) → h2 o j = h o j := fun o j a c d => by rw [hh2, hw_ne (by omega), hw_ne (by omega), hw_ne (by omega), hw_ne (by omega)]
  have e1 : h2 1 (15 + i) = w32 (h 1 (15 + i) + 1) := by rw [hh2, hw_ne (by omega), hw_ne (by omega), hw_ne (by omega), hw_eq ⟨rfl, rfl⟩]
  have e2 : h2 114 i = w32 (h 114 i + 1) := by rw [hh2, hw_eq ⟨rfl, rfl⟩]
  refine ⟨gI_fr g (fun o j a => e o j (by unfold cCel mCel at a; omega) (by unfold cCel mCel at a; omega) (by unfold cCel mCel at a; omega)) ?_, ?_, fun w => absurd w hk, fun j => e _ _ (by omega) (by omega) (by omega)⟩
  · obtain ⟨x1, x2, x3, x4⟩ := x
    refine ⟨by rw [e _ _ (by omega) (by omega) (by omega), e _ _ (by omega) (by omega) (by omega)]; exact x1, ?_, ?_, ?_⟩
    · by_cases w : i = 0
      · subst w
        rw [show (15 : Int) = 15 + 0 by decide, e1, e2, show (15 : Int) + 0 = 15 by decide, x2]
      · rw [e _ _ (by omega) (by omega) (by omega), e _ _ (by omega) (by omega) (by omega)]
        exact x2
    · by_cases w : i = 1
      · subst w
        rw [show (16 : Int) = 15 + 1 by decide, e1, e2, show (15 : Int) + 1 = 16 by decide, x3]
      · rw [e _ _ (by omega) (by omega) (by omega), e _ _ (by omega) (by omega) (by omega)]
        exact x3
    · by_cases w : i = 2
      · subst w
        rw [show (17 : Int) = 15 + 2 by decide, e1, e2, show (15 : Int) + 2 = 17 by decide, x4]
      · rw [e _ _ (by omega) (by omega) (by omega), e _ _ (by omega) (by omega) (by omega)]
        exact x4
  · rw [hh2, hw_ne (by omega), hw_eq ⟨rfl, rfl⟩]
abbrev gR : Type := Int → Nat → zH → Prop
abbrev gXx : Type := Nat → Nat → zH → Prop
/-- a refusal for one reason: class X, the reference's code -/
theorem comb1 {h : zH} {c : Nat} {cond : Prop} {V : Int} (E0 : Nat) (Zc : gR → gXx → Prop) (Zm : Nat → zH → gR → Prop) (Zh : gR → Prop) (g : gI h) (hE : E0 = 0 ∨ E0 = 1)
    (B : ∀ R', Zc (fun y c h => R' 0 c (hw h 156 0 y)) (fun E c h => E = E0 ∧ R' 1 c h) → Zh R')
    (C : ∀ R' X', (cond → ∀ h', (∀ o j, ¬ scC o j → h' o j = h o j) → R' V c h') → (¬ cond → X' E0 (c + 1) (hw h 1 (15 + (E0 : Int)) (w32 (h 1 (15 + (E0 : Int)) + 1)))) → Zc R' X')
    (M : ∀ c H R', (∀ o j, 113 ≤ o → o ≠ 156 → H o j = h o j) → (cond → ∀ h', (∀ o j, ¬ scM o j → h' o j = (hw H 113 0 0) o j) → R' V c h') → (¬ cond → R' 0 c (hw (hw (hw H 113 0 0) 113 0 1) 114 (E0 : Int) (w32 (H 114 (E0 : Int) + 1)))) → Zm c H R') :
    Zh (fun k c h1 => (∀ j, h1 0 j = h 0 j) ∧ Zm c h1 (fun b _ h2 => gP h k b h2)) := by
  refine B _ (C _ _ (fun hc h1 f1 => ⟨fun j => by rw [hw_ne (by omega), f1 0 j (by unfold scC; omega)], M _ _ _ (fun o j a b => by rw [hw_ne (by omega), f1 o j (by unfold scC; omega)]) (fun _ h2 f2 => gP_ok g f1 f2) (fun n => absurd hc n)⟩) (fun nc => ⟨rfl, fun j => by rw [hw_ne (by omega)], M _ _ _ (fun o j a b => by rw [hw_ne (by omega)]) (fun y => absurd y nc) (fun _ => ?_)⟩))
  have := gP_no (b := 0) g (i := (E0 : Int)) (k := 1) (by omega) (by decide)
  rw [hw_ne (o := 1) (by omega)]
  exact this
/-- an element that there isn't, then an argument -/
theorem comb2 {h : zH} {c : Nat} {c0 c1 : Prop} {V : Int} (E0 E1 : Nat) (Zc : gR → gXx → Prop) (Zm : Nat → zH → gR → Prop) (Zh : gR → Prop) (g : gI h) (hE : (E0 = 0 ∧ E1 = 1) ∨ (E0 = 1 ∧ E1 = 2))
    (B : ∀ R', Zc (fun y c h => R' 0 c (hw h 156 0 y)) (fun E c h => (E = E0 ∧ R' 1 c h) ∨ (E = E1 ∧ R' 2 c h)) → Zh R')
    (C : ∀ R' X', (c0 → c1 → ∀ h', (∀ o j, ¬ scC o j → h' o j = h o j) → R' V c h') → (¬ c0 → X' E0 (c + 1) (hw h 1 (15 + (E0 : Int)) (w32 (h 1 (15 + (E0 : Int)) + 1)))) → (c0 → ¬ c1 → X' E1 (c + 1) (hw h 1 (15 + (E1 : Int)) (w32 (h 1 (15 + (E1 : Int)) + 1)))) → Zc R' X')
    (M : ∀ c H R', (∀ o j, 113 ≤ o → o ≠ 156 → H o j = h o j) → (c0 → c1 → ∀ h', (∀ o j, ¬ scM o j → h' o j = (hw H 113 0 0) o j) → R' V c h') → (¬ c0 → R' 0 c (hw (hw (hw H 113 0 0) 113 0 1) 114 (E0 : Int) (w32 (H 114 (E0 : Int) + 1)))) → (c0 → ¬ c1 → R' 0 c (hw (hw (hw H 113 0 0) 113 0 2) 114 (E1 : Int) (w32 (H 114 (E1 : Int) + 1)))) → Zm c H R') :
    Zh (fun k c h1 => (∀ j, h1 0 j = h 0 j) ∧ Zm c h1 (fun b _ h2 => gP h k b h2)) := by
  refine B _ (C _ _ (fun h0 hc h1 f1 => ⟨fun j => by rw [hw_ne (by omega), f1 0 j (by unfold scC; omega)], M _ _ _ (fun o j a b => by rw [hw_ne (by omega), f1 o j (by unfold scC; omega)]) (fun _ _ h2 f2 => gP_ok g f1 f2) (fun n => absurd h0 n) (fun _ n => absurd hc n)⟩) (fun nc => Or.inl ⟨rfl, fun j => by rw [hw_ne (by omega)], M _ _ _ (fun o j a b => by rw [hw_ne (by omega)]) (fun y _ => absurd y nc) (fun _ => ?_) (fun y => absurd y nc)⟩) (fun y0 nc => Or.inr ⟨rfl, fun j => by rw [hw_ne (by omega)], M _ _ _ (fun o j a b => by rw [hw_ne (by omega)]) (fun _ y => absurd y nc) (fun n => absurd y0 n) (fun _ _ => ?_)⟩))
  · have := gP_no (b := 0) g (i := (E0 : Int)) (k := 1) (by omega) (by decide)
    rw [hw_ne (o := 1) (by omega)]
    exact this
  · have := gP_no (b := 0) g (i := (E1 : Int)) (k := 2) (by omega) (by decide)
    rw [hw_ne (o := 1) (by omega)]
    exact this
/-- what is needed of the state on each side -/
theorem gC_u {h : zH} {P : Prop} (g : gI h) (k : ∀ t t' l l' p p' b b' r f N P' s n L I T m, gW r f N P' L I T m → gCl h t t' l l' p p' b b' r f N P' s n L I T m → gMl h r f N P' s n L I T m → P) : P := by
  obtain ⟨t, t', l, l', p, p', b, b', r, f, N, P', s, n, L, I, T, m, gw, gc, gm, gx⟩ := g
  exact k t t' l l' p p' b b' r f N P' s n L I T m gw gc gm
theorem gM_o {h H : zH} {r : zH} {f : Int → Int} {N : Nat} {P : List (Int × Int)} {s : Int → Int} {n : Int} {L : gLg} {I : gIm} {T : Int → Int} {m : Int} (fr : ∀ o j, 113 ≤ o → o ≠ 156 → H o j = h o j) (w : gMl h r f N P s n L I T m) : gMl H r f N P s n L I T m ∧ gMl (hw H 113 0 0) r f N P s n L I T m :=
  ⟨gMl_fr (fun o j a => fr o j (by unfold mCel at a; omega) (by unfold mCel at a; omega)) w, gMl_fr (fun o j a => by rw [hw_ne (by unfold mCel at a; omega), fr o j (by unfold mCel at a; omega) (by unfold mCel at a; omega)]) w⟩
