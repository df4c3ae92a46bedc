/-! reading, sound or not, in one form: a state is a fault, or a place -/
def cPs (h : zH) (n pl : Int) (st : (Int × Int) ⊕ Int) : Prop := match st with
  | .inl f => h 2 4 = f.1 ∧ h 2 6 = f.2 ∧ f.1 ≠ 0 ∧ (0 ≤ h 2 2 ∧ h 2 2 ≤ n)
  | .inr a => h 2 4 = 0 ∧ h 2 6 = pl ∧ h 2 2 = a ∧ (0 ≤ a ∧ a ≤ n)
def mPs (h : zH) (n : Int) (st : (Int × Int) ⊕ Int) : Prop := match st with
  | .inl f => h 113 6 = f.1 ∧ h 113 5 = f.2 ∧ f.2 ≠ -1 ∧ f.1 ≠ 0
  | .inr a => h 113 5 = -1 ∧ h 113 4 = a ∧ (0 ≤ a ∧ a ≤ n)
/-- a number: the state behind it, and its value (0 with a fault) -/
def rdN (T : Int → Int) (n lo hi : Int) (st : (Int × Int) ⊕ Int) : ((Int × Int) ⊕ Int) × Int := match st with
  | .inl f => (.inl f, 0)
  | .inr a => match nF T n a lo hi with
    | some f => (.inl f, 0)
    | none => (.inr (nE T n a), nV T n a)
def rdX (T : Int → Int) (n s : Int) (st : (Int × Int) ⊕ Int) : (Int × Int) ⊕ Int := match st with
  | .inl f => .inl f
  | .inr a => match xF T n a s with
    | some f => .inl f
    | none => .inr (nB T n a + 1)
def isOkS (st : (Int × Int) ⊕ Int) : Prop := match st with
  | .inl _ => False
  | .inr _ => True
theorem rdN_ok {T : Int → Int} {n lo hi : Int} {st : (Int × Int) ⊕ Int} (h : isOkS (rdN T n lo hi st).1) : isOkS st ∧ lo ≤ (rdN T n lo hi st).2 ∧ (rdN T n lo hi st).2 ≤ hi := by
  unfold rdN at h ⊢
  cases st with
  | inl f => exact absurd h (fun x => x)
  | inr a =>
    simp only at h ⊢
    cases e : nF T n a lo hi with
    | some f =>
      rw [e] at h
      exact absurd h (fun x => x)
    | none =>
      have := (nF_v e).1
      exact ⟨trivial, this.1, this.2⟩
theorem rdX_ok {T : Int → Int} {n s : Int} {st : (Int × Int) ⊕ Int} (h : isOkS (rdX T n s st)) : isOkS st := by
  unfold rdX at h
  cases st with
  | inl f => exact absurd h (fun x => x)
  | inr a => trivial
theorem c_74 {d c : Nat} {T : Int → Int} {n : Int} (wt : wTape T n) {R : Int → Nat → zH → Prop} {X : Nat → Nat → zH → Prop} {h : zH} {lo hi pl : Int} {st : (Int × Int) ⊕ Int} (ct : cTape h T n) (ps : cPs h n pl st) (k : ∀ y h', (∀ o j, ¬ cTs o j → h' o j = h o j) → cPs h' n pl (rdN T n lo hi st).1 → (isOkS (rdN T n lo hi st).1 → y = (rdN T n lo hi st).2) → (0 ≤ y ∧ y ≤ 9999) → R y c h') : zCl (d + 1) 74 [(2, 2), (0, lo), (0, hi)] c h R X := by
  cases st with
  | inl f =>
    obtain ⟨p1, p2, p3, p4⟩ := ps
    refine s_74u wt ct p4 (by omega) (fun y h' f1 g4 g6 g2 gy => k y h' f1 ⟨by omega, by omega, p3, g2⟩ (fun w => absurd w (fun x => x)) gy)
  | inr a =>
    obtain ⟨p1, p2, p3, p4⟩ := ps
    have b1 := nBE (T := T) p4.2
    subst p3
    refine s_74 wt ct p4 p1 (fun K PL e y h' f1 g4 g6 g2 gy => ?_) (fun e h' f1 g2 g3 g4 g6 => ?_)
    · have hk := nF_K p4.1 p4.2 e
      have er : rdN T n lo hi (.inr (h 2 2)) = (.inl (K, PL), 0) := by
        show (match nF T n (h 2 2) lo hi with | some f => (Sum.inl f, 0) | none => (Sum.inr (nE T n (h 2 2)), nV T n (h 2 2))) = _
        rw [e]
      have kk := k y h' f1
      rw [er] at kk
      exact kk ⟨g4, g6, by show K ≠ 0; omega, g2⟩ (fun w => absurd w (fun x => x)) gy
    · have er : rdN T n lo hi (.inr (h 2 2)) = (.inr (nE T n (h 2 2)), nV T n (h 2 2)) := by
        show (match nF T n (h 2 2) lo hi with | some f => (Sum.inl f, 0) | none => (Sum.inr (nE T n (h 2 2)), nV T n (h 2 2))) = _
        rw [e]
      have vr : 0 ≤ nV T n (h 2 2) ∧ nV T n (h 2 2) ≤ 9999 := by
        refine (v_r (T := T) (b := nB T n (h 2 2)) (nE T n (h 2 2) - nB T n (h 2 2)).toNat (fun j a b => ?_)).1
        exact isD_t.mp (run_in (p := isD) (T := T) (n := n) (n - nB T n (h 2 2)).toNat (nB T n (h 2 2)) (by omega) j a (by have : run isD T n (nB T n (h 2 2)) = nE T n (h 2 2) := rfl; omega))
      have kk := k (nV T n (h 2 2)) h' f1
      rw [er] at kk
      exact kk ⟨g4, by omega, g2, by show 0 ≤ nE T n (h 2 2) ∧ nE T n (h 2 2) ≤ n; omega⟩ (fun _ => rfl) vr
theorem c_81 {d c : Nat} {T : Int → Int} {n : Int} (wt : wTape T n) {R : Int → Nat → zH → Prop} {X : Nat → Nat → zH → Prop} {h : zH} {s pl : Int} {st : (Int × Int) ⊕ Int} (hs : 33 ≤ s) (ct : cTape h T n) (ps : cPs h n pl st) (k : ∀ h', (∀ o j, ¬ cTs o j → h' o j = h o j) → cPs h' n pl (rdX T n s st) → R 0 c h') : zCl (d + 2) 81 [(2, 2), (0, s)] c h R X := by
  cases st with
  | inl f =>
    obtain ⟨p1, p2, p3, p4⟩ := ps
    exact s_81u wt hs ct p4 (by omega) (fun h' f1 g4 g6 g2 => k h' f1 ⟨by omega, by omega, p3, g2⟩)
  | inr a =>
    obtain ⟨p1, p2, p3, p4⟩ := ps
    subst p3
    refine s_81 wt hs ct p4 p1 (fun K PL e h' f1 g4 g6 g2 => ?_) (fun e h' f1 g2 g2' g4 g6 => ?_)
    · have hk := xF_K p4.1 p4.2 e
      have er : rdX T n s (.inr (h 2 2)) = .inl (K, PL) := by
        show (match xF T n (h 2 2) s with | some f => Sum.inl f | none => Sum.inr (nB T n (h 2 2) + 1)) = _
        rw [e]
      have kk := k h' f1
      rw [er] at kk
      exact kk ⟨g4, g6, by show K ≠ 0; omega, g2⟩
    · have er : rdX T n s (.inr (h 2 2)) = .inr (nB T n (h 2 2) + 1) := by
        show (match xF T n (h 2 2) s with | some f => Sum.inl f | none => Sum.inr (nB T n (h 2 2) + 1)) = _
        rw [e]
      have kk := k h' f1
      rw [er] at kk
      exact kk ⟨g4, by omega, g2, by rw [g2] at g2'; exact g2'⟩
theorem m_236 {d c : Nat} {T : Int → Int} {n : Int} (wt : wTape T n) {R : Int → Nat → zH → Prop} {X : Nat → Nat → zH → Prop} {h : zH} {lo hi : Int} {st : (Int × Int) ⊕ Int} (hlo : lo ≤ 1000) (hhi : hi ≤ 999) (mt : mTape h T n) (ps : mPs h n st) (k : ∀ h', (∀ o j, ¬ mTs o j → h' o j = h o j) → mPs h' n (rdN T n lo hi st).1 → R (rdN T n lo hi st).2 c h') : zCl (d + 1) 236 [(2, 113), (0, lo), (0, hi)] c h R X := by
  cases st with
  | inl f =>
    obtain ⟨p1, p2, p3, p4⟩ := ps
    exact s_236u (by omega) (k h (fun _ _ _ => rfl) ⟨p1, p2, p3, p4⟩)
  | inr a =>
    obtain ⟨p1, p2, p3⟩ := ps
    have b1 := nBE (T := T) p3.2
    subst p2
    refine s_236 wt hlo hhi mt p3 p1 (fun K PL e h' f1 g5 g6 g4 => ?_) (fun e h' f1 g4 g5 => ?_)
    · have hk := nF_K p3.1 p3.2 e
      have er : rdN T n lo hi (.inr (h 113 4)) = (.inl (K, PL), 0) := by
        show (match nF T n (h 113 4) lo hi with | some f => (Sum.inl f, 0) | none => (Sum.inr (nE T n (h 113 4)), nV T n (h 113 4))) = _
        rw [e]
      have kk := k h' f1
      rw [er] at kk
      exact kk ⟨g6, g5, by show PL ≠ -1; omega, by show K ≠ 0; omega⟩
    · have er : rdN T n lo hi (.inr (h 113 4)) = (.inr (nE T n (h 113 4)), nV T n (h 113 4)) := by
        show (match nF T n (h 113 4) lo hi with | some f => (Sum.inl f, 0) | none => (Sum.inr (nE T n (h 113 4)), nV T n (h 113 4))) = _
        rw [e]
      have kk := k h' f1
      rw [er] at kk
      exact kk ⟨g5, g4, by show 0 ≤ nE T n (h 113 4) ∧ nE T n (h 113 4) ≤ n; omega⟩
theorem m_239 {d c : Nat} {T : Int → Int} {n : Int} (wt : wTape T n) {R : Int → Nat → zH → Prop} {X : Nat → Nat → zH → Prop} {h : zH} {s : Int} {st : (Int × Int) ⊕ Int} (hs : 33 ≤ s) (mt : mTape h T n) (ps : mPs h n st) (k : ∀ h', (∀ o j, ¬ mTs o j → h' o j = h o j) → mPs h' n (rdX T n s st) → R 0 c h') : zCl (d + 1) 239 [(2, 113), (0, s)] c h R X := by
  cases st with
  | inl f =>
    obtain ⟨p1, p2, p3, p4⟩ := ps
    exact s_239u (by omega) (k h (fun _ _ _ => rfl) ⟨p1, p2, p3, p4⟩)
  | inr a =>
    obtain ⟨p1, p2, p3⟩ := ps
    subst p2
    refine s_239 wt hs mt p3 p1 (fun K PL e h' f1 g5 g6 g4 => ?_) (fun e h' f1 g4 g4' g5 => ?_)
    · have hk := xF_K p3.1 p3.2 e
      have er : rdX T n s (.inr (h 113 4)) = .inl (K, PL) := by
        show (match xF T n (h 113 4) s with | some f => Sum.inl f | none => Sum.inr (nB T n (h 113 4) + 1)) = _
        rw [e]
      have kk := k h' f1
      rw [er] at kk
      exact kk ⟨g6, g5, by show PL ≠ -1; omega, by show K ≠ 0; omega⟩
    · have er : rdX T n s (.inr (h 113 4)) = .inr (nB T n (h 113 4) + 1) := by
        show (match xF T n (h 113 4) s with | some f => Sum.inl f | none => Sum.inr (nB T n (h 113 4) + 1)) = _
        rw [e]
      have kk := k h' f1
      rw [er] at kk
      exact kk ⟨g5, g4, by rw [g4] at g4'; exact g4'⟩
theorem cPs_fr {h h' : zH} {n pl : Int} {st : (Int × Int) ⊕ Int} (fr : h' 2 4 = h 2 4 ∧ h' 2 6 = h 2 6 ∧ h' 2 2 = h 2 2) (p : cPs h n pl st) : cPs h' n pl st := by
  obtain ⟨a, b, c⟩ := fr
  cases st with
  | inl f =>
    obtain ⟨p1, p2, p3, p4⟩ := p
    exact ⟨by omega, by omega, p3, by omega⟩
  | inr a =>
    obtain ⟨p1, p2, p3, p4⟩ := p
    exact ⟨by omega, by omega, by omega, p4⟩
theorem mPs_fr {h h' : zH} {n : Int} {st : (Int × Int) ⊕ Int} (fr : h' 113 4 = h 113 4 ∧ h' 113 5 = h 113 5 ∧ h' 113 6 = h 113 6) (p : mPs h n st) : mPs h' n st := by
  obtain ⟨a, b, c⟩ := fr
  cases st with
  | inl f =>
    obtain ⟨p1, p2, p3, p4⟩ := p
    exact ⟨by omega, by omega, p3, p4⟩
  | inr a =>
    obtain ⟨p1, p2, p3⟩ := p
    exact ⟨by omega, by omega, p3⟩
/-- isSound, fine -/
theorem c_77 {d c : Nat} {R : Int → Nat → zH → Prop} {X : Nat → Nat → zH → Prop} {h : zH} {n pl : Int} {st : (Int × Int) ⊕ Int} (ps : cPs h n pl st) (k1 : isOkS st → R 1 c h) (k0 : ¬ isOkS st → R 0 c h) : zCl d 77 [(2, 2)] c h R X := by
  cases st with
  | inl f =>
    obtain ⟨p1, p2, p3, p4⟩ := ps
    exact b_77 ⟨fun _ => k0 (fun w => w), fun w => by omega⟩
  | inr a =>
    obtain ⟨p1, p2, p3, p4⟩ := ps
    exact b_77 ⟨fun w => absurd p1 w, fun _ => k1 trivial⟩
theorem m_224 {d c : Nat} {R : Int → Nat → zH → Prop} {X : Nat → Nat → zH → Prop} {h : zH} {n : Int} {st : (Int × Int) ⊕ Int} (ps : mPs h n st) (k1 : isOkS st → R 1 c h) (k0 : ¬ isOkS st → R 0 c h) : zCl d 224 [(2, 113)] c h R X := by
  cases st with
  | inl f =>
    obtain ⟨p1, p2, p3, p4⟩ := ps
    exact b_224 ⟨fun _ => k0 (fun w => w), fun w => by omega⟩
  | inr a =>
    obtain ⟨p1, p2, p3⟩ := ps
    exact b_224 ⟨fun w => absurd p1 w, fun _ => k1 trivial⟩
