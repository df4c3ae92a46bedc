/-! what is asked of a plan: the class -/
theorem mGo_s {r : zH} {f : Int → Int} {N : Nat} {P : List (Int × Int)} {sp xl xb sd : Int} (i : Nat) : mGo r f N P sp xl xb sd (i + 1) = mGo1 r f N P sp xl xb (mGo r f N P sp xl xb sd i) i := rfl
/-- without spoiling the seed does not count -/
theorem mGo_sd {r : zH} {f : Int → Int} {N : Nat} {P : List (Int × Int)} {xl xb : Int} (sd sd' : Int) : ∀ (i : Nat) (o j : Int), ¬ (o = 0 ∧ j = 2) → mGo r f N P 0 xl xb sd i o j = mGo r f N P 0 xl xb sd' i o j := by
  intro i
  induction i with
  | zero =>
    intro o j q
    show (if o = 1 then -1 else if o = 0 ∧ j = 2 then sd else 0) = (if o = 1 then -1 else if o = 0 ∧ j = 2 then sd' else 0)
    rw [if_neg q, if_neg q]
  | succ i ih =>
    intro o j q
    rw [mGo_s, mGo_s]
    generalize mGo r f N P 0 xl xb sd i = s at *
    generalize mGo r f N P 0 xl xb sd' i = s' at *
    have e1 : s 1 = s' 1 := funext (fun k => ih 1 k (by omega))
    have e2 : s 2 = s' 2 := funext (fun k => ih 2 k (by omega))
    have eb : gB r P s i = gB r P s' i := by
      unfold gB
      rw [e1, e2]
    have d1 := mDraw_r (s 0 2)
    have d2 := mDraw_r (s' 0 2)
    have en : gN r f N P 0 xl xb s i = gN r f N P 0 xl xb s' i := by
      unfold gN
      rw [if_neg (show ¬ mDraw (s 0 2) < 0 by omega), if_neg (show ¬ mDraw (s' 0 2) < 0 by omega), eb]
    unfold mGo1
    rw [eb, en]
    split
    · unfold hw
      rw [ih o j q]
    · rw [if_neg (show ¬ mDraw (s 0 2) < 0 by omega), if_neg (show ¬ mDraw (s' 0 2) < 0 by omega)]
      unfold gStep
      rw [ih 0 0 (by omega), ih 0 1 (by omega)]
      by_cases o0 : o = 0
      · rw [if_pos o0, if_pos o0]
        by_cases j2 : j = 2
        · exact absurd ⟨o0, j2⟩ q
        · rw [if_neg j2, if_neg j2, ih 0 j (by omega)]
      · rw [if_neg o0, if_neg o0, ih 1 j (by omega), ih 2 j (by omega), ih 3 j (by omega), ih 4 j (by omega), ih 5 j (by omega), ih 6 j (by omega)]
/-- people who are not told do nothing -/
theorem mGo_hi {r : zH} {f : Int → Int} {N : Nat} {P : List (Int × Int)} {sp xl xb sd : Int} (wr : wRoad r) (wp : wPlan r P) : ∀ (i : Nat), i ≤ P.length → ∀ k : Int, r 0 0 ≤ k → k < 4 → mGo r f N P sp xl xb sd i 6 k = 0 := by
  intro i
  have hp := wr_p wr
  induction i with
  | zero =>
    intro _ k a b
    rfl
  | succ i ih =>
    intro hi k a b
    have w := wp.2.1 i (by omega) (by omega)
    have z0 : zb (pB P i) k = 0 := zb_hi (n := (r 0 0).toNat) w.2.1 w.2.2 (by omega) (by omega) (by omega)
    have h := ih (by omega) k a b
    rw [mGo_s]
    unfold mGo1
    split
    · rw [hw_ne (by omega), hw_ne (by omega)]
      exact h
    · show (if zb (pB P i) k = 1 then _ else _) = _
      rw [if_neg (by omega)]
      exact h
/-- when a deed ends: when its line ends -/
theorem mGo_end {r : zH} {f : Int → Int} {N : Nat} {P : List (Int × Int)} {sp xl xb sd : Int} (wr : wRoad r) (wp : wPlan r P) (hx : 0 ≤ xb ∧ xb ≤ 100) : ∀ (i : Nat), i ≤ P.length → (∀ j : Int, 0 ≤ j → j < i → (mGo r f N P sp xl xb sd i 3 j = -1 ↔ mGo r f N P sp xl xb sd i 1 (pD P j) = -1)) ∧ (∀ e : Int, (∀ j : Int, 0 ≤ j → j < i → pD P j ≠ e) → mGo r f N P sp xl xb sd i 1 e = -1) := by
  intro i
  induction i with
  | zero =>
    intro _
    exact ⟨fun j a b => by omega, fun e _ => rfl⟩
  | succ i ih =>
    intro hi
    obtain ⟨h1, h2⟩ := ih (by omega)
    have gk := mGo_ok (f := f) (N := N) (sp := sp) (xl := xl) (sd := sd) wr wp hx i (by omega)
    have gb := gB_r wr wp (i := i) (by omega) gk
    have gn := gN_r (r := r) (f := f) (N := N) (P := P) (sp := sp) (xl := xl) (s := mGo r f N P sp xl xb sd i) (i := i) hx
    have fresh : mGo r f N P sp xl xb sd i 1 (pD P i) = -1 := h2 _ (fun j a b => wp.2.2 j i a b (by omega))
    rw [mGo_s]
    generalize mGo r f N P sp xl xb sd i = s at *
    unfold mGo1
    by_cases q : gB r P s i = -1
    · rw [if_pos q]
      refine ⟨fun j a b => ?_, fun e he => ?_⟩
      · rw [hw_ne (by omega), hw_ne (o := 4) (by omega), hw_ne (o := 3) (o' := 1) (by omega)]
        by_cases ej : j = i
        · subst ej
          rw [hw_eq ⟨rfl, rfl⟩, fresh]
        · rw [hw_ne (by omega)]
          exact h1 j a (by omega)
      · rw [hw_ne (by omega), hw_ne (by omega)]
        exact h2 e (fun j a b => he j a (by omega))
    · rw [if_neg q]
      have gb := gb.resolve_left q
      refine ⟨fun j a b => ?_, fun e he => ?_⟩
      · show (if j = i then _ else s 3 j) = -1 ↔ (if pD P j = pD P i then _ else s 1 (pD P j)) = -1
        by_cases ej : j = i
        · subst ej
          rw [if_pos rfl, if_pos rfl]
          omega
        · have : pD P j ≠ pD P i := wp.2.2 j i a (by omega) (by omega)
          rw [if_neg ej, if_neg this]
          exact h1 j a (by omega)
      · show (if e = pD P i then _ else s 1 e) = -1
        rw [if_neg (fun w => he i (by omega) (by omega) w.symm)]
        exact h2 e (fun j a b => he j a (by omega))
def wD (r : zH) (f : Int → Int) (N : Nat) (P : List (Int × Int)) : Prop := wRoad r ∧ wLaw f N ∧ wPlan r P
def cD (t l p : Int) (h r : zH) (f : Int → Int) (N : Nat) (P : List (Int × Int)) : Prop := (h 1 5 = t ∧ h 1 7 = l ∧ h 1 9 = p) ∧ (zIsR t ∧ zIsL l ∧ zIsP p) ∧ cRoad t h r ∧ cLaw l h f N ∧ cPlan p h P
def mD (h r : zH) (f : Int → Int) (N : Nat) (P : List (Int × Int)) : Prop := mRoad h r ∧ mLaw h f N ∧ mPlan h P
def cCell (o j : Int) : Prop := (o = 1 ∧ 5 ≤ j ∧ j ≤ 12) ∨ (30 ≤ o ∧ o ≤ 71) ∨ o = 74 ∨ o = 75 ∨ (78 ≤ o ∧ o ≤ 112)
def mCell (o j : Int) : Prop := (o = 113 ∧ ((32 ≤ j ∧ j ≤ 36) ∨ j = 43 ∨ j = 49)) ∨ (122 ≤ o ∧ o ≤ 127) ∨ o = 129 ∨ o = 131 ∨ o = 134 ∨ o = 135 ∨ o = 139
theorem cD_fr {t l p : Int} {h h' r : zH} {f : Int → Int} {N : Nat} {P : List (Int × Int)} (fr : ∀ o j, cCell o j → h' o j = h o j) (m : cD t l p h r f N P) : cD t l p h' r f N P := by
  obtain ⟨⟨a, b, c⟩, ⟨ht, hl, hp⟩, m1, m2, m3⟩ := m
  unfold cCell at fr
  have ht' := ht
  have hl' := hl
  have hp' := hp
  unfold zIsR at ht'
  unfold zIsL at hl'
  unfold zIsP at hp'
  refine ⟨⟨by rw [fr _ _ (by omega), a], by rw [fr _ _ (by omega), b], by rw [fr _ _ (by omega), c]⟩, ⟨ht, hl, hp⟩, cRoad_fr (fun o j a b => fr o j (by omega)) m1, cLaw_fr (fun o j a => fr o j (by omega)) m2, cPlan_fr (fun o j a b => fr o j (by omega)) m3⟩
theorem mD_fr {h h' r : zH} {f : Int → Int} {N : Nat} {P : List (Int × Int)} (fr : ∀ o j, mCell o j → h' o j = h o j) (m : mD h r f N P) : mD h' r f N P := by
  obtain ⟨m1, m2, m3⟩ := m
  unfold mCell at fr
  exact ⟨mRoad_fr (fun o j q => fr o j (by unfold mRo at q; omega)) m1, mLaw_fr (fun o j q => fr o j (by unfold mLo at q; omega)) m2, mPlan_fr (fun o j q => fr o j (by omega)) m3⟩
/-- the class's course behind a going, but for the seed -/
def cGoS (h s : zH) (n : Int) : Prop := h 4 10 = s 0 0 ∧ h 4 11 = s 0 1 ∧ (∀ k : Int, 0 ≤ k → k < 4 → h 10 k = s 6 k ∧ h 9 k = s 5 k) ∧ (∀ k : Int, 0 ≤ k → k < n → h 7 k = s 3 k ∧ h 8 k = s 4 k)
/-- what a going changes in the class -/
def cSc (o j : Int) : Prop := (4 ≤ o ∧ o ≤ 10) ∨ o = 72 ∨ o = 73 ∨ o = 76 ∨ o = 77
abbrev mG0 (r : zH) (f : Int → Int) (N : Nat) (P : List (Int × Int)) (xl xb : Int) : zH := mGo r f N P 0 xl xb 0 P.length
theorem s_21d {d c : Nat} {h : zH} {R : Int → Nat → zH → Prop} {X : Nat → Nat → zH → Prop} {t l p : Int} {r : zH} {f : Int → Int} {N : Nat} {P : List (Int × Int)} (cd : cD t l p h r f N P) (wd : wD r f N P) {xl xb : Int} (h2 : h 4 2 = xl) (h3 : h 4 3 = xb) (h4 : h 4 4 = 0) (hx : 0 ≤ xb ∧ xb ≤ 100) (k : ∀ h', (∀ o j, ¬ cSc o j → h' o j = h o j) → cGoS h' (mG0 r f N P xl xb) P.length → R 0 c h') : zCl (d + 5) 21 [(2, 4), (2, t), (2, l), (2, p)] c h R X := by
  obtain ⟨_, ⟨ht, hl, hp⟩, m1, m2, m3⟩ := cd
  refine s_21 ht hl hp m1 wd.1 m2 wd.2.1 m3 wd.2.2 (by rw [h3]; exact hx) (fun h' f1 f2 g => k h' (fun o j q => f1 o j ?_ ?_ ?_) ?_)
  · unfold cSc at q
    omega
  · unfold zIsL at hl
    unfold cSc at q
    omega
  · unfold zIsL at hl
    unfold cSc at q
    omega
  · rw [h2, h3, h4] at g
    obtain ⟨g1, g2, g3, g4, g5, g6⟩ := g
    have e := mGo_sd (r := r) (f := f) (N := N) (P := P) (xl := xl) (xb := xb) (h 4 5) 0 P.length
    refine ⟨by rw [g1]; exact e 0 0 (by omega), by rw [g2]; exact e 0 1 (by omega), fun k a b => ⟨by rw [(g5 k a b).2.2]; exact e 6 k (by omega), by rw [(g5 k a b).2.1]; exact e 5 k (by omega)⟩, fun k a b => ⟨by rw [(g6 k a b).1]; exact e 3 k (by omega), by rw [(g6 k a b).2]; exact e 4 k (by omega)⟩⟩
theorem cSc4 {h : zH} {a b c : Int} (o j : Int) (q : ¬ cSc o j) : (hw (hw (hw h 4 2 a) 4 3 b) 4 4 c) o j = h o j := by
  unfold cSc at q
  rw [hw_ne (by omega), hw_ne (by omega), hw_ne (by omega)]
theorem cCs {o j : Int} (q : cCell o j) : ¬ cSc o j := by
  unfold cCell at q
  unfold cSc
  omega
theorem s_19 {d c : Nat} {h : zH} {R : Int → Nat → zH → Prop} {X : Nat → Nat → zH → Prop} {t l p : Int} {r : zH} {f : Int → Int} {N : Nat} {P : List (Int × Int)} (cd : cD t l p h r f N P) (wd : wD r f N P) (k : ∀ h', (∀ o j, ¬ cSc o j → h' o j = h o j) → cGoS h' (mG0 r f N P (-1) 0) P.length → R 0 c h') : zCl (d + 6) 19 [(2, 1)] c h R X := by
  obtain ⟨e5, e7, e9⟩ := cd.1
  obtain ⟨ht, hl, hp⟩ := cd.2.1
  refine b_19 ht hl hp ⟨e5, e7, e9, s_21d (cD_fr (fun o j q => cSc4 o j (cCs q)) cd) wd ?_ ?_ ?_ (by decide) (fun h' f1 g => k h' (fun o j q => by rw [f1 o j q, cSc4 o j q]) g)⟩
  · rw [hw_ne (by omega), hw_ne (by omega), hw_eq ⟨rfl, rfl⟩]
  · rw [hw_ne (by omega), hw_eq ⟨rfl, rfl⟩]
  · rw [hw_eq ⟨rfl, rfl⟩]
theorem mLb_ext {V : Int → Int} {n : Nat} : ∀ {m : Nat}, n ≤ m → (∀ k : Nat, n ≤ k → k < m → V k = 0) → mLb V m = mLb V n ∧ mMo V m = mMo V n
  | 0, h, _ => by
    rw [show n = 0 by omega]
    exact ⟨rfl, rfl⟩
  | m + 1, h, p => by
    by_cases e : n = m + 1
    · rw [e]
      exact ⟨rfl, rfl⟩
    · obtain ⟨h1, h2⟩ := mLb_ext (m := m) (by omega) (fun k a b => p k a (by omega))
      have h3 := p m (by omega) (by omega)
      have h4 : 0 ≤ mMo V m := by
        have := mLb_r V m
        omega
      rw [mLb, mMo]
      unfold zMx
      rw [if_neg (by omega), if_neg (by omega)]
      exact ⟨h1, h2⟩
theorem s_36 {d c : Nat} {h : zH} {R : Int → Nat → zH → Prop} {X : Nat → Nat → zH → Prop} {t l p : Int} {r : zH} {f : Int → Int} {N : Nat} {P : List (Int × Int)} (cd : cD t l p h r f N P) (wd : wD r f N P) (k : ∀ h', (∀ o j, ¬ cSc o j → h' o j = h o j) → R (mLb (mG0 r f N P (-1) 0 6) 4) c h') : zCl (d + 7) 36 [(2, 1)] c h R X := by
  refine b_36 (s_19 cd wd (fun h' f1 g => ?_))
  have kk := k h' f1
  have g3 := g.2.2.1
  generalize mG0 r f N P (-1) 0 = s at *
  refine zDown (W := fun m => zWp (d + 7) 36 10 [(2, 1), (0, mLb (s 6) m), (0, mMo (s 6) m), (0, (m : Int))] [] (zTS c h') (zQ 1 R X)) 4 ?_ ?_ 0 (Nat.zero_le _)
  · exact b_36_10 ⟨fun _ => kk, fun q => by omega⟩
  · intro m hm ih
    rw [mLb, mMo] at ih
    unfold zMx at ih
    refine b_36_10 ?_
    rw [(g3 m (by omega) (by omega)).1, w32_s (by omega)]
    refine ⟨fun q => by omega, fun _ => ⟨by omega, fun q => ?_, fun q => ⟨by omega, ?_⟩⟩⟩
    · rw [if_neg (by omega), if_neg (by omega)] at ih
      exact ih
    · rw [if_pos q, if_pos q] at ih
      exact ih
/-- the first line of a deed, of the last m of n lines -/
def mLi (P : List (Int × Int)) (e : Int) : Nat → Int
  | 0 => -1
  | m + 1 => if pD P ((P.length : Int) - (m + 1 : Nat)) = e then (P.length : Int) - (m + 1 : Nat) else mLi P e m
theorem mLi_r {P : List (Int × Int)} {e : Int} : ∀ m : Nat, m ≤ P.length → (mLi P e m = -1 ∧ ∀ j : Int, (P.length : Int) - m ≤ j → j < P.length → pD P j ≠ e) ∨ ((P.length : Int) - m ≤ mLi P e m ∧ mLi P e m < P.length ∧ pD P (mLi P e m) = e)
  | 0, _ => Or.inl ⟨rfl, fun j a b => by omega⟩
  | m + 1, hm => by
    rw [mLi]
    by_cases q : pD P ((P.length : Int) - (m + 1 : Nat)) = e
    · rw [if_pos q]
      exact Or.inr ⟨by omega, by omega, q⟩
    · rw [if_neg q]
      rcases mLi_r (P := P) (e := e) m (by omega) with ⟨a, b⟩ | ⟨a, b, c⟩
      · refine Or.inl ⟨a, fun j j1 j2 => ?_⟩
        by_cases ej : j = (P.length : Int) - (m + 1 : Nat)
        · rw [ej]
          exact q
        · exact b j (by omega) j2
      · exact Or.inr ⟨by omega, b, c⟩
theorem s_40 {d c : Nat} {h : zH} {R : Int → Nat → zH → Prop} {X : Nat → Nat → zH → Prop} {p e : Int} {P : List (Int × Int)} (hp : zIsP p) (cp : cPlan p h P) (h12 : P.length ≤ 12) (k : R (mLi P e P.length) c h) : zCl d 40 [(2, p), (0, e)] c h R X := by
  refine b_40 hp ?_
  have key : ∀ m : Nat, m ≤ P.length → R (mLi P e m) c h → zWp d 40 2 [(2, p), (0, e), (0, (P.length : Int) - m)] [] (zTS c h) (zQ 1 R X) := by
    intro m
    induction m with
    | zero =>
      intro _ k
      refine b_40_2 hp ⟨fun _ => k, fun q => ?_⟩
      rw [cp.1] at q
      omega
    | succ m ih =>
      intro hm k
      have hc := cp.2 ((P.length : Int) - (m + 1 : Nat)) (by omega) (by omega)
      rw [mLi] at k
      refine b_40_2 hp ?_
      rw [cp.1, hc.1]
      refine ⟨fun q => by omega, fun _ => ⟨by omega, fun q => ?_, fun q => ?_⟩⟩
      · rw [if_neg q] at k
        rw [w32_e (by omega) (by omega), show (P.length : Int) - (m + 1 : Nat) + 1 = (P.length : Int) - m by omega]
        exact ih (by omega) k
      · rw [if_pos q] at k
        exact k
  have := key P.length (Nat.le_refl _) k
  rw [show (P.length : Int) - P.length = 0 by omega] at this
  exact this
/-- the first of the last m of n minutes more by which the end comes later, less 1; n if none -/
def mSr (T : Int → Int) (told : Int) (n : Nat) : Nat → Int
  | 0 => n
  | m + 1 => if told < T ((n : Int) - m) then (n : Int) - m - 1 else mSr T told n m
/-- slack of a deed up to n -/
def mSl (r : zH) (f : Int → Int) (N : Nat) (P : List (Int × Int)) (e : Int) (n : Nat) : Int := if mLi P e P.length = -1 then -1 else if mG0 r f N P (-1) 0 3 (mLi P e P.length) = -1 then -1 else mSr (fun x => mG0 r f N P (mLi P e P.length) x 0 0) (mG0 r f N P (-1) 0 0 0) n n
theorem mGo_x0 {r : zH} {f : Int → Int} {N : Nat} {P : List (Int × Int)} {sp xl xl' sd : Int} : ∀ i : Nat, mGo r f N P sp xl 0 sd i = mGo r f N P sp xl' 0 sd i
  | 0 => rfl
  | i + 1 => by
    rw [mGo_s, mGo_s, mGo_x0 (xl := xl) (xl' := xl') i]
    have e : ∀ s, gN r f N P sp xl 0 s i = gN r f N P sp xl' 0 s i := by
      intro s
      unfold gN
      repeat' split
      all_goals omega
    unfold mGo1
    rw [e]
theorem s_39 {d c : Nat} {h : zH} {R : Int → Nat → zH → Prop} {X : Nat → Nat → zH → Prop} {t l p e : Int} {r : zH} {f : Int → Int} {N : Nat} {P : List (Int × Int)} {n : Nat} (hn : n ≤ 99) (cd : cD t l p h r f N P) (wd : wD r f N P) (k : ∀ h', (∀ o j, ¬ cSc o j → h' o j = h o j) → R (mSl r f N P e n) c h') : zCl (d + 6) 39 [(2, 1), (0, e), (0, (n : Int))] c h R X := by
  obtain ⟨e5, e7, e9⟩ := cd.1
  obtain ⟨ht, hl, hp⟩ := cd.2.1
  have h12 := wd.2.2.1
  have hr := mLi_r (P := P) (e := e) P.length (Nat.le_refl _)
  unfold mSl at k
  refine b_39 ht hl hp ⟨e9, s_40 hp cd.2.2.2.2 h12 ⟨fun q => ⟨e5, e7, e9, ?_⟩, fun q => ?_⟩⟩
  · have hr : 0 ≤ mLi P e P.length ∧ mLi P e P.length < P.length := by
      rcases hr with w | w
      · exact absurd w.1 q
      · omega
    refine s_21d (xl := mLi P e P.length) (xb := 0) (cD_fr (fun o j q => cSc4 o j (cCs q)) cd) wd ?_ ?_ ?_ (by decide) (fun h1 f1 g => ?_)
    · rw [hw_ne (by omega), hw_ne (by omega), hw_eq ⟨rfl, rfl⟩]
    · rw [hw_ne (by omega), hw_eq ⟨rfl, rfl⟩]
    · rw [hw_eq ⟨rfl, rfl⟩]
    · have fr : ∀ o j, ¬ cSc o j → h1 o j = h o j := fun o j q => by rw [f1 o j q, cSc4 o j q]
      have ex : mG0 r f N P (mLi P e P.length) 0 = mG0 r f N P (-1) 0 := mGo_x0 _
      rw [ex] at g
      rw [(g.2.2.2 _ hr.1 hr.2).1, g.1]
      refine ⟨by omega, fun q1 => ?_, fun q1 => ?_⟩
      · have key : ∀ m : Nat, m ≤ n → ∀ h2, (∀ o j, ¬ cSc o j → h2 o j = h o j) → (∀ h', (∀ o j, ¬ cSc o j → h' o j = h o j) → R (mSr (fun x => mG0 r f N P (mLi P e P.length) x 0 0) (mG0 r f N P (-1) 0 0 0) n m) c h') → zWp (d + 6) 39 71 [(2, 1), (0, e), (0, (n : Int)), (0, mLi P e P.length), (0, mG0 r f N P (-1) 0 0 0), (0, (n : Int) - m + 1)] [] (zTS c h2) (zQ 1 R X) := by
          intro m
          induction m with
          | zero =>
            intro _ h2 fr2 k2
            exact b_39_71 ht hl hp ⟨fun _ => k2 h2 fr2, fun q => by omega⟩
          | succ m ih =>
            intro hm h2 fr2 k2
            have e1 : (n : Int) - ((m + 1 : Nat) : Int) + 1 = (n : Int) - m := by omega
            rw [e1]
            have cd2 : cD t l p h2 r f N P := cD_fr (fun o j q => fr2 o j (cCs q)) cd
            obtain ⟨e5', e7', e9'⟩ := cd2.1
            refine b_39_71 ht hl hp ⟨fun q => by omega, fun _ => ⟨e5', e7', e9', s_21d (xl := mLi P e P.length) (xb := (n : Int) - m) (cD_fr (fun o j q => cSc4 o j (cCs q)) cd2) wd ?_ ?_ ?_ (by omega) (fun h3 f3 g3 => ?_)⟩⟩
            · rw [hw_ne (by omega), hw_ne (by omega), hw_eq ⟨rfl, rfl⟩]
            · rw [hw_ne (by omega), hw_eq ⟨rfl, rfl⟩]
            · rw [hw_eq ⟨rfl, rfl⟩]
            · have fr3 : ∀ o j, ¬ cSc o j → h3 o j = h o j := fun o j q => by rw [f3 o j q, cSc4 o j q, fr2 o j q]
              rw [g3.1]
              refine ⟨fun q => ?_, fun q => ?_⟩
              · rw [w32_e (by omega) (by omega)]
                refine ih (by omega) h3 fr3 (fun h' fr' => ?_)
                have := k2 h' fr'
                rw [mSr, if_neg (by omega)] at this
                exact this
              · have := k2 h3 fr3
                rw [mSr, if_pos q] at this
                rw [w32_e (by omega) (by omega)]
                exact this
        have := key n (Nat.le_refl _) h1 fr (fun h' fr' => ?_)
        · rw [show (n : Int) - n + 1 = 1 by omega] at this
          exact this
        · have := k h' fr'
          rw [if_neg q, if_neg q1] at this
          exact this
      · have := k h1 fr
        rw [if_neg q, if_pos q1] at this
        exact this
  · have := k h (fun _ _ _ => rfl)
    rw [if_pos q] at this
    exact this
/-- the urgent deeds among the first n -/
def mUr (r : zH) (f : Int → Int) (N : Nat) (P : List (Int × Int)) : Nat → Int
  | 0 => 0
  | n + 1 => if mSl r f N P n 1 = 0 then zOr (mUr r f N P n) (zShl 1 n) else mUr r f N P n
theorem s_37 {d c : Nat} {h : zH} {R : Int → Nat → zH → Prop} {X : Nat → Nat → zH → Prop} {t l p : Int} {r : zH} {f : Int → Int} {N : Nat} {P : List (Int × Int)} (cd : cD t l p h r f N P) (wd : wD r f N P) (k : ∀ h', (∀ o j, ¬ cSc o j → h' o j = h o j) → R (mUr r f N P (r 0 1).toNat) c h') : zCl (d + 7) 37 [(2, 1)] c h R X := by
  obtain ⟨ht, hl, hp⟩ := cd.2.1
  have hd := wr_d wd.1
  refine b_37 ht ?_
  refine zDown (W := fun n => ∀ h2, (∀ o j, ¬ cSc o j → h2 o j = h o j) → zWp (d + 7) 37 4 [(2, 1), (0, mUr r f N P n), (0, (n : Int))] [] (zTS c h2) (zQ 1 R X)) (r 0 1).toNat ?_ ?_ 0 (Nat.zero_le _) h (fun _ _ _ => rfl)
  · intro h2 fr
    have cd2 : cD t l p h2 r f N P := cD_fr (fun o j q => fr o j (cCs q)) cd
    refine b_37_4 ht ⟨cd2.1.1, fun _ => k h2 fr, fun q => ?_⟩
    rw [cr_d cd2.2.2.1] at q
    omega
  · intro n hn ih h2 fr
    have cd2 : cD t l p h2 r f N P := cD_fr (fun o j q => fr o j (cCs q)) cd
    rw [mUr] at ih
    refine b_37_4 ht ⟨cd2.1.1, fun q => ?_, fun _ => s_39 (n := 1) (by decide) cd2 wd (fun h3 fr3 => ⟨fun q => ?_, fun q => ?_⟩)⟩
    · rw [cr_d cd2.2.2.1] at q
      omega
    · rw [if_neg q] at ih
      rw [w32_s (by omega)]
      exact ih h3 (fun o j q => by rw [fr3 o j q, fr o j q])
    · rw [if_pos q] at ih
      rw [w32_s (by omega)]
      exact ih h3 (fun o j q => by rw [fr3 o j q, fr o j q])
