/-! the class: a plan goes -/
theorem s_9 {d c : Nat} {h : zH} {R : Int → Nat → zH → Prop} {X : Nat → Nat → zH → Prop} {o x n : Int} (ho : (zK o).1 = 50 ∧ ((zK o).2 : Int) = n) (hn : n < 10000) (k : ∀ h', (∀ a j, a ≠ o → h' a j = h a j) → (∀ j : Int, 0 ≤ j → j < n → h' o j = x) → R 0 c h') : zCl d 9 [(2, o), (0, x)] c h R X := by
  refine b_9 ho ?_
  have hn0 : 0 ≤ n := by
    rw [← ho.2]
    omega
  refine zDown (W := fun m => ∀ h', (∀ a j, a ≠ o → h' a j = h a j) → (∀ j : Int, 0 ≤ j → j < (m : Int) → h' o j = x) → zWp d 9 5 [(2, o), (0, x), (0, (m : Int)), (0, n)] [] (zTS c h') (zQ 0 R X)) n.toNat ?_ ?_ 0 (Nat.zero_le _) h (fun _ _ _ => rfl) (fun j a b => by omega)
  · intro h' f1 f2
    exact b_9_5 ho ⟨fun _ => k h' f1 (fun j a b => f2 j a (by omega)), fun q => by omega⟩
  · intro m hm ih h' f1 f2
    refine b_9_5 ho ⟨fun q => by omega, fun _ => ⟨by omega, ?_⟩⟩
    rw [w32_s (by omega)]
    refine ih _ (fun a j ha => by rw [hw_ne (Or.inl ha), f1 a j ha]) (fun j a b => ?_)
    by_cases e : j = m
    · rw [hw_eq ⟨rfl, e⟩]
    · rw [hw_ne (Or.inr e), f2 j a (by omega)]
theorem s_35 {d c : Nat} {h : zH} {R : Int → Nat → zH → Prop} {X : Nat → Nat → zH → Prop} {x b e w : Int} (k : ∀ h', (∀ a j, a ≠ 6 → a ≠ 9 → a ≠ 10 → h' a j = h a j) → (∀ j, 0 ≤ j → j < 4 → h' 6 j = (if zb x j = 1 then e else h 6 j) ∧ h' 9 j = (if zb x j = 1 then w32 (h 9 j + w32 (e - b)) else h 9 j) ∧ h' 10 j = (if zb x j = 1 then w32 (h 10 j + w) else h 10 j)) → R 0 c h') : zCl d 35 [(2, 4), (0, x), (0, b), (0, e), (0, w)] c h R X := by
  refine b_35 ?_
  refine zDown (W := fun m => ∀ h', (∀ a j, a ≠ 6 → a ≠ 9 → a ≠ 10 → h' a j = h a j) → (∀ j : Int, 0 ≤ j → j < (m : Int) → h' 6 j = (if zb x j = 1 then e else h 6 j) ∧ h' 9 j = (if zb x j = 1 then w32 (h 9 j + w32 (e - b)) else h 9 j) ∧ h' 10 j = (if zb x j = 1 then w32 (h 10 j + w) else h 10 j)) → (∀ j : Int, (m : Int) ≤ j → h' 6 j = h 6 j ∧ h' 9 j = h 9 j ∧ h' 10 j = h 10 j) → zWp d 35 3 [(2, 4), (0, x), (0, b), (0, e), (0, w), (0, (m : Int))] [] (zTS c h') (zQ 0 R X)) 4 ?_ ?_ 0 (Nat.zero_le _) h (fun _ _ _ _ _ => rfl) (fun j a b => by omega) (fun j a => ⟨rfl, rfl, rfl⟩)
  · intro h' f1 f2 f3
    exact b_35_3 ⟨fun _ => k h' f1 f2, fun q => by omega⟩
  · intro m hm ih h' f1 f2 f3
    have fm := f3 m (by omega)
    refine b_35_3 ⟨fun q => by omega, fun _ => ⟨fun q => ?_, fun q => ⟨by omega, by omega, by omega, by omega, by omega, ?_⟩⟩⟩
    · have q : ¬ zb x m = 1 := q
      rw [w32_s (by omega)]
      refine ih h' f1 (fun j a b => ?_) (fun j a => f3 j (by omega))
      by_cases ej : j = m
      · subst ej
        rw [if_neg q, if_neg q, if_neg q]
        exact fm
      · exact f2 j a (by omega)
    · have q : zb x m = 1 := q
      rw [w32_s (by omega)]
      refine ih _ (fun a j a1 a2 a3 => by rw [hw_ne (by omega), hw_ne (by omega), hw_ne (by omega), f1 a j a1 a2 a3]) (fun j a b => ?_) (fun j a => ?_)
      · by_cases ej : j = m
        · subst ej
          rw [if_pos q, if_pos q, if_pos q]
          refine ⟨?_, ?_, ?_⟩
          · rw [hw_ne (by omega), hw_ne (by omega), hw_eq ⟨rfl, rfl⟩]
          · rw [hw_ne (by omega), hw_eq ⟨rfl, rfl⟩, fm.2.1]
          · rw [hw_eq ⟨rfl, rfl⟩, fm.2.2]
        · have := f2 j a (by omega)
          rw [hw_ne (by omega), hw_ne (by omega), hw_ne (by omega), hw_ne (by omega), hw_ne (by omega), hw_ne (by omega), hw_ne (by omega), hw_ne (by omega), hw_ne (by omega)]
          exact this
      · have := f3 j (by omega)
        rw [hw_ne (by omega), hw_ne (by omega), hw_ne (by omega), hw_ne (by omega), hw_ne (by omega), hw_ne (by omega), hw_ne (by omega), hw_ne (by omega), hw_ne (by omega)]
        exact this
theorem s_27 {d c : Nat} {h : zH} {R : Int → Nat → zH → Prop} {X : Nat → Nat → zH → Prop} {t l p i : Int} {r : zH} {f : Int → Int} {N : Nat} {P : List (Int × Int)} (ht : zIsR t) (hl : zIsL l) (hp : zIsP p) (cr : cRoad t h r) (wr : wRoad r) (cl : cLaw l h f N) (wl : wLaw f N) (cp : cPlan p h P) (wp : wPlan r P) (hi : 0 ≤ i ∧ i < P.length) (hb : 0 ≤ h 7 i ∧ h 7 i < 1000000) (hx : 0 ≤ h 4 3 ∧ h 4 3 ≤ 100) (ha : 0 ≤ h 4 11 ∧ h 4 11 < 1000)
    (k : ∀ h', (∀ o j, o ≠ l + 2 → o ≠ l + 3 → ¬ (o = 4 ∧ (j = 5 ∨ j = 11)) → h' o j = h o j) → h' 4 5 = mNext (h 4 5) → h' 4 11 = h 4 11 + (if mDraw (h 4 5) < h 4 4 then 1 else 0) → R (if mDraw (h 4 5) < h 4 4 then 2 * mLf r f N (pD P i) (pB P i) (h 7 i) else if i = h 4 2 then mLf r f N (pD P i) (pB P i) (h 7 i) + h 4 3 else mLf r f N (pD P i) (pB P i) (h 7 i)) c h') : zCl (d + 4) 27 [(2, 4), (2, t), (2, l), (2, p), (0, i)] c h R X := by
  have hc := cp.2 i hi.1 hi.2
  have h12 := wp.1
  have hl' := hl
  unfold zIsL at hl'
  have hv : 1 ≤ mLf r f N (pD P i) (pB P i) (h 7 i) ∧ mLf r f N (pD P i) (pB P i) (h 7 i) ≤ 99 := zCla_r _
  refine b_27 ht hl hp ⟨by omega, by omega, by omega, ?_⟩
  rw [hc.1, hc.2]
  refine s_28 hl ht cr wr cl wl (wp.2.1 i hi.1 hi.2).1 hb (fun h1 f1 => b_34 ?_)
  have e5 : h1 4 5 = h 4 5 := f1 _ _ (by omega) (by omega)
  have e2 : h1 4 2 = h 4 2 := f1 _ _ (by omega) (by omega)
  have e3 : h1 4 3 = h 4 3 := f1 _ _ (by omega) (by omega)
  have e4 : h1 4 4 = h 4 4 := f1 _ _ (by omega) (by omega)
  have e11 : h1 4 11 = h 4 11 := f1 _ _ (by omega) (by omega)
  rw [e5]
  rw [hw_ne (by omega), hw_ne (by omega), hw_ne (by omega), hw_ne (by omega), e2, e3, e4, e11]
  have md : Int.tmod (zAnd (zShr (w32 (w32 (h 4 5 * 1103515245) + 12345)) 16) 32767) 16 = mDraw (h 4 5) := rfl
  rw [md]
  refine ⟨fun q => ⟨fun q1 => ?_, fun q1 => ?_⟩, fun q => ?_⟩
  · have := k (hw h1 4 5 (w32 (w32 (h 4 5 * 1103515245) + 12345))) (fun o j o1 o2 o3 => by rw [hw_ne (by omega), f1 o j o1 o2]) (hw_eq ⟨rfl, rfl⟩) (by rw [hw_ne (by omega), e11, if_neg (by omega)]; omega)
    rw [if_neg (by omega), if_neg q1] at this
    exact this
  · have := k (hw h1 4 5 (w32 (w32 (h 4 5 * 1103515245) + 12345))) (fun o j o1 o2 o3 => by rw [hw_ne (by omega), f1 o j o1 o2]) (hw_eq ⟨rfl, rfl⟩) (by rw [hw_ne (by omega), e11, if_neg (by omega)]; omega)
    rw [if_neg (by omega), if_pos q1] at this
    rw [w32_e (by omega) (by omega)]
    exact this
  · have := k (hw (hw h1 4 5 (w32 (w32 (h 4 5 * 1103515245) + 12345))) 4 11 (h 4 11 + 1)) (fun o j o1 o2 o3 => by rw [hw_ne (by omega), hw_ne (by omega), f1 o j o1 o2]) (by rw [hw_ne (by omega)]; exact hw_eq ⟨rfl, rfl⟩) (by rw [hw_eq ⟨rfl, rfl⟩, if_pos q])
    rw [if_pos q] at this
    rw [w32_e (x := 2 * _) (by omega) (by omega), w32_e (x := h 4 11 + 1) (by omega) (by omega)]
    exact this
/-- the class's course holds the state ahead of line i -/
def cGo (h s : zH) (i : Int) : Prop := h 4 10 = s 0 0 ∧ h 4 11 = s 0 1 ∧ h 4 5 = s 0 2 ∧ (∀ k : Int, 0 ≤ k → k < 12 → h 5 k = s 1 k) ∧ (∀ k : Int, 0 ≤ k → k < 4 → h 6 k = s 2 k ∧ h 9 k = s 5 k ∧ h 10 k = s 6 k) ∧ (∀ k : Int, 0 ≤ k → k < i → h 7 k = s 3 k ∧ h 8 k = s 4 k)
theorem cPlan_fr {p : Int} {h h' : zH} {P : List (Int × Int)} (fr : ∀ o j, p ≤ o → o ≤ p + 5 → h' o j = h o j) (m : cPlan p h P) : cPlan p h' P :=
  ⟨by rw [fr _ _ (by omega) (by omega)]; exact m.1, fun k a b => by rw [fr _ _ (by omega) (by omega), fr _ _ (by omega) (by omega)]; exact m.2 k a b⟩
theorem s_21_45 {d c : Nat} {h0 : zH} {R : Int → Nat → zH → Prop} {X : Nat → Nat → zH → Prop} {t l p : Int} {r : zH} {f : Int → Int} {N : Nat} {P : List (Int × Int)} {sp xl xb sd : Int} (ht : zIsR t) (hl : zIsL l) (hp : zIsP p) (cr : cRoad t h0 r) (wr : wRoad r) (cl : cLaw l h0 f N) (wl : wLaw f N) (cp : cPlan p h0 P) (wp : wPlan r P) (hx : 0 ≤ xb ∧ xb ≤ 100) (hsp : h0 4 4 = sp) (hxl : h0 4 2 = xl) (hxb : h0 4 3 = xb)
    (k : ∀ h', (∀ o j, ¬ (4 ≤ o ∧ o ≤ 10) → o ≠ l + 2 → o ≠ l + 3 → h' o j = h0 o j) → (∀ j, j ≠ 5 → j ≠ 10 → j ≠ 11 → h' 4 j = h0 4 j) → cGo h' (mGo r f N P sp xl xb sd P.length) P.length → R 0 c h') :
    ∀ n : Nat, n ≤ P.length → ∀ h, (∀ o j, ¬ (4 ≤ o ∧ o ≤ 10) → o ≠ l + 2 → o ≠ l + 3 → h o j = h0 o j) → (∀ j, j ≠ 5 → j ≠ 10 → j ≠ 11 → h 4 j = h0 4 j) → cGo h (mGo r f N P sp xl xb sd n) n → zWp (d + 5) 21 45 [(2, 4), (2, t), (2, l), (2, p), (0, (n : Int)), (9, 0), (9, 0)] [] (zTS c h) (zQ 0 R X) := by
  have h12 := wp.1
  unfold zIsR at ht
  unfold zIsL at hl
  unfold zIsP at hp
  refine zDown P.length ?_ ?_
  · intro h f1 f2 g
    refine b_21_45 ht hl hp ⟨fun _ => k h f1 f2 g, fun q => ?_⟩
    rw [f1 p 5 (by omega) (by omega) (by omega), cp.1] at q
    omega
  · intro n hn ih h f1 f2 g
    have cr1 : cRoad t h r := cRoad_fr (fun o j a b => f1 o j (by omega) (by omega) (by omega)) cr
    have cl1 : cLaw l h f N := cLaw_fr (fun o j a => f1 o j (by omega) (by omega) (by omega)) cl
    have cp1 : cPlan p h P := cPlan_fr (fun o j a b => f1 o j (by omega) (by omega) (by omega)) cp
    have hc := cp1.2 n (by omega) (by omega)
    have wn := wp.2.1 n (by omega) (by omega)
    have gk := mGo_ok (f := f) (N := N) (sp := sp) (xl := xl) (sd := sd) wr wp hx n (by omega)
    have gb := gB_r wr wp (i := n) (by omega) gk
    have gn := gN_r (r := r) (f := f) (N := N) (P := P) (sp := sp) (xl := xl) (s := mGo r f N P sp xl xb sd n) (i := n) hx
    have hpp := wr_p wr
    have hdd := wr_d wr
    have h16 : (2 : Int) ^ (r 0 0).toNat ≤ 16 := by
      have : (2 : Nat) ^ (r 0 0).toNat ≤ 2 ^ 4 := Nat.pow_le_pow_right (by decide) (by omega)
      exact_mod_cast this
    rw [mGo] at ih
    generalize mGo r f N P sp xl xb sd n = s at g gk gb gn ih
    obtain ⟨g1, g2, g3, g4, g5, g6⟩ := g
    refine b_21_45 ht hl hp ⟨fun q => by rw [cp1.1] at q; omega, fun _ => ⟨by omega, by omega, ?_⟩⟩
    rw [hc.1, hc.2]
    refine s_22 ht zo_5 zo_6 cr1 wr (by omega) wn.1 ?_
    have eb : mEar r (h 5) (h 6) (pD P n) (pB P n) = gB r P s n := mEar_congr wr wn.1.2 g4 (fun k a b => (g5 k a b).1)
    rw [eb, hw_eq ⟨rfl, rfl⟩]
    refine ⟨by omega, by omega, by omega, fun q => ?_, fun q => ⟨by omega, ?_⟩⟩
    · rw [w32_s (by omega), q]
      unfold mGo1 at ih
      rw [if_pos q] at ih
      refine ih _ (fun o j a b c => by rw [hw_ne (by omega), hw_ne (by omega), f1 o j a b c]) (fun j a b c => by rw [hw_ne (by omega), hw_ne (by omega), f2 j a b c]) ⟨?_, ?_, ?_, fun k a b => ?_, fun k a b => ?_, fun k a b => ?_⟩
      · rw [hw_ne (by omega), hw_ne (by omega), hw_ne (by omega), hw_ne (by omega)]; exact g1
      · rw [hw_ne (by omega), hw_ne (by omega), hw_ne (by omega), hw_ne (by omega)]; exact g2
      · rw [hw_ne (by omega), hw_ne (by omega), hw_ne (by omega), hw_ne (by omega)]; exact g3
      · rw [hw_ne (by omega), hw_ne (by omega), hw_ne (by omega), hw_ne (by omega)]; exact g4 k a b
      · rw [hw_ne (by omega), hw_ne (by omega), hw_ne (by omega), hw_ne (by omega), hw_ne (by omega), hw_ne (by omega), hw_ne (by omega), hw_ne (by omega), hw_ne (by omega), hw_ne (by omega), hw_ne (by omega), hw_ne (by omega)]; exact g5 k a b
      · by_cases ek : k = n
        · subst ek
          rw [hw_ne (by omega), hw_eq ⟨rfl, rfl⟩, hw_eq ⟨rfl, rfl⟩, hw_ne (by omega), hw_eq ⟨rfl, rfl⟩, hw_eq ⟨rfl, rfl⟩]
          exact ⟨rfl, rfl⟩
        · rw [hw_ne (by omega), hw_ne (by omega), hw_ne (by omega), hw_ne (by omega), hw_ne (by omega), hw_ne (by omega), hw_ne (by omega), hw_ne (by omega)]
          exact g6 k a (by omega)
    · have gb := gb.resolve_left q
      unfold mGo1 at ih
      rw [if_neg q] at ih
      have hh : ∀ o j, o ≠ 7 → o ≠ 8 → (hw (hw h 7 n (gB r P s n)) 8 n (-1)) o j = h o j := fun o j a b => by rw [hw_ne (by omega), hw_ne (by omega)]
      refine s_27 ht hl hp (cRoad_fr (fun o j a b => hh o j (by omega) (by omega)) cr1) wr (cLaw_fr (fun o j a => hh o j (by omega) (by omega)) cl1) wl (cPlan_fr (fun o j a b => hh o j (by omega) (by omega)) cp1) wp (by omega) ?_ ?_ ?_ ?_
      · rw [hw_ne (by omega), hw_eq ⟨rfl, rfl⟩]
        omega
      · rw [hh _ _ (by omega) (by omega), f2 _ (by omega) (by omega) (by omega), hxb]
        exact hx
      · rw [hh _ _ (by omega) (by omega), g2]
        have := gk.2.1
        omega
      rw [hh 4 5 (by omega) (by omega), hh 4 4 (by omega) (by omega), hh 4 2 (by omega) (by omega), hh 4 3 (by omega) (by omega), hh 4 11 (by omega) (by omega), hw_ne (by omega), hw_eq ⟨rfl, rfl⟩, g3, g2, f2 4 (by omega) (by omega) (by omega), f2 2 (by omega) (by omega) (by omega), f2 3 (by omega) (by omega) (by omega), hsp, hxl, hxb]
      intro h1 r1 r2 r3
      have en : (if mDraw (s 0 2) < sp then 2 * mLf r f N (pD P n) (pB P n) (gB r P s n) else if (n : Int) = xl then mLf r f N (pD P n) (pB P n) (gB r P s n) + xb else mLf r f N (pD P n) (pB P n) (gB r P s n)) = gN r f N P sp xl xb s n := rfl
      rw [en]
      have e7 : h1 7 n = gB r P s n := by rw [r1 _ _ (by omega) (by omega) (by omega), hw_ne (by omega), hw_eq ⟨rfl, rfl⟩]
      have e10 : h1 4 10 = s 0 0 := by rw [r1 _ _ (by omega) (by omega) (by omega), hh _ _ (by omega) (by omega), g1]
      have ew : w32 (gB r P s n + gN r f N P sp xl xb s n) = gB r P s n + gN r f N P sp xl xb s n := w32_e (by omega) (by omega)
      rw [hw_eq ⟨rfl, rfl⟩, ew, e7, e10]
      refine ⟨by omega, by omega, by omega, by omega, by omega, by omega, by omega, by omega, ?_⟩
      have hr1 : ∀ o j, ¬ (4 ≤ o ∧ o ≤ 10) → o ≠ l + 2 → o ≠ l + 3 → h1 o j = h o j := fun o j a b c => by rw [r1 o j b c (by omega), hh o j (by omega) (by omega)]
      refine s_29 ht (cRoad_fr (fun o j a b => by rw [hw_ne (by omega), hw_ne (by omega), hw_ne (by omega), hr1 o j (by omega) (by omega) (by omega)]) cr1) wr wn.1 (s_35 (fun h2 t1 t2 => ?_))
      rw [w32_s (by omega)]
      have wb := mWm_r wr (pD P n) (gB r P s n) (gB r P s n + gN r f N P sp xl xb s n)
      have mx : (if s 0 0 < gB r P s n + gN r f N P sp xl xb s n then gB r P s n + gN r f N P sp xl xb s n else s 0 0) = zMx (s 0 0) (gB r P s n + gN r f N P sp xl xb s n) := rfl
      rw [mx] at t1 t2
      refine ih h2 (fun o j a b c => ?_) (fun j a b c => ?_) ⟨?_, ?_, ?_, fun k a b => ?_, fun k a b => ?_, fun k a b => ?_⟩
      · rw [t1 o j (by omega) (by omega) (by omega), hw_ne (by omega), hw_ne (by omega), hw_ne (by omega), hr1 o j a b c, f1 o j a b c]
      · rw [t1 4 j (by omega) (by omega) (by omega), hw_ne (by omega), hw_ne (by omega), hw_ne (by omega), r1 4 j (by omega) (by omega) (by omega), hh _ _ (by omega) (by omega), f2 j a b c]
      · rw [t1 _ _ (by omega) (by omega) (by omega), hw_eq ⟨rfl, rfl⟩]
        rfl
      · rw [t1 _ _ (by omega) (by omega) (by omega), hw_ne (by omega), hw_ne (by omega), hw_ne (by omega), r3]
        rfl
      · rw [t1 _ _ (by omega) (by omega) (by omega), hw_ne (by omega), hw_ne (by omega), hw_ne (by omega), r2]
        rfl
      · rw [t1 _ _ (by omega) (by omega) (by omega), hw_ne (by omega)]
        show _ = if k = pD P n then _ else s 1 k
        by_cases ek : k = pD P n
        · rw [hw_eq ⟨rfl, ek⟩, if_pos ek]
        · rw [hw_ne (Or.inr ek), if_neg ek, hw_ne (by omega), r1 _ _ (by omega) (by omega) (by omega), hh _ _ (by omega) (by omega), g4 k a b]
      · have hk := t2 k a b
        have hg := g5 k a b
        have o5 := gk.2.2.2.2.1 k
        have o6 := gk.2.2.2.2.2 k
        rw [hw_ne (by omega), hw_ne (by omega), hw_ne (by omega), hw_ne (by omega), hw_ne (by omega), hw_ne (by omega), hw_ne (by omega), hw_ne (by omega), hw_ne (by omega), r1 _ _ (by omega) (by omega) (by omega), r1 _ _ (by omega) (by omega) (by omega), r1 _ _ (by omega) (by omega) (by omega), hh _ _ (by omega) (by omega), hh _ _ (by omega) (by omega), hh _ _ (by omega) (by omega), hg.1, hg.2.1, hg.2.2] at hk
        rw [show gB r P s n + gN r f N P sp xl xb s n - gB r P s n = gN r f N P sp xl xb s n by omega, w32_e (x := gN r f N P sp xl xb s n) (by omega) (by omega), w32_e (x := s 5 k + _) (by omega) (by omega), w32_e (by omega) (by omega)] at hk
        exact hk
      · rw [t1 _ _ (by omega) (by omega) (by omega), t1 _ _ (by omega) (by omega) (by omega), hw_ne (by omega), hw_ne (by omega), hw_ne (by omega), hw_ne (by omega), hw_ne (by omega)]
        show _ = (if k = n then _ else s 3 k) ∧ _ = (if k = n then _ else s 4 k)
        by_cases ek : k = n
        · rw [if_pos ek, if_pos ek, hw_eq ⟨rfl, ek⟩, ek, e7]
          exact ⟨rfl, rfl⟩
        · have hg := g6 k a (by omega)
          rw [if_neg ek, if_neg ek, hw_ne (by omega), r1 _ _ (by omega) (by omega) (by omega), r1 _ _ (by omega) (by omega) (by omega), hw_ne (by omega), hw_ne (by omega), hw_ne (by omega), hw_ne (by omega)]
          exact hg
theorem s_21 {d c : Nat} {h : zH} {R : Int → Nat → zH → Prop} {X : Nat → Nat → zH → Prop} {t l p : Int} {r : zH} {f : Int → Int} {N : Nat} {P : List (Int × Int)} (ht : zIsR t) (hl : zIsL l) (hp : zIsP p) (cr : cRoad t h r) (wr : wRoad r) (cl : cLaw l h f N) (wl : wLaw f N) (cp : cPlan p h P) (wp : wPlan r P) (hx : 0 ≤ h 4 3 ∧ h 4 3 ≤ 100)
    (k : ∀ h', (∀ o j, ¬ (4 ≤ o ∧ o ≤ 10) → o ≠ l + 2 → o ≠ l + 3 → h' o j = h o j) → (∀ j, j ≠ 5 → j ≠ 10 → j ≠ 11 → h' 4 j = h 4 j) → cGo h' (mGo r f N P (h 4 4) (h 4 2) (h 4 3) (h 4 5) P.length) P.length → R 0 c h') : zCl (d + 5) 21 [(2, 4), (2, t), (2, l), (2, p)] c h R X := by
  have ht' := ht
  have hl' := hl
  have hp' := hp
  unfold zIsR at ht'
  unfold zIsL at hl'
  unfold zIsP at hp'
  refine b_21 ht hl hp (s_9 zo_5 (by decide) (fun h1 a1 a2 => s_9 zo_6 (by decide) (fun h2 b1 b2 => s_9 zo_9 (by decide) (fun h3 c1 c2 => s_9 zo_10 (by decide) (fun h4 d1 d2 => ?_)))))
  have fr : ∀ o j, o ≠ 5 → o ≠ 6 → o ≠ 9 → o ≠ 10 → h4 o j = h o j := fun o j q1 q2 q3 q4 => by rw [d1 o j q4, c1 o j q3, b1 o j q2, a1 o j q1]
  have fr2 : ∀ o j, o ≠ 5 → o ≠ 6 → o ≠ 9 → o ≠ 10 → ¬ (o = 4 ∧ (j = 10 ∨ j = 11)) → (hw (hw h4 4 10 0) 4 11 0) o j = h o j := fun o j q1 q2 q3 q4 q5 => by rw [hw_ne (by omega), hw_ne (by omega), fr o j q1 q2 q3 q4]
  refine s_21_45 (h0 := hw (hw h4 4 10 0) 4 11 0) (r := r) (f := f) (N := N) (P := P) (sp := h 4 4) (xl := h 4 2) (xb := h 4 3) (sd := h 4 5) ht hl hp (cRoad_fr (fun o j a b => fr2 o j (by omega) (by omega) (by omega) (by omega) (by omega)) cr) wr (cLaw_fr (fun o j a => fr2 o j (by omega) (by omega) (by omega) (by omega) (by omega)) cl) wl (cPlan_fr (fun o j a b => fr2 o j (by omega) (by omega) (by omega) (by omega) (by omega)) cp) wp hx (fr2 _ _ (by omega) (by omega) (by omega) (by omega) (by omega)) (fr2 _ _ (by omega) (by omega) (by omega) (by omega) (by omega)) (fr2 _ _ (by omega) (by omega) (by omega) (by omega) (by omega)) (fun h' w1 w2 w3 => ?_) 0 (Nat.zero_le _) _ (fun _ _ _ _ _ => rfl) (fun _ _ _ _ => rfl) ⟨?_, ?_, ?_, fun k a b => ?_, fun k a b => ?_, fun k a b => by omega⟩
  · exact k h' (fun o j a b c => by rw [w1 o j a b c, fr2 o j (by omega) (by omega) (by omega) (by omega) (by omega)]) (fun j a b c => by rw [w2 j a b c, fr2 4 j (by omega) (by omega) (by omega) (by omega) (by omega)]) w3
  · rw [hw_ne (by omega), hw_eq ⟨rfl, rfl⟩]
    rfl
  · rw [hw_eq ⟨rfl, rfl⟩]
    rfl
  · rw [fr2 _ _ (by omega) (by omega) (by omega) (by omega) (by omega)]
    rfl
  · rw [hw_ne (by omega), hw_ne (by omega), d1 _ _ (by omega), c1 _ _ (by omega), b1 _ _ (by omega), a2 k a b]
    rfl
  · rw [hw_ne (by omega), hw_ne (by omega), hw_ne (by omega), hw_ne (by omega), hw_ne (by omega), hw_ne (by omega), d2 k a b, d1 _ _ (by omega), d1 _ _ (by omega), c2 k a b, c1 _ _ (by omega), b2 k a b]
    exact ⟨rfl, rfl, rfl⟩
