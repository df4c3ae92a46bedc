/-! frames; how a plan goes -/
def mLaw (h : zH) (f : Int → Int) (N : Nat) : Prop := (h 113 43 = 0 ∧ N = 1 ∧ f 0 = 1000) ∨ (h 113 43 = N ∧ 1 ≤ N ∧ ∀ k : Int, 0 ≤ k → k < N → (f k < 1000 → h 134 k = 0 ∧ h 135 k = f k) ∧ (1000 ≤ f k → f k < 1006 → h 134 k = 1 ∧ h 135 k = f k - 1000) ∧ (1006 ≤ f k → h 134 k = f k - 1004))
def mRo (o j : Int) : Prop := (o = 113 ∧ 32 ≤ j ∧ j ≤ 36) ∨ (122 ≤ o ∧ o ≤ 127) ∨ o = 129 ∨ o = 131
theorem mRoad_fr {h h' r : zH} (fr : ∀ o j, mRo o j → h' o j = h o j) (m : mRoad h r) : mRoad h' r := by
  refine ⟨?_, ?_, ?_, ?_, ?_, ?_, fun k a b => ?_, fun k a b => ?_, fun k a b => ?_, fun k a b => ?_, fun k a b => ?_, fun k a b => ?_, fun k a b => ?_⟩
  · rw [fr _ _ (by unfold mRo; omega)]; exact mr_p m
  · rw [fr _ _ (by unfold mRo; omega)]; exact mr_d m
  · rw [fr _ _ (by unfold mRo; omega)]; exact mr_b m
  · rw [fr _ _ (by unfold mRo; omega)]; exact mr_n m
  · rw [fr _ _ (by unfold mRo; omega)]; exact mr_c m
  · rw [fr _ _ (by unfold mRo; omega), fr _ _ (by unfold mRo; omega), fr _ _ (by unfold mRo; omega), fr _ _ (by unfold mRo; omega), fr _ _ (by unfold mRo; omega)]; exact mr_told m
  · rw [fr _ _ (by unfold mRo; omega)]; exact mr_strong m k a b
  · rw [fr _ _ (by unfold mRo; omega), fr _ _ (by unfold mRo; omega), fr _ _ (by unfold mRo; omega), fr _ _ (by unfold mRo; omega), fr _ _ (by unfold mRo; omega)]; exact mr_deed m k a b
  · rw [fr _ _ (by unfold mRo; omega)]; exact mr_bears m k a b
  · rw [fr _ _ (by unfold mRo; omega)]; exact mr_board m k a b
  · rw [fr _ _ (by unfold mRo; omega)]; exact mr_nut m k a b
  · rw [fr _ _ (by unfold mRo; omega), fr _ _ (by unfold mRo; omega), fr _ _ (by unfold mRo; omega), fr _ _ (by unfold mRo; omega)]; exact mr_cause m k a b
  · rw [fr _ _ (by unfold mRo; omega)]; exact mr_rain m k a b
theorem cRoad_fr {t : Int} {h h' r : zH} (fr : ∀ o j, t ≤ o → o ≤ t + 19 → h' o j = h o j) (m : cRoad t h r) : cRoad t h' r := by
  refine ⟨?_, ?_, ?_, ?_, ?_, ?_, ?_, ?_, ?_, ?_, fun k a b => ?_, fun k a b => ?_, fun k a b => ?_, fun k a b => ?_, fun k a b => ?_, fun k a b => ?_, fun k a b => ?_⟩
  · rw [fr _ _ (by omega) (by omega)]; exact cr_p m
  · rw [fr _ _ (by omega) (by omega)]; exact cr_d m
  · rw [fr _ _ (by omega) (by omega)]; exact cr_b m
  · rw [fr _ _ (by omega) (by omega)]; exact cr_n m
  · rw [fr _ _ (by omega) (by omega)]; exact cr_c m
  · rw [fr _ _ (by omega) (by omega)]; exact cr_load m
  · rw [fr _ _ (by omega) (by omega)]; exact cr_stops m
  · rw [fr _ _ (by omega) (by omega)]; exact cr_loses m
  · rw [fr _ _ (by omega) (by omega)]; exact cr_soft m
  · rw [fr _ _ (by omega) (by omega)]; exact cr_every m
  · rw [fr _ _ (by omega) (by omega)]; exact cr_strong m k a b
  · rw [fr _ _ (by omega) (by omega), fr _ _ (by omega) (by omega), fr _ _ (by omega) (by omega), fr _ _ (by omega) (by omega), fr _ _ (by omega) (by omega), fr _ _ (by omega) (by omega), fr _ _ (by omega) (by omega)]; exact cr_deed m k a b
  · rw [fr _ _ (by omega) (by omega)]; exact cr_bears m k a b
  · rw [fr _ _ (by omega) (by omega)]; exact cr_board m k a b
  · rw [fr _ _ (by omega) (by omega)]; exact cr_nut m k a b
  · rw [fr _ _ (by omega) (by omega), fr _ _ (by omega) (by omega), fr _ _ (by omega) (by omega), fr _ _ (by omega) (by omega)]; exact cr_cause m k a b
  · rw [fr _ _ (by omega) (by omega)]; exact cr_rain m k a b
def mLo (o j : Int) : Prop := (o = 113 ∧ j = 43) ∨ o = 134 ∨ o = 135
theorem mLaw_fr {h h' : zH} {f : Int → Int} {N : Nat} (fr : ∀ o j, mLo o j → h' o j = h o j) (m : mLaw h f N) : mLaw h' f N := by
  rcases m with ⟨m1, m2⟩ | ⟨m1, m2, m3⟩
  · refine Or.inl ⟨?_, m2⟩
    rw [fr _ _ (by unfold mLo; omega)]
    exact m1
  · refine Or.inr ⟨?_, m2, fun k a b => ?_⟩
    · rw [fr _ _ (by unfold mLo; omega)]
      exact m1
    · rw [fr _ _ (by unfold mLo; omega), fr _ _ (by unfold mLo; omega)]
      exact m3 k a b
theorem cLaw_fr {l : Int} {h h' : zH} {f : Int → Int} {N : Nat} (fr : ∀ o j, o = l ∨ o = l + 1 → h' o j = h o j) (m : cLaw l h f N) : cLaw l h' f N :=
  ⟨by rw [fr _ _ (by omega)]; exact m.1, fun k a b => by rw [fr _ _ (by omega)]; exact m.2 k a b⟩
/-! how a plan goes -/
def pD (P : List (Int × Int)) (k : Int) : Int := (P.getD k.toNat (0, 0)).1
def pB (P : List (Int × Int)) (k : Int) : Int := (P.getD k.toNat (0, 0)).2
def cPlan (p : Int) (h : zH) (P : List (Int × Int)) : Prop := h p 5 = P.length ∧ ∀ k : Int, 0 ≤ k → k < P.length → h (p + 4) k = pD P k ∧ h (p + 5) k = pB P k
def mPlan (h : zH) (P : List (Int × Int)) : Prop := h 113 49 = P.length ∧ ∀ k : Int, 0 ≤ k → k < P.length → h 139 (2 * k) = pD P k ∧ h 139 (2 * k + 1) = pB P k
def wPlan (r : zH) (P : List (Int × Int)) : Prop := P.length ≤ 12 ∧ (∀ k : Int, 0 ≤ k → k < P.length → (0 ≤ pD P k ∧ pD P k < r 0 1) ∧ (0 ≤ pB P k ∧ pB P k < 2 ^ (r 0 0).toNat)) ∧ ∀ i j : Int, 0 ≤ i → i < j → j < P.length → pD P i ≠ pD P j
def mNext (s : Int) : Int := w32 (w32 (s * 1103515245) + 12345)
def mDraw (s : Int) : Int := Int.tmod (zAnd (zShr (mNext s) 16) 32767) 16
def gB (r : zH) (P : List (Int × Int)) (s : zH) (i : Int) : Int := mEar r (s 1) (s 2) (pD P i) (pB P i)
def gN (r : zH) (f : Int → Int) (N : Nat) (P : List (Int × Int)) (sp xl xb : Int) (s : zH) (i : Int) : Int := if mDraw (s 0 2) < sp then 2 * mLf r f N (pD P i) (pB P i) (gB r P s i) else if i = xl then mLf r f N (pD P i) (pB P i) (gB r P s i) + xb else mLf r f N (pD P i) (pB P i) (gB r P s i)
def gStep (e x i b n w : Int) (a : Int) (s : zH) : zH := fun o k =>
  if o = 0 then (if k = 0 then zMx (s 0 0) (b + n) else if k = 1 then s 0 1 + a else if k = 2 then mNext (s 0 2) else s 0 k)
  else if o = 1 then (if k = e then b + n else s 1 k)
  else if o = 2 then (if zb x k = 1 then b + n else s 2 k)
  else if o = 3 then (if k = i then b else s 3 k)
  else if o = 4 then (if k = i then b + n else s 4 k)
  else if o = 5 then (if zb x k = 1 then s 5 k + n else s 5 k)
  else (if zb x k = 1 then s 6 k + w else s 6 k)
def mGo1 (r : zH) (f : Int → Int) (N : Nat) (P : List (Int × Int)) (sp xl xb : Int) (s : zH) (i : Int) : zH :=
  if gB r P s i = -1 then hw (hw s 3 i (-1)) 4 i (-1)
  else gStep (pD P i) (pB P i) i (gB r P s i) (gN r f N P sp xl xb s i) (mWm r (pD P i) (gB r P s i) (gB r P s i + gN r f N P sp xl xb s i)) (if mDraw (s 0 2) < sp then 1 else 0) s
/-- rows: 0 latest, again, seed; 1 ends of deeds; 2 ends of people; 3 begins; 4 ends; 5 busy; 6 wet -/
def mGo (r : zH) (f : Int → Int) (N : Nat) (P : List (Int × Int)) (sp xl xb sd : Int) : Nat → zH
  | 0 => fun o k => if o = 1 then -1 else if o = 0 ∧ k = 2 then sd else 0
  | i + 1 => mGo1 r f N P sp xl xb (mGo r f N P sp xl xb sd i) i
theorem mDn_congr {E E' g : Int → Int} : ∀ {n : Nat}, (∀ k : Nat, k < n → E k = E' k) → mDn E g n = mDn E' g n
  | 0, _ => rfl
  | n + 1, h => by rw [mDn, mDn, mDn_congr (fun k hk => h k (by omega)), h n (by omega)]
theorem mMx_congr {F F' g : Int → Int} : ∀ {n : Nat}, (∀ k : Nat, k < n → F k = F' k) → mMx F g n = mMx F' g n
  | 0, _ => rfl
  | n + 1, h => by rw [mMx, mMx, mMx_congr (fun k hk => h k (by omega)), h n (by omega)]
theorem mBeg_congr {r : zH} {E E' F F' : Int → Int} {e x : Int} (wr : wRoad r) (he : e < r 0 1) (h1 : ∀ k : Int, 0 ≤ k → k < 12 → E k = E' k) (h2 : ∀ k : Int, 0 ≤ k → k < 4 → F k = F' k) : mBeg r E F e x = mBeg r E' F' e x := by
  have hp := wr_p wr
  have hd := wr_d wr
  unfold mBeg
  rw [mDn_congr (fun k hk => h1 k (by omega) (by omega)), mMx_congr (fun k hk => h2 k (by omega) (by omega))]
theorem mEar_congr {r : zH} {E E' F F' : Int → Int} {e x : Int} (wr : wRoad r) (he : e < r 0 1) (h1 : ∀ k : Int, 0 ≤ k → k < 12 → E k = E' k) (h2 : ∀ k : Int, 0 ≤ k → k < 4 → F k = F' k) : mEar r E F e x = mEar r E' F' e x := by
  unfold mEar
  rw [mBeg_congr wr he h1 h2]
theorem mDn_le {E g : Int → Int} {b : Int} (hb : 0 ≤ b) : ∀ {n : Nat}, (∀ k : Nat, k < n → E k ≤ b) → mDn E g n ≤ b
  | 0, _ => by rw [mDn]; exact hb
  | n + 1, h => by
    have h1 := mDn_le hb (n := n) (g := g) (fun k hk => h k (by omega))
    have h2 := h n (by omega)
    rw [mDn]
    unfold zMx
    repeat' split
    all_goals omega
theorem mMx_le {F g : Int → Int} {b : Int} (hb : 0 ≤ b) : ∀ {n : Nat}, (∀ k : Nat, k < n → F k ≤ b) → mMx F g n ≤ b
  | 0, _ => by rw [mMx]; exact hb
  | n + 1, h => by
    have h1 := mMx_le hb (n := n) (g := g) (fun k hk => h k (by omega))
    have h2 := h n (by omega)
    rw [mMx]
    unfold zMx
    repeat' split
    all_goals omega
theorem mBeg_r {r : zH} {E F : Int → Int} {e x b : Int} (wr : wRoad r) (he : e < r 0 1) (hb : 0 ≤ b) (h1 : ∀ k : Int, 0 ≤ k → k < 12 → E k ≤ b) (h2 : ∀ k : Int, 0 ≤ k → k < 4 → F k ≤ b) : mBeg r E F e x = -1 ∨ (0 ≤ mBeg r E F e x ∧ mBeg r E F e x ≤ b) := by
  have hp := wr_p wr
  have hd := wr_d wr
  unfold mBeg
  have a1 := mDn_le (E := E) (g := zb (r 6 e)) hb (n := e.toNat) (fun k hk => h1 k (by omega) (by omega))
  have a2 := mMx_le (F := F) (g := zb x) hb (n := (r 0 0).toNat) (fun k hk => h2 k (by omega) (by omega))
  have a3 := mDn_ge E (zb (r 6 e)) e.toNat
  have a4 := mMx_ge F (zb x) (r 0 0).toNat
  unfold zMx
  repeat' split
  all_goals omega
theorem mEar_r {r : zH} {E F : Int → Int} {e x b : Int} (wr : wRoad r) (he : e < r 0 1) (hb : 0 ≤ b) (h1 : ∀ k : Int, 0 ≤ k → k < 12 → E k ≤ b) (h2 : ∀ k : Int, 0 ≤ k → k < 4 → F k ≤ b) : mEar r E F e x = -1 ∨ (0 ≤ mEar r E F e x ∧ mEar r E F e x ≤ b) := by
  unfold mEar
  split
  · exact mBeg_r wr he hb h1 h2
  · exact Or.inl rfl
theorem mWm_r {r : zH} (wr : wRoad r) (e a b : Int) : 0 ≤ mWm r e a b ∧ mWm r e a b ≤ 241 := by
  have := mRn_r wr a b
  unfold mWm
  split <;> omega
theorem zAndm_r (x : Int) : 0 ≤ zAnd x 32767 ∧ zAnd x 32767 ≤ 32767 := by
  unfold zAnd
  have e : ((Int32.ofInt x &&& Int32.ofInt 32767).toBitVec) = BitVec.ofNat 32 ((Int32.ofInt x).toBitVec.toNat &&& 32767) := by
    rw [Int32.toBitVec_and]
    apply BitVec.eq_of_toNat_eq
    rw [BitVec.toNat_and, show (Int32.ofInt 32767).toBitVec.toNat = 32767 from rfl, BitVec.toNat_ofNat]
    have : (Int32.ofInt x).toBitVec.toNat &&& 32767 ≤ 32767 := Nat.and_le_right
    omega
  have : (Int32.ofInt x).toBitVec.toNat &&& 32767 ≤ 32767 := Nat.and_le_right
  rw [zn_toInt (by omega) e]
  omega
theorem mDraw_r (s : Int) : 0 ≤ mDraw s ∧ mDraw s < 16 := by
  unfold mDraw
  have := zAndm_r (zShr (mNext s) 16)
  rw [Int.tmod_eq_emod_of_nonneg this.1]
  omega
/-- bounds of the state ahead of line i -/
def gOk (s : zH) (i : Int) : Prop := (0 ≤ s 0 0 ∧ s 0 0 ≤ 400 * i) ∧ (0 ≤ s 0 1 ∧ s 0 1 ≤ i) ∧ (∀ k, -1 ≤ s 1 k ∧ s 1 k ≤ 400 * i) ∧ (∀ k, 0 ≤ s 2 k ∧ s 2 k ≤ 400 * i) ∧ (∀ k, 0 ≤ s 5 k ∧ s 5 k ≤ 400 * i) ∧ (∀ k, 0 ≤ s 6 k ∧ s 6 k ≤ 241 * i)
theorem gB_r {r : zH} {P : List (Int × Int)} {s : zH} {i : Int} (wr : wRoad r) (wp : wPlan r P) (hi : 0 ≤ i ∧ i < P.length) (g : gOk s i) : gB r P s i = -1 ∨ (0 ≤ gB r P s i ∧ gB r P s i ≤ 400 * i) :=
  mEar_r wr (wp.2.1 i hi.1 hi.2).1.2 (by omega) (fun k _ _ => (g.2.2.1 k).2) (fun k _ _ => (g.2.2.2.1 k).2)
theorem gN_r {r : zH} {f : Int → Int} {N : Nat} {P : List (Int × Int)} {sp xl xb : Int} {s : zH} {i : Int} (hx : 0 ≤ xb ∧ xb ≤ 100) : 1 ≤ gN r f N P sp xl xb s i ∧ gN r f N P sp xl xb s i ≤ 200 := by
  unfold gN
  have : 1 ≤ mLf r f N (pD P i) (pB P i) (gB r P s i) ∧ mLf r f N (pD P i) (pB P i) (gB r P s i) ≤ 99 := zCla_r _
  repeat' split
  all_goals omega
theorem mGo_ok {r : zH} {f : Int → Int} {N : Nat} {P : List (Int × Int)} {sp xl xb sd : Int} (wr : wRoad r) (wp : wPlan r P) (hx : 0 ≤ xb ∧ xb ≤ 100) : ∀ i : Nat, i ≤ P.length → gOk (mGo r f N P sp xl xb sd i) i := by
  intro i
  induction i with
  | zero =>
    intro _
    unfold gOk mGo
    simp
  | succ i ih =>
    intro hi
    have g := ih (by omega)
    rw [mGo]
    have hb := gB_r wr wp (i := i) (by omega) g
    have hn := gN_r (r := r) (f := f) (N := N) (P := P) (sp := sp) (xl := xl) (s := mGo r f N P sp xl xb sd i) (i := i) hx
    generalize mGo r f N P sp xl xb sd i = s at g hb hn
    unfold mGo1
    obtain ⟨g1, g2, g3, g4, g5, g6⟩ := g
    split
    · refine ⟨?_, ?_, fun k => ?_, fun k => ?_, fun k => ?_, fun k => ?_⟩
      · rw [hw_ne (by omega), hw_ne (by omega)]; omega
      · rw [hw_ne (by omega), hw_ne (by omega)]; omega
      · have := g3 k; rw [hw_ne (by omega), hw_ne (by omega)]; omega
      · have := g4 k; rw [hw_ne (by omega), hw_ne (by omega)]; omega
      · have := g5 k; rw [hw_ne (by omega), hw_ne (by omega)]; omega
      · have := g6 k; rw [hw_ne (by omega), hw_ne (by omega)]; omega
    · rename_i q
      have hb := hb.resolve_left q
      have hw := mWm_r wr (pD P i) (gB r P s i) (gB r P s i + gN r f N P sp xl xb s i)
      refine ⟨?_, ?_, fun k => ?_, fun k => ?_, fun k => ?_, fun k => ?_⟩
      · show 0 ≤ zMx _ _ ∧ zMx _ _ ≤ _
        unfold zMx
        split <;> omega
      · show 0 ≤ s 0 1 + _ ∧ s 0 1 + _ ≤ _
        split <;> omega
      · have := g3 k
        show -1 ≤ (if k = _ then _ else s 1 k) ∧ (if k = _ then _ else s 1 k) ≤ _
        split <;> omega
      · have := g4 k
        show 0 ≤ (if zb _ k = 1 then _ else s 2 k) ∧ (if zb _ k = 1 then _ else s 2 k) ≤ _
        split <;> omega
      · have := g5 k
        show 0 ≤ (if zb _ k = 1 then _ else s 5 k) ∧ (if zb _ k = 1 then _ else s 5 k) ≤ _
        split <;> omega
      · have := g6 k
        show 0 ≤ (if zb _ k = 1 then _ else s 6 k) ∧ (if zb _ k = 1 then _ else s 6 k) ≤ _
        split <;> omega
