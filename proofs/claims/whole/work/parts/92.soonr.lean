/-! the soonest plan: the reference, a line -/
def mSq (h : zH) (s : sS) (j gone : Int) : Prop := (∀ e : Int, 0 ≤ e → e < 12 → s.1 e ≠ -1 → h 145 e = s.1 e) ∧ (∀ p : Int, 0 ≤ p → p < 4 → h 144 p = s.2.1 p) ∧ (0 ≤ gone ∧ gone < 32) ∧ (∀ e : Int, 0 ≤ e → e < 5 → (zb gone e = 1 ↔ s.1 e ≠ -1)) ∧ (s.2.2.2.length : Int) = j ∧ ∀ i : Int, 0 ≤ i → i < j → h 152 (2 * i) = pD s.2.2.2 i ∧ h 152 (2 * i + 1) = pB s.2.2.2 i
def mBs (h : zH) (D : Nat) (B : sB) : Prop := (h 113 63 = B.1.1 ∧ h 113 64 = B.1.2) ∧ (B.1.1 ≠ 1000000 → ∀ i : Int, 0 ≤ i → i < D → h 151 (2 * i) = pD B.2 i ∧ h 151 (2 * i + 1) = pB B.2 i) ∧ (0 ≤ B.1.1 ∧ B.1.1 ≤ 1000000 ∧ 0 ≤ B.1.2)
theorem mBs_fr {h h' : zH} {D : Nat} {B : sB} (f1 : h' 113 63 = h 113 63 ∧ h' 113 64 = h 113 64) (f2 : ∀ i, h' 151 i = h 151 i) (w : mBs h D B) : mBs h' D B := by
  obtain ⟨a, b, c⟩ := w
  refine ⟨by rw [f1.1, f1.2]; exact a, fun e i u v => ?_, c⟩
  rw [f2, f2]
  exact b e i u v
def mSf (j o i : Int) : Prop := (o = 113 ∧ (i = 63 ∨ i = 64)) ∨ o = 151 ∨ (o = 152 ∧ 2 * j ≤ i) ∨ (o = 150 ∧ 4 * j ≤ i) ∨ o = 145 ∨ o = 136 ∨ o = 137 ∨ (o = 144 ∧ ¬ (0 ≤ i ∧ i < 4))
theorem sIt_id {β : Type} {g : Int → β → β} : ∀ (n : Nat) (a : Int) (b : β), (∀ j, a ≤ j → j < a + n → g j b = b) → sIt g n a b = b
  | 0, a, b, _ => rfl
  | n + 1, a, b, h => by
    rw [sIt, h a (by omega) (by omega)]
    exact sIt_id n (a + 1) b (fun j h1 h2 => h j (by omega) (by omega))
theorem zGn0 : ∀ m : Nat, m < 16 → ∀ g : Nat, g < 32 → (zAnd m (zXor g (-1)) = 0 → ∀ e : Nat, e < 5 → zb m e = 1 → zb g e = 1) := by decide +kernel
theorem zGn1 : ∀ m : Nat, m < 16 → ∀ g : Nat, g < 32 → (zAnd m (zXor g (-1)) ≠ 0 → ¬ ∀ e : Nat, e < 5 → zb m e = 1 → zb g e = 1) := by decide +kernel
/-- people's ends set, then on -/
theorem s_287_228 {d c : Nat} {R : Int → Nat → zH → Prop} {X : Nat → Nat → zH → Prop} {r h4 : zH} {F : Int → Int} {j e x : Nat} {gone sp wt bg en mo : Int} (mr4 : mRoad h4 r) (wr : wRoad r) (hj : j < 5) (he : e < 12) (hx : x ≤ sNx r) (hw1 : 0 ≤ wt ∧ wt ≤ 100000) (hm1 : 0 ≤ mo ∧ mo ≤ 100000) (hF : ∀ p : Int, 0 ≤ p → p < 4 → h4 144 p = F p) (K : ∀ h5 : zH, (∀ o i : Int, o ≠ 144 → h5 o i = h4 o i) → (∀ p : Int, 0 ≤ p → p < 4 → h5 144 p = if zb x p = 1 then en else F p) → zCl (d + 3) 287 [(2, 113), (0, ((j + 1 : Nat) : Int)), (0, zOr gone (zShl 1 e)), (0, zMx sp en), (0, wt + mo)] c (hw (hw (hw h5 145 e en) 152 (2 * (j : Int)) e) 152 (2 * (j : Int) + 1) x) (fun _ c h => zWp (d + 4) 287 327 [(2, 113), (0, (j : Int)), (0, gone), (0, sp), (0, wt), (0, (e : Int)), (0, (x : Int)), (0, bg), (0, en), (0, mo), (0, 0)] [] (zTS c h) (zQ 0 R X)) X) : zWp (d + 4) 287 228 [(2, 113), (0, (j : Int)), (0, gone), (0, sp), (0, wt), (0, (e : Int)), (0, (x : Int)), (0, bg), (0, en), (0, mo), (0, 0)] [] (zTS c h4) (zQ 0 R X) := by
  have wp := wr_p wr
  have nx := sNx_e wr
  obtain ⟨P, hP⟩ := nat_of wp.1
  have e2j : w32 (2 * (j : Int)) = 2 * j := w32_e (by omega) (by omega)
  have e2k : w32 (2 * (j : Int) + 1) = 2 * j + 1 := w32_e (by omega) (by omega)
  have eP := mr_p mr4
  have pl := zDown (W := fun p : Nat => ∀ h5 : zH, (∀ o i : Int, o ≠ 144 → h5 o i = h4 o i) → (∀ p' : Int, 0 ≤ p' → p' < 4 → h5 144 p' = if p' < p ∧ zb x p' = 1 then en else F p') → zWp (d + 4) 287 228 [(2, 113), (0, (j : Int)), (0, gone), (0, sp), (0, wt), (0, (e : Int)), (0, (x : Int)), (0, bg), (0, en), (0, mo), (0, (p : Int))] [] (zTS c h5) (zQ 0 R X)) P ?_ ?_ 0 (by omega) h4 (fun _ _ _ => rfl) (fun p' u v => by rw [if_neg (by omega), hF p' u v])
  · exact pl
  · intro h5 f5 g5
    have kk := K h5 f5 (fun p u v => by
      rw [g5 p u v]
      by_cases y : zb x p = 1
      · have : p < P := by
          by_cases y2 : p < P
          · exact y2
          · have hx2 : (x : Int) < 2 ^ P := by
              have := nx.1
              rw [show (r 0 0).toNat = P by omega] at this
              omega
            have := zb_hi (x := x) (p := p) (n := P) (by omega) hx2 (by omega) (by omega) (by omega)
            omega
        rw [if_pos ⟨this, y⟩, if_pos y]
      · rw [if_neg (fun v => y v.2), if_neg y])
    refine b_287_228 ⟨fun _ => ⟨by omega, by rw [e2j]; omega, by rw [e2j, e2k]; omega, fun le => ?_, fun lt => ?_⟩, fun w => by rw [f5 _ _ (by decide), eP] at w; omega⟩
    · rw [e2j, e2k, w32_s (by omega), w32_e (x := wt + mo) (by omega) (by omega)]
      have zm : zMx sp en = sp := by
        unfold zMx
        rw [if_neg (by omega)]
      rw [zm] at kk
      exact kk
    · rw [e2j, e2k, w32_s (by omega), w32_e (x := wt + mo) (by omega) (by omega)]
      have zm : zMx sp en = en := by
        unfold zMx
        rw [if_pos lt]
      rw [zm] at kk
      exact kk
  · intro p hp ih5 h5 f5 g5
    refine b_287_228 ⟨fun w => by rw [f5 _ _ (by decide), eP] at w; omega, fun _ => ⟨fun nz => ?_, fun zz => ⟨by omega, ?_⟩⟩⟩
    · rw [w32_s (by omega)]
      refine ih5 h5 f5 (fun p' u v => ?_)
      rw [g5 p' u v]
      by_cases y : p' = p
      · rw [y, if_neg (by omega), if_neg (fun v => nz v.2)]
      · by_cases y2 : p' < p ∧ zb x p' = 1
        · rw [if_pos y2, if_pos ⟨by omega, y2.2⟩]
        · rw [if_neg y2, if_neg (fun v => y2 ⟨by omega, v.2⟩)]
    · rw [w32_s (by omega)]
      refine ih5 _ (fun o i u => by rw [hw_ne (Or.inl u), f5 o i u]) (fun p' u v => ?_)
      by_cases y : p' = p
      · rw [hw_eq ⟨rfl, y⟩, if_pos ⟨by omega, by rw [y]; exact zz⟩]
      · rw [hw_ne (Or.inr y), g5 p' u v]
        by_cases y2 : p' < p ∧ zb x p' = 1
        · rw [if_pos y2, if_pos ⟨by omega, y2.2⟩]
        · rw [if_neg y2, if_neg (fun v => y2 ⟨by omega, v.2⟩)]
theorem s_287_327 {d c : Nat} {R : Int → Nat → zH → Prop} {X : Nat → Nat → zH → Prop} {h7 : zH} {G : Int → Int} {j e x : Nat} {gone sp wt bg en mo : Int} (hj : j < 5) (h150 : ∀ p : Int, 0 ≤ p → p < 4 → h7 150 (4 * (j : Int) + p) = G p) (K : ∀ h8 : zH, (∀ o i : Int, o ≠ 144 → h8 o i = h7 o i) → (∀ p : Int, 0 ≤ p → p < 4 → h8 144 p = G p) → zWp (d + 4) 287 139 [(2, 113), (0, (j : Int)), (0, gone), (0, sp), (0, wt), (0, (e : Int)), (0, w32 ((x : Int) + 1)), (9, 0), (9, 0), (9, 0), (9, 0)] [] (zTS c h8) (zQ 0 R X)) : zWp (d + 4) 287 327 [(2, 113), (0, (j : Int)), (0, gone), (0, sp), (0, wt), (0, (e : Int)), (0, (x : Int)), (0, bg), (0, en), (0, mo), (0, 0)] [] (zTS c h7) (zQ 0 R X) := by
  have e4j : w32 (4 * (j : Int)) = 4 * j := w32_e (by omega) (by omega)
  have rs := zDown (W := fun p : Nat => ∀ h8 : zH, (∀ o i : Int, o ≠ 144 → h8 o i = h7 o i) → (∀ p' : Int, 0 ≤ p' → p' < p → h8 144 p' = G p') → zWp (d + 4) 287 327 [(2, 113), (0, (j : Int)), (0, gone), (0, sp), (0, wt), (0, (e : Int)), (0, (x : Int)), (0, bg), (0, en), (0, mo), (0, (p : Int))] [] (zTS c h8) (zQ 0 R X)) 4 ?_ ?_ 0 (by decide) h7 (fun _ _ _ => rfl) (fun p' u v => by omega)
  · exact rs
  · intro h8 f8 g8
    exact b_287_327 ⟨fun _ => K h8 f8 g8, fun w => by omega⟩
  · intro p hp ih8 h8 f8 g8
    refine b_287_327 ⟨fun w => by omega, fun _ => ?_⟩
    rw [e4j, w32_e (x := 4 * (j : Int) + p) (by omega) (by omega), w32_s (by omega), f8 150 _ (by decide), h150 p (by omega) (by omega)]
    refine ⟨by omega, by omega, ih8 _ (fun o i u => by rw [hw_ne (Or.inl u), f8 o i u]) (fun p' u v => ?_)⟩
    by_cases y : p' = p
    · rw [hw_eq ⟨rfl, y⟩, y]
    · rw [hw_ne (Or.inr y)]
      exact g8 p' u (by omega)
/-- the state behind a line -/
theorem mSq_s {r : zH} {f : Int → Int} {N : Nat} {s : sS} {h h5 : zH} {gone : Int} {j e x : Nat} (he : e < 5) (ck : mSq h s j gone) (ee : s.1 e = -1) (en : sEn r f N s e x ≠ -1) (f145 : ∀ i : Int, 0 ≤ i → i < 12 → s.1 i ≠ -1 → h5 145 i = h 145 i) (f144 : ∀ p : Int, 0 ≤ p → p < 4 → h5 144 p = if zb x p = 1 then sEn r f N s e x else s.2.1 p) (f152 : ∀ i : Int, i < 2 * (j : Int) → h5 152 i = h 152 i) : mSq (hw (hw (hw h5 145 e (sEn r f N s e x)) 152 (2 * (j : Int)) e) 152 (2 * (j : Int) + 1) x) (sSt r f N s e x) ((j + 1 : Nat) : Int) (zOr gone (zShl 1 e)) := by
  obtain ⟨q1, q2, q3, q4, q5, q6⟩ := ck
  have zr := zOr_r (x := gone) (d := e) (n := 5) (by omega) q3.1 q3.2 (by omega) (by omega)
  refine ⟨fun i u v w => ?_, fun p u v => ?_, zr, fun i u v => ?_, ?_, fun i u v => ?_⟩
  · show _ = if i = e then sEn r f N s e x else s.1 i
    have w' : (if i = (e : Int) then sEn r f N s e x else s.1 i) ≠ -1 := w
    rw [hw_ne (Or.inl (by decide)), hw_ne (Or.inl (by decide))]
    by_cases y : i = e
    · rw [if_pos y, hw_eq ⟨rfl, y⟩]
    · rw [if_neg y] at w' ⊢
      rw [hw_ne (Or.inr y), f145 i u v w', q1 i u v w']
  · show _ = if zb x p = 1 then sEn r f N s e x else s.2.1 p
    rw [hw_ne (Or.inl (by decide)), hw_ne (Or.inl (by decide)), hw_ne (Or.inl (by decide)), f144 p u v]
  · show zb (zOr gone (zShl 1 e)) i = 1 ↔ (if i = e then sEn r f N s e x else s.1 i) ≠ -1
    rw [zb_or q3.1 (by omega) (by omega) (by omega) u (by omega)]
    by_cases y : i = e
    · rw [if_pos y, if_pos y]
      exact ⟨fun _ => en, fun _ => rfl⟩
    · rw [if_neg y, if_neg y]
      exact q4 i u v
  · show ((s.2.2.2 ++ [((e : Int), (x : Int))]).length : Int) = _
    rw [List.length_append]
    simp only [List.length_cons, List.length_nil]
    omega
  · show _ = pD (s.2.2.2 ++ [((e : Int), (x : Int))]) i ∧ _ = pB (s.2.2.2 ++ [((e : Int), (x : Int))]) i
    have pa := pD_app (P := s.2.2.2) (x := ((e : Int), (x : Int))) (k := i) u (by omega)
    by_cases y : i = j
    · rw [if_neg (by omega), if_neg (by omega)] at pa
      rw [pa.1, pa.2]
      exact ⟨by rw [hw_ne (by omega), hw_eq ⟨rfl, by omega⟩], by rw [hw_eq ⟨rfl, by omega⟩]⟩
    · rw [if_pos (by omega), if_pos (by omega)] at pa
      rw [pa.1, pa.2, hw_ne (by omega), hw_ne (by omega), hw_ne (by omega), hw_ne (by omega), hw_ne (by omega), hw_ne (by omega), f152 _ (by omega), f152 _ (by omega)]
      exact q6 i u (by omega)
/-- a line tried -/
theorem s_287_139 {d c : Nat} {R : Int → Nat → zH → Prop} {X : Nat → Nat → zH → Prop} {r h3 : zH} {f : Int → Int} {N : Nat} {s : sS} {j e x : Nat} {gone sp wt : Int} (wr : wRoad r) (wl : wLaw f N) (mr3 : mRoad h3 r) (ml3 : mLaw h3 f N) (he : (e : Int) < r 0 1) (hx : 1 ≤ x ∧ x ≤ sNx r) (hj : j ≤ 5) (ok : sOk s j) (h145 : ∀ i : Nat, i < e → zb (r 6 e) i = 1 → h3 145 i = s.1 i ∧ s.1 i ≠ -1) (h144 : ∀ p : Int, 0 ≤ p → p < 4 → h3 144 p = s.2.1 p) (Kno : sBg r s e x = -1 → zWp (d + 4) 287 139 [(2, 113), (0, (j : Int)), (0, gone), (0, sp), (0, wt), (0, (e : Int)), (0, w32 ((x : Int) + 1)), (9, 0), (9, 0), (9, 0), (9, 0)] [] (zTS c h3) (zQ 0 R X)) (Kyes : ∀ h4 : zH, (∀ o i : Int, o ≠ 136 → o ≠ 137 → h4 o i = h3 o i) → sBg r s e x ≠ -1 → zWp (d + 4) 287 228 [(2, 113), (0, (j : Int)), (0, gone), (0, sp), (0, wt), (0, (e : Int)), (0, (x : Int)), (0, sBg r s e x), (0, sEn r f N s e x), (0, mOnes x * mWm r e (sBg r s e x) (sEn r f N s e x)), (0, 0)] [] (zTS c h4) (zQ 0 R X)) : zWp (d + 4) 287 139 [(2, 113), (0, (j : Int)), (0, gone), (0, sp), (0, wt), (0, (e : Int)), (0, (x : Int)), (9, 0), (9, 0), (9, 0), (9, 0)] [] (zTS c h3) (zQ 0 R X) := by
  have nx := sNx_e wr
  have wp := wr_p wr
  have wd := wr_d wr
  refine b_287_139 ⟨fun w => by rw [mr_p mr3, nx.2.2] at w; omega, fun _ => s_268 mr3 wr (by omega) (fun can => ⟨fun _ => ?_, fun v => absurd v (by decide)⟩) (fun ncan => ⟨fun v => absurd rfl v, fun _ => Kno (by unfold sBg mEar; rw [if_neg ncan])⟩)⟩
  have eb : mBeg r (h3 145) (h3 144) e x = sBg r s e x := by
    unfold sBg mEar mBeg
    have c1 : mDn (h3 145) (zb (r 6 e)) ((e : Int)).toNat = mDn s.1 (zb (r 6 e)) ((e : Int)).toNat := mDn_c (fun i hi hb => (h145 i (by omega) hb).1)
    have c2 : mMx (h3 144) (zb x) (r 0 0).toNat = mMx s.2.1 (zb x) (r 0 0).toNat := mMx_congr (fun i hi => h144 i (by omega) (by omega))
    rw [c1, c2, if_pos can]
  have nb : sBg r s e x ≠ -1 := by
    have md : mDn s.1 (zb (r 6 e)) ((e : Int)).toNat ≠ -1 := mDn_b (fun i hi hb => (h145 i (by omega) hb).2)
    unfold sBg mEar mBeg
    rw [if_pos can, if_neg md]
    have h1 := mDn_ge s.1 (zb (r 6 e)) ((e : Int)).toNat
    have h2 := mMx_ge s.2.1 (zb x) (r 0 0).toNat
    unfold zMx
    split
    · omega
    · omega
  obtain ⟨ok', br, en⟩ := sOk_s (f := f) (N := N) (s := s) (d := e) (x := x) wr (by omega) ok (by omega) nb
  have e51 : w32 (w32 (5 * (e : Int)) + 1) = 5 * e + 1 := by rw [w32_e (x := 5 * (e : Int)) (by omega) (by omega), w32_e (by omega) (by omega)]
  refine s_271 mr3 wr (by omega) ?_
  rw [eb]
  refine s_272 mr3 wr ml3 wl (by omega) br.1 (fun h4 f4 => ?_)
  rw [show sBg r s e x + mLf r f N e x (sBg r s e x) = sEn r f N s e x from rfl, w32_e (x := sEn r f N s e x) (by omega) (by omega)]
  have mr4 : mRoad h4 r := mRoad_fr (fun o i w => f4 o i (by unfold mRo at w; omega) (by unfold mRo at w; omega)) mr3
  have w1 := ones_nn x
  have w2 := mWm_r wr e (sBg r s e x) (sEn r f N s e x)
  have w3 := Int.mul_nonneg w1.1 w2.1
  have w4 := Int.mul_le_mul w1.2 w2.2 w2.1 (by decide)
  have after := Kyes h4 f4 nb
  have out := wr_deed wr e (by omega) (by omega)
  rw [e51, (mr_deed mr4 e (by omega) (by omega)).2.1]
  refine ⟨by omega, fun n1 => ?_, fun y1 => ?_⟩
  · have w0 : mWm r e (sBg r s e x) (sEn r f N s e x) = 0 := by
      unfold mWm
      rw [if_pos (by omega)]
    rw [w0, Int.mul_zero] at after
    exact after
  · have w0 : mWm r e (sBg r s e x) (sEn r f N s e x) = mRn r (sBg r s e x) (sEn r f N s e x) := by
      unfold mWm
      rw [if_neg (by omega)]
    refine s_269 (s_275 mr4 wr br.1 (by omega) (by omega) ?_)
    rw [← w0, w32_e (x := mOnes x * mWm r e (sBg r s e x) (sEn r f N s e x)) (by omega) (by omega)]
    exact after
