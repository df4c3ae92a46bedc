/-! the reference: a plan goes -/
theorem s_267_245 {d c : Nat} {h : zH} {R : Int → Nat → zH → Prop} {X : Nat → Nat → zH → Prop} {e x b n dr sp i : Int} {r : zH} (mr : mRoad h r) (wr : wRoad r) (he : 0 ≤ e ∧ e < r 0 1) (hb : 0 ≤ b ∧ b < 100000) (hn : 0 ≤ n ∧ n < 1000)
    (k : ∀ h', (∀ a j, a ≠ 144 → a ≠ 146 → a ≠ 147 → h' a j = h a j) → (∀ j, 0 ≤ j → j < r 0 0 → h' 144 j = (if zb x j = 1 then b + n else h 144 j) ∧ h' 147 j = (if zb x j = 1 then w32 (h 147 j + n) else h 147 j) ∧ h' 146 j = (if zb x j = 1 then w32 (h 146 j + mWm r e b (b + n)) else h 146 j)) → (∀ j : Int, r 0 0 ≤ j → h' 144 j = h 144 j ∧ h' 147 j = h 147 j ∧ h' 146 j = h 146 j) → zWp (d + 4) 267 337 [(2, 113), (0, dr), (0, sp), (0, i), (0, e), (0, x), (0, b), (9, 0), (9, 0)] [] (zTS c h') (zQ 1 R X)) :
    zWp (d + 4) 267 245 [(2, 113), (0, dr), (0, sp), (0, i), (0, e), (0, x), (0, b), (0, n), (0, 0)] [] (zTS c h) (zQ 1 R X) := by
  have hp := wr_p wr
  have hd := wr_d wr
  have hq := wr_deed wr e he.1 he.2
  have e1 : w32 (w32 (5 * e) + 1) = 5 * e + 1 := by rw [w32_e (x := 5 * e) (by omega) (by omega), w32_e (by omega) (by omega)]
  have ebn : w32 (b + n) = b + n := w32_e (by omega) (by omega)
  refine zDown (W := fun m => ∀ h', (∀ a j, a ≠ 144 → a ≠ 146 → a ≠ 147 → h' a j = h a j) → (∀ j : Int, 0 ≤ j → j < (m : Int) → h' 144 j = (if zb x j = 1 then b + n else h 144 j) ∧ h' 147 j = (if zb x j = 1 then w32 (h 147 j + n) else h 147 j) ∧ h' 146 j = (if zb x j = 1 then w32 (h 146 j + mWm r e b (b + n)) else h 146 j)) → (∀ j : Int, (m : Int) ≤ j → h' 144 j = h 144 j ∧ h' 147 j = h 147 j ∧ h' 146 j = h 146 j) → zWp (d + 4) 267 245 [(2, 113), (0, dr), (0, sp), (0, i), (0, e), (0, x), (0, b), (0, n), (0, (m : Int))] [] (zTS c h') (zQ 1 R X)) (r 0 0).toNat ?_ ?_ 0 (Nat.zero_le _) h (fun _ _ _ _ _ => rfl) (fun j a b => by omega) (fun j a => ⟨rfl, rfl, rfl⟩)
  · intro h' f1 f2 f3
    refine b_267_245 ⟨fun _ => k h' f1 (fun j a b => f2 j a (by omega)) (fun j a => f3 j (by omega)), fun q => ?_⟩
    rw [f1 _ _ (by omega) (by omega) (by omega), mr_p mr] at q
    omega
  · intro m hm ih h' f1 f2 f3
    have mr1 : mRoad h' r := mRoad_fr (fun o j q => f1 o j (by unfold mRo at q; omega) (by unfold mRo at q; omega) (by unfold mRo at q; omega)) mr
    have hc := mr_deed mr1 e he.1 he.2
    have fm := f3 m (by omega)
    have fin : ∀ v h2, v = mWm r e b (b + n) → zb x m = 1 → (∀ a j, h2 a j = (hw (hw h' 144 m (b + n)) 147 m (w32 (h' 147 m + n))) a j) → zWp (d + 4) 267 329 [(2, 113), (0, dr), (0, sp), (0, i), (0, e), (0, x), (0, b), (0, n), (0, (m : Int))] [(0, v), (0, h' 146 m), (0, (m : Int)), (2, 146)] (zTS c h2) (zQ 1 R X) := by
      intro v h2 hv q eh
      refine b_267_329 ⟨by omega, b_267_331 ?_⟩
      rw [w32_s (by omega)]
      refine ih _ (fun a j a1 a2 a3 => by rw [hw_ne (by omega), eh, hw_ne (by omega), hw_ne (by omega), f1 a j a1 a2 a3]) (fun j a b => ?_) (fun j a => ?_)
      · by_cases ej : j = m
        · subst ej
          rw [if_pos q, if_pos q, if_pos q]
          refine ⟨?_, ?_, ?_⟩
          · rw [hw_ne (by omega), eh, hw_ne (by omega), hw_eq ⟨rfl, rfl⟩]
          · rw [hw_ne (by omega), eh, hw_eq ⟨rfl, rfl⟩, fm.2.1]
          · rw [hw_eq ⟨rfl, rfl⟩, fm.2.2, hv]
        · have := f2 j a (by omega)
          rw [hw_ne (by omega), hw_ne (by omega), hw_ne (by omega), eh, eh, eh, hw_ne (by omega), hw_ne (by omega), hw_ne (by omega), hw_ne (by omega), hw_ne (by omega), hw_ne (by omega)]
          exact this
      · have := f3 j (by omega)
        rw [hw_ne (by omega), hw_ne (by omega), hw_ne (by omega), eh, eh, eh, hw_ne (by omega), hw_ne (by omega), hw_ne (by omega), hw_ne (by omega), hw_ne (by omega), hw_ne (by omega)]
        exact this
    refine b_267_245 ⟨fun q => ?_, fun _ => ⟨fun q => ?_, fun q => ?_⟩⟩
    · rw [f1 _ _ (by omega) (by omega) (by omega), mr_p mr] at q
      omega
    · have q := (zb01 x m).resolve_left q
      rw [e1, ebn, hc.2.1]
      refine ⟨by omega, by omega, by omega, by omega, by omega, fun q1 => ?_, fun q1 => ?_⟩
      · refine fin 0 _ ?_ q (fun _ _ => rfl)
        unfold mWm
        rw [if_pos (by omega)]
      · refine s_275 (mRoad_fr (fun o j q => by unfold mRo at q; rw [hw_ne (by omega), hw_ne (by omega)]) mr1) wr hb.1 (by omega) (by omega) (fin _ _ ?_ q (fun _ _ => rfl))
        unfold mWm
        rw [if_neg (by omega)]
    · have q : ¬ zb x m = 1 := by
        have : zb x m = 0 := q
        omega
      refine b_267_331 ?_
      rw [w32_s (by omega)]
      refine ih h' f1 (fun j a b => ?_) (fun j a => f3 j (by omega))
      by_cases ej : j = m
      · subst ej
        rw [if_neg q, if_neg q, if_neg q]
        exact fm
      · exact f2 j a (by omega)
/-- the reference holds the state ahead of line i -/
def mGoR (h s : zH) (i dr : Int) : Prop := h 113 58 = s 0 1 ∧ (dr ≠ 0 → h 113 68 = s 0 2) ∧ (∀ k : Int, 0 ≤ k → k < 12 → h 145 k = s 1 k) ∧ (∀ k : Int, 0 ≤ k → k < 4 → h 144 k = s 2 k ∧ h 147 k = s 5 k ∧ h 146 k = s 6 k) ∧ (∀ k : Int, 0 ≤ k → k < i → h 142 k = s 3 k ∧ h 143 k = s 4 k)
theorem mPlan_fr {h h' : zH} {P : List (Int × Int)} (fr : ∀ o j, (o = 113 ∧ j = 49) ∨ o = 139 → h' o j = h o j) (m : mPlan h P) : mPlan h' P :=
  ⟨by rw [fr _ _ (by omega)]; exact m.1, fun k a b => by rw [fr _ _ (by omega), fr _ _ (by omega)]; exact m.2 k a b⟩
theorem s_267_64 {d c : Nat} {h0 : zH} {R : Int → Nat → zH → Prop} {X : Nat → Nat → zH → Prop} {r : zH} {f : Int → Int} {N : Nat} {P : List (Int × Int)} {sp xl xb sd dr : Int} (mr : mRoad h0 r) (wr : wRoad r) (ml : mLaw h0 f N) (wl : wLaw f N) (mp : mPlan h0 P) (wp : wPlan r P) (hx : 0 ≤ xb ∧ xb ≤ 100) (hsp : sp = if dr = 0 then 0 else r 0 7) (hdx : dr ≠ 0 → xb = 0) (hmo : ∀ i : Int, 0 ≤ i → i < P.length → h0 148 (pD P i) = if i = xl then xb else 0)
    (k : ∀ h', (∀ o j, ¬ (o = 136 ∨ o = 137 ∨ (142 ≤ o ∧ o ≤ 147) ∨ (o = 113 ∧ (j = 58 ∨ j = 68))) → h' o j = h0 o j) → mGoR h' (mGo r f N P sp xl xb sd P.length) P.length dr → R (mGo r f N P sp xl xb sd P.length 0 0) c h') :
    ∀ n : Nat, n ≤ P.length → ∀ h, (∀ o j, ¬ (o = 136 ∨ o = 137 ∨ (142 ≤ o ∧ o ≤ 147) ∨ (o = 113 ∧ (j = 58 ∨ j = 68))) → h o j = h0 o j) → mGoR h (mGo r f N P sp xl xb sd n) n dr → zWp (d + 4) 267 64 [(2, 113), (0, dr), (0, mGo r f N P sp xl xb sd n 0 0), (0, (n : Int)), (9, 0), (9, 0), (9, 0), (9, 0), (9, 0)] [] (zTS c h) (zQ 1 R X) := by
  have h12 := wp.1
  refine zDown P.length ?_ ?_
  · intro h f1 g
    refine b_267_64 ⟨fun _ => k h f1 g, fun q => ?_⟩
    rw [f1 113 49 (by omega), mp.1] at q
    omega
  · intro n hn ih h f1 g
    have mr1 : mRoad h r := mRoad_fr (fun o j q => f1 o j (by unfold mRo at q; omega)) mr
    have ml1 : mLaw h f N := mLaw_fr (fun o j q => f1 o j (by unfold mLo at q; omega)) ml
    have mp1 : mPlan h P := mPlan_fr (fun o j q => f1 o j (by omega)) mp
    have hc := mp1.2 n (by omega) (by omega)
    have wn := wp.2.1 n (by omega) (by omega)
    have gk := mGo_ok (f := f) (N := N) (sp := sp) (xl := xl) (sd := sd) wr wp hx n (by omega)
    have gb := gB_r wr wp (i := n) (by omega) gk
    have gn := gN_r (r := r) (f := f) (N := N) (P := P) (sp := sp) (xl := xl) (s := mGo r f N P sp xl xb sd n) (i := n) hx
    have hpp := wr_p wr
    have hdd := wr_d wr
    have e2 : w32 (2 * (n : Int)) = 2 * n := w32_e (by omega) (by omega)
    have e21 : w32 (w32 (2 * (n : Int)) + 1) = 2 * n + 1 := by rw [e2, w32_e (by omega) (by omega)]
    rw [mGo] at ih
    generalize mGo r f N P sp xl xb sd n = s at g gk gb gn ih
    obtain ⟨g2, g3, g4, g5, g6⟩ := g
    have main : zWp (d + 4) 267 117 [(2, 113), (0, dr), (0, s 0 0), (0, (n : Int)), (0, pD P n), (0, pB P n), (9, 0), (9, 0), (9, 0)] [(0, gB r P s n)] (zTS c h) (zQ 1 R X) := by
      have hv : 1 ≤ mLf r f N (pD P n) (pB P n) (gB r P s n) ∧ mLf r f N (pD P n) (pB P n) (gB r P s n) ≤ 99 := zCla_r _
      refine b_267_117 ⟨by omega, by omega, fun q => ?_, fun q => ?_⟩
      · have gb := gb.resolve_left q
        unfold mGo1 at ih
        rw [if_neg q] at ih
        -- behind the length and the draw
        have fin : ∀ a v h1, v = (if mDraw (s 0 2) < sp then 2 * mLf r f N (pD P n) (pB P n) (gB r P s n) else mLf r f N (pD P n) (pB P n) (gB r P s n)) → a = (if mDraw (s 0 2) < sp then 1 else 0) → (∀ o j, ¬ (o = 136 ∨ o = 137 ∨ o = 142 ∨ o = 143 ∨ (o = 113 ∧ (j = 58 ∨ j = 68))) → h1 o j = h o j) → (∀ j, h1 142 j = (hw h 142 n (gB r P s n)) 142 j) → (∀ j : Int, j ≠ (n : Int) → h1 143 j = h 143 j) → h1 113 58 = s 0 1 + a → (dr ≠ 0 → h1 113 68 = mNext (s 0 2)) → zWp (d + 4) 267 188 [(2, 113), (0, dr), (0, s 0 0), (0, (n : Int)), (0, pD P n), (0, pB P n), (0, gB r P s n), (0, v), (9, 0)] [] (zTS c h1) (zQ 1 R X) := by
          intro a v h1 hv1 ha r1 r42 r43 r58 r68
          have emo : h1 148 (pD P n) = if (n : Int) = xl then xb else 0 := by rw [r1 _ _ (by omega), f1 _ _ (by omega)]; exact hmo n (by omega) (by omega)
          have hsp0 : ∀ q : dr = 0, ¬ mDraw (s 0 2) < sp := by
            intro q
            rw [hsp, if_pos q]
            have := mDraw_r (s 0 2)
            omega
          have ev : v + h1 148 (pD P n) = gN r f N P sp xl xb s n := by
            rw [hv1, emo]
            unfold gN
            by_cases qh : mDraw (s 0 2) < sp
            · rw [if_pos qh, if_pos qh]
              have : xb = 0 := hdx (fun q => hsp0 q qh)
              split <;> omega
            · rw [if_neg qh, if_neg qh]
              split <;> omega
          have ev2 : w32 (v + h1 148 (pD P n)) = gN r f N P sp xl xb s n := by rw [ev, w32_e (by omega) (by omega)]
          have ew : w32 (gB r P s n + w32 (v + h1 148 (pD P n))) = gB r P s n + gN r f N P sp xl xb s n := by rw [ev2, w32_e (by omega) (by omega)]
          have last : ∀ z, z = zMx (s 0 0) (gB r P s n + gN r f N P sp xl xb s n) → zWp (d + 4) 267 241 [(2, 113), (0, dr), (0, s 0 0), (0, (n : Int)), (0, pD P n), (0, pB P n), (0, gB r P s n), (0, gN r f N P sp xl xb s n), (9, 0)] [(0, z)] (zTS c (hw (hw h1 143 n (gB r P s n + gN r f N P sp xl xb s n)) 145 (pD P n) (gB r P s n + gN r f N P sp xl xb s n))) (zQ 1 R X) := by
            intro z hz
            refine b_267_241 (s_267_245 (r := r) (mRoad_fr (fun o j q => by unfold mRo at q; rw [hw_ne (by omega), hw_ne (by omega), r1 o j (by omega)]) mr1) wr wn.1 (by omega) (by omega) (fun h2 t1 t2 t3 => b_267_337 ?_))
            rw [w32_s (by omega), hz]
            have wb := mWm_r wr (pD P n) (gB r P s n) (gB r P s n + gN r f N P sp xl xb s n)
            refine ih h2 (fun o j q => ?_) ⟨?_, ?_, fun k a b => ?_, fun k a b => ?_, fun k a b => ?_⟩
            · rw [t1 o j (by omega) (by omega) (by omega), hw_ne (by omega), hw_ne (by omega), r1 o j (by omega), f1 o j q]
            · rw [t1 _ _ (by omega) (by omega) (by omega), hw_ne (by omega), hw_ne (by omega), r58, ha]
              rfl
            · intro qd
              rw [t1 _ _ (by omega) (by omega) (by omega), hw_ne (by omega), hw_ne (by omega), r68 qd]
              rfl
            · rw [t1 _ _ (by omega) (by omega) (by omega)]
              show _ = if k = pD P n then _ else s 1 k
              by_cases ek : k = pD P n
              · rw [hw_eq ⟨rfl, ek⟩, if_pos ek]
              · rw [hw_ne (Or.inr ek), if_neg ek, hw_ne (by omega), r1 _ _ (by omega), g4 k a b]
            · have hg := g5 k a b
              have o5 := gk.2.2.2.2.1 k
              have o6 := gk.2.2.2.2.2 k
              show _ = (if zb (pB P n) k = 1 then _ else s 2 k) ∧ _ = (if zb (pB P n) k = 1 then _ else s 5 k) ∧ _ = (if zb (pB P n) k = 1 then _ else s 6 k)
              by_cases kp : k < r 0 0
              · have hk := t2 k a kp
                rw [hw_ne (by omega), hw_ne (by omega), hw_ne (by omega), hw_ne (by omega), hw_ne (by omega), hw_ne (by omega), r1 _ _ (by omega), r1 _ _ (by omega), r1 _ _ (by omega), hg.1, hg.2.1, hg.2.2] at hk
                rw [w32_e (x := s 5 k + _) (by omega) (by omega), w32_e (by omega) (by omega)] at hk
                exact hk
              · have hk := t3 k (by omega)
                rw [hw_ne (by omega), hw_ne (by omega), hw_ne (by omega), hw_ne (by omega), hw_ne (by omega), hw_ne (by omega), r1 _ _ (by omega), r1 _ _ (by omega), r1 _ _ (by omega), hg.1, hg.2.1, hg.2.2] at hk
                have z0 : zb (pB P n) k = 0 := zb_hi (n := (r 0 0).toNat) wn.2.1 wn.2.2 (by omega) (by omega) (by omega)
                rw [if_neg (by omega), if_neg (by omega), if_neg (by omega)]
                exact hk
            · rw [t1 _ _ (by omega) (by omega) (by omega), t1 _ _ (by omega) (by omega) (by omega), hw_ne (by omega), hw_ne (by omega), hw_ne (by omega)]
              show _ = (if k = n then _ else s 3 k) ∧ _ = (if k = n then _ else s 4 k)
              by_cases ek : k = n
              · rw [if_pos ek, if_pos ek, hw_eq ⟨rfl, ek⟩, r42, hw_eq ⟨rfl, ek⟩]
                exact ⟨rfl, rfl⟩
              · have hg := g6 k a (by omega)
                rw [if_neg ek, if_neg ek, hw_ne (by omega), r42, hw_ne (by omega), r43 k ek]
                exact hg
          refine b_267_188 ⟨by omega, by omega, by omega, ?_⟩
          rw [ew, ev2]
          refine ⟨fun q1 => last _ ?_, fun q1 => last _ ?_⟩
          · unfold zMx
            rw [if_neg (by omega)]
          · unfold zMx
            rw [if_pos (by omega)]
        refine s_272 (mRoad_fr (fun o j q => by unfold mRo at q; rw [hw_ne (by omega), hw_ne (by omega)]) mr1) wr (mLaw_fr (fun o j q => by unfold mLo at q; rw [hw_ne (by omega), hw_ne (by omega)]) ml1) wl wn.1 gb.1 (fun h1 r1 => ⟨fun q1 => ?_, fun q1 => b_274 ⟨fun q2 => ?_, fun q2 => ?_⟩⟩)
        · have hs : ¬ mDraw (s 0 2) < sp := by
            rw [hsp, if_pos q1]
            have := mDraw_r (s 0 2)
            omega
          refine fin 0 _ h1 ?_ ?_ (fun o j q => by rw [r1 o j (by omega) (by omega), hw_ne (by omega), hw_ne (by omega)]) (fun j => by rw [r1 _ _ (by omega) (by omega), hw_ne (by omega)]) (fun j q => by rw [r1 _ _ (by omega) (by omega), hw_ne (by omega), hw_ne (by omega)]) ?_ (fun q => absurd q1 q)
          · rw [if_neg hs]
          · rw [if_neg hs]
          · rw [r1 _ _ (by omega) (by omega), hw_ne (by omega), hw_ne (by omega), g2]
            omega
        · have e68 : h1 113 68 = s 0 2 := by rw [r1 _ _ (by omega) (by omega), hw_ne (by omega), hw_ne (by omega), g3 q1]
          have eL : (hw h1 113 68 (w32 (w32 (h1 113 68 * 1103515245) + 12345))) 131 2 = sp := by
            rw [hw_ne (by omega), r1 _ _ (by omega) (by omega), hw_ne (by omega), hw_ne (by omega), (mr_told mr1).2.2.1, hsp, if_neg q1]
          rw [eL] at q2
          have q2 : sp ≤ mDraw (s 0 2) := by
            rw [← e68]
            exact q2
          refine fin 0 _ _ ?_ ?_ (fun o j q => by rw [hw_ne (by omega), r1 o j (by omega) (by omega), hw_ne (by omega), hw_ne (by omega)]) (fun j => by rw [hw_ne (by omega), r1 _ _ (by omega) (by omega), hw_ne (by omega)]) (fun j q => by rw [hw_ne (by omega), r1 _ _ (by omega) (by omega), hw_ne (by omega), hw_ne (by omega)]) ?_ ?_
          · rw [if_neg (by omega)]
          · rw [if_neg (by omega)]
          · rw [hw_ne (by omega), r1 _ _ (by omega) (by omega), hw_ne (by omega), hw_ne (by omega), g2]
            omega
          · intro _
            rw [hw_eq ⟨rfl, rfl⟩, e68]
            rfl
        · have e68 : h1 113 68 = s 0 2 := by rw [r1 _ _ (by omega) (by omega), hw_ne (by omega), hw_ne (by omega), g3 q1]
          have eL : (hw h1 113 68 (w32 (w32 (h1 113 68 * 1103515245) + 12345))) 131 2 = sp := by
            rw [hw_ne (by omega), r1 _ _ (by omega) (by omega), hw_ne (by omega), hw_ne (by omega), (mr_told mr1).2.2.1, hsp, if_neg q1]
          rw [eL] at q2
          have q2 : mDraw (s 0 2) < sp := by
            rw [← e68]
            exact q2
          have e58 : h1 113 58 = s 0 1 := by rw [r1 _ _ (by omega) (by omega), hw_ne (by omega), hw_ne (by omega), g2]
          have o1 := gk.2.1
          rw [hw_ne (by omega), e58, w32_e (x := s 0 1 + 1) (by omega) (by omega), w32_e (by omega) (by omega)]
          refine fin 1 _ _ ?_ ?_ (fun o j q => by rw [hw_ne (by omega), hw_ne (by omega), r1 o j (by omega) (by omega), hw_ne (by omega), hw_ne (by omega)]) (fun j => by rw [hw_ne (by omega), hw_ne (by omega), r1 _ _ (by omega) (by omega), hw_ne (by omega)]) (fun j q => by rw [hw_ne (by omega), hw_ne (by omega), r1 _ _ (by omega) (by omega), hw_ne (by omega), hw_ne (by omega)]) ?_ ?_
          · rw [if_pos q2]
            omega
          · rw [if_pos q2]
          · rw [hw_eq ⟨rfl, rfl⟩]
          · intro _
            rw [hw_ne (by omega), hw_eq ⟨rfl, rfl⟩, e68]
            rfl
      · unfold mGo1 at ih
        rw [if_pos q] at ih
        refine b_267_337 ?_
        rw [w32_s (by omega), q]
        refine ih _ (fun o j a => by rw [hw_ne (by omega), hw_ne (by omega), f1 o j a]) ⟨?_, ?_, fun k a b => ?_, fun k a b => ?_, fun k a b => ?_⟩
        · rw [hw_ne (by omega), hw_ne (by omega), hw_ne (by omega), hw_ne (by omega)]; exact g2
        · rw [hw_ne (by omega), hw_ne (by omega), hw_ne (by omega), hw_ne (by omega)]; exact g3
        · rw [hw_ne (by omega), hw_ne (by omega), hw_ne (by omega), hw_ne (by omega)]; exact g4 k a b
        · rw [hw_ne (by omega), hw_ne (by omega), hw_ne (by omega), hw_ne (by omega), hw_ne (by omega), hw_ne (by omega), hw_ne (by omega), hw_ne (by omega), hw_ne (by omega), hw_ne (by omega), hw_ne (by omega), hw_ne (by omega)]; exact g5 k a b
        · by_cases ek : k = n
          · subst ek
            rw [hw_ne (by omega), hw_eq ⟨rfl, rfl⟩, hw_eq ⟨rfl, rfl⟩, hw_ne (by omega), hw_eq ⟨rfl, rfl⟩, hw_eq ⟨rfl, rfl⟩]
            exact ⟨rfl, rfl⟩
          · rw [hw_ne (by omega), hw_ne (by omega), hw_ne (by omega), hw_ne (by omega), hw_ne (by omega), hw_ne (by omega), hw_ne (by omega), hw_ne (by omega)]
            exact g6 k a (by omega)
    refine b_267_64 ⟨fun q => by rw [mp1.1] at q; omega, fun _ => ?_⟩
    rw [e21, e2, hc.1, hc.2]
    have eb : mBeg r (h 145) (h 144) (pD P n) (pB P n) = mBeg r (s 1) (s 2) (pD P n) (pB P n) := mBeg_congr wr wn.1.2 g4 (fun k a b => (g5 k a b).1)
    refine ⟨by omega, by omega, s_268 mr1 wr wn.1 (fun q => ⟨fun q1 => absurd q1 (by decide), fun _ => s_271 mr1 wr wn.1 ?_⟩) (fun q => ⟨fun _ => ?_, fun q1 => absurd rfl q1⟩)⟩
    · rw [eb]
      have : gB r P s n = mBeg r (s 1) (s 2) (pD P n) (pB P n) := by
        unfold gB mEar
        rw [if_pos q]
      rw [← this]
      exact main
    · have : gB r P s n = -1 := by
        unfold gB mEar
        rw [if_neg q]
      rw [← this]
      exact main
theorem s_267 {d c : Nat} {h : zH} {R : Int → Nat → zH → Prop} {X : Nat → Nat → zH → Prop} {r : zH} {f : Int → Int} {N : Nat} {P : List (Int × Int)} {sp xl xb sd dr : Int} (mr : mRoad h r) (wr : wRoad r) (ml : mLaw h f N) (wl : wLaw f N) (mp : mPlan h P) (wp : wPlan r P) (hx : 0 ≤ xb ∧ xb ≤ 100) (hsp : sp = if dr = 0 then 0 else r 0 7) (hdx : dr ≠ 0 → xb = 0) (hsd : dr ≠ 0 → h 113 68 = sd) (hmo : ∀ i : Int, 0 ≤ i → i < P.length → h 148 (pD P i) = if i = xl then xb else 0)
    (k : ∀ h', (∀ o j, ¬ (o = 136 ∨ o = 137 ∨ (142 ≤ o ∧ o ≤ 147) ∨ (o = 113 ∧ (j = 58 ∨ j = 68))) → h' o j = h o j) → mGoR h' (mGo r f N P sp xl xb sd P.length) P.length dr → R (mGo r f N P sp xl xb sd P.length 0 0) c h') : zCl (d + 4) 267 [(2, 113), (0, dr)] c h R X := by
  refine b_267 ?_
  refine zDown (W := fun n => ∀ h', (∀ o j, o ≠ 144 → o ≠ 146 → o ≠ 147 → h' o j = h o j) → (∀ j : Int, 0 ≤ j → j < (n : Int) → h' 144 j = 0 ∧ h' 147 j = 0 ∧ h' 146 j = 0) → zWp (d + 4) 267 2 [(2, 113), (0, dr), (0, (n : Int)), (9, 0), (9, 0), (9, 0), (9, 0), (9, 0), (9, 0)] [] (zTS c h') (zQ 1 R X)) 4 ?_ ?_ 0 (Nat.zero_le _) h (fun _ _ _ _ _ => rfl) (fun j a b => by omega)
  · intro h1 a1 a2
    refine b_267_2 ⟨fun _ => ?_, fun q => by omega⟩
    refine zDown (W := fun n => ∀ h', (∀ o j, o ≠ 145 → h' o j = h1 o j) → (∀ j : Int, 0 ≤ j → j < (n : Int) → h' 145 j = -1) → zWp (d + 4) 267 36 [(2, 113), (0, dr), (0, (n : Int)), (9, 0), (9, 0), (9, 0), (9, 0), (9, 0), (9, 0)] [] (zTS c h') (zQ 1 R X)) 12 ?_ ?_ 0 (Nat.zero_le _) h1 (fun _ _ _ => rfl) (fun j a b => by omega)
    · intro h2 b1 b2
      refine b_267_36 ⟨fun _ => ?_, fun q => by omega⟩
      have fr : ∀ o j, ¬ (o = 136 ∨ o = 137 ∨ (142 ≤ o ∧ o ≤ 147) ∨ (o = 113 ∧ (j = 58 ∨ j = 68))) → (hw h2 113 58 0) o j = h o j := fun o j q => by rw [hw_ne (by omega), b1 o j (by omega), a1 o j (by omega) (by omega) (by omega)]
      refine s_267_64 (h0 := hw h2 113 58 0) (f := f) (N := N) (P := P) (sd := sd) (mRoad_fr (fun o j q => fr o j (by unfold mRo at q; omega)) mr) wr (mLaw_fr (fun o j q => fr o j (by unfold mLo at q; omega)) ml) wl (mPlan_fr (fun o j q => fr o j (by omega)) mp) wp hx hsp hdx (fun i a b => by rw [fr _ _ (by omega)]; exact hmo i a b) (fun h' w1 w2 => k h' (fun o j q => by rw [w1 o j q, fr o j q]) w2) 0 (Nat.zero_le _) _ (fun _ _ _ => rfl) ⟨?_, fun q => ?_, fun k a b => ?_, fun k a b => ?_, fun k a b => by omega⟩
      · rw [hw_eq ⟨rfl, rfl⟩]
        rfl
      · rw [hw_ne (by omega), b1 _ _ (by omega), a1 _ _ (by omega) (by omega) (by omega), hsd q]
        rfl
      · rw [hw_ne (by omega), b2 k a (by omega)]
        rfl
      · rw [hw_ne (by omega), hw_ne (by omega), hw_ne (by omega), b1 _ _ (by omega), b1 _ _ (by omega), b1 _ _ (by omega), (a2 k a (by omega)).1, (a2 k a (by omega)).2.1, (a2 k a (by omega)).2.2]
        exact ⟨rfl, rfl, rfl⟩
    · intro n hn ih h' f1 f2
      refine b_267_36 ⟨fun q => by omega, fun _ => ⟨by omega, ?_⟩⟩
      rw [w32_s (by omega)]
      refine ih _ (fun o j q => by rw [hw_ne (by omega), f1 o j q]) (fun j a b => ?_)
      by_cases e : j = n
      · rw [hw_eq ⟨rfl, e⟩]
      · rw [hw_ne (Or.inr e), f2 j a (by omega)]
  · intro n hn ih h' f1 f2
    refine b_267_2 ⟨fun q => by omega, fun _ => ⟨by omega, by omega, by omega, ?_⟩⟩
    rw [w32_s (by omega)]
    refine ih _ (fun o j q1 q2 q3 => by rw [hw_ne (by omega), hw_ne (by omega), hw_ne (by omega), f1 o j q1 q2 q3]) (fun j a b => ?_)
    by_cases e : j = n
    · subst e
      rw [hw_ne (by omega), hw_ne (by omega), hw_eq ⟨rfl, rfl⟩, hw_eq ⟨rfl, rfl⟩, hw_ne (by omega), hw_eq ⟨rfl, rfl⟩]
      exact ⟨rfl, rfl, rfl⟩
    · rw [hw_ne (by omega), hw_ne (by omega), hw_ne (by omega), hw_ne (by omega), hw_ne (by omega), hw_ne (by omega), hw_ne (by omega), hw_ne (by omega), hw_ne (by omega)]
      exact f2 j a (by omega)
