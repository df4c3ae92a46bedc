/-! the soonest plan: found, the reference -/
/-- a deed in the reference's loop: the bits of its people -/
theorem s_287_x {r : zH} {f : Int → Int} {N D : Nat} (wr : wRoad r) (wl : wLaw f N) (hD5 : D ≤ 5) (hDr : r 0 1 = D) {d c k : Nat} {R : Int → Nat → zH → Prop} {X : Nat → Nat → zH → Prop} {h : zH} {s : sS} {j e : Nat} {gone : Int} (hjk : j + (k + 1) = D) (he : e < D) (mr : mRoad h r) (ml : mLaw h f N) (ck : mSq h s j gone) (ok : sOk s j) (ee : s.1 e = -1) (nee : ∀ i : Nat, i < e → zb (r 6 e) i = 1 → s.1 i ≠ -1)
    (IH : ∀ (R : Int → Nat → zH → Prop) (h : zH) (s : sS) (B : sB) (j : Nat) (gone : Int), j + k = D → mRoad h r → mLaw h f N → mSq h s j gone → sOk s j → mBs h D B → (∀ h', (∀ o i, ¬ mSf j o i → h' o i = h o i) → (∀ e : Int, 0 ≤ e → e < 12 → s.1 e ≠ -1 → h' 145 e = h 145 e) → mBs h' D (sPl r f N k s B) → R 0 c h') → zCl (d + 3) 287 [(2, 113), (0, (j : Int)), (0, gone), (0, s.2.2.1.1), (0, s.2.2.1.2)] c h R X)
    (Q : sB → Prop)
    (next : ∀ (h3 : zH) (B3 : sB), (∀ o i, ¬ mSf j o i → h3 o i = h o i) → (∀ e : Int, 0 ≤ e → e < 12 → s.1 e ≠ -1 → h3 145 e = h 145 e) → (∀ p' : Int, 0 ≤ p' → p' < 4 → h3 150 (4 * (j : Int) + p') = h 144 p') → mBs h3 D B3 → Q B3 → zWp (d + 4) 287 96 [(2, 113), (0, (j : Int)), (0, gone), (0, s.2.2.1.1), (0, s.2.2.1.2), (0, w32 ((e : Int) + 1)), (9, 0), (9, 0), (9, 0), (9, 0), (9, 0)] [] (zTS c h3) (zQ 0 R X)) :
    ∀ (h3 : zH) (B3 : sB), (∀ o i, ¬ mSf j o i → h3 o i = h o i) → (∀ e : Int, 0 ≤ e → e < 12 → s.1 e ≠ -1 → h3 145 e = h 145 e) → (∀ p' : Int, 0 ≤ p' → p' < 4 → h3 150 (4 * (j : Int) + p') = h 144 p') → mBs h3 D B3 → Q (sIt (fun x B => sXx r f N (sPl r f N k) s e x B) (sNx r) 1 B3) → zWp (d + 4) 287 139 [(2, 113), (0, (j : Int)), (0, gone), (0, s.2.2.1.1), (0, s.2.2.1.2), (0, (e : Int)), (0, 1), (9, 0), (9, 0), (9, 0), (9, 0)] [] (zTS c h3) (zQ 0 R X) := by
  have nx := sNx_e wr
  intro h2 B2 f2 s2 g2 c2 E
  have inner := zDown (W := fun x : Nat => 1 ≤ x → ∀ (h3 : zH) (B3 : sB), (∀ o i, ¬ mSf j o i → h3 o i = h o i) → (∀ e : Int, 0 ≤ e → e < 12 → s.1 e ≠ -1 → h3 145 e = h 145 e) → (∀ p' : Int, 0 ≤ p' → p' < 4 → h3 150 (4 * (j : Int) + p') = h 144 p') → mBs h3 D B3 → Q (sIt (fun x B => sXx r f N (sPl r f N k) s e x B) (sNx r + 1 - x) x B3) → zWp (d + 4) 287 139 [(2, 113), (0, (j : Int)), (0, gone), (0, s.2.2.1.1), (0, s.2.2.1.2), (0, (e : Int)), (0, (x : Int)), (9, 0), (9, 0), (9, 0), (9, 0)] [] (zTS c h3) (zQ 0 R X)) (sNx r + 1) ?_ ?_ 1 (by omega) (by omega) h2 B2 f2 s2 g2 c2 E
  · exact inner
  · intro _ h3 B3 f3 s3 g3 c3 E3
    have mr3 : mRoad h3 r := mRoad_fr (fun o i w => f3 o i (by unfold mRo at w; unfold mSf; omega)) mr
    rw [Nat.sub_self, sIt] at E3
    exact b_287_139 ⟨fun _ => next h3 B3 f3 s3 g3 c3 E3, fun w => by rw [mr_p mr3, nx.2.2] at w; omega⟩
  · intro x hx ih2 x1 h3 B3 f3 s3 g3 c3 E3
    have mr3 : mRoad h3 r := mRoad_fr (fun o i w => f3 o i (by unfold mRo at w; unfold mSf; omega)) mr
    have ml3 : mLaw h3 f N := mLaw_fr (fun o i w => f3 o i (by unfold mLo at w; unfold mSf; omega)) ml
    rw [show sNx r + 1 - x = (sNx r + 1 - (x + 1)) + 1 by omega, sIt, show (x : Int) + 1 = ((x + 1 : Nat) : Int) by omega] at E3
    have q1 := ck.1
    have q2 := ck.2.1
    refine s_287_139 (s := s) wr wl mr3 ml3 (by omega) (by omega) (by omega) ok (fun i hi hb => ?_) (fun p u v => ?_) (fun bb => ?_) (fun h4 f4 nb => ?_)
    · have ne := nee i hi hb
      exact ⟨by rw [s3 i (by omega) (by omega) ne, q1 i (by omega) (by omega) ne], ne⟩
    · rw [f3 _ _ (by unfold mSf; omega), q2 p u v]
    · have sx : sXx r f N (sPl r f N k) s e x B3 = B3 := by
        unfold sXx
        rw [if_pos bb]
      rw [sx] at E3
      rw [w32_s (by omega)]
      exact ih2 (by omega) h3 B3 f3 s3 g3 c3 E3
    · have sx : sXx r f N (sPl r f N k) s e x B3 = sPl r f N k (sSt r f N s e x) B3 := by
        unfold sXx
        rw [if_neg nb]
      rw [sx] at E3
      obtain ⟨ok', br, en⟩ := sOk_s (f := f) (N := N) (s := s) (d := e) (x := x) wr (by omega) ok (by omega) nb
      have mr4 : mRoad h4 r := mRoad_fr (fun o i w => f4 o i (by unfold mRo at w; omega) (by unfold mRo at w; omega)) mr3
      have w1 := ones_nn x
      have w2 := mWm_r wr e (sBg r s e x) (sEn r f N s e x)
      have w3 := Int.mul_nonneg w1.1 w2.1
      have w4 := Int.mul_le_mul w1.2 w2.2 w2.1 (by decide)
      have o4 := ok.2.2.2
      refine s_287_228 (F := s.2.1) mr4 wr (by omega) (by omega) (by omega) (by omega) (by omega) (fun p u v => ?_) (fun h5 f5 g5 => ?_)
      · rw [f4 _ _ (by decide) (by decide), f3 _ _ (by unfold mSf; omega), q2 p u v]
      · have ck6 := mSq_s (r := r) (f := f) (N := N) (h5 := h5) (x := x) (by omega) ck ee (by omega) (fun i u v w => by rw [f5 _ _ (by decide), f4 _ _ (by decide) (by decide), s3 i u v w]) g5 (fun i u => by rw [f5 _ _ (by decide), f4 _ _ (by decide) (by decide), f3 _ _ (by unfold mSf; omega)])
        obtain ⟨h6, hh6⟩ : ∃ h6, h6 = hw (hw (hw h5 145 e (sEn r f N s e x)) 152 (2 * (j : Int)) e) 152 (2 * (j : Int) + 1) x := ⟨_, rfl⟩
        rw [← hh6] at ck6 ⊢
        have f6 : ∀ o i : Int, o ≠ 145 → ¬ (o = 152 ∧ 2 * (j : Int) ≤ i) → h6 o i = h5 o i := fun o i u v => by rw [hh6, hw_ne (by omega), hw_ne (by omega), hw_ne (Or.inl u)]
        have f7 : ∀ i : Int, i ≠ e → h6 145 i = h5 145 i := fun i u => by rw [hh6, hw_ne (Or.inl (by decide)), hw_ne (Or.inl (by decide)), hw_ne (Or.inr u)]
        have ff : ∀ o i : Int, ¬ mSf j o i → o ≠ 144 → h6 o i = h o i := fun o i u v => by
          rw [f6 o i (fun w => u (by unfold mSf; omega)) (fun w => u (by unfold mSf; omega)), f5 o i v, f4 o i (fun w => u (by unfold mSf; omega)) (fun w => u (by unfold mSf; omega)), f3 o i u]
        have cb6 : mBs h6 D B3 := mBs_fr ⟨by rw [f6 _ _ (by decide) (by omega), f5 _ _ (by decide), f4 _ _ (by decide) (by decide)], by rw [f6 _ _ (by decide) (by omega), f5 _ _ (by decide), f4 _ _ (by decide) (by decide)]⟩ (fun i => by rw [f6 _ _ (by decide) (by omega), f5 _ _ (by decide), f4 _ _ (by decide) (by decide)]) c3
        have mr6 : mRoad h6 r := mRoad_fr (fun o i w => ff o i (by unfold mRo at w; unfold mSf; omega) (by unfold mRo at w; omega)) mr
        have ml6 : mLaw h6 f N := mLaw_fr (fun o i w => ff o i (by unfold mLo at w; unfold mSf; omega) (by unfold mLo at w; omega)) ml
        rw [show ((j : Int) + 1) = ((j + 1 : Nat) : Int) by omega] at ok'
        refine IH _ h6 (sSt r f N s e x) B3 (j + 1) (zOr gone (zShl 1 e)) (by omega) mr6 ml6 ck6 ok' cb6 (fun h7 g7 s7 c7 => ?_)
        have e150 : ∀ p : Int, 0 ≤ p → p < 4 → h7 150 (4 * (j : Int) + p) = h 144 p := fun p u v => by
          rw [g7 _ _ (by unfold mSf; omega), f6 _ _ (by decide) (by omega), f5 _ _ (by decide), f4 _ _ (by decide) (by decide), g3 p u v]
        refine s_287_327 (G := h 144) (by omega) e150 (fun h8 f8 g8 => ?_)
        rw [w32_s (by omega)]
        refine ih2 (by omega) h8 _ (fun o i u => ?_) (fun i u v w => ?_) (fun p u v => ?_) (mBs_fr ⟨f8 _ _ (by decide), f8 _ _ (by decide)⟩ (fun i => f8 _ _ (by decide)) c7) E3
        · by_cases y : o = 144
          · subst y
            have u' : 0 ≤ i ∧ i < 4 := by
              unfold mSf at u
              omega
            exact g8 i u'.1 u'.2
          · rw [f8 o i y, g7 o i (by unfold mSf at u ⊢; omega), ff o i u y]
        · have ne : i ≠ e := fun y => w (by rw [y]; exact ee)
          rw [f8 _ _ (by decide), s7 i u v (by show (if i = (e : Int) then sEn r f N s e x else s.1 i) ≠ -1; rw [if_neg ne]; exact w), f7 i ne, f5 _ _ (by decide), f4 _ _ (by decide) (by decide), s3 i u v w]
        · rw [f8 _ _ (by decide)]
          exact e150 p u v
theorem s_287 {r : zH} {f : Int → Int} {N D : Nat} (wr : wRoad r) (wl : wLaw f N) (hD5 : D ≤ 5) (hDr : r 0 1 = D) {d c : Nat} {X : Nat → Nat → zH → Prop} : ∀ (k : Nat) (R : Int → Nat → zH → Prop) (h : zH) (s : sS) (B : sB) (j : Nat) (gone : Int), j + k = D → mRoad h r → mLaw h f N → mSq h s j gone → sOk s j → mBs h D B → (∀ h', (∀ o i, ¬ mSf j o i → h' o i = h o i) → (∀ e : Int, 0 ≤ e → e < 12 → s.1 e ≠ -1 → h' 145 e = h 145 e) → mBs h' D (sPl r f N k s B) → R 0 c h') → zCl (d + k + 4) 287 [(2, 113), (0, (j : Int)), (0, gone), (0, s.2.2.1.1), (0, s.2.2.1.2)] c h R X := by
  intro k
  induction k with
  | zero =>
    intro R h s B j gone hjk mr ml ck ok cb K
    obtain ⟨q1, q2, q3, q4, q5, q6⟩ := ck
    obtain ⟨b1, b2, b3⟩ := cb
    have eD := mr_d mr
    rw [sPl] at K
    have keep : vlt s.2.2.1 B.1 → zCl (d + 0 + 3) 218 [(2, 113), (2, 152), (2, 151), (0, 10)] c (hw (hw h 113 63 s.2.2.1.1) 113 64 s.2.2.1.2) (fun _ c h => R 0 c h) X := by
      intro vl
      rw [if_pos vl] at K
      refine s_218 (m := 10) zo_152 zo_151 (by decide) (by decide) (fun h1 f1 g1 _ => ?_)
      obtain ⟨o1, o2, o3, o4⟩ := ok
      refine K h1 (fun o i u => ?_) (fun e _ _ _ => ?_) ⟨⟨?_, ?_⟩, fun _ i u v => ?_, ?_⟩
      · unfold mSf at u
        rw [f1 o i (by omega), hw_ne (by omega), hw_ne (by omega)]
      · rw [f1 _ _ (by omega), hw_ne (by omega), hw_ne (by omega)]
      · rw [f1 _ _ (by omega), hw_ne (by omega), hw_eq ⟨rfl, rfl⟩]
      · rw [f1 _ _ (by omega), hw_eq ⟨rfl, rfl⟩]
      · rw [g1 _ (by omega) (by omega), g1 _ (by omega) (by omega), hw_ne (by omega), hw_ne (by omega), hw_ne (by omega), hw_ne (by omega)]
        exact q6 i u (by omega)
      · show 0 ≤ s.2.2.1.1 ∧ s.2.2.1.1 ≤ 1000000 ∧ 0 ≤ s.2.2.1.2
        omega
    have skip : ¬ vlt s.2.2.1 B.1 → R 0 c h := by
      intro nv
      rw [if_neg nv] at K
      exact K h (fun _ _ _ => rfl) (fun _ _ _ _ => rfl) ⟨b1, b2, b3⟩
    unfold vlt at keep skip
    refine b_287 ⟨fun w => skip (by omega), fun w => ⟨fun ne => ⟨fun v => absurd (by rw [eD]; omega) v, fun _ => keep (by omega)⟩, fun ee => ⟨fun lt => ⟨fun v => absurd (by rw [eD]; omega) v, fun _ => keep (by omega)⟩, fun ge => skip (by omega)⟩⟩⟩
  | succ k IH =>
    intro R h s B j gone hjk mr ml ck ok cb K
    have eD := mr_d mr
    have skip : ¬ vlt s.2.2.1 B.1 → R 0 c h := by
      intro nv
      rw [sPl_pr wr nv] at K
      exact K h (fun _ _ _ => rfl) (fun _ _ _ _ => rfl) cb
    rw [sPl, show (r 0 1).toNat = D by omega] at K
    have go : zWp (d + k + 1 + 4) 287 63 [(2, 113), (0, (j : Int)), (0, gone), (0, s.2.2.1.1), (0, s.2.2.1.2), (0, 0), (9, 0), (9, 0), (9, 0), (9, 0), (9, 0)] [] (zTS c h) (zQ 0 R X) := by
      have e4j : w32 (4 * (j : Int)) = 4 * j := w32_e (by omega) (by omega)
      have main := zDown (W := fun p : Nat => ∀ h1 : zH, (∀ o i : Int, ¬ (o = 150 ∧ 4 * (j : Int) ≤ i) → h1 o i = h o i) → (∀ p' : Int, 0 ≤ p' → p' < p → h1 150 (4 * (j : Int) + p') = h 144 p') → zWp (d + k + 1 + 4) 287 63 [(2, 113), (0, (j : Int)), (0, gone), (0, s.2.2.1.1), (0, s.2.2.1.2), (0, (p : Int)), (9, 0), (9, 0), (9, 0), (9, 0), (9, 0)] [] (zTS c h1) (zQ 0 R X)) 4 ?_ ?_ 0 (by decide) h (fun _ _ _ => rfl) (fun p' u v => by omega)
      · exact main
      · intro h1 f1 g1
        refine b_287_63 ⟨fun _ => ?_, fun w => by omega⟩
        have outer := zDown (W := fun e : Nat => ∀ (h2 : zH) (B2 : sB), (∀ o i : Int, ¬ mSf j o i → h2 o i = h o i) → (∀ e : Int, 0 ≤ e → e < 12 → s.1 e ≠ -1 → h2 145 e = h 145 e) → (∀ p' : Int, 0 ≤ p' → p' < 4 → h2 150 (4 * (j : Int) + p') = h 144 p') → mBs h2 D B2 → sIt (fun d B => sDd r f N (sPl r f N k) s d B) (D - e) e B2 = sIt (fun d B => sDd r f N (sPl r f N k) s d B) D 0 B → zWp (d + k + 1 + 4) 287 96 [(2, 113), (0, (j : Int)), (0, gone), (0, s.2.2.1.1), (0, s.2.2.1.2), (0, (e : Int)), (9, 0), (9, 0), (9, 0), (9, 0), (9, 0)] [] (zTS c h2) (zQ 0 R X)) D ?_ ?_ 0 (by omega) h1 B (fun o i u => f1 o i (fun w => u (by unfold mSf; omega))) (fun e _ _ _ => f1 _ _ (by omega)) (fun p' u v => g1 p' u (by omega)) (mBs_fr ⟨f1 _ _ (by omega), f1 _ _ (by omega)⟩ (fun i => f1 _ _ (by omega)) cb) rfl
        · exact outer
        · intro h2 B2 f2 s2 g2 c2 E
          rw [Nat.sub_self, sIt] at E
          rw [← E] at K
          refine b_287_96 ⟨fun _ => K h2 f2 s2 c2, fun w => ?_⟩
          rw [f2 _ _ (by unfold mSf; omega), eD] at w
          omega
        · intro e he ih h2 B2 f2 s2 g2 c2 E
          have mr2 : mRoad h2 r := mRoad_fr (fun o i w => f2 o i (by unfold mRo at w; unfold mSf; omega)) mr
          have eD2 := mr_d mr2
          rw [show D - e = (D - (e + 1)) + 1 by omega, sIt] at E
          have nxt : ∀ (h3 : zH) (B3 : sB), (∀ o i : Int, ¬ mSf j o i → h3 o i = h o i) → (∀ e : Int, 0 ≤ e → e < 12 → s.1 e ≠ -1 → h3 145 e = h 145 e) → (∀ p' : Int, 0 ≤ p' → p' < 4 → h3 150 (4 * (j : Int) + p') = h 144 p') → mBs h3 D B3 → sIt (fun d B => sDd r f N (sPl r f N k) s d B) (D - (e + 1)) ((e : Int) + 1) B3 = sIt (fun d B => sDd r f N (sPl r f N k) s d B) D 0 B → zWp (d + k + 1 + 4) 287 96 [(2, 113), (0, (j : Int)), (0, gone), (0, s.2.2.1.1), (0, s.2.2.1.2), (0, w32 ((e : Int) + 1)), (9, 0), (9, 0), (9, 0), (9, 0), (9, 0)] [] (zTS c h3) (zQ 0 R X) := by
            intro h3 B3 f3 s3 g3 c3 E3
            rw [w32_s (by omega)]
            rw [show (e : Int) + 1 = ((e + 1 : Nat) : Int) by omega] at E3
            exact ih h3 B3 f3 s3 g3 c3 E3
          have nd := nd_r wr (k := e) (by omega)
          have e54 : w32 (w32 (5 * (e : Int)) + 4) = 5 * e + 4 := by rw [w32_e (x := 5 * (e : Int)) (by omega) (by omega), w32_e (by omega) (by omega)]
          have nd16 : r 6 e < 16 := by
            have e5 : e = 0 ∨ e = 1 ∨ e = 2 ∨ e = 3 ∨ e = 4 := by omega
            rcases e5 with w | w | w | w | w <;> subst w <;> omega
          have q3 := ck.2.2.1
          have q4 := ck.2.2.2.1
          have z := q4 e (by omega) (by omega)
          have zg : zAnd (r 6 e) (zXor gone (-1)) = 0 → ∀ i : Nat, i < 5 → zb (r 6 e) i = 1 → zb gone i = 1 := by
            obtain ⟨m, hm⟩ := nat_of nd.1
            obtain ⟨gn, hg⟩ := nat_of q3.1
            have := zGn0 m (by omega) gn (by omega)
            rw [← hm, ← hg] at this
            exact this
          have zg1 : zAnd (r 6 e) (zXor gone (-1)) ≠ 0 → ¬ ∀ i : Nat, i < 5 → zb (r 6 e) i = 1 → zb gone i = 1 := by
            obtain ⟨m, hm⟩ := nat_of nd.1
            obtain ⟨gn, hg⟩ := nat_of q3.1
            have := zGn1 m (by omega) gn (by omega)
            rw [← hm, ← hg] at this
            exact this
          refine b_287_96 ⟨fun w => by rw [eD2] at w; omega, fun _ => ⟨fun zo => nxt h2 B2 f2 s2 g2 c2 ?_, fun nz => ?_⟩⟩
          · have sd : sDd r f N (sPl r f N k) s e B2 = B2 := by
              unfold sDd
              rw [if_neg (z.mp zo)]
            rw [sd] at E
            exact E
          · have ee : s.1 e = -1 := by
              by_cases w : s.1 e = -1
              · exact w
              · exact absurd (z.mpr w) nz
            rw [e54, (mr_deed mr2 e (by omega) (by omega)).2.2.2.2]
            refine ⟨by omega, fun sub => ?_, fun nsub => nxt h2 B2 f2 s2 g2 c2 ?_⟩
            · have sd : sDd r f N (sPl r f N k) s e B2 = sIt (fun x B => sXx r f N (sPl r f N k) s e x B) (sNx r) 1 B2 := by
                unfold sDd
                rw [if_pos ee]
              rw [sd] at E
              exact s_287_x (k := k) wr wl hD5 hDr (by omega) he mr ml ck ok ee (fun i hi hb => (q4 i (by omega) (by omega)).mp (zg sub i (by omega) hb)) IH (fun B3 => sIt (fun d B => sDd r f N (sPl r f N k) s d B) (D - (e + 1)) ((e : Int) + 1) B3 = sIt (fun d B => sDd r f N (sPl r f N k) s d B) D 0 B) nxt h2 B2 f2 s2 g2 c2 E
            · have md : mDn s.1 (zb (r 6 e)) ((e : Int)).toNat = -1 := by
                by_cases y : mDn s.1 (zb (r 6 e)) ((e : Int)).toNat = -1
                · exact y
                · exfalso
                  apply zg1 nsub
                  intro i i5 ib
                  have ie : (i : Int) < e := by
                    by_cases y2 : (i : Int) < e
                    · exact y2
                    · have := zb_hi (x := r 6 e) (p := i) (n := e) nd.1 nd.2.2 (by omega) (by omega) (by omega)
                      omega
                  exact (q4 i (by omega) (by omega)).mpr (mDn_i y i (by omega) ib)
              have sd : sDd r f N (sPl r f N k) s e B2 = B2 := by
                unfold sDd
                rw [if_pos ee]
                refine sIt_id _ _ _ (fun x _ _ => ?_)
                have bad : sBg r s e x = -1 := by
                  unfold sBg mEar
                  split
                  · unfold mBeg
                    rw [if_pos md]
                  · rfl
                unfold sXx
                rw [if_pos bad]
              rw [sd] at E
              exact E
      · intro p hp ih h1 f1 g1
        refine b_287_63 ⟨fun w => by omega, fun _ => ?_⟩
        rw [e4j, w32_e (x := 4 * (j : Int) + p) (by omega) (by omega), w32_s (by omega)]
        refine ⟨by omega, by omega, ih _ (fun o i u => by rw [hw_ne (by omega), f1 o i u]) (fun p' u v => ?_)⟩
        by_cases y : p' = p
        · rw [hw_eq ⟨rfl, by omega⟩, y, f1 _ _ (by omega)]
        · rw [hw_ne (by omega)]
          exact g1 p' u (by omega)
    obtain ⟨b1, b2, b3⟩ := cb
    unfold vlt at skip
    refine b_287 (d := d + k + 1) ⟨fun w => skip (by omega), fun w => ⟨fun ne => ⟨fun _ => go, fun v => by rw [eD] at v; omega⟩, fun ee => ⟨fun lt => ⟨fun _ => go, fun v => by rw [eD] at v; omega⟩, fun ge => skip (by omega)⟩⟩⟩
def mSh (o i : Int) : Prop := (o = 113 ∧ (i = 63 ∨ i = 64)) ∨ o = 151 ∨ o = 152 ∨ o = 150 ∨ o = 145 ∨ o = 136 ∨ o = 137 ∨ o = 144
theorem s_286 {r : zH} {f : Int → Int} {N : Nat} (wr : wRoad r) (wl : wLaw f N) {d c : Nat} {R : Int → Nat → zH → Prop} {X : Nat → Nat → zH → Prop} {h : zH} (mr : mRoad h r) (ml : mLaw h f N) (hD : r 0 1 ≤ 5) (K : ∀ h', (∀ o i : Int, ¬ mSh o i → h' o i = h o i) → mBs h' (r 0 1).toNat (sFull r f N) → R 0 c h') : zCl (d + 10) 286 [(2, 113)] c h R X := by
  have wd := wr_d wr
  obtain ⟨D, hDr⟩ := nat_of wd.1
  rw [show (r 0 1).toNat = D by omega] at K
  refine b_286 (d := d + 5) ?_
  have main := zDown (W := fun p : Nat => ∀ h1 : zH, (∀ o i : Int, o ≠ 144 → h1 o i = h o i) → (∀ p' : Int, 0 ≤ p' → p' < p → h1 144 p' = 0) → zWp (d + 5 + 5) 286 2 [(2, 113), (0, (p : Int))] [] (zTS c h1) (zQ 0 R X)) 4 ?_ ?_ 0 (by decide) h (fun _ _ _ => rfl) (fun p' u v => by omega)
  · exact main
  · intro h1 f1 g1
    refine b_286_2 ⟨fun _ => ?_, fun w => by omega⟩
    obtain ⟨h2, hh2⟩ : ∃ h2, h2 = hw (hw h1 113 63 1000000) 113 64 0 := ⟨_, rfl⟩
    rw [← hh2]
    have f2 : ∀ o i : Int, ¬ (o = 113 ∧ (i = 63 ∨ i = 64)) → h2 o i = h1 o i := fun o i u => by rw [hh2, hw_ne (by omega), hw_ne (by omega)]
    have mr2 : mRoad h2 r := mRoad_fr (fun o i w => by rw [f2 o i (by unfold mRo at w; omega), f1 o i (by unfold mRo at w; omega)]) mr
    have ml2 : mLaw h2 f N := mLaw_fr (fun o i w => by rw [f2 o i (by unfold mLo at w; omega), f1 o i (by unfold mLo at w; omega)]) ml
    have ck : mSq h2 s00 ((0 : Nat) : Int) 0 := by
      refine ⟨fun e _ _ w => absurd rfl w, fun p u v => ?_, by decide, fun e u v => ?_, rfl, fun i u v => by omega⟩
      · rw [f2 _ _ (by omega), g1 p u v]
        rfl
      · constructor
        · intro w
          have : zb 0 e = 0 := zb_hi (n := 0) (by decide) (by decide) (by decide) (by omega) (by omega)
          omega
        · intro w
          exact absurd rfl w
    have ok : sOk s00 ((0 : Nat) : Int) := ⟨fun _ _ _ => by show -1 ≤ (-1 : Int) ∧ (-1 : Int) ≤ _; omega, fun _ _ _ => by show 0 ≤ (0 : Int) ∧ (0 : Int) ≤ _; omega, by show 0 ≤ (0 : Int) ∧ (0 : Int) ≤ _; omega, by show 0 ≤ (0 : Int) ∧ (0 : Int) ≤ _; omega⟩
    have cb : mBs h2 D B00 := ⟨⟨by rw [hh2, hw_ne (by omega), hw_eq ⟨rfl, rfl⟩]; rfl, by rw [hh2, hw_eq ⟨rfl, rfl⟩]; rfl⟩, fun w => absurd rfl w, by decide⟩
    have S := s_287 (r := r) (f := f) (N := N) (D := D) wr wl (by omega) hDr (d := d + (5 - D)) (c := c) (X := X) D (fun _ c h => R 0 c h) h2 s00 B00 0 0 (by omega) mr2 ml2 ck ok cb (fun h3 f3 _ c3 => K h3 (fun o i u => ?_) ?_)
    · rw [show d + (5 - D) + D + 4 = d + 5 + 4 by omega] at S
      exact S
    · rw [f3 o i (fun w => u (by unfold mSf at w; unfold mSh; omega)), f2 o i (fun w => u (by unfold mSh; omega)), f1 o i (fun w => u (by unfold mSh; omega))]
    · have e : sFull r f N = sPl r f N D s00 B00 := by
        unfold sFull
        rw [show (r 0 1).toNat = D by omega]
      rw [e]
      exact c3
  · intro p hp ih h1 f1 g1
    refine b_286_2 ⟨fun w => by omega, fun _ => ⟨by omega, ?_⟩⟩
    rw [w32_s (by omega)]
    refine ih _ (fun o i u => by rw [hw_ne (Or.inl u), f1 o i u]) (fun p' u v => ?_)
    by_cases y : p' = p
    · rw [hw_eq ⟨rfl, y⟩]
    · rw [hw_ne (Or.inr y)]
      exact g1 p' u (by omega)
