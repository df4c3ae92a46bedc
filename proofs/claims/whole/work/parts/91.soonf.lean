/-! the soonest plan: found, the class -/
theorem s_147 {d c : Nat} {R : Int → Nat → zH → Prop} {X : Nat → Nat → zH → Prop} {h : zH} {s : sS} {j : Int} (hj : 0 ≤ j ∧ j ≤ 5) (ck : cSk h s j) (ok : sOk s j) (k : ∀ h', (∀ o i, ¬ (o = 11 ∧ (i = 9 ∨ i = 10)) → o ≠ 14 → h' o i = h o i) → cBs h' (s.2.2.1, s.2.2.2) → R 0 c h') : zCl d 147 [(2, 11), (0, j)] c h R X := by
  obtain ⟨q1, q2, q3, q4, q5⟩ := ck
  obtain ⟨o1, o2, o3, o4⟩ := ok
  obtain ⟨n, hn⟩ := nat_of hj.1
  refine b_147 ⟨by omega, by omega, ?_⟩
  rw [q3.1, q3.2]
  obtain ⟨h0, hh0⟩ : ∃ h0, h0 = hw (hw h 11 9 s.2.2.1.1) 11 10 s.2.2.1.2 := ⟨_, rfl⟩
  rw [← hh0]
  have f0 : ∀ o i, ¬ (o = 11 ∧ (i = 9 ∨ i = 10)) → h0 o i = h o i := fun o i u => by rw [hh0, hw_ne (by omega), hw_ne (by omega)]
  have main := zDown (W := fun i : Nat => ∀ h1, (∀ o i, o ≠ 14 → h1 o i = h0 o i) → (∀ i' : Int, 0 ≤ i' → i' < i → h1 14 i' = 100 * pD s.2.2.2 i' + pB s.2.2.2 i') → zWp d 147 22 [(2, 11), (0, j), (0, (i : Int))] [] (zTS c h1) (zQ 0 R X)) n ?_ ?_ 0 (by omega) h0 (fun _ _ _ => rfl) (fun i' u v => by omega)
  · exact main
  · intro h1 f1 g1
    refine b_147_22 ⟨fun _ => k h1 (fun o i u v => by rw [f1 o i v, f0 o i u]) ⟨fun e => ?_, fun _ => ⟨⟨?_, ?_⟩, fun i u v => ?_⟩, ?_⟩, fun w => by omega⟩
    · have e' : s.2.2.1.1 = 1000000 := e
      omega
    · rw [f1 _ _ (by omega), hh0, hw_ne (by omega), hw_eq ⟨rfl, rfl⟩]
    · rw [f1 _ _ (by omega), hh0, hw_eq ⟨rfl, rfl⟩]
    · have v' : i < (s.2.2.2.length : Int) := v
      exact g1 i u (by omega)
    · show 0 ≤ s.2.2.1.1 ∧ s.2.2.1.1 ≤ 1000000 ∧ 0 ≤ s.2.2.1.2
      omega
  · intro i hi ih h1 f1 g1
    have q := q5 i (by omega) (by omega)
    refine b_147_22 ⟨fun w => by omega, fun _ => ⟨by omega, by omega, by omega, ?_⟩⟩
    rw [f1 12 i (by omega), f1 13 i (by omega), f0 _ _ (by omega), f0 _ _ (by omega), q.1.1, q.1.2, w32_e (x := 100 * pD s.2.2.2 i) (by omega) (by omega), w32_e (x := 100 * pD s.2.2.2 i + pB s.2.2.2 i) (by omega) (by omega), w32_s (by omega)]
    refine ih _ (fun o i u => by rw [hw_ne (by omega), f1 o i u]) (fun i' u v => ?_)
    by_cases y : i' = i
    · rw [hw_eq ⟨rfl, y⟩, y]
    · rw [hw_ne (by omega)]
      exact g1 i' u (by omega)
/-- the cells that extending at a depth changes -/
def cSf (l j o i : Int) : Prop := (o = 11 ∧ (i = 9 ∨ i = 10)) ∨ o = 14 ∨ ((o = 12 ∨ o = 13) ∧ j ≤ i) ∨ (17 + j < o ∧ o ≤ 22) ∨ ((o = 23 ∨ o = 24) ∧ j < i) ∨ o = l + 2 ∨ o = l + 3
theorem cSk_fr {h h' : zH} {s : sS} {l j : Int} (hl : l = 70 ∨ l = 74) (hj : 0 ≤ j ∧ j ≤ 5) (fr : ∀ o i, ¬ cSf l j o i → h' o i = h o i) (ck : cSk h s j) : cSk h' s j := by
  obtain ⟨q1, q2, q3, q4, q5⟩ := ck
  unfold cSf at fr
  refine ⟨fun e u v => ?_, fun p u v => ?_, ⟨?_, ?_⟩, q4, fun i u v => ?_⟩
  · rw [fr _ _ (by omega)]; exact q1 e u v
  · rw [fr _ _ (by omega)]; exact q2 p u v
  · rw [fr _ _ (by omega)]; exact q3.1
  · rw [fr _ _ (by omega)]; exact q3.2
  · rw [fr _ _ (by omega), fr _ _ (by omega)]; exact q5 i u v
theorem cTw_fr {r h h' : zH} {f : Int → Int} {N : Nat} {a : Int} (fr : h' 25 a = h 25 a) (w : cTw r h f N a) : cTw r h' f N a := by
  unfold cTw at w ⊢
  rw [fr]
  exact w
theorem s_146 {r : zH} {f : Int → Int} {N D : Nat} {t l : Int} {s0 : sS} (ht : zIsR t) (hl : l = 70 ∨ l = 74) (wr : wRoad r) (wl : wLaw f N) (hD5 : D ≤ 5) (hDr : r 0 1 = D) (hs0 : s0.2.2.2 = []) {d c : Nat} {X : Nat → Nat → zH → Prop} : ∀ (k : Nat) (R : Int → Nat → zH → Prop) (h : zH) (s : sS) (B : sB) (j : Nat), j + k = D → cRoad t h r → cLaw l h f N → cSk h s j → sOk s j → cBs h B → (∀ a : Int, 0 ≤ a → a < r 0 0 → cTw r h f N a) → sCp r f N j s0 s.2.2.2 s → sInv r f N D s0 s B → vlt s.2.2.1 B.1 → (∀ h', (∀ o i, ¬ cSf l j o i → h' o i = h o i) → cBs h' (sPl r f N k s B) → R 0 c h') → zCl (d + k + 5) 146 [(2, 11), (2, t), (2, l), (0, (j : Int))] c h R X := by
  have nx := sNx_e wr
  have wp := wr_p wr
  have ht' := ht
  unfold zIsR at ht'
  intro k
  induction k with
  | zero =>
    intro R h s B j hjk cr cl ck ok cb tw hs inv vl K
    rw [sPl, if_pos vl] at K
    refine b_146 ht hl ⟨fun w => by rw [cr_d cr] at w; omega, fun _ => s_147 (by omega) ck ok (fun h' f' g' => K h' (fun o i u => f' o i (by unfold cSf at u; omega) (by unfold cSf at u; omega)) g')⟩
  | succ k IH =>
    intro R h s B j hjk cr cl ck ok cb tw hs inv vl K
    rw [sPl, show (r 0 1).toNat = D by omega] at K
    refine b_146 (d := d + k + 1) ht hl ⟨fun _ => ?_, fun w => by rw [cr_d cr] at w; omega⟩
    have outer := zDown (W := fun e : Nat => ∀ (h1 : zH) (B1 : sB), (∀ o i, ¬ cSf l j o i → h1 o i = h o i) → cBs h1 B1 → sFi r f N D k s0 s e 1 B1 → sIt (fun d B => sDd r f N (sPl r f N k) s d B) (D - e) e B1 = sIt (fun d B => sDd r f N (sPl r f N k) s d B) D 0 B → zWp (d + k + 1 + 5) 146 17 [(2, 11), (2, t), (2, l), (0, (j : Int)), (0, (e : Int)), (9, 0)] [] (zTS c h1) (zQ 0 R X)) D ?_ ?_ 0 (by omega) h B (fun _ _ _ => rfl) cb (sFi_0 inv) rfl
    · exact outer
    · intro h1 B1 f1 c1 fi E
      rw [Nat.sub_self, sIt] at E
      rw [← E] at K
      refine b_146_17 ht hl ⟨fun _ => K h1 f1 c1, fun w => ?_⟩
      rw [f1 _ _ (by unfold cSf; omega), cr_d cr] at w
      omega
    · intro e he ih h1 B1 f1 c1 fi E
      have cr1 : cRoad t h1 r := cRoad_fr (fun o i o1 o2 => f1 o i (by unfold cSf; omega)) cr
      have ck1 := cSk_fr hl (by omega) f1 ck
      rw [show D - e = (D - (e + 1)) + 1 by omega, sIt] at E
      refine b_146_17 ht hl ⟨fun w => by rw [cr_d cr1] at w; omega, fun _ => ⟨by omega, fun ne => ?_, fun ee => ?_⟩⟩
      · rw [ck1.1 e (by omega) (by omega)] at ne
        have sd : sDd r f N (sPl r f N k) s e B1 = B1 := by
          unfold sDd
          rw [if_neg ne]
        rw [sd] at E
        rw [w32_s (by omega)]
        have fi' := sFi_n ne fi
        rw [show (e : Int) + 1 = ((e + 1 : Nat) : Int) by omega] at E fi'
        exact ih h1 B1 f1 c1 fi' E
      · rw [ck1.1 e (by omega) (by omega)] at ee
        have sd : sDd r f N (sPl r f N k) s e B1 = sIt (fun x B => sXx r f N (sPl r f N k) s e x B) (sNx r) 1 B1 := by
          unfold sDd
          rw [if_pos ee]
        rw [sd] at E
        have inner := zDown (W := fun x : Nat => 1 ≤ x → ∀ (h2 : zH) (B2 : sB), (∀ o i, ¬ cSf l j o i → h2 o i = h o i) → cBs h2 B2 → sFi r f N D k s0 s e x B2 → sIt (fun d B => sDd r f N (sPl r f N k) s d B) (D - (e + 1)) ((e : Int) + 1) (sIt (fun x B => sXx r f N (sPl r f N k) s e x B) (sNx r + 1 - x) x B2) = sIt (fun d B => sDd r f N (sPl r f N k) s d B) D 0 B → zWp (d + k + 1 + 5) 146 40 [(2, 11), (2, t), (2, l), (0, (j : Int)), (0, (e : Int)), (0, (x : Int))] [] (zTS c h2) (zQ 0 R X)) (sNx r + 1) ?_ ?_ 1 (by omega) (by omega) h1 B1 f1 c1 fi E
        · exact inner
        · intro _ h2 B2 f2 c2 fi2 E2
          have cr2 : cRoad t h2 r := cRoad_fr (fun o i o1 o2 => f2 o i (by unfold cSf; omega)) cr
          rw [Nat.sub_self, sIt] at E2
          refine b_146_40 ht hl ⟨fun _ => ?_, fun w => by rw [cr_p cr2, nx.2.2] at w; omega⟩
          rw [w32_s (by omega)]
          have fi' := sFi_d (by rw [show ((sNx r : Nat) : Int) + 1 = ((sNx r + 1 : Nat) : Int) by omega]; exact fi2)
          rw [show (e : Int) + 1 = ((e + 1 : Nat) : Int) by omega] at E2 fi'
          exact ih h2 B2 f2 c2 fi' E2
        · intro x hx ih2 x1 h2 B2 f2 c2 fi2 E2
          have cr2 : cRoad t h2 r := cRoad_fr (fun o i o1 o2 => f2 o i (by unfold cSf; omega)) cr
          have cl2 : cLaw l h2 f N := cLaw_fr (fun o i w => f2 o i (by unfold cSf; omega)) cl
          have ck2 := cSk_fr hl (by omega) f2 ck
          have tw2 : ∀ a : Int, 0 ≤ a → a < r 0 0 → cTw r h2 f N a := fun a u v => cTw_fr (f2 _ _ (by unfold cSf; omega)) (tw a u v)
          rw [show sNx r + 1 - x = (sNx r + 1 - (x + 1)) + 1 by omega, sIt] at E2
          have fi3 := sFi_x fi2
          refine b_146_40 ht hl ⟨fun w => by rw [cr_p cr2, nx.2.2] at w; omega, fun _ => ?_⟩
          refine s_148 (d := d + k + 1) (s0 := s0) (D := D) (k := k) ht hl cr2 wr cl2 wl (by omega) (by omega) (by omega) ck2 ok c2 tw2 (by rw [Int.toNat_natCast]; exact hs) (by rw [Int.toNat_natCast]; omega) fi2 ee (fun h3 f3 sk => ⟨fun _ => ?_, fun v => absurd rfl v⟩) (fun h3 f3 ck3 nb vl3 => ⟨fun v => absurd v (by decide), fun _ => ?_⟩)
          · rw [sk] at E2 fi3
            rw [w32_s (by omega)]
            rw [show (x : Int) + 1 = ((x + 1 : Nat) : Int) by omega] at E2 fi3
            refine ih2 (by omega) h3 B2 (fun o i u => ?_) ?_ fi3 E2
            · rw [f3 o i (by unfold cSf at u; unfold cSg; omega), f2 o i u]
            · exact cBs_fr ⟨f3 _ _ (by unfold cSg; omega), f3 _ _ (by unfold cSg; omega)⟩ (fun i => f3 _ _ (by unfold cSg; omega)) c2
          · have ok3 := (sOk_s (f := f) (N := N) (s := s) (d := e) (x := x) wr (by omega) ok (by omega) nb).1
            have sx : sXx r f N (sPl r f N k) s e x B2 = sPl r f N k (sSt r f N s e x) B2 := by
              unfold sXx
              rw [if_neg nb]
            rw [sx] at E2 fi3
            rw [w32_s (by omega)]
            have f3' : ∀ o i, (o < 11 ∨ o = 11 ∨ o = 14 ∨ o = 25 ∨ 26 ≤ o) → o ≠ l + 2 → o ≠ l + 3 → h3 o i = h2 o i := fun o i u v w => f3 o i (by unfold cSg; omega) (by omega)
            have hs3 : sCp r f N (j + 1) s0 (sSt r f N s e x).2.2.2 (sSt r f N s e x) := by
              have : sCp r f N 1 s [((e : Int), (x : Int))] (sSt r f N s e x) := sCp_c.mpr ⟨by omega, by omega, ee, nb, ⟨rfl, rfl⟩⟩
              exact sCp_app hs this
            rw [show (j : Int) + 1 = ((j + 1 : Nat) : Int) by omega] at ck3 ok3
            refine IH _ h3 (sSt r f N s e x) B2 (j + 1) (by omega) (cRoad_fr (fun o i o1 o2 => f3' o i (by omega) (by omega) (by omega)) cr2) (cLaw_fr (fun o i w => f3' o i (by omega) (by omega) (by omega)) cl2) ck3 ok3 (cBs_fr ⟨f3' _ _ (by omega) (by omega) (by omega), f3' _ _ (by omega) (by omega) (by omega)⟩ (fun i => f3' _ _ (by omega) (by omega) (by omega)) c2) (fun a u v => cTw_fr (f3' _ _ (by omega) (by omega) (by omega)) (tw2 a u v)) hs3 (sFi_c hs0 hs (by omega) fi2) vl3 (fun h4 f4 c4 => ⟨by omega, ?_⟩)
            rw [w32_s (by omega)]
            rw [show (x : Int) + 1 = ((x + 1 : Nat) : Int) by omega] at E2 fi3
            refine ih2 (by omega) _ _ (fun o i u => ?_) (cBs_fr ⟨hw_ne (by omega), hw_ne (by omega)⟩ (fun i => hw_ne (by omega)) c4) fi3 E2
            by_cases w : o = 15 ∧ i = e
            · rw [hw_eq w, w.1, w.2, ck.1 e (by omega) (by omega), ee]
            · rw [hw_ne (by omega), f4 o i (by unfold cSf at u ⊢; omega), f3 o i (by unfold cSf at u; unfold cSg; omega) w, f2 o i u]
/-- no plan, if nobody can do a deed -/
theorem sBg_nn {r : zH} {s : sS} {d x : Int} (h : sBg r s d x ≠ -1) : 0 ≤ sBg r s d x ∧ mCan r x d := by
  unfold sBg mEar at h ⊢
  by_cases w : mCan r x d
  · rw [if_pos w] at h ⊢
    unfold mBeg at h ⊢
    by_cases v : mDn s.1 (zb (r 6 d)) d.toNat = -1
    · rw [if_pos v] at h
      exact absurd rfl h
    · rw [if_neg v] at h ⊢
      have h1 := mDn_ge s.1 (zb (r 6 d)) d.toNat
      have h2 := mMx_ge s.2.1 (zb x) (r 0 0).toNat
      refine ⟨?_, w⟩
      unfold zMx
      split
      · omega
      · omega
  · rw [if_neg w] at h
    exact absurd rfl h
def sCn (s : sS) (D : Nat) : Int := mSum (fun e => if s.1 e = -1 then 0 else 1) D
theorem sCp_n {r : zH} {f : Int → Int} {N D : Nat} (hD : r 0 1 = D) : ∀ {k : Nat} {s z : sS} {q : List (Int × Int)}, sCp r f N k s q z → (∀ e : Int, 0 ≤ e → e < D → s.1 e ≠ -1 → ∃ x : Int, (1 ≤ x ∧ x ≤ sNx r) ∧ mCan r x e) → sCn z D = sCn s D + k ∧ ∀ e : Int, 0 ≤ e → e < D → z.1 e ≠ -1 → ∃ x : Int, (1 ≤ x ∧ x ≤ sNx r) ∧ mCan r x e
  | 0, s, z, q, h, g => by
    rw [h.2]
    exact ⟨by omega, g⟩
  | k + 1, s, z, q, h, g => by
    obtain ⟨d, x, q', e, a1, a2, a3, a4, h⟩ := h
    have nn := sBg_nn a4
    have en : sEn r f N s d x ≠ -1 := by
      have hl := zCla_r (mStk f (mFa r d x (sBg r s d x)) N 0)
      have hn : sEn r f N s d x = sBg r s d x + zCla (mStk f (mFa r d x (sBg r s d x)) N 0) := rfl
      omega
    have st1 : ∀ j : Int, (sSt r f N s d x).1 j = if j = d then sEn r f N s d x else s.1 j := fun j => rfl
    have ih := sCp_n hD h (fun j j0 j1 jn => by
      rw [st1] at jn
      by_cases w : j = d
      · rw [w]
        exact ⟨x, a2, nn.2⟩
      · rw [if_neg w] at jn
        exact g j j0 j1 jn)
    refine ⟨?_, ih.2⟩
    have up := mSum_upd (f := fun e => if s.1 e = -1 then 0 else 1) (g := fun e => if (sSt r f N s d x).1 e = -1 then 0 else 1) (e := d) D (fun j hj => by
      try dsimp only
      rw [st1]
      by_cases w : (j : Int) = d
      · rw [if_pos w, if_pos w, if_neg en, w, if_pos a3]
        rfl
      · rw [if_neg w, if_neg w])
    rw [if_pos (by omega)] at up
    rw [ih.1]
    unfold sCn
    rw [up]
    omega
def s00 : sS := (fun _ => -1, fun _ => 0, (0, 0), [])
def B00 : sB := ((1000000, 0), [])
def sFull (r : zH) (f : Int → Int) (N : Nat) : sB := sPl r f N (r 0 1).toNat s00 B00
theorem sFull_no {r : zH} {f : Int → Int} {N : Nat} (wr : wRoad r) (h : ∃ e : Int, (0 ≤ e ∧ e < r 0 1) ∧ ∀ x : Int, 1 ≤ x → x ≤ sNx r → ¬ mCan r x e) : sFull r f N = B00 := by
  obtain ⟨e, he, hx⟩ := h
  have wd := wr_d wr
  obtain ⟨D, hD⟩ := nat_of wd.1
  unfold sFull
  rw [show (r 0 1).toNat = D by omega]
  refine sPl_id (fun q z c => ?_)
  exfalso
  have n := sCp_n hD c (fun j _ _ jn => absurd rfl jn)
  have z0 : sCn s00 D = 0 := by
    unfold sCn
    have : mSum (fun e => if s00.1 e = -1 then 0 else 1) D = mSum (fun _ => 0) D := mSum_congr (fun k _ => rfl)
    rw [this]
    have := mSum_le (f := fun _ => (0 : Int)) (b := 0) (n := D) (fun _ _ => by decide)
    omega
  rw [z0] at n
  by_cases w : z.1 e = -1
  · have up := mSum_upd (f := fun j => if z.1 j = -1 then 0 else 1) (g := fun j => if j = e then 1 else if z.1 j = -1 then 0 else 1) (e := e) D (fun j hj => by
      try dsimp only
      by_cases v : (j : Int) = e
      · rw [if_pos v, if_pos v, v, if_pos w]
        rfl
      · rw [if_neg v, if_neg v])
    rw [if_pos (by omega)] at up
    have le := mSum_le (f := fun j => if j = e then 1 else if z.1 j = -1 then 0 else 1) (b := 1) (n := D) (fun j _ => by
      try dsimp only
      split
      · decide
      · split
        · decide
        · decide)
    have := n.1
    unfold sCn at this
    omega
  · obtain ⟨x, x1, x2⟩ := n.2 e he.1 (by omega) w
    exact hx x x1.1 x1.2 x2
def cSh (l o i : Int) : Prop := (o = 11 ∧ 8 ≤ i ∧ i ≤ 10) ∨ (12 ≤ o ∧ o ≤ 15) ∨ (18 ≤ o ∧ o ≤ 22) ∨ ((o = 23 ∨ o = 24) ∧ 0 < i) ∨ o = 25 ∨ o = l + 2 ∨ o = l + 3
theorem s_141 {d c : Nat} {R : Int → Nat → zH → Prop} {X : Nat → Nat → zH → Prop} {h r : zH} {t l : Int} {f : Int → Int} {N : Nat} (ht : zIsR t) (hl : l = 70 ∨ l = 74) (cr : cRoad t h r) (wr : wRoad r) (cl : cLaw l h f N) (wl : wLaw f N) (hD : r 0 1 ≤ 5) (h17 : ∀ p : Int, 0 ≤ p → p < 4 → h 17 p = 0) (h23 : h 23 0 = 0 ∧ h 24 0 = 0) (hk : h 11 8 ≠ 0 → cBs h (sFull r f N)) (K : ∀ h', (∀ o i, ¬ cSh l o i → h' o i = h o i) → cBs h' (sFull r f N) → R 0 c h') : zCl (d + 11) 141 [(2, 11), (2, t), (2, l)] c h R X := by
  have wd := wr_d wr
  obtain ⟨D, hDr⟩ := nat_of wd.1
  have ht' := ht
  unfold zIsR at ht'
  refine b_141 (d := d + 5) ht hl ⟨fun v => K h (fun _ _ _ => rfl) (hk v), fun v => ⟨fun _ => ?_, fun w => by rw [cr_d cr] at w; omega⟩⟩
  obtain ⟨h0, hh0⟩ : ∃ h0, h0 = hw (hw h 11 9 (-1)) 11 10 (-1) := ⟨_, rfl⟩
  rw [← hh0]
  have f0 : ∀ o i, ¬ (o = 11 ∧ (i = 9 ∨ i = 10)) → h0 o i = h o i := fun o i u => by rw [hh0, hw_ne (by omega), hw_ne (by omega)]
  refine s_9 zo_15 (by decide) (fun h1 f1 g1 => ?_)
  have f1' : ∀ o i, ¬ (o = 11 ∧ (i = 9 ∨ i = 10)) → o ≠ 15 → h1 o i = h o i := fun o i u w => by rw [f1 o i w, f0 o i u]
  have cr1 : cRoad t h1 r := cRoad_fr (fun o i o1 o2 => f1' o i (by omega) (by omega)) cr
  have cl1 : cLaw l h1 f N := cLaw_fr (fun o i w => f1' o i (by omega) (by omega)) cl
  have e9 : h1 11 9 = -1 := by rw [f1 _ _ (by omega), hh0, hw_ne (by omega), hw_eq ⟨rfl, rfl⟩]
  have e10 : h1 11 10 = -1 := by rw [f1 _ _ (by omega), hh0, hw_eq ⟨rfl, rfl⟩]
  have cb1 : cBs h1 B00 := ⟨fun _ => ⟨e9, e10⟩, fun w => absurd rfl w, by decide⟩
  have rest : ∀ ask : Int, (ask = 0 → ∀ k : Nat, k < N → f k ≠ 1002) → zCl (d + 10) 143 [(2, 11), (2, t), (0, ask)] c h1 (fun y3559 c3560 h3561 => zCl (d + 10) 145 [(2, t)] c3560 h3561 (fun y3562 c3563 h3564 => (y3562 = 0 → R 0 c3563 (hw h3564 11 8 1)) ∧ (y3562 ≠ 0 → zCl (d + 10) 146 [(2, 11), (2, t), (2, l), (0, 0)] c3563 h3564 (fun y3565 c3566 h3567 => R 0 c3566 (hw h3567 11 8 1)) X)) X) X := by
    intro ask ha
    refine s_143 (d := d + 6) ht cr1 wr ha (fun h2 f2 tw => ?_)
    have cr2 : cRoad t h2 r := cRoad_fr (fun o i o1 o2 => f2 o i (by omega)) cr1
    have cl2 : cLaw l h2 f N := cLaw_fr (fun o i w => f2 o i (by omega)) cl1
    have cb2 : cBs h2 B00 := cBs_fr ⟨f2 _ _ (by omega), f2 _ _ (by omega)⟩ (fun i => f2 _ _ (by omega)) cb1
    refine s_145 (d := d + 7) ht cr2 wr ⟨fun w => absurd w (by decide), fun _ => ?_⟩ (fun no => ⟨fun _ => K _ (fun o i u => ?_) ?_, fun w => absurd rfl w⟩)
    · have ck : cSk h2 s00 ((0 : Nat) : Int) := by
        refine ⟨fun e u w => ?_, fun p u w => ?_, ⟨?_, ?_⟩, rfl, fun i u w => by omega⟩
        · rw [f2 _ _ (by omega), g1 e u w]
          rfl
        · show h2 17 p = 0
          rw [f2 _ _ (by omega), f1' _ _ (by omega) (by omega)]
          exact h17 p u w
        · show h2 23 0 = 0
          rw [f2 _ _ (by omega), f1' _ _ (by omega) (by omega)]
          exact h23.1
        · show h2 24 0 = 0
          rw [f2 _ _ (by omega), f1' _ _ (by omega) (by omega)]
          exact h23.2
      have ok : sOk s00 ((0 : Nat) : Int) := ⟨fun _ _ _ => by show -1 ≤ (-1 : Int) ∧ (-1 : Int) ≤ _; omega, fun _ _ _ => by show 0 ≤ (0 : Int) ∧ (0 : Int) ≤ _; omega, by show 0 ≤ (0 : Int) ∧ (0 : Int) ≤ _; omega, by show 0 ≤ (0 : Int) ∧ (0 : Int) ≤ _; omega⟩
      have S := s_146 (r := r) (f := f) (N := N) (D := D) (t := t) (l := l) (s0 := s00) (d := d + (5 - D)) (c := c) (X := X) ht hl wr wl (by omega) hDr rfl D (fun _ c h => R 0 c (hw h 11 8 1)) h2 s00 B00 0 (by omega) cr2 cl2 ck ok cb2 tw ⟨rfl, rfl⟩ (fun q z _ lx => absurd lx sLx_nil) (Or.inl (by decide)) (fun h3 f3 c3 => K _ (fun o i u => ?_) ?_)
      · rw [show d + (5 - D) + D + 5 = d + 10 by omega] at S
        exact S
      · rw [hw_ne (by unfold cSh at u; omega), f3 o i (by unfold cSh at u; unfold cSf; omega), f2 o i (by unfold cSh at u; omega), f1' o i (by unfold cSh at u; omega) (by unfold cSh at u; omega)]
      · have e : sFull r f N = sPl r f N D s00 B00 := by
          unfold sFull
          rw [show (r 0 1).toNat = D by omega]
        rw [e]
        exact cBs_fr ⟨hw_ne (by omega), hw_ne (by omega)⟩ (fun i => hw_ne (by omega)) c3
    · rw [hw_ne (by unfold cSh at u; omega), f2 o i (by unfold cSh at u; omega), f1' o i (by unfold cSh at u; omega) (by unfold cSh at u; omega)]
    · rw [sFull_no wr no]
      exact cBs_fr ⟨hw_ne (by omega), hw_ne (by omega)⟩ (fun i => hw_ne (by omega)) cb2
  exact s_142 hl cl1 wl (rest 1 (fun w => absurd w (by decide))) (fun no => rest 0 (fun _ => no))
