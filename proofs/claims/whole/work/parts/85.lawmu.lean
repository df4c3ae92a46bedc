/-! a law's text: units of the reference -/
def mSm (T : Int → Int) (n : Int) (D ν : Nat) (op : Int) (F : lS → lS) : Prop := ∀ (c : Nat) (R : Int → Nat → zH → Prop) (X : Nat → Nat → zH → Prop) (h : zH) (a : Int) (L : List Int), mTape h T n → mPs h n (.inr a) → h 113 7 = op → lK (.inr a, L) n → mStp h L → (∀ h', (∀ o j, ¬ mTs o j → ¬ mLz o j → h' o j = h o j) → mPs h' n (F (.inr a, L)).1 → h' 113 7 = op → (isOkS (F (.inr a, L)).1 → mStp h' (F (.inr a, L)).2) → R 0 c h') → zCl D ν [(2, 113)] c h R X
theorem lC1_K {T : Int → Int} {n : Int} {S : lS → lS} (hSg : ∀ s, lK s n → lGo isE n s (S s)) (s : lS) (ch : Int) (ks : lK s n) : lK (lC1 T n S ch s) n := by
  have g := lC1_go (T := T) (c := ch) hSg ks
  unfold lK
  cases e1 : (lC1 T n S ch s).1 with
  | inl f =>
    rw [e1] at g
    exact g
  | inr b =>
    rw [e1] at g
    obtain ⟨a0, M, p1, p2, p3, p4, p5⟩ := g
    unfold lK at ks
    rw [p1] at ks
    dsimp only at ks ⊢
    rw [p2, List.length_append]
    omega
theorem rdX_lK {T : Int → Int} {n ch b : Int} {s : lS} (k : lK s n) (e6 : rdX T n ch s.1 = .inr b) : lK (.inr b, s.2) n ∧ (s.2.length : Int) + 1 ≤ b := by
  unfold lK at k ⊢
  cases e1 : s.1 with
  | inl f =>
    rw [e1] at e6
    exact absurd e6 (by simp [rdX])
  | inr a1 =>
    rw [e1] at e6 k
    dsimp only at k ⊢
    have hb := nBE (T := T) k.1.2
    unfold rdX at e6
    dsimp only at e6
    cases e3 : xF T n a1 ch with
    | some f =>
      rw [e3] at e6
      exact absurd e6 (by simp)
    | none =>
      have := xF_n e3
      rw [e3] at e6
      dsimp only at e6
      injection e6 with e6
      omega
theorem mT_of {h h' : zH} {T : Int → Int} {n : Int} (f : ∀ o j, ¬ mTs o j → ¬ mLz o j → h' o j = h o j) (mt : mTape h T n) : mTape h' T n :=
  ⟨by rw [f _ _ (by unfold mTs; omega) (by unfold mLz; omega)]; exact mt.1, fun k u v => by rw [f _ _ (by unfold mTs; omega) (by unfold mLz; omega)]; exact mt.2 k u v⟩
theorem m_247 {T : Int → Int} {n : Int} (wt : wTape T n) (hn : n ≤ 150) {D : Nat} {op : Int} (hop : 0 ≤ op ∧ op ≤ 6) {S : lS → lS} (hSg : ∀ s, lK s n → lGo isE n s (S s)) (hSi : ∀ e L, S (.inl e, L) = (.inl e, L)) (hS : op < 6 → mSm T n (D + 5) 242 (op + 1) S) {c : Nat} {R : Int → Nat → zH → Prop} {X : Nat → Nat → zH → Prop} {h : zH} {a x x1 : Int} {L : List Int} (hx : 1006 ≤ x ∧ x ≤ 1011) (mt : mTape h T n) (ps : mPs h n (.inr (nB T n a))) (h7 : h 113 7 = op) (ha : 0 ≤ a ∧ a ≤ n) (hw0 : wE T n a = nB T n a + x1) (hx1 : 1 ≤ x1 ∧ x1 ≤ 10) (lk : (L.length : Int) ≤ a) (st : mStp h L) (K : ∀ h', (∀ o j, ¬ mTs o j → ¬ mLz o j → h' o j = h o j) → mPs h' n (lPr T n S op x a L).1 → h' 113 7 = op → (isOkS (lPr T n S op x a L).1 → mStp h' (lPr T n S op x a L).2) → R 0 c h') : zCl (D + 6) 247 [(2, 113), (0, x1), (0, x - 1004)] c h R X := by
  have hbw := nBW (T := T) ha.2
  obtain ⟨p5, p4, pr⟩ := ps
  refine b_247 (d := D + 4) (s_245 p5 p4 (by omega) (by omega) (by omega) (fun lt => ?_) (fun ge => ?_))
  · have hS' := hS (by omega)
    unfold lPr at K
    rw [if_neg (by omega)] at K
    have body : ∀ (s1 : lS) (ch : Int) (h5 : zH) (Q : Nat → zH → Prop), 33 ≤ ch → (∀ o j, ¬ mTs o j → ¬ mLz o j → h5 o j = h o j) → mPs h5 n s1.1 → h5 113 7 = op + 1 → (isOkS s1.1 → mStp h5 s1.2) → lK s1 n → (∀ h6, (∀ o j, ¬ mTs o j → ¬ mLz o j → h6 o j = h o j) → mPs h6 n (lC1 T n S ch s1).1 → h6 113 7 = op + 1 → (isOkS (lC1 T n S ch s1).1 → mStp h6 (lC1 T n S ch s1).2) → Q c h6) → zCl (D + 5) 239 [(2, 113), (0, ch)] c h5 (fun _ c h => zCl (D + 5) 242 [(2, 113)] c h (fun _ c h => Q c h) X) X := by
      intro s1 ch h5 Q hch f5 p5 b5 g5 k1 KQ
      refine m_239 wt hch (mT_of f5 mt) p5 (fun h6 f6 p6 => ?_)
      have f6' : ∀ o j, ¬ mTs o j → ¬ mLz o j → h6 o j = h o j := fun o j u v => by rw [f6 o j u, f5 o j u v]
      have b6 : h6 113 7 = op + 1 := by rw [f6 _ _ (by unfold mTs; omega)]; exact b5
      unfold lC1 at KQ
      cases e6 : rdX T n ch s1.1 with
      | inl f =>
        rw [e6, hSi] at KQ
        rw [e6] at p6
        exact s_242u (by have := p6.2.1; have := p6.2.2.1; omega) (KQ h6 f6' p6 b6 (fun ok => absurd ok (fun v => v)))
      | inr b =>
        rw [e6] at p6 KQ
        have ok1 : isOkS s1.1 := rdX_ok (T := T) (n := n) (s := ch) (by rw [e6]; trivial)
        have g6 : mStp h6 s1.2 := mStp_fr (fun o j v => f6 o j (by unfold mLt at v; unfold mTs; omega)) (g5 ok1)
        exact hS' c _ X h6 b s1.2 (mT_of f6' mt) p6 b6 (rdX_lK k1 e6).1 g6 (fun h7 f7 p7 b7 g7 => KQ h7 (fun o j u v => by rw [f7 o j u v, f6' o j u v]) p7 b7 g7)
    have k0 : lK (.inr (wE T n a), L) n := by
      show (0 ≤ wE T n a ∧ wE T n a ≤ n) ∧ (L.length : Int) ≤ wE T n a
      omega
    have f0 : ∀ o j, ¬ mTs o j → ¬ mLz o j → (hw (hw h 113 4 (nB T n a + x1)) 113 7 (h 113 7 + 1)) o j = h o j := fun o j u v => by rw [hw_ne (by unfold mLz at v; omega), hw_ne (by unfold mTs at u; omega)]
    refine body (.inr (wE T n a), L) 91 _ _ (by decide) f0 ⟨?_, ?_, by show 0 ≤ wE T n a ∧ wE T n a ≤ n; omega⟩ ?_ (fun _ => ?_) k0 (fun h6 f6 p6 b6 g6 => ?_)
    · rw [hw_ne (by omega), hw_ne (by omega)]
      exact p5
    · rw [hw_ne (by omega), hw_eq ⟨rfl, rfl⟩, hw0]
    · rw [hw_eq ⟨rfl, rfl⟩, h7]
    · exact mStp_fr (fun o j v => by rw [hw_ne (by unfold mLt at v; omega), hw_ne (by unfold mLt at v; omega)]) st
    refine body (lC1 T n S 91 (.inr (wE T n a), L)) 44 h6 _ (by decide) f6 p6 b6 g6 (lC1_K hSg _ _ k0) (fun h7 f7 p7 b7 g7 => ?_)
    obtain ⟨s2, es⟩ : ∃ s2, s2 = lC1 T n S 44 (lC1 T n S 91 (.inr (wE T n a), L)) := ⟨_, rfl⟩
    have k2 := lC1_K (T := T) hSg (lC1 T n S 91 (.inr (wE T n a), L)) 44 (lC1_K (T := T) hSg (.inr (wE T n a), L) 91 k0)
    rw [← es] at K p7 g7 k2
    refine m_239 wt (by decide) (mT_of f7 mt) p7 (fun h8 f8 p8 => ?_)
    have b8 : h8 113 7 = op + 1 := by rw [f8 _ _ (by unfold mTs; omega)]; exact b7
    rw [b8, w32_e (by omega) (by omega)]
    have f8' : ∀ o j, ¬ mTs o j → ¬ mLz o j → (hw h8 113 7 (op + 1 - 1)) o j = h o j := fun o j u v => by rw [hw_ne (by unfold mLz at v; omega), f8 o j u, f7 o j u v]
    have p8' := mpw (a := 113) (b := 7) (v := op + 1 - 1) (by omega) p8
    have e87 : (hw h8 113 7 (op + 1 - 1)) 113 7 = op := by rw [hw_eq ⟨rfl, rfl⟩]; omega
    cases e8 : rdX T n 93 s2.1 with
    | inl f =>
      rw [e8] at K p8'
      exact s_246u (by have := p8'.2.1; have := p8'.2.2.1; omega) (K _ f8' p8' e87 (fun ok => absurd ok (fun v => v)))
    | inr b =>
      rw [e8] at K p8'
      have ok2 : isOkS s2.1 := rdX_ok (T := T) (n := n) (s := 93) (by rw [e8]; trivial)
      have lk2 := rdX_lK k2 e8
      have lk3 : (0 ≤ b ∧ b ≤ n) ∧ (s2.2.length : Int) ≤ b := lk2.1
      have s8 : mStp (hw h8 113 7 (op + 1 - 1)) s2.2 := mStp_fr (fun o j v => by rw [hw_ne (by unfold mLt at v; omega), f8 o j (by unfold mLt at v; unfold mTs; omega)]) (g7 ok2)
      refine s_246 (x := x) p8'.1 s8 (by omega) ⟨fun v => by omega, fun v w => by omega, fun _ => rfl⟩ (fun h9 f9 s9 => K h9 (fun o j u v => by rw [f9 o j (by unfold mLz at v; unfold mLt; omega), f8' o j u v]) (mPs_fr ⟨f9 _ _ (by unfold mLt; omega), f9 _ _ (by unfold mLt; omega), f9 _ _ (by unfold mLt; omega)⟩ p8') (by rw [f9 _ _ (by unfold mLt; omega)]; exact e87) (fun _ => s9))
  · have er : lPr T n S op x a L = (.inl (3, nB T n a), L) := by
      unfold lPr
      rw [if_pos (by omega)]
    rw [er] at K
    have n5 : (hw (hw (hw h 113 5 (nB T n a)) 113 6 3) 113 7 7) 113 5 ≠ -1 := by
      rw [hw_ne (by omega), hw_ne (by omega), hw_eq ⟨rfl, rfl⟩]
      omega
    refine s_239u n5 (s_242u n5 (s_239u n5 (s_242u n5 (s_239u n5 ?_))))
    have e7 : (hw (hw (hw h 113 5 (nB T n a)) 113 6 3) 113 7 7) 113 7 = 7 := hw_eq ⟨rfl, rfl⟩
    rw [e7, show w32 (7 - 1) = 6 by decide]
    refine s_246u (by rw [hw_ne (by omega)]; exact n5) (K _ (fun o j u v => ?_) ⟨?_, ?_, by show nB T n a ≠ -1; omega, by show (3 : Int) ≠ 0; decide⟩ ?_ (fun ok => absurd ok (fun v => v)))
    · rw [hw_ne (by unfold mLz at v; omega), hw_ne (by unfold mLz at v; omega), hw_ne (by unfold mTs at u; omega), hw_ne (by unfold mTs at u; omega)]
    · rw [hw_ne (by omega), hw_ne (by omega), hw_eq ⟨rfl, rfl⟩]
    · rw [hw_ne (by omega), hw_ne (by omega), hw_ne (by omega), hw_eq ⟨rfl, rfl⟩]
    · rw [hw_eq ⟨rfl, rfl⟩]
      omega
theorem m_244 {T : Int → Int} {n : Int} (wt : wTape T n) (hn : n ≤ 150) {E : Nat} {op : Int} (hop : 0 ≤ op ∧ op ≤ 6) {S : lS → lS} (hSg : ∀ s, lK s n → lGo isE n s (S s)) (hSi : ∀ e L, S (.inl e, L) = (.inl e, L)) (hS : op < 6 → ∀ d, mSm T n (d + E + 5) 242 (op + 1) S) (d : Nat) : mSm T n (d + E + 7) 244 op (lUn T n S op) := by
  intro c R X h a L mt ps h7 lk st K
  have lk' : (0 ≤ a ∧ a ≤ n) ∧ (L.length : Int) ≤ a := lk
  have hbe := nBE (T := T) lk'.1.2
  have hbw := nBW (T := T) lk'.1.2
  have w1 := wt.1
  have st1 := st.1
  obtain ⟨p5, p4, pr⟩ := ps
  have goal : ∀ h', (∀ o j, ¬ mTs o j → ¬ mLz o j → h' o j = h o j) → mPs h' n (lUa T n S op a L).1 → h' 113 7 = op → (isOkS (lUa T n S op a L).1 → mStp h' (lUa T n S op a L).2) → R 0 c h' := K
  refine b_244 (d := d + E + 4) (b_224 ⟨fun w => absurd p5 w, fun _ => ⟨fun _ => s_226 wt mt (by omega) (fun h1 f1 e1 => ?_), fun v => absurd v (by decide)⟩⟩)
  rw [show run isB T n (h 113 4) = nB T n (h 113 4) from rfl, p4] at e1
  rw [show run isB T n (h 113 4) = nB T n (h 113 4) from rfl, p4]
  have f1' : ∀ o j, ¬ mTs o j → h1 o j = h o j := fun o j v => f1 o j (by have := mTs2 v; omega)
  have mt1 := mTape_fr f1' mt
  have h15 : h1 113 5 = -1 := by rw [f1 _ _ (by omega)]; exact p5
  have h17 : h1 113 7 = op := by rw [f1 _ _ (by omega)]; exact h7
  have stf : ∀ h2 : zH, (∀ o j, ¬ mTs o j → h2 o j = h o j) → mStp h2 L := fun h2 f2 => mStp_fr (fun o j v => f2 o j (by unfold mLt at v; unfold mTs; omega)) st
  have ps1 : mPs h1 n (.inr (nB T n a)) := ⟨h15, e1, by show 0 ≤ nB T n a ∧ nB T n a ≤ n; omega⟩
  have hh1 : ∀ h', (∀ o j, ¬ (o = 113 ∧ j = 4) → h' o j = h1 o j) → h' 113 4 = nB T n a → h' = h1 := by
    intro h' f e
    funext o j
    by_cases w : o = 113 ∧ j = 4
    · rw [w.1, w.2, e, e1]
    · exact f o j w
  have rest : ¬ (nB T n a < n ∧ T (nB T n a) = 40) → zCl (d + E + 6) 226 [(2, 113)] c h1 (fun y c h => zCl (d + E + 6) 237 [(0, y)] c h (fun y c h => (y = 0 → zCl (d + E + 6) 227 [(2, 113)] c h (fun w c h => zCl (d + E + 6) 230 [(5, 35)] c h (fun v c h => (w ≠ v → zCl (d + E + 6) 227 [(2, 113)] c h (fun w c h => zCl (d + E + 6) 230 [(5, 36)] c h (fun v c h => (w ≠ v → zCl (d + E + 6) 248 [(2, 113)] c h (fun y c h => (y ≠ (-1) → zCl (d + E + 6) 224 [(2, 113)] c h (fun z c h => (z ≠ 0 → zCl (d + E + 6) 234 [(2, 113)] c h (fun _ c h => zCl (d + E + 6) 246 [(2, 113), (0, 1), (0, y)] c h (fun _ c h => R 0 c h) X) X) ∧ (z = 0 → R 0 c h)) X) ∧ (y = (-1) → zCl (d + E + 6) 232 [(2, 113), (0, 1), (0, h 113 4)] c h (fun _ c h => zCl (d + E + 6) 224 [(2, 113)] c h (fun z c h => (z ≠ 0 → zCl (d + E + 6) 234 [(2, 113)] c h (fun _ c h => zCl (d + E + 6) 246 [(2, 113), (0, 1), (0, y)] c h (fun _ c h => R 0 c h) X) X) ∧ (z = 0 → R 0 c h)) X) X)) X) ∧ (w = v → zCl (d + E + 6) 247 [(2, 113), (0, 4), (0, 7)] c h (fun _ c h => R 0 c h) X)) X) X) ∧ (w = v → zCl (d + E + 6) 247 [(2, 113), (0, 5), (0, 6)] c h (fun _ c h => R 0 c h) X)) X) X) ∧ (y ≠ 0 → zCl (d + E + 6) 236 [(2, 113), (0, 0), (0, 999)] c h (fun y c h => zCl (d + E + 6) 246 [(2, 113), (0, 0), (0, y)] c h (fun _ c h => R 0 c h) X) X)) X) X := by
    intro nq
    refine s_226 wt mt1 (by omega) (fun h2 f2 e2 => ?_)
    rw [show run isB T n (h1 113 4) = nB T n (h1 113 4) from rfl, e1, nB_i lk'.1.2] at e2
    rw [show run isB T n (h1 113 4) = nB T n (h1 113 4) from rfl, e1, nB_i lk'.1.2, hh1 h2 f2 e2]
    have digit : (nB T n a < n ∧ isD (T (nB T n a)) = true) → zCl (d + E + 6) 236 [(2, 113), (0, 0), (0, 999)] c h1 (fun y c h => zCl (d + E + 6) 246 [(2, 113), (0, 0), (0, y)] c h (fun _ c h => R 0 c h) X) X := by
      intro q
      have er : lUa T n S op a L = ((rdN T n 0 999 (.inr a)).1, L ++ [(rdN T n 0 999 (.inr a)).2]) := by
        unfold lUa
        rw [if_pos q]
      rw [er] at goal
      refine m_236 wt (by decide) (by decide) mt1 ps1 (fun h3 f3 p3 => ?_)
      rw [rdN_i lk'.1.2] at p3 ⊢
      have f3' : ∀ o j, ¬ mTs o j → h3 o j = h o j := fun o j v => by rw [f3 o j v, f1' o j v]
      have h37 : h3 113 7 = op := by rw [f3' _ _ (by unfold mTs; omega)]; exact h7
      cases e3 : (rdN T n 0 999 (.inr a)).1 with
      | inl f =>
        rw [e3] at goal p3
        exact s_246u (by have := p3.2.1; have := p3.2.2.1; omega) (goal h3 (fun o j u v => f3' o j u) p3 h37 (fun ok => absurd ok (fun v => v)))
      | inr b =>
        have ok : isOkS (rdN T n 0 999 (.inr a)).1 := by rw [e3]; trivial
        have r := (rdN_ok ok).2
        have gg : lGo isE n (.inr a, L) (lUa T n S op a L) := lUn_go (T := T) (op := op) hSg (.inr a, L) lk
        rw [er] at gg
        unfold lGo at gg
        rw [e3] at goal p3 gg
        dsimp only at gg
        obtain ⟨a0, M, q1, q2, q3, q4, q5⟩ := gg
        injection q1 with q1
        have := isE_len q3
        refine s_246 (x := (rdN T n 0 999 (.inr a)).2) p3.1 (stf h3 f3') (by omega) ⟨fun _ => ⟨rfl, rfl⟩, fun v w => by omega, fun v => by omega⟩ (fun h4 f4 s4 => goal h4 (fun o j u v => by rw [f4 o j (by unfold mLz at v; unfold mLt; omega), f3' o j u]) (mPs_fr ⟨f4 _ _ (by unfold mLt; omega), f4 _ _ (by unfold mLt; omega), f4 _ _ (by unfold mLt; omega)⟩ p3) (by rw [f4 _ _ (by unfold mLt; omega)]; exact h37) (fun _ => s4))
    have word : ¬ (nB T n a < n ∧ isD (T (nB T n a)) = true) → zCl (d + E + 6) 227 [(2, 113)] c h1 (fun w c h => zCl (d + E + 6) 230 [(5, 35)] c h (fun v c h => (w ≠ v → zCl (d + E + 6) 227 [(2, 113)] c h (fun w c h => zCl (d + E + 6) 230 [(5, 36)] c h (fun v c h => (w ≠ v → zCl (d + E + 6) 248 [(2, 113)] c h (fun y c h => (y ≠ (-1) → zCl (d + E + 6) 224 [(2, 113)] c h (fun z c h => (z ≠ 0 → zCl (d + E + 6) 234 [(2, 113)] c h (fun _ c h => zCl (d + E + 6) 246 [(2, 113), (0, 1), (0, y)] c h (fun _ c h => R 0 c h) X) X) ∧ (z = 0 → R 0 c h)) X) ∧ (y = (-1) → zCl (d + E + 6) 232 [(2, 113), (0, 1), (0, h 113 4)] c h (fun _ c h => zCl (d + E + 6) 224 [(2, 113)] c h (fun z c h => (z ≠ 0 → zCl (d + E + 6) 234 [(2, 113)] c h (fun _ c h => zCl (d + E + 6) 246 [(2, 113), (0, 1), (0, y)] c h (fun _ c h => R 0 c h) X) X) ∧ (z = 0 → R 0 c h)) X) X)) X) ∧ (w = v → zCl (d + E + 6) 247 [(2, 113), (0, 4), (0, 7)] c h (fun _ c h => R 0 c h) X)) X) X) ∧ (w = v → zCl (d + E + 6) 247 [(2, 113), (0, 5), (0, 6)] c h (fun _ c h => R 0 c h) X)) X) X := by
      intro q
      have lets : ∀ j : Int, nB T n a ≤ j → j < wE T n a → 97 ≤ T j ∧ T j ≤ 122 := fun j x y => isS_t.mp (run_in (p := isS) (T := T) (n := n) (n - nB T n a).toNat (nB T n a) (by omega) j x y)
      have hS2 : op < 6 → mSm T n (d + E + 5) 242 (op + 1) S := fun v => hS v d
      refine s_227 wt mt1 (by omega) (fun h3 f3 e3 => ?_)
      rw [e1, nB_i lk'.1.2] at e3
      rw [e1, nB_i lk'.1.2, wE_i lk'.1.2, hh1 h3 f3 e3]
      refine s_230 (wOk_j (by decide) (by decide) (by decide)) ⟨fun n13 => ?_, fun e13 => ?_⟩
      · have n13' : wH T (nB T n a) (wE T n a) ≠ wC 13 := fun v => n13 (v.trans (by decide +kernel))
        refine s_227 wt mt1 (by omega) (fun h3 f3 e3 => ?_)
        rw [e1, nB_i lk'.1.2] at e3
        rw [e1, nB_i lk'.1.2, wE_i lk'.1.2, hh1 h3 f3 e3]
        refine s_230 (wOk_j (by decide) (by decide) (by decide)) ⟨fun n14 => ?_, fun e14 => ?_⟩
        · have n14' : wH T (nB T n a) (wE T n a) ≠ wC 14 := fun v => n14 (v.trans (by decide +kernel))
          refine s_248 (d := d + E + 4) wt mt1 e1 lk'.1 ⟨fun ne => ?_, fun ee => ?_⟩
          · have er : lUa T n S op a L = (.inr (wE T n a), L ++ [1000 + lFa T n a]) := by
              unfold lUa
              rw [if_neg q, if_neg nq, if_neg n13', if_neg n14', if_neg ne]
            rw [er] at goal
            have fr := lFa_r T n a
            have gg : lGo isE n (.inr a, L) (lUa T n S op a L) := lUn_go (T := T) (op := op) hSg (.inr a, L) lk
            rw [er] at gg
            obtain ⟨a0, M, q1, q2, q3, q4, q5⟩ := gg
            injection q1 with q1
            have := isE_len q3
            refine b_224 ⟨fun w => absurd h15 w, fun _ => ⟨fun _ => s_234 wt mt1 (by omega) (fun h4 f4 e4 => ?_), fun v => absurd v (by decide)⟩⟩
            rw [e1] at e4
            have f4' : ∀ o j, ¬ mTs o j → h4 o j = h o j := fun o j v => by rw [f4 o j (by have := mTs2 v; omega), f1' o j v]
            have h45 : h4 113 5 = -1 := by rw [f4 _ _ (by omega)]; exact h15
            have p4' : mPs h4 n (.inr (wE T n a)) := ⟨h45, e4, by show 0 ≤ wE T n a ∧ wE T n a ≤ n; omega⟩
            refine s_246 (x := 1000 + lFa T n a) h45 (stf h4 f4') (by omega) ⟨fun v => by omega, fun v w => ⟨rfl, by omega⟩, fun v => by omega⟩ (fun h6 f6 s6 => goal h6 (fun o j u v => by rw [f6 o j (by unfold mLz at v; unfold mLt; omega), f4' o j u]) (mPs_fr ⟨f6 _ _ (by unfold mLt; omega), f6 _ _ (by unfold mLt; omega), f6 _ _ (by unfold mLt; omega)⟩ p4') (by rw [f6 _ _ (by unfold mLt; omega), f4 _ _ (by omega)]; exact h17) (fun _ => s6))
          · have er : lUa T n S op a L = (.inl (1, nB T n a), L) := by
              unfold lUa
              rw [if_neg q, if_neg nq, if_neg n13', if_neg n14', if_pos ee]
            rw [er] at goal
            refine s_232 h15 (b_224 ⟨fun _ => ⟨fun v => absurd rfl v, fun _ => ?_⟩, fun w => ?_⟩)
            · refine goal _ (fun o j u v => by rw [hw_ne (by unfold mTs at u; omega), hw_ne (by unfold mTs at u; omega), f1' o j u]) ⟨?_, ?_, by show nB T n a ≠ -1; omega, by show (1 : Int) ≠ 0; decide⟩ ?_ (fun ok => absurd ok (fun v => v))
              · rw [hw_eq ⟨rfl, rfl⟩]
              · rw [hw_ne (by omega), hw_eq ⟨rfl, rfl⟩, e1]
              · rw [hw_ne (by omega), hw_ne (by omega)]
                exact h17
            · rw [hw_ne (by omega), hw_eq ⟨rfl, rfl⟩, e1] at w
              omega
        · have e14' : wH T (nB T n a) (wE T n a) = wC 14 := e14.trans (by decide +kernel)
          have er : lUa T n S op a L = lPr T n S op 1011 a L := by
            unfold lUa
            rw [if_neg q, if_neg nq, if_neg n13', if_pos e14']
          rw [er] at goal
          have wl := ((wH_is (wOk_j (j := 14) (by decide) (by decide) (by decide)) hbw.2.1 lets).mp e14').1
          rw [show zTl 14 = 4 from rfl] at wl
          exact m_247 (x := 1011) (x1 := 4) wt hn hop hSg hSi hS2 (by decide) mt1 ps1 h17 lk'.1 (by omega) (by decide) lk'.2 (stf h1 f1') (fun h' f' p' b' s' => goal h' (fun o j u v => by rw [f' o j u v, f1' o j u]) p' b' s')
      · have e13' : wH T (nB T n a) (wE T n a) = wC 13 := e13.trans (by decide +kernel)
        have er : lUa T n S op a L = lPr T n S op 1010 a L := by
          unfold lUa
          rw [if_neg q, if_neg nq, if_pos e13']
        rw [er] at goal
        have wl := ((wH_is (wOk_j (j := 13) (by decide) (by decide) (by decide)) hbw.2.1 lets).mp e13').1
        rw [show zTl 13 = 5 from rfl] at wl
        exact m_247 (x := 1010) (x1 := 5) wt hn hop hSg hSi hS2 (by decide) mt1 ps1 h17 lk'.1 (by omega) (by decide) lk'.2 (stf h1 f1') (fun h' f' p' b' s' => goal h' (fun o j u v => by rw [f' o j u v, f1' o j u]) p' b' s')
    by_cases q1 : nB T n a < n
    · rw [if_pos q1]
      exact b_237 ⟨fun w => ⟨fun _ => word (fun v => by have := isD_t.mp v.2; omega), fun v => absurd rfl v⟩, fun w => ⟨fun w2 => ⟨fun _ => word (fun v => by have := isD_t.mp v.2; omega), fun v => absurd rfl v⟩, fun w2 => ⟨fun v => absurd v (by decide), fun _ => digit ⟨q1, isD_t.mpr ⟨w, w2⟩⟩⟩⟩⟩
    · rw [if_neg q1]
      exact b_237 ⟨fun w => ⟨fun _ => word (fun v => q1 v.1), fun v => absurd rfl v⟩, fun w => by omega⟩
  have brac : nB T n a < n → T (nB T n a) = 40 → zCl (d + E + 6) 245 [(2, 113), (0, 1)] c h1 (fun _ c h => zCl (d + E + 6) 242 [(2, 113)] c h (fun _ c h => zCl (d + E + 6) 239 [(2, 113), (0, 41)] c h (fun _ c h => R 0 c (hw h 113 7 (w32 ((h 113 7) - 1)))) X) X) X := by
    intro q1 q2
    have nd : ¬ (nB T n a < n ∧ isD (T (nB T n a)) = true) := fun v => by have := isD_t.mp v.2; omega
    refine s_245 h15 e1 (by omega) (by decide) (by omega) (fun lt => ?_) (fun ge => ?_)
    · have er : lUa T n S op a L = (rdX T n 41 (S (.inr (nB T n a + 1), L)).1, (S (.inr (nB T n a + 1), L)).2) := by
        unfold lUa
        rw [if_neg nd, if_pos ⟨q1, q2⟩, if_neg (by omega)]
      rw [er] at goal
      have f3 : ∀ o j, ¬ mTs o j → ¬ mLz o j → (hw (hw h1 113 4 (nB T n a + 1)) 113 7 (h1 113 7 + 1)) o j = h o j := fun o j u v => by rw [hw_ne (by unfold mLz at v; omega), hw_ne (by unfold mTs at u; omega), f1' o j u]
      have hS2 := hS (by omega) (d + 1)
      rw [show d + 1 + E + 5 = d + E + 6 by omega] at hS2
      have k3 : lK (.inr (nB T n a + 1), L) n := by
        show (0 ≤ nB T n a + 1 ∧ nB T n a + 1 ≤ n) ∧ (L.length : Int) ≤ nB T n a + 1
        omega
      refine hS2 c _ X _ (nB T n a + 1) L (mT_of f3 mt) ⟨?_, ?_, k3.1⟩ ?_ k3 ?_ (fun h4 f4 p4' b4 g4 => ?_)
      · rw [hw_ne (by omega), hw_ne (by omega)]
        exact h15
      · rw [hw_ne (by omega), hw_eq ⟨rfl, rfl⟩]
      · rw [hw_eq ⟨rfl, rfl⟩, h17]
      · exact mStp_fr (fun o j v => by rw [hw_ne (by unfold mLt at v; omega), hw_ne (by unfold mLt at v; omega)]) (stf h1 f1')
      · have f4' : ∀ o j, ¬ mTs o j → ¬ mLz o j → h4 o j = h o j := fun o j u v => by rw [f4 o j u v, f3 o j u v]
        refine m_239 wt (by decide) (mT_of f4' mt) p4' (fun h5 f5 p5' => ?_)
        have b5 : h5 113 7 = op + 1 := by rw [f5 _ _ (by unfold mTs; omega)]; exact b4
        rw [b5, w32_e (by omega) (by omega)]
        refine goal _ (fun o j u v => by rw [hw_ne (by unfold mLz at v; omega), f5 o j u, f4' o j u v]) (mpw (by omega) p5') (by rw [hw_eq ⟨rfl, rfl⟩]; omega) (fun ok => ?_)
        exact mStp_fr (fun o j v => by rw [hw_ne (by unfold mLt at v; omega), f5 o j (by unfold mLt at v; unfold mTs; omega)]) (g4 (rdX_ok ok))
    · have er : lUa T n S op a L = (.inl (3, nB T n a), L) := by
        unfold lUa
        rw [if_neg nd, if_pos ⟨q1, q2⟩, if_pos (by omega)]
      rw [er] at goal
      have n5 : (hw (hw (hw h1 113 5 (nB T n a)) 113 6 3) 113 7 7) 113 5 ≠ -1 := by
        rw [hw_ne (by omega), hw_ne (by omega), hw_eq ⟨rfl, rfl⟩]
        omega
      refine s_242u (d := d + E + 1) n5 (s_239u n5 ?_)
      have e7 : (hw (hw (hw h1 113 5 (nB T n a)) 113 6 3) 113 7 7) 113 7 = 7 := hw_eq ⟨rfl, rfl⟩
      rw [e7, show w32 (7 - 1) = 6 by decide]
      refine goal _ (fun o j u v => ?_) ⟨?_, ?_, by show nB T n a ≠ -1; omega, by show (3 : Int) ≠ 0; decide⟩ ?_ (fun ok => absurd ok (fun v => v))
      · rw [hw_ne (by unfold mLz at v; omega), hw_ne (by unfold mLz at v; omega), hw_ne (by unfold mTs at u; omega), hw_ne (by unfold mTs at u; omega), f1' o j u]
      · rw [hw_ne (by omega), hw_ne (by omega), hw_eq ⟨rfl, rfl⟩]
      · rw [hw_ne (by omega), hw_ne (by omega), hw_ne (by omega), hw_eq ⟨rfl, rfl⟩]
      · rw [hw_eq ⟨rfl, rfl⟩]
        omega
  by_cases q1 : nB T n a < n
  · rw [if_pos q1]
    exact ⟨fun w => rest (fun v => w v.2), fun w => brac q1 w⟩
  · rw [if_neg q1]
    exact ⟨fun w => rest (fun v => q1 v.1), fun w => absurd w (by decide)⟩
