/-! a law's text: what it says -/
abbrev lS : Type := ((Int × Int) ⊕ Int) × List Int
def lAp (s : lS) (x : Int) : lS := (s.1, s.2 ++ [x])
def lLp (T : Int → Int) (n : Int) (sub : lS → lS) (c1 s1 c2 s2 : Int) : Nat → lS → lS
  | 0, s => s
  | f + 1, s => match s.1 with
    | .inl _ => s
    | .inr a => if nB T n a < n ∧ T (nB T n a) = c1 then lLp T n sub c1 s1 c2 s2 f (lAp (sub (.inr (nB T n a + 1), s.2)) s1)
      else if nB T n a < n ∧ T (nB T n a) = c2 then lLp T n sub c1 s1 c2 s2 f (lAp (sub (.inr (nB T n a + 1), s.2)) s2)
      else (.inr (nB T n a), s.2)
abbrev lMin (T : Int → Int) (n a : Int) : Prop := wE T n a - nB T n a = 7 ∧ T (nB T n a) = 109 ∧ T (nB T n a + 1) = 105 ∧ T (nB T n a + 2) = 110 ∧ T (nB T n a + 3) = 117 ∧ T (nB T n a + 4) = 116 ∧ T (nB T n a + 5) = 101 ∧ T (nB T n a + 6) = 115
def fOf (w : Int) : Int := if w = wC 16 then 1 else if w = wC 17 then 2 else if w = wC 18 then 3 else if w = wC 19 then 4 else if w = wC 20 then 5 else -1
def lFa (T : Int → Int) (n a : Int) : Int := if lMin T n a then 0 else fOf (wH T (nB T n a) (wE T n a))
theorem lFa_r (T : Int → Int) (n a : Int) : -1 ≤ lFa T n a ∧ lFa T n a ≤ 5 := by
  unfold lFa fOf
  repeat' split
  all_goals omega
/-- a sign, then a sum -/
def lC1 (T : Int → Int) (n : Int) (S : lS → lS) (c : Int) (s : lS) : lS := S (rdX T n c s.1, s.2)
def lPr (T : Int → Int) (n : Int) (S : lS → lS) (op x a : Int) (L : List Int) : lS :=
  if 6 ≤ op then (.inl (3, nB T n a), L) else (rdX T n 93 (lC1 T n S 44 (lC1 T n S 91 (.inr (wE T n a), L))).1, (lC1 T n S 44 (lC1 T n S 91 (.inr (wE T n a), L))).2 ++ [x])
/-- at a place a -/
def lUa (T : Int → Int) (n : Int) (S : lS → lS) (op a : Int) (L : List Int) : lS :=
  if nB T n a < n ∧ isD (T (nB T n a)) = true then ((rdN T n 0 999 (.inr a)).1, L ++ [(rdN T n 0 999 (.inr a)).2])
  else if nB T n a < n ∧ T (nB T n a) = 40 then (if 6 ≤ op then (.inl (3, nB T n a), L) else (rdX T n 41 (S (.inr (nB T n a + 1), L)).1, (S (.inr (nB T n a + 1), L)).2))
  else if wH T (nB T n a) (wE T n a) = wC 13 then lPr T n S op 1010 a L
  else if wH T (nB T n a) (wE T n a) = wC 14 then lPr T n S op 1011 a L
  else if lFa T n a = -1 then (.inl (1, nB T n a), L)
  else (.inr (wE T n a), L ++ [1000 + lFa T n a])
def lUn (T : Int → Int) (n : Int) (S : lS → lS) (op : Int) (s : lS) : lS := match s.1 with
  | .inl _ => s
  | .inr a => lUa T n S op a s.2
def lPd (T : Int → Int) (n : Int) (S : lS → lS) (op : Int) (s : lS) : lS := lLp T n (lUn T n S op) 42 1008 47 1009 150 (lUn T n S op s)
def lSm (T : Int → Int) (n : Int) : Nat → Int → lS → lS
  | 0, _, s => (match s.1 with
    | .inl _ => s
    | .inr _ => (.inl (3, 0), s.2))
  | g + 1, op, s => lLp T n (lPd T n (lSm T n g (op + 1)) op) 43 1006 45 1007 150 (lPd T n (lSm T n g (op + 1)) op s)
def lRd (T : Int → Int) (n a : Int) : lS := match (lSm T n 7 0 (.inr a, [])).1 with
  | .inl e => (.inl e, [])
  | .inr b => if nB T n b < n then (.inl (1, nB T n b), []) else (.inr n, (lSm T n 7 0 (.inr a, [])).2)
theorem lLp_inl {T : Int → Int} {n : Int} {sub : lS → lS} {c1 s1 c2 s2 : Int} {f : Nat} {e : Int × Int} {L : List Int} : lLp T n sub c1 s1 c2 s2 f (.inl e, L) = (.inl e, L) := by
  cases f <;> rfl
theorem lPd_inl {T : Int → Int} {n : Int} {S : lS → lS} {op : Int} {e : Int × Int} {L : List Int} : lPd T n S op (.inl e, L) = (.inl e, L) := lLp_inl
theorem lSm_inl {T : Int → Int} {n : Int} {g : Nat} {op : Int} {e : Int × Int} {L : List Int} : lSm T n g op (.inl e, L) = (.inl e, L) := by
  cases g with
  | zero => rfl
  | succ g =>
    rw [lSm, lPd_inl]
    exact lLp_inl
/-- heights of the stack -/
def hT : Nat → List Int → Option Nat
  | h, [] => some h
  | h, x :: M => if x < 0 ∨ 1011 < x then none else if x < 1006 then hT (h + 1) M else if 2 ≤ h then hT (h - 1) M else none
theorem hT_app : ∀ (M N : List Int) (h : Nat), hT h (M ++ N) = (hT h M).bind (fun k => hT k N)
  | [], N, h => rfl
  | x :: M, N, h => by
    rw [List.cons_append, hT, hT]
    split
    · rfl
    · split
      · exact hT_app M N _
      · split
        · exact hT_app M N _
        · rfl
def isE (M : List Int) : Prop := ∀ t, hT t M = some (t + 1)
def isC (M : List Int) : Prop := ∀ t, hT (t + 1) M = some (t + 1)
theorem isE_1 {x : Int} (h0 : 0 ≤ x) (h1 : x < 1006) : isE [x] := by
  intro t
  rw [hT, if_neg (by omega), if_pos h1]
  rfl
theorem isE_C {M N : List Int} (hM : isE M) (hN : isC N) : isE (M ++ N) := by
  intro t
  rw [hT_app, hM t]
  exact hN t
theorem isC_2 {M N : List Int} {x : Int} (hM : isE M) (h0 : 1006 ≤ x) (h1 : x ≤ 1011) (hN : isC N) : isC (M ++ ([x] ++ N)) := by
  intro t
  rw [hT_app, hM (t + 1)]
  show hT (t + 1 + 1) (x :: N) = _
  rw [hT, if_neg (by omega), if_neg (by omega), if_pos (by omega)]
  exact hN t
theorem isC_nil : isC [] := fun _ => rfl
/-- from a state to a state behind an expression; behind the rest of one -/
def lK (s : lS) (n : Int) : Prop := match s.1 with
  | .inl f => (1 ≤ f.1 ∧ f.1 ≤ 3) ∧ 0 ≤ f.2
  | .inr a => (0 ≤ a ∧ a ≤ n) ∧ (s.2.length : Int) ≤ a
def lGo (P : List Int → Prop) (n : Int) (s s' : lS) : Prop := match s'.1 with
  | .inl f => (1 ≤ f.1 ∧ f.1 ≤ 3) ∧ 0 ≤ f.2
  | .inr a' => ∃ a M, s.1 = .inr a ∧ s'.2 = s.2 ++ M ∧ P M ∧ a + (M.length : Int) ≤ a' ∧ a' ≤ n
theorem isE_len {M : List Int} (h : isE M) : 1 ≤ M.length := by
  cases M with
  | nil =>
    have := h 0
    simp [hT] at this
  | cons x M => simp
theorem lGo_K {P : List Int → Prop} {n : Int} {s s' : lS} (k : lK s n) (g : lGo P n s s') : lK s' n := by
  unfold lGo at g
  unfold lK
  cases e : s'.1 with
  | inl f =>
    rw [e] at g
    exact g
  | inr a' =>
    rw [e] at g
    obtain ⟨a, M, h1, h2, h3, h4, h5⟩ := g
    unfold lK at k
    rw [h1] at k
    dsimp only at k ⊢
    rw [h2, List.length_append]
    omega
theorem lLp_go {T : Int → Int} {n : Int} {sub : lS → lS} {c1 s1 c2 s2 : Int} (h1 : 1006 ≤ s1 ∧ s1 ≤ 1011) (h2 : 1006 ≤ s2 ∧ s2 ≤ 1011) (hs : ∀ s, lK s n → lGo isE n s (sub s)) : ∀ (f : Nat) (s : lS), lK s n → lGo isC n s (lLp T n sub c1 s1 c2 s2 f s)
  | 0, s, k => by
    rw [lLp]
    unfold lGo
    unfold lK at k
    cases e : s.1 with
    | inl f =>
      rw [e] at k
      exact k
    | inr a =>
      rw [e] at k
      exact ⟨a, [], rfl, by simp, isC_nil, by simp, k.1.2⟩
  | f + 1, s, k => by
    rw [lLp]
    cases e : s.1 with
    | inl f =>
      unfold lGo
      rw [e]
      unfold lK at k
      rw [e] at k
      exact k
    | inr a =>
      have k' := k
      unfold lK at k'
      rw [e] at k'
      dsimp only at k' ⊢
      have hb := nBE (T := T) k'.1.2
      have step : ∀ x, (1006 ≤ x ∧ x ≤ 1011) → nB T n a < n → lGo isC n s (lLp T n sub c1 s1 c2 s2 f (lAp (sub (.inr (nB T n a + 1), s.2)) x)) := by
        intro x hx q
        have k1 : lK (.inr (nB T n a + 1), s.2) n := by
          show (0 ≤ nB T n a + 1 ∧ nB T n a + 1 ≤ n) ∧ (s.2.length : Int) ≤ nB T n a + 1
          omega
        have g1 := hs _ k1
        have k2 : lK (lAp (sub (.inr (nB T n a + 1), s.2)) x) n := by
          unfold lGo at g1
          unfold lK lAp
          cases e1 : (sub (.inr (nB T n a + 1), s.2)).1 with
          | inl f =>
            rw [e1] at g1
            exact g1
          | inr b =>
            rw [e1] at g1
            obtain ⟨a0, M, p1, p2, p3, p4, p5⟩ := g1
            injection p1 with p1
            dsimp only at p2 ⊢
            rw [p2, List.length_append, List.length_append]
            simp only [List.length_cons, List.length_nil]
            omega
        have g2 := lLp_go (T := T) (c1 := c1) (c2 := c2) h1 h2 hs f _ k2
        unfold lGo at g1 g2 ⊢
        cases e2 : (lLp T n sub c1 s1 c2 s2 f (lAp (sub (.inr (nB T n a + 1), s.2)) x)).1 with
        | inl f =>
          rw [e2] at g2
          exact g2
        | inr b =>
          rw [e2] at g2
          obtain ⟨a1, M2, q1, q2, q3, q4, q5⟩ := g2
          have q1' : (sub (.inr (nB T n a + 1), s.2)).1 = .inr a1 := q1
          rw [q1'] at g1
          obtain ⟨a0, M, p1, p2, p3, p4, p5⟩ := g1
          injection p1 with p1
          have q2' : (lLp T n sub c1 s1 c2 s2 f (lAp (sub (.inr (nB T n a + 1), s.2)) x)).2 = (sub (.inr (nB T n a + 1), s.2)).2 ++ [x] ++ M2 := q2
          refine ⟨a, M ++ ([x] ++ M2), e, ?_, isC_2 p3 hx.1 hx.2 q3, ?_, q5⟩
          · rw [q2', p2]
            simp
          · rw [List.length_append, List.length_append]
            simp only [List.length_cons, List.length_nil]
            omega
      split
      · rename_i q
        exact step s1 h1 q.1
      · split
        · rename_i q
          exact step s2 h2 q.1
        · unfold lGo
          exact ⟨a, [], e, by simp, isC_nil, by simp; omega, by omega⟩
theorem lC_E {n : Int} {s s' s'' : lS} (g1 : lGo isE n s s') (g2 : lGo isC n s' s'') : lGo isE n s s'' := by
  unfold lGo at g1 g2 ⊢
  cases e2 : s''.1 with
  | inl f =>
    rw [e2] at g2
    exact g2
  | inr b =>
    rw [e2] at g2
    obtain ⟨a1, M2, q1, q2, q3, q4, q5⟩ := g2
    rw [q1] at g1
    obtain ⟨a0, M, p1, p2, p3, p4, p5⟩ := g1
    refine ⟨a0, M ++ M2, p1, by rw [q2, p2, List.append_assoc], isE_C p3 q3, ?_, q5⟩
    rw [List.length_append]
    omega
/-- a sign, then a sum, from a state -/
theorem lC1_go {T : Int → Int} {n c : Int} {S : lS → lS} (hS : ∀ s, lK s n → lGo isE n s (S s)) {s : lS} (k : lK s n) : match (lC1 T n S c s).1 with
    | .inl f => (1 ≤ f.1 ∧ f.1 ≤ 3) ∧ 0 ≤ f.2
    | .inr a' => ∃ a M, s.1 = .inr a ∧ (lC1 T n S c s).2 = s.2 ++ M ∧ isE M ∧ a + 1 + (M.length : Int) ≤ a' ∧ a' ≤ n := by
  have k1 : lK (rdX T n c s.1, s.2) n := by
    unfold lK at k ⊢
    cases e : s.1 with
    | inl f =>
      rw [e] at k
      exact k
    | inr a =>
      rw [e] at k
      dsimp only at k
      unfold rdX
      dsimp only
      cases e1 : xF T n a c with
      | some f =>
        have := xF_K (K := f.1) (PL := f.2) k.1.1 k.1.2 e1
        show (1 ≤ f.1 ∧ f.1 ≤ 3) ∧ 0 ≤ f.2
        omega
      | none =>
        have h1 := xF_n e1
        have h2 := nBE (T := T) k.1.2
        show (0 ≤ nB T n a + 1 ∧ nB T n a + 1 ≤ n) ∧ (s.2.length : Int) ≤ nB T n a + 1
        omega
  have g := hS _ k1
  unfold lC1
  unfold lGo at g
  cases e2 : (S (rdX T n c s.1, s.2)).1 with
  | inl f =>
    rw [e2] at g
    exact g
  | inr b =>
    rw [e2] at g
    obtain ⟨a1, M, q1, q2, q3, q4, q5⟩ := g
    unfold lK at k
    cases e : s.1 with
    | inl f =>
      rw [e] at q1
      exact absurd q1 (by simp [rdX])
    | inr a =>
      rw [e] at q1 q2 k
      dsimp only at k
      have h2 := nBE (T := T) k.1.2
      unfold rdX at q1
      dsimp only at q1
      cases e1 : xF T n a c with
      | some f =>
        rw [e1] at q1
        exact absurd q1 (by simp)
      | none =>
        rw [e1] at q1
        dsimp only at q1
        injection q1 with q1
        exact ⟨a, M, rfl, q2, q3, by omega, q5⟩
theorem lUn_go {T : Int → Int} {n op : Int} {S : lS → lS} (hS : ∀ s, lK s n → lGo isE n s (S s)) (s : lS) (k : lK s n) : lGo isE n s (lUn T n S op s) := by
  unfold lUn
  cases e : s.1 with
  | inl f =>
    unfold lK at k
    rw [e] at k
    unfold lGo
    rw [e]
    exact k
  | inr a =>
    have k' := k
    unfold lK at k'
    rw [e] at k'
    dsimp only at k' ⊢
    have hb := nBE (T := T) k'.1.2
    have hw := nBW (T := T) k'.1.2
    have pair : ∀ x, (1006 ≤ x ∧ x ≤ 1011) → 1 ≤ wE T n a - nB T n a → lGo isE n s (lPr T n S op x a s.2) := by
      intro x hx hlen
      unfold lPr
      by_cases q : 6 ≤ op
      · rw [if_pos q]
        show (1 ≤ (3 : Int) ∧ (3 : Int) ≤ 3) ∧ 0 ≤ nB T n a
        omega
      · rw [if_neg q]
        have k1 : lK (.inr (wE T n a), s.2) n := by
          show (0 ≤ wE T n a ∧ wE T n a ≤ n) ∧ (s.2.length : Int) ≤ wE T n a
          omega
        have g1 := lC1_go (T := T) (c := 91) hS k1
        have k2 : lK (lC1 T n S 91 (.inr (wE T n a), s.2)) n := by
          unfold lK
          cases e1 : (lC1 T n S 91 (.inr (wE T n a), s.2)).1 with
          | inl f =>
            rw [e1] at g1
            exact g1
          | inr b =>
            rw [e1] at g1
            obtain ⟨a0, M, p1, p2, p3, p4, p5⟩ := g1
            injection p1 with p1
            dsimp only at p2 ⊢
            rw [p2, List.length_append]
            omega
        have g2 := lC1_go (T := T) (c := 44) hS k2
        unfold lGo
        cases e3 : rdX T n 93 (lC1 T n S 44 (lC1 T n S 91 (.inr (wE T n a), s.2))).1 with
        | inl f =>
          have k3 : stK (lC1 T n S 44 (lC1 T n S 91 (.inr (wE T n a), s.2))).1 n := by
            unfold stK
            cases e4 : (lC1 T n S 44 (lC1 T n S 91 (.inr (wE T n a), s.2))).1 with
            | inl f =>
              rw [e4] at g2
              exact g2
            | inr b =>
              rw [e4] at g2
              obtain ⟨a0, M, p1, p2, p3, p4, p5⟩ := g2
              unfold lK at k2
              rw [p1] at k2
              dsimp only at k2 ⊢
              omega
          have := rdX_K (T := T) (s := 93) k3
          rw [e3] at this
          exact this
        | inr b =>
          have ok3 : isOkS (rdX T n 93 (lC1 T n S 44 (lC1 T n S 91 (.inr (wE T n a), s.2))).1) := by rw [e3]; trivial
          have ok2 := rdX_ok ok3
          cases e4 : (lC1 T n S 44 (lC1 T n S 91 (.inr (wE T n a), s.2))).1 with
          | inl f =>
            rw [e4] at ok2
            exact absurd ok2 (fun v => v)
          | inr b4 =>
            rw [e4] at g2 e3
            obtain ⟨a0, M, p1, p2, p3, p4, p5⟩ := g2
            rw [p1] at g1
            obtain ⟨a1, M1, q1, q2, q3, q4, q5⟩ := g1
            injection q1 with q1
            have hb4 := nBE (T := T) p5
            unfold rdX at e3
            dsimp only at e3
            cases e5 : xF T n b4 93 with
            | some f =>
              rw [e5] at e3
              exact absurd e3 (by simp)
            | none =>
              have x5 := xF_n e5
              rw [e5] at e3
              dsimp only at e3
              injection e3 with e3
              refine ⟨a, M1 ++ (M ++ ([x] ++ [])), e, ?_, isE_C q3 (isC_2 p3 hx.1 hx.2 isC_nil), ?_, by omega⟩
              · show _ ++ [x] = _
                rw [p2, q2]
                simp
              · rw [List.length_append, List.length_append, List.length_append]
                simp only [List.length_cons, List.length_nil]
                omega
    unfold lUa
    split
    · rename_i q
      unfold lGo
      have kk := rdN_K (T := T) (n := n) (lo := 0) (hi := 999) (st := .inr a) k'.1
      cases e1 : (rdN T n 0 999 (.inr a)).1 with
      | inl f =>
        rw [e1] at kk
        exact kk
      | inr b =>
        have ok : isOkS (rdN T n 0 999 (.inr a)).1 := by rw [e1]; trivial
        have r := (rdN_ok ok).2
        refine ⟨a, [(rdN T n 0 999 (.inr a)).2], e, rfl, isE_1 r.1 (by omega), ?_, ?_⟩
        · unfold rdN at e1
          dsimp only at e1
          cases e2 : nF T n a 0 999 with
          | some f =>
            rw [e2] at e1
            exact absurd e1 (by simp)
          | none =>
            rw [e2] at e1
            dsimp only at e1
            injection e1 with e1
            have := (nF_v e2).2
            simp only [List.length_cons, List.length_nil]
            omega
        · rw [e1] at kk
          exact kk.2
    · split
      · rename_i q
        split
        · show (1 ≤ (3 : Int) ∧ (3 : Int) ≤ 3) ∧ 0 ≤ nB T n a
          omega
        · have k1 : lK (.inr (nB T n a + 1), s.2) n := by
            show (0 ≤ nB T n a + 1 ∧ nB T n a + 1 ≤ n) ∧ (s.2.length : Int) ≤ nB T n a + 1
            omega
          have g1 := hS _ k1
          unfold lGo
          cases e3 : rdX T n 41 (S (.inr (nB T n a + 1), s.2)).1 with
          | inl f =>
            have k3 : stK (S (.inr (nB T n a + 1), s.2)).1 n := by
              unfold stK
              unfold lGo at g1
              cases e4 : (S (.inr (nB T n a + 1), s.2)).1 with
              | inl f =>
                rw [e4] at g1
                exact g1
              | inr b =>
                rw [e4] at g1
                obtain ⟨a0, M, p1, p2, p3, p4, p5⟩ := g1
                injection p1 with p1
                dsimp only
                omega
            have := rdX_K (T := T) (s := 41) k3
            rw [e3] at this
            exact this
          | inr b =>
            unfold lGo at g1
            cases e4 : (S (.inr (nB T n a + 1), s.2)).1 with
            | inl f =>
              rw [e4] at e3
              exact absurd e3 (by simp [rdX])
            | inr b4 =>
              rw [e4] at g1 e3
              obtain ⟨a0, M, p1, p2, p3, p4, p5⟩ := g1
              injection p1 with p1
              have hb4 := nBE (T := T) p5
              unfold rdX at e3
              dsimp only at e3
              cases e5 : xF T n b4 41 with
              | some f =>
                rw [e5] at e3
                exact absurd e3 (by simp)
              | none =>
                have x5 := xF_n e5
                rw [e5] at e3
                dsimp only at e3
                injection e3 with e3
                exact ⟨a, M, e, p2, p3, by omega, by omega⟩
      · have lets : ∀ j : Int, nB T n a ≤ j → j < wE T n a → 97 ≤ T j ∧ T j ≤ 122 := fun j x y => isS_t.mp (run_in (p := isS) (T := T) (n := n) (n - nB T n a).toNat (nB T n a) (by omega) j x y)
        have wlen : ∀ j, wOk j → wH T (nB T n a) (wE T n a) = wC j → 1 ≤ wE T n a - nB T n a := by
          intro j wj ew
          have := ((wH_is wj hw.2.1 lets).mp ew).1
          have := wj.2.1.1
          omega
        split
        · rename_i q
          exact pair 1010 (by decide) (wlen 13 (wOk_j (by decide) (by decide) (by decide)) q)
        · split
          · rename_i q
            exact pair 1011 (by decide) (wlen 14 (wOk_j (by decide) (by decide) (by decide)) q)
          · split
            · show (1 ≤ (1 : Int) ∧ (1 : Int) ≤ 3) ∧ 0 ≤ nB T n a
              omega
            · rename_i q
              have fr := lFa_r T n a
              have wl : 1 ≤ wE T n a - nB T n a := by
                by_cases w : wE T n a - nB T n a = 0
                · exfalso
                  apply q
                  have w0 : wH T (nB T n a) (wE T n a) = 0 := by
                    unfold wH
                    rw [if_pos (by omega), w]
                    rfl
                  unfold lFa
                  rw [if_neg (by omega), w0]
                  decide +kernel
                · omega
              unfold lGo
              refine ⟨a, [1000 + lFa T n a], e, rfl, isE_1 (by omega) (by omega), ?_, hw.2.2⟩
              simp only [List.length_cons, List.length_nil]
              omega
theorem lSm_go {T : Int → Int} {n : Int} : ∀ (g : Nat) (op : Int) (s : lS), lK s n → lGo isE n s (lSm T n g op s)
  | 0, op, s, k => by
    rw [lSm]
    unfold lK at k
    unfold lGo
    cases e : s.1 with
    | inl f =>
      dsimp only
      rw [e] at k ⊢
      exact k
    | inr a =>
      show (1 ≤ (3 : Int) ∧ (3 : Int) ≤ 3) ∧ (0 : Int) ≤ 0
      decide
  | g + 1, op, s, k => by
    have hU := lUn_go (T := T) (op := op) (lSm_go (T := T) (n := n) g (op + 1))
    have hP : ∀ s, lK s n → lGo isE n s (lPd T n (lSm T n g (op + 1)) op s) := fun s k => lC_E (hU s k) (lLp_go (by decide) (by decide) hU 150 _ (lGo_K k (hU s k)))
    rw [lSm]
    exact lC_E (hP s k) (lLp_go (by decide) (by decide) hP 150 _ (lGo_K k (hP s k)))
/-- an expression is a law -/
theorem hT_w {f : Int → Int} {N e : Nat} : ∀ (M : List Int) (j t : Nat), j + M.length = N → (∀ i : Nat, i < M.length → M.getD i 0 = f ((j + i : Nat) : Int)) → mTop f j = t → hT t M = some e → (∀ k : Nat, j ≤ k → k < N → 0 ≤ f k ∧ f k ≤ 1011 ∧ (1006 ≤ f k → 2 ≤ mTop f k)) ∧ mTop f N = e
  | [], j, t, hl, _, ht, hh => by
    simp only [List.length_nil] at hl
    rw [hT] at hh
    injection hh with hh
    refine ⟨fun k a b => by omega, ?_⟩
    rw [show N = j by omega, ht, hh]
  | x :: M, j, t, hl, hf, ht, hh => by
    have x0 : x = f (j : Int) := hf 0 (by simp)
    simp only [List.length_cons] at hl
    have hf' : ∀ i : Nat, i < M.length → M.getD i 0 = f ((j + 1 + i : Nat) : Int) := by
      intro i hi
      have := hf (i + 1) (by simp; omega)
      rw [show j + (i + 1) = j + 1 + i by omega] at this
      rw [← this]
      simp
    rw [hT] at hh
    by_cases q1 : x < 0 ∨ 1011 < x
    · rw [if_pos q1] at hh
      exact absurd hh (by simp)
    · rw [if_neg q1] at hh
      by_cases q2 : x < 1006
      · rw [if_pos q2] at hh
        have := hT_w (N := N) M (j + 1) (t + 1) (by omega) hf' (by rw [mTop, ← x0, if_neg (by omega), ht]; omega) hh
        refine ⟨fun k a b => ?_, this.2⟩
        by_cases w : k = j
        · rw [w, ← x0]
          exact ⟨by omega, by omega, fun v => by omega⟩
        · exact this.1 k (by omega) b
      · rw [if_neg q2] at hh
        by_cases q3 : 2 ≤ t
        · rw [if_pos q3] at hh
          have := hT_w (N := N) M (j + 1) (t - 1) (by omega) hf' (by rw [mTop, ← x0, if_pos (by omega), ht]; omega) hh
          refine ⟨fun k a b => ?_, this.2⟩
          by_cases w : k = j
          · rw [w, ← x0, ht]
            exact ⟨by omega, by omega, fun v => by omega⟩
          · exact this.1 k (by omega) b
        · rw [if_neg q3] at hh
          exact absurd hh (by simp)
def lF (L : List Int) : Int → Int := fun k => L.getD k.toNat 0
theorem lRd_w {T : Int → Int} {n a b : Int} (hn : n ≤ 150) (ha : 0 ≤ a ∧ a ≤ n) (e : (lRd T n a).1 = .inr b) : wLaw (lF (lRd T n a).2) (lRd T n a).2.length := by
  have g := lSm_go (T := T) (n := n) 7 0 (.inr a, []) ⟨ha, by simp; omega⟩
  unfold lRd at e ⊢
  unfold lGo at g
  cases e1 : (lSm T n 7 0 (.inr a, [])).1 with
  | inl f =>
    rw [e1] at e
    exact absurd e (by simp)
  | inr c =>
    rw [e1] at e g
    dsimp only at e ⊢
    by_cases q : nB T n c < n
    · rw [if_pos q] at e
      exact absurd e (by simp)
    · rw [if_neg q]
      obtain ⟨a0, M, p1, p2, p3, p4, p5⟩ := g
      injection p1 with p1
      dsimp only at p2 ⊢
      rw [p2, List.nil_append]
      have l1 := isE_len p3
      have := hT_w (f := lF M) (N := M.length) (e := 1) M 0 0 (by omega) (fun i hi => by unfold lF; rw [show (((0 + i : Nat)) : Int).toNat = i by omega]) rfl (p3 0)
      exact ⟨⟨l1, by omega⟩, fun k hk => this.1 k (by omega) hk, this.2⟩
