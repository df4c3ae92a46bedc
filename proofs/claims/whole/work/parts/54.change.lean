/-! changes of a plan: the data, the class -/
def mkP (n : Nat) (D B : Int → Int) : List (Int × Int) := (List.range n).map (fun i : Nat => (D (i : Int), B (i : Int)))
theorem mkP_len (n : Nat) (D B : Int → Int) : (mkP n D B).length = n := by simp [mkP]
theorem mkP_at {n : Nat} {D B : Int → Int} {k : Int} (h0 : 0 ≤ k) (h1 : k < n) : (mkP n D B).getD k.toNat (0, 0) = (D k, B k) := by
  have h2 : k.toNat < n := by omega
  have h3 : ((k.toNat : Nat) : Int) = k := by omega
  unfold mkP
  rw [List.getD_eq_getElem?_getD, List.getElem?_map, List.getElem?_range h2]
  simp [h3]
theorem mkP_D {n : Nat} {D B : Int → Int} {k : Int} (h0 : 0 ≤ k) (h1 : k < n) : pD (mkP n D B) k = D k := by
  unfold pD
  rw [mkP_at h0 h1]
theorem mkP_B {n : Nat} {D B : Int → Int} {k : Int} (h0 : 0 ≤ k) (h1 : k < n) : pB (mkP n D B) k = B k := by
  unfold pB
  rw [mkP_at h0 h1]
def zsw (l v i : Int) : Int := if i = l then v else if i = v then l else i
def pSw (P : List (Int × Int)) (l v : Int) : List (Int × Int) := mkP P.length (fun i => pD P (zsw l v i)) (fun i => pB P (zsw l v i))
def pHd (P : List (Int × Int)) (l v : Int) : List (Int × Int) := mkP P.length (pD P) (fun i => if i = l then v else pB P i)
def pDr (P : List (Int × Int)) (l : Int) : List (Int × Int) := mkP (P.length - 1) (fun i => if i < l then pD P i else pD P (i + 1)) (fun i => if i < l then pB P i else pB P (i + 1))
/-- what taking back an entry of the log makes of a plan -/
def pUn (e : Int × Int × Int) (P : List (Int × Int)) : List (Int × Int) := if e.1 = 0 then pSw P e.2.1 e.2.2 else if e.1 = 1 then pHd P e.2.1 e.2.2 else mkP (P.length + 1) (fun i => if i < e.2.1 then pD P i else if i = e.2.1 then zShr e.2.2 4 else pD P (i - 1)) (fun i => if i < e.2.1 then pB P i else if i = e.2.1 then zAnd e.2.2 15 else pB P (i - 1))
/-- the same lines -/
def pEq (P Q : List (Int × Int)) : Prop := P.length = Q.length ∧ ∀ k : Int, 0 ≤ k → k < P.length → pD P k = pD Q k ∧ pB P k = pB Q k
/-- an entry can be taken back: its line is there, and the plan becomes S -/
def eOk (e : Int × Int × Int) (P S : List (Int × Int)) : Prop := (e.1 = 0 ∨ e.1 = 1 ∨ e.1 = 2) ∧ (0 ≤ e.2.1 ∧ (e.1 ≠ 2 → e.2.1 < P.length) ∧ e.2.1 ≤ P.length) ∧ (e.1 = 0 → 0 ≤ e.2.2 ∧ e.2.2 < P.length) ∧ pEq (pUn e P) S
/-- a history, the newest first: each entry and the plan ahead of it -/
def hOk (r : zH) : List (Int × Int) → List ((Int × Int × Int) × List (Int × Int)) → Prop
  | _, [] => True
  | P, (e, S) :: L => eOk e P S ∧ wPlan r S ∧ hOk r S L
def cLogR (p : Int) (h : zH) : List ((Int × Int × Int) × List (Int × Int)) → Prop
  | [] => True
  | (e, _) :: L => (h (p + 1) L.length = e.1 ∧ h (p + 2) L.length = e.2.1 ∧ h (p + 3) L.length = e.2.2) ∧ cLogR p h L
def mSnap (h : zH) (o q : Int) (S : List (Int × Int)) : Prop := h o (q + 24) = S.length ∧ ∀ k : Int, 0 ≤ k → k < S.length → h o (q + 2 * k) = pD S k ∧ h o (q + 2 * k + 1) = pB S k
def mLogR (h : zH) (o q : Int) : List ((Int × Int × Int) × List (Int × Int)) → Prop
  | [] => True
  | (_, S) :: L => mSnap h o (q + 25 * L.length) S ∧ mLogR h o q L
theorem cLogR_fr {p : Int} {h h' : zH} : ∀ {L : List ((Int × Int × Int) × List (Int × Int))}, (∀ o j, p + 1 ≤ o → o ≤ p + 3 → 0 ≤ j → j < L.length → h' o j = h o j) → cLogR p h L → cLogR p h' L
  | [], _, _ => trivial
  | (e, S) :: L, fr, q => by
    obtain ⟨⟨a, b, c⟩, q2⟩ := q
    have hl : ((e, S) :: L).length = L.length + 1 := rfl
    refine ⟨⟨?_, ?_, ?_⟩, cLogR_fr (fun o j o1 o2 j1 j2 => fr o j o1 o2 j1 (by omega)) q2⟩
    · rw [fr _ _ (by omega) (by omega) (by omega) (by omega), a]
    · rw [fr _ _ (by omega) (by omega) (by omega) (by omega), b]
    · rw [fr _ _ (by omega) (by omega) (by omega) (by omega), c]
theorem mSnap_fr {h h' : zH} {o q : Int} {S : List (Int × Int)} (hl : S.length ≤ 12) (fr : ∀ j, q ≤ j → j < q + 25 → h' o j = h o j) (m : mSnap h o q S) : mSnap h' o q S :=
  ⟨by rw [fr _ (by omega) (by omega)]; exact m.1, fun k a b => by rw [fr _ (by omega) (by omega), fr _ (by omega) (by omega)]; exact m.2 k a b⟩
theorem mLogR_fr {r : zH} {h h' : zH} {o q : Int} : ∀ {P : List (Int × Int)} {L : List ((Int × Int × Int) × List (Int × Int))}, hOk r P L → (∀ j, q ≤ j → j < q + 25 * L.length → h' o j = h o j) → mLogR h o q L → mLogR h' o q L
  | _, [], _, _, _ => trivial
  | _, (e, S) :: L, k, fr, m => by
    have hl : ((e, S) :: L).length = L.length + 1 := rfl
    exact ⟨mSnap_fr k.2.1.1 (fun j a b => fr j (by omega) (by omega)) m.1, mLogR_fr k.2.2 (fun j a b => fr j a (by omega)) m.2⟩
theorem cPlan_of {p : Int} {h : zH} {n : Nat} {D B : Int → Int} (h1 : h p 5 = n) (h2 : ∀ k : Int, 0 ≤ k → k < n → h (p + 4) k = D k ∧ h (p + 5) k = B k) : cPlan p h (mkP n D B) := by
  refine ⟨by rw [mkP_len]; exact h1, fun k a b => ?_⟩
  rw [mkP_len] at b
  rw [mkP_D a b, mkP_B a b]
  exact h2 k a b
theorem s_51 {d c : Nat} {h : zH} {R : Int → Nat → zH → Prop} {X : Nat → Nat → zH → Prop} {p l v : Int} (hp : zIsP p) (hl : 0 ≤ l ∧ l < 12) (hv : 0 ≤ v ∧ v < 12) (k : ∀ h', (∀ o j, o ≠ p + 4 → o ≠ p + 5 → h' o j = h o j) → (∀ j, h' (p + 4) j = h (p + 4) (zsw l v j) ∧ h' (p + 5) j = h (p + 5) (zsw l v j)) → R 0 c h') : zCl d 51 [(2, p), (0, l), (0, v)] c h R X := by
  refine b_51 hp ⟨hl, hv, hl, hv, hl, hv, hl, hv, k _ (fun o j a b => ?_) (fun j => ⟨?_, ?_⟩)⟩
  · rw [hw_ne (by omega), hw_ne (by omega), hw_ne (by omega), hw_ne (by omega)]
  · rw [hw_ne (by omega), hw_ne (by omega)]
    unfold zsw
    by_cases q1 : j = v
    · rw [hw_eq ⟨rfl, q1⟩, q1]
      split
      · rename_i w
        rw [w]
      · rw [if_pos rfl]
    · rw [hw_ne (Or.inr q1)]
      by_cases q2 : j = l
      · rw [hw_eq ⟨rfl, q2⟩, if_pos q2]
      · rw [hw_ne (Or.inr q2), if_neg q2, if_neg q1]
  · rw [hw_ne (o := p + 4) (by omega), hw_ne (o := p + 4) (by omega), hw_ne (o := p + 4) (by omega), hw_ne (o := p + 4) (by omega)]
    unfold zsw
    by_cases q1 : j = v
    · rw [hw_eq ⟨rfl, q1⟩, q1]
      split
      · rename_i w
        rw [w]
      · rw [if_pos rfl]
    · rw [hw_ne (Or.inr q1)]
      by_cases q2 : j = l
      · rw [hw_eq ⟨rfl, q2⟩, if_pos q2]
      · rw [hw_ne (Or.inr q2), if_neg q2, if_neg q1, hw_ne (by omega), hw_ne (by omega)]
theorem s_207 {d c : Nat} {h : zH} {R : Int → Nat → zH → Prop} {X : Nat → Nat → zH → Prop} {p a b e : Int} (hp : zIsP p) (hc : 0 ≤ h p 6 ∧ h p 6 ≤ 20) (k0 : h p 6 = 20 → R 0 c h) (k1 : h p 6 < 20 → ∀ h', (∀ o j, ¬ (o = p ∧ j = 6) → ¬ (p + 1 ≤ o ∧ o ≤ p + 3 ∧ j = h p 6) → h' o j = h o j) → h' p 6 = h p 6 + 1 → h' (p + 1) (h p 6) = a ∧ h' (p + 2) (h p 6) = b ∧ h' (p + 3) (h p 6) = e → R 1 c h') : zCl d 207 [(2, p), (0, a), (0, b), (0, e)] c h R X := by
  refine b_207 hp ⟨fun q => ?_, fun q => k0 (by omega)⟩
  rw [hw_ne (o := p + 1) (by omega), hw_ne (o := p + 2) (by omega), hw_ne (o := p + 1) (by omega), hw_ne (o := p + 3) (by omega), hw_ne (o := p + 2) (by omega), hw_ne (o := p + 1) (by omega)]
  rw [w32_e (x := h p 6 + 1) (by omega) (by omega)]
  refine ⟨by omega, by omega, by omega, k1 q _ (fun o j q1 q2 => ?_) ?_ ⟨?_, ?_, ?_⟩⟩
  · rw [hw_ne (by omega), hw_ne (by omega), hw_ne (by omega), hw_ne (by omega)]
  · rw [hw_eq ⟨rfl, rfl⟩]
  · rw [hw_ne (by omega), hw_ne (by omega), hw_ne (by omega), hw_eq ⟨rfl, rfl⟩]
  · rw [hw_ne (by omega), hw_ne (by omega), hw_eq ⟨rfl, rfl⟩]
  · rw [hw_ne (by omega), hw_eq ⟨rfl, rfl⟩]
theorem s_206 {d c : Nat} {h : zH} {R : Int → Nat → zH → Prop} {X : Nat → Nat → zH → Prop} {p l v : Int} {P : List (Int × Int)} {L : List ((Int × Int × Int) × List (Int × Int))} (hp : zIsP p) (cp : cPlan p h P) (h12 : P.length ≤ 12) (cl : h p 6 = L.length ∧ cLogR p h L) (hL : L.length ≤ 20) (hl : 0 ≤ l ∧ l < P.length) (hv : 0 ≤ v ∧ v < P.length) (k0 : L.length = 20 → R 0 c h) (k1 : L.length < 20 → ∀ h', (∀ o j, ¬ (p ≤ o ∧ o ≤ p + 5) → h' o j = h o j) → cPlan p h' (pSw P l v) → (h' p 6 = ((((0, l, v), P) :: L).length : Int) ∧ cLogR p h' (((0, l, v), P) :: L)) → R 1 c h') : zCl (d + 1) 206 [(2, p), (0, l), (0, v)] c h R X := by
  refine b_206 hp (s_207 hp (by omega) (fun q => ⟨fun q1 => absurd rfl q1, fun _ => k0 (by omega)⟩) (fun q h1 f1 f2 f3 => ⟨fun _ => s_51 hp (by omega) (by omega) (fun h2 g1 g2 => ?_), fun q1 => absurd q1 (by decide)⟩))
  refine k1 (by omega) h2 (fun o j w => by rw [g1 o j (by omega) (by omega), f1 o j (by omega) (by omega)]) (cPlan_of ?_ (fun k a b => ?_)) ⟨?_, ⟨?_, ?_, ?_⟩, cLogR_fr (fun o j o1 o2 j1 j2 => ?_) cl.2⟩
  · rw [g1 _ _ (by omega) (by omega), f1 _ _ (by omega) (by omega), cp.1]
  · have hs : 0 ≤ zsw l v k ∧ zsw l v k < P.length := by
      unfold zsw
      split
      · omega
      · split <;> omega
    have := cp.2 _ hs.1 hs.2
    rw [(g2 k).1, (g2 k).2, f1 _ _ (by omega) (by omega), f1 _ _ (by omega) (by omega)]
    exact this
  · rw [g1 _ _ (by omega) (by omega), f2, cl.1]
    rfl
  · rw [g1 _ _ (by omega) (by omega), ← cl.1, f3.1]
  · rw [g1 _ _ (by omega) (by omega), ← cl.1, f3.2.1]
  · rw [g1 _ _ (by omega) (by omega), ← cl.1, f3.2.2]
  · rw [g1 _ _ (by omega) (by omega), f1 _ _ (by omega) (by omega)]
theorem s_210 {d c : Nat} {h : zH} {R : Int → Nat → zH → Prop} {X : Nat → Nat → zH → Prop} {p l v : Int} {P : List (Int × Int)} {L : List ((Int × Int × Int) × List (Int × Int))} (hp : zIsP p) (cp : cPlan p h P) (h12 : P.length ≤ 12) (cl : h p 6 = L.length ∧ cLogR p h L) (hL : L.length ≤ 20) (hl : 0 ≤ l ∧ l < P.length) (k0 : L.length = 20 → R 0 c h) (k1 : L.length < 20 → ∀ h', (∀ o j, ¬ (p ≤ o ∧ o ≤ p + 5) → h' o j = h o j) → cPlan p h' (pHd P l v) → (h' p 6 = ((((1, l, pB P l), P) :: L).length : Int) ∧ cLogR p h' (((1, l, pB P l), P) :: L)) → R 1 c h') : zCl (d + 1) 210 [(2, p), (0, l), (0, v)] c h R X := by
  have hb := cp.2 l hl.1 hl.2
  refine b_210 hp ⟨by omega, ?_⟩
  rw [hb.2]
  refine s_207 hp (by omega) (fun q => ⟨fun q1 => absurd rfl q1, fun _ => k0 (by omega)⟩) (fun q h1 f1 f2 f3 => ⟨fun _ => ⟨by omega, ?_⟩, fun q1 => absurd q1 (by decide)⟩)
  refine k1 (by omega) _ (fun o j w => by rw [hw_ne (by omega), f1 o j (by omega) (by omega)]) (cPlan_of ?_ (fun k a b => ⟨?_, ?_⟩)) ⟨?_, ⟨?_, ?_, ?_⟩, cLogR_fr (fun o j o1 o2 j1 j2 => ?_) cl.2⟩
  · rw [hw_ne (by omega), f1 _ _ (by omega) (by omega), cp.1]
  · rw [hw_ne (by omega), f1 _ _ (by omega) (by omega), (cp.2 k a b).1]
  · by_cases e : k = l
    · rw [hw_eq ⟨rfl, e⟩, if_pos e]
    · rw [hw_ne (Or.inr e), if_neg e, f1 _ _ (by omega) (by omega), (cp.2 k a b).2]
  · rw [hw_ne (by omega), f2, cl.1]
    rfl
  · rw [hw_ne (by omega), ← cl.1, f3.1]
  · rw [hw_ne (by omega), ← cl.1, f3.2.1]
  · rw [hw_ne (by omega), ← cl.1, f3.2.2]
  · rw [hw_ne (by omega), f1 _ _ (by omega) (by omega)]
theorem s_213 {d c : Nat} {h : zH} {R : Int → Nat → zH → Prop} {X : Nat → Nat → zH → Prop} {p l : Int} {P : List (Int × Int)} {L : List ((Int × Int × Int) × List (Int × Int))} (hp : zIsP p) (cp : cPlan p h P) (h12 : P.length ≤ 12) (hd : 0 ≤ pD P l ∧ pD P l < 12) (hb : 0 ≤ pB P l ∧ pB P l < 16) (cl : h p 6 = L.length ∧ cLogR p h L) (hL : L.length ≤ 20) (hl : 0 ≤ l ∧ l < P.length) (k0 : L.length = 20 → R 0 c h) (k1 : L.length < 20 → ∀ h', (∀ o j, ¬ (p ≤ o ∧ o ≤ p + 5) → h' o j = h o j) → cPlan p h' (pDr P l) → (h' p 6 = ((((2, l, pD P l * 16 + pB P l), P) :: L).length : Int) ∧ cLogR p h' (((2, l, pD P l * 16 + pB P l), P) :: L)) → R 1 c h') : zCl (d + 1) 213 [(2, p), (0, l)] c h R X := by
  have hpl := cp.2 l hl.1 hl.2
  refine b_213 hp ⟨by omega, by omega, ?_⟩
  rw [hpl.1, hpl.2, w32_e (x := pD P l * 16) (by omega) (by omega), w32_e (by omega) (by omega)]
  refine s_207 hp (by omega) (fun q => ⟨fun q1 => absurd rfl q1, fun _ => k0 (by omega)⟩) (fun q h1 f1 f2 f3 => ⟨fun _ => ?_, fun q1 => absurd q1 (by decide)⟩)
  have e5 : h1 p 5 = P.length := by rw [f1 _ _ (by omega) (by omega), cp.1]
  rw [e5, w32_e (by omega) (by omega)]
  -- the line goes down to the end
  have main := zDown (W := fun m => l ≤ (m : Int) → ∀ h2, (∀ o j, o ≠ p + 4 → o ≠ p + 5 → h2 o j = (hw h1 p 5 ((P.length : Int) - 1)) o j) → (∀ k : Int, 0 ≤ k → k < P.length → h2 (p + 4) k = (if k < l then pD P k else if k < m then pD P (k + 1) else if k = m then pD P l else pD P k) ∧ h2 (p + 5) k = (if k < l then pB P k else if k < m then pB P (k + 1) else if k = m then pB P l else pB P k)) → zWp (d + 1) 213 39 [(2, p), (0, l), (0, (m : Int))] [] (zTS c h2) (zQ 2 R X)) (P.length - 1) ?_ ?_ l.toNat (by omega) (by omega) _ (fun _ _ _ _ => rfl) (fun k a b => ?_)
  · rw [Int.toNat_of_nonneg hl.1] at main
    exact main
  · intro _ h2 g1 g2
    refine b_213_39 hp ⟨fun _ => ?_, fun w => ?_⟩
    · refine k1 (by omega) h2 (fun o j w => by rw [g1 o j (by omega) (by omega), hw_ne (by omega), f1 o j (by omega) (by omega)]) (cPlan_of ?_ (fun k a b => ?_)) ⟨?_, ⟨?_, ?_, ?_⟩, cLogR_fr (fun o j o1 o2 j1 j2 => ?_) cl.2⟩
      · rw [g1 _ _ (by omega) (by omega), hw_eq ⟨rfl, rfl⟩]
        omega
      · have := g2 k a (by omega)
        by_cases w : k < l
        · rw [if_pos w, if_pos w] at this
          rw [if_pos w, if_pos w]
          exact this
        · rw [if_neg w, if_neg w, if_pos b, if_pos b] at this
          rw [if_neg w, if_neg w]
          exact this
      · rw [g1 _ _ (by omega) (by omega), hw_ne (by omega), f2, cl.1]
        rfl
      · rw [g1 _ _ (by omega) (by omega), hw_ne (by omega), ← cl.1, f3.1]
      · rw [g1 _ _ (by omega) (by omega), hw_ne (by omega), ← cl.1, f3.2.1]
      · rw [g1 _ _ (by omega) (by omega), hw_ne (by omega), ← cl.1, f3.2.2]
      · rw [g1 _ _ (by omega) (by omega), hw_ne (by omega), f1 _ _ (by omega) (by omega)]
    · rw [g1 _ _ (by omega) (by omega), hw_eq ⟨rfl, rfl⟩] at w
      omega
  · intro m hm ih hlm h2 g1 g2
    refine b_213_39 hp ⟨fun w => ?_, fun _ => ?_⟩
    · rw [g1 _ _ (by omega) (by omega), hw_eq ⟨rfl, rfl⟩] at w
      omega
    · rw [w32_s (by omega)]
      refine s_51 hp (by omega) (by omega) (fun h3 t1 t2 => ih (by omega) h3 (fun o j a b => by rw [t1 o j a b, g1 o j a b]) (fun k a b => ?_))
      rw [(t2 k).1, (t2 k).2]
      unfold zsw
      by_cases w1 : k = m
      · subst w1
        have := g2 ((m + 1 : Nat) : Int) (by omega) (by omega)
        rw [if_neg (by omega), if_neg (by omega), if_neg (by omega), if_neg (by omega), if_neg (by omega), if_neg (by omega)] at this
        rw [if_pos rfl, this.1, this.2, if_neg (by omega), if_pos (by omega), if_neg (by omega), if_pos (by omega)]
        exact ⟨rfl, rfl⟩
      · rw [if_neg w1]
        by_cases w2 : k = ((m + 1 : Nat) : Int)
        · have := g2 (m : Int) (by omega) (by omega)
          rw [if_neg (by omega), if_neg (by omega), if_pos rfl, if_neg (by omega), if_neg (by omega), if_pos rfl] at this
          rw [if_pos w2, this.1, this.2, if_neg (by omega), if_neg (by omega), if_pos w2, if_neg (by omega), if_neg (by omega), if_pos w2]
          exact ⟨rfl, rfl⟩
        · have := g2 k a b
          rw [if_neg w2, this.1, this.2]
          constructor
          · repeat' split
            all_goals first | rfl | omega
          · repeat' split
            all_goals first | rfl | omega
  · have := cp.2 k a b
    rw [hw_ne (by omega), hw_ne (by omega), f1 _ _ (by omega) (by omega), f1 _ _ (by omega) (by omega), this.1, this.2, Int.toNat_of_nonneg hl.1]
    constructor
    · repeat' split
      all_goals first | rfl | omega | (rename_i e; rw [e])
    · repeat' split
      all_goals first | rfl | omega | (rename_i e; rw [e])
