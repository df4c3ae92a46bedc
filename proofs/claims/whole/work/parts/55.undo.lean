/-! changes taken back, images: the class -/
theorem cPlan_eq {p : Int} {h : zH} {P Q : List (Int × Int)} (e : pEq P Q) (m : cPlan p h P) : cPlan p h Q := by
  refine ⟨by rw [← e.1]; exact m.1, fun k a b => ?_⟩
  rw [← e.1] at b
  rw [← (e.2 k a b).1, ← (e.2 k a b).2]
  exact m.2 k a b
theorem s_52 {d c : Nat} {h : zH} {R : Int → Nat → zH → Prop} {X : Nat → Nat → zH → Prop} {p l x y : Int} {P : List (Int × Int)} (hp : zIsP p) (cp : cPlan p h P) (h12 : P.length < 12) (hl : 0 ≤ l ∧ l ≤ P.length) (k : ∀ h', (∀ o j, ¬ (o = p ∧ j = 5) → o ≠ p + 4 → o ≠ p + 5 → h' o j = h o j) → cPlan p h' (mkP (P.length + 1) (fun i => if i < l then pD P i else if i = l then x else pD P (i - 1)) (fun i => if i < l then pB P i else if i = l then y else pB P (i - 1))) → R 0 c h') : zCl (d + 1) 52 [(2, p), (0, l), (0, x), (0, y)] c h R X := by
  refine b_52 hp ⟨fun _ => ?_, fun q => by rw [cp.1] at q; omega⟩
  rw [hw_ne (o := p + 4) (o' := p) (by omega), hw_ne (o := p + 5) (o' := p) (by omega), hw_ne (o := p + 4) (o' := p) (by omega), cp.1]
  refine ⟨by omega, by omega, ?_⟩
  have main := zDown (W := fun m => (m : Int) ≤ (P.length : Int) - l → ∀ h2, (∀ o j, o ≠ p + 4 → o ≠ p + 5 → h2 o j = h o j) → (∀ k : Int, 0 ≤ k → k ≤ P.length → h2 (p + 4) k = (if k < (P.length : Int) - m then pD P k else if k = (P.length : Int) - m then x else pD P (k - 1)) ∧ h2 (p + 5) k = (if k < (P.length : Int) - m then pB P k else if k = (P.length : Int) - m then y else pB P (k - 1))) → zWp (d + 1) 52 39 [(2, p), (0, l), (0, x), (0, y), (0, (P.length : Int) - m)] [] (zTS c h2) (zQ 0 R X)) ((P.length : Int) - l).toNat ?_ ?_ 0 (Nat.zero_le _) (by omega) (hw (hw h (p + 4) P.length x) (p + 5) P.length y) (fun o j a b => by rw [hw_ne (by omega), hw_ne (by omega)]) (fun k a b => ?_)
  · rw [show (P.length : Int) - ((0 : Nat) : Int) = P.length by omega] at main
    exact main
  · intro _ h2 g1 g2
    have e : (P.length : Int) - ((((P.length : Int) - l).toNat : Nat) : Int) = l := by omega
    rw [e] at g2 ⊢
    refine b_52_39 hp ⟨fun _ => ?_, fun w => by omega⟩
    rw [g1 _ _ (by omega) (by omega), cp.1, w32_e (by omega) (by omega)]
    refine k _ (fun o j a b c => by rw [hw_ne (by omega), g1 o j b c]) (cPlan_of ?_ (fun k a b => ?_))
    · rw [hw_eq ⟨rfl, rfl⟩]
      omega
    · rw [hw_ne (by omega), hw_ne (by omega)]
      exact g2 k a (by omega)
  · intro m hm ih hml h2 g1 g2
    refine b_52_39 hp ⟨fun w => by omega, fun _ => ?_⟩
    rw [w32_e (x := (P.length : Int) - m - 1) (by omega) (by omega), w32_e (x := (P.length : Int) - m + -1) (by omega) (by omega), show (P.length : Int) - m + -1 = (P.length : Int) - ((m + 1 : Nat) : Int) by omega]
    refine s_51 hp (by omega) (by omega) (fun h3 t1 t2 => ih (by omega) h3 (fun o j a b => by rw [t1 o j a b, g1 o j a b]) (fun k a b => ?_))
    rw [(t2 k).1, (t2 k).2]
    unfold zsw
    by_cases w1 : k = (P.length : Int) - m
    · have := g2 ((P.length : Int) - m - 1) (by omega) (by omega)
      rw [if_pos (by omega), if_pos (by omega)] at this
      rw [if_pos w1, this.1, this.2, if_neg (by omega), if_neg (by omega), if_neg (by omega), if_neg (by omega), w1]
      exact ⟨rfl, rfl⟩
    · rw [if_neg w1]
      by_cases w2 : k = (P.length : Int) - m - 1
      · have := g2 ((P.length : Int) - m) (by omega) (by omega)
        rw [if_neg (by omega), if_pos rfl, if_neg (by omega), if_pos rfl] at this
        rw [if_pos w2, this.1, this.2, if_neg (by omega), if_pos (by omega), if_neg (by omega), if_pos (by omega)]
        exact ⟨rfl, rfl⟩
      · have := g2 k a b
        rw [if_neg w2, this.1, this.2]
        constructor
        · repeat' split
          all_goals first | rfl | omega
        · repeat' split
          all_goals first | rfl | omega
  · by_cases e : k = P.length
    · rw [hw_ne (o := p + 5) (by omega), hw_eq ⟨rfl, e⟩, hw_eq ⟨rfl, e⟩, if_neg (by omega), if_pos (by omega), if_neg (by omega), if_pos (by omega)]
      exact ⟨rfl, rfl⟩
    · have := cp.2 k a (by omega)
      rw [hw_ne (by omega), hw_ne (by omega), hw_ne (by omega), hw_ne (by omega), if_pos (by omega), if_pos (by omega)]
      exact this
theorem s_50 {d c : Nat} {h : zH} {R : Int → Nat → zH → Prop} {X : Nat → Nat → zH → Prop} {p : Int} {r : zH} {P : List (Int × Int)} {L : List ((Int × Int × Int) × List (Int × Int))} (hp : zIsP p) (cp : cPlan p h P) (h12 : P.length ≤ 12) (cl : h p 6 = L.length ∧ cLogR p h L) (hL : L.length ≤ 20) (hk : hOk r P L) (k0 : L = [] → R 0 c h) (k1 : ∀ e S L', L = (e, S) :: L' → ∀ h', (∀ o j, ¬ (p ≤ o ∧ o ≤ p + 5) → h' o j = h o j) → cPlan p h' S → (h' p 6 = L'.length ∧ cLogR p h' L') → R 1 c h') : zCl (d + 2) 50 [(2, p)] c h R X := by
  match L, cl, hL, hk, k0, k1 with
  | [], cl, _, _, k0, _ =>
    refine b_50 hp ⟨fun q => ?_, fun _ => k0 rfl⟩
    rw [cl.1] at q
    exact absurd q (by simp)
  | (e, S) :: L', cl, hL, hk, _, k1 =>
    have hl : (((e, S) :: L').length : Int) = (L'.length : Int) + 1 := rfl
    have hL' : ((e, S) :: L').length = L'.length + 1 := rfl
    obtain ⟨cl1, ⟨c1, c2, c3⟩, cl2⟩ := cl
    obtain ⟨⟨o1, o2, o3, o4⟩, wS, hk2⟩ := hk
    have sl := wS.1
    have e6 : w32 (h p 6 - 1) = L'.length := by
      rw [cl1, hl, w32_e (by omega) (by omega)]
      omega
    refine b_50 hp ⟨fun _ => ?_, fun q => by rw [cl1, hl] at q; omega⟩
    rw [e6, hw_eq ⟨rfl, rfl⟩, hw_ne (o' := p + 1) (by omega), hw_ne (o' := p + 2) (by omega), hw_ne (o' := p + 3) (by omega), c1, c2, c3]
    have cp1 : cPlan p (hw h p 6 L'.length) P := ⟨by rw [hw_ne (by omega)]; exact cp.1, fun k a b => by rw [hw_ne (by omega), hw_ne (by omega)]; exact cp.2 k a b⟩
    have fin : ∀ h', (∀ o j, ¬ (o = p ∧ j = 5) → o ≠ p + 4 → o ≠ p + 5 → h' o j = (hw h p 6 L'.length) o j) → cPlan p h' (pUn e P) → R 1 c h' := by
      intro h' f1 f2
      refine k1 e S L' rfl h' (fun o j q => ?_) (cPlan_eq o4 f2) ⟨?_, cLogR_fr (fun o j a b c d => ?_) cl2⟩
      · rw [f1 o j (by omega) (by omega) (by omega), hw_ne (by omega)]
      · rw [f1 _ _ (by omega) (by omega) (by omega), hw_eq ⟨rfl, rfl⟩]
      · rw [f1 o j (by omega) (by omega) (by omega), hw_ne (by omega)]
    refine ⟨by omega, by omega, by omega, fun q => ?_, fun q => ⟨fun q1 => ⟨?_, ?_⟩, fun q1 => ?_⟩⟩
    · have b1 := o2.2.1 (by omega)
      have b2 := o3 q
      refine s_51 hp (by omega) (by omega) (fun h2 g1 g2 => fin h2 (fun o j a b c => g1 o j b c) ?_)
      unfold pUn
      rw [if_pos q]
      refine cPlan_of ?_ (fun k a b => ?_)
      · rw [g1 _ _ (by omega) (by omega)]
        exact cp1.1
      · have hs : 0 ≤ zsw e.2.1 e.2.2 k ∧ zsw e.2.1 e.2.2 k < P.length := by
          unfold zsw
          split
          · omega
          · split <;> omega
        rw [(g2 k).1, (g2 k).2]
        exact cp1.2 _ hs.1 hs.2
    · have b1 := o2.2.1 (by omega)
      omega
    · refine fin _ (fun o j a b c => by rw [hw_ne (by omega)]) ?_
      unfold pUn
      rw [if_neg q, if_pos q1]
      refine cPlan_of ?_ (fun k a b => ⟨?_, ?_⟩)
      · rw [hw_ne (by omega)]
        exact cp1.1
      · rw [hw_ne (by omega)]
        exact (cp1.2 k a b).1
      · by_cases ek : k = e.2.1
        · rw [hw_eq ⟨rfl, ek⟩, if_pos ek]
        · rw [hw_ne (Or.inr ek), if_neg ek]
          exact (cp1.2 k a b).2
    · have e2 : e.1 = 2 := by omega
      have hlen : P.length < 12 := by
        have := o4.1
        unfold pUn at this
        rw [if_neg q, if_neg q1, mkP_len] at this
        omega
      refine s_52 hp cp1 hlen ⟨o2.1, o2.2.2⟩ (fun h2 g1 g2 => fin h2 g1 ?_)
      unfold pUn
      rw [if_neg q, if_neg q1]
      exact g2
theorem hcp_in {h : zH} {s d n o j : Int} (e : o = d ∧ 0 ≤ j ∧ j < n) : hcp h s 0 d 0 n o j = h s j := by
  unfold hcp
  rw [if_pos ⟨e.1, e.2.1, by omega⟩, show (0 : Int) + (j - 0) = j by omega]
theorem hcp_out {h : zH} {s d n o j : Int} (e : o ≠ d) : hcp h s 0 d 0 n o j = h o j := by
  unfold hcp
  rw [if_neg (by omega)]
theorem s_54 {d c : Nat} {h : zH} {R : Int → Nat → zH → Prop} {X : Nat → Nat → zH → Prop} {t p : Int} {P : List (Int × Int)} {L : List ((Int × Int × Int) × List (Int × Int))} (ht : zIsP t) (hp : zIsP p) (hne : t ≠ p) (cp : cPlan p h P) (h12 : P.length ≤ 12) (cl : h p 6 = L.length ∧ cLogR p h L) (hL : L.length ≤ 20) (k : ∀ h', (∀ o j, ¬ (t ≤ o ∧ o ≤ t + 5) → h' o j = h o j) → cPlan t h' P → (h' t 6 = L.length ∧ cLogR t h' L) → R 0 c h') : zCl d 54 [(2, t), (2, p)] c h R X := by
  have ht' := ht
  have hp' := hp
  unfold zIsP at ht' hp'
  have key : ∀ h', (∀ o j, ¬ (t ≤ o ∧ o ≤ t + 5) → h' o j = h o j) → h' t 5 = h p 5 → h' t 6 = h p 6 → (∀ j : Int, 0 ≤ j → j < 12 → h' (t + 4) j = h (p + 4) j ∧ h' (t + 5) j = h (p + 5) j) → (∀ j : Int, 0 ≤ j → j < 20 → h' (t + 1) j = h (p + 1) j ∧ h' (t + 2) j = h (p + 2) j ∧ h' (t + 3) j = h (p + 3) j) → R 0 c h' := by
    intro h' f1 f2 f3 f4 f5
    refine k h' f1 ⟨by rw [f2]; exact cp.1, fun j a b => ?_⟩ ⟨by rw [f3]; exact cl.1, ?_⟩
    · rw [(f4 j a (by omega)).1, (f4 j a (by omega)).2]
      exact cp.2 j a b
    · have cl2 := cl.2
      clear cl k
      induction L with
      | nil => trivial
      | cons x L ih =>
        obtain ⟨e, S⟩ := x
        obtain ⟨⟨a, b, c⟩, q⟩ := cl2
        have hl : ((e, S) :: L).length = L.length + 1 := rfl
        have g := f5 (L.length : Int) (by omega) (by omega)
        exact ⟨⟨by rw [g.1]; exact a, by rw [g.2.1]; exact b, by rw [g.2.2]; exact c⟩, ih (by omega) q⟩
  refine b_54 ht hp (key _ (fun o j q => ?_) ?_ ?_ (fun j a b => ⟨?_, ?_⟩) (fun j a b => ⟨?_, ?_, ?_⟩))
  · rw [hcp_out (by omega), hcp_out (by omega), hcp_out (by omega), hcp_out (by omega), hcp_out (by omega), hw_ne (by omega), hw_ne (by omega)]
  · rw [hcp_out (by omega), hcp_out (by omega), hcp_out (by omega), hcp_out (by omega), hcp_out (by omega), hw_ne (by omega), hw_eq ⟨rfl, rfl⟩]
  · rw [hcp_out (by omega), hcp_out (by omega), hcp_out (by omega), hcp_out (by omega), hcp_out (by omega), hw_eq ⟨rfl, rfl⟩, hw_ne (by omega)]
  · rw [hcp_out (by omega), hcp_out (by omega), hcp_out (by omega), hcp_out (by omega), hcp_in ⟨rfl, a, b⟩, hw_ne (by omega), hw_ne (by omega)]
  · rw [hcp_out (by omega), hcp_out (by omega), hcp_out (by omega), hcp_in ⟨rfl, a, b⟩, hcp_out (by omega), hw_ne (by omega), hw_ne (by omega)]
  · rw [hcp_out (by omega), hcp_out (by omega), hcp_in ⟨rfl, a, b⟩, hcp_out (by omega), hcp_out (by omega), hw_ne (by omega), hw_ne (by omega)]
  · rw [hcp_out (by omega), hcp_in ⟨rfl, a, b⟩, hcp_out (by omega), hcp_out (by omega), hcp_out (by omega), hw_ne (by omega), hw_ne (by omega)]
  · rw [hcp_in ⟨rfl, a, b⟩, hcp_out (by omega), hcp_out (by omega), hcp_out (by omega), hcp_out (by omega), hw_ne (by omega), hw_ne (by omega)]
/-- the images, the newest first -/
def cImR (r h : zH) : List (List (Int × Int) × List ((Int × Int × Int) × List (Int × Int))) → Prop
  | [] => True
  | (P, L) :: I => (cPlan (95 + 6 * I.length) h P ∧ h (95 + 6 * I.length) 6 = L.length ∧ cLogR (95 + 6 * I.length) h L ∧ wPlan r P ∧ L.length ≤ 20 ∧ hOk r P L) ∧ cImR r h I
theorem cImR_fr {r h h' : zH} : ∀ {I : List (List (Int × Int) × List ((Int × Int × Int) × List (Int × Int)))}, (∀ o j, 95 ≤ o → o < 95 + 6 * (I.length : Int) → h' o j = h o j) → cImR r h I → cImR r h' I
  | [], _, _ => trivial
  | (P, L) :: I, fr, q => by
    have hl : (((P, L) :: I).length : Int) = (I.length : Int) + 1 := rfl
    obtain ⟨⟨a, b, c, d⟩, q2⟩ := q
    refine ⟨⟨cPlan_fr (fun o j o1 o2 => fr o j (by omega) (by omega)) a, ?_, cLogR_fr (fun o j o1 o2 _ _ => fr o j (by omega) (by omega)) c, d⟩, cImR_fr (fun o j o1 o2 => fr o j o1 (by omega)) q2⟩
    rw [fr _ _ (by omega) (by omega), b]
