/-! the soonest plan: all plans in their order -/
abbrev sS : Type := (Int → Int) × (Int → Int) × (Int × Int) × List (Int × Int)
abbrev sB : Type := (Int × Int) × List (Int × Int)
abbrev vlt (a b : Int × Int) : Prop := a.1 < b.1 ∨ (a.1 = b.1 ∧ a.2 < b.2)
theorem vlt_t {a b c : Int × Int} (h1 : vlt a b) (h2 : vlt b c) : vlt a c := by
  unfold vlt at *
  omega
theorem vlt_n {v b c : Int × Int} (h1 : ¬ vlt v b) (h2 : vlt c b) : ¬ vlt v c := by
  unfold vlt at *
  omega
def sBg (r : zH) (s : sS) (d x : Int) : Int := mEar r s.1 s.2.1 d x
def sEn (r : zH) (f : Int → Int) (N : Nat) (s : sS) (d x : Int) : Int := sBg r s d x + mLf r f N d x (sBg r s d x)
def sSt (r : zH) (f : Int → Int) (N : Nat) (s : sS) (d x : Int) : sS := (fun k => if k = d then sEn r f N s d x else s.1 k, fun p => if zb x p = 1 then sEn r f N s d x else s.2.1 p, (zMx s.2.2.1.1 (sEn r f N s d x), s.2.2.1.2 + mOnes x * mWm r d (sBg r s d x) (sEn r f N s d x)), s.2.2.2 ++ [(d, x)])
def sIt {β : Type} (g : Int → β → β) : Nat → Int → β → β
  | 0, _, b => b
  | n + 1, a, b => sIt g n (a + 1) (g a b)
theorem sIt_ind {β : Type} {g : Int → β → β} {I : Int → β → Prop} : ∀ (n : Nat) (a : Int) (b : β), I a b → (∀ j b, a ≤ j → j < a + n → I j b → I (j + 1) (g j b)) → I (a + n) (sIt g n a b)
  | 0, a, b, h, _ => by
    rw [show a + ((0 : Nat) : Int) = a by omega]
    exact h
  | n + 1, a, b, h, hs => by
    have := sIt_ind (I := I) n (a + 1) (g a b) (hs a b (by omega) (by omega) h) (fun j b' h1 h2 => hs j b' (by omega) (by omega))
    rw [show a + ((n + 1 : Nat) : Int) = a + 1 + n by omega]
    exact this
theorem sIt_cg {β : Type} {g g' : Int → β → β} {I : Int → β → Prop} : ∀ (n : Nat) (a : Int) (b : β), I a b → (∀ j b, a ≤ j → j < a + n → I j b → g j b = g' j b ∧ I (j + 1) (g' j b)) → sIt g n a b = sIt g' n a b
  | 0, a, b, _, _ => rfl
  | n + 1, a, b, h, hs => by
    have h1 := hs a b (by omega) (by omega) h
    rw [sIt, sIt, h1.1]
    exact sIt_cg (I := I) n (a + 1) (g' a b) h1.2 (fun j b' h1 h2 => hs j b' (by omega) (by omega))
def sNx (r : zH) : Nat := (zShl 1 (r 0 0)).toNat - 1
def sXx (r : zH) (f : Int → Int) (N : Nat) (k : sS → sB → sB) (s : sS) (d x : Int) (B : sB) : sB := if sBg r s d x = -1 then B else k (sSt r f N s d x) B
def sDd (r : zH) (f : Int → Int) (N : Nat) (k : sS → sB → sB) (s : sS) (d : Int) (B : sB) : sB := if s.1 d = -1 then sIt (fun x B => sXx r f N k s d x B) (sNx r) 1 B else B
def sPl (r : zH) (f : Int → Int) (N : Nat) : Nat → sS → sB → sB
  | 0, s, B => if vlt s.2.2.1 B.1 then (s.2.2.1, s.2.2.2) else B
  | k + 1, s, B => sIt (fun d B => sDd r f N (sPl r f N k) s d B) (r 0 1).toNat 0 B
/-- the lines that can follow -/
def sCp (r : zH) (f : Int → Int) (N : Nat) : Nat → sS → List (Int × Int) → sS → Prop
  | 0, s, q, z => q = [] ∧ z = s
  | k + 1, s, q, z => ∃ d x q', q = (d, x) :: q' ∧ (0 ≤ d ∧ d < r 0 1) ∧ (1 ≤ x ∧ x ≤ sNx r) ∧ s.1 d = -1 ∧ sBg r s d x ≠ -1 ∧ sCp r f N k (sSt r f N s d x) q' z
theorem sCp_c {r : zH} {f : Int → Int} {N k : Nat} {s z : sS} {d x : Int} {q : List (Int × Int)} : sCp r f N (k + 1) s ((d, x) :: q) z ↔ ((0 ≤ d ∧ d < r 0 1) ∧ (1 ≤ x ∧ x ≤ sNx r) ∧ s.1 d = -1 ∧ sBg r s d x ≠ -1 ∧ sCp r f N k (sSt r f N s d x) q z) := by
  constructor
  · rintro ⟨d', x', q', e, h⟩
    injection e with e1 e2
    injection e1 with e3 e4
    subst e3 e4 e2
    exact h
  · intro h
    exact ⟨d, x, q, rfl, h⟩
theorem sCp_len {r : zH} {f : Int → Int} {N : Nat} : ∀ {k : Nat} {s z : sS} {q : List (Int × Int)}, sCp r f N k s q z → q.length = k
  | 0, s, z, q, h => by
    rw [h.1]
    rfl
  | k + 1, s, z, q, h => by
    obtain ⟨d, x, q', e, _, _, _, _, h⟩ := h
    rw [e, List.length_cons, sCp_len h]
theorem sCp_q {r : zH} {f : Int → Int} {N : Nat} : ∀ {k : Nat} {s z : sS} {q : List (Int × Int)}, sCp r f N k s q z → z.2.2.2 = s.2.2.2 ++ q
  | 0, s, z, q, h => by
    rw [h.1, h.2]
    simp
  | k + 1, s, z, q, h => by
    obtain ⟨d, x, q', e, _, _, _, _, h⟩ := h
    rw [sCp_q h, e]
    show s.2.2.2 ++ [(d, x)] ++ q' = _
    simp
theorem sCp_det {r : zH} {f : Int → Int} {N : Nat} : ∀ {k : Nat} {s a b : sS} {q : List (Int × Int)}, sCp r f N k s q a → sCp r f N k s q b → a = b
  | 0, s, a, b, q, h1, h2 => by rw [h1.2, h2.2]
  | k + 1, s, a, b, q, h1, h2 => by
    obtain ⟨d, x, q', e, _, _, _, _, h⟩ := h1
    rw [e] at h2
    exact sCp_det h (sCp_c.mp h2).2.2.2.2
theorem sCp_app {r : zH} {f : Int → Int} {N : Nat} : ∀ {j k : Nat} {s a z : sS} {q q' : List (Int × Int)}, sCp r f N j s q a → sCp r f N k a q' z → sCp r f N (j + k) s (q ++ q') z
  | 0, k, s, a, z, q, q', h1, h2 => by
    rw [h1.1, List.nil_append, Nat.zero_add, ← h1.2]
    exact h2
  | j + 1, k, s, a, z, q, q', h1, h2 => by
    obtain ⟨d, x, q1, e, a1, a2, a3, a4, h⟩ := h1
    rw [e, List.cons_append, show j + 1 + k = (j + k) + 1 by omega]
    exact ⟨d, x, _, rfl, a1, a2, a3, a4, sCp_app h h2⟩
theorem sCp_spl {r : zH} {f : Int → Int} {N : Nat} : ∀ {j k : Nat} {s z : sS} {q q' : List (Int × Int)}, q.length = j → sCp r f N (j + k) s (q ++ q') z → ∃ a, sCp r f N j s q a ∧ sCp r f N k a q' z
  | 0, k, s, z, q, q', hl, h => by
    have : q = [] := List.length_eq_zero_iff.mp hl
    subst this
    rw [List.nil_append, Nat.zero_add] at h
    exact ⟨s, ⟨rfl, rfl⟩, h⟩
  | j + 1, k, s, z, q, q', hl, h => by
    cases q with
    | nil => simp at hl
    | cons c q =>
      obtain ⟨d, x⟩ := c
      rw [List.cons_append, show j + 1 + k = (j + k) + 1 by omega] at h
      obtain ⟨a1, a2, a3, a4, h⟩ := sCp_c.mp h
      obtain ⟨a, h1, h2⟩ := sCp_spl (by simpa using hl) h
      exact ⟨a, ⟨d, x, q, rfl, a1, a2, a3, a4, h1⟩, h2⟩
theorem ones_nn (x : Int) : 0 ≤ mOnes x ∧ mOnes x ≤ 12 := by
  have := mSum_le (f := fun p => zb x p) (b := 1) (n := 12) (fun k _ => by have := zb01 x k; omega)
  unfold mOnes
  omega
theorem sCp_m {r : zH} {f : Int → Int} {N : Nat} (wr : wRoad r) : ∀ {k : Nat} {s z : sS} {q : List (Int × Int)}, sCp r f N k s q z → s.2.2.1.1 ≤ z.2.2.1.1 ∧ s.2.2.1.2 ≤ z.2.2.1.2
  | 0, s, z, q, h => by
    rw [h.2]
    omega
  | k + 1, s, z, q, h => by
    obtain ⟨d, x, q', e, _, _, _, _, h⟩ := h
    have h1 := sCp_m wr h
    have h2 : (sSt r f N s d x).2.2.1 = (zMx s.2.2.1.1 (sEn r f N s d x), s.2.2.1.2 + mOnes x * mWm r d (sBg r s d x) (sEn r f N s d x)) := rfl
    rw [h2] at h1
    dsimp only at h1
    have h3 := Int.mul_nonneg (ones_nn x).1 (mWm_r wr d (sBg r s d x) (sEn r f N s d x)).1
    unfold zMx at h1
    split at h1
    · omega
    · omega
def sRes (r : zH) (f : Int → Int) (N k : Nat) (s : sS) (B R : sB) : Prop := (R = B ∨ ∃ q z, sCp r f N k s q z ∧ R = (z.2.2.1, z.2.2.2) ∧ vlt z.2.2.1 B.1) ∧ ∀ q z, sCp r f N k s q z → ¬ vlt z.2.2.1 R.1
theorem sPl_ok {r : zH} {f : Int → Int} {N : Nat} : ∀ (k : Nat) (s : sS) (B : sB), sRes r f N k s B (sPl r f N k s B)
  | 0, s, B => by
    rw [sPl]
    by_cases w : vlt s.2.2.1 B.1
    · rw [if_pos w]
      refine ⟨Or.inr ⟨[], s, ⟨rfl, rfl⟩, rfl, w⟩, fun q z h => ?_⟩
      rw [h.2]
      show ¬ vlt s.2.2.1 s.2.2.1
      unfold vlt
      omega
    · rw [if_neg w]
      refine ⟨Or.inl rfl, fun q z h => ?_⟩
      rw [h.2]
      exact w
  | k + 1, s, B => by
    rw [sPl]
    have key := sIt_ind (g := fun d B => sDd r f N (sPl r f N k) s d B) (I := fun d B' => (B' = B ∨ ∃ q z, sCp r f N (k + 1) s q z ∧ B' = (z.2.2.1, z.2.2.2) ∧ vlt z.2.2.1 B.1) ∧ ∀ d' x q z, d' < d → sCp r f N (k + 1) s ((d', x) :: q) z → ¬ vlt z.2.2.1 B'.1) (r 0 1).toNat 0 B ⟨Or.inl rfl, fun d' x q z h1 h2 => by have := (sCp_c.mp h2).1; omega⟩ (fun d B' h1 h2 hI => ?_)
    · refine ⟨key.1, fun q z h => ?_⟩
      obtain ⟨d, x, q', e, a1, a2⟩ := h
      have := key.2 d x q' z (by omega) (by rw [← e]; exact ⟨d, x, q', e, a1, a2⟩)
      exact this
    · try dsimp only
      unfold sDd
      by_cases w : s.1 d = -1
      · rw [if_pos w]
        have inner := sIt_ind (g := fun x B => sXx r f N (sPl r f N k) s d x B) (I := fun x B'' => (B'' = B ∨ ∃ q z, sCp r f N (k + 1) s q z ∧ B'' = (z.2.2.1, z.2.2.2) ∧ vlt z.2.2.1 B.1) ∧ (∀ d' x q z, d' < d → sCp r f N (k + 1) s ((d', x) :: q) z → ¬ vlt z.2.2.1 B''.1) ∧ ∀ x' q z, x' < x → sCp r f N (k + 1) s ((d, x') :: q) z → ¬ vlt z.2.2.1 B''.1) (sNx r) 1 B' ⟨hI.1, hI.2, fun x' q z g1 g2 => by have := (sCp_c.mp g2).2.1; omega⟩ (fun x B'' g1 g2 hJ => ?_)
        · refine ⟨inner.1, fun d' x q z g1 g2 => ?_⟩
          by_cases e : d' = d
          · subst e
            have := (sCp_c.mp g2).2.1
            exact inner.2.2 x q z (by omega) g2
          · exact inner.2.1 d' x q z (by omega) g2
        · try dsimp only
          unfold sXx
          by_cases v : sBg r s d x = -1
          · rw [if_pos v]
            refine ⟨hJ.1, hJ.2.1, fun x' q z p1 p2 => ?_⟩
            by_cases e : x' = x
            · subst e
              exact absurd v (sCp_c.mp p2).2.2.2.1
            · exact hJ.2.2 x' q z (by omega) p2
          · rw [if_neg v]
            have ih := sPl_ok (r := r) (f := f) (N := N) k (sSt r f N s d x) B''
            rcases ih.1 with e | ⟨q1, z1, c1, e1, v1⟩
            · rw [e]
              have ih2 := ih.2
              rw [e] at ih2
              refine ⟨hJ.1, hJ.2.1, fun x' q z p1 p2 => ?_⟩
              by_cases e : x' = x
              · subst e
                exact ih2 q z (sCp_c.mp p2).2.2.2.2
              · exact hJ.2.2 x' q z (by omega) p2
            · have ih2 := ih.2
              rw [e1] at ih2 ⊢
              have full : sCp r f N (k + 1) s ((d, x) :: q1) z1 := sCp_c.mpr ⟨⟨h1, by omega⟩, ⟨g1, by omega⟩, w, v, c1⟩
              refine ⟨Or.inr ⟨_, z1, full, rfl, ?_⟩, fun d' x' q z p1 p2 => vlt_n (hJ.2.1 d' x' q z p1 p2) v1, fun x' q z p1 p2 => ?_⟩
              · rcases hJ.1 with e2 | ⟨q2, z2, c2, e2, v2⟩
                · rw [← e2]
                  exact v1
                · rw [e2] at v1
                  exact vlt_t v1 v2
              · by_cases e : x' = x
                · subst e
                  exact ih2 q z (sCp_c.mp p2).2.2.2.2
                · exact vlt_n (hJ.2.2 x' q z (by omega) p2) v1
      · rw [if_neg w]
        refine ⟨hI.1, fun d' x q z g1 g2 => ?_⟩
        by_cases e : d' = d
        · subst e
          exact absurd (sCp_c.mp g2).2.2.1 w
        · exact hI.2 d' x q z (by omega) g2
theorem sPl_id {r : zH} {f : Int → Int} {N k : Nat} {s : sS} {B : sB} (h : ∀ q z, sCp r f N k s q z → ¬ vlt z.2.2.1 B.1) : sPl r f N k s B = B := by
  rcases (sPl_ok (r := r) (f := f) (N := N) k s B).1 with e | ⟨q, z, c, e, v⟩
  · exact e
  · exact absurd v (h q z c)
theorem sPl_pr {r : zH} {f : Int → Int} {N k : Nat} {s : sS} {B : sB} (wr : wRoad r) (h : ¬ vlt s.2.2.1 B.1) : sPl r f N k s B = B := by
  refine sPl_id (fun q z c => ?_)
  have := sCp_m wr c
  unfold vlt at *
  omega
/-- the order of lines -/
abbrev plt (a b : Int × Int) : Prop := a.1 < b.1 ∨ (a.1 = b.1 ∧ a.2 < b.2)
def sLx : List (Int × Int) → List (Int × Int) → Prop
  | _, [] => False
  | [], _ :: _ => False
  | b :: q, c :: Q => plt b c ∨ (b = c ∧ sLx q Q)
theorem sLx_a : ∀ {Q q : List (Int × Int)} {c : Int × Int}, sLx q (Q ++ [c]) → sLx q Q ∨ ∃ b q', q = Q ++ b :: q' ∧ plt b c
  | [], q, c, h => by
    cases q with
    | nil => exact absurd h (fun x => x)
    | cons b q =>
      rcases h with h | h
      · exact Or.inr ⟨b, q, rfl, h⟩
      · exact absurd h.2 (by cases q <;> exact fun x => x)
  | c0 :: Q, q, c, h => by
    cases q with
    | nil => exact absurd h (fun x => x)
    | cons b q =>
      rcases h with h | ⟨h1, h2⟩
      · exact Or.inl (Or.inl h)
      · rcases sLx_a h2 with g | ⟨b', q', e, g⟩
        · exact Or.inl (Or.inr ⟨h1, g⟩)
        · exact Or.inr ⟨b', q', by rw [e, h1]; rfl, g⟩
theorem sLx_i : ∀ {A : List (Int × Int)} {b c : Int × Int} {q Q : List (Int × Int)}, plt b c → sLx (A ++ b :: q) (A ++ c :: Q)
  | [], b, c, q, Q, h => Or.inl h
  | a :: A, b, c, q, Q, h => Or.inr ⟨rfl, sLx_i h⟩
theorem sLx_nil {q : List (Int × Int)} : ¬ sLx q [] := by
  cases q <;> exact fun x => x
/-- alike but for the lines -/
def sEv (s t : sS) : Prop := (∀ k : Int, 0 ≤ k → k < 12 → s.1 k = t.1 k) ∧ (∀ p : Int, 0 ≤ p → p < 4 → s.2.1 p = t.2.1 p) ∧ s.2.2.1 = t.2.2.1
theorem sEv_b {r : zH} {s t : sS} {d x : Int} (wr : wRoad r) (hd : d < r 0 1) (e : sEv s t) : sBg r s d x = sBg r t d x := mEar_congr wr hd e.1 e.2.1
theorem sEv_e {r : zH} {f : Int → Int} {N : Nat} {s t : sS} {d x : Int} (wr : wRoad r) (hd : d < r 0 1) (e : sEv s t) : sEn r f N s d x = sEn r f N t d x := by
  unfold sEn
  rw [sEv_b wr hd e]
theorem sEv_s {r : zH} {f : Int → Int} {N : Nat} {s t : sS} {d x : Int} (wr : wRoad r) (hd : d < r 0 1) (e : sEv s t) : sEv (sSt r f N s d x) (sSt r f N t d x) := by
  refine ⟨fun k a b => ?_, fun p a b => ?_, ?_⟩
  · show (if k = d then sEn r f N s d x else s.1 k) = if k = d then sEn r f N t d x else t.1 k
    rw [sEv_e wr hd e, e.1 k a b]
  · show (if zb x p = 1 then sEn r f N s d x else s.2.1 p) = if zb x p = 1 then sEn r f N t d x else t.2.1 p
    rw [sEv_e wr hd e, e.2.1 p a b]
  · show (zMx s.2.2.1.1 (sEn r f N s d x), s.2.2.1.2 + mOnes x * mWm r d (sBg r s d x) (sEn r f N s d x)) = (zMx t.2.2.1.1 (sEn r f N t d x), t.2.2.1.2 + mOnes x * mWm r d (sBg r t d x) (sEn r f N t d x))
    rw [sEv_e wr hd e, sEv_b wr hd e, e.2.2]
theorem sEv_cp {r : zH} {f : Int → Int} {N : Nat} (wr : wRoad r) : ∀ {k : Nat} {s t z : sS} {q : List (Int × Int)}, sEv s t → sCp r f N k s q z → ∃ z', sCp r f N k t q z' ∧ sEv z z'
  | 0, s, t, z, q, e, h => ⟨t, ⟨h.1, rfl⟩, by rw [h.2]; exact e⟩
  | k + 1, s, t, z, q, e, h => by
    obtain ⟨d, x, q', eq, a1, a2, a3, a4, h⟩ := h
    have wd := wr_d wr
    obtain ⟨z', c, v⟩ := sEv_cp wr (sEv_s wr a1.2 e) h
    refine ⟨z', ⟨d, x, q', eq, a1, a2, ?_, ?_, c⟩, v⟩
    · rw [← e.1 d a1.1 (by omega)]
      exact a3
    · rw [← sEv_b wr a1.2 e]
      exact a4
theorem mMx_c {F F' g : Int → Int} : ∀ {n : Nat}, (∀ k : Nat, k < n → g k = 1 → F k = F' k) → mMx F g n = mMx F' g n
  | 0, _ => rfl
  | n + 1, h => by
    rw [mMx, mMx, mMx_c (fun k a => h k (by omega))]
    split
    · rename_i w
      rw [h n (by omega) w]
    · rfl
theorem mDn_c {F F' g : Int → Int} : ∀ {n : Nat}, (∀ k : Nat, k < n → g k = 1 → F k = F' k) → mDn F g n = mDn F' g n
  | 0, _ => rfl
  | n + 1, h => by
    rw [mDn, mDn, mDn_c (fun k a => h k (by omega))]
    split
    · rfl
    · split
      · rename_i w
        rw [h n (by omega) w]
      · rfl
theorem mDn_i {E g : Int → Int} : ∀ {n : Nat}, mDn E g n ≠ -1 → ∀ k : Nat, k < n → g k = 1 → E k ≠ -1
  | 0, _, k, hk, _ => by omega
  | n + 1, h, k, hk, hg => by
    rw [mDn] at h
    by_cases w : mDn E g n = -1
    · rw [if_pos w] at h
      exact absurd rfl h
    · rw [if_neg w] at h
      by_cases e : k = n
      · subst e
        rw [if_pos hg] at h
        intro v
        rw [if_pos v] at h
        exact h rfl
      · exact mDn_i w k (by omega) hg
theorem mDn_b {E g : Int → Int} : ∀ {n : Nat}, (∀ k : Nat, k < n → g k = 1 → E k ≠ -1) → mDn E g n ≠ -1
  | 0, _ => by simp [mDn]
  | n + 1, h => by
    rw [mDn]
    have := mDn_b (n := n) (fun k a b => h k (by omega) b)
    have hg := mDn_ge E g n
    rw [if_neg this]
    split
    · rename_i w
      rw [if_neg (h n (by omega) w)]
      unfold zMx
      split
      · omega
      · omega
    · exact this
/-- two lines of other people change places -/
theorem sSw {r : zH} {f : Int → Int} {N : Nat} {s : sS} {d1 x1 d x : Int} (wr : wRoad r) (h1 : 0 ≤ d1 ∧ d1 < r 0 1) (hd : 0 ≤ d ∧ d < d1) (hx : ∀ p : Int, 0 ≤ p → p < 4 → ¬ (zb x p = 1 ∧ zb x1 p = 1)) (e1 : s.1 d = -1) (b1 : sBg r s d1 x1 ≠ -1) : sBg r (sSt r f N s d1 x1) d x = sBg r s d x ∧ sBg r (sSt r f N s d x) d1 x1 = sBg r s d1 x1 ∧ sEv (sSt r f N (sSt r f N s d1 x1) d x) (sSt r f N (sSt r f N s d x) d1 x1) := by
  have wp := wr_p wr
  have wd := wr_d wr
  have a1 : sBg r (sSt r f N s d1 x1) d x = sBg r s d x := by
    unfold sBg mEar mBeg
    have c1 : mDn (sSt r f N s d1 x1).1 (zb (r 6 d)) d.toNat = mDn s.1 (zb (r 6 d)) d.toNat := mDn_c (fun k hk _ => by
      show (if (k : Int) = d1 then _ else s.1 k) = s.1 k
      rw [if_neg (by omega)])
    have c2 : mMx (sSt r f N s d1 x1).2.1 (zb x) (r 0 0).toNat = mMx s.2.1 (zb x) (r 0 0).toNat := mMx_c (fun k hk g => by
      show (if zb x1 k = 1 then _ else s.2.1 k) = s.2.1 k
      rw [if_neg (fun v => hx k (by omega) (by omega) ⟨g, v⟩)])
    rw [c1, c2]
  have a2 : sBg r (sSt r f N s d x) d1 x1 = sBg r s d1 x1 := by
    have nb : ∀ k : Nat, k < d1.toNat → zb (r 6 d1) k = 1 → (k : Int) ≠ d := by
      intro k hk g e
      unfold sBg mEar mBeg at b1
      split at b1
      · split at b1
        · exact b1 rfl
        · rename_i _ w
          have := mDn_i w k hk g
          rw [e] at this
          exact this e1
      · exact b1 rfl
    unfold sBg mEar mBeg
    have c1 : mDn (sSt r f N s d x).1 (zb (r 6 d1)) d1.toNat = mDn s.1 (zb (r 6 d1)) d1.toNat := mDn_c (fun k hk g => by
      show (if (k : Int) = d then _ else s.1 k) = s.1 k
      rw [if_neg (nb k hk g)])
    have c2 : mMx (sSt r f N s d x).2.1 (zb x1) (r 0 0).toNat = mMx s.2.1 (zb x1) (r 0 0).toNat := mMx_c (fun k hk g => by
      show (if zb x k = 1 then _ else s.2.1 k) = s.2.1 k
      rw [if_neg (fun v => hx k (by omega) (by omega) ⟨v, g⟩)])
    rw [c1, c2]
  have n1 : sEn r f N (sSt r f N s d1 x1) d x = sEn r f N s d x := by
    unfold sEn
    rw [a1]
  have n2 : sEn r f N (sSt r f N s d x) d1 x1 = sEn r f N s d1 x1 := by
    unfold sEn
    rw [a2]
  refine ⟨a1, a2, fun k _ _ => ?_, fun p u v => ?_, ?_⟩
  · show (if k = d then sEn r f N (sSt r f N s d1 x1) d x else if k = d1 then sEn r f N s d1 x1 else s.1 k) = if k = d1 then sEn r f N (sSt r f N s d x) d1 x1 else if k = d then sEn r f N s d x else s.1 k
    rw [n1, n2]
    by_cases w : k = d
    · rw [if_pos w, if_neg (by omega), if_pos w]
    · rw [if_neg w, if_neg w]
  · show (if zb x p = 1 then sEn r f N (sSt r f N s d1 x1) d x else if zb x1 p = 1 then sEn r f N s d1 x1 else s.2.1 p) = if zb x1 p = 1 then sEn r f N (sSt r f N s d x) d1 x1 else if zb x p = 1 then sEn r f N s d x else s.2.1 p
    rw [n1, n2]
    by_cases w : zb x p = 1
    · rw [if_pos w, if_neg (fun y => hx p u v ⟨w, y⟩), if_pos w]
    · rw [if_neg w, if_neg w]
  · show (zMx (zMx s.2.2.1.1 (sEn r f N s d1 x1)) (sEn r f N (sSt r f N s d1 x1) d x), s.2.2.1.2 + mOnes x1 * mWm r d1 (sBg r s d1 x1) (sEn r f N s d1 x1) + mOnes x * mWm r d (sBg r (sSt r f N s d1 x1) d x) (sEn r f N (sSt r f N s d1 x1) d x)) = (zMx (zMx s.2.2.1.1 (sEn r f N s d x)) (sEn r f N (sSt r f N s d x) d1 x1), s.2.2.1.2 + mOnes x * mWm r d (sBg r s d x) (sEn r f N s d x) + mOnes x1 * mWm r d1 (sBg r (sSt r f N s d x) d1 x1) (sEn r f N (sSt r f N s d x) d1 x1))
    rw [n1, n2, a1, a2]
    refine Prod.ext ?_ ?_
    · show zMx (zMx s.2.2.1.1 (sEn r f N s d1 x1)) (sEn r f N s d x) = zMx (zMx s.2.2.1.1 (sEn r f N s d x)) (sEn r f N s d1 x1)
      unfold zMx
      repeat' split
      all_goals omega
    · show s.2.2.1.2 + mOnes x1 * mWm r d1 (sBg r s d1 x1) (sEn r f N s d1 x1) + mOnes x * mWm r d (sBg r s d x) (sEn r f N s d x) = s.2.2.1.2 + mOnes x * mWm r d (sBg r s d x) (sEn r f N s d x) + mOnes x1 * mWm r d1 (sBg r s d1 x1) (sEn r f N s d1 x1)
      omega
