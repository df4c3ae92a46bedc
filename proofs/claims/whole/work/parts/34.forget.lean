/-! a local that nobody reads may hold anything -/
def zSub : List zV → List zV → Prop
  | [], [] => True
  | a :: l, b :: m => (a = b ∨ b = (9, 0)) ∧ zSub l m
  | _, _ => False
theorem zSub_refl : ∀ l : List zV, zSub l l
  | [] => trivial
  | _ :: l => ⟨Or.inl rfl, zSub_refl l⟩
theorem zSub_len : ∀ {l m : List zV}, zSub l m → l.length = m.length
  | [], [], _ => rfl
  | _ :: l, _ :: m, h => by rw [List.length_cons, List.length_cons, zSub_len h.2]
theorem zSub_get : ∀ {l m : List zV} {i : Nat} {v : zV}, zSub l m → m[i]? = some v → v.1 ≠ 9 → l[i]? = some v
  | [], [], i, v, _, e, _ => absurd e (by simp)
  | [], _ :: _, _, _, h, _, _ => absurd h id
  | _ :: _, [], _, _, h, _, _ => absurd h id
  | a :: l, b :: m, 0, v, h, e, hv => by
    have e : b = v := by simpa using e
    rcases h.1 with q | q
    · rw [q, e]; rfl
    · rw [← e, q] at hv; exact absurd rfl hv
  | a :: l, b :: m, i + 1, v, h, e, hv => by
    have e : m[i]? = some v := by simpa using e
    have := zSub_get h.2 e hv
    simpa using this
theorem zSub_at : ∀ {l m : List zV} {i : Nat} {v : zV}, zSub l m → l[i]? = some v → m[i]? = some v ∨ m[i]? = some (9, 0)
  | [], [], i, v, _, e => absurd e (by simp)
  | [], _ :: _, _, _, h, _ => absurd h id
  | _ :: _, [], _, _, h, _ => absurd h id
  | a :: l, b :: m, 0, v, h, e => by
    have e : a = v := by simpa using e
    rcases h.1 with q | q
    · left; rw [← q, e]; rfl
    · right; rw [q]; rfl
  | a :: l, b :: m, i + 1, v, h, e => by
    have e : l[i]? = some v := by simpa using e
    have := zSub_at h.2 e
    simpa using this
theorem zSub_set : ∀ {l m : List zV} {i : Nat} {v : zV}, zSub l m → zSub (l.set i v) (m.set i v)
  | [], [], _, _, _ => trivial
  | a :: l, b :: m, 0, v, h => ⟨Or.inl rfl, h.2⟩
  | a :: l, b :: m, i + 1, v, h => ⟨h.1, zSub_set h.2⟩
theorem zSub_set9 : ∀ {l m : List zV} {i : Nat} {v : zV}, zSub l m → m[i]? = some (9, 0) → zSub (l.set i v) m
  | [], [], _, _, _, _ => trivial
  | a :: l, b :: m, 0, v, h, e => ⟨Or.inr (by simpa using e), h.2⟩
  | a :: l, b :: m, i + 1, v, h, e => ⟨h.1, zSub_set9 h.2 (by simpa using e)⟩
theorem zSub_St {l m : List zV} {i : Nat} {v : zV} (h : zSub l m) : zSub (zSt l i v) (zSt m i v) := by
  unfold zSt
  cases i with
  | zero => exact zSub_set h
  | succ j =>
    dsimp only
    refine zSub_set ?_
    split
    · rename_i x e
      rcases zSub_at h e with q | q
      · rw [q]
        exact zSub_set h
      · rw [q]
        exact zSub_set9 h q
    · rename_i hno
      split
      · rename_i x e
        exact absurd (zSub_get h e (by simp)) (hno _)
      · exact h
theorem zSub_St2 {l m : List zV} {i : Nat} {v : zV} (h : zSub l m) : zSub (zSt2 l i v) (zSt2 m i v) := by
  unfold zSt2
  exact zSub_set (zSub_St h)
set_option maxHeartbeats 4000000 in
theorem zR_sub {op : Nat} {a b : Int} {nx μ pc : Nat} {ls0 ls st : List zV} {S : zS} {pc' : Nat} {ls' st' : List zV} {S' : zS} (hs : zSub ls0 ls) (hR : zR op a b nx μ pc ls st S pc' ls' st' S') : ∃ ls0', zR op a b nx μ pc ls0 st S pc' ls0' st' S' ∧ zSub ls0' ls' := by
  unfold zR at hR
  split at hR
  case h_4 =>
    obtain ⟨e1, e2, e3, v, e4, e5, e6⟩ := hR
    refine ⟨ls0, ⟨e1, rfl, e3, v, zSub_get hs e4 ?_, e5, e6⟩, e2 ▸ hs⟩
    intro q
    unfold zTok at e5
    split at e5 <;> omega
  case h_5 =>
    obtain ⟨e1, e2, v, e3, e4, e5, e6⟩ := hR
    exact ⟨zSt ls0 a.toNat v, ⟨e1, e2, v, e3, e4, by rw [zSub_len hs]; exact e5, rfl⟩, e6 ▸ zSub_St hs⟩
  case h_6 =>
    obtain ⟨e1, e2, x, e3, e4, e5⟩ := hR
    exact ⟨zSt2 ls0 a.toNat (1, x), ⟨e1, e2, x, e3, by rw [zSub_len hs]; exact e4, rfl⟩, e5 ▸ zSub_St2 hs⟩
  case h_7 =>
    obtain ⟨e1, e2, e3, x, e4, e5⟩ := hR
    exact ⟨zSt ls0 a.toNat (0, w32 (x + b)), ⟨e1, e2, e3, x, zSub_get hs e4 (by simp), rfl⟩, e5 ▸ zSub_St hs⟩
  case h_1 | h_2 | h_3 | h_8 | h_9 | h_10 | h_11 | h_12 | h_13 | h_14 | h_17 | h_19 | h_20 | h_21 | h_22 | h_23 | h_24 | h_25 | h_26 | h_27 | h_28 | h_29 | h_30 | h_31 | h_32 | h_33 | h_34 | h_35 =>
    first
    | exact ⟨ls0, ⟨hR.1, rfl, hR.2.2⟩, hR.2.1 ▸ hs⟩
    | exact absurd hR id
  case h_15 | h_16 | h_18 => exact ⟨ls0, ⟨rfl, hR.2⟩, hR.1 ▸ hs⟩
  all_goals exact absurd hR id
theorem zWp_forget {d μ pc : Nat} {ls0 ls st : List zV} {S : zS} {Q : zO → Prop} (hn : zNhB μ = true) (hs : zSub ls0 ls) (hw : zWp d μ pc ls st S Q) : zWp d μ pc ls0 st S Q := by
  have key : ∀ ls0, zSub ls0 ls ∧ (zNhB μ = true ∨ ls0 = ls) → zWp d μ pc ls0 st S Q := by
    refine zWp_least (X := fun d μ pc ls st S Q => ∀ ls0, zSub ls0 ls ∧ (zNhB μ = true ∨ ls0 = ls) → zWp d μ pc ls0 st S Q) ?_ ?_ hw
    · intro d μ pc ls st S Q Q' hQ h ls0 k
      exact zWp_mono _ _ _ _ _ _ _ _ hQ (h ls0 k)
    · intro d μ pc ls st S Q hF ls0 k
      rcases hF with ⟨op, a, b, len, pc', ls', st', S', h1, h2, h3⟩ | h | h | ⟨a, b, len, d', as, rest, h1, h2, h3, h4, h5, h6, h7, h8, h9⟩ | ⟨h1, h2, h3⟩
      · rcases k.2 with kn | ke
        · obtain ⟨ls0', q1, q2⟩ := zR_sub k.1 h2
          exact zWp_step h1 q1 (h3 _ ⟨q2, Or.inl kn⟩)
        · subst ke
          exact zWp_step h1 h2 (h3 _ ⟨zSub_refl _, Or.inr rfl⟩)
      · exact zWp_closed _ _ _ _ _ _ _ (Or.inr (Or.inl h))
      · exact zWp_closed _ _ _ _ _ _ _ (Or.inr (Or.inr (Or.inl h)))
      · refine zWp_closed _ _ _ _ _ _ _ (Or.inr (Or.inr (Or.inr (Or.inl ⟨a, b, len, d', as, rest, h1, h2, h3, h4, h5, h6, h7, h8, ?_⟩))))
        refine zWp_mono _ _ _ _ _ _ _ _ (fun r q => ?_) (h9 _ ⟨zSub_refl _, Or.inr rfl⟩)
        unfold zAft at q ⊢
        split
        · rename_i vs e
          rw [e] at q
          exact q _ k
        · rename_i E e
          rw [e] at q
          dsimp only at q ⊢
          split
          · rename_i p' kk e2
            rw [e2] at q
            rcases k.2 with kn | ke
            · rw [(zNhB_ok kn pc E).1] at e2
              exact absurd e2 (by simp)
            · subst ke
              exact ⟨q.1, q.2.1, q.2.2 _ ⟨zSub_refl _, Or.inr rfl⟩⟩
          · rename_i e2
            rw [e2] at q
            exact q
      · exact zWp_closed _ _ _ _ _ _ _ (Or.inr (Or.inr (Or.inr (Or.inr ⟨h1, h2, h3 _ k⟩))))
  exact key ls0 ⟨hs, Or.inl hn⟩
