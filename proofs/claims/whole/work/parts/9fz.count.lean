/-! how many exceptions a call throws: one at most -/
theorem zR_cnt {op : Nat} {a b : Int} {nx μ pc : Nat} {ls st : List zV} {S : zS} {pc' : Nat} {ls' st' : List zV} {S' : zS} (hR : zR op a b nx μ pc ls st S pc' ls' st' S') : S'.2.2.1 = S.2.2.1 ∧ (pc' = nx ∨ ((op = 15 ∨ op = 16 ∨ op = 17) ∧ pc' = b.toNat) ∨ op = 18) := by
  unfold zR at hR
  split at hR
  · obtain ⟨rfl, rfl, rfl, rfl⟩ := hR
    exact ⟨rfl, Or.inl rfl⟩
  · obtain ⟨rfl, rfl, rfl, rfl⟩ := hR
    exact ⟨rfl, Or.inl rfl⟩
  · obtain ⟨rfl, rfl, rfl, rfl⟩ := hR
    exact ⟨rfl, Or.inl rfl⟩
  · obtain ⟨rfl, rfl, rfl, v, h1, h2, rfl⟩ := hR
    exact ⟨rfl, Or.inl rfl⟩
  · obtain ⟨rfl, rfl, v, rfl, h1, h2, rfl⟩ := hR
    exact ⟨rfl, Or.inl rfl⟩
  · obtain ⟨rfl, rfl, x, rfl, h1, rfl⟩ := hR
    exact ⟨rfl, Or.inl rfl⟩
  · obtain ⟨rfl, rfl, rfl, x, h1, rfl⟩ := hR
    exact ⟨rfl, Or.inl rfl⟩
  · obtain ⟨rfl, rfl, rfl, x, y, q, c, rfl, h1, rfl⟩ := hR
    exact ⟨rfl, Or.inl rfl⟩
  · obtain ⟨rfl, rfl, rfl, x, y, q, c, rfl, h1, rfl⟩ := hR
    exact ⟨rfl, Or.inl rfl⟩
  · obtain ⟨rfl, rfl, rfl, x, y, q, rfl, rfl⟩ := hR
    exact ⟨rfl, Or.inl rfl⟩
  · obtain ⟨rfl, rfl, rfl, x, q, v, rfl, h1, rfl⟩ := hR
    exact ⟨rfl, Or.inl rfl⟩
  · obtain ⟨rfl, rfl, rfl, v, q, rfl, h1, rfl⟩ := hR
    exact ⟨rfl, Or.inl rfl⟩
  · obtain ⟨rfl, rfl, rfl, v, rfl, h1⟩ := hR
    exact ⟨rfl, Or.inl rfl⟩
  · obtain ⟨rfl, rfl, rfl, v, w, q, rfl, h1, h2, rfl⟩ := hR
    exact ⟨rfl, Or.inl rfl⟩
  · obtain ⟨rfl, rfl, x, rfl, rfl⟩ := hR
    refine ⟨rfl, ?_⟩
    split
    · exact Or.inr (Or.inl ⟨Or.inl rfl, rfl⟩)
    · exact Or.inl rfl
  · obtain ⟨rfl, rfl, x, y, rfl, rfl⟩ := hR
    refine ⟨rfl, ?_⟩
    split
    · exact Or.inr (Or.inl ⟨Or.inr (Or.inl rfl), rfl⟩)
    · exact Or.inl rfl
  · obtain ⟨rfl, rfl, rfl, rfl⟩ := hR
    exact ⟨rfl, Or.inr (Or.inl ⟨Or.inr (Or.inr rfl), rfl⟩)⟩
  · obtain ⟨rfl, rfl, x, rfl, rfl⟩ := hR
    exact ⟨rfl, Or.inr (Or.inr rfl)⟩
  · obtain ⟨rfl, rfl, rfl, o, q, rfl, h1, h2, rfl⟩ := hR
    exact ⟨rfl, Or.inl rfl⟩
  · obtain ⟨rfl, rfl, v, o, rfl, h1, h2, h3, h4, rfl⟩ := hR
    exact ⟨rfl, Or.inl rfl⟩
  · obtain ⟨rfl, rfl, rfl, q, ⟨o, rfl, h1, h2, rfl⟩ | ⟨rfl, rfl⟩ | ⟨rfl, rfl⟩⟩ := hR
    · exact ⟨rfl, Or.inl rfl⟩
    · exact ⟨rfl, Or.inl rfl⟩
    · exact ⟨rfl, Or.inl rfl⟩
  · obtain ⟨rfl, rfl, rfl, j, q, ⟨o, rfl, h1, h2, h3, rfl⟩ | ⟨h0, rfl, h1, h2, rfl⟩ | ⟨h0, rfl, h1, h2, rfl⟩⟩ := hR
    · exact ⟨rfl, Or.inl rfl⟩
    · exact ⟨rfl, Or.inl rfl⟩
    · exact ⟨rfl, Or.inl rfl⟩
  · obtain ⟨rfl, rfl, v, j, o, rfl, h1, h2, h3, h4, h5, rfl⟩ := hR
    exact ⟨rfl, Or.inl rfl⟩
  · obtain ⟨rfl, rfl, rfl, j, o, q, rfl, h1, h2, h3, h4, rfl⟩ := hR
    exact ⟨rfl, Or.inl rfl⟩
  · obtain ⟨bb, n, cx, h0⟩ := S
    obtain ⟨rfl, rfl, h1, h2, rfl, rfl⟩ := hR
    have h1 : bb = false := h1
    subst h1
    exact ⟨rfl, Or.inl rfl⟩
  · obtain ⟨bb, n, cx, h0⟩ := S
    obtain ⟨rfl, rfl, h1, k, q, rfl, h2, h3, rfl, rfl⟩ := hR
    have h1 : bb = false := h1
    subst h1
    exact ⟨rfl, Or.inl rfl⟩
  · obtain ⟨bb, n, cx, h0⟩ := S
    obtain ⟨rfl, rfl, h1, k, q, rfl, h2, h3, rfl, rfl⟩ := hR
    have h1 : bb = false := h1
    subst h1
    exact ⟨rfl, Or.inl rfl⟩
  · obtain ⟨bb, n, cx, h0⟩ := S
    obtain ⟨rfl, rfl, h1, k, N, q, rfl, h2, h3, h4, h5, rfl, rfl⟩ := hR
    have h1 : bb = false := h1
    subst h1
    exact ⟨rfl, Or.inl rfl⟩
  · obtain ⟨rfl, rfl, h0, v, j, o, rfl, h1, h2, h3, h4, rfl⟩ := hR
    exact ⟨rfl, Or.inl rfl⟩
  · obtain ⟨rfl, rfl, rfl, o, rfl, h1⟩ := hR
    exact ⟨rfl, Or.inl rfl⟩
  · obtain ⟨rfl, rfl, rfl, rfl⟩ := hR
    exact ⟨rfl, Or.inl rfl⟩
  · obtain ⟨rfl, rfl, rfl, q, ⟨h0, x, y, rfl, rfl, h1⟩ | ⟨h0, x, rfl, rfl, h1⟩⟩ := hR
    · exact ⟨rfl, Or.inl rfl⟩
    · exact ⟨rfl, Or.inl rfl⟩
  · obtain ⟨rfl, rfl, n, dp, dst, sp, src, rfl, h1, h2, h3, h4, h5, h6, h7, h8, rfl⟩ := hR
    exact ⟨rfl, Or.inl rfl⟩
  · obtain ⟨rfl, rfl, rfl, j, q, rfl, h1, h2, h3, rfl⟩ := hR
    exact ⟨rfl, Or.inl rfl⟩
  · obtain ⟨rfl, rfl, rfl, j, k, q, rfl, h1, h2, h3, h4, h5, rfl⟩ := hR
    exact ⟨rfl, Or.inl rfl⟩
  · cases hR
def cFl (μ : Nat) : Bool := (zMof μ).2.2.2.2.2
/-- is there a call from this place on -/
def cBt (μ pc : Nat) : Nat := if (zCL μ).any (fun e => decide (pc ≤ e.1) && e.2.1 == 32) then 1 else 0
def cTb (μ : Nat) (e : Nat × zI) : Bool := (!(e.2.1 == 32) || (decide (0 < e.2.2.1.toNat) && (decide (e.2.2.1.toNat < 335) && (!(cFl e.2.2.1.toNat) && (!(cFl μ) || cBt μ (e.1 + 3) == 0))))) && (!(cFl μ) || (!(e.2.1 == 18) && (!(e.2.1 == 15 || (e.2.1 == 16 || e.2.1 == 17)) || decide (e.1 ≤ e.2.2.2.1.toNat))))
set_option maxRecDepth 100000 in
theorem cTb_1 : (List.range' 1 39).all (fun μ => (zCL μ).all (cTb μ)) = true := by decide +kernel
set_option maxRecDepth 100000 in
theorem cTb_40 : (List.range' 40 40).all (fun μ => (zCL μ).all (cTb μ)) = true := by decide +kernel
set_option maxRecDepth 100000 in
theorem cTb_80 : (List.range' 80 40).all (fun μ => (zCL μ).all (cTb μ)) = true := by decide +kernel
set_option maxRecDepth 100000 in
theorem cTb_120 : (List.range' 120 40).all (fun μ => (zCL μ).all (cTb μ)) = true := by decide +kernel
set_option maxRecDepth 100000 in
theorem cTb_160 : (List.range' 160 40).all (fun μ => (zCL μ).all (cTb μ)) = true := by decide +kernel
set_option maxRecDepth 100000 in
theorem cTb_200 : (List.range' 200 40).all (fun μ => (zCL μ).all (cTb μ)) = true := by decide +kernel
set_option maxRecDepth 100000 in
theorem cTb_240 : (List.range' 240 40).all (fun μ => (zCL μ).all (cTb μ)) = true := by decide +kernel
set_option maxRecDepth 100000 in
theorem cTb_280 : (List.range' 280 40).all (fun μ => (zCL μ).all (cTb μ)) = true := by decide +kernel
set_option maxRecDepth 100000 in
theorem cTb_320 : (List.range' 320 15).all (fun μ => (zCL μ).all (cTb μ)) = true := by decide +kernel
theorem cTb_all {μ : Nat} (h0 : 0 < μ) (h1 : μ < 335) : (zCL μ).all (cTb μ) = true := by
  rcases Nat.lt_or_ge μ 40 with h | h
  · exact List.all_eq_true.mp cTb_1 μ (List.mem_range'_1.mpr ⟨by omega, by omega⟩)
  rcases Nat.lt_or_ge μ 80 with h | h
  · exact List.all_eq_true.mp cTb_40 μ (List.mem_range'_1.mpr ⟨by omega, by omega⟩)
  rcases Nat.lt_or_ge μ 120 with h | h
  · exact List.all_eq_true.mp cTb_80 μ (List.mem_range'_1.mpr ⟨by omega, by omega⟩)
  rcases Nat.lt_or_ge μ 160 with h | h
  · exact List.all_eq_true.mp cTb_120 μ (List.mem_range'_1.mpr ⟨by omega, by omega⟩)
  rcases Nat.lt_or_ge μ 200 with h | h
  · exact List.all_eq_true.mp cTb_160 μ (List.mem_range'_1.mpr ⟨by omega, by omega⟩)
  rcases Nat.lt_or_ge μ 240 with h | h
  · exact List.all_eq_true.mp cTb_200 μ (List.mem_range'_1.mpr ⟨by omega, by omega⟩)
  rcases Nat.lt_or_ge μ 280 with h | h
  · exact List.all_eq_true.mp cTb_240 μ (List.mem_range'_1.mpr ⟨by omega, by omega⟩)
  rcases Nat.lt_or_ge μ 320 with h | h
  · exact List.all_eq_true.mp cTb_280 μ (List.mem_range'_1.mpr ⟨by omega, by omega⟩)
  rcases Nat.lt_or_ge μ 335 with h | h
  · exact List.all_eq_true.mp cTb_320 μ (List.mem_range'_1.mpr ⟨by omega, by omega⟩)
  omega
theorem cTb_at {μ pc op : Nat} {a b : Int} {len : Nat} (hμ : 0 < μ ∧ μ < 335) (hc : zC μ pc = some (op, a, b, len)) : cTb μ (pc, op, a, b, len) = true := List.all_eq_true.mp (cTb_all hμ.1 hμ.2) _ (z_lookup (show (zCL μ).lookup pc = some (op, a, b, len) from hc))
theorem cBt_le {μ pc pc' : Nat} (h : pc ≤ pc') : cBt μ pc' ≤ cBt μ pc := by
  unfold cBt
  by_cases q : (zCL μ).any (fun e => decide (pc' ≤ e.1) && e.2.1 == 32) = true
  · have q2 : (zCL μ).any (fun e => decide (pc ≤ e.1) && e.2.1 == 32) = true := by
      obtain ⟨e, he, k⟩ := List.any_eq_true.mp q
      refine List.any_eq_true.mpr ⟨e, he, ?_⟩
      rw [Bool.and_eq_true] at k ⊢
      have k1 := of_decide_eq_true k.1
      exact ⟨decide_eq_true (by omega), k.2⟩
    rw [if_pos q, if_pos q2]
    exact Nat.le_refl _
  · rw [if_neg q]
    exact Nat.zero_le _
theorem cBt_at {μ pc : Nat} {a b : Int} {len : Nat} (hc : zC μ pc = some (32, a, b, len)) : cBt μ pc = 1 := by
  unfold cBt
  rw [if_pos]
  refine List.any_eq_true.mpr ⟨_, z_lookup (show (zCL μ).lookup pc = some (32, a, b, len) from hc), ?_⟩
  rw [Bool.and_eq_true]
  exact ⟨decide_eq_true (Nat.le_refl _), rfl⟩
theorem cHd_t : zHdL.all (fun e => cFl e.1.1 && cBt e.1.1 e.2.1 == 0) = true := by decide +kernel
theorem c_lookup {α β : Type} [BEq α] [LawfulBEq α] {k : α} {v : β} : ∀ {l : List (α × β)}, l.lookup k = some v → (k, v) ∈ l
  | [], h => by cases h
  | (a, b) :: l, h => by
    rw [List.lookup_cons] at h
    split at h
    · rename_i e
      injection h with h
      subst h
      rw [eq_of_beq e]
      exact List.mem_cons_self
    · exact List.mem_cons_of_mem _ (c_lookup h)
theorem cHd_at {μ pc E p k : Nat} (h : zHd μ pc E = some (p, k)) : cFl μ = true ∧ cBt μ p = 0 := by
  have := List.all_eq_true.mp cHd_t _ (c_lookup (show zHdL.lookup (μ, pc, E) = some (p, k) from h))
  rw [Bool.and_eq_true] at this
  exact ⟨this.1, eq_of_beq this.2⟩
def cOk (μ pc : Nat) (S : zS) (r : zO) : Prop := (cFl μ = true → r.2.2.2.1 ≤ S.2.2.1 + cBt μ pc) ∧ (cFl μ = false → (∀ vs, r.1 = .inl vs → r.2.2.2.1 = S.2.2.1) ∧ r.2.2.2.1 ≤ S.2.2.1 + 1)
theorem cOk_go {μ pc pc' : Nat} {S S' : zS} {r : zO} (hS : S'.2.2.1 = S.2.2.1) (hb : cFl μ = true → cBt μ pc' ≤ cBt μ pc) (h : cOk μ pc' S' r) : cOk μ pc S r := by
  unfold cOk at h ⊢
  rw [hS] at h
  refine ⟨fun f => ?_, h.2⟩
  have h1 := h.1 f
  have h2 := hb f
  omega
def cXx : zX := fun d μ pc ls st S Q => 0 < μ ∧ μ < 335 → zWp d μ pc ls st S (fun r => Q r ∧ cOk μ pc S r)
theorem cXx_mono : zMono cXx := fun _ _ _ _ _ _ _ _ hQ h hμ => zWp_mono _ _ _ _ _ _ _ _ (fun r q => ⟨hQ r q.1, q.2⟩) (h hμ)
theorem cXx_closed : zClosed cXx := by
  intro d μ pc ls st S Q hF hμ
  rcases hF with ⟨op, a, b, len, pc', ls', st', S', hc, hR, hX⟩ | ⟨a, b, len, hc, hr, hQ⟩ | ⟨a, b, len, hc, hn, hS1, hcat, hQ⟩ | ⟨a, b, len, d', as, rest, hc, hd, hst, hlen, hsa, h9, hrest, hrecv, hX⟩ | ⟨hS1, hlay, hX⟩
  · obtain ⟨k1, k2⟩ := zR_cnt hR
    have ht := cTb_at hμ hc
    refine zWp_closed _ _ _ _ _ _ _ (Or.inl ⟨op, a, b, len, pc', ls', st', S', hc, hR, zWp_mono _ _ _ _ _ _ _ _ (fun r q => ⟨q.1, cOk_go k1 (fun f => cBt_le ?_) q.2⟩) (hX hμ)⟩)
    unfold cTb at ht
    rw [Bool.and_eq_true] at ht
    have ht := ht.2
    rw [f] at ht
    rcases k2 with e | ⟨e1, e2⟩ | e
    · omega
    · rw [e2]
      rcases e1 with e | e | e <;> subst e <;> simpa using ht
    · subst e
      simp at ht
  · exact zWp_closed _ _ _ _ _ _ _ (Or.inr (Or.inl ⟨a, b, len, hc, hr, hQ, fun _ => Nat.le_add_right _ _, fun _ => ⟨fun _ _ => rfl, Nat.le_add_right _ _⟩⟩))
  · refine zWp_closed _ _ _ _ _ _ _ (Or.inr (Or.inr (Or.inl ⟨a, b, len, hc, hn, hS1, hcat, hQ, fun f => ?_, fun _ => ⟨fun vs e => ?_, Nat.le_refl _⟩⟩)))
    · rw [show cFl μ = false from hn] at f
      cases f
    · cases e
  · have ht := cTb_at hμ hc
    unfold cTb at ht
    rw [Bool.and_eq_true] at ht
    have ht := ht.1
    simp only [beq_self_eq_true, Bool.not_true, Bool.false_or, Bool.and_eq_true, decide_eq_true_eq, Bool.not_eq_true', Bool.or_eq_true, beq_iff_eq] at ht
    obtain ⟨t1, t2, t3, t4⟩ := ht
    refine zWp_closed _ _ _ _ _ _ _ (Or.inr (Or.inr (Or.inr (Or.inl ⟨a, b, len, d', as, rest, hc, hd, hst, hlen, hsa, h9, hrest, hrecv, zWp_mono _ _ _ _ _ _ _ _ (fun r1 q => ?_) (hX ⟨t1, t2⟩)⟩))))
    obtain ⟨qa, qc⟩ := q
    have qc := qc.2 t3
    unfold zAft at qa ⊢
    cases hr1 : r1.1 with
    | inl vs =>
      rw [hr1] at qa
      dsimp only at qa ⊢
      have e1 := qc.1 vs hr1
      exact zWp_mono _ _ _ _ _ _ _ _ (fun r w => ⟨w.1, cOk_go e1 (fun _ => cBt_le (by omega)) w.2⟩) (qa hμ)
    | inr E =>
      rw [hr1] at qa
      dsimp only at qa ⊢
      cases hh : zHd μ pc E with
      | none =>
        rw [hh] at qa
        dsimp only at qa ⊢
        refine ⟨qa.1, qa.2, fun f => ?_, fun _ => ⟨fun vs e => ?_, qc.2⟩⟩
        · rw [show cFl μ = false from qa.1] at f
          cases f
        · cases e
      | some pk =>
        obtain ⟨p', kx⟩ := pk
        rw [hh] at qa
        dsimp only at qa ⊢
        obtain ⟨f1, f2⟩ := cHd_at hh
        refine ⟨qa.1, qa.2.1, zWp_mono _ _ _ _ _ _ _ _ (fun r w => ⟨w.1, fun _ => ?_, fun f => ?_⟩) (qa.2.2 hμ)⟩
        · have w1 := w.2.1 f1
          rw [f2] at w1
          rw [cBt_at hc]
          have := qc.2
          omega
        · rw [f1] at f
          cases f
  · exact zWp_closed _ _ _ _ _ _ _ (Or.inr (Or.inr (Or.inr (Or.inr ⟨hS1, hlay, zWp_mono _ _ _ _ _ _ _ _ (fun r q => ⟨q.1, cOk_go (S' := (true, S.2)) rfl (fun _ => Nat.le_refl _) q.2⟩) (hX hμ)⟩))))
theorem cBt_1 {μ pc : Nat} : cBt μ pc ≤ 1 := by
  unfold cBt
  split
  · exact Nat.le_refl _
  · exact Nat.zero_le _
/-- a call throws once at most -/
theorem cCnt {d ν : Nat} {as : List zV} {c : Nat} {h : zH} {R : Int → Nat → zH → Prop} {X : Nat → Nat → zH → Prop} (hν : 0 < ν ∧ ν < 335) (w : zCl d ν as c h R X) : zCl d ν as c h (fun y c' h' => R y c' h' ∧ c' ≤ c + 1) (fun E c' h' => X E c' h' ∧ c' ≤ c + 1) := by
  have k : zWp d ν 0 (zEntry ν as) [] (zTS c h) (fun r => zQ (zMof ν).2.2.2.2.1 R X r ∧ cOk ν 0 (zTS c h) r) := zWp_least cXx_mono cXx_closed w hν
  refine zWp_mono _ _ _ _ _ _ _ _ (fun r q => ?_) k
  obtain ⟨q1, q2⟩ := q
  have q3 : r.2.2.2.1 ≤ c + 1 := by
    by_cases f : cFl ν = true
    · exact Nat.le_trans (q2.1 f) (Nat.add_le_add_left cBt_1 _)
    · exact (q2.2 (by simpa using f)).2
  rcases q1 with ⟨y, c', h', e, k⟩ | ⟨E, c', h', e, k⟩
  · rw [e] at q3
    exact Or.inl ⟨y, c', h', e, k, q3⟩
  · rw [e] at q3
    exact Or.inr ⟨E, c', h', e, k, q3⟩
