/-! calls: a method by its contract, then what follows -/
theorem zArgs_sl (σ ρ : Nat → Nat) (as : List zV) : (lg_sl (as.map (zc σ ρ))).length = (zArgs as).length := by
  induction as with
  | nil => rfl
  | cons v r ih =>
    have e : lg_sl ((v :: r).map (zc σ ρ)) = (if (zc σ ρ v).category = 2 then [.val (zc σ ρ v), .second] else [.val (zc σ ρ v)]) ++ lg_sl (r.map (zc σ ρ)) := rfl
    rw [e, List.length_append, ih, zc_cat]
    show _ = (if v.1 = 1 then v :: (9, 0) :: zArgs r else v :: zArgs r).length
    unfold zcat
    by_cases q : v.1 = 1
    · rw [if_pos q, if_pos rfl, if_pos q]
      simp
      omega
    · rw [if_neg q, if_neg (by decide), if_neg q]
      simp
      omega
theorem zArgs_mem (σ ρ : Nat → Nat) (as : List zV) : ∀ (off i : Nat) (v : zV), (zArgs as)[i]? = some v → v.1 ≠ 9 → (off + i, zc σ ρ v) ∈ lv_args off (as.map (zc σ ρ)) := by
  induction as with
  | nil => intro off i v h; cases h
  | cons w r ih =>
    intro off i v h h9
    show _ ∈ (off, zc σ ρ w) :: lv_args (if (zc σ ρ w).category = 2 then off + 2 else off + 1) (r.map (zc σ ρ))
    rw [zc_cat]
    unfold zArgs at h
    unfold zcat
    by_cases q : w.1 = 1
    · rw [if_pos q] at h
      rw [if_pos q, if_pos rfl]
      match i, h with
      | 0, h => cases h; exact List.mem_cons_self
      | 1, h => cases h; exact absurd rfl h9
      | i + 2, h =>
        have := ih (off + 2) i v h h9
        rw [show off + 2 + i = off + (i + 2) by omega] at this
        exact List.mem_cons_of_mem _ this
    · rw [if_neg q] at h
      rw [if_neg q, if_neg (by decide)]
      match i, h with
      | 0, h => cases h; exact List.mem_cons_self
      | i + 1, h =>
        have := ih (off + 1) i v h h9
        rw [show off + 1 + i = off + (i + 1) by omega] at this
        exact List.mem_cons_of_mem _ this
theorem zArgs_ok {n : Nat} {as : List zV} (h : ∀ v ∈ as, zOk n v) : ∀ v ∈ zArgs as, v.1 = 9 ∨ zOk n v := by
  induction as with
  | nil => intro v hv; cases hv
  | cons w r ih =>
    obtain ⟨h1, h2⟩ := List.forall_mem_cons.mp h
    intro v hv
    unfold zArgs at hv
    split at hv
    · rcases List.mem_cons.mp hv with q | q
      · rw [q]; exact Or.inr h1
      · rcases List.mem_cons.mp q with q | q
        · rw [q]; exact Or.inl rfl
        · exact ih h2 v q
    · rcases List.mem_cons.mp hv with q | q
      · rw [q]; exact Or.inr h1
      · exact ih h2 v q
theorem zEntry_ls {σ ρ : Nat → Nat} {n ν : Nat} {as : List zV} (hok : ∀ v ∈ as, zOk n v) (hlen : (zArgs as).length ≤ (zMof ν).2.2.1) :
    zLs σ ρ n (zMof ν).2.2.1 (zEntry ν as) ((lg_sl (as.map (zc σ ρ)) ++ List.replicate ((zMof ν).2.2.1 - (lg_sl (as.map (zc σ ρ))).length) Slot.unset).toArray) := by
  have hv := lv_entry (as.map (zc σ ρ)) (n := (zMof ν).2.2.1) (by rw [zArgs_sl]; exact hlen)
  refine ⟨by unfold zEntry; simp; omega, ⟨hv.1, hv.2.1, fun q hq => hv.2.2 q ?_⟩, fun v hv => ?_⟩
  · obtain ⟨v, h1, h9, e⟩ := zLv_mem.mp hq
    unfold zEntry at h1
    rcases Nat.lt_or_ge q.1 (zArgs as).length with t | t
    · rw [List.getElem?_append_left t] at h1
      have := zArgs_mem σ ρ as 0 q.1 v h1 h9
      rw [Nat.zero_add, ← e] at this
      exact this
    · rw [List.getElem?_append_right t] at h1
      have := (List.mem_replicate.mp (List.mem_of_getElem? h1)).2
      rw [this] at h9
      exact absurd rfl h9
  · unfold zEntry at hv
    rcases List.mem_append.mp hv with q | q
    · exact zArgs_ok hok v q
    · rw [(List.mem_replicate.mp q).2]
      exact Or.inl rfl
theorem zHw_in {ν : Nat} (h0 : 0 < ν) (h1 : ν < 335) : zHw ν ∈ zGd := by
  obtain ⟨h, -⟩ := zMw_all ν h0 h1
  unfold zHw
  rcases h with ⟨e, h⟩ | ⟨e, -, h⟩
  · rw [if_pos e]
    exact zGd_in h rfl
  · rw [if_neg (by rw [e]; decide)]
    exact zGd_in h rfl
theorem zTab_0 {ν : Nat} (h1 : ν < 335) (h : (zMof ν).2.2.2.2.2 = false) : zTab ν = [] := by
  rcases Nat.eq_zero_or_pos ν with e | h0
  · subst e; rfl
  · obtain ⟨q, -⟩ := zMw_all ν h0 h1
    rcases q with ⟨e, -⟩ | ⟨-, e, -⟩
    · rw [h] at e; cases e
    · exact e
theorem zOwn_eq (ν : Nat) : (zY ν).cls = zOwnL.getD (zMof ν).1 "" := rfl
theorem zc_ext {σ σ' ρ : Nat → Nat} {n : Nat} (he : ∀ j, j ≤ n → σ' j = σ j) {v : zV} (h : v.1 = 9 ∨ zOk n v) : zc σ' ρ v = zc σ ρ v := by
  obtain ⟨t, x⟩ := v
  rcases h with h | h
  · have h : t = 9 := h
    subst h
    rfl
  · unfold zOk at h
    unfold zc
    dsimp only at h ⊢
    split
    · rfl
    · rfl
    · have h : 1 ≤ x ∧ x ≤ n := h
      rw [he x.toNat (by omega)]
    · rfl
    · rfl
    · rfl
theorem zOk_mono {n n' : Nat} (h : n ≤ n') {v : zV} (hv : zOk n v) : zOk n' v := by
  unfold zOk at hv ⊢
  split
  · rename_i e; rw [e] at hv; exact hv
  · rename_i e; rw [e] at hv; exact hv
  · rename_i e; rw [e] at hv; have hv : 1 ≤ v.2 ∧ v.2 ≤ n := hv; omega
  · rename_i e; rw [e] at hv; exact hv
  · rename_i e; rw [e] at hv; exact hv
  · rename_i e0 e1 e2 e4 e5
    split at hv
    · exact absurd (by assumption) e0
    · exact absurd (by assumption) e1
    · exact absurd (by assumption) e2
    · exact absurd (by assumption) e4
    · exact absurd (by assumption) e5
    · exact hv
theorem zLs_ext {σ σ' ρ : Nat → Nat} {n n' nL : Nat} {L : List zV} {ls : Array Slot} (he : ∀ j, j ≤ n → σ' j = σ j) (hn : n ≤ n') (h : zLs σ ρ n nL L ls) : zLs σ' ρ n' nL L ls := by
  refine ⟨h.1, ⟨h.2.1.1, h.2.1.2.1, fun q hq => h.2.1.2.2 q ?_⟩, fun v hv => (h.2.2 v hv).imp id (zOk_mono hn)⟩
  obtain ⟨v, h1, h9, e⟩ := zLv_mem.mp hq
  refine zLv_mem.mpr ⟨v, h1, h9, ?_⟩
  rw [e, zc_ext he (h.2.2 v (List.mem_of_getElem? h1))]
theorem z_map_ext {σ σ' ρ : Nat → Nat} {n : Nat} (he : ∀ j, j ≤ n → σ' j = σ j) {st : List zV} (h : ∀ v ∈ st, zOk n v) : st.map (zc σ' ρ) = st.map (zc σ ρ) := List.map_congr_left (fun v hv => zc_ext he (Or.inr (h v hv)))
section ZC
variable {l : Launch} {D : va_G} {κ : Nat → ClassId} {ρ : Nat → Nat} {A : Nat → Prop} {g : Int → Int} {d μ ν pc len : Nat} {a b : Int} {ls st as rest : List zV} {S : zS} {r r1 : zO} {i : Instr}
/-- the body of a method, from its entry -/
theorem z_body (hlt : l.stackTraces = false) (h0 : 0 < ν) (h1 : ν < 335) (hok : ∀ v ∈ as, zOk S.2.1 v) (hlen : (zArgs as).length ≤ (zMof ν).2.2.1) (h : zSnd l D κ ρ A g d ν 0 (zEntry ν as) [] S r)
    (σ : Nat → Nat) {p : Program} {e : Env} {s : State} {m : MethodId} {args : Array Value} {below : List Frame} {meth : Method} {c : Code} {s₁ : State}
    (B : BodyLoose p l (zY ν) (headSpec (zHw ν :: zGd) (zRm d S r)) (zB ν) (zMof ν).2.2.1 (zRt ν) e s m args below meth c s₁) (hml : c.maxLocals = (zMof ν).2.2.1) (htab : c.exceptionTable.toList = tableOf (zTab ν)) (hv : zPc D κ ρ A g σ as S args s) :
    W p l e (headSpec (zHw ν :: zGd) (zRm d S r)).room s m args below meth c s.heap [] 0 0 (vx_MQ below (zQc D κ ρ A g σ S.2.1 r) (zXc D κ A g σ S.2.1 r) args s (zCc r.2 - zCc S) (zSl r.2 - zSl S) A) (entryFrame m args (zMof ν).2.2.1) := by
  obtain ⟨rfl, ⟨hP, hK, hD, hI⟩, hKn, hA⟩ := hv
  have hts : ∀ w ∈ zGd, w.before (as.map (zc σ ρ)).toArray s = true := fun w hw => atoms_spec (ws := zHw ν :: zGd) B.pre w (List.mem_cons_of_mem _ hw)
  rw [lg_entry_eq]
  exact h.2 p e (headSpec (zHw ν :: zGd) (zRm d S r)).room s m _ below meth c ⟨⟨hlt, B.exec, B.bytes, hml, findClass_of_methodNamed B.named, hts⟩, ⟨B.returns, B.notSynchronized, (name_of_methodNamed B.named B.method).1, htab⟩, hK, hKn, hA, Nat.le_refl _, Nat.le_refl _⟩
    σ S.2.1 σ s.heap [] 0 0 _ (Nat.le_refl _) (fun _ _ => rfl) hP hD va_S.rf hI (zEntry_ls hok hlen) (fun v hv => by cases hv) (by rw [Nat.zero_add]; exact Nat.le_refl _) (by rw [Nat.zero_add]; exact Nat.le_refl _)
theorem z_met (hlt : l.stackTraces = false) (h0 : 0 < ν) (h1 : ν < 335) (hok : ∀ v ∈ as, zOk S.2.1 v) (hlen : (zArgs as).length ≤ (zMof ν).2.2.1) (h : zSnd l D κ ρ A g d ν 0 (zEntry ν as) [] S r) : zMet l D κ ρ A g d ν as S r := by
  intro σ
  have hmd := zMd_all h0 h1
  unfold zMd at hmd
  simp only [Bool.and_eq_true, decide_eq_true_eq] at hmd
  cases hh : (zMof ν).2.2.2.2.2 with
  | false =>
    have hw : zHw ν = Cond.code (zY ν) (zB ν) (zMof ν).2.2.1 (zRt ν) := by unfold zHw; rw [if_neg (by rw [hh]; decide)]
    refine vx_ofW (cc := zB ν) (maxL := (zMof ν).2.2.1) (ret := zRt ν) hmd.1.2 (by rw [hw]) ?_
    intro p e s m args below meth c s₁ B hml hex hv
    refine z_body hlt h0 h1 hok hlen h σ B hml ?_ hv
    rw [zTab_0 h1 hh]
    show c.exceptionTable.toList = []
    cases q : c.exceptionTable.toList with
    | nil => rfl
    | cons x t => exact absurd (hex x (by rw [q]; exact List.mem_cons_self)) (fun z => z)
  | true =>
    have hw : zHw ν = Cond.codeWith (zY ν) (zB ν) (zMof ν).2.2.1 (zRt ν) (zTab ν) := by unfold zHw; rw [if_pos hh]
    refine vx_ofWH (cc := zB ν) (maxL := (zMof ν).2.2.1) (ret := zRt ν) (hh := zTab ν) hmd.1.2 (by rw [hw]) ?_
    intro p e s m args below meth c s₁ B hml hv
    refine z_body hlt h0 h1 hok hlen h σ B hml (vx_table (x := zY ν) B (atoms_spec (ws := zHw ν :: zGd) B.pre _ (by rw [hw]; exact List.mem_cons_self))) hv
theorem z_Wmono {p : Program} {e : Env} {R : Room} {s : State} {m : MethodId} {args : Array Value} {below : List Frame} {meth : Method} {c : Code} {H : Heap} {locs : List Loc} {cells slots : Nat} {Q Q' : State → Prop} {f : JFrame} (hQ : ∀ t, Q t → Q' t) (h : W p l e R s m args below meth c H locs cells slots Q f) : W p l e R s m args below meth c H locs cells slots Q' f := by
  intro T hT X
  obtain ⟨t, h1, h2⟩ := h T hT X
  exact ⟨t, h1, hQ t h2⟩
/-- a method that returns -/
theorem z_metR (hlt : l.stackTraces = false) (h0 : 0 < ν) (h1 : ν < 335) (hok : ∀ v ∈ as, zOk S.2.1 v) (hlen : (zArgs as).length ≤ (zMof ν).2.2.1) (hh : (zMof ν).2.2.2.2.2 = false) {vs : List zV} (hr : r.1 = .inl vs) (h : zSnd l D κ ρ A g d ν 0 (zEntry ν as) [] S r) (σ : Nat → Nat) :
    Met l (zY ν) (zHw ν :: zGd) (zRm d S r) (zPc D κ ρ A g σ as S) (zQc D κ ρ A g σ S.2.1 r) (zCc r.2 - zCc S) (zSl r.2 - zSl S) A := by
  have hmd := zMd_all h0 h1
  unfold zMd at hmd
  simp only [Bool.and_eq_true, decide_eq_true_eq] at hmd
  have hw : zHw ν = Cond.code (zY ν) (zB ν) (zMof ν).2.2.1 (zRt ν) := by unfold zHw; rw [if_neg (by rw [hh]; decide)]
  refine Met.ofW (cc := zB ν) (maxL := (zMof ν).2.2.1) (ret := zRt ν) hmd.1.2 (by rw [hw]) ?_
  intro p e s m args below meth c s₁ B hml hv
  have hex := BodyLoose.noHandlers B (atoms_spec (ws := zHw ν :: zGd) B.pre _ (by rw [hw]; exact List.mem_cons_self))
  have htab : c.exceptionTable.toList = tableOf (zTab ν) := by
    rw [zTab_0 h1 hh]
    show c.exceptionTable.toList = []
    simpa using hex
  refine z_Wmono (fun t ht => ?_) (z_body hlt h0 h1 hok hlen h σ B hml htab hv)
  obtain ⟨o, q1, q2, q3⟩ := ht
  rcases q3 with q3 | ⟨q, rfl, E, ce, L, ⟨k, σ', hk, -⟩, -⟩
  · exact ⟨o, q1, q2, q3.1, q3.2⟩
  · rw [hr] at hk
    cases hk
end ZC
