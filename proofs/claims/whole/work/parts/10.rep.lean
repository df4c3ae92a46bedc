/-! what an abstract state says of the machine's heap, locals and stack -/
def zOpt (σ : Nat → Nat) (r : Int) : Option Nat := if r = 0 then none else some (σ r.toNat)
def zFv (σ : Nat → Nat) (ty : Nat) (r : Int) : Value := if ty = 2 then va_rf (zOpt σ r) else .int (Int32.ofInt r)
def zEn (κ : Nat → ClassId) (σ : Nat → Nat) (h : zH) (o : Nat) : va_E :=
  if (zK o).1 < 50 then .inr ((zK o).1, (List.range (zK o).2).map (fun (k : Nat) => zFv σ (zTy (zK o).1 k) (h o k)))
  else if (zK o).1 < 53 then .inl (κ (zK o).1, (zK o).2, .inl (fun i : Nat => Int32.ofInt (h o i)))
  else if (zK o).1 = 53 then .inl (κ 53, (zK o).2, .inr (.inl (fun i : Nat => Int64.ofInt (h o i))))
  else .inl (κ (zK o).1, (zK o).2, .inr (.inr (.inr (.inr (fun i : Nat => zOpt σ (h o i))))))
def zWs (κ : Nat → ClassId) (σ : Nat → Nat) (n : Nat) (h : zH) : va_W := (List.range n).map (fun j => (σ (j + 1), zEn κ σ h (j + 1)))
theorem zWs_get {κ : Nat → ClassId} {σ : Nat → Nat} {n j : Nat} {h : zH} (hj : j < n) : (zWs κ σ n h)[j]? = some (σ (j + 1), zEn κ σ h (j + 1)) := by
  unfold zWs
  rw [List.getElem?_map, List.getElem?_range hj]
  rfl
theorem zWs_len {κ : Nat → ClassId} {σ : Nat → Nat} {n : Nat} {h : zH} : (zWs κ σ n h).length = n := by simp [zWs]
theorem zWs_at {κ : Nat → ClassId} {σ : Nat → Nat} {n : Nat} {h : zH} {o : Int} (h1 : 1 ≤ o) (h2 : o ≤ n) : (zWs κ σ n h)[o.toNat - 1]? = some (σ o.toNat, zEn κ σ h o.toNat) := by
  have e := zWs_get (κ := κ) (σ := σ) (h := h) (n := n) (j := o.toNat - 1) (by omega)
  rwa [show o.toNat - 1 + 1 = o.toNat by omega] at e
theorem zEn_congr {κ : Nat → ClassId} {σ : Nat → Nat} {h h' : zH} {o : Nat} (e : ∀ k, h' o k = h o k) : zEn κ σ h' o = zEn κ σ h o := by
  have e2 : h' (o : Int) = h (o : Int) := funext e
  unfold zEn
  rw [e2]
theorem zWs_set {κ : Nat → ClassId} {σ : Nat → Nat} {n : Nat} {h h' : zH} {o : Int} (h1 : 1 ≤ o) (h2 : o ≤ n) (hh : ∀ o' k, o' ≠ o → h' o' k = h o' k) : zWs κ σ n h' = (zWs κ σ n h).set (o.toNat - 1) (σ o.toNat, zEn κ σ h' o.toNat) := by
  apply List.ext_getElem?
  intro j
  by_cases hj : j < n
  · rw [zWs_get hj]
    by_cases e : j = o.toNat - 1
    · subst e
      rw [List.getElem?_set_self (by rw [zWs_len]; omega), show o.toNat - 1 + 1 = o.toNat by omega]
    · rw [List.getElem?_set_ne (Ne.symm e), zWs_get hj, zEn_congr (h := h) (h' := h') (fun k => hh _ k (by omega))]
  · rw [List.getElem?_eq_none (by rw [zWs_len]; omega), List.getElem?_eq_none (by rw [List.length_set, zWs_len]; omega)]
theorem zEn_obj {κ : Nat → ClassId} {σ : Nat → Nat} {h : zH} {o : Int} (h1 : 1 ≤ o) {ci : Nat} (hc : (zK o).1 = ci) (h50 : ci < 50) : zEn κ σ h o.toNat = .inr (ci, (List.range (zK o).2).map (fun (k : Nat) => zFv σ (zTy ci k) (h o k))) := by
  unfold zEn
  rw [show ((o.toNat : Nat) : Int) = o by omega, hc, if_pos h50]
theorem zEn_int {κ : Nat → ClassId} {σ : Nat → Nat} {h : zH} {o : Int} (h1 : 1 ≤ o) {ci : Nat} (hc : (zK o).1 = ci) (h50 : 50 ≤ ci) (h53 : ci < 53) : zEn κ σ h o.toNat = .inl (κ ci, (zK o).2, .inl (fun i : Nat => Int32.ofInt (h o i))) := by
  unfold zEn
  rw [show ((o.toNat : Nat) : Int) = o by omega, hc, if_neg (by omega), if_pos h53]
theorem zEn_long {κ : Nat → ClassId} {σ : Nat → Nat} {h : zH} {o : Int} (h1 : 1 ≤ o) (hc : (zK o).1 = 53) : zEn κ σ h o.toNat = .inl (κ 53, (zK o).2, .inr (.inl (fun i : Nat => Int64.ofInt (h o i)))) := by
  unfold zEn
  rw [show ((o.toNat : Nat) : Int) = o by omega, hc, if_neg (by omega), if_neg (by omega), if_pos rfl]
theorem zEn_ref {κ : Nat → ClassId} {σ : Nat → Nat} {h : zH} {o : Int} (h1 : 1 ≤ o) {ci : Nat} (hc : (zK o).1 = ci) (h54 : 54 ≤ ci) : zEn κ σ h o.toNat = .inl (κ ci, (zK o).2, .inr (.inr (.inr (.inr (fun i : Nat => zOpt σ (h o i)))))) := by
  unfold zEn
  rw [show ((o.toNat : Nat) : Int) = o by omega, hc, if_neg (by omega), if_neg (by omega), if_neg (by omega)]
/-- which numbers may stand in a slot -/
def zFits (n kind k : Nat) (v : Int) : Prop := if kind < 50 then (if zTy kind k = 2 then 0 ≤ v ∧ v ≤ n else zr32 v) else if kind < 53 then zr32 v else if kind = 53 then zr64 v else 0 ≤ v ∧ v ≤ n
def zRg (n : Nat) (h : zH) : Prop := ∀ o : Nat, 1 ≤ o → o ≤ n → ∀ k : Nat, zFits n (zK o).1 k (h o k)
theorem zRg_set {n : Nat} {h : zH} {o : Int} {k : Nat} {v : Int} (hr : zRg n h) (hv : zFits n (zK o).1 k v) : zRg n (hw h o k v) := by
  intro o' h1 h2 k'
  unfold hw
  split
  · rename_i e
    rw [e.1, show k' = k by omega]
    exact hv
  · exact hr o' h1 h2 k'
def zc (σ ρ : Nat → Nat) (v : zV) : Value := match v.1 with
  | 0 => .int (Int32.ofInt v.2)
  | 1 => .long (Int64.ofInt v.2)
  | 2 => .ref (σ v.2.toNat)
  | 4 => .ref (ρ v.2.toNat)
  | 5 => .ref (ρ (100 + v.2.toNat))
  | _ => .null
def zOk (n : Nat) (v : zV) : Prop := match v.1 with
  | 0 => zr32 v.2
  | 1 => zr64 v.2
  | 2 => 1 ≤ v.2 ∧ v.2 ≤ n
  | 4 => v.2 = 0 ∨ v.2 = 1
  | 5 => 0 ≤ v.2 ∧ v.2.toNat < zStr.length
  | _ => False
theorem zc_cat (σ ρ : Nat → Nat) (v : zV) : (zc σ ρ v).category = zcat v := by
  obtain ⟨t, x⟩ := v
  unfold zc zcat
  dsimp only
  split
  · rfl
  · rfl
  · rfl
  · rfl
  · rfl
  · rename_i h0 h1 h2 h3 h4
    rw [if_neg (by intro q; exact h1 q)]
    rfl
def zLv (σ ρ : Nat → Nat) (L : List zV) : List (Nat × Value) := (List.range L.length).filterMap (fun i => match L[i]? with
  | some v => if v.1 = 9 then none else some (i, zc σ ρ v)
  | none => none)
theorem zLv_mem {σ ρ : Nat → Nat} {L : List zV} {q : Nat × Value} : q ∈ zLv σ ρ L ↔ ∃ v, L[q.1]? = some v ∧ v.1 ≠ 9 ∧ q.2 = zc σ ρ v := by
  unfold zLv
  rw [List.mem_filterMap]
  constructor
  · rintro ⟨i, hi, h⟩
    cases hv : L[i]? with
    | none => rw [hv] at h; cases h
    | some v =>
      rw [hv] at h
      dsimp only at h
      split at h
      · cases h
      · cases h
        exact ⟨v, hv, by assumption, rfl⟩
  · rintro ⟨v, hv, h9, e⟩
    refine ⟨q.1, List.mem_range.mpr (List.getElem?_eq_some_iff.mp hv).1, ?_⟩
    rw [hv]
    dsimp only
    rw [if_neg h9, ← e]
theorem zSt_get {L : List zV} {i : Nat} {v : zV} (hi : i < L.length) (j : Nat) : (zSt L i v)[j]? = if j = i then some v else if j + 1 = i ∧ L[j]?.map (fun q => q.1) = some 1 then some (9, 0) else L[j]? := by
  cases i with
  | zero =>
    unfold zSt
    by_cases hj : j = 0
    · subst hj
      rw [List.getElem?_set_self hi, if_pos rfl]
    · rw [List.getElem?_set_ne (Ne.symm hj), if_neg hj, if_neg (by omega)]
  | succ k =>
    unfold zSt
    dsimp only
    by_cases hj : j = k + 1
    · subst hj
      rw [if_pos rfl, List.getElem?_set_self]
      split
      · rw [List.length_set]; exact hi
      · exact hi
    · rw [List.getElem?_set_ne (Ne.symm hj), if_neg hj]
      split
      · rename_i x hx
        by_cases hk : j = k
        · subst hk
          rw [List.getElem?_set_self (by omega), if_pos ⟨rfl, by rw [hx]; rfl⟩]
        · rw [List.getElem?_set_ne (Ne.symm hk), if_neg (by omega)]
      · rename_i hx
        rw [if_neg]
        rintro ⟨e, ex⟩
        have : j = k := by omega
        subst this
        cases hq : L[j]? with
        | none => rw [hq] at ex; cases ex
        | some w =>
          rw [hq] at ex
          obtain ⟨t, x⟩ := w
          have et : t = 1 := by simpa using ex
          subst et
          exact hx x hq
theorem zSt_len {L : List zV} {i : Nat} {v : zV} : (zSt L i v).length = L.length := by
  cases i with
  | zero => unfold zSt; simp
  | succ k =>
    unfold zSt
    dsimp only
    split <;> simp
/-- the locals -/
def zLs (σ ρ : Nat → Nat) (n nL : Nat) (L : List zV) (ls : Array Slot) : Prop := L.length = nL ∧ lv_has ls nL (zLv σ ρ L) ∧ ∀ v ∈ L, v.1 = 9 ∨ zOk n v
theorem zLs_at {σ ρ : Nat → Nat} {n nL i : Nat} {L : List zV} {ls : Array Slot} {v : zV} (h : zLs σ ρ n nL L ls) (hv : L[i]? = some v) (h9 : v.1 ≠ 9) : ls[i]? = some (.val (zc σ ρ v)) := h.2.1.2.2 (i, zc σ ρ v) (zLv_mem.mpr ⟨v, hv, h9, rfl⟩)
theorem zLs_ok {σ ρ : Nat → Nat} {n nL i : Nat} {L : List zV} {ls : Array Slot} {v : zV} (h : zLs σ ρ n nL L ls) (hv : L[i]? = some v) (h9 : v.1 ≠ 9) : zOk n v := (h.2.2 v (List.mem_of_getElem? hv)).resolve_left h9
theorem zLs_st {σ ρ : Nat → Nat} {n nL i : Nat} {L : List zV} {ls ls' : Array Slot} {v : zV} {c : Value} (h : zLs σ ρ n nL L ls) (hi : i < nL) (hok : zOk n v) (hc : c = zc σ ρ v)
    (h' : lv_has ls' nL ((i, c) :: (zLv σ ρ L).filter (fun q => !(q.1 == i) && !(q.1 + 1 == i && q.2.category == 2)))) : zLs σ ρ n nL (zSt L i v) ls' := by
  subst hc
  have hl := h.1
  refine ⟨zSt_len.trans h.1, ⟨h'.1, h'.2.1, fun q hq => h'.2.2 q ?_⟩, fun w hw => ?_⟩
  · obtain ⟨w, hw, h9, e⟩ := zLv_mem.mp hq
    rw [zSt_get (by omega)] at hw
    by_cases hj : q.1 = i
    · rw [if_pos hj] at hw
      cases hw
      rw [List.mem_cons]
      left
      exact Prod.ext hj e
    · rw [if_neg hj] at hw
      by_cases hk : q.1 + 1 = i ∧ L[q.1]?.map (fun q => q.1) = some 1
      · rw [if_pos hk] at hw
        cases hw
        exact absurd rfl h9
      · rw [if_neg hk] at hw
        rw [List.mem_cons]
        right
        rw [List.mem_filter]
        refine ⟨zLv_mem.mpr ⟨w, hw, h9, e⟩, ?_⟩
        have n1 : (q.1 == i) = false := by simpa using hj
        rw [n1]
        by_cases hq1 : q.1 + 1 = i
        · have n2 : (q.2.category == 2) = false := by
            rw [e, zc_cat]
            unfold zcat
            rw [if_neg]
            · rfl
            · intro t
              exact hk ⟨hq1, by rw [hw, ← t]; rfl⟩
          rw [n2]
          simp
        · have n2 : (q.1 + 1 == i) = false := by simpa using hq1
          rw [n2]
          simp
  · obtain ⟨j, hj⟩ := List.getElem?_of_mem hw
    rw [zSt_get (by omega)] at hj
    by_cases e : j = i
    · rw [if_pos e] at hj
      cases hj
      exact Or.inr hok
    · rw [if_neg e] at hj
      split at hj
      · cases hj
        exact Or.inl rfl
      · exact h.2.2 w (List.mem_of_getElem? hj)
theorem zLs_st2 {σ ρ : Nat → Nat} {n nL i : Nat} {L : List zV} {ls ls' : Array Slot} {x : Int} {c : Value} (h : zLs σ ρ n nL L ls) (hi : i + 1 < nL) (hok : zr64 x) (hc : c = .long (Int64.ofInt x))
    (h' : lv_has ls' nL ((i, c) :: (zLv σ ρ L).filter (fun q => !(q.1 == i) && (!(q.1 == i + 1) && !(q.1 + 1 == i && q.2.category == 2))))) : zLs σ ρ n nL (zSt2 L i (1, x)) ls' := by
  subst hc
  have hl := h.1
  have get2 : ∀ j, (zSt2 L i (1, x))[j]? = if j = i + 1 then some (9, 0) else (zSt L i (1, x))[j]? := by
    intro j
    unfold zSt2
    by_cases e : j = i + 1
    · subst e
      rw [List.getElem?_set_self (by rw [zSt_len]; omega), if_pos rfl]
    · rw [List.getElem?_set_ne (Ne.symm e), if_neg e]
  refine ⟨by unfold zSt2; rw [List.length_set]; exact zSt_len.trans h.1, ⟨h'.1, h'.2.1, fun q hq => h'.2.2 q ?_⟩, fun w hw => ?_⟩
  · obtain ⟨w, hw, h9, e⟩ := zLv_mem.mp hq
    rw [get2] at hw
    by_cases hj2 : q.1 = i + 1
    · rw [if_pos hj2] at hw
      cases hw
      exact absurd rfl h9
    · rw [if_neg hj2, zSt_get (by omega)] at hw
      by_cases hj : q.1 = i
      · rw [if_pos hj] at hw
        cases hw
        rw [List.mem_cons]
        left
        exact Prod.ext hj e
      · rw [if_neg hj] at hw
        by_cases hk : q.1 + 1 = i ∧ L[q.1]?.map (fun q => q.1) = some 1
        · rw [if_pos hk] at hw
          cases hw
          exact absurd rfl h9
        · rw [if_neg hk] at hw
          rw [List.mem_cons]
          right
          rw [List.mem_filter]
          refine ⟨zLv_mem.mpr ⟨w, hw, h9, e⟩, ?_⟩
          have n1 : (q.1 == i) = false := by simpa using hj
          have n3 : (q.1 == i + 1) = false := by simpa using hj2
          rw [n1, n3]
          by_cases hq1 : q.1 + 1 = i
          · have n2 : (q.2.category == 2) = false := by
              rw [e, zc_cat]
              unfold zcat
              rw [if_neg]
              · rfl
              · intro t
                exact hk ⟨hq1, by rw [hw, ← t]; rfl⟩
            rw [n2]
            simp
          · have n2 : (q.1 + 1 == i) = false := by simpa using hq1
            rw [n2]
            simp
  · obtain ⟨j, hj⟩ := List.getElem?_of_mem hw
    rw [get2] at hj
    split at hj
    · cases hj
      exact Or.inl rfl
    · rw [zSt_get (by omega)] at hj
      by_cases e : j = i
      · rw [if_pos e] at hj
        cases hj
        exact Or.inr hok
      · rw [if_neg e] at hj
        split at hj
        · cases hj
          exact Or.inl rfl
        · exact h.2.2 w (List.mem_of_getElem? hj)
theorem zOpt_sig {σ σ' : Nat → Nat} {n : Nat} {r : Int} (he : ∀ j, j ≤ n → σ' j = σ j) (hr : 0 ≤ r ∧ r ≤ n) : zOpt σ' r = zOpt σ r := by
  unfold zOpt
  split
  · rfl
  · rw [he r.toNat (by omega)]
theorem zEn_sig {κ : Nat → ClassId} {σ σ' : Nat → Nat} {n o : Nat} {h h' : zH} (hr : zRg n h) (he : ∀ j, j ≤ n → σ' j = σ j) (h1 : 1 ≤ o) (h2 : o ≤ n) (hh : ∀ k, h' o k = h o k) : zEn κ σ' h' o = zEn κ σ h o := by
  rw [zEn_congr hh]
  have hf := hr o h1 h2
  unfold zEn
  unfold zFits at hf
  split
  · rename_i h50
    congr 2
    apply List.map_congr_left
    intro k _
    have := hf k
    rw [if_pos h50] at this
    unfold zFv
    split
    · rename_i e
      rw [if_pos e] at this
      rw [zOpt_sig he this]
    · rfl
  · rename_i h50
    split
    · rfl
    · rename_i h53
      split
      · rfl
      · rename_i h53'
        have e : (fun i : Nat => zOpt σ' (h o i)) = (fun i : Nat => zOpt σ (h o i)) := by
          funext i
          have := hf i
          rw [if_neg h50, if_neg h53, if_neg h53'] at this
          exact zOpt_sig he this
        rw [e]
theorem zWs_new {κ : Nat → ClassId} {σ σ' : Nat → Nat} {n m : Nat} {h h' : zH} (hr : zRg n h) (he : ∀ j, j ≤ n → σ' j = σ j) (hh : ∀ (o : Nat), 1 ≤ o → o ≤ n → ∀ k, h' o k = h o k) : zWs κ σ' (n + m) h' = zWs κ σ n h ++ (List.range m).map (fun j => (σ' (n + 1 + j), zEn κ σ' h' (n + 1 + j))) := by
  unfold zWs
  rw [List.range_add, List.map_append, List.map_map]
  congr 1
  · apply List.map_congr_left
    intro j hj
    have hj := List.mem_range.mp hj
    rw [he (j + 1) (by omega), zEn_sig hr he (by omega) (by omega) (hh (j + 1) (by omega) (by omega))]
  · apply List.map_congr_left
    intro j _
    show (σ' (n + j + 1), zEn κ σ' h' (n + j + 1)) = _
    rw [show n + j + 1 = n + 1 + j by omega]
