/-! switches -/
theorem z_lkp (lo : Int) (f : Nat → Nat) (n : Nat) (x : Int) : ((List.range n).map (fun (k : Nat) => (lo + (k : Int), f k))).lookup x = if 0 ≤ x - lo ∧ x - lo < n then some (f (x - lo).toNat) else none := by
  induction n with
  | zero =>
    rw [if_neg (by omega)]
    rfl
  | succ n ih =>
    rw [List.range_succ, List.map_append, List.lookup_append, ih]
    by_cases h : 0 ≤ x - lo ∧ x - lo < n
    · rw [if_pos h, if_pos (by omega)]
      rfl
    · rw [if_neg h]
      show ((([(lo + (n : Int), f n)] : List (Int × Nat)).lookup x)) = _
      rw [List.lookup_cons]
      by_cases e : x = lo + n
      · rw [if_pos (by omega), show (x - lo).toNat = n by omega]
        simp [e]
      · have : (x == lo + (n : Int)) = false := by simpa using e
        rw [this, if_neg (by omega)]
        rfl
theorem z_lkq (pc : Nat) (dflt : Int) (dt : Nat) (hdt : (pc : Int) + dflt = dt) (x : Int) : ∀ ps : List (Int × Int), (∀ q ∈ ps, 0 ≤ (pc : Int) + q.2) → (pc : Int) + Op.lookupswitch.offset ps dflt x = (((ps.map (fun k => (k.1, ((pc : Int) + k.2).toNat))).lookup x).getD dt : Nat) := by
  intro ps
  induction ps with
  | nil =>
    intro _
    exact hdt
  | cons q r ih =>
    intro h
    obtain ⟨a, o⟩ := q
    obtain ⟨h1, h2⟩ := List.forall_mem_cons.mp h
    rw [Op.lookupswitch.offset_cons, List.map_cons, List.lookup_cons]
    by_cases e : a = x
    · subst e
      rw [if_pos rfl]
      simp
      omega
    · have : (x == a) = false := by simpa using fun z => e z.symm
      rw [if_neg e, this]
      exact ih h2
theorem zSw_sorted : ∀ e ∈ zSwL, (e.2.1.zip (e.2.1.drop 1)).all (fun (a, b) => a.1 < b.1) = true := by decide +kernel
theorem z_lookup2 {α : Type} {l : List ((Nat × Nat) × α)} {k : Nat × Nat} {v : α} (h : l.lookup k = some v) : (k, v) ∈ l := by
  induction l with
  | nil => cases h
  | cons x r ih =>
    obtain ⟨a, b⟩ := x
    rw [List.lookup_cons] at h
    split at h
    · rename_i e
      cases h
      have e2 : k = a := by simpa using e
      rw [e2]
      exact List.mem_cons_self
    · exact List.mem_cons_of_mem _ (ih h)
section ZT
variable {l : Launch} {D : va_G} {κ : Nat → ClassId} {ρ : Nat → Nat} {A : Nat → Prop} {g : Int → Int} {d μ pc len : Nat} {a b : Int} {ls st : List zV} {S : zS} {r : zO} {i : Instr}
theorem zp18 (hd : decode (zB μ) pc = .ok (i, len)) (hf : zFo (zMof μ).1 μ pc len 18 a b i = true) {x : Int} (h : zSnd l D κ ρ A g d μ (zSw μ pc x) ls st S r) : zSnd l D κ ρ A g d μ pc ls ((0, x) :: st) S r := by
  refine ⟨h.1, fun p e R s m args below meth c C σ0 n0 σ H locs cells slots lsC hn0 hσ hP hD hS hI hl hst hce hsl => ?_⟩
  obtain ⟨⟨hlt, hx, hb, hml, hown, hts⟩, ⟨hr, hlk, hnm, htb⟩, hK, hKn, hA, hfr, hlo⟩ := id C
  obtain ⟨h1, hst⟩ := List.forall_mem_cons.mp hst
  have h1 : zr32 x := h1
  have kk := h.2 p e R s m args below meth c C σ0 n0 σ H locs cells slots lsC hn0 hσ hP hD hS hI hl hst hce hsl
  replace hf : zSwT μ pc i = true := hf
  unfold zSwT at hf
  split at hf
  · rename_i lst dt dflt lo hi offs hlook
    simp only [Bool.and_eq_true, decide_eq_true_eq] at hf
    obtain ⟨⟨⟨⟨e1, e2⟩, e3⟩, e4⟩, e5⟩ := hf
    have hsw : zSw μ pc x = (lst.lookup x).getD dt := by unfold zSw; rw [hlook]
    rw [e1, z_lkp lo (fun k => ((pc : Int) + offs.getD k 0).toNat)] at hsw
    by_cases hin : 0 ≤ x - lo ∧ x - lo < offs.size
    · rw [if_pos hin] at hsw
      have hk : (x - lo).toNat < offs.size := by omega
      have hoff : offs[((Int32.ofInt x).toInt - lo).toNat]? = some (offs.getD (x - lo).toNat 0) := by
        rw [zti h1, Array.getElem?_eq_getElem hk]
        simp [Array.getD, hk]
      have hpos : 0 ≤ (pc : Int) + offs.getD (x - lo).toNat 0 := by
        have := Array.all_eq_true.mp e4 (x - lo).toNat hk
        simp only [decide_eq_true_eq] at this
        simpa [Array.getD, hk] using this
      refine lv_tableIn hx hb hd (by rw [zti h1]; omega) (by rw [zti h1]; omega) hoff (tgt := zSw μ pc x) ?_ kk
      rw [hsw]
      show _ = ((((pc : Int) + offs.getD (x - lo).toNat 0).toNat : Nat) : Int)
      omega
    · rw [if_neg hin] at hsw
      refine lv_tableOut hx hb hd (by rw [zti h1]; omega) (tgt := zSw μ pc x) ?_ kk
      rw [hsw]
      exact e2
  · rename_i lst dt dflt ps hlook
    simp only [Bool.and_eq_true, decide_eq_true_eq] at hf
    obtain ⟨⟨e1, e2⟩, e4⟩ := hf
    have hsw : zSw μ pc x = (lst.lookup x).getD dt := by unfold zSw; rw [hlook]
    have hsort := zSw_sorted _ (z_lookup2 hlook)
    dsimp only at hsort
    refine lv_lookup hx hb hd ?_ rfl (tgt := zSw μ pc x) ?_ kk
    · rw [e1] at hsort
      rw [← List.map_drop, List.zip_map, List.all_map] at hsort
      exact hsort
    · rw [hsw, zti h1, e1]
      exact z_lkq pc dflt dt e2 x ps.toList (fun q hq => by
        have := Array.all_eq_true_iff_forall_mem.mp e4 q (by simpa using hq)
        simpa using this)
  · cases hf
end ZT
