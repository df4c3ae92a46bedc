/-! making arrays -/
section ZT
variable {l : Launch} {D : va_G} {κ : Nat → ClassId} {ρ : Nat → Nat} {A : Nat → Prop} {g : Int → Int} {d μ pc len : Nat} {a b : Int} {ls st : List zV} {S : zS} {r : zO} {i : Instr} {n cx : Nat} {h0 : zH}
/-- what follows the making of one array -/
theorem z_mk {p : Program} {e : Env} {R : Room} {s : State} {m : MethodId} {args : Array Value} {below : List Frame} {meth : Method} {c : Code} {σ0 σ : Nat → Nat} {n0 : Nat} {H1 : Heap} {locs : List Loc} {cells slots : Nat} {lsC : Array Slot} {nx N q : Nat} {en : va_E}
    (C : zCx l D κ ρ A g d μ p R s m args meth c) (h : zSnd l D κ ρ A g d μ nx ls ((2, (n : Int) + 1) :: st) (false, n + 1, cx, hz h0 (n + 1)) r) (hN : (zK (n + 1 : Nat)).2 = N) (h156 : n + 1 ≤ 156) (hen : zEn κ (zNs σ n q) (hz h0 (n + 1)) (n + 1) = en)
    (hn0 : n0 ≤ n) (hσ : ∀ j, j ≤ n0 → σ j = σ0 j) (hI : zInv g (false, n, cx, h0)) (hl : zLs σ ρ n (zMof μ).2.2.1 ls lsC) (hst : ∀ v ∈ st, zOk n v)
    (hP1 : va_P D vwCl (zWs κ σ n h0 ++ [(q, en)]) H1) (hD1 : va_D A (zWs κ σ n h0 ++ [(q, en)])) (hS1 : va_S A s.heap H1 locs)
    (q3 : cells + 1 + (zCc r.2 - zCc (false, n + 1, cx, hz h0 (n + 1))) ≤ R.cells) (q4 : slots + N + (zSl r.2 - zSl (false, n + 1, cx, hz h0 (n + 1))) ≤ R.slots) :
    W p l e R s m args below meth c H1 locs (cells + 1) (slots + N) (vx_MQ below (zQc D κ ρ A g σ0 n0 r) (zXc D κ A g σ0 n0 r) args s R.cells R.slots A) (F0 m nx lsC (.ref q :: st.map (zc σ ρ))) := by
  have hws : zWs κ (zNs σ n q) (n + 1) (hz h0 (n + 1)) = zWs κ σ n h0 ++ [(q, en)] := by
    rw [zWs_new (m := 1) hI.1 zNs_old (fun o' _ h2 k => hz_old h2 k)]
    congr 1
    show [(zNs σ n q (n + 1 + 0), zEn κ (zNs σ n q) (hz h0 (n + 1)) (n + 1 + 0))] = _
    rw [Nat.add_zero, zNs_new, hen]
  rw [← hws] at hP1 hD1
  have kk := h.2 p e R s m args below meth c C σ0 n0 (zNs σ n q) H1 locs (cells + 1) (slots + N) lsC (Nat.le_trans hn0 (Nat.le_succ n)) (fun j hj => (zNs_old j (Nat.le_trans hj hn0)).trans (hσ j hj)) hP1 hD1 hS1 (zInv_new hI h156) (zLs_ext zNs_old (Nat.le_succ n) hl) (z_cons (v := (2, (n : Int) + 1)) (show 1 ≤ (n : Int) + 1 ∧ (n : Int) + 1 ≤ ((n + 1 : Nat) : Int) by omega) (fun v hv => zOk_mono (Nat.le_succ n) (hst v hv))) q3 q4
  rw [List.map_cons, z_map_ext zNs_old hst] at kk
  have e5 : zc (zNs σ n q) ρ (2, (n : Int) + 1) = .ref q := by
    show Value.ref (zNs σ n q ((n : Int) + 1).toNat) = _
    rw [show ((n : Int) + 1).toNat = n + 1 by omega, zNs_new]
  rw [e5] at kk
  exact kk
theorem hz_new {h : zH} {n : Nat} (k : Int) : hz h ((n : Int) + 1) ((n : Int) + 1) k = 0 := by unfold hz; rw [if_pos rfl]
theorem zp26 (hd : decode (zB μ) pc = .ok (i, len)) (hf : zFo (zMof μ).1 μ pc len 26 a b i = true) {k : Int} (hk0 : 0 ≤ k) (hk : zK ((n : Int) + 1) = (a.toNat, k.toNat)) (h : zSnd l D κ ρ A g d μ (pc + len) ls ((2, (n : Int) + 1) :: st) (false, n + 1, cx, hz h0 (n + 1)) r) : zSnd l D κ ρ A g d μ pc ls ((0, k) :: st) (false, n, cx, h0) r := by
  refine ⟨⟨Nat.le_trans (Nat.le_succ n) h.1.1, h.1.2⟩, fun p e R s m args below meth c C σ0 n0 σ H locs cells slots lsC hn0 hσ hP hD hS hI hl hst hce hsl => ?_⟩
  obtain ⟨⟨hlt, hx, hb, hml, hown, hts⟩, ⟨hr, hlk, hnm, htb⟩, hK, hKn, hA, hfr, hlo⟩ := id C
  obtain ⟨hkr, hst⟩ := List.forall_mem_cons.mp hst
  have hkr : zr32 k := hkr
  simp only [zFo, Bool.and_eq_true, Bool.or_eq_true, beq_iff_eq, zIe_eq] at hf
  obtain ⟨⟨e1, e2⟩, ha⟩ := hf
  subst e1; subst e2
  have hN : (zK (n + 1 : Nat)).2 = k.toNat := by
    have := congrArg Prod.snd hk
    exact this
  have hk1 : (zK ((n : Int) + 1)).1 = a.toNat := congrArg Prod.fst hk
  have hk2 : (zK ((n : Int) + 1)).2 = k.toNat := congrArg Prod.snd hk
  have hle : k.toNat ≤ 100000 := by rw [← hk2]; exact zLen_le _
  have h156 : n + 1 ≤ 156 := by
    have := zK_bound (r := (n : Int) + 1) (by rw [hk1]; rcases ha with ((q | q) | q) | q <;> rw [q] <;> decide)
    omega
  obtain ⟨q1, q2, q3, q4⟩ := z_cnt hN h.1 hce hsl
  have e4 : ((n : Int) + 1).toNat = n + 1 := by omega
  rcases ha with ((rfl | rfl) | rfl) | rfl
  · refine va_newa (ty := .int) (a0 := (k.toNat, .inl (fun _ => 0))) hx hb (hts _ zwy50) rfl hK hP hD hS hA (fun _ => rfl) (znn hkr hk0) (zclamp hkr) (by show k.toNat * 4 ≤ _; omega) q1 q2 hd ?_
    intro q cA H1 hK1 hP1 hD1 hS1
    have ec : cA = κ 50 := Option.some.inj ((hK1.2 6 _ rfl).2.symm.trans (hK.2 0 _ rfl).2)
    subst ec
    refine z_mk C h hN h156 ?_ hn0 hσ hI hl hst hP1 hD1 hS1 q3 q4
    have := zEn_int (κ := κ) (σ := zNs σ n q) (h := hz h0 ((n : Int) + 1)) (o := (n : Int) + 1) (by omega) hk1 (by decide) (by decide)
    rw [e4, hk2] at this
    rw [this]
    simp only [hz_new]
    rfl
  · refine va_newa (ty := .byte) (a0 := (k.toNat, .inl (fun _ => 0))) hx hb (hts _ zwy51) rfl hK hP hD hS hA (fun _ => rfl) (znn hkr hk0) (zclamp hkr) (by show k.toNat * 1 ≤ _; omega) q1 q2 hd ?_
    intro q cA H1 hK1 hP1 hD1 hS1
    have ec : cA = κ 51 := Option.some.inj ((hK1.2 6 _ rfl).2.symm.trans (hK.2 1 _ rfl).2)
    subst ec
    refine z_mk C h hN h156 ?_ hn0 hσ hI hl hst hP1 hD1 hS1 q3 q4
    have := zEn_int (κ := κ) (σ := zNs σ n q) (h := hz h0 ((n : Int) + 1)) (o := (n : Int) + 1) (by omega) hk1 (by decide) (by decide)
    rw [e4, hk2] at this
    rw [this]
    simp only [hz_new]
    rfl
  · refine va_newa (ty := .boolean) (a0 := (k.toNat, .inl (fun _ => 0))) hx hb (hts _ zwy52) rfl hK hP hD hS hA (fun _ => rfl) (znn hkr hk0) (zclamp hkr) (by show k.toNat * 1 ≤ _; omega) q1 q2 hd ?_
    intro q cA H1 hK1 hP1 hD1 hS1
    have ec : cA = κ 52 := Option.some.inj ((hK1.2 6 _ rfl).2.symm.trans (hK.2 2 _ rfl).2)
    subst ec
    refine z_mk C h hN h156 ?_ hn0 hσ hI hl hst hP1 hD1 hS1 q3 q4
    have := zEn_int (κ := κ) (σ := zNs σ n q) (h := hz h0 ((n : Int) + 1)) (o := (n : Int) + 1) (by omega) hk1 (by decide) (by decide)
    rw [e4, hk2] at this
    rw [this]
    simp only [hz_new]
    rfl
  · refine va_newa (ty := .long) (a0 := (k.toNat, .inr (.inl (fun _ => 0)))) hx hb (hts _ zwy53) rfl hK hP hD hS hA (fun _ => rfl) (znn hkr hk0) (zclamp hkr) (by show k.toNat * 8 ≤ _; omega) q1 q2 hd ?_
    intro q cA H1 hK1 hP1 hD1 hS1
    have ec : cA = κ 53 := Option.some.inj ((hK1.2 6 _ rfl).2.symm.trans (hK.2 3 _ rfl).2)
    subst ec
    refine z_mk C h hN h156 ?_ hn0 hσ hI hl hst hP1 hD1 hS1 q3 q4
    have := zEn_long (κ := κ) (σ := zNs σ n q) (h := hz h0 ((n : Int) + 1)) (o := (n : Int) + 1) (by omega) hk1
    rw [e4, hk2] at this
    rw [this]
    simp only [hz_new]
    rfl
theorem zp27 (hd : decode (zB μ) pc = .ok (i, len)) (hf : zFo (zMof μ).1 μ pc len 27 a b i = true) {k : Int} (hk0 : 0 ≤ k) (hk : zK ((n : Int) + 1) = (55, k.toNat)) (h : zSnd l D κ ρ A g d μ (pc + len) ls ((2, (n : Int) + 1) :: st) (false, n + 1, cx, hz h0 (n + 1)) r) : zSnd l D κ ρ A g d μ pc ls ((0, k) :: st) (false, n, cx, h0) r := by
  refine ⟨⟨Nat.le_trans (Nat.le_succ n) h.1.1, h.1.2⟩, fun p e R s m args below meth c C σ0 n0 σ H locs cells slots lsC hn0 hσ hP hD hS hI hl hst hce hsl => ?_⟩
  obtain ⟨⟨hlt, hx, hb, hml, hown, hts⟩, ⟨hr, hlk, hnm, htb⟩, hK, hKn, hA, hfr, hlo⟩ := id C
  obtain ⟨hkr, hst⟩ := List.forall_mem_cons.mp hst
  have hkr : zr32 k := hkr
  simp only [zFo, Bool.and_eq_true, beq_iff_eq, zIe_eq] at hf
  obtain ⟨⟨e1, e2⟩, e3⟩ := hf
  subst e1; subst e2
  obtain ⟨hw, -⟩ := zEs_in (e := (27, (zMof μ).1, b.toNat, 0)) (by simpa using e3)
  have hN : (zK (n + 1 : Nat)).2 = k.toNat := by
    have := congrArg Prod.snd hk
    exact this
  have hk1 : (zK ((n : Int) + 1)).1 = 55 := congrArg Prod.fst hk
  have hk2 : (zK ((n : Int) + 1)).2 = k.toNat := congrArg Prod.snd hk
  have hle : k.toNat ≤ 100000 := by rw [← hk2]; exact zLen_le _
  have h156 : n + 1 ≤ 156 := by
    have := zK_bound (r := (n : Int) + 1) (by rw [hk1]; decide)
    omega
  obtain ⟨q1, q2, q3, q4⟩ := z_cnt hN h.1 hce hsl
  have e4 : ((n : Int) + 1).toNat = n + 1 := by omega
  refine va_newq (C := "RainWheel$Plan") hx hb hown (hts _ (zGd_in hw rfl)) hKn.2.1.2.2.2.1 hK hP hD hS hA (znn hkr hk0) (zclamp hkr) (by omega) q1 q2 hd ?_
  intro q cA H1 hK1 hP1 hD1 hS1
  have ec : cA = κ 55 := by
    obtain ⟨kA, comp, -, -, -, f1⟩ := (hK1.2 6 _ rfl).2
    obtain ⟨kA', comp', -, -, -, f2⟩ := (hK.2 5 _ rfl).2
    exact Option.some.inj (f1.symm.trans f2)
  subst ec
  refine z_mk C h hN h156 ?_ hn0 hσ hI hl hst hP1 hD1 hS1 q3 q4
  have := zEn_ref (κ := κ) (σ := zNs σ n q) (h := hz h0 ((n : Int) + 1)) (o := (n : Int) + 1) (by omega) hk1 (by decide)
  rw [e4, hk2] at this
  rw [this]
  simp only [hz_new]
  rfl
theorem zp29 (hd : decode (zB μ) pc = .ok (i, len)) (hf : zFo (zMof μ).1 μ pc len 29 a b i = true) {v j o : Int} (hi : zIs o 55) (hiv : zIs v 4) (hj0 : 0 ≤ j) (hj1 : j < (zK o).2) (hS1f : S.1 = false) (h : zSnd l D κ ρ A g d μ (pc + len) ls st (zSet S (hw S.2.2.2 o j v)) r) : zSnd l D κ ρ A g d μ pc ls ((2, v) :: (0, j) :: (2, o) :: st) S r := by
  refine ⟨h.1, fun p e R s m args below meth c C σ0 n0 σ H locs cells slots lsC hn0 hσ hP hD hS hI hl hst hce hsl => ?_⟩
  obtain ⟨⟨hlt, hx, hb, hml, hown, hts⟩, ⟨hr, hlk, hnm, htb⟩, hK, hKn, hA, hfr, hlo⟩ := id C
  obtain ⟨hv, hst⟩ := List.forall_mem_cons.mp hst
  obtain ⟨hj, hst⟩ := List.forall_mem_cons.mp hst
  obtain ⟨ho, hst⟩ := List.forall_mem_cons.mp hst
  have hv : 1 ≤ v ∧ v ≤ S.2.1 := hv
  have hj : zr32 j := hj
  have ho : 1 ≤ o ∧ o ≤ S.2.1 := ho
  have hi : (zK o).1 = 55 := hi
  have hiv : (zK v).1 = 4 := hiv
  simp only [zFo, Bool.and_eq_true, beq_iff_eq, zIe_eq] at hf
  obtain ⟨e1, e2⟩ := hf
  subst e1; subst e2
  have hI1 : zInv g (zSet S (hw S.2.2.2 o j v)) := by
    refine ⟨zRg_set' hI.1 hj0 ?_, fun hS1 => ?_, ?_, hI.2.2.2⟩
    · rw [hi]
      unfold zFits
      rw [if_neg (by omega), if_neg (by omega), if_neg (by omega)]
      exact ⟨by omega, hv.2⟩
    · have hS1 : S.1 = true := hS1
      rw [hS1f] at hS1
      cases hS1
    · show hw S.2.2.2 o j v 0 = g
      rw [hw_0 ho.1]
      exact hI.2.2.1
  have hws : zWs κ σ S.2.1 (hw S.2.2.2 o j v) = (zWs κ σ S.2.1 S.2.2.2).set (o.toNat - 1) (σ o.toNat, .inl (κ 55, (zK o).2, .inr (.inr (.inr (.inr (va_up (fun i : Nat => zOpt σ (S.2.2.2 o i)) j.toNat (some (σ v.toNat)))))))) := by
    rw [zWs_set (h := S.2.2.2) (h' := hw S.2.2.2 o j v) ho.1 ho.2 (fun o' k' hne => by unfold hw; rw [if_neg (fun q => hne q.1)]), zEn_ref ho.1 hi (by omega)]
    have e : (fun i : Nat => zOpt σ (hw S.2.2.2 o j v o i)) = va_up (fun i : Nat => zOpt σ (S.2.2.2 o i)) j.toNat (some (σ v.toNat)) := by
      funext k
      unfold hw va_up
      by_cases t : k = j.toNat
      · rw [if_pos t, if_pos ⟨rfl, by omega⟩]
        unfold zOpt
        rw [if_neg (by omega)]
      · rw [if_neg t, if_neg (by omega)]
    rw [e]
  refine va_astq (r := zT3 4) hx hb hK hP hD hS (o.toNat - 1) 5 (v.toNat - 1) 4 (by rw [zWs_at ho.1 ho.2, zEn_ref ho.1 hi (by omega)]) rfl (by rw [zWs_at hv.1 hv.2, zEn_obj hv.1 hiv (by omega)]) (zcl_at 4 (by omega)) (zvp hj hj0 hj1) hd ?_
  rw [zclamp hj, ← hws]
  intro H1 locs1 hP1 hD1 hS1
  exact h.2 p e R s m args below meth c C σ0 n0 σ H1 locs1 cells slots lsC hn0 hσ hP1 hD1 hS1 hI1 hl hst hce hsl
end ZT
