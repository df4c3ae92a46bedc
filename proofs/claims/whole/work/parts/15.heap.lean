/-! instructions that read and write objects and arrays -/
def zTys (κ : Nat → ClassId) : List (ClassId × FieldType) := [(κ 50, .int), (κ 51, .byte), (κ 52, .boolean), (κ 53, .long), (κ 54, .array .int), (κ 55, .object "RainWheel$Plan")]
theorem zGd_lay {ci : Nat} (hc : ci < 11) : ∀ w ∈ u_ws (zT3 ci).1 (zT3 ci).2.1 (zT3 ci).2.2, w ∈ zGd := by
  intro w hw
  refine zGd_in (zin hc w hw) ?_
  unfold u_ws at hw
  obtain ⟨k, -, e⟩ := List.mem_map.mp hw
  rw [← e]
  unfold u_lay
  split <;> rfl
theorem z_mapset {α : Type} {N k : Nat} {f f' : Nat → α} (hk : k < N) (h : ∀ j, j ≠ k → f' j = f j) : (List.range N).map f' = ((List.range N).map f).set k (f' k) := by
  apply List.ext_getElem?
  intro j
  by_cases hj : j < N
  · rw [List.getElem?_map, List.getElem?_range hj]
    by_cases e : j = k
    · subst e
      rw [List.getElem?_set_self (by simpa using hj)]
      rfl
    · rw [List.getElem?_set_ne (Ne.symm e), List.getElem?_map, List.getElem?_range hj]
      show some (f' j) = some (f j)
      rw [h j e]
  · rw [List.getElem?_eq_none (by simpa using hj), List.getElem?_eq_none (by simpa using hj)]
theorem z_upd {h : zH} {o i : Int} (hi : 0 ≤ i) {v : Int} : (fun j : Nat => Int32.ofInt (hw h o i v o j)) = upd (fun j : Nat => Int32.ofInt (h o j)) i.toNat (Int32.ofInt v) := by
  funext j
  unfold hw upd
  by_cases e : j = i.toNat
  · rw [if_pos e, if_pos ⟨rfl, by omega⟩]
  · rw [if_neg e, if_neg (by omega)]
theorem z_updL {h : zH} {o i : Int} (hi : 0 ≤ i) {v : Int} : (fun j : Nat => Int64.ofInt (hw h o i v o j)) = vp_updL (fun j : Nat => Int64.ofInt (h o j)) i.toNat (Int64.ofInt v) := by
  funext j
  unfold hw vp_updL
  by_cases e : j = i.toNat
  · rw [if_pos e, if_pos ⟨rfl, by omega⟩]
  · rw [if_neg e, if_neg (by omega)]
theorem z_nar8 {v : Int} (h1 : -128 ≤ v) (h2 : v ≤ 127) : vp_nar .byte (Int32.ofInt v) = Int32.ofInt v := by
  rw [vp_nar_byte, zi2b (by unfold zr32; omega)]
  congr 1
  omega
theorem z_narZ {v : Int} (h : v = 0 ∨ v = 1) : vp_nar .boolean (Int32.ofInt v) = Int32.ofInt v := by
  rcases h with rfl | rfl <;> decide
section ZH
variable {p : Program} {l : Launch} {e : Env} {R : Room} {s : State} {m : MethodId} {args : Array Value} {below : List Frame} {meth : Method} {c : Code} {H : Heap} {locs : List Loc} {cells slots : Nat} {Q : State → Prop}
variable {κ : Nat → ClassId} {σ ρ : Nat → Nat} {n : Nat} {h : zH} {ls : Array Slot} {rest : List Value} {own μ pc len : Nat} {a b : Int} {i : Instr} {cc : ByteArray} {D : va_G} {A : Nat → Prop}
theorem zs19 (hx : p.tables.exec = Jvm.exec) (hb : c.code = cc) (hown : s.vm.findClass (zOwnL.getD own "") = some m.cls) (hts : ∀ w ∈ zGd, w.before args s = true) (hd : decode cc pc = .ok (i, len)) (hf : zFo own μ pc len 19 a b i = true)
    (hK : va_K D vwCl (zTys κ) s) (hP : va_P D vwCl (zWs κ σ n h) H) {o : Int} (h1 : 1 ≤ o) (h2 : o ≤ n) (hi : (zK o).1 = a.toNat)
    (k : W p l e R s m args below meth c H locs cells slots Q (F0 m (pc + len) ls (zFv σ (zTy a.toNat b.toNat) (h o b) :: rest))) : W p l e R s m args below meth c H locs cells slots Q (F0 m pc ls (.ref (σ o.toNat) :: rest)) := by
  simp only [zFo, Bool.and_eq_true, beq_iff_eq, decide_eq_true_eq] at hf
  obtain ⟨⟨e1, hb0⟩, hf⟩ := hf
  subst e1
  split at hf
  · rename_i x
    obtain ⟨hw, hc, hk⟩ := zFs_in (e := (own, x, a.toNat, b.toNat)) (by simpa using hf)
    dsimp only at hw hc hk
    obtain ⟨-, -, hdecl, -, -⟩ := zcf hc hk
    obtain ⟨-, hN⟩ := zKN hi (by omega)
    refine va_get (ref := (zT3 a.toNat).1) (v := zFv σ (zTy a.toNat b.toNat) (h o b)) hx hb hts (zGd_lay hc) hown hK hP (o.toNat - 1) (by rw [zWs_at h1 h2, zEn_obj h1 hi (by omega)]) (zcl_at _ hc) b.toNat hk (hts _ (zGd_in hw rfl)) (fun y hy => by rw [hdecl] at hy; exact hy) ?_ hd k
    rw [List.getElem?_map, List.getElem?_range (by omega)]
    show some (zFv σ (zTy a.toNat b.toNat) (h o (b.toNat : Int))) = _
    rw [show ((b.toNat : Nat) : Int) = b by omega]
  · cases hf
theorem zs20 (hx : p.tables.exec = Jvm.exec) (hb : c.code = cc) (hown : s.vm.findClass (zOwnL.getD own "") = some m.cls) (hts : ∀ w ∈ zGd, w.before args s = true) (hd : decode cc pc = .ok (i, len)) (hf : zFo own μ pc len 20 a b i = true)
    (hpf : ((zT3 a.toNat).2.1 b.toNat).2.2.2 = true → meth.name = "<init>" ∧ (zT3 a.toNat).1 = zOwnL.getD own "")
    (hK : va_K D vwCl (zTys κ) s) (hP : va_P D vwCl (zWs κ σ n h) H) (hD : va_D A (zWs κ σ n h)) {H0 : Heap} (hS : va_S A H0 H locs) {o : Int} (h1 : 1 ≤ o) (h2 : o ≤ n) (hi : (zK o).1 = a.toNat) {v : zV} (hv : v.1 = if zTy a.toNat b.toNat = 2 then 2 else 0) (hv0 : v.1 = 2 → v.2 ≠ 0) (hz : zTy a.toNat b.toNat = 1 → v.2 = 0 ∨ v.2 = 1)
    (k : ∀ (H1 : Heap) (locs1 : List Loc), va_P D vwCl (zWs κ σ n (hw h o b v.2)) H1 → va_D A (zWs κ σ n (hw h o b v.2)) → va_S A H0 H1 locs1 → W p l e R s m args below meth c H1 locs1 cells slots Q (F0 m (pc + len) ls rest)) : W p l e R s m args below meth c H locs cells slots Q (F0 m pc ls (zc σ ρ v :: .ref (σ o.toNat) :: rest)) := by
  simp only [zFo, Bool.and_eq_true, beq_iff_eq, decide_eq_true_eq] at hf
  obtain ⟨⟨e1, hb0⟩, hf⟩ := hf
  subst e1
  split at hf
  · rename_i x
    obtain ⟨hw1, hc, hk⟩ := zFs_in (e := (own, x, a.toNat, b.toNat)) (by simpa using hf)
    dsimp only at hw1 hc hk
    obtain ⟨-, hparse, hdecl, hty, -⟩ := zcf hc hk
    obtain ⟨-, hN⟩ := zKN hi (by omega)
    have hzc : zc σ ρ v = zFv σ (zTy a.toNat b.toNat) v.2 := by
      obtain ⟨t, y⟩ := v
      dsimp only at hv hv0 ⊢
      unfold zFv
      by_cases e2 : zTy a.toNat b.toNat = 2
      · rw [if_pos e2] at hv ⊢
        subst hv
        unfold zOpt
        rw [if_neg (hv0 rfl)]
        rfl
      · rw [if_neg e2] at hv ⊢
        subst hv
        rfl
    have hset : (zWs κ σ n h).set (o.toNat - 1) (σ o.toNat, .inr (a.toNat, ((List.range (zK o).2).map (fun (k : Nat) => zFv σ (zTy a.toNat k) (h o k))).set b.toNat (zc σ ρ v))) = zWs κ σ n (hw h o b v.2) := by
      rw [zWs_set (h := h) (h' := hw h o b v.2) h1 h2 (fun o' k' hne => by unfold hw; rw [if_neg (fun q => hne q.1)]), zEn_obj h1 hi (by omega)]
      rw [z_mapset (f := fun (k : Nat) => zFv σ (zTy a.toNat k) (h o k)) (f' := fun (k : Nat) => zFv σ (zTy a.toNat k) (hw h o b v.2 o k)) (k := b.toNat) (by omega) (fun j hj => by unfold hw; rw [if_neg (by omega)])]
      congr 5
      rw [hzc]
      unfold hw
      rw [if_pos ⟨rfl, by omega⟩]
    have hnf : narrow (zTf a.toNat b.toNat) (zc σ ρ v) = zc σ ρ v ∧ fits (zTf a.toNat b.toNat) (zc σ ρ v) = true := by
      rw [hzc]
      unfold zFv
      rcases hty with ⟨t1, t2⟩ | ⟨t1, t2⟩ | ⟨t1, t2⟩
      · rw [if_neg (by omega), t2]
        exact ⟨rfl, rfl⟩
      · rw [if_neg (by omega), t2]
        rcases hz t1 with q | q <;> rw [q] <;> exact ⟨by decide, by decide⟩
      · rw [if_pos t1]
        rw [if_pos t1] at hv
        unfold zOpt
        rw [if_neg (hv0 hv)]
        cases htf : zTf a.toNat b.toNat <;> rw [htf] at t2 <;> first | exact ⟨rfl, rfl⟩ | cases t2
    have kk : ∀ (H1 : Heap) (locs1 : List Loc), va_P D vwCl ((zWs κ σ n h).set (o.toNat - 1) (σ o.toNat, .inr (a.toNat, ((List.range (zK o).2).map (fun (k : Nat) => zFv σ (zTy a.toNat k) (h o k))).set b.toNat (zc σ ρ v)))) H1 → va_D A ((zWs κ σ n h).set (o.toNat - 1) (σ o.toNat, .inr (a.toNat, ((List.range (zK o).2).map (fun (k : Nat) => zFv σ (zTy a.toNat k) (h o k))).set b.toNat (zc σ ρ v)))) → va_S A H0 H1 locs1 → W p l e R s m args below meth c H1 locs1 cells slots Q (F0 m (pc + 3) ls rest) := by
      rw [hset]
      exact k
    cases hfin : ((zT3 a.toNat).2.1 b.toNat).2.2.2 with
    | false =>
      exact va_put (ref := (zT3 a.toNat).1) (ty := zTf a.toNat b.toNat) hx hb hts (zGd_lay hc) (zTf a.toNat) (fun k hk => (zcf hc hk).2.1) (znm _ hc) hown hK hP hD hS (o.toNat - 1) (by rw [zWs_at h1 h2, zEn_obj h1 hi (by omega)]) (zcl_at _ hc) b.toNat hk (hts _ (zGd_in hw1 rfl)) (fun y hy => by rw [hdecl] at hy; exact hy) hfin hparse hnf.1 hnf.2 (by simp; omega) hd kk
    | true =>
      obtain ⟨hin1, hin2⟩ := hpf hfin
      exact va_putF (ref := (zT3 a.toNat).1) (ty := zTf a.toNat b.toNat) hx hb hts (zGd_lay hc) (zTf a.toNat) (fun k hk => (zcf hc hk).2.1) (znm _ hc) hown hK hP hD hS (o.toNat - 1) (by rw [zWs_at h1 h2, zEn_obj h1 hi (by omega)]) (zcl_at _ hc) b.toNat hk (hts _ (zGd_in hw1 rfl)) (fun y hy => by rw [hdecl] at hy; exact hy) hfin hin1 (hdecl.trans hin2) hparse hnf.1 hnf.2 (by simp; omega) hd kk
  · cases hf
theorem zs21 (hx : p.tables.exec = Jvm.exec) (hb : c.code = cc) (hd : decode cc pc = .ok (i, len)) (hf : zFo own μ pc len 21 a b i = true)
    (hK : va_K D vwCl (zTys κ) s) (hP : va_P D vwCl (zWs κ σ n h) H) {o : Int} (h1 : 1 ≤ o) (h2 : o ≤ n) (h50 : 50 ≤ (zK o).1) (h55 : (zK o).1 ≤ 55)
    (k : W p l e R s m args below meth c H locs cells slots Q (F0 m (pc + len) ls (.int (Int32.ofInt (zK o).2) :: rest))) : W p l e R s m args below meth c H locs cells slots Q (F0 m pc ls (.ref (σ o.toNat) :: rest)) := by
  simp only [zFo, Bool.and_eq_true, beq_iff_eq, zIe_eq] at hf
  obtain ⟨e1, e2⟩ := hf
  subst e1; subst e2
  have hv : Int32.ofNat (zK o).2 = Int32.ofInt ((zK o).2 : Int) := Int32.ofInt_eq_ofNat.symm
  generalize hc : (zK o).1 = ci at h50 h55
  have hcc : ci = 50 ∨ ci = 51 ∨ ci = 52 ∨ ci = 53 ∨ ci = 54 ∨ ci = 55 := by omega
  rcases hcc with rfl | rfl | rfl | rfl | rfl | rfl
  · exact va_alen hx hb hK hP (o.toNat - 1) 0 (by rw [zWs_at h1 h2, zEn_int h1 hc (by omega) (by omega)]) (ty := .int) rfl hv hd k
  · exact va_alen hx hb hK hP (o.toNat - 1) 1 (by rw [zWs_at h1 h2, zEn_int h1 hc (by omega) (by omega)]) (ty := .byte) rfl hv hd k
  · exact va_alen hx hb hK hP (o.toNat - 1) 2 (by rw [zWs_at h1 h2, zEn_int h1 hc (by omega) (by omega)]) (ty := .boolean) rfl hv hd k
  · exact va_alen hx hb hK hP (o.toNat - 1) 3 (by rw [zWs_at h1 h2, zEn_long h1 hc]) (ty := .long) rfl hv hd k
  · exact va_alen hx hb hK hP (o.toNat - 1) 4 (by rw [zWs_at h1 h2, zEn_ref h1 hc (by omega)]) (ty := .array .int) rfl hv hd k
  · exact va_alen hx hb hK hP (o.toNat - 1) 5 (by rw [zWs_at h1 h2, zEn_ref h1 hc (by omega)]) (ty := .object "RainWheel$Plan") rfl hv hd k
theorem zs22 (hx : p.tables.exec = Jvm.exec) (hb : c.code = cc) (hd : decode cc pc = .ok (i, len)) (hf : zFo own μ pc len 22 a b i = true)
    (hK : va_K D vwCl (zTys κ) s) (hP : va_P D vwCl (zWs κ σ n h) H) {o j : Int} (h1 : 1 ≤ o) (h2 : o ≤ n) (hi : zIs o a.toNat ∨ a = 51 ∧ zIs o 52) (hj : zr32 j) (hj0 : 0 ≤ j) (hj1 : j < (zK o).2)
    (k : W p l e R s m args below meth c H locs cells slots Q (F0 m (pc + len) ls (zc σ ρ ((if a = 53 then 1 else 0), h o j) :: rest))) : W p l e R s m args below meth c H locs cells slots Q (F0 m pc ls (.int (Int32.ofInt j) :: .ref (σ o.toNat) :: rest)) := by
  simp only [zFo, Bool.and_eq_true, Bool.or_eq_true, beq_iff_eq, zIe_eq] at hf
  obtain ⟨e2, hf⟩ := hf
  subst e2
  unfold zIs at hi
  have hjn : ((j.toNat : Nat) : Int) = j := by omega
  have hin := zvp hj hj0 hj1
  obtain ((⟨e1, rfl⟩ | ⟨e1, rfl⟩) | ⟨e1, rfl⟩) := hf <;> subst e1
  · have hi : (zK o).1 = 50 := by rcases hi with q | q; exact q; exact absurd q.1 (by decide)
    refine va_iald hx hb hK hP (o.toNat - 1) 0 (by rw [zWs_at h1 h2, zEn_int h1 hi (by omega) (by omega)]) rfl hin hd ?_
    rw [zclamp hj, hjn]
    exact k
  · rcases hi with hi | ⟨-, hi⟩
    · have hi : (zK o).1 = 51 := hi
      refine va_bald hx hb hK hP (o.toNat - 1) 1 (by rw [zWs_at h1 h2, zEn_int h1 hi (by omega) (by omega)]) rfl hin hd ?_
      rw [zclamp hj, hjn]
      exact k
    · refine va_zald hx hb hK hP (o.toNat - 1) 2 (by rw [zWs_at h1 h2, zEn_int h1 hi (by omega) (by omega)]) rfl hin hd ?_
      rw [zclamp hj, hjn]
      exact k
  · have hi : (zK o).1 = 53 := by rcases hi with q | q; exact q; exact absurd q.1 (by decide)
    refine va_lald hx hb hK hP (o.toNat - 1) 3 (by rw [zWs_at h1 h2, zEn_long h1 hi]) rfl hin hd ?_
    rw [zclamp hj, hjn]
    exact k
theorem zs23 (hx : p.tables.exec = Jvm.exec) (hb : c.code = cc) (hd : decode cc pc = .ok (i, len)) (hf : zFo own μ pc len 23 a b i = true)
    (hK : va_K D vwCl (zTys κ) s) (hP : va_P D vwCl (zWs κ σ n h) H) (hD : va_D A (zWs κ σ n h)) {H0 : Heap} (hS : va_S A H0 H locs) {o j : Int} {v : zV} (h1 : 1 ≤ o) (h2 : o ≤ n) (hv : v.1 = if a = 53 then 1 else 0) (hi : zIs o a.toNat ∨ a = 51 ∧ zIs o 52 ∧ (v.2 = 0 ∨ v.2 = 1)) (hby : zIs o 51 → -128 ≤ v.2 ∧ v.2 ≤ 127) (hj : zr32 j) (hj0 : 0 ≤ j) (hj1 : j < (zK o).2)
    (k : ∀ (H1 : Heap) (locs1 : List Loc), va_P D vwCl (zWs κ σ n (hw h o j v.2)) H1 → va_D A (zWs κ σ n (hw h o j v.2)) → va_S A H0 H1 locs1 → W p l e R s m args below meth c H1 locs1 cells slots Q (F0 m (pc + len) ls rest)) : W p l e R s m args below meth c H locs cells slots Q (F0 m pc ls (zc σ ρ v :: .int (Int32.ofInt j) :: .ref (σ o.toNat) :: rest)) := by
  simp only [zFo, Bool.and_eq_true, Bool.or_eq_true, beq_iff_eq, zIe_eq] at hf
  obtain ⟨e2, hf⟩ := hf
  subst e2
  unfold zIs at hi hby
  obtain ⟨t, y⟩ := v
  dsimp only at hv hi hby k
  have hin := zvp hj hj0 hj1
  have hws : ∀ en, zEn κ σ (hw h o j y) o.toNat = en → zWs κ σ n (hw h o j y) = (zWs κ σ n h).set (o.toNat - 1) (σ o.toNat, en) := by
    intro en q
    rw [zWs_set (h := h) (h' := hw h o j y) h1 h2 (fun o' k' hne => by unfold hw; rw [if_neg (fun q => hne q.1)]), q]
  obtain ((⟨e1, rfl⟩ | ⟨e1, rfl⟩) | ⟨e1, rfl⟩) := hf <;> subst e1
  · have hi : (zK o).1 = 50 := by rcases hi with q | q; exact q; exact absurd q.1 (by decide)
    have hv : t = 0 := hv
    subst hv
    refine va_iast hx hb hK hP hD hS (o.toNat - 1) 0 (by rw [zWs_at h1 h2, zEn_int h1 hi (by omega) (by omega)]) rfl hin hd ?_
    rw [zclamp hj, ← z_upd hj0, ← hws _ (zEn_int h1 hi (by omega) (by omega))]
    exact k
  · have hv : t = 0 := hv
    subst hv
    rcases hi with hi | ⟨-, hi, hz⟩
    · have hi : (zK o).1 = 51 := hi
      refine va_bast hx hb hK hP hD hS (o.toNat - 1) 1 (by rw [zWs_at h1 h2, zEn_int h1 hi (by omega) (by omega)]) rfl hin hd ?_
      rw [zclamp hj, z_nar8 (hby hi).1 (hby hi).2, ← z_upd hj0, ← hws _ (zEn_int h1 hi (by omega) (by omega))]
      exact k
    · refine va_zast hx hb hK hP hD hS (o.toNat - 1) 2 (by rw [zWs_at h1 h2, zEn_int h1 hi (by omega) (by omega)]) rfl hin hd ?_
      rw [zclamp hj, z_narZ hz, ← z_upd hj0, ← hws _ (zEn_int h1 hi (by omega) (by omega))]
      exact k
  · have hi : (zK o).1 = 53 := by rcases hi with q | q; exact q; exact absurd q.1 (by decide)
    have hv : t = 1 := hv
    subst hv
    refine va_last hx hb hK hP hD hS (o.toNat - 1) 3 (by rw [zWs_at h1 h2, zEn_long h1 hi]) rfl hin hd ?_
    rw [zclamp hj, ← z_updL hj0, ← hws _ (zEn_long h1 hi)]
    exact k
theorem zs24 (hx : p.tables.exec = Jvm.exec) (hb : c.code = cc) (hd : decode cc pc = .ok (i, len)) (hf : zFo own μ pc len 24 a b i = true)
    (hK : va_K D vwCl (zTys κ) s) (hP : va_P D vwCl (zWs κ σ n h) H) {o j : Int} (h1 : 1 ≤ o) (h2 : o ≤ n) (hi : zIs o 54 ∨ zIs o 55) (hj : zr32 j) (hj0 : 0 ≤ j) (hj1 : j < (zK o).2) (hne : h o j ≠ 0)
    (k : W p l e R s m args below meth c H locs cells slots Q (F0 m (pc + len) ls (.ref (σ (h o j).toNat) :: rest))) : W p l e R s m args below meth c H locs cells slots Q (F0 m pc ls (.int (Int32.ofInt j) :: .ref (σ o.toNat) :: rest)) := by
  simp only [zFo, Bool.and_eq_true, beq_iff_eq, zIe_eq] at hf
  obtain ⟨e1, e2⟩ := hf
  subst e1; subst e2
  unfold zIs at hi
  have hjn : ((j.toNat : Nat) : Int) = j := by omega
  have hin := zvp hj hj0 hj1
  have hrf : va_rf (zOpt σ (h o j)) = .ref (σ (h o j).toNat) := by
    unfold zOpt
    rw [if_neg hne]
    rfl
  rcases hi with hi | hi
  · have hlt : (Int32.ofInt j).toNatClampNeg < (zK o).2 := by rw [zclamp hj]; omega
    have hcell := hP (o.toNat - 1) _ (zWs_at (κ := κ) (σ := σ) (h := h) h1 h2)
    rw [zEn_ref h1 hi (by omega)] at hcell
    refine W.aald (v := .ref (σ (h o j).toNat)) (ty := .array .int) hx hb hcell ((hK.2 4 _ rfl).1 _ (fun q => va_rf (zOpt σ (h o q)))) rfl (fun q => by cases q) (by show ¬ (_ < 0 ∨ (arrV _ _ _).slots.size ≤ _); rw [arrV_size]; exact hin) ?_ rfl rfl hd k
    show (arrV _ _ _).slots[_]? = _
    rw [arrV_read _ _ hlt, zclamp hj]
    dsimp only
    rw [hjn, hrf]
  · refine va_aldq hx hb hK hP (o.toNat - 1) 5 (by rw [zWs_at h1 h2, zEn_ref h1 hi (by omega)]) rfl hin hd ?_
    rw [zclamp hj, hjn, hrf]
    exact k
end ZH
