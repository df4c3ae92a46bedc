theorem z_catsum (σ ρ : Nat → Nat) (st : List zV) : ((st.map (zc σ ρ)).map fun v => v.category).sum = (st.map zcat).sum := by
  rw [List.map_map]
  congr 1
  apply List.map_congr_left
  intro v _
  exact zc_cat σ ρ v
set_option maxRecDepth 100000 in
theorem zwo1 : Cond.instanceMethod Lib.objectInit ∈ zGd := zGd_in (zch0 (List.mem_of_getElem? (i := 32) rfl)) rfl
set_option maxRecDepth 100000 in
theorem zwo2 : Cond.code Lib.objectInit ⟨#[0xb1]⟩ 1 none ∈ zGd := zGd_in (zch0 (List.mem_of_getElem? (i := 33) rfl)) rfl
set_option maxRecDepth 100000 in
theorem zwm0 : Cond.static Lib.Math.max.name ∈ zGd ∧ Cond.code Lib.Math.max.name Lib.Math.max.code 2 (some .int) ∈ zGd := ⟨zGd_in (zch1 (List.mem_of_getElem? (i := 197) rfl)) rfl, zGd_in (zch1 (List.mem_of_getElem? (i := 198) rfl)) rfl⟩
set_option maxRecDepth 100000 in
theorem zwm1 : Cond.static Lib.Math.min.name ∈ zGd ∧ Cond.code Lib.Math.min.name Lib.Math.min.code 2 (some .int) ∈ zGd := ⟨zGd_in (zch1 (List.mem_of_getElem? (i := 216) rfl)) rfl, zGd_in (zch1 (List.mem_of_getElem? (i := 217) rfl)) rfl⟩
set_option maxRecDepth 100000 in
theorem zwm2 : Cond.static Lib.Math.abs.name ∈ zGd ∧ Cond.code Lib.Math.abs.name Lib.Math.abs.code 1 (some .int) ∈ zGd := ⟨zGd_in (zch4 (List.mem_of_getElem? (i := 223) rfl)) rfl, zGd_in (zch4 (List.mem_of_getElem? (i := 224) rfl)) rfl⟩
set_option maxRecDepth 100000 in
theorem zwm3 : Cond.initialized "java/lang/Math" ∈ zGd := zGd_in (zch0 (List.mem_of_getElem? (i := 13) rfl)) rfl
set_option maxRecDepth 100000 in
theorem zwa : Cond.static arraycopyName ∈ zGd ∧ Cond.native arraycopyName ∈ zGd ∧ Cond.initialized "java/lang/System" ∈ zGd := ⟨zGd_in (zch2 (List.mem_of_getElem? (i := 83) rfl)) rfl, zGd_in (zch2 (List.mem_of_getElem? (i := 84) rfl)) rfl, zGd_in (zch0 (List.mem_of_getElem? (i := 25) rfl)) rfl⟩
theorem zSs_ok : ∀ e ∈ zSs, e.2.2 < zStr.length ∧ (zStrO.getD e.2.2 ("", 0, "")).1 = zOwnL.getD e.1 "" ∧ (zStrO.getD e.2.2 ("", 0, "")).2.1 = e.2.1 := by decide +kernel
theorem zE31 : ∀ e ∈ zEs, e.1 = 31 → zOwnL.getD e.2.1 "" = "RainWheel$Road" ∧ e.2.2.1 = 9 := by decide +kernel
section ZL
variable {p : Program} {l : Launch} {e : Env} {R : Room} {s : State} {m : MethodId} {args : Array Value} {below : List Frame} {meth : Method} {c : Code} {H : Heap} {locs : List Loc} {cells slots : Nat} {Q : State → Prop} {cc : ByteArray} {pc : Nat} {ls : Array Slot} {rest : List Value}
theorem z_ldcwS (hexec : p.tables.exec = Jvm.exec) (hb : c.code = cc) {own tx : String} {index q : Nat} (hown : s.vm.findClass own = some m.cls) (hZ : vk_R own index tx q s) (hdg : decode cc pc = .ok (.ldc_w index, 3))
    (k : W p l e R s m args below meth c H locs cells slots Q (F0 m (pc + 3) ls (.ref q :: rest))) : W p l e R s m args below meth c H locs cells slots Q (F0 m pc ls rest) := by
  intro T hT X
  obtain ⟨t, a1, b1⟩ := k T hT X
  exact ⟨t, X.ldcStringW hexec hown (text := tx) (index := index) (a := q) hZ.1 hZ.2 (g := F0 m pc ls rest) rfl (by rw [hb]; exact hdg) t a1, b1⟩
end ZL
section ZT
variable {l : Launch} {D : va_G} {κ : Nat → ClassId} {ρ : Nat → Nat} {A : Nat → Prop} {g : Int → Int} {d μ pc len : Nat} {a b : Int} {ls st : List zV} {S : zS} {r : zO} {i : Instr}
theorem zp3 (hd : decode (zB μ) pc = .ok (i, len)) (hf : zFo (zMof μ).1 μ pc len 3 a b i = true)  (h : zSnd l D κ ρ A g d μ (pc + len) ls ((5, a) :: st) S r) : zSnd l D κ ρ A g d μ pc ls st S r := by
  refine ⟨h.1, fun p e R s m args below meth c C σ0 n0 σ H locs cells slots lsC hn0 hσ hP hD hS hI hl hst hce hsl => ?_⟩
  obtain ⟨⟨hlt, hx, hb, hml, hown, hts⟩, ⟨hr, hlk, hnm, htb⟩, hK, hKn, hA, hfr, hlo⟩ := id C
  have hf' := hf
  simp only [zFo, Bool.and_eq_true, Bool.or_eq_true, beq_iff_eq, zIe_eq, decide_eq_true_eq] at hf'
  obtain ⟨⟨ha0, hin⟩, hii⟩ := hf'
  have hin : ((zMof μ).1, b.toNat, a.toNat) ∈ zSs := by simpa using hin
  obtain ⟨hj, hs1, hs2⟩ := zSs_ok _ hin
  dsimp only at hj hs1 hs2
  have kk := h.2 p e R s m args below meth c C σ0 n0 σ H locs cells slots lsC hn0 hσ hP hD hS hI hl (z_cons (v := (5, a)) (show 0 ≤ a ∧ a.toNat < zStr.length from ⟨ha0, hj⟩) hst) hce hsl
  have hR := ((hKn.2.2.1) a.toNat hj).1
  rw [hs1, hs2] at hR
  rcases hii with ⟨e1, e2⟩ | ⟨e1, e2⟩ <;> subst e1 <;> subst e2
  · exact va_ldcS hx hb hown hR hd kk
  · exact z_ldcwS hx hb hown hR hd kk
theorem zp30 (hd : decode (zB μ) pc = .ok (i, len)) (hf : zFo (zMof μ).1 μ pc len 30 a b i = true) {o : Int} (hcat : (st.map zcat).sum ≤ 8) (h : zSnd l D κ ρ A g d μ (pc + len) ls st S r) : zSnd l D κ ρ A g d μ pc ls ((2, o) :: st) S r := by
  refine ⟨h.1, fun p e R s m args below meth c C σ0 n0 σ H locs cells slots lsC hn0 hσ hP hD hS hI hl hst hce hsl => ?_⟩
  obtain ⟨⟨hlt, hx, hb, hml, hown, hts⟩, ⟨hr, hlk, hnm, htb⟩, hK, hKn, hA, hfr, hlo⟩ := id C
  obtain ⟨h1, hst⟩ := List.forall_mem_cons.mp hst
  have kk := h.2 p e R s m args below meth c C σ0 n0 σ H locs cells slots lsC hn0 hσ hP hD hS hI hl hst hce hsl
  simp only [zFo, Bool.and_eq_true, beq_iff_eq, zIe_eq] at hf
  obtain ⟨⟨e1, e2⟩, e3⟩ := hf
  subst e1; subst e2
  have hw := (zEs_in (e := (30, (zMof μ).1, b.toNat, 0)) (by simpa using e3)).1
  have hrm : 2 * (F0 m pc lsC ((zc σ ρ (2, o)) :: st.map (zc σ ρ))).monitorRoom + ((st.map (zc σ ρ)).map fun v => v.category).sum ≤ 8 := lv_room (by rw [z_catsum]; exact hcat)
  exact W.objInit hx hb hown (hts _ (zGd_in hw rfl)) (hts _ zwo1) (hts _ zwo2) (g := F0 m pc lsC ((zc σ ρ (2, o)) :: st.map (zc σ ρ))) rfl (hl.2.1.1.trans hml.symm) rfl hd (by omega) (by omega) kk
theorem zp31 (hd : decode (zB μ) pc = .ok (i, len)) (hf : zFo (zMof μ).1 μ pc len 31 a b i = true)  (h : zSnd l D κ ρ A g d μ (pc + len) ls ((4, 1) :: st) S r) : zSnd l D κ ρ A g d μ pc ls st S r := by
  refine ⟨h.1, fun p e R s m args below meth c C σ0 n0 σ H locs cells slots lsC hn0 hσ hP hD hS hI hl hst hce hsl => ?_⟩
  obtain ⟨⟨hlt, hx, hb, hml, hown, hts⟩, ⟨hr, hlk, hnm, htb⟩, hK, hKn, hA, hfr, hlo⟩ := id C
  have kk := h.2 p e R s m args below meth c C σ0 n0 σ H locs cells slots lsC hn0 hσ hP hD hS hI hl (z_cons (v := (4, 1)) (Or.inr rfl) hst) hce hsl
  simp only [zFo, Bool.and_eq_true, beq_iff_eq, zIe_eq] at hf
  obtain ⟨⟨e1, e2⟩, e3⟩ := hf
  subst e1; subst e2
  obtain ⟨q1, q2⟩ := zE31 _ (show (31, (zMof μ).1, b.toNat, 0) ∈ zEs by simpa using e3) rfl
  dsimp only at q1 q2
  have hown' : s.vm.findClass "RainWheel$Road" = some m.cls := by
    have := hown
    rw [q1] at this
    exact this
  rw [q2] at hd
  exact va_getsN hx hb hKn.1.2.1 hS hown' (va_Nw.use rfl hKn.2.1.2.1) (fun x hx => hx) hd kk
theorem zp35 (hd : decode (zB μ) pc = .ok (i, len)) (hf : zFo (zMof μ).1 μ pc len 35 a b i = true) (ha : a ≠ 2) {x y : Int} (hcat : (st.map zcat).sum ≤ 8) (h : zSnd l D κ ρ A g d μ (pc + len) ls ((0, zMath a.toNat x y) :: st) S r) : zSnd l D κ ρ A g d μ pc ls ((0, y) :: (0, x) :: st) S r := by
  refine ⟨h.1, fun p e R s m args below meth c C σ0 n0 σ H locs cells slots lsC hn0 hσ hP hD hS hI hl hst hce hsl => ?_⟩
  obtain ⟨⟨hlt, hx, hb, hml, hown, hts⟩, ⟨hr, hlk, hnm, htb⟩, hK, hKn, hA, hfr, hlo⟩ := id C
  obtain ⟨h2, hst⟩ := List.forall_mem_cons.mp hst
  obtain ⟨h1, hst⟩ := List.forall_mem_cons.mp hst
  have h1 : zr32 x := h1
  have h2 : zr32 y := h2
  have hr0 : zr32 (zMath a.toNat x y) := by
    unfold zMath
    split <;> (split <;> assumption)
  have kk := h.2 p e R s m args below meth c C σ0 n0 σ H locs cells slots lsC hn0 hσ hP hD hS hI hl (z_cons (v := (0, zMath a.toNat x y)) hr0 hst) hce hsl
  have hcs : ((st.map (zc σ ρ)).map fun v => v.category).sum ≤ 8 := by rw [z_catsum]; exact hcat
  simp only [zFo, Bool.and_eq_true, beq_iff_eq, zIe_eq, decide_eq_true_eq] at hf
  obtain ⟨⟨⟨⟨e1, e2⟩, e3⟩, e4⟩, e5⟩ := hf
  subst e1; subst e2
  have hw := (zEs_in (e := (35, (zMof μ).1, b.toNat, a.toNat)) (by simpa using e3)).1
  have hms : c.maxLocals = lsC.size := hml.trans hl.2.1.1.symm
  obtain ⟨j, rfl⟩ : ∃ j : Nat, a = (j : Int) := ⟨a.toNat, by omega⟩
  have hj : j = 0 ∨ j = 1 := by omega
  rcases hj with rfl | rfl
  · refine va_mmax hx hb hms hown (hts _ (zGd_in hw rfl)) (hts _ zwm0.1) (hts _ zwm3) (hts _ zwm0.2) (by omega) (by omega) (by omega) (by omega) hd ?_
    have e : (if Int32.ofInt x < Int32.ofInt y then Int32.ofInt y else Int32.ofInt x) = Int32.ofInt (zMath 0 x y) := by
      show _ = Int32.ofInt (if x < y then y else x)
      by_cases q : x < y
      · rw [if_pos q, if_pos ((zlt h1 h2).mpr q)]
      · rw [if_neg q, if_neg (fun t => q ((zlt h1 h2).mp t))]
    rw [e]
    exact kk
  · refine va_mmin hx hb hms hown (hts _ (zGd_in hw rfl)) (hts _ zwm1.1) (hts _ zwm3) (hts _ zwm1.2) (by omega) (by omega) (by omega) (by omega) hd ?_
    have e : (if Int32.ofInt y < Int32.ofInt x then Int32.ofInt y else Int32.ofInt x) = Int32.ofInt (zMath 1 x y) := by
      show _ = Int32.ofInt (if y < x then y else x)
      by_cases q : y < x
      · rw [if_pos q, if_pos ((zlt h2 h1).mpr q)]
      · rw [if_neg q, if_neg (fun t => q ((zlt h2 h1).mp t))]
    rw [e]
    exact kk
theorem zp35a (hd : decode (zB μ) pc = .ok (i, len)) (hf : zFo (zMof μ).1 μ pc len 35 a b i = true) (ha : a = 2) {x : Int} (hcat : (st.map zcat).sum ≤ 8) (h : zSnd l D κ ρ A g d μ (pc + len) ls ((0, zAbs x) :: st) S r) : zSnd l D κ ρ A g d μ pc ls ((0, x) :: st) S r := by
  refine ⟨h.1, fun p e R s m args below meth c C σ0 n0 σ H locs cells slots lsC hn0 hσ hP hD hS hI hl hst hce hsl => ?_⟩
  obtain ⟨⟨hlt, hx, hb, hml, hown, hts⟩, ⟨hr, hlk, hnm, htb⟩, hK, hKn, hA, hfr, hlo⟩ := id C
  obtain ⟨h1, hst⟩ := List.forall_mem_cons.mp hst
  have h1 : zr32 x := h1
  have hr0 : zr32 (zAbs x) := by
    unfold zAbs
    split
    · exact zr32_w _
    · exact h1
  have kk := h.2 p e R s m args below meth c C σ0 n0 σ H locs cells slots lsC hn0 hσ hP hD hS hI hl (z_cons (v := (0, zAbs x)) hr0 hst) hce hsl
  have hcs : ((st.map (zc σ ρ)).map fun v => v.category).sum ≤ 8 := by rw [z_catsum]; exact hcat
  simp only [zFo, Bool.and_eq_true, beq_iff_eq, zIe_eq, decide_eq_true_eq] at hf
  obtain ⟨⟨⟨⟨e1, e2⟩, e3⟩, e4⟩, e5⟩ := hf
  subst e1; subst e2; subst ha
  have hw := (zEs_in (e := (35, (zMof μ).1, b.toNat, 2)) (by simpa using e3)).1
  have hms : c.maxLocals = lsC.size := hml.trans hl.2.1.1.symm
  refine va_mabs hx hb hms hown (hts _ (zGd_in hw rfl)) (hts _ zwm2.1) (hts _ zwm3) (hts _ zwm2.2) (by omega) (by omega) (by omega) (by omega) hd ?_
  have e : (if 0 ≤ Int32.ofInt x then Int32.ofInt x else 0 - Int32.ofInt x) = Int32.ofInt (zAbs x) := by
    unfold zAbs
    by_cases q : x < 0
    · rw [if_pos q, if_neg (fun t => by have := (zle zr32_0 h1).mp t; omega), zneg]
    · rw [if_neg q, if_pos (show (0 : Int32) ≤ Int32.ofInt x from (zle zr32_0 h1).mpr (by omega))]
  rw [e]
  exact kk
theorem zp36 (hd : decode (zB μ) pc = .ok (i, len)) (hf : zFo (zMof μ).1 μ pc len 36 a b i = true) {n dp dst sp src : Int} (hi1 : zIs dst 50) (hi2 : zIs src 50) (hn : 0 ≤ n) (hs0 : 0 ≤ sp) (hd0 : 0 ≤ dp) (hsl1 : sp + n ≤ (zK src).2) (hdl : dp + n ≤ (zK dst).2) (hcat : (st.map zcat).sum ≤ 8) (h : zSnd l D κ ρ A g d μ (pc + len) ls st (zSet S (hcp S.2.2.2 src sp dst dp n)) r) : zSnd l D κ ρ A g d μ pc ls ((0, n) :: (0, dp) :: (2, dst) :: (0, sp) :: (2, src) :: st) S r := by
  refine ⟨h.1, fun p e R s m args below meth c C σ0 n0 σ H locs cells slots lsC hn0 hσ hP hD hS hI hl hst hce hsl => ?_⟩
  obtain ⟨⟨hlt, hx, hb, hml, hown, hts⟩, ⟨hr, hlk, hnm, htb⟩, hK, hKn, hA, hfr, hlo⟩ := id C
  obtain ⟨q1, hst⟩ := List.forall_mem_cons.mp hst
  obtain ⟨q2, hst⟩ := List.forall_mem_cons.mp hst
  obtain ⟨q3, hst⟩ := List.forall_mem_cons.mp hst
  obtain ⟨q4, hst⟩ := List.forall_mem_cons.mp hst
  obtain ⟨q5, hst⟩ := List.forall_mem_cons.mp hst
  have q1 : zr32 n := q1
  have q2 : zr32 dp := q2
  have q3 : 1 ≤ dst ∧ dst ≤ S.2.1 := q3
  have q4 : zr32 sp := q4
  have q5 : 1 ≤ src ∧ src ≤ S.2.1 := q5
  have i1 : (zK dst).1 = 50 := hi1
  have i2 : (zK src).1 = 50 := hi2
  have hcs : ((st.map (zc σ ρ)).map fun v => v.category).sum ≤ 8 := by rw [z_catsum]; exact hcat
  have hoth : ∀ o' k, o' ≠ dst → hcp S.2.2.2 src sp dst dp n o' k = S.2.2.2 o' k := fun o' k hne => by
    unfold hcp
    rw [if_neg (fun z => hne z.1)]
  have hI1 : zInv g (zSet S (hcp S.2.2.2 src sp dst dp n)) := by
    refine ⟨fun o' z1 z2 k => ?_, fun hS1 o' z1 z2 => ?_, ?_, hI.2.2.2⟩
    · show zFits S.2.1 _ k (hcp S.2.2.2 src sp dst dp n o' k)
      unfold hcp
      split
      · rename_i t
        rw [t.1, i1]
        have := hI.1 src.toNat (by omega) (by omega) (sp + (k - dp)).toNat
        rw [show ((src.toNat : Nat) : Int) = src by omega, i2, show (((sp + (k - dp)).toNat : Nat) : Int) = sp + (k - dp) by omega] at this
        exact this
      · exact hI.1 o' z1 z2 k
    · obtain ⟨l1, l2⟩ := hI.2.1 hS1 o' z1 z2
      by_cases eo : (o' : Int) = dst
      · rw [eo, i1]
        refine ⟨fun z => by omega, fun z => by omega⟩
      · have e2 : hcp S.2.2.2 src sp dst dp n (o' : Int) = S.2.2.2 (o' : Int) := funext (fun k => hoth _ k eo)
        show (_ → ∀ k, (_ → hcp S.2.2.2 src sp dst dp n (o' : Int) _ = _) ∧ (_ → hcp S.2.2.2 src sp dst dp n (o' : Int) _ ≠ 0)) ∧ (_ → ∀ i : Nat, _ → hcp S.2.2.2 src sp dst dp n (o' : Int) i = _)
        rw [e2]
        exact ⟨l1, l2⟩
    · show hcp S.2.2.2 src sp dst dp n 0 = g
      rw [show hcp S.2.2.2 src sp dst dp n 0 = S.2.2.2 0 from funext (fun k => hoth 0 k (by omega))]
      exact hI.2.2.1
  simp only [zFo, Bool.and_eq_true, beq_iff_eq, zIe_eq] at hf
  obtain ⟨⟨e1, e2⟩, e3⟩ := hf
  subst e1; subst e2
  have hw := (zEs_in (e := (36, (zMof μ).1, b.toNat, 0)) (by simpa using e3)).1
  have hms : c.maxLocals = lsC.size := hml.trans hl.2.1.1.symm
  have hset : (zWs κ σ S.2.1 S.2.2.2).set (dst.toNat - 1) (σ dst.toNat, .inl (κ 50, (zK dst).2, .inl (va_cpy (fun i : Nat => Int32.ofInt (S.2.2.2 src i)) (fun i : Nat => Int32.ofInt (S.2.2.2 dst i)) sp.toNat dp.toNat n.toNat))) = zWs κ σ S.2.1 (hcp S.2.2.2 src sp dst dp n) := by
    rw [zWs_set (h := S.2.2.2) (h' := hcp S.2.2.2 src sp dst dp n) q3.1 q3.2 hoth, zEn_int q3.1 i1 (by omega) (by omega)]
    have hfg : va_cpy (fun i : Nat => Int32.ofInt (S.2.2.2 src i)) (fun i : Nat => Int32.ofInt (S.2.2.2 dst i)) sp.toNat dp.toNat n.toNat = (fun i : Nat => Int32.ofInt (hcp S.2.2.2 src sp dst dp n dst i)) := by
      funext k
      unfold va_cpy hcp
      by_cases t : dp.toNat ≤ k ∧ k < dp.toNat + n.toNat
      · rw [if_pos t, if_pos ⟨rfl, by omega, by omega⟩]
        dsimp only
        rw [show ((sp.toNat + (k - dp.toNat) : Nat) : Int) = sp + ((k : Int) - dp) by omega]
      · rw [if_neg t, if_neg (by omega)]
    rw [hfg]
  refine va_copyi (ty := .int) hx hb hms hown (hts _ (zGd_in hw rfl)) (hts _ zwa.2.1) (hts _ zwa.1) (hts _ zwa.2.2) hK hP hD hS (src.toNat - 1) (dst.toNat - 1) 0 0 (by rw [zWs_at q5.1 q5.2, zEn_int q5.1 i2 (by omega) (by omega)]) (by rw [zWs_at q3.1 q3.2, zEn_int q3.1 i1 (by omega) (by omega)]) rfl rfl rfl (znn q4 hs0) (znn q2 hd0) (znn q1 hn) (by rw [zclamp q4, zclamp q1]; omega) (by rw [zclamp q2, zclamp q1]; omega) (fun _ _ => rfl) (by omega) ?_ hd ?_
  · have hnf : nativeFrameWords "java/lang/System" "arraycopy" 5 ≤ 150 := by decide +kernel
    omega
  · rw [zclamp q4, zclamp q2, zclamp q1, hset]
    intro H1 locs1 hP1 hD1 hS1
    exact h.2 p e R s m args below meth c C σ0 n0 σ H1 locs1 cells slots lsC hn0 hσ hP1 hD1 hS1 hI1 hl hst hce hsl
end ZT
