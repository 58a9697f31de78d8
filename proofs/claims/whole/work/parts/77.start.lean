/-! THE LAW'S START: what the tables give -/
theorem lt_n0 : Cond.methodLinkNest RX8 54 yX7_init RX9 ∈ lw_tbl := List.mem_of_getElem? (i := 98) (by decide +kernel)
theorem lt_n1 : Cond.methodLinkNest RX8 59 yX0_init RX9 ∈ lw_tbl := List.mem_of_getElem? (i := 126) (by decide +kernel)
theorem lt_n2 : Cond.methodLinkNest RX8 60 yX1_init RX9 ∈ lw_tbl := List.mem_of_getElem? (i := 205) (by decide +kernel)
theorem lt_n3 : Cond.methodLinkNest RX9 25 yX5_init RX9 ∈ lw_tbl := List.mem_of_getElem? (i := 312) (by decide +kernel)
theorem lt_n4 : Cond.methodLinkNest RX9 32 yX3_init RX9 ∈ lw_tbl := List.mem_of_getElem? (i := 328) (by decide +kernel)
theorem lt_n5 : Cond.methodLinkNest RX9 49 yX0_init RX9 ∈ lw_tbl := List.mem_of_getElem? (i := 360) (by decide +kernel)
theorem lt_n6 : Cond.methodLinkNest RX9 57 yX4_init RX9 ∈ lw_tbl := List.mem_of_getElem? (i := 362) (by decide +kernel)
theorem lt_n7 : Cond.fieldLinkNest RX9 333 RX4 "numbers" "[J" RX9 ∈ lw_tbl := List.mem_of_getElem? (i := 371) (by decide +kernel)
theorem lt_a0 : Cond.arrayOver (.object RX0) ∈ lw_tbl := List.mem_of_getElem? (i := 91) (by decide +kernel)
theorem lt_a2 : Cond.arrayOver (.object RX2) ∈ lw_tbl := List.mem_of_getElem? (i := 93) (by decide +kernel)
theorem lt_a1 : Cond.arrayOver (.object RX1) ∈ lw_tbl := List.mem_of_getElem? (i := 95) (by decide +kernel)
theorem lt_a4 : Cond.arrayOver (.object RX4) ∈ lw_tbl := List.mem_of_getElem? (i := 358) (by decide +kernel)
theorem lt_st : Cond.laysStatic RX9 "UNDER" "[I" ∈ lw_tbl := List.mem_of_getElem? (i := 583) (by decide +kernel)
theorem arr_prim {s : State} {args : Array Value} {ty : FieldType} (h : (Cond.arrayClass ty).before args s = true) : ∃ cA : ClassId, ArrOfT s cA ty ∧ s.vm.findClass ("[" ++ ty.toString) = some cA := by
  obtain ⟨cA, kA, comp, hfind, hk, hkind⟩ := Cond.arrayClass_spec h
  exact ⟨cA, fun n z => ⟨(fun k h => by cases h), kA, hk, comp, hkind⟩, hfind⟩
theorem arr_obj {s : State} {args : Array Value} {C : String} (h : (Cond.arrayOver (.object C)).before args s = true) : ∃ cA : ClassId, ArrOfT s cA (.object C) ∧ va_RA s cA (.object C) := by
  obtain ⟨comp, cA, kA, h1, h2, h3, h4, h5⟩ := Cond.arrayOver_spec h
  exact ⟨cA, fun n z => ⟨(fun k h => by cases h), kA, h3, comp, h4⟩, kA, comp, h3, h4, h1, h5⟩
set_option maxHeartbeats 1000000 in
theorem lw_K {s : State} {args : Array Value} (hts : ∀ w ∈ lw_tbl, w.before args s = true) : ∃ (D : va_G) (E : Nat → ClassId), XK D E s := by
  have hg : ∀ w ∈ gw_tbl, w.before args s = true := fun w h => hts w (gw_in w h)
  obtain ⟨c0, i0, k0⟩ := u_known (C := RX0) (T := TX0) (N := 17) (n := 17) hg uin_X0 (hg _ kn_X0)
  obtain ⟨c1, i1, k1⟩ := u_known (C := RX1) (T := TX1) (N := 14) (n := 14) hg uin_X1 (hg _ kn_X1)
  obtain ⟨c2, i2, k2⟩ := u_known (C := RX2) (T := TX2) (N := 2) (n := 2) hg uin_X2 (hg _ kn_X2)
  obtain ⟨c3, i3, k3⟩ := u_known (C := RX3) (T := TX3) (N := 8) (n := 8) hg uin_X3 (hg _ kn_X3)
  obtain ⟨c4, i4, k4⟩ := u_known (C := RX4) (T := TX4) (N := 3) (n := 3) hg uin_X4 (hg _ kn_X4)
  obtain ⟨c5, i5, k5⟩ := u_known (C := RX5) (T := TX5) (N := 2) (n := 2) hg uin_X5 (hg _ kn_X5)
  obtain ⟨c6, i6, k6⟩ := u_known (C := RX6) (T := TX6) (N := 1) (n := 1) hg uin_X6 (hg _ kn_X6)
  obtain ⟨c7, i7, k7⟩ := u_known (C := RX7) (T := TX7) (N := 7) (n := 7) hg uin_X7 (hg _ kn_X7)
  obtain ⟨c8, i8, k8⟩ := u_known (C := RX8) (T := TX8) (N := 11) (n := 11) hg uin_X8 (hg _ kn_X8)
  obtain ⟨c9, i9, k9⟩ := u_known (C := RX9) (T := TX9) (N := 9) (n := 9) hg uin_X9 (hg _ kn_X9)
  obtain ⟨c10, i10, k10⟩ := u_known (C := RX10) (T := TX10) (N := 23) (n := 23) hg uin_X10 (hg _ kn_X10)
  obtain ⟨e0, a0, f0⟩ := arr_prim (hg _ ka_int)
  obtain ⟨e1, a1, f1⟩ := arr_prim (hg _ ka_byte)
  obtain ⟨e2, a2, f2⟩ := arr_prim (hg _ ka_long)
  obtain ⟨e3, a3, f3⟩ := arr_obj (hts _ lt_a0)
  obtain ⟨e4, a4, f4⟩ := arr_obj (hts _ lt_a2)
  obtain ⟨e5, a5, f5⟩ := arr_obj (hts _ lt_a1)
  obtain ⟨e6, a6, f6⟩ := arr_obj (hts _ lt_a4)
  refine ⟨(fun k => [c0, c1, c2, c3, c4, c5, c6, c7, c8, c9, c10].getD k c0, fun k => [i0, i1, i2, i3, i4, i5, i6, i7, i8, i9, i10].getD k i0), fun k => [e0, e1, e2, e3, e4, e5, e6].getD k e0, ?_, ?_⟩
  · intro k q hq
    match k, hq with
    | 0, hq => cases hq; exact k0
    | 1, hq => cases hq; exact k1
    | 2, hq => cases hq; exact k2
    | 3, hq => cases hq; exact k3
    | 4, hq => cases hq; exact k4
    | 5, hq => cases hq; exact k5
    | 6, hq => cases hq; exact k6
    | 7, hq => cases hq; exact k7
    | 8, hq => cases hq; exact k8
    | 9, hq => cases hq; exact k9
    | 10, hq => cases hq; exact k10
    | k + 11, hq => simp [vwCl] at hq
  · intro k q hq
    match k, hq with
    | 0, hq => cases hq; exact ⟨a0, f0⟩
    | 1, hq => cases hq; exact ⟨a1, f1⟩
    | 2, hq => cases hq; exact ⟨a2, f2⟩
    | 3, hq => cases hq; exact ⟨a3, f3⟩
    | 4, hq => cases hq; exact ⟨a4, f4⟩
    | 5, hq => cases hq; exact ⟨a5, f5⟩
    | 6, hq => cases hq; exact ⟨a6, f6⟩
    | k + 7, hq => simp [xtys] at hq
theorem lw_N {s : State} {args : Array Value} (hts : ∀ w ∈ lw_tbl, w.before args s = true) : XN s :=
  ⟨⟨va_Nw.of rfl (hts _ lt_n0), va_Nw.of rfl (hts _ lt_n1), va_Nw.of rfl (hts _ lt_n2), va_Nw.of rfl (hts _ lt_n3), va_Nw.of rfl (hts _ lt_n4), va_Nw.of rfl (hts _ lt_n5), va_Nw.of rfl (hts _ lt_n6), va_Nw.of rfl (hts _ lt_n7)⟩, va_AO.of (hts _ lt_a0), va_AO.of (hts _ lt_a2), va_AO.of (hts _ lt_a1), va_AO.of (hts _ lt_a4)⟩
theorem lw_U {s : State} {args : Array Value} (hts : ∀ w ∈ lw_tbl, w.before args s = true) (hgv : (Jvm.Cond.and given_1 narrow_1).before args s = true) : ∃ tU : Nat, XU tU (fun q => s.heap.size ≤ q) s s.heap := by
  have hs := flat_of_before _ hgv
  have hA : ∀ a : Nat, a < s.heap.size → ¬ (fun q : Nat => s.heap.size ≤ q) a := fun a h1 h2 => by
    have h3 : s.heap.size ≤ a := h2
    omega
  have harr : (Cond.arrayOf (.static "WarmGlass" "UNDER" "[I") .int).before args s = true := hs _ (by decide +kernel)
  have hlen : (Cond.eq (.length (.static "WarmGlass" "UNDER" "[I")) (.int 6)).before args s = true := hs _ (by decide +kernel)
  have h0 : (Cond.eq (.elem (.static "WarmGlass" "UNDER" "[I") (.int 0)) (.int (-1))).before args s = true := hs _ (by decide +kernel)
  have h1 : (Cond.eq (.elem (.static "WarmGlass" "UNDER" "[I") (.int 1)) (.int 0)).before args s = true := hs _ (by decide +kernel)
  have h2 : (Cond.eq (.elem (.static "WarmGlass" "UNDER" "[I") (.int 2)) (.int 1)).before args s = true := hs _ (by decide +kernel)
  have h3 : (Cond.eq (.elem (.static "WarmGlass" "UNDER" "[I") (.int 3)) (.int 0)).before args s = true := hs _ (by decide +kernel)
  have h4 : (Cond.eq (.elem (.static "WarmGlass" "UNDER" "[I") (.int 4)) (.int 0)).before args s = true := hs _ (by decide +kernel)
  have h5 : (Cond.eq (.elem (.static "WarmGlass" "UNDER" "[I") (.int 5)) (.int 2)).before args s = true := hs _ (by decide +kernel)
  obtain ⟨tU, t1, t2⟩ := va_Tof (A := fun q => s.heap.size ≤ q) (N := 6) (f := fun k => .int (xUf k)) (by decide) harr (va_eqt hlen) (fun j hj => by
    rcases (show j = 0 ∨ j = 1 ∨ j = 2 ∨ j = 3 ∨ j = 4 ∨ j = 5 by omega) with rfl | rfl | rfl | rfl | rfl | rfl
    · exact va_eqt h0
    · exact va_eqt h1
    · exact va_eqt h2
    · exact va_eqt h3
    · exact va_eqt h4
    · exact va_eqt h5) hA
  exact ⟨tU, va_Zof (hts _ lt_st) (hts _ (gw_in _ in_X9)) t1 hA, t2⟩
def mE0 (z : Nat) : XMem := (fun _ _ => 0, fun _ _ => 0, fun _ _ => none, fun _ => none, z)
theorem mE0_T {z q : Nat} {t : XTy} (h : mT (mE0 z) q = some t) : False := by
  have h' : (none : Option XTy) = some t := h
  cases h'
theorem XRep.empty {D : va_G} {E : Nat → ClassId} {H : Heap} : XRep D E (mE0 H.size) H := ⟨rfl, fun a c h => (mE0_T h).elim, fun a e n h => (mE0_T h).elim, fun a k b t h => (mE0_T h).elim⟩
/-- a new object beside another store -/
theorem lw_new {p : Program} {l : Launch} {e : Env} {R : Room} {s : State} {m : MethodId} {args : Array Value} {below : List Frame} {meth : Method} {c : Code} {H : Heap} {locs : List Loc} {cells slots : Nat} {Q : State → Prop} {cc : ByteArray} {nL pc : Nat} {ls : Array Slot} {rest : List Value} {D : va_G} {E : Nat → ClassId} {tU : Nat} {μ ν : XMem} {own : String}
    (C : Cx p s m args c cc nL own D E (fun q => s.heap.size ≤ q) tU) (tw : TW D E s μ ν H locs) {idx ci N : Nat} {Cn : String} {T : u_T} (xc : XC ci Cn T N) (hcl : Cond.classLink own idx Cn ∈ gw_tbl) (hins : Cond.instantiable Cn N ∈ gw_tbl) (hini : Cond.initialized Cn ∈ gw_tbl) (hcells : cells + 1 ≤ R.cells) (hslots : slots + N ≤ R.slots) (hdg : decode cc pc = .ok (.new idx, 3))
    (kk : ∀ (H1 : Heap), TW D E s (nw μ (.inl ci)) (sZ ν H1.size) H1 locs → H1.size = H.size + 1 → W p l e R s m args below meth c H1 locs (cells + 1) (slots + N) Q (F0 m (pc + 3) ls (.ref H.size :: rest))) : W p l e R s m args below meth c H locs cells slots Q (F0 m pc ls rest) := by
  obtain ⟨hx, hb, hml, hown, hts, hK, -⟩ := C
  obtain ⟨hc, hin, hty, hnm, hdc⟩ := xc
  have hKn := hK.1 ci _ hc
  have hw := tw.wd
  refine W.newcK hx hb hown (hts _ hcl) (hts _ hins) (hts _ hini) rfl hdg hcells hslots hKn.2.1 rfl fun H1 kC hkC e1 z1 o1 => ?_
  have hZ : mZ μ = H.size := hw.1.1.symm
  obtain ⟨w1, w2, w3, w4⟩ := hw.push (t := .inl ci) z1 o1 (fun cj h => by
    cases h
    refine ⟨_, hc, (u_born (xft ci) hts hin hKn hkC e1 hty).to fun j hj => ?_⟩
    unfold fvT
    simp only [mI_nw, mL_nw, mR_nw, hZ, if_true]
    exact xdf ci j) (fun e n h => by cases h)
  refine kk H1 ⟨w1.1, tw.2.1.kept (fun q t hq => o1 q (tw.2.1.lt hq)), w1.2.1, w1.2.2.1, tw.2.2.2.2.1, fun q t u h1 h2 => ?_⟩ z1
  rw [mT_nw] at h1
  by_cases hq : q = mZ μ
  · have h3 : mT ν q = none := xN_fresh tw.2.1 (by have := tw.2.1.1; omega)
    have h2' : mT ν q = some u := h2
    rw [h3] at h2'
    cases h2'
  · rw [if_neg hq] at h1
    exact tw.2.2.2.2.2 q t u h1 h2
