/-! new cells, natives, the static row -/
theorem xN_fresh {D : va_G} {E : Nat → ClassId} {μ : XMem} {H : Heap} (h : XRep D E μ H) {q : Nat} (hq : mZ μ ≤ q) : mT μ q = none := by
  cases ht : mT μ q with
  | none => rfl
  | some t => have := h.lt ht; have := h.1; omega
theorem xdf (ci j : Nat) : defaultValue (xft ci j) = (match xft ci j with
  | .long => .long 0
  | .object _ => va_rf none
  | .array _ => va_rf none
  | _ => .int 0) := by
  unfold xft
  split
  · unfold tyX0; split <;> rfl
  · unfold tyX1; split <;> rfl
  · unfold tyX2; split <;> rfl
  · unfold tyX3; split <;> rfl
  · unfold tyX4; split <;> rfl
  · unfold tyX5; split <;> rfl
  · unfold tyX6; (try split) <;> rfl
  · unfold tyX7; split <;> rfl
  · unfold tyX8; split <;> rfl
  · unfold tyX9; split <;> rfl
  · unfold tyX10; split <;> rfl
section XROW4
variable {p : Program} {l : Launch} {e : Env} {R : Room} {s : State} {m : MethodId} {args : Array Value} {below : List Frame} {meth : Method} {c : Code} {H : Heap} {locs : List Loc} {cells slots : Nat} {Q : State → Prop}
variable {cc : ByteArray} {nL pc : Nat} {ls : Array Slot} {rest : List Value} {D : va_G} {E : Nat → ClassId} {A : Nat → Prop} {tU : Nat} {τ : Nat → Option XTy} {μ : XMem} {own : String} {a : Nat}
/-- the store behind a new cell -/
theorem Wd.push (hw : Wd D E A s τ μ H locs) {t : XTy} {H1 : Heap} (z : H1.size = H.size + 1) (oq : ∀ q : Nat, q < H.size → H1[q]? = H[q]?)
    (hob : ∀ ci, t = .inl ci → ∃ r : vw_C, vwCl[ci]? = some r ∧ t_OB H.size (D.1 ci) r.2.2 (D.2 ci) H1 (fun k => fvT (xft ci k) (nw μ t) H.size k)) (har : ∀ e n, t = .inr (e, n) → H1[H.size]? = some (vp_cell (E e) (n, ctE e (nw μ t) H.size))) :
    Wd D E A s (mT (nw μ t)) (nw μ t) H1 locs ∧ mZ μ = H.size ∧ mT (nw μ t) H.size = some t ∧ (∀ q u, τ q = some u → mT (nw μ t) q = some u) := by
  obtain ⟨hr, hS, hA, hA0, hm⟩ := hw
  have hZ : mZ μ = H.size := hr.1.symm
  have hmono : ∀ q u, mT μ q = some u → mT (nw μ t) q = some u := by
    intro q u h
    rw [mT_nw, if_neg (by have := hr.lt h; omega)]
    exact h
  obtain ⟨h1, h2, h3, h4⟩ := hr
  have hlt : ∀ q u, mT μ q = some u → q < H.size := fun q u h => XRep.lt (D := D) (E := E) ⟨h1, h2, h3, h4⟩ h
  refine ⟨⟨⟨by rw [z, mZ_nw, hZ], fun x cx hx => ?_, fun x ex n hx => ?_, fun x kx b u hx hb => ?_⟩, ⟨by have := hS.1; omega, fun q g1 g2 => (oq q (Nat.lt_of_lt_of_le g1 hS.1)).trans (hS.2.1 q g1 g2), hS.2.2⟩, fun q u hq => ?_, hA0, rfl⟩, hZ, by rw [mT_nw, if_pos hZ.symm], fun q u h => hmono q u (by rw [hm]; exact h)⟩
  · rw [mT_nw] at hx
    by_cases hxz : x = mZ μ
    · rw [if_pos hxz] at hx
      rw [hxz, hZ]
      exact hob cx (Option.some.inj hx)
    · rw [if_neg hxz] at hx
      obtain ⟨r', g1, g2⟩ := h2 x cx hx
      refine ⟨r', g1, (g2.kept (oq x (hlt x _ hx))).to fun j _ => ?_⟩
      unfold fvT
      simp only [mI_nw, mL_nw, mR_nw, if_neg hxz]
  · rw [mT_nw] at hx
    by_cases hxz : x = mZ μ
    · rw [if_pos hxz] at hx
      rw [hxz, hZ]
      exact har ex n (Option.some.inj hx)
    · rw [if_neg hxz] at hx
      rw [oq x (hlt x _ hx), h3 x ex n hx]
      have e1 : mI (nw μ t) x = mI μ x := by funext y; rw [mI_nw, if_neg hxz]
      have e2 : mL (nw μ t) x = mL μ x := by funext y; rw [mL_nw, if_neg hxz]
      have e3 : mR (nw μ t) x = mR μ x := by funext y; rw [mR_nw, if_neg hxz]
      unfold ctE
      simp only [e1, e2, e3]
  · rw [mR_nw] at hb
    by_cases hxz : x = mZ μ
    · rw [if_pos hxz] at hb
      cases hb
    · rw [if_neg hxz] at hb
      rw [mT_nw, if_neg hxz] at hx
      have h5 := h4 x kx b u hx hb
      have key : ∀ rr, xmt rr (mT μ b) → xmt rr (mT (nw μ t) b) := by
        intro rr hh
        cases rr with
        | inl cc => exact hmono b _ hh
        | inr ee => obtain ⟨n, hh⟩ := hh; exact ⟨n, hmono b _ hh⟩
      cases u with
      | inl cc => exact key (xrt cc kx) h5
      | inr ee => exact key (.inl (xel ee.1)) h5
  · rw [mT_nw] at hq
    by_cases hxz : q = mZ μ
    · exact hA0 q (by have := hS.1; omega)
    · rw [if_neg hxz] at hq
      exact hA q u (by rw [← hm]; exact hq)
theorem x_new (C : Cx p s m args c cc nL own D E A tU) (hw : Wd D E A s τ μ H locs) {idx ci N : Nat} {Cn : String} {T : u_T} (xc : XC ci Cn T N) (hcl : Cond.classLink own idx Cn ∈ gw_tbl) (hins : Cond.instantiable Cn N ∈ gw_tbl) (hini : Cond.initialized Cn ∈ gw_tbl) (hcells : cells + 1 ≤ R.cells) (hslots : slots + N ≤ R.slots) (hdg : decode cc pc = .ok (.new idx, 3))
    (kk : ∀ (b : Nat) (μ1 : XMem) (H1 : Heap) (τ1 : Nat → Option XTy), b = mZ μ → μ1 = nw μ (.inl ci) → Wd D E A s τ1 μ1 H1 locs → τ1 b = some (.inl ci) → (∀ q u, τ q = some u → τ1 q = some u) → W p l e R s m args below meth c H1 locs (cells + 1) (slots + N) Q (F0 m (pc + 3) ls (.ref b :: rest))) : W p l e R s m args below meth c H locs cells slots Q (F0 m pc ls rest) := by
  obtain ⟨hx, hb, hml, hown, hts, hK, -⟩ := C
  obtain ⟨hc, hin, hty, hnm, hdc⟩ := xc
  have hKn := hK.1 ci _ hc
  refine W.newcK hx hb hown (hts _ hcl) (hts _ hins) (hts _ hini) rfl hdg hcells hslots hKn.2.1 rfl fun H1 kC hkC e1 z1 o1 => ?_
  have hZ : mZ μ = H.size := hw.1.1.symm
  obtain ⟨w1, w2, w3, w4⟩ := hw.push (t := .inl ci) z1 o1 (fun cj h => by
    cases h
    refine ⟨_, hc, (u_born (xft ci) hts hin hKn hkC e1 hty).to fun j hj => ?_⟩
    unfold fvT
    simp only [mI_nw, mL_nw, mR_nw, hZ, if_true]
    exact xdf ci j) (fun e n h => by cases h)
  exact kk H.size _ H1 _ hZ.symm rfl w1 w3 w4
theorem x_newa (C : Cx p s m args c cc nL own D E A tU) (hw : Wd D E A s τ μ H locs) {ek N : Nat} {ty : FieldType} {atype : ArrayType} (hty : newarray.typeOf atype = ty) (hek : (xtys E)[ek]? = some (E ek, ty)) (hka : Cond.arrayClass ty ∈ gw_tbl) (hct : ∀ (μ : XMem) (a : Nat), (∀ y, mI μ a y = 0) → (∀ y, mL μ a y = 0) → vp_cell (E ek) (N, ctE ek μ a) = arrV (E ek) N (fun _ => defaultValue ty)) (hra : va_RA s (E ek) ty → s.vm.findClass ("[" ++ ty.toString) = some (E ek)) {n : Int32} (hn : ¬ n < 0) (hN : n.toNatClampNeg = N) (hbytes : N * componentBytes ty ≤ 536870912) (hcells : cells + 1 ≤ R.cells) (hslots : slots + N ≤ R.slots) (hdg : decode cc pc = .ok (.newarray atype, 2))
    (kk : ∀ (b : Nat) (μ1 : XMem) (H1 : Heap) (τ1 : Nat → Option XTy), b = mZ μ → μ1 = nw μ (.inr (ek, N)) → Wd D E A s τ1 μ1 H1 locs → τ1 b = some (.inr (ek, N)) → (∀ q u, τ q = some u → τ1 q = some u) → W p l e R s m args below meth c H1 locs (cells + 1) (slots + N) Q (F0 m (pc + 2) ls (.ref b :: rest))) : W p l e R s m args below meth c H locs cells slots Q (F0 m pc ls (.int n :: rest)) := by
  subst hty
  obtain ⟨hx, hb, hml, hown, hts, hK, -⟩ := C
  refine va_newaK hx hb (hts _ hka) rfl hdg rfl hn hN hbytes hcells hslots rfl fun H1 cA e1 z1 o1 hAr hNm => ?_
  have hcA : cA = E ek := Option.some.inj (hNm.symm.trans (hra (hK.2 ek _ hek).2))
  subst hcA
  have hZ : mZ μ = H.size := hw.1.1.symm
  obtain ⟨w1, w2, w3, w4⟩ := hw.push (t := .inr (ek, N)) z1 o1 (fun cj h => by cases h) (fun e2 n2 h => by
    cases h
    rw [e1, hct _ _ (fun y => by rw [mI_nw, if_pos hZ.symm]) (fun y => by rw [mL_nw, if_pos hZ.symm])])
  exact kk H.size _ H1 _ hZ.symm rfl w1 w3 w4
theorem x_newI (C : Cx p s m args c cc nL own D E A tU) (hw : Wd D E A s τ μ H locs) {N : Nat} {n : Int32} (hn : ¬ n < 0) (hN : n.toNatClampNeg = N) (hbytes : N * 4 ≤ 536870912) (hcells : cells + 1 ≤ R.cells) (hslots : slots + N ≤ R.slots) (hdg : decode cc pc = .ok (.newarray .int, 2))
    (kk : ∀ (b : Nat) (μ1 : XMem) (H1 : Heap) (τ1 : Nat → Option XTy), b = mZ μ → μ1 = nw μ (.inr (0, N)) → Wd D E A s τ1 μ1 H1 locs → τ1 b = some (.inr (0, N)) → (∀ q u, τ q = some u → τ1 q = some u) → W p l e R s m args below meth c H1 locs (cells + 1) (slots + N) Q (F0 m (pc + 2) ls (.ref b :: rest))) : W p l e R s m args below meth c H locs cells slots Q (F0 m pc ls (.int n :: rest)) :=
  x_newa C hw (ek := 0) (ty := .int) (atype := .int) rfl rfl ka_int (fun μ a h1 _ => by show vp_cell (E 0) (N, .inl (mI μ a)) = _; rw [vp_cell_i]; simp only [h1]; rfl) (fun h => h) hn hN hbytes hcells hslots hdg kk
theorem x_newB (C : Cx p s m args c cc nL own D E A tU) (hw : Wd D E A s τ μ H locs) {N : Nat} {n : Int32} (hn : ¬ n < 0) (hN : n.toNatClampNeg = N) (hbytes : N * 1 ≤ 536870912) (hcells : cells + 1 ≤ R.cells) (hslots : slots + N ≤ R.slots) (hdg : decode cc pc = .ok (.newarray .byte, 2))
    (kk : ∀ (b : Nat) (μ1 : XMem) (H1 : Heap) (τ1 : Nat → Option XTy), b = mZ μ → μ1 = nw μ (.inr (1, N)) → Wd D E A s τ1 μ1 H1 locs → τ1 b = some (.inr (1, N)) → (∀ q u, τ q = some u → τ1 q = some u) → W p l e R s m args below meth c H1 locs (cells + 1) (slots + N) Q (F0 m (pc + 2) ls (.ref b :: rest))) : W p l e R s m args below meth c H locs cells slots Q (F0 m pc ls (.int n :: rest)) :=
  x_newa C hw (ek := 1) (ty := .byte) (atype := .byte) rfl rfl ka_byte (fun μ a h1 _ => by show vp_cell (E 1) (N, .inl (mI μ a)) = _; rw [vp_cell_i]; simp only [h1]; rfl) (fun h => h) hn hN hbytes hcells hslots hdg kk
theorem x_newL (C : Cx p s m args c cc nL own D E A tU) (hw : Wd D E A s τ μ H locs) {N : Nat} {n : Int32} (hn : ¬ n < 0) (hN : n.toNatClampNeg = N) (hbytes : N * 8 ≤ 536870912) (hcells : cells + 1 ≤ R.cells) (hslots : slots + N ≤ R.slots) (hdg : decode cc pc = .ok (.newarray .long, 2))
    (kk : ∀ (b : Nat) (μ1 : XMem) (H1 : Heap) (τ1 : Nat → Option XTy), b = mZ μ → μ1 = nw μ (.inr (2, N)) → Wd D E A s τ1 μ1 H1 locs → τ1 b = some (.inr (2, N)) → (∀ q u, τ q = some u → τ1 q = some u) → W p l e R s m args below meth c H1 locs (cells + 1) (slots + N) Q (F0 m (pc + 2) ls (.ref b :: rest))) : W p l e R s m args below meth c H locs cells slots Q (F0 m pc ls (.int n :: rest)) :=
  x_newa C hw (ek := 2) (ty := .long) (atype := .long) rfl rfl ka_long (fun μ a _ h2 => by show vp_cell (E 2) (N, .inr (.inl (mL μ a))) = _; rw [vp_cell_l]; simp only [h2]; rfl) (fun h => h) hn hN hbytes hcells hslots hdg kk
theorem x_newR (C : Cx p s m args c cc nL own D E A tU) (hw : Wd D E A s τ μ H locs) {k N idx : Nat} {Cn : String} (hek : (xtys E)[k + 3]? = some (E (k + 3), .object Cn)) (hcl : Cond.classLink own idx Cn ∈ gw_tbl) (hov : va_AO Cn s) {n : Int32} (hn : ¬ n < 0) (hN : n.toNatClampNeg = N) (hbytes : N * 4 ≤ 536870912) (hcells : cells + 1 ≤ R.cells) (hslots : slots + N ≤ R.slots) (hdg : decode cc pc = .ok (.anewarray idx, 3))
    (kk : ∀ (b : Nat) (μ1 : XMem) (H1 : Heap) (τ1 : Nat → Option XTy), b = mZ μ → μ1 = nw μ (.inr (k + 3, N)) → Wd D E A s τ1 μ1 H1 locs → τ1 b = some (.inr (k + 3, N)) → (∀ q u, τ q = some u → τ1 q = some u) → W p l e R s m args below meth c H1 locs (cells + 1) (slots + N) Q (F0 m (pc + 3) ls (.ref b :: rest))) : W p l e R s m args below meth c H locs cells slots Q (F0 m pc ls (.int n :: rest)) := by
  obtain ⟨hx, hb, hml, hown, hts, hK, -⟩ := C
  subst hN
  refine W.anew hx hb hown (hts _ hcl) (va_AO.use hov) rfl hdg rfl hn hbytes hcells hslots fun cA kA comp f1 f2 f3 f4 => ?_
  obtain ⟨kA', comp', g1, g2, g3, g4⟩ := (hK.2 (k + 3) _ hek).2
  have hcA : cA = E (k + 3) := Option.some.inj (f1.symm.trans g4)
  subst hcA
  have hZ : mZ μ = H.size := hw.1.1.symm
  obtain ⟨w1, w2, w3, w4⟩ := hw.push (t := .inr (k + 3, n.toNatClampNeg)) (H1 := H.push ({ cls := E (k + 3), slots := Array.replicate n.toNatClampNeg .null, vm := .none } : Cell)) (Array.size_push _) (fun q hq => by rw [Array.getElem?_push, if_neg (Nat.ne_of_lt hq)]) (fun cj h => by cases h) (fun e2 n2 h => by
    cases h
    rw [Array.getElem?_push_size, arrV_new]
    show some (arrV (E (k + 3)) n.toNatClampNeg fun _ => Value.null) = some (arrV (E (k + 3)) n.toNatClampNeg fun j => va_rf (mR (nw μ (Sum.inr (k + 3, n.toNatClampNeg))) H.size j))
    congr 2
    funext y
    simp only [mR_nw, hZ, if_true]
    rfl)
  exact kk H.size _ _ _ hZ.symm rfl w1 w3 w4
/-- a nest mate's private row of longs -/
theorem x_getN (C : Cx p s m args c cc nL RX9 D E A tU) (hw : Wd D E A s τ μ H locs) {b : Nat} (ht : τ a = some (.inl 4)) (hbk : mR μ a 2 = some b) (hdg : decode cc pc = .ok (.getfield 333, 3))
    (kk : (∃ n, τ b = some (.inr (2, n))) → W p l e R s m args below meth c H locs cells slots Q (F0 m (pc + 3) ls (.ref b :: rest))) : W p l e R s m args below meth c H locs cells slots Q (F0 m pc ls (.ref a :: rest)) := by
  have hn := C.2.2.2.2.2.2.1.1.2.2.2.2.2.2.2
  have ho := xo_keep hw ht 2 b hbk
  obtain ⟨hx, hb, hml, hown, hts, hK, -⟩ := C
  obtain ⟨hc, hin, hty, hnm, hdc⟩ := xc_4
  obtain ⟨r, h1, h2⟩ := hw.1.2.1 a 4 (by rw [hw.2.2.2.2]; exact ht)
  have hr : r = (RX4, TX4, 3) := Option.some.inj (h1.symm.trans hc)
  subst hr
  have hP : va_P D vwCl [(a, .inr (4, (List.range 3).map (fun k => fvT (xft 4 k) μ a k)))] H := by
    intro j q hq
    have hj : j < 1 := (List.getElem?_eq_some_iff.mp hq).1
    rw [show j = 0 by omega] at hq
    cases hq
    exact ⟨_, hc, h2.to (fun k hk => by
      have hk : k < 3 := hk
      simp [vp_V, hk])⟩
  refine va_getN hx hb hts hin hown hK hP 0 rfl hc 2 (by decide) (va_Nw.use rfl hn) (fun x h => h) (v := va_rf (mR μ a 2)) rfl hdg ?_
  rw [hbk]
  exact kk ho
theorem x_copy (C : Cx p s m args c cc nL own D E A tU) (hl : ls.size = nL) (hw : Wd D E A s τ μ H locs) {idx : Nat} (hlk : Cond.methodLink own idx arraycopyName ∈ gw_tbl) (hna : Cond.native arraycopyName ∈ gw_tbl) (hst : Cond.static arraycopyName ∈ gw_tbl) (hin : Cond.initialized "java/lang/System" ∈ gw_tbl) {a0 : Nat} (ht0 : ∃ n, τ a0 = some (.inr (2, n))) (ht : ∃ n, τ a = some (.inr (2, n)))
    {sp dp n : Int32} (h1 : ¬ sp < 0) (h2 : ¬ dp < 0) (h3 : ¬ n < 0) (h4 : sp.toNatClampNeg + n.toNatClampNeg ≤ mN μ a0) (h5 : dp.toNatClampNeg + n.toNatClampNeg ≤ mN μ a) (hframes : 1 ≤ R.frames) (hlocals : (rest.map fun v => v.category).sum + (nativeFrameWords "java/lang/System" "arraycopy" 5 + 11) ≤ R.locals) (hdg : decode cc pc = .ok (.invokestatic idx, 3))
    (kk : ∀ (μ1 : XMem) (H1 : Heap) (locs1 : List Loc), μ1 = sC μ a0 sp.toNatClampNeg a dp.toNatClampNeg n.toNatClampNeg → Wd D E A s τ μ1 H1 locs1 → W p l e R s m args below meth c H1 locs1 cells slots Q (F0 m (pc + 3) ls rest)) : W p l e R s m args below meth c H locs cells slots Q (F0 m pc ls (.int n :: .int dp :: .ref a :: .int sp :: .ref a0 :: rest)) := by
  obtain ⟨n0, ht0⟩ := ht0
  obtain ⟨n1, ht⟩ := ht
  rw [xa_n hw ht0] at h4
  rw [xa_n hw ht] at h5
  obtain ⟨hx, hb, hml, hown, hts, hK, -⟩ := C
  have nn : ∀ z : Int32, ¬ z < 0 → z.toInt = (z.toNatClampNeg : Int) := by
    intro z hz
    have hz0 : (0 : Int) ≤ z.toInt := by
      have := Int32.not_lt.mp hz
      simpa using Int32.le_iff_toInt_le.mp this
    show z.toInt = ((z.toInt.toNat : Nat) : Int)
    omega
  intro T hT X
  have hc0 : H[a0]? = some (arrV (E 2) n0 (fun j => .long (mL μ a0 j))) := xa_cell hw ht0
  have hc1 : H[a]? = some (arrV (E 2) n1 (fun j => .long (mL μ a j))) := xa_cell hw ht
  obtain ⟨-, k0, hk0, cm0, hkk0⟩ := (hK.2 2 _ rfl).1 n0 (fun j => .long (mL μ a0 j))
  obtain ⟨-, k1, hk1, cm1, hkk1⟩ := (hK.2 2 _ rfl).1 n1 (fun j => .long (mL μ a j))
  obtain ⟨vm', X', step⟩ := X.arraycopy hx hown (hts _ hlk) (hts _ hna) (hts _ hst) (hts _ hin) (src := a0) (dst := a) (srcPos := sp) (destPos := dp) (n := n) (by rw [hT]; exact hc0) (by rw [hT]; exact hc1)
    (fun _ h => by cases h) (fun _ h => by cases h) (fun h => by cases h) (fun h => by cases h) hk0 hk1 hkk0 hkk1 (by simp [refKind]) h1 h2 h3
    (by rw [nn sp h1, nn n h3, arrV_size]; omega)
    (by rw [nn dp h2, nn n h3, arrV_size]; omega)
    (fun vm₁ _ i hi => by
      have e1 : (arrV (E 2) n0 (fun j => .long (mL μ a0 j))).slots.getD (sp.toNatClampNeg + i) .null = .long (mL μ a0 (sp.toNatClampNeg + i)) := by
        rw [Array.getD_eq_getD_getElem?, arrV_read _ _ (by omega)]
        rfl
      exact ⟨by rw [e1]; rfl, by rw [e1]; exact trivial⟩)
    (g := F0 m pc ls (.int n :: .int dp :: .ref a :: .int sp :: .ref a0 :: rest)) rfl (by rw [hml]; exact hl) (rest := rest) rfl (by rw [hb]; exact hdg) hframes (by show 2 * 0 + _ + _ ≤ _; omega)
  have e1 : copied (arrV (E 2) n0 (fun j => .long (mL μ a0 j))) (arrV (E 2) n1 (fun j => .long (mL μ a j))) sp dp n = arrV (E 2) n1 (fun j => .long (va_cpy (mL μ a0) (mL μ a) sp.toNatClampNeg dp.toNatClampNeg n.toNatClampNeg j)) := va_copied (fun z => .long z) (E 2) (E 2) (mL μ a0) (mL μ a) h4
  rw [e1] at X' step
  have hl2 : a < H.size := (Array.getElem?_eq_some_iff.mp hc1).1
  have hheap : ((T.setVm vm').setCell a (arrV (E 2) n1 (fun j => .long (va_cpy (mL μ a0) (mL μ a) sp.toNatClampNeg dp.toNatClampNeg n.toNatClampNeg j)))).heap = H.setIfInBounds a (arrV (E 2) n1 (fun j => .long (va_cpy (mL μ a0) (mL μ a) sp.toNatClampNeg dp.toNatClampNeg n.toNatClampNeg j))) := by rw [← hT]; rfl
  have hput := hw.putA (loc := 0) (H1 := H.setIfInBounds a (arrV (E 2) n1 (fun j => .long (va_cpy (mL μ a0) (mL μ a) sp.toNatClampNeg dp.toNatClampNeg n.toNatClampNeg j)))) (μ1 := sC μ a0 sp.toNatClampNeg a dp.toNatClampNeg n.toNatClampNeg) ht hw.2.2.2.2 rfl
    (by
      simp only [Array.getElem?_setIfInBounds, hl2, if_true]
      show some (arrV (E 2) n1 fun j => Value.long (va_cpy (mL μ a0) (mL μ a) sp.toNatClampNeg dp.toNatClampNeg n.toNatClampNeg j)) = some (arrV (E 2) n1 fun j => Value.long (mL (sC μ a0 sp.toNatClampNeg a dp.toNatClampNeg n.toNatClampNeg) a j))
      congr 2
      funext j
      simp only [mL, sC, if_true]
      rfl)
    (fun _ _ => rfl) (fun x hxa => by funext y; simp [mL, sC, hxa]) (fun _ _ => rfl) (xa_ok hw ht) (by simp) (fun q hq => by simp [Array.getElem?_setIfInBounds, Ne.symm hq])
  obtain ⟨t, a1, b1⟩ := kk _ _ _ rfl ⟨hput.1, ⟨hput.2.1.1, hput.2.1.2.1, fun q hq => by
      rcases List.mem_append.mp hq with h | h
      · exact hw.2.1.2.2 q h
      · obtain ⟨z, -, hz⟩ := List.mem_map.mp h
        rw [← hz]
        exact hw.2.2.1 a _ ht⟩, hput.2.2⟩ _ hheap X'
  exact ⟨t, step t a1, b1⟩
/-- the static row -/
theorem x_gets (C : Cx p s m args c cc nL own D E A tU) (hw : Wd D E A s τ μ H locs) {idx : Nat} (hlk : Cond.fieldLink own idx RX9 "UNDER" "[I" ∈ gw_tbl) (hdg : decode cc pc = .ok (.getstatic idx, 3))
    (kk : W p l e R s m args below meth c H locs cells slots Q (F0 m (pc + 3) ls (.ref tU :: rest))) : W p l e R s m args below meth c H locs cells slots Q (F0 m pc ls rest) :=
  va_gets C.1 C.2.1 C.2.2.2.2.2.2.2.1 hw.2.1 C.2.2.2.1 (C.2.2.2.2.1 _ hlk) (fun _ h => h) hdg kk
theorem x_sald (C : Cx p s m args c cc nL own D E A tU) (hw : Wd D E A s τ μ H locs) {i : Int32} (hi : ib i 6 = true) (hdg : decode cc pc = .ok (.iaload, 1))
    (kk : W p l e R s m args below meth c H locs cells slots Q (F0 m (pc + 1) ls (.int (xUf i.toNatClampNeg) :: rest))) : W p l e R s m args below meth c H locs cells slots Q (F0 m pc ls (.int i :: .ref tU :: rest)) :=
  va_ti C.1 C.2.1 C.2.2.2.2.2.2.2.2 hw.2.1 (ib_in hi) rfl hdg kk
theorem x_slen (C : Cx p s m args c cc nL own D E A tU) (hw : Wd D E A s τ μ H locs) (hdg : decode cc pc = .ok (.arraylength, 1))
    (kk : W p l e R s m args below meth c H locs cells slots Q (F0 m (pc + 1) ls (.int 6 :: rest))) : W p l e R s m args below meth c H locs cells slots Q (F0 m pc ls (.ref tU :: rest)) :=
  va_tlen C.1 C.2.1 C.2.2.2.2.2.2.2.2 hw.2.1 rfl hdg kk
end XROW4
