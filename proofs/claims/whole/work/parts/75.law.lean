/-! THE LAW: two stores in one heap -/
def TW (D : va_G) (E : Nat → ClassId) (s : State) (μ ν : XMem) (H : Heap) (locs : List Loc) : Prop :=
  XRep D E μ H ∧ XRep D E ν H ∧ va_S (fun q => s.heap.size ≤ q) s.heap H locs ∧ (∀ (q : Nat) (t : XTy), mT μ q = some t → s.heap.size ≤ q) ∧ (∀ (q : Nat) (t : XTy), mT ν q = some t → s.heap.size ≤ q) ∧ (∀ (q : Nat) (t u : XTy), mT μ q = some t → mT ν q = some u → False)
theorem TW.symm {D : va_G} {E : Nat → ClassId} {s : State} {μ ν : XMem} {H : Heap} {locs : List Loc} (t : TW D E s μ ν H locs) : TW D E s ν μ H locs := ⟨t.2.1, t.1, t.2.2.1, t.2.2.2.2.1, t.2.2.2.1, fun q x y h1 h2 => t.2.2.2.2.2 q y x h2 h1⟩
theorem TW.wd {D : va_G} {E : Nat → ClassId} {s : State} {μ ν : XMem} {H : Heap} {locs : List Loc} (t : TW D E s μ ν H locs) : Wd D E (fun q => s.heap.size ≤ q) s (mT μ) μ H locs := ⟨t.1, t.2.2.1, t.2.2.2.1, fun q h => h, rfl⟩
theorem XA.of {μ μ' : XMem} (h : mT μ' = mT μ) : XA μ μ' := ⟨fun q u hq => by rw [h]; exact hq, fun q u hq => Or.inl ⟨u, by rw [← h]; exact hq⟩⟩
theorem Rel.szr {g h z : Nat} {μ ν : XMem} (r : Rel g μ h ν) : Rel g μ h (sZ ν z) := r
theorem Rel.szl {g h z : Nat} {μ ν : XMem} (r : Rel g μ h ν) : Rel g (sZ μ z) h ν := r
theorem XRep.wty {D : va_G} {E : Nat → ClassId} {μ : XMem} {H : Heap} (r : XRep D E μ H) : WTy μ := ⟨fun q hq => xN_fresh r hq, r.2.2.2⟩
section LAWROW
variable {p : Program} {l : Launch} {e : Env} {R : Room} {s : State} {m : MethodId} {args : Array Value} {below : List Frame} {meth : Method} {c : Code} {H : Heap} {locs : List Loc} {cells slots : Nat} {Q : State → Prop}
variable {cc : ByteArray} {nL pc : Nat} {ls : Array Slot} {rest : List Value} {D : va_G} {E : Nat → ClassId} {tU : Nat} {μ ν : XMem} {own : String}
variable {d' mc' ms' : Nat} {idx n maxL : Nat} {y : MethodName} {bytes : ByteArray} {ret : Option FieldType} {b ci : Nat} {As : List Value} {μ' : XMem} {tp : Prop} {out : Option Value}
theorem lw_back {avs : List Value} (tw : TW D E s μ ν H locs) {st0 : List Value}
    (hr : va_Run p l e R s m args below meth c H locs cells slots mc' ms' (F0 m pc ls st0) rest (XQ D E (Am μ) out μ' tp avs.toArray) (Am μ)) (hxa : tp → XA μ μ')
    (kk : ∀ (H1 : Heap) (locs1 : List Loc), TW D E s μ' (sZ ν H1.size) H1 locs1 → H.size ≤ H1.size → tp → W p l e R s m args below meth c H1 locs1 (cells + mc') (slots + ms') Q (F0 m (pc + 3) ls (out.toList ++ rest))) :
    W p l e R s m args below meth c H locs cells slots Q (F0 m pc ls st0) := by
  intro T hT X
  obtain ⟨v, st₀, t, T', L, h0, X', hL, e1, e2, ⟨hv, hp, ⟨hz, hk⟩, htp⟩, st⟩ := hr T hT X
  cases hv
  rw [h0] at hz hk
  obtain ⟨hr0, hS, hA, hA0, hm⟩ := tw.wd
  have hn : ∀ q, Am μ q → s.heap.size ≤ q := by
    rintro q (⟨t, h⟩ | h)
    · exact hA q t h
    · have := hS.1; have := hr0.1; omega
  have xa := hxa htp
  have hzz : H.size ≤ T'.heap.size := by rw [e1]; exact hz
  have fz : ∀ (q : Nat) (u : XTy), mT ν q = some u → T'.heap[q]? = H[q]? := fun q u hq => by
    have hlt := tw.2.1.lt hq
    rw [e1]
    refine hk q hlt ?_
    rintro (⟨w, hw⟩ | hw)
    · exact tw.2.2.2.2.2 q w u hw hq
    · have := tw.1.1; omega
  have tw' : TW D E s μ' (sZ ν T'.heap.size) T'.heap (locs ++ L) := by
    refine ⟨by rw [e1]; exact hp, tw.2.1.kept fz, ⟨Nat.le_trans hS.1 hzz, fun q h1 h2 => ?_, fun q hq => ?_⟩, fun q u hq => hn q (xa.2 q u hq), tw.2.2.2.2.1, fun q u w h1 h2 => ?_⟩
    · rw [e1, hk q (Nat.lt_of_lt_of_le h1 hS.1) (fun z => h2 (hn q z))]
      exact hS.2.1 q h1 h2
    · rcases List.mem_append.mp hq with h | h
      · exact hS.2.2 q h
      · exact hn _ (hL q h)
    · rcases xa.2 q u h1 with ⟨x, hx⟩ | hx
      · exact tw.2.2.2.2.2 q x w hx h2
      · have h3 : mT ν q = none := xN_fresh tw.2.1 (by have := tw.1.1; have := tw.2.1.1; omega)
        have h2' : mT ν q = some w := h2
        rw [h3] at h2'
        cases h2'
  obtain ⟨t2, a1, b1⟩ := kk T'.heap (locs ++ L) tw' hzz htp T' rfl X'
  exact ⟨t2, st t2 a1, b1⟩
theorem lw_callV (C : Cx p s m args c cc nL own D E (fun q => s.heap.size ≤ q) tU) (hl : ls.size = nL) (tw : TW D E s μ ν H locs) (cb : CB own idx y bytes maxL ret n) (cv : CV y) (hM : Ct l y bytes maxL ret d' mc' ms' D E tU (.ref b :: As) μ out μ' tp) (hb : mT μ b = some (.inl ci)) (hc : vwCl[ci]?.map (fun q => q.1) = some y.cls) (hn : As.length = n)
    (hR : d' + 1 ≤ R.frames ∧ 8 + (21 + 11) + 40 * d' ≤ R.locals) (hcs : cells + mc' ≤ R.cells ∧ slots + ms' ≤ R.slots) {st0 : List Value} (hst : st0 = As.reverse ++ .ref b :: rest) (hrs : (rest.map fun v => v.category).sum ≤ 8) (hdg : decode cc pc = .ok (.invokevirtual idx, 3)) (hxa : tp → XA μ μ')
    (kk : ∀ (H1 : Heap) (locs1 : List Loc), TW D E s μ' (sZ ν H1.size) H1 locs1 → H.size ≤ H1.size → tp → W p l e R s m args below meth c H1 locs1 (cells + mc') (slots + ms') Q (F0 m (pc + 3) ls (out.toList ++ rest))) :
    W p l e R s m args below meth c H locs cells slots Q (F0 m pc ls st0) := by
  obtain ⟨⟨c1, c2, c3⟩, c4, c5⟩ := cb
  have hts := C.2.2.2.2.1
  have hw := tw.wd
  have cw : CallW R s args own y.cls idx y bytes maxL ret (Cond.code y bytes maxL ret :: gw_tbl) (rmN d' mc' ms') mc' ms' n := ⟨callB_of n hts (gw_good c3) rfl rfl rfl (hts _ c2) (hts _ c1) c4 ⟨hR.1, by unfold rmN; dsimp only; omega⟩, hts _ cv.1, hts _ cv.2⟩
  exact lw_back (avs := .ref b :: As) tw (va_runV (As := As) (rest := rest) ⟨C.1, C.2.1, C.2.2.1, C.2.2.2.1, hts⟩ hM cw ⟨XPre.blind, x_recv C hw hb hc, fun U hU hW => ⟨rfl, XPre.at C hw hU hW⟩⟩ rfl hn hl hst (lv_room hrs) hdg hcs) hxa kk
theorem lw_callI (C : Cx p s m args c cc nL own D E (fun q => s.heap.size ≤ q) tU) (hl : ls.size = nL) (tw : TW D E s μ ν H locs) (cb : CB own idx y bytes maxL none n) (hy : y.name = "<init>") (cv : CI y) (hM : Ct l y bytes maxL none d' mc' ms' D E tU (.ref b :: As) μ out μ' tp) (hn : As.length = n)
    (hR : d' + 1 ≤ R.frames ∧ 8 + (21 + 11) + 40 * d' ≤ R.locals) (hcs : cells + mc' ≤ R.cells ∧ slots + ms' ≤ R.slots) {st0 : List Value} (hst : st0 = As.reverse ++ .ref b :: rest) (hrs : (rest.map fun v => v.category).sum ≤ 8) (hdg : decode cc pc = .ok (.invokespecial idx, 3)) (hxa : tp → XA μ μ')
    (kk : ∀ (H1 : Heap) (locs1 : List Loc), TW D E s μ' (sZ ν H1.size) H1 locs1 → H.size ≤ H1.size → tp → W p l e R s m args below meth c H1 locs1 (cells + mc') (slots + ms') Q (F0 m (pc + 3) ls (out.toList ++ rest))) :
    W p l e R s m args below meth c H locs cells slots Q (F0 m pc ls st0) := by
  obtain ⟨⟨c1, c2, c3⟩, c4, c5⟩ := cb
  have hts := C.2.2.2.2.1
  have hw := tw.wd
  exact lw_back (avs := .ref b :: As) tw (va_runI (As := As) (rest := rest) ⟨C.1, C.2.1, C.2.2.1, C.2.2.2.1, hts⟩ hM ⟨callB_of n hts (gw_good c3) rfl rfl rfl (hts _ c2) (hts _ c1) c4 ⟨hR.1, by unfold rmN; dsimp only; omega⟩, hy, hts _ cv⟩ ⟨XPre.blind, fun U hU hW => ⟨rfl, XPre.at C hw hU hW⟩⟩ rfl hn hl hst (lv_room hrs) hdg hcs) hxa kk
def LSc (p : Program) (s : State) (c : Code) (b L : Nat) (xs : Nat → Int32) : Prop := p.tables.exec = Jvm.exec ∧ c.code = code ∧ va_X b L xs s s.heap ∧ b < s.heap.size ∧ L ≤ 3072
def lcs (b g h k : Nat) : List (Nat × Value) := [(0, .ref b), (1, .ref g), (2, .ref h), (3, .int (nI (6 * k)))]
/-- one int of the script -/
theorem ls_arg {L g h : Nat} {xs : Nat → Int32} (S : LSc p s c b L xs) (tw : TW D E s μ ν H locs) {k j : Nat} {i : Int} (hl : lv_has ls 4 (lcs b g h k)) (hk : 6 * k + 6 ≤ L) (hj : j < 6) (hn : Int32.ofInt i = nI j) (d0 : decode code pc = .ok (.aload_n 0, 1)) (d1 : decode code (pc + 1) = .ok (.iload_n 3, 1)) (d2 : decode code (pc + 2) = .ok (.iconst i, 1)) (d3 : decode code (pc + 3) = .ok (.iadd, 1)) (d4 : decode code (pc + 4) = .ok (.iaload, 1))
    (kk : W p l e R s m args below meth c H locs cells slots Q (F0 m (pc + 5) ls (.int (xs (6 * k + j)) :: rest))) : W p l e R s m args below meth c H locs cells slots Q (F0 m pc ls rest) := by
  obtain ⟨hx, hb, hX, hbl, hL⟩ := S
  refine lv_aload_n hx hb d0 rfl (lv_at hl 0 rfl) ?_
  refine lv_iload_n hx hb d1 rfl (lv_at hl 3 rfl) ?_
  refine lv_iconst hx hb d2 hn ?_
  refine lv_iadd hx hb d3 ?_
  rw [nI_add]
  refine va_sld (A := fun q => s.heap.size ≤ q) hx hb hX hbl (by omega) tw.2.2.1 (by rintro (q | q); exact nI_pos (by omega) q; rw [nI_clamp (by omega)] at q; omega) d4 ?_
  rw [nI_clamp (by omega)]
  exact kk
end LAWROW
def LI (D : va_G) (E : Nat → ClassId) (s : State) (b g h : Nat) (μ ν : XMem) (H : Heap) (locs : List Loc) (ls : Array Slot) (k : Nat) : Prop :=
  TW D E s μ ν H locs ∧ Rel g μ h ν ∧ mT μ g = some (.inl 9) ∧ mT ν h = some (.inl 10) ∧ g + 63 ≤ H.size ∧ lv_has ls 4 (lcs b g h k)
