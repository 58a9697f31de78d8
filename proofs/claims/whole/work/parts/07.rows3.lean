/-! CONTRACTS, entry, returns, calls -/
def rmN (d mc ms : Nat) : Room := { frames := d, cells := mc, slots := ms, locals := 40 * d }
def Am (μ : XMem) : Nat → Prop := fun q => (∃ t, mT μ q = some t) ∨ mZ μ ≤ q
def XPre (D : va_G) (E : Nat → ClassId) (tU : Nat) (μ : XMem) (U : State) : Prop := XRep D E μ U.heap ∧ XK D E U ∧ XN U ∧ XU tU (Am μ) U U.heap
def XQ (D : va_G) (E : Nat → ClassId) (A : Nat → Prop) (out : Option Value) (μ' : XMem) (tp : Prop) : Array Value → State → Outcome → State → Prop := fun _ st oc t => oc = .returned out ∧ XRep D E μ' t.heap ∧ va_F A st t ∧ tp
def Ct (l : Launch) (y : MethodName) (b : ByteArray) (nL : Nat) (r : Option FieldType) (d mc ms : Nat) (D : va_G) (E : Nat → ClassId) (tU : Nat) (avs : List Value) (μ : XMem) (out : Option Value) (μ' : XMem) (tp : Prop) : Prop :=
  Met l y (Cond.code y b nL r :: gw_tbl) (rmN d mc ms) (va_Pc avs (fun U => XPre D E tU μ U)) (XQ D E (Am μ) out μ' tp) mc ms (Am μ)
theorem XN.warm {s U : State} (hW : s.WarmedH U.vm) (h : XN s) : XN U := by
  obtain ⟨⟨h1, h2, h3, h4, h5, h6, h7, h8⟩, g1, g2, g3, g4⟩ := h
  exact ⟨⟨h1.warmM hW, h2.warmM hW, h3.warmM hW, h4.warmM hW, h5.warmM hW, h6.warmM hW, h7.warmM hW, h8.warmF hW⟩, g1.moved hW.alike, g2.moved hW.alike, g3.moved hW.alike, g4.moved hW.alike⟩
theorem XN.same {u U : State} (h : u.vm = U.vm) (hn : XN u) : XN U := by
  obtain ⟨⟨h1, h2, h3, h4, h5, h6, h7, h8⟩, g1, g2, g3, g4⟩ := hn
  have ha : u.vm.Alike U.vm := by rw [h]; exact Vm.Alike.refl _
  exact ⟨⟨h1.same rfl h, h2.same rfl h, h3.same rfl h, h4.same rfl h, h5.same rfl h, h6.same rfl h, h7.same rfl h, h8.same rfl h⟩, g1.moved ha, g2.moved ha, g3.moved ha, g4.moved ha⟩
theorem XPre.blind {D : va_G} {E : Nat → ClassId} {tU : Nat} {μ : XMem} {avs : List Value} : FrameBlind (va_Pc avs (fun U => XPre D E tU μ U)) := by
  intro a U g mk h
  obtain ⟨h0, h1, h2, h3, h4, h5⟩ := h
  exact ⟨h0, h1, va_K.moved (u := U) (U := U.calling g mk a) (Vm.Alike.refl U.vm) h2, h3.same rfl, va_Z.moved (u := U) (U := U.calling g mk a) (Vm.Alike.refl U.vm) h4, va_T.moved (u := U) (U := U.calling g mk a) (Vm.Alike.refl U.vm) h5⟩
section XROW3
variable {p : Program} {l : Launch} {e : Env} {R : Room} {s : State} {m : MethodId} {args : Array Value} {below : List Frame} {meth : Method} {c : Code} {H : Heap} {locs : List Loc} {cells slots : Nat} {Q : State → Prop}
variable {cc : ByteArray} {nL pc : Nat} {ls : Array Slot} {rest : List Value} {D : va_G} {E : Nat → ClassId} {A : Nat → Prop} {tU : Nat} {τ : Nat → Option XTy} {μ : XMem} {own : String} {a : Nat}
theorem XPre.at (C : Cx p s m args c cc nL own D E A tU) (hw : Wd D E A s τ μ H locs) {U : State} (hU : U.heap = H) (hW : s.WarmedH U.vm) : XPre D E tU μ U := by
  obtain ⟨hx, hb, hml, hown, hts, hK, hN, hZ, hT⟩ := C
  obtain ⟨hr, hS, hA, hA0, hm⟩ := hw
  have hn : ∀ q, Am μ q → A q := by
    rintro q (⟨t, h⟩ | h)
    · exact hA q t (by rw [← hm]; exact h)
    · exact hA0 q (by have := hS.1; have := hr.1; omega)
  refine ⟨by rw [hU]; exact hr, va_K.moved hW.alike hK, hN.warm hW, ?_, ?_⟩
  · exact ((hZ.kept (H1 := U.heap) (fun q h1 h2 => by rw [hU]; exact hS.2.1 q h1 h2)).moved hW.alike).narrow hn
  · exact ((hT.kept (H1 := U.heap) (fun q h1 h2 => by rw [hU]; exact hS.2.1 q h1 h2)).moved hW.alike).narrow hn
theorem Ct.of {y : MethodName} {b : ByteArray} {r : Option FieldType} {d mc ms : Nat} {avs : List Value} {out : Option Value} {μ' : XMem} {tp : Prop} (hy : plainName y.cls = true) (hln : (lg_sl avs).length ≤ nL)
    (body : ∀ (p : Program) (e : Env) (s : State) (m : MethodId) (below : List Frame) (meth : Method) (c : Code) (ls : Array Slot), Cx p s m avs.toArray c b nL y.cls D E (Am μ) tU → meth.sig.returnType = r → meth.locks = false → meth.name = y.name → lv_has ls nL (lv_args 0 avs) → Wd D E (Am μ) s (mT μ) μ s.heap [] →
      W p l e (rmN d mc ms) s m avs.toArray below meth c s.heap [] 0 0 (MQ below (XQ D E (Am μ) out μ' tp) avs.toArray s mc ms (Am μ)) (F0 m 0 ls [])) : Ct l y b nL r d mc ms D E tU avs μ out μ' tp := by
  refine Met.ofW (cc := b) (maxL := nL) (ret := r) hy rfl ?_
  intro p e s m args below meth c s₁ B hml hv
  obtain ⟨rfl, hr, hK, hN, hU⟩ := hv
  have hts := atoms_spec (ws := Cond.code y b nL r :: gw_tbl) B.pre
  have hl := lv_entry avs (n := nL) hln
  rw [lg_entry_eq]
  refine body p e s m below meth c _ ⟨B.exec, B.bytes, hml, findClass_of_methodNamed B.named, fun w h => hts w (List.mem_cons_of_mem _ h), hK, hN, hU⟩ B.returns B.notSynchronized (name_of_methodNamed B.named B.method).1 hl ⟨hr, va_S.rf, fun q t h => Or.inl ⟨t, h⟩, fun q h => Or.inr (by rw [← hr.1]; exact h), rfl⟩
theorem XQ.of {μ0 μ' : XMem} {out : Option Value} {tp : Prop} (hw : Wd D E (Am μ0) s τ μ' H locs) (htp : tp) {t : State} (ht : t.heap = H) : XQ D E (Am μ0) out μ' tp args s (.returned out) t :=
  ⟨rfl, by rw [ht]; exact hw.1, hw.2.1.F ht, htp⟩
theorem x_ireturn {μ0 : XMem} {mc ms : Nat} {v : Int32} {tp : Prop} (C : Cx p s m args c cc nL own D E (Am μ0) tU) (hr : meth.sig.returnType = some .int) (hk : meth.locks = false) (hw : Wd D E (Am μ0) s τ μ H locs) (htp : tp) (h1 : cells ≤ mc) (h2 : slots ≤ ms) (hdg : decode cc pc = .ok (.ireturn, 1)) :
    W p l e R s m args below meth c H locs cells slots (MQ below (XQ D E (Am μ0) (some (.int v)) μ tp) args s mc ms (Am μ0)) (F0 m pc ls [.int v]) :=
  W.widen h1 h2 (W.iret C.1 C.2.1 hr (fun _ ht _ => XQ.of hw htp ht) hw.2.1.2.2 hdg hk)
theorem x_zreturn {μ0 : XMem} {mc ms : Nat} {v : Int32} {tp : Prop} (C : Cx p s m args c cc nL own D E (Am μ0) tU) (hr : meth.sig.returnType = some .boolean) (hk : meth.locks = false) (hv : v = 0 ∨ v = 1) (hw : Wd D E (Am μ0) s τ μ H locs) (htp : tp) (h1 : cells ≤ mc) (h2 : slots ≤ ms) (hdg : decode cc pc = .ok (.ireturn, 1)) :
    W p l e R s m args below meth c H locs cells slots (MQ below (XQ D E (Am μ0) (some (.int v)) μ tp) args s mc ms (Am μ0)) (F0 m pc ls [.int v]) :=
  W.widen h1 h2 (W.zret C.1 C.2.1 hr (by rcases hv with rfl | rfl <;> rfl) (fun _ ht _ => XQ.of hw htp ht) hw.2.1.2.2 hdg hk)
theorem x_lreturn {μ0 : XMem} {mc ms : Nat} {v : Int64} {tp : Prop} (C : Cx p s m args c cc nL own D E (Am μ0) tU) (hr : meth.sig.returnType = some .long) (hk : meth.locks = false) (hw : Wd D E (Am μ0) s τ μ H locs) (htp : tp) (h1 : cells ≤ mc) (h2 : slots ≤ ms) (hdg : decode cc pc = .ok (.lreturn, 1)) :
    W p l e R s m args below meth c H locs cells slots (MQ below (XQ D E (Am μ0) (some (.long v)) μ tp) args s mc ms (Am μ0)) (F0 m pc ls [.long v]) :=
  W.widen h1 h2 (W.lret C.1 C.2.1 hr (fun _ ht _ => XQ.of hw htp ht) hw.2.1.2.2 hdg hk)
theorem x_return {μ0 : XMem} {mc ms : Nat} {tp : Prop} (C : Cx p s m args c cc nL own D E (Am μ0) tU) (hr : meth.sig.returnType = none) (hk : meth.locks = false) (hw : Wd D E (Am μ0) s τ μ H locs) (htp : tp) (h1 : cells ≤ mc) (h2 : slots ≤ ms) (hdg : decode cc pc = .ok (.return_, 1)) :
    W p l e R s m args below meth c H locs cells slots (MQ below (XQ D E (Am μ0) none μ tp) args s mc ms (Am μ0)) (F0 m pc ls []) :=
  W.widen h1 h2 (W.vret C.1 C.2.1 hr (fun _ ht _ => XQ.of hw htp ht) hw.2.1.2.2 hdg hk)
theorem va_rf_cases (o : Option Nat) : va_rf o = .null ∨ ∃ a, va_rf o = .ref a := by
  cases o with
  | none => exact Or.inl rfl
  | some a => exact Or.inr ⟨a, rfl⟩
theorem x_areturn {μ0 : XMem} {mc ms : Nat} {o : Option Nat} {Cn : String} {tp : Prop} (C : Cx p s m args c cc nL own D E (Am μ0) tU) (hr : meth.sig.returnType = some (.object Cn)) (hk : meth.locks = false) (hw : Wd D E (Am μ0) s τ μ H locs) (htp : tp) (h1 : cells ≤ mc) (h2 : slots ≤ ms) (hdg : decode cc pc = .ok (.areturn, 1)) :
    W p l e R s m args below meth c H locs cells slots (MQ below (XQ D E (Am μ0) (some (va_rf o)) μ tp) args s mc ms (Am μ0)) (F0 m pc ls [va_rf o]) :=
  W.widen h1 h2 (W.aret C.1 C.2.1 hr (Or.inl ⟨_, rfl⟩) (va_rf_cases o) (fun _ ht _ => XQ.of hw htp ht) hw.2.1.2.2 hdg hk)
/-- what a call needs to know of its link -/
def CB (own : String) (idx : Nat) (y : MethodName) (b : ByteArray) (maxL : Nat) (r : Option FieldType) (n : Nat) : Prop :=
  CA own idx y b maxL r ∧ (y.cls ≠ "java/lang/invoke/MethodHandle" ∧ y.cls ≠ "java/lang/invoke/VarHandle" ∧ (parseMethodDescriptor y.desc).map (fun d => d.parameters.length) = some n) ∧ maxL ≤ 21
theorem rm_ok {d d' mc ms mc' ms' maxL : Nat} (h : d' + 1 ≤ d) (hm : maxL ≤ 21) : (rmN d' mc' ms').frames + 1 ≤ (rmN d mc ms).frames ∧ 8 + (maxL + 11) + (rmN d' mc' ms').locals ≤ (rmN d mc ms).locals := by
  unfold rmN
  dsimp only
  omega
theorem x_recv (C : Cx p s m args c cc nL own D E A tU) (hw : Wd D E A s τ μ H locs) {b ci : Nat} {Cn : String} (hb : τ b = some (.inl ci)) (hc : vwCl[ci]?.map (fun q => q.1) = some Cn) : ∃ cellB : Cell, H[b]? = some cellB ∧ cellB.vm.isStatics = false ∧ s.vm.findClass Cn = some cellB.cls := by
  obtain ⟨r, h1, cell, q1, q2, q3, -⟩ := hw.1.2.1 b ci (by rw [hw.2.2.2.2]; exact hb)
  rw [h1] at hc
  cases hc
  exact ⟨cell, q1, by rw [q3]; rfl, by rw [q2]; exact (C.2.2.2.2.2.1.1 ci r h1).2.1⟩
/-- behind a call -/
theorem x_back {mc' ms' : Nat} {avs : List Value} {out : Option Value} {μ' : XMem} {tp : Prop} (hw : Wd D E A s τ μ H locs) {st0 : List Value}
    (hr : va_Run p l e R s m args below meth c H locs cells slots mc' ms' (F0 m pc ls st0) rest (XQ D E (Am μ) out μ' tp avs.toArray) (Am μ))
    (kk : ∀ (H1 : Heap) (locs1 : List Loc), XRep D E μ' H1 → va_S A s.heap H1 locs1 → H.size ≤ H1.size → tp → W p l e R s m args below meth c H1 locs1 (cells + mc') (slots + ms') Q (F0 m (pc + 3) ls (out.toList ++ rest))) :
    W p l e R s m args below meth c H locs cells slots Q (F0 m pc ls st0) := by
  intro T hT X
  obtain ⟨v, st₀, t, T', L, h0, X', hL, e1, e2, ⟨hv, hp, ⟨hz, hk⟩, htp⟩, st⟩ := hr T hT X
  cases hv
  rw [h0] at hz hk
  obtain ⟨hr0, hS, hA, hA0, hm⟩ := hw
  have hn : ∀ q, Am μ q → A q := by
    rintro q (⟨t, h⟩ | h)
    · exact hA q t (by rw [← hm]; exact h)
    · exact hA0 q (by have := hS.1; have := hr0.1; omega)
  obtain ⟨t2, a1, b1⟩ := kk T'.heap (locs ++ L) (by rw [e1]; exact hp) ⟨Nat.le_trans hS.1 (by rw [e1]; exact hz), fun q h1 h2 => by
      rw [e1, hk q (Nat.lt_of_lt_of_le h1 hS.1) (fun z => h2 (hn q z))]
      exact hS.2.1 q h1 h2, fun q hq => by
      rcases List.mem_append.mp hq with h | h
      · exact hS.2.2 q h
      · exact hn _ (hL q h)⟩ (by rw [e1]; exact hz) htp T' rfl X'
  exact ⟨t2, st t2 a1, b1⟩
theorem x_runV {d mc ms d' mc' ms' : Nat} {idx n maxL : Nat} {y : MethodName} {bytes : ByteArray} {ret : Option FieldType} {b ci : Nat} {As : List Value} {out : Option Value} {μ' : XMem} {tp : Prop} (C : Cx p s m args c cc nL own D E A tU) (hl : ls.size = nL) (hw : Wd D E A s τ μ H locs) (cb : CB own idx y bytes maxL ret n) (cv : CV y) (hM : Ct l y bytes maxL ret d' mc' ms' D E tU (.ref b :: As) μ out μ' tp) (hb : τ b = some (.inl ci)) (hc : vwCl[ci]?.map (fun q => q.1) = some y.cls) (hn : As.length = n)
    (hd : d' + 1 ≤ d) (hcs : cells + mc' ≤ mc ∧ slots + ms' ≤ ms) {st0 : List Value} (hst : st0 = As.reverse ++ .ref b :: rest) (hrs : (rest.map fun v => v.category).sum ≤ 8) (hdg : decode cc pc = .ok (.invokevirtual idx, 3))
    (kk : ∀ (H1 : Heap) (locs1 : List Loc), XRep D E μ' H1 → va_S A s.heap H1 locs1 → H.size ≤ H1.size → tp → W p l e (rmN d mc ms) s m args below meth c H1 locs1 (cells + mc') (slots + ms') Q (F0 m (pc + 3) ls (out.toList ++ rest))) :
    W p l e (rmN d mc ms) s m args below meth c H locs cells slots Q (F0 m pc ls st0) := by
  obtain ⟨⟨c1, c2, c3⟩, c4, c5⟩ := cb
  have hts := C.2.2.2.2.1
  have cw : CallW (rmN d mc ms) s args own y.cls idx y bytes maxL ret (Cond.code y bytes maxL ret :: gw_tbl) (rmN d' mc' ms') mc' ms' n := ⟨callB_of n hts (gw_good c3) rfl rfl rfl (hts _ c2) (hts _ c1) c4 (rm_ok hd c5), hts _ cv.1, hts _ cv.2⟩
  exact x_back (avs := .ref b :: As) hw (va_runV (As := As) (rest := rest) ⟨C.1, C.2.1, C.2.2.1, C.2.2.2.1, hts⟩ hM cw ⟨XPre.blind, x_recv C hw hb hc, fun U hU hW => ⟨rfl, XPre.at C hw hU hW⟩⟩ rfl hn hl hst (lv_room hrs) hdg hcs) kk
theorem x_runS {d mc ms d' mc' ms' : Nat} {idx n maxL : Nat} {y : MethodName} {bytes : ByteArray} {ret : Option FieldType} {As : List Value} {out : Option Value} {μ' : XMem} {tp : Prop} (C : Cx p s m args c cc nL own D E A tU) (hl : ls.size = nL) (hw : Wd D E A s τ μ H locs) (cb : CB own idx y bytes maxL ret n) (cv : CS y) (hM : Ct l y bytes maxL ret d' mc' ms' D E tU As μ out μ' tp) (hn : As.length = n)
    (hd : d' + 1 ≤ d) (hcs : cells + mc' ≤ mc ∧ slots + ms' ≤ ms) {st0 : List Value} (hst : st0 = As.reverse ++ rest) (hrs : (rest.map fun v => v.category).sum ≤ 8) (hdg : decode cc pc = .ok (.invokestatic idx, 3))
    (kk : ∀ (H1 : Heap) (locs1 : List Loc), XRep D E μ' H1 → va_S A s.heap H1 locs1 → H.size ≤ H1.size → tp → W p l e (rmN d mc ms) s m args below meth c H1 locs1 (cells + mc') (slots + ms') Q (F0 m (pc + 3) ls (out.toList ++ rest))) :
    W p l e (rmN d mc ms) s m args below meth c H locs cells slots Q (F0 m pc ls st0) := by
  obtain ⟨⟨c1, c2, c3⟩, c4, c5⟩ := cb
  have hts := C.2.2.2.2.1
  exact x_back (avs := As) hw (va_runS (As := As) (rest := rest) ⟨C.1, C.2.1, C.2.2.1, C.2.2.2.1, hts⟩ hM ⟨callB_of n hts (gw_good c3) rfl rfl rfl (hts _ c2) (hts _ c1) c4 (rm_ok hd c5), hts _ cv⟩ ⟨XPre.blind, fun U hU hW => ⟨rfl, XPre.at C hw hU hW⟩⟩ rfl hn hl hst (lv_room hrs) hdg hcs) kk
theorem x_runI {d mc ms d' mc' ms' : Nat} {idx n maxL : Nat} {y : MethodName} {bytes : ByteArray} {b : Nat} {As : List Value} {out : Option Value} {μ' : XMem} {tp : Prop} (C : Cx p s m args c cc nL own D E A tU) (hl : ls.size = nL) (hw : Wd D E A s τ μ H locs) (cb : CB own idx y bytes maxL none n) (hy : y.name = "<init>") (cv : CI y) (hM : Ct l y bytes maxL none d' mc' ms' D E tU (.ref b :: As) μ out μ' tp) (hn : As.length = n)
    (hd : d' + 1 ≤ d) (hcs : cells + mc' ≤ mc ∧ slots + ms' ≤ ms) {st0 : List Value} (hst : st0 = As.reverse ++ .ref b :: rest) (hrs : (rest.map fun v => v.category).sum ≤ 8) (hdg : decode cc pc = .ok (.invokespecial idx, 3))
    (kk : ∀ (H1 : Heap) (locs1 : List Loc), XRep D E μ' H1 → va_S A s.heap H1 locs1 → H.size ≤ H1.size → tp → W p l e (rmN d mc ms) s m args below meth c H1 locs1 (cells + mc') (slots + ms') Q (F0 m (pc + 3) ls (out.toList ++ rest))) :
    W p l e (rmN d mc ms) s m args below meth c H locs cells slots Q (F0 m pc ls st0) := by
  obtain ⟨⟨c1, c2, c3⟩, c4, c5⟩ := cb
  have hts := C.2.2.2.2.1
  exact x_back (avs := .ref b :: As) hw (va_runI (As := As) (rest := rest) ⟨C.1, C.2.1, C.2.2.1, C.2.2.2.1, hts⟩ hM ⟨callB_of n hts (gw_good c3) rfl rfl rfl (hts _ c2) (hts _ c1) c4 (rm_ok hd c5), hy, hts _ cv⟩ ⟨XPre.blind, fun U hU hW => ⟨rfl, XPre.at C hw hU hW⟩⟩ rfl hn hl hst (lv_room hrs) hdg hcs) kk
/-- a nest mate's constructor -/
theorem x_runIN {d mc ms d' mc' ms' : Nat} {idx n maxL : Nat} {y : MethodName} {host : String} {bytes : ByteArray} {b : Nat} {As : List Value} {out : Option Value} {μ' : XMem} {tp : Prop} (C : Cx p s m args c cc nL own D E A tU) (hl : ls.size = nL) (hw : Wd D E A s τ μ H locs) (hnw : va_Nw (.methodLinkNest own idx y host) s) (hco : Cond.code y bytes maxL none ∈ gw_tbl) (hini : Cond.initialized y.cls ∈ gw_tbl) (c4 : y.cls ≠ "java/lang/invoke/MethodHandle" ∧ y.cls ≠ "java/lang/invoke/VarHandle" ∧ (parseMethodDescriptor y.desc).map (fun d => d.parameters.length) = some n) (c5 : maxL ≤ 21) (hy : y.name = "<init>") (cv : CI y) (hM : Ct l y bytes maxL none d' mc' ms' D E tU (.ref b :: As) μ out μ' tp) (hn : As.length = n)
    (hd : d' + 1 ≤ d) (hcs : cells + mc' ≤ mc ∧ slots + ms' ≤ ms) {st0 : List Value} (hst : st0 = As.reverse ++ .ref b :: rest) (hrs : (rest.map fun v => v.category).sum ≤ 8) (hdg : decode cc pc = .ok (.invokespecial idx, 3))
    (kk : ∀ (H1 : Heap) (locs1 : List Loc), XRep D E μ' H1 → va_S A s.heap H1 locs1 → H.size ≤ H1.size → tp → W p l e (rmN d mc ms) s m args below meth c H1 locs1 (cells + mc') (slots + ms') Q (F0 m (pc + 3) ls (out.toList ++ rest))) :
    W p l e (rmN d mc ms) s m args below meth c H locs cells slots Q (F0 m pc ls st0) := by
  have hts := C.2.2.2.2.1
  exact x_back (avs := .ref b :: As) hw (va_runIN (host := host) (As := As) (rest := rest) ⟨C.1, C.2.1, C.2.2.1, C.2.2.2.1, hts⟩ hM ⟨va_cnB n hts (gw_good hco) rfl rfl rfl hnw (hts _ hini) c4 (rm_ok hd c5), hy, hts _ cv⟩ ⟨XPre.blind, fun U hU hW => ⟨rfl, XPre.at C hw hU hW⟩⟩ rfl hn hl hst (lv_room hrs) hdg hcs) kk
/-- the world behind a call that makes nothing -/
theorem Wd.same {μ' : XMem} {H1 : Heap} {locs1 : List Loc} (hw : Wd D E A s τ μ H locs) (hr : XRep D E μ' H1) (hS : va_S A s.heap H1 locs1) (hT : mT μ' = mT μ) : Wd D E A s τ μ' H1 locs1 :=
  ⟨hr, hS, hw.2.2.1, hw.2.2.2.1, hT.trans hw.2.2.2.2⟩
end XROW3
