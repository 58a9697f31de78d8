/-- what a method that makes nothing leaves of the kinds; what one that makes cells leaves -/
def XA (μ μ' : XMem) : Prop := (∀ q u, mT μ q = some u → mT μ' q = some u) ∧ ∀ q u, mT μ' q = some u → Am μ q
section XROW5
variable {p : Program} {l : Launch} {e : Env} {R : Room} {s : State} {m : MethodId} {args : Array Value} {below : List Frame} {meth : Method} {c : Code} {H : Heap} {locs : List Loc} {cells slots : Nat} {Q : State → Prop}
variable {cc : ByteArray} {nL pc : Nat} {ls : Array Slot} {rest : List Value} {D : va_G} {E : Nat → ClassId} {A : Nat → Prop} {tU : Nat} {τ : Nat → Option XTy} {μ : XMem} {own : String} {a : Nat}
variable {d mc ms d' mc' ms' : Nat} {idx n maxL : Nat} {y : MethodName} {bytes : ByteArray} {ret : Option FieldType} {b ci : Nat} {As : List Value} {μ' : XMem} {tp : Prop}
theorem Wd.grow {H1 : Heap} {locs1 : List Loc} (hw : Wd D E A s τ μ H locs) (hr : XRep D E μ' H1) (hS : va_S A s.heap H1 locs1) (hT : XA μ μ') : Wd D E A s (mT μ') μ' H1 locs1 ∧ (∀ q u, τ q = some u → mT μ' q = some u) := by
  obtain ⟨h0, h1, h2, h3, h4⟩ := hw
  refine ⟨⟨hr, hS, fun q u h => ?_, h3, rfl⟩, fun q u h => hT.1 q u (by rw [h4]; exact h)⟩
  rcases hT.2 q u h with ⟨t, g⟩ | g
  · exact h2 q t (by rw [← h4]; exact g)
  · exact h3 q (by have := h1.1; have := h0.1; omega)
theorem lv_topq {x : Option Nat} (k : ∀ y : Option Nat, y = x → W p l e R s m args below meth c H locs cells slots Q (F0 m pc ls (va_rf y :: rest))) : W p l e R s m args below meth c H locs cells slots Q (F0 m pc ls (va_rf x :: rest)) := k x rfl
theorem x_callVi {r : Int32} (C : Cx p s m args c cc nL own D E A tU) (hl : ls.size = nL) (hw : Wd D E A s τ μ H locs) (cb : CB own idx y bytes maxL ret n) (cv : CV y) (hM : Ct l y bytes maxL ret d' mc' ms' D E tU (.ref b :: As) μ (some (.int r)) μ' (mT μ' = mT μ ∧ tp)) (hb : τ b = some (.inl ci)) (hc : vwCl[ci]?.map (fun q => q.1) = some y.cls) (hn : As.length = n) (hd : d' + 1 ≤ d) (hcs : cells + mc' ≤ mc ∧ slots + ms' ≤ ms) {st0 : List Value} (hst : st0 = As.reverse ++ .ref b :: rest) (hrs : (rest.map fun v => v.category).sum ≤ 8) (hdg : decode cc pc = .ok (.invokevirtual idx, 3))
    (kk : ∀ (H1 : Heap) (locs1 : List Loc), Wd D E A s τ μ' H1 locs1 → tp → W p l e (rmN d mc ms) s m args below meth c H1 locs1 (cells + mc') (slots + ms') Q (F0 m (pc + 3) ls (.int r :: rest))) :
    W p l e (rmN d mc ms) s m args below meth c H locs cells slots Q (F0 m pc ls st0) := x_runV C hl hw cb cv hM hb hc hn hd hcs hst hrs hdg (fun H1 locs1 h1 h2 _ h4 => kk H1 locs1 (hw.same h1 h2 h4.1) h4.2)
theorem x_callVl {r : Int64} (C : Cx p s m args c cc nL own D E A tU) (hl : ls.size = nL) (hw : Wd D E A s τ μ H locs) (cb : CB own idx y bytes maxL ret n) (cv : CV y) (hM : Ct l y bytes maxL ret d' mc' ms' D E tU (.ref b :: As) μ (some (.long r)) μ' (mT μ' = mT μ ∧ tp)) (hb : τ b = some (.inl ci)) (hc : vwCl[ci]?.map (fun q => q.1) = some y.cls) (hn : As.length = n) (hd : d' + 1 ≤ d) (hcs : cells + mc' ≤ mc ∧ slots + ms' ≤ ms) {st0 : List Value} (hst : st0 = As.reverse ++ .ref b :: rest) (hrs : (rest.map fun v => v.category).sum ≤ 8) (hdg : decode cc pc = .ok (.invokevirtual idx, 3))
    (kk : ∀ (H1 : Heap) (locs1 : List Loc), Wd D E A s τ μ' H1 locs1 → tp → W p l e (rmN d mc ms) s m args below meth c H1 locs1 (cells + mc') (slots + ms') Q (F0 m (pc + 3) ls (.long r :: rest))) :
    W p l e (rmN d mc ms) s m args below meth c H locs cells slots Q (F0 m pc ls st0) := x_runV C hl hw cb cv hM hb hc hn hd hcs hst hrs hdg (fun H1 locs1 h1 h2 _ h4 => kk H1 locs1 (hw.same h1 h2 h4.1) h4.2)
theorem x_callVv (C : Cx p s m args c cc nL own D E A tU) (hl : ls.size = nL) (hw : Wd D E A s τ μ H locs) (cb : CB own idx y bytes maxL ret n) (cv : CV y) (hM : Ct l y bytes maxL ret d' mc' ms' D E tU (.ref b :: As) μ (none) μ' (mT μ' = mT μ ∧ tp)) (hb : τ b = some (.inl ci)) (hc : vwCl[ci]?.map (fun q => q.1) = some y.cls) (hn : As.length = n) (hd : d' + 1 ≤ d) (hcs : cells + mc' ≤ mc ∧ slots + ms' ≤ ms) {st0 : List Value} (hst : st0 = As.reverse ++ .ref b :: rest) (hrs : (rest.map fun v => v.category).sum ≤ 8) (hdg : decode cc pc = .ok (.invokevirtual idx, 3))
    (kk : ∀ (H1 : Heap) (locs1 : List Loc), Wd D E A s τ μ' H1 locs1 → tp → W p l e (rmN d mc ms) s m args below meth c H1 locs1 (cells + mc') (slots + ms') Q (F0 m (pc + 3) ls (rest))) :
    W p l e (rmN d mc ms) s m args below meth c H locs cells slots Q (F0 m pc ls st0) := x_runV C hl hw cb cv hM hb hc hn hd hcs hst hrs hdg (fun H1 locs1 h1 h2 _ h4 => kk H1 locs1 (hw.same h1 h2 h4.1) h4.2)
theorem x_callVq {r : Option Nat} (C : Cx p s m args c cc nL own D E A tU) (hl : ls.size = nL) (hw : Wd D E A s τ μ H locs) (cb : CB own idx y bytes maxL ret n) (cv : CV y) (hM : Ct l y bytes maxL ret d' mc' ms' D E tU (.ref b :: As) μ (some (va_rf r)) μ' (mT μ' = mT μ ∧ tp)) (hb : τ b = some (.inl ci)) (hc : vwCl[ci]?.map (fun q => q.1) = some y.cls) (hn : As.length = n) (hd : d' + 1 ≤ d) (hcs : cells + mc' ≤ mc ∧ slots + ms' ≤ ms) {st0 : List Value} (hst : st0 = As.reverse ++ .ref b :: rest) (hrs : (rest.map fun v => v.category).sum ≤ 8) (hdg : decode cc pc = .ok (.invokevirtual idx, 3))
    (kk : ∀ (H1 : Heap) (locs1 : List Loc), Wd D E A s τ μ' H1 locs1 → tp → W p l e (rmN d mc ms) s m args below meth c H1 locs1 (cells + mc') (slots + ms') Q (F0 m (pc + 3) ls (va_rf r :: rest))) :
    W p l e (rmN d mc ms) s m args below meth c H locs cells slots Q (F0 m pc ls st0) := x_runV C hl hw cb cv hM hb hc hn hd hcs hst hrs hdg (fun H1 locs1 h1 h2 _ h4 => kk H1 locs1 (hw.same h1 h2 h4.1) h4.2)
theorem x_callSi {r : Int32} (C : Cx p s m args c cc nL own D E A tU) (hl : ls.size = nL) (hw : Wd D E A s τ μ H locs) (cb : CB own idx y bytes maxL ret n) (cv : CS y) (hM : Ct l y bytes maxL ret d' mc' ms' D E tU (As) μ (some (.int r)) μ' (mT μ' = mT μ ∧ tp)) (hn : As.length = n) (hd : d' + 1 ≤ d) (hcs : cells + mc' ≤ mc ∧ slots + ms' ≤ ms) {st0 : List Value} (hst : st0 = As.reverse ++ rest) (hrs : (rest.map fun v => v.category).sum ≤ 8) (hdg : decode cc pc = .ok (.invokestatic idx, 3))
    (kk : ∀ (H1 : Heap) (locs1 : List Loc), Wd D E A s τ μ' H1 locs1 → tp → W p l e (rmN d mc ms) s m args below meth c H1 locs1 (cells + mc') (slots + ms') Q (F0 m (pc + 3) ls (.int r :: rest))) :
    W p l e (rmN d mc ms) s m args below meth c H locs cells slots Q (F0 m pc ls st0) := x_runS C hl hw cb cv hM hn hd hcs hst hrs hdg (fun H1 locs1 h1 h2 _ h4 => kk H1 locs1 (hw.same h1 h2 h4.1) h4.2)
theorem x_callSl {r : Int64} (C : Cx p s m args c cc nL own D E A tU) (hl : ls.size = nL) (hw : Wd D E A s τ μ H locs) (cb : CB own idx y bytes maxL ret n) (cv : CS y) (hM : Ct l y bytes maxL ret d' mc' ms' D E tU (As) μ (some (.long r)) μ' (mT μ' = mT μ ∧ tp)) (hn : As.length = n) (hd : d' + 1 ≤ d) (hcs : cells + mc' ≤ mc ∧ slots + ms' ≤ ms) {st0 : List Value} (hst : st0 = As.reverse ++ rest) (hrs : (rest.map fun v => v.category).sum ≤ 8) (hdg : decode cc pc = .ok (.invokestatic idx, 3))
    (kk : ∀ (H1 : Heap) (locs1 : List Loc), Wd D E A s τ μ' H1 locs1 → tp → W p l e (rmN d mc ms) s m args below meth c H1 locs1 (cells + mc') (slots + ms') Q (F0 m (pc + 3) ls (.long r :: rest))) :
    W p l e (rmN d mc ms) s m args below meth c H locs cells slots Q (F0 m pc ls st0) := x_runS C hl hw cb cv hM hn hd hcs hst hrs hdg (fun H1 locs1 h1 h2 _ h4 => kk H1 locs1 (hw.same h1 h2 h4.1) h4.2)
theorem x_callIv (C : Cx p s m args c cc nL own D E A tU) (hl : ls.size = nL) (hw : Wd D E A s τ μ H locs) (cb : CB own idx y bytes maxL none n) (hy : y.name = "<init>") (cv : CI y) (hM : Ct l y bytes maxL none d' mc' ms' D E tU (.ref b :: As) μ (none) μ' (mT μ' = mT μ ∧ tp)) (hn : As.length = n) (hd : d' + 1 ≤ d) (hcs : cells + mc' ≤ mc ∧ slots + ms' ≤ ms) {st0 : List Value} (hst : st0 = As.reverse ++ .ref b :: rest) (hrs : (rest.map fun v => v.category).sum ≤ 8) (hdg : decode cc pc = .ok (.invokespecial idx, 3))
    (kk : ∀ (H1 : Heap) (locs1 : List Loc), Wd D E A s τ μ' H1 locs1 → tp → W p l e (rmN d mc ms) s m args below meth c H1 locs1 (cells + mc') (slots + ms') Q (F0 m (pc + 3) ls (rest))) :
    W p l e (rmN d mc ms) s m args below meth c H locs cells slots Q (F0 m pc ls st0) := x_runI C hl hw cb hy cv hM hn hd hcs hst hrs hdg (fun H1 locs1 h1 h2 _ h4 => kk H1 locs1 (hw.same h1 h2 h4.1) h4.2)
theorem x_callMv (C : Cx p s m args c cc nL own D E A tU) (hl : ls.size = nL) (hw : Wd D E A s τ μ H locs) {host : String} (hnw : va_Nw (.methodLinkNest own idx y host) s) (hco : Cond.code y bytes maxL none ∈ gw_tbl) (hini : Cond.initialized y.cls ∈ gw_tbl) (c4 : y.cls ≠ "java/lang/invoke/MethodHandle" ∧ y.cls ≠ "java/lang/invoke/VarHandle" ∧ (parseMethodDescriptor y.desc).map (fun d => d.parameters.length) = some n) (c5 : maxL ≤ 21) (hy : y.name = "<init>") (cv : CI y) (hM : Ct l y bytes maxL none d' mc' ms' D E tU (.ref b :: As) μ (none) μ' (mT μ' = mT μ ∧ tp)) (hn : As.length = n) (hd : d' + 1 ≤ d) (hcs : cells + mc' ≤ mc ∧ slots + ms' ≤ ms) {st0 : List Value} (hst : st0 = As.reverse ++ .ref b :: rest) (hrs : (rest.map fun v => v.category).sum ≤ 8) (hdg : decode cc pc = .ok (.invokespecial idx, 3))
    (kk : ∀ (H1 : Heap) (locs1 : List Loc), Wd D E A s τ μ' H1 locs1 → tp → W p l e (rmN d mc ms) s m args below meth c H1 locs1 (cells + mc') (slots + ms') Q (F0 m (pc + 3) ls (rest))) :
    W p l e (rmN d mc ms) s m args below meth c H locs cells slots Q (F0 m pc ls st0) := x_runIN C hl hw hnw hco hini c4 c5 hy cv hM hn hd hcs hst hrs hdg (fun H1 locs1 h1 h2 _ h4 => kk H1 locs1 (hw.same h1 h2 h4.1) h4.2)
theorem x_callVqN {r : Option Nat} (C : Cx p s m args c cc nL own D E A tU) (hl : ls.size = nL) (hw : Wd D E A s τ μ H locs) (cb : CB own idx y bytes maxL ret n) (cv : CV y) (hM : Ct l y bytes maxL ret d' mc' ms' D E tU (.ref b :: As) μ (some (va_rf r)) μ' (XA μ μ' ∧ tp)) (hb : τ b = some (.inl ci)) (hc : vwCl[ci]?.map (fun q => q.1) = some y.cls) (hn : As.length = n) (hd : d' + 1 ≤ d) (hcs : cells + mc' ≤ mc ∧ slots + ms' ≤ ms) {st0 : List Value} (hst : st0 = As.reverse ++ .ref b :: rest) (hrs : (rest.map fun v => v.category).sum ≤ 8) (hdg : decode cc pc = .ok (.invokevirtual idx, 3))
    (kk : ∀ (H1 : Heap) (locs1 : List Loc) (τ1 : Nat → Option XTy), τ1 = mT μ' → Wd D E A s τ1 μ' H1 locs1 → (∀ q u, τ q = some u → τ1 q = some u) → tp → W p l e (rmN d mc ms) s m args below meth c H1 locs1 (cells + mc') (slots + ms') Q (F0 m (pc + 3) ls (va_rf r :: rest))) :
    W p l e (rmN d mc ms) s m args below meth c H locs cells slots Q (F0 m pc ls st0) := x_runV C hl hw cb cv hM hb hc hn hd hcs hst hrs hdg (fun H1 locs1 h1 h2 _ h4 => kk H1 locs1 _ rfl (hw.grow h1 h2 h4.1).1 (hw.grow h1 h2 h4.1).2 h4.2)
theorem x_callIvN (C : Cx p s m args c cc nL own D E A tU) (hl : ls.size = nL) (hw : Wd D E A s τ μ H locs) (cb : CB own idx y bytes maxL none n) (hy : y.name = "<init>") (cv : CI y) (hM : Ct l y bytes maxL none d' mc' ms' D E tU (.ref b :: As) μ (none) μ' (XA μ μ' ∧ tp)) (hn : As.length = n) (hd : d' + 1 ≤ d) (hcs : cells + mc' ≤ mc ∧ slots + ms' ≤ ms) {st0 : List Value} (hst : st0 = As.reverse ++ .ref b :: rest) (hrs : (rest.map fun v => v.category).sum ≤ 8) (hdg : decode cc pc = .ok (.invokespecial idx, 3))
    (kk : ∀ (H1 : Heap) (locs1 : List Loc) (τ1 : Nat → Option XTy), τ1 = mT μ' → Wd D E A s τ1 μ' H1 locs1 → (∀ q u, τ q = some u → τ1 q = some u) → tp → W p l e (rmN d mc ms) s m args below meth c H1 locs1 (cells + mc') (slots + ms') Q (F0 m (pc + 3) ls (rest))) :
    W p l e (rmN d mc ms) s m args below meth c H locs cells slots Q (F0 m pc ls st0) := x_runI C hl hw cb hy cv hM hn hd hcs hst hrs hdg (fun H1 locs1 h1 h2 _ h4 => kk H1 locs1 _ rfl (hw.grow h1 h2 h4.1).1 (hw.grow h1 h2 h4.1).2 h4.2)
theorem x_callMvN (C : Cx p s m args c cc nL own D E A tU) (hl : ls.size = nL) (hw : Wd D E A s τ μ H locs) {host : String} (hnw : va_Nw (.methodLinkNest own idx y host) s) (hco : Cond.code y bytes maxL none ∈ gw_tbl) (hini : Cond.initialized y.cls ∈ gw_tbl) (c4 : y.cls ≠ "java/lang/invoke/MethodHandle" ∧ y.cls ≠ "java/lang/invoke/VarHandle" ∧ (parseMethodDescriptor y.desc).map (fun d => d.parameters.length) = some n) (c5 : maxL ≤ 21) (hy : y.name = "<init>") (cv : CI y) (hM : Ct l y bytes maxL none d' mc' ms' D E tU (.ref b :: As) μ (none) μ' (XA μ μ' ∧ tp)) (hn : As.length = n) (hd : d' + 1 ≤ d) (hcs : cells + mc' ≤ mc ∧ slots + ms' ≤ ms) {st0 : List Value} (hst : st0 = As.reverse ++ .ref b :: rest) (hrs : (rest.map fun v => v.category).sum ≤ 8) (hdg : decode cc pc = .ok (.invokespecial idx, 3))
    (kk : ∀ (H1 : Heap) (locs1 : List Loc) (τ1 : Nat → Option XTy), τ1 = mT μ' → Wd D E A s τ1 μ' H1 locs1 → (∀ q u, τ q = some u → τ1 q = some u) → tp → W p l e (rmN d mc ms) s m args below meth c H1 locs1 (cells + mc') (slots + ms') Q (F0 m (pc + 3) ls (rest))) :
    W p l e (rmN d mc ms) s m args below meth c H locs cells slots Q (F0 m pc ls st0) := x_runIN C hl hw hnw hco hini c4 c5 hy cv hM hn hd hcs hst hrs hdg (fun H1 locs1 h1 h2 _ h4 => kk H1 locs1 _ rfl (hw.grow h1 h2 h4.1).1 (hw.grow h1 h2 h4.1).2 h4.2)
theorem x_obj (C : Cx p s m args c cc nL own D E A tU) (hl : ls.size = nL) (hlk : Cond.methodLink own idx Lib.objectInit ∈ gw_tbl) (hin : Cond.instanceMethod Lib.objectInit ∈ gw_tbl) (hco : Cond.code Lib.objectInit ⟨#[0xb1]⟩ 1 none ∈ gw_tbl) (hfr : 1 ≤ R.frames) (hrs : (rest.map fun v => v.category).sum ≤ 8) (hlo : 40 ≤ R.locals) (hdg : decode cc pc = .ok (.invokespecial idx, 3))
    (kk : W p l e R s m args below meth c H locs cells slots Q (F0 m (pc + 3) ls rest)) : W p l e R s m args below meth c H locs cells slots Q (F0 m pc ls (.ref a :: rest)) :=
  W.objInit C.1 C.2.1 C.2.2.2.1 (C.2.2.2.2.1 _ hlk) (C.2.2.2.2.1 _ hin) (C.2.2.2.2.1 _ hco) rfl (by rw [C.2.2.1]; exact hl) rfl hdg hfr (by show 2 * 0 + _ + 12 ≤ _; omega) kk
end XROW5
theorem ko_i : Cond.instanceMethod Lib.objectInit ∈ gw_tbl := gw_of 82 (by decide +kernel) (by decide +kernel)
theorem ko_c : Cond.code Lib.objectInit ⟨#[0xb1]⟩ 1 none ∈ gw_tbl := gw_of 83 (by decide +kernel) (by decide +kernel)
theorem km_in : Cond.initialized "java/lang/Math" ∈ gw_tbl := gw_of 72 (by decide +kernel) (by decide +kernel)
theorem km_s_max : Cond.static Lib.Math.max.name ∈ gw_tbl := gw_of 491 (by decide +kernel) (by decide +kernel)
theorem km_c_max : Cond.code Lib.Math.max.name Lib.Math.max.code 2 (some .int) ∈ gw_tbl := gw_of 492 (by decide +kernel) (by decide +kernel)
theorem km_s_min : Cond.static Lib.Math.min.name ∈ gw_tbl := gw_of 443 (by decide +kernel) (by decide +kernel)
theorem km_c_min : Cond.code Lib.Math.min.name Lib.Math.min.code 2 (some .int) ∈ gw_tbl := gw_of 444 (by decide +kernel) (by decide +kernel)
theorem km_s_abs : Cond.static Lib.Math.abs.name ∈ gw_tbl := gw_of 821 (by decide +kernel) (by decide +kernel)
theorem km_c_abs : Cond.code Lib.Math.abs.name Lib.Math.abs.code 1 (some .int) ∈ gw_tbl := gw_of 822 (by decide +kernel) (by decide +kernel)
theorem km_s_max_long : Cond.static Lib.MathLoose.max_long.x ∈ gw_tbl := gw_of 743 (by decide +kernel) (by decide +kernel)
theorem km_c_max_long : Cond.code Lib.MathLoose.max_long.x Lib.MathLoose.max_long.code 4 (some .long) ∈ gw_tbl := gw_of 744 (by decide +kernel) (by decide +kernel)
theorem km_s_min_long : Cond.static Lib.MathLoose.min_long.x ∈ gw_tbl := gw_of 740 (by decide +kernel) (by decide +kernel)
theorem km_c_min_long : Cond.code Lib.MathLoose.min_long.x Lib.MathLoose.min_long.code 4 (some .long) ∈ gw_tbl := gw_of 741 (by decide +kernel) (by decide +kernel)
theorem km_s_abs_long : Cond.static Lib.MathLoose.abs_long.x ∈ gw_tbl := gw_of 831 (by decide +kernel) (by decide +kernel)
theorem km_c_abs_long : Cond.code Lib.MathLoose.abs_long.x Lib.MathLoose.abs_long.code 2 (some .long) ∈ gw_tbl := gw_of 832 (by decide +kernel) (by decide +kernel)
theorem ko_X9_1 : Cond.methodLink RX9 1 Lib.objectInit ∈ gw_tbl := gw_of 81 (by decide +kernel) (by decide +kernel)
theorem km_X9_100 : Cond.methodLink RX9 100 Lib.Math.min.name ∈ gw_tbl := gw_of 442 (by decide +kernel) (by decide +kernel)
theorem km_X9_254 : Cond.methodLink RX9 254 Lib.MathLoose.min_long.x ∈ gw_tbl := gw_of 739 (by decide +kernel) (by decide +kernel)
theorem km_X9_257 : Cond.methodLink RX9 257 Lib.MathLoose.max_long.x ∈ gw_tbl := gw_of 742 (by decide +kernel) (by decide +kernel)
theorem km_X9_300 : Cond.methodLink RX9 300 Lib.Math.abs.name ∈ gw_tbl := gw_of 820 (by decide +kernel) (by decide +kernel)
theorem ks_X9_337 : Cond.methodLink RX9 337 arraycopyName ∈ gw_tbl := gw_of 898 (by decide +kernel) (by decide +kernel)
theorem km_X9_362 : Cond.methodLink RX9 362 Lib.MathLoose.abs_long.x ∈ gw_tbl := gw_of 830 (by decide +kernel) (by decide +kernel)
theorem ko_X0_3 : Cond.methodLink RX0 3 Lib.objectInit ∈ gw_tbl := gw_of 129 (by decide +kernel) (by decide +kernel)
theorem km_X0_77 : Cond.methodLink RX0 77 Lib.Math.max.name ∈ gw_tbl := gw_of 512 (by decide +kernel) (by decide +kernel)
theorem km_X0_86 : Cond.methodLink RX0 86 Lib.Math.min.name ∈ gw_tbl := gw_of 518 (by decide +kernel) (by decide +kernel)
theorem ko_X1_3 : Cond.methodLink RX1 3 Lib.objectInit ∈ gw_tbl := gw_of 208 (by decide +kernel) (by decide +kernel)
theorem km_X1_60 : Cond.methodLink RX1 60 Lib.MathLoose.max_long.x ∈ gw_tbl := gw_of 786 (by decide +kernel) (by decide +kernel)
theorem ko_X2_1 : Cond.methodLink RX2 1 Lib.objectInit ∈ gw_tbl := gw_of 679 (by decide +kernel) (by decide +kernel)
theorem ko_X3_3 : Cond.methodLink RX3 3 Lib.objectInit ∈ gw_tbl := gw_of 331 (by decide +kernel) (by decide +kernel)
theorem km_X3_50 : Cond.methodLink RX3 50 Lib.Math.max.name ∈ gw_tbl := gw_of 664 (by decide +kernel) (by decide +kernel)
theorem km_X3_98 : Cond.methodLink RX3 98 Lib.Math.min.name ∈ gw_tbl := gw_of 641 (by decide +kernel) (by decide +kernel)
theorem ko_X4_3 : Cond.methodLink RX4 3 Lib.objectInit ∈ gw_tbl := gw_of 365 (by decide +kernel) (by decide +kernel)
theorem km_X4_22 : Cond.methodLink RX4 22 Lib.Math.min.name ∈ gw_tbl := gw_of 876 (by decide +kernel) (by decide +kernel)
theorem km_X4_28 : Cond.methodLink RX4 28 Lib.Math.max.name ∈ gw_tbl := gw_of 877 (by decide +kernel) (by decide +kernel)
theorem ko_X5_3 : Cond.methodLink RX5 3 Lib.objectInit ∈ gw_tbl := gw_of 315 (by decide +kernel) (by decide +kernel)
theorem ko_X6_1 : Cond.methodLink RX6 1 Lib.objectInit ∈ gw_tbl := gw_of 670 (by decide +kernel) (by decide +kernel)
theorem ko_X7_3 : Cond.methodLink RX7 3 Lib.objectInit ∈ gw_tbl := gw_of 101 (by decide +kernel) (by decide +kernel)
theorem km_X7_62 : Cond.methodLink RX7 62 Lib.Math.min.name ∈ gw_tbl := gw_of 489 (by decide +kernel) (by decide +kernel)
theorem km_X7_68 : Cond.methodLink RX7 68 Lib.Math.max.name ∈ gw_tbl := gw_of 490 (by decide +kernel) (by decide +kernel)
theorem ko_X8_3 : Cond.methodLink RX8 3 Lib.objectInit ∈ gw_tbl := gw_of 89 (by decide +kernel) (by decide +kernel)
theorem km_X8_94 : Cond.methodLink RX8 94 Lib.Math.min.name ∈ gw_tbl := gw_of 497 (by decide +kernel) (by decide +kernel)
theorem km_X8_100 : Cond.methodLink RX8 100 Lib.Math.max.name ∈ gw_tbl := gw_of 498 (by decide +kernel) (by decide +kernel)
theorem ko_X10_1 : Cond.methodLink RX10 1 Lib.objectInit ∈ gw_tbl := gw_of 944 (by decide +kernel) (by decide +kernel)
theorem ks_n : Cond.native arraycopyName ∈ gw_tbl := gw_of 900 (by decide +kernel) (by decide +kernel)
theorem ks_s : Cond.static arraycopyName ∈ gw_tbl := gw_of 899 (by decide +kernel) (by decide +kernel)
theorem ks_i : Cond.initialized "java/lang/System" ∈ gw_tbl := gw_of 75 (by decide +kernel) (by decide +kernel)
theorem ku_359 : Cond.fieldLink RX9 359 RX9 "UNDER" "[I" ∈ gw_tbl := gw_of 582 (by decide +kernel) (by decide +kernel)
theorem cp_X9_init : yX9_init.cls ≠ "java/lang/invoke/MethodHandle" ∧ yX9_init.cls ≠ "java/lang/invoke/VarHandle" ∧ (parseMethodDescriptor yX9_init.desc).map (fun d => d.parameters.length) = some 0 := by decide +kernel
theorem cp_X9_apart : yX9_apart.cls ≠ "java/lang/invoke/MethodHandle" ∧ yX9_apart.cls ≠ "java/lang/invoke/VarHandle" ∧ (parseMethodDescriptor yX9_apart.desc).map (fun d => d.parameters.length) = some 2 := by decide +kernel
theorem cp_X9_as : yX9_as.cls ≠ "java/lang/invoke/MethodHandle" ∧ yX9_as.cls ≠ "java/lang/invoke/VarHandle" ∧ (parseMethodDescriptor yX9_as.desc).map (fun d => d.parameters.length) = some 2 := by decide +kernel
theorem cp_X9_barred : yX9_barred.cls ≠ "java/lang/invoke/MethodHandle" ∧ yX9_barred.cls ≠ "java/lang/invoke/VarHandle" ∧ (parseMethodDescriptor yX9_barred.desc).map (fun d => d.parameters.length) = some 3 := by decide +kernel
theorem cp_X9_beside : yX9_beside.cls ≠ "java/lang/invoke/MethodHandle" ∧ yX9_beside.cls ≠ "java/lang/invoke/VarHandle" ∧ (parseMethodDescriptor yX9_beside.desc).map (fun d => d.parameters.length) = some 2 := by decide +kernel
theorem cp_X9_cell : yX9_cell.cls ≠ "java/lang/invoke/MethodHandle" ∧ yX9_cell.cls ≠ "java/lang/invoke/VarHandle" ∧ (parseMethodDescriptor yX9_cell.desc).map (fun d => d.parameters.length) = some 4 := by decide +kernel
theorem cp_X9_copy : yX9_copy.cls ≠ "java/lang/invoke/MethodHandle" ∧ yX9_copy.cls ≠ "java/lang/invoke/VarHandle" ∧ (parseMethodDescriptor yX9_copy.desc).map (fun d => d.parameters.length) = some 5 := by decide +kernel
theorem cp_X9_count : yX9_count.cls ≠ "java/lang/invoke/MethodHandle" ∧ yX9_count.cls ≠ "java/lang/invoke/VarHandle" ∧ (parseMethodDescriptor yX9_count.desc).map (fun d => d.parameters.length) = some 1 := by decide +kernel
theorem cp_X9_ever : yX9_ever.cls ≠ "java/lang/invoke/MethodHandle" ∧ yX9_ever.cls ≠ "java/lang/invoke/VarHandle" ∧ (parseMethodDescriptor yX9_ever.desc).map (fun d => d.parameters.length) = some 2 := by decide +kernel
theorem cp_X9_feed : yX9_feed.cls ≠ "java/lang/invoke/MethodHandle" ∧ yX9_feed.cls ≠ "java/lang/invoke/VarHandle" ∧ (parseMethodDescriptor yX9_feed.desc).map (fun d => d.parameters.length) = some 2 := by decide +kernel
theorem cp_X9_finding : yX9_finding.cls ≠ "java/lang/invoke/MethodHandle" ∧ yX9_finding.cls ≠ "java/lang/invoke/VarHandle" ∧ (parseMethodDescriptor yX9_finding.desc).map (fun d => d.parameters.length) = some 1 := by decide +kernel
theorem cp_X9_force : yX9_force.cls ≠ "java/lang/invoke/MethodHandle" ∧ yX9_force.cls ≠ "java/lang/invoke/VarHandle" ∧ (parseMethodDescriptor yX9_force.desc).map (fun d => d.parameters.length) = some 1 := by decide +kernel
theorem cp_X9_foretold : yX9_foretold.cls ≠ "java/lang/invoke/MethodHandle" ∧ yX9_foretold.cls ≠ "java/lang/invoke/VarHandle" ∧ (parseMethodDescriptor yX9_foretold.desc).map (fun d => d.parameters.length) = some 4 := by decide +kernel
theorem cp_X9_hours : yX9_hours.cls ≠ "java/lang/invoke/MethodHandle" ∧ yX9_hours.cls ≠ "java/lang/invoke/VarHandle" ∧ (parseMethodDescriptor yX9_hours.desc).map (fun d => d.parameters.length) = some 1 := by decide +kernel
theorem cp_X9_house : yX9_house.cls ≠ "java/lang/invoke/MethodHandle" ∧ yX9_house.cls ≠ "java/lang/invoke/VarHandle" ∧ (parseMethodDescriptor yX9_house.desc).map (fun d => d.parameters.length) = some 2 := by decide +kernel
theorem cp_X9_houseOf : yX9_houseOf.cls ≠ "java/lang/invoke/MethodHandle" ∧ yX9_houseOf.cls ≠ "java/lang/invoke/VarHandle" ∧ (parseMethodDescriptor yX9_houseOf.desc).map (fun d => d.parameters.length) = some 2 := by decide +kernel
theorem cp_X9_image : yX9_image.cls ≠ "java/lang/invoke/MethodHandle" ∧ yX9_image.cls ≠ "java/lang/invoke/VarHandle" ∧ (parseMethodDescriptor yX9_image.desc).map (fun d => d.parameters.length) = some 0 := by decide +kernel
theorem cp_X9_isLawOrNone : yX9_isLawOrNone.cls ≠ "java/lang/invoke/MethodHandle" ∧ yX9_isLawOrNone.cls ≠ "java/lang/invoke/VarHandle" ∧ (parseMethodDescriptor yX9_isLawOrNone.desc).map (fun d => d.parameters.length) = some 1 := by decide +kernel
theorem cp_X9_isUnder : yX9_isUnder.cls ≠ "java/lang/invoke/MethodHandle" ∧ yX9_isUnder.cls ≠ "java/lang/invoke/VarHandle" ∧ (parseMethodDescriptor yX9_isUnder.desc).map (fun d => d.parameters.length) = some 2 := by decide +kernel
theorem cp_X9_latest : yX9_latest.cls ≠ "java/lang/invoke/MethodHandle" ∧ yX9_latest.cls ≠ "java/lang/invoke/VarHandle" ∧ (parseMethodDescriptor yX9_latest.desc).map (fun d => d.parameters.length) = some 2 := by decide +kernel
theorem cp_X9_law : yX9_law.cls ≠ "java/lang/invoke/MethodHandle" ∧ yX9_law.cls ≠ "java/lang/invoke/VarHandle" ∧ (parseMethodDescriptor yX9_law.desc).map (fun d => d.parameters.length) = some 1 := by decide +kernel
theorem cp_X9_line : yX9_line.cls ≠ "java/lang/invoke/MethodHandle" ∧ yX9_line.cls ≠ "java/lang/invoke/VarHandle" ∧ (parseMethodDescriptor yX9_line.desc).map (fun d => d.parameters.length) = some 2 := by decide +kernel
theorem cp_X9_look : yX9_look.cls ≠ "java/lang/invoke/MethodHandle" ∧ yX9_look.cls ≠ "java/lang/invoke/VarHandle" ∧ (parseMethodDescriptor yX9_look.desc).map (fun d => d.parameters.length) = some 4 := by decide +kernel
theorem cp_X9_moved : yX9_moved.cls ≠ "java/lang/invoke/MethodHandle" ∧ yX9_moved.cls ≠ "java/lang/invoke/VarHandle" ∧ (parseMethodDescriptor yX9_moved.desc).map (fun d => d.parameters.length) = some 1 := by decide +kernel
theorem cp_X9_must : yX9_must.cls ≠ "java/lang/invoke/MethodHandle" ∧ yX9_must.cls ≠ "java/lang/invoke/VarHandle" ∧ (parseMethodDescriptor yX9_must.desc).map (fun d => d.parameters.length) = some 2 := by decide +kernel
theorem cp_X9_mustOf : yX9_mustOf.cls ≠ "java/lang/invoke/MethodHandle" ∧ yX9_mustOf.cls ≠ "java/lang/invoke/VarHandle" ∧ (parseMethodDescriptor yX9_mustOf.desc).map (fun d => d.parameters.length) = some 3 := by decide +kernel
theorem cp_X9_need : yX9_need.cls ≠ "java/lang/invoke/MethodHandle" ∧ yX9_need.cls ≠ "java/lang/invoke/VarHandle" ∧ (parseMethodDescriptor yX9_need.desc).map (fun d => d.parameters.length) = some 3 := by decide +kernel
theorem cp_X9_night : yX9_night.cls ≠ "java/lang/invoke/MethodHandle" ∧ yX9_night.cls ≠ "java/lang/invoke/VarHandle" ∧ (parseMethodDescriptor yX9_night.desc).map (fun d => d.parameters.length) = some 2 := by decide +kernel
theorem cp_X9_of : yX9_of.cls ≠ "java/lang/invoke/MethodHandle" ∧ yX9_of.cls ≠ "java/lang/invoke/VarHandle" ∧ (parseMethodDescriptor yX9_of.desc).map (fun d => d.parameters.length) = some 2 := by decide +kernel
theorem cp_X9_order : yX9_order.cls ≠ "java/lang/invoke/MethodHandle" ∧ yX9_order.cls ≠ "java/lang/invoke/VarHandle" ∧ (parseMethodDescriptor yX9_order.desc).map (fun d => d.parameters.length) = some 1 := by decide +kernel
theorem cp_X9_parted : yX9_parted.cls ≠ "java/lang/invoke/MethodHandle" ∧ yX9_parted.cls ≠ "java/lang/invoke/VarHandle" ∧ (parseMethodDescriptor yX9_parted.desc).map (fun d => d.parameters.length) = some 4 := by decide +kernel
theorem cp_X9_power : yX9_power.cls ≠ "java/lang/invoke/MethodHandle" ∧ yX9_power.cls ≠ "java/lang/invoke/VarHandle" ∧ (parseMethodDescriptor yX9_power.desc).map (fun d => d.parameters.length) = some 2 := by decide +kernel
theorem cp_X9_read : yX9_read.cls ≠ "java/lang/invoke/MethodHandle" ∧ yX9_read.cls ≠ "java/lang/invoke/VarHandle" ∧ (parseMethodDescriptor yX9_read.desc).map (fun d => d.parameters.length) = some 2 := by decide +kernel
theorem cp_X9_saying : yX9_saying.cls ≠ "java/lang/invoke/MethodHandle" ∧ yX9_saying.cls ≠ "java/lang/invoke/VarHandle" ∧ (parseMethodDescriptor yX9_saying.desc).map (fun d => d.parameters.length) = some 1 := by decide +kernel
theorem cp_X9_says : yX9_says.cls ≠ "java/lang/invoke/MethodHandle" ∧ yX9_says.cls ≠ "java/lang/invoke/VarHandle" ∧ (parseMethodDescriptor yX9_says.desc).map (fun d => d.parameters.length) = some 2 := by decide +kernel
theorem cp_X9_shared : yX9_shared.cls ≠ "java/lang/invoke/MethodHandle" ∧ yX9_shared.cls ≠ "java/lang/invoke/VarHandle" ∧ (parseMethodDescriptor yX9_shared.desc).map (fun d => d.parameters.length) = some 2 := by decide +kernel
theorem cp_X9_sheet : yX9_sheet.cls ≠ "java/lang/invoke/MethodHandle" ∧ yX9_sheet.cls ≠ "java/lang/invoke/VarHandle" ∧ (parseMethodDescriptor yX9_sheet.desc).map (fun d => d.parameters.length) = some 3 := by decide +kernel
theorem cp_X9_sheetAt : yX9_sheetAt.cls ≠ "java/lang/invoke/MethodHandle" ∧ yX9_sheetAt.cls ≠ "java/lang/invoke/VarHandle" ∧ (parseMethodDescriptor yX9_sheetAt.desc).map (fun d => d.parameters.length) = some 1 := by decide +kernel
theorem cp_X9_show : yX9_show.cls ≠ "java/lang/invoke/MethodHandle" ∧ yX9_show.cls ≠ "java/lang/invoke/VarHandle" ∧ (parseMethodDescriptor yX9_show.desc).map (fun d => d.parameters.length) = some 1 := by decide +kernel
theorem cp_X9_since : yX9_since.cls ≠ "java/lang/invoke/MethodHandle" ∧ yX9_since.cls ≠ "java/lang/invoke/VarHandle" ∧ (parseMethodDescriptor yX9_since.desc).map (fun d => d.parameters.length) = some 2 := by decide +kernel
theorem cp_X9_status : yX9_status.cls ≠ "java/lang/invoke/MethodHandle" ∧ yX9_status.cls ≠ "java/lang/invoke/VarHandle" ∧ (parseMethodDescriptor yX9_status.desc).map (fun d => d.parameters.length) = some 1 := by decide +kernel
theorem cp_X9_tear : yX9_tear.cls ≠ "java/lang/invoke/MethodHandle" ∧ yX9_tear.cls ≠ "java/lang/invoke/VarHandle" ∧ (parseMethodDescriptor yX9_tear.desc).map (fun d => d.parameters.length) = some 0 := by decide +kernel
theorem cp_X9_tells : yX9_tells.cls ≠ "java/lang/invoke/MethodHandle" ∧ yX9_tells.cls ≠ "java/lang/invoke/VarHandle" ∧ (parseMethodDescriptor yX9_tells.desc).map (fun d => d.parameters.length) = some 2 := by decide +kernel
theorem cp_X9_told : yX9_told.cls ≠ "java/lang/invoke/MethodHandle" ∧ yX9_told.cls ≠ "java/lang/invoke/VarHandle" ∧ (parseMethodDescriptor yX9_told.desc).map (fun d => d.parameters.length) = some 1 := by decide +kernel
theorem cp_X9_top : yX9_top.cls ≠ "java/lang/invoke/MethodHandle" ∧ yX9_top.cls ≠ "java/lang/invoke/VarHandle" ∧ (parseMethodDescriptor yX9_top.desc).map (fun d => d.parameters.length) = some 2 := by decide +kernel
theorem cp_X9_undo : yX9_undo.cls ≠ "java/lang/invoke/MethodHandle" ∧ yX9_undo.cls ≠ "java/lang/invoke/VarHandle" ∧ (parseMethodDescriptor yX9_undo.desc).map (fun d => d.parameters.length) = some 0 := by decide +kernel
theorem cp_X9_weeks : yX9_weeks.cls ≠ "java/lang/invoke/MethodHandle" ∧ yX9_weeks.cls ≠ "java/lang/invoke/VarHandle" ∧ (parseMethodDescriptor yX9_weeks.desc).map (fun d => d.parameters.length) = some 2 := by decide +kernel
theorem cp_X9_wipe : yX9_wipe.cls ≠ "java/lang/invoke/MethodHandle" ∧ yX9_wipe.cls ≠ "java/lang/invoke/VarHandle" ∧ (parseMethodDescriptor yX9_wipe.desc).map (fun d => d.parameters.length) = some 0 := by decide +kernel
theorem cp_X9_within : yX9_within.cls ≠ "java/lang/invoke/MethodHandle" ∧ yX9_within.cls ≠ "java/lang/invoke/VarHandle" ∧ (parseMethodDescriptor yX9_within.desc).map (fun d => d.parameters.length) = some 3 := by decide +kernel
theorem cp_X9_write : yX9_write.cls ≠ "java/lang/invoke/MethodHandle" ∧ yX9_write.cls ≠ "java/lang/invoke/VarHandle" ∧ (parseMethodDescriptor yX9_write.desc).map (fun d => d.parameters.length) = some 3 := by decide +kernel
theorem cp_X0_init : yX0_init.cls ≠ "java/lang/invoke/MethodHandle" ∧ yX0_init.cls ≠ "java/lang/invoke/VarHandle" ∧ (parseMethodDescriptor yX0_init.desc).map (fun d => d.parameters.length) = some 0 := by decide +kernel
theorem cp_X0_backOf : yX0_backOf.cls ≠ "java/lang/invoke/MethodHandle" ∧ yX0_backOf.cls ≠ "java/lang/invoke/VarHandle" ∧ (parseMethodDescriptor yX0_backOf.desc).map (fun d => d.parameters.length) = some 1 := by decide +kernel
theorem cp_X0_begin : yX0_begin.cls ≠ "java/lang/invoke/MethodHandle" ∧ yX0_begin.cls ≠ "java/lang/invoke/VarHandle" ∧ (parseMethodDescriptor yX0_begin.desc).map (fun d => d.parameters.length) = some 0 := by decide +kernel
theorem cp_X0_gasFrom : yX0_gasFrom.cls ≠ "java/lang/invoke/MethodHandle" ∧ yX0_gasFrom.cls ≠ "java/lang/invoke/VarHandle" ∧ (parseMethodDescriptor yX0_gasFrom.desc).map (fun d => d.parameters.length) = some 1 := by decide +kernel
theorem cp_X0_passHour : yX0_passHour.cls ≠ "java/lang/invoke/MethodHandle" ∧ yX0_passHour.cls ≠ "java/lang/invoke/VarHandle" ∧ (parseMethodDescriptor yX0_passHour.desc).map (fun d => d.parameters.length) = some 1 := by decide +kernel
theorem cp_X0_powerThatCounts : yX0_powerThatCounts.cls ≠ "java/lang/invoke/MethodHandle" ∧ yX0_powerThatCounts.cls ≠ "java/lang/invoke/VarHandle" ∧ (parseMethodDescriptor yX0_powerThatCounts.desc).map (fun d => d.parameters.length) = some 0 := by decide +kernel
theorem cp_X0_take : yX0_take.cls ≠ "java/lang/invoke/MethodHandle" ∧ yX0_take.cls ≠ "java/lang/invoke/VarHandle" ∧ (parseMethodDescriptor yX0_take.desc).map (fun d => d.parameters.length) = some 1 := by decide +kernel
theorem cp_X0_thermometer : yX0_thermometer.cls ≠ "java/lang/invoke/MethodHandle" ∧ yX0_thermometer.cls ≠ "java/lang/invoke/VarHandle" ∧ (parseMethodDescriptor yX0_thermometer.desc).map (fun d => d.parameters.length) = some 0 := by decide +kernel
theorem cp_X0_toHeat : yX0_toHeat.cls ≠ "java/lang/invoke/MethodHandle" ∧ yX0_toHeat.cls ≠ "java/lang/invoke/VarHandle" ∧ (parseMethodDescriptor yX0_toHeat.desc).map (fun d => d.parameters.length) = some 1 := by decide +kernel
theorem cp_X0_warmth : yX0_warmth.cls ≠ "java/lang/invoke/MethodHandle" ∧ yX0_warmth.cls ≠ "java/lang/invoke/VarHandle" ∧ (parseMethodDescriptor yX0_warmth.desc).map (fun d => d.parameters.length) = some 0 := by decide +kernel
theorem cp_X1_init : yX1_init.cls ≠ "java/lang/invoke/MethodHandle" ∧ yX1_init.cls ≠ "java/lang/invoke/VarHandle" ∧ (parseMethodDescriptor yX1_init.desc).map (fun d => d.parameters.length) = some 0 := by decide +kernel
theorem cp_X1_addHour : yX1_addHour.cls ≠ "java/lang/invoke/MethodHandle" ∧ yX1_addHour.cls ≠ "java/lang/invoke/VarHandle" ∧ (parseMethodDescriptor yX1_addHour.desc).map (fun d => d.parameters.length) = some 1 := by decide +kernel
theorem cp_X1_balance : yX1_balance.cls ≠ "java/lang/invoke/MethodHandle" ∧ yX1_balance.cls ≠ "java/lang/invoke/VarHandle" ∧ (parseMethodDescriptor yX1_balance.desc).map (fun d => d.parameters.length) = some 0 := by decide +kernel
theorem cp_X1_begin : yX1_begin.cls ≠ "java/lang/invoke/MethodHandle" ∧ yX1_begin.cls ≠ "java/lang/invoke/VarHandle" ∧ (parseMethodDescriptor yX1_begin.desc).map (fun d => d.parameters.length) = some 0 := by decide +kernel
theorem cp_X1_isBefore : yX1_isBefore.cls ≠ "java/lang/invoke/MethodHandle" ∧ yX1_isBefore.cls ≠ "java/lang/invoke/VarHandle" ∧ (parseMethodDescriptor yX1_isBefore.desc).map (fun d => d.parameters.length) = some 1 := by decide +kernel
theorem cp_X1_share : yX1_share.cls ≠ "java/lang/invoke/MethodHandle" ∧ yX1_share.cls ≠ "java/lang/invoke/VarHandle" ∧ (parseMethodDescriptor yX1_share.desc).map (fun d => d.parameters.length) = some 0 := by decide +kernel
theorem cp_X1_speak : yX1_speak.cls ≠ "java/lang/invoke/MethodHandle" ∧ yX1_speak.cls ≠ "java/lang/invoke/VarHandle" ∧ (parseMethodDescriptor yX1_speak.desc).map (fun d => d.parameters.length) = some 1 := by decide +kernel
theorem cp_X1_take : yX1_take.cls ≠ "java/lang/invoke/MethodHandle" ∧ yX1_take.cls ≠ "java/lang/invoke/VarHandle" ∧ (parseMethodDescriptor yX1_take.desc).map (fun d => d.parameters.length) = some 1 := by decide +kernel
theorem cp_X2_init : yX2_init.cls ≠ "java/lang/invoke/MethodHandle" ∧ yX2_init.cls ≠ "java/lang/invoke/VarHandle" ∧ (parseMethodDescriptor yX2_init.desc).map (fun d => d.parameters.length) = some 2 := by decide +kernel
theorem cp_X3_init : yX3_init.cls ≠ "java/lang/invoke/MethodHandle" ∧ yX3_init.cls ≠ "java/lang/invoke/VarHandle" ∧ (parseMethodDescriptor yX3_init.desc).map (fun d => d.parameters.length) = some 0 := by decide +kernel
theorem cp_X3_codeOf : yX3_codeOf.cls ≠ "java/lang/invoke/MethodHandle" ∧ yX3_codeOf.cls ≠ "java/lang/invoke/VarHandle" ∧ (parseMethodDescriptor yX3_codeOf.desc).map (fun d => d.parameters.length) = some 1 := by decide +kernel
theorem cp_X3_emit : yX3_emit.cls ≠ "java/lang/invoke/MethodHandle" ∧ yX3_emit.cls ≠ "java/lang/invoke/VarHandle" ∧ (parseMethodDescriptor yX3_emit.desc).map (fun d => d.parameters.length) = some 1 := by decide +kernel
theorem cp_X3_faultOf : yX3_faultOf.cls ≠ "java/lang/invoke/MethodHandle" ∧ yX3_faultOf.cls ≠ "java/lang/invoke/VarHandle" ∧ (parseMethodDescriptor yX3_faultOf.desc).map (fun d => d.parameters.length) = some 1 := by decide +kernel
theorem cp_X3_isDigit : yX3_isDigit.cls ≠ "java/lang/invoke/MethodHandle" ∧ yX3_isDigit.cls ≠ "java/lang/invoke/VarHandle" ∧ (parseMethodDescriptor yX3_isDigit.desc).map (fun d => d.parameters.length) = some 1 := by decide +kernel
theorem cp_X3_isLetter : yX3_isLetter.cls ≠ "java/lang/invoke/MethodHandle" ∧ yX3_isLetter.cls ≠ "java/lang/invoke/VarHandle" ∧ (parseMethodDescriptor yX3_isLetter.desc).map (fun d => d.parameters.length) = some 1 := by decide +kernel
theorem cp_X3_nextNumber : yX3_nextNumber.cls ≠ "java/lang/invoke/MethodHandle" ∧ yX3_nextNumber.cls ≠ "java/lang/invoke/VarHandle" ∧ (parseMethodDescriptor yX3_nextNumber.desc).map (fun d => d.parameters.length) = some 1 := by decide +kernel
theorem cp_X3_nextWord : yX3_nextWord.cls ≠ "java/lang/invoke/MethodHandle" ∧ yX3_nextWord.cls ≠ "java/lang/invoke/VarHandle" ∧ (parseMethodDescriptor yX3_nextWord.desc).map (fun d => d.parameters.length) = some 1 := by decide +kernel
theorem cp_X3_skipBlanks : yX3_skipBlanks.cls ≠ "java/lang/invoke/MethodHandle" ∧ yX3_skipBlanks.cls ≠ "java/lang/invoke/VarHandle" ∧ (parseMethodDescriptor yX3_skipBlanks.desc).map (fun d => d.parameters.length) = some 1 := by decide +kernel
theorem cp_X3_takesClose : yX3_takesClose.cls ≠ "java/lang/invoke/MethodHandle" ∧ yX3_takesClose.cls ≠ "java/lang/invoke/VarHandle" ∧ (parseMethodDescriptor yX3_takesClose.desc).map (fun d => d.parameters.length) = some 0 := by decide +kernel
theorem cp_X3_takesComma : yX3_takesComma.cls ≠ "java/lang/invoke/MethodHandle" ∧ yX3_takesComma.cls ≠ "java/lang/invoke/VarHandle" ∧ (parseMethodDescriptor yX3_takesComma.desc).map (fun d => d.parameters.length) = some 0 := by decide +kernel
theorem cp_X3_takesNumber : yX3_takesNumber.cls ≠ "java/lang/invoke/MethodHandle" ∧ yX3_takesNumber.cls ≠ "java/lang/invoke/VarHandle" ∧ (parseMethodDescriptor yX3_takesNumber.desc).map (fun d => d.parameters.length) = some 1 := by decide +kernel
theorem cp_X3_takesOpen : yX3_takesOpen.cls ≠ "java/lang/invoke/MethodHandle" ∧ yX3_takesOpen.cls ≠ "java/lang/invoke/VarHandle" ∧ (parseMethodDescriptor yX3_takesOpen.desc).map (fun d => d.parameters.length) = some 0 := by decide +kernel
theorem cp_X3_takesToken : yX3_takesToken.cls ≠ "java/lang/invoke/MethodHandle" ∧ yX3_takesToken.cls ≠ "java/lang/invoke/VarHandle" ∧ (parseMethodDescriptor yX3_takesToken.desc).map (fun d => d.parameters.length) = some 1 := by decide +kernel
theorem cp_X3_takesWord : yX3_takesWord.cls ≠ "java/lang/invoke/MethodHandle" ∧ yX3_takesWord.cls ≠ "java/lang/invoke/VarHandle" ∧ (parseMethodDescriptor yX3_takesWord.desc).map (fun d => d.parameters.length) = some 1 := by decide +kernel
theorem cp_X3_text : yX3_text.cls ≠ "java/lang/invoke/MethodHandle" ∧ yX3_text.cls ≠ "java/lang/invoke/VarHandle" ∧ (parseMethodDescriptor yX3_text.desc).map (fun d => d.parameters.length) = some 0 := by decide +kernel
theorem cp_X4_init : yX4_init.cls ≠ "java/lang/invoke/MethodHandle" ∧ yX4_init.cls ≠ "java/lang/invoke/VarHandle" ∧ (parseMethodDescriptor yX4_init.desc).map (fun d => d.parameters.length) = some 0 := by decide +kernel
theorem cp_X4_begin : yX4_begin.cls ≠ "java/lang/invoke/MethodHandle" ∧ yX4_begin.cls ≠ "java/lang/invoke/VarHandle" ∧ (parseMethodDescriptor yX4_begin.desc).map (fun d => d.parameters.length) = some 2 := by decide +kernel
theorem cp_X4_has : yX4_has.cls ≠ "java/lang/invoke/MethodHandle" ∧ yX4_has.cls ≠ "java/lang/invoke/VarHandle" ∧ (parseMethodDescriptor yX4_has.desc).map (fun d => d.parameters.length) = some 2 := by decide +kernel
theorem cp_X4_lowest : yX4_lowest.cls ≠ "java/lang/invoke/MethodHandle" ∧ yX4_lowest.cls ≠ "java/lang/invoke/VarHandle" ∧ (parseMethodDescriptor yX4_lowest.desc).map (fun d => d.parameters.length) = some 1 := by decide +kernel
theorem cp_X4_numberAt : yX4_numberAt.cls ≠ "java/lang/invoke/MethodHandle" ∧ yX4_numberAt.cls ≠ "java/lang/invoke/VarHandle" ∧ (parseMethodDescriptor yX4_numberAt.desc).map (fun d => d.parameters.length) = some 1 := by decide +kernel
theorem cp_X4_put : yX4_put.cls ≠ "java/lang/invoke/MethodHandle" ∧ yX4_put.cls ≠ "java/lang/invoke/VarHandle" ∧ (parseMethodDescriptor yX4_put.desc).map (fun d => d.parameters.length) = some 2 := by decide +kernel
theorem cp_X5_init : yX5_init.cls ≠ "java/lang/invoke/MethodHandle" ∧ yX5_init.cls ≠ "java/lang/invoke/VarHandle" ∧ (parseMethodDescriptor yX5_init.desc).map (fun d => d.parameters.length) = some 0 := by decide +kernel
theorem cp_X5_add : yX5_add.cls ≠ "java/lang/invoke/MethodHandle" ∧ yX5_add.cls ≠ "java/lang/invoke/VarHandle" ∧ (parseMethodDescriptor yX5_add.desc).map (fun d => d.parameters.length) = some 1 := by decide +kernel
theorem cp_X5_byteAt : yX5_byteAt.cls ≠ "java/lang/invoke/MethodHandle" ∧ yX5_byteAt.cls ≠ "java/lang/invoke/VarHandle" ∧ (parseMethodDescriptor yX5_byteAt.desc).map (fun d => d.parameters.length) = some 1 := by decide +kernel
theorem cp_X6_init : yX6_init.cls ≠ "java/lang/invoke/MethodHandle" ∧ yX6_init.cls ≠ "java/lang/invoke/VarHandle" ∧ (parseMethodDescriptor yX6_init.desc).map (fun d => d.parameters.length) = some 1 := by decide +kernel
theorem cp_X7_init : yX7_init.cls ≠ "java/lang/invoke/MethodHandle" ∧ yX7_init.cls ≠ "java/lang/invoke/VarHandle" ∧ (parseMethodDescriptor yX7_init.desc).map (fun d => d.parameters.length) = some 0 := by decide +kernel
theorem cp_X7_pop : yX7_pop.cls ≠ "java/lang/invoke/MethodHandle" ∧ yX7_pop.cls ≠ "java/lang/invoke/VarHandle" ∧ (parseMethodDescriptor yX7_pop.desc).map (fun d => d.parameters.length) = some 0 := by decide +kernel
theorem cp_X7_push : yX7_push.cls ≠ "java/lang/invoke/MethodHandle" ∧ yX7_push.cls ≠ "java/lang/invoke/VarHandle" ∧ (parseMethodDescriptor yX7_push.desc).map (fun d => d.parameters.length) = some 1 := by decide +kernel
theorem cp_X7_resultOf : yX7_resultOf.cls ≠ "java/lang/invoke/MethodHandle" ∧ yX7_resultOf.cls ≠ "java/lang/invoke/VarHandle" ∧ (parseMethodDescriptor yX7_resultOf.desc).map (fun d => d.parameters.length) = some 1 := by decide +kernel
theorem cp_X7_valueOf : yX7_valueOf.cls ≠ "java/lang/invoke/MethodHandle" ∧ yX7_valueOf.cls ≠ "java/lang/invoke/VarHandle" ∧ (parseMethodDescriptor yX7_valueOf.desc).map (fun d => d.parameters.length) = some 1 := by decide +kernel
theorem cp_X7_worked : yX7_worked.cls ≠ "java/lang/invoke/MethodHandle" ∧ yX7_worked.cls ≠ "java/lang/invoke/VarHandle" ∧ (parseMethodDescriptor yX7_worked.desc).map (fun d => d.parameters.length) = some 5 := by decide +kernel
theorem cp_X8_init : yX8_init.cls ≠ "java/lang/invoke/MethodHandle" ∧ yX8_init.cls ≠ "java/lang/invoke/VarHandle" ∧ (parseMethodDescriptor yX8_init.desc).map (fun d => d.parameters.length) = some 0 := by decide +kernel
theorem cp_X8_addLaw : yX8_addLaw.cls ≠ "java/lang/invoke/MethodHandle" ∧ yX8_addLaw.cls ≠ "java/lang/invoke/VarHandle" ∧ (parseMethodDescriptor yX8_addLaw.desc).map (fun d => d.parameters.length) = some 1 := by decide +kernel
theorem cp_X8_allHeat : yX8_allHeat.cls ≠ "java/lang/invoke/MethodHandle" ∧ yX8_allHeat.cls ≠ "java/lang/invoke/VarHandle" ∧ (parseMethodDescriptor yX8_allHeat.desc).map (fun d => d.parameters.length) = some 0 := by decide +kernel
theorem cp_X8_allShares : yX8_allShares.cls ≠ "java/lang/invoke/MethodHandle" ∧ yX8_allShares.cls ≠ "java/lang/invoke/VarHandle" ∧ (parseMethodDescriptor yX8_allShares.desc).map (fun d => d.parameters.length) = some 0 := by decide +kernel
theorem cp_X8_cellAt : yX8_cellAt.cls ≠ "java/lang/invoke/MethodHandle" ∧ yX8_cellAt.cls ≠ "java/lang/invoke/VarHandle" ∧ (parseMethodDescriptor yX8_cellAt.desc).map (fun d => d.parameters.length) = some 1 := by decide +kernel
theorem cp_X8_choiceOf : yX8_choiceOf.cls ≠ "java/lang/invoke/MethodHandle" ∧ yX8_choiceOf.cls ≠ "java/lang/invoke/VarHandle" ∧ (parseMethodDescriptor yX8_choiceOf.desc).map (fun d => d.parameters.length) = some 3 := by decide +kernel
theorem cp_X8_coinsOf : yX8_coinsOf.cls ≠ "java/lang/invoke/MethodHandle" ∧ yX8_coinsOf.cls ≠ "java/lang/invoke/VarHandle" ∧ (parseMethodDescriptor yX8_coinsOf.desc).map (fun d => d.parameters.length) = some 3 := by decide +kernel
theorem cp_X8_floorOf : yX8_floorOf.cls ≠ "java/lang/invoke/MethodHandle" ∧ yX8_floorOf.cls ≠ "java/lang/invoke/VarHandle" ∧ (parseMethodDescriptor yX8_floorOf.desc).map (fun d => d.parameters.length) = some 3 := by decide +kernel
theorem cp_X8_foretell : yX8_foretell.cls ≠ "java/lang/invoke/MethodHandle" ∧ yX8_foretell.cls ≠ "java/lang/invoke/VarHandle" ∧ (parseMethodDescriptor yX8_foretell.desc).map (fun d => d.parameters.length) = some 4 := by decide +kernel
theorem cp_X8_houseAt : yX8_houseAt.cls ≠ "java/lang/invoke/MethodHandle" ∧ yX8_houseAt.cls ≠ "java/lang/invoke/VarHandle" ∧ (parseMethodDescriptor yX8_houseAt.desc).map (fun d => d.parameters.length) = some 1 := by decide +kernel
theorem cp_X8_lawAt : yX8_lawAt.cls ≠ "java/lang/invoke/MethodHandle" ∧ yX8_lawAt.cls ≠ "java/lang/invoke/VarHandle" ∧ (parseMethodDescriptor yX8_lawAt.desc).map (fun d => d.parameters.length) = some 1 := by decide +kernel
theorem cp_X8_makesBy : yX8_makesBy.cls ≠ "java/lang/invoke/MethodHandle" ∧ yX8_makesBy.cls ≠ "java/lang/invoke/VarHandle" ∧ (parseMethodDescriptor yX8_makesBy.desc).map (fun d => d.parameters.length) = some 4 := by decide +kernel
theorem cp_X8_newCell : yX8_newCell.cls ≠ "java/lang/invoke/MethodHandle" ∧ yX8_newCell.cls ≠ "java/lang/invoke/VarHandle" ∧ (parseMethodDescriptor yX8_newCell.desc).map (fun d => d.parameters.length) = some 0 := by decide +kernel
theorem cp_X8_newHouse : yX8_newHouse.cls ≠ "java/lang/invoke/MethodHandle" ∧ yX8_newHouse.cls ≠ "java/lang/invoke/VarHandle" ∧ (parseMethodDescriptor yX8_newHouse.desc).map (fun d => d.parameters.length) = some 0 := by decide +kernel
theorem cp_X8_passHour : yX8_passHour.cls ≠ "java/lang/invoke/MethodHandle" ∧ yX8_passHour.cls ≠ "java/lang/invoke/VarHandle" ∧ (parseMethodDescriptor yX8_passHour.desc).map (fun d => d.parameters.length) = some 0 := by decide +kernel
theorem cp_X8_passHourOf : yX8_passHourOf.cls ≠ "java/lang/invoke/MethodHandle" ∧ yX8_passHourOf.cls ≠ "java/lang/invoke/VarHandle" ∧ (parseMethodDescriptor yX8_passHourOf.desc).map (fun d => d.parameters.length) = some 1 := by decide +kernel
theorem cp_X8_placeInOrder : yX8_placeInOrder.cls ≠ "java/lang/invoke/MethodHandle" ∧ yX8_placeInOrder.cls ≠ "java/lang/invoke/VarHandle" ∧ (parseMethodDescriptor yX8_placeInOrder.desc).map (fun d => d.parameters.length) = some 1 := by decide +kernel
theorem cp_X8_raysOverFloor : yX8_raysOverFloor.cls ≠ "java/lang/invoke/MethodHandle" ∧ yX8_raysOverFloor.cls ≠ "java/lang/invoke/VarHandle" ∧ (parseMethodDescriptor yX8_raysOverFloor.desc).map (fun d => d.parameters.length) = some 2 := by decide +kernel
theorem cp_X8_shareOf : yX8_shareOf.cls ≠ "java/lang/invoke/MethodHandle" ∧ yX8_shareOf.cls ≠ "java/lang/invoke/VarHandle" ∧ (parseMethodDescriptor yX8_shareOf.desc).map (fun d => d.parameters.length) = some 1 := by decide +kernel
theorem cp_X8_shine : yX8_shine.cls ≠ "java/lang/invoke/MethodHandle" ∧ yX8_shine.cls ≠ "java/lang/invoke/VarHandle" ∧ (parseMethodDescriptor yX8_shine.desc).map (fun d => d.parameters.length) = some 4 := by decide +kernel
theorem cp_X8_take : yX8_take.cls ≠ "java/lang/invoke/MethodHandle" ∧ yX8_take.cls ≠ "java/lang/invoke/VarHandle" ∧ (parseMethodDescriptor yX8_take.desc).map (fun d => d.parameters.length) = some 1 := by decide +kernel
theorem cp_X8_toldBy : yX8_toldBy.cls ≠ "java/lang/invoke/MethodHandle" ∧ yX8_toldBy.cls ≠ "java/lang/invoke/VarHandle" ∧ (parseMethodDescriptor yX8_toldBy.desc).map (fun d => d.parameters.length) = some 4 := by decide +kernel
theorem cp_X8_warm : yX8_warm.cls ≠ "java/lang/invoke/MethodHandle" ∧ yX8_warm.cls ≠ "java/lang/invoke/VarHandle" ∧ (parseMethodDescriptor yX8_warm.desc).map (fun d => d.parameters.length) = some 4 := by decide +kernel
theorem cp_X10_init : yX10_init.cls ≠ "java/lang/invoke/MethodHandle" ∧ yX10_init.cls ≠ "java/lang/invoke/VarHandle" ∧ (parseMethodDescriptor yX10_init.desc).map (fun d => d.parameters.length) = some 0 := by decide +kernel
theorem cp_X10_above : yX10_above.cls ≠ "java/lang/invoke/MethodHandle" ∧ yX10_above.cls ≠ "java/lang/invoke/VarHandle" ∧ (parseMethodDescriptor yX10_above.desc).map (fun d => d.parameters.length) = some 1 := by decide +kernel
theorem cp_X10_apart : yX10_apart.cls ≠ "java/lang/invoke/MethodHandle" ∧ yX10_apart.cls ≠ "java/lang/invoke/VarHandle" ∧ (parseMethodDescriptor yX10_apart.desc).map (fun d => d.parameters.length) = some 5 := by decide +kernel
theorem cp_X10_as : yX10_as.cls ≠ "java/lang/invoke/MethodHandle" ∧ yX10_as.cls ≠ "java/lang/invoke/VarHandle" ∧ (parseMethodDescriptor yX10_as.desc).map (fun d => d.parameters.length) = some 2 := by decide +kernel
theorem cp_X10_backOf : yX10_backOf.cls ≠ "java/lang/invoke/MethodHandle" ∧ yX10_backOf.cls ≠ "java/lang/invoke/VarHandle" ∧ (parseMethodDescriptor yX10_backOf.desc).map (fun d => d.parameters.length) = some 2 := by decide +kernel
theorem cp_X10_barred : yX10_barred.cls ≠ "java/lang/invoke/MethodHandle" ∧ yX10_barred.cls ≠ "java/lang/invoke/VarHandle" ∧ (parseMethodDescriptor yX10_barred.desc).map (fun d => d.parameters.length) = some 3 := by decide +kernel
theorem cp_X10_beside : yX10_beside.cls ≠ "java/lang/invoke/MethodHandle" ∧ yX10_beside.cls ≠ "java/lang/invoke/VarHandle" ∧ (parseMethodDescriptor yX10_beside.desc).map (fun d => d.parameters.length) = some 2 := by decide +kernel
theorem cp_X10_both : yX10_both.cls ≠ "java/lang/invoke/MethodHandle" ∧ yX10_both.cls ≠ "java/lang/invoke/VarHandle" ∧ (parseMethodDescriptor yX10_both.desc).map (fun d => d.parameters.length) = some 3 := by decide +kernel
theorem cp_X10_brings : yX10_brings.cls ≠ "java/lang/invoke/MethodHandle" ∧ yX10_brings.cls ≠ "java/lang/invoke/VarHandle" ∧ (parseMethodDescriptor yX10_brings.desc).map (fun d => d.parameters.length) = some 1 := by decide +kernel
theorem cp_X10_byteAt : yX10_byteAt.cls ≠ "java/lang/invoke/MethodHandle" ∧ yX10_byteAt.cls ≠ "java/lang/invoke/VarHandle" ∧ (parseMethodDescriptor yX10_byteAt.desc).map (fun d => d.parameters.length) = some 1 := by decide +kernel
theorem cp_X10_cell : yX10_cell.cls ≠ "java/lang/invoke/MethodHandle" ∧ yX10_cell.cls ≠ "java/lang/invoke/VarHandle" ∧ (parseMethodDescriptor yX10_cell.desc).map (fun d => d.parameters.length) = some 4 := by decide +kernel
theorem cp_X10_copy : yX10_copy.cls ≠ "java/lang/invoke/MethodHandle" ∧ yX10_copy.cls ≠ "java/lang/invoke/VarHandle" ∧ (parseMethodDescriptor yX10_copy.desc).map (fun d => d.parameters.length) = some 5 := by decide +kernel
theorem cp_X10_count : yX10_count.cls ≠ "java/lang/invoke/MethodHandle" ∧ yX10_count.cls ≠ "java/lang/invoke/VarHandle" ∧ (parseMethodDescriptor yX10_count.desc).map (fun d => d.parameters.length) = some 1 := by decide +kernel
theorem cp_X10_countsHour : yX10_countsHour.cls ≠ "java/lang/invoke/MethodHandle" ∧ yX10_countsHour.cls ≠ "java/lang/invoke/VarHandle" ∧ (parseMethodDescriptor yX10_countsHour.desc).map (fun d => d.parameters.length) = some 2 := by decide +kernel
theorem cp_X10_emits : yX10_emits.cls ≠ "java/lang/invoke/MethodHandle" ∧ yX10_emits.cls ≠ "java/lang/invoke/VarHandle" ∧ (parseMethodDescriptor yX10_emits.desc).map (fun d => d.parameters.length) = some 1 := by decide +kernel
theorem cp_X10_ever : yX10_ever.cls ≠ "java/lang/invoke/MethodHandle" ∧ yX10_ever.cls ≠ "java/lang/invoke/VarHandle" ∧ (parseMethodDescriptor yX10_ever.desc).map (fun d => d.parameters.length) = some 2 := by decide +kernel
theorem cp_X10_expression : yX10_expression.cls ≠ "java/lang/invoke/MethodHandle" ∧ yX10_expression.cls ≠ "java/lang/invoke/VarHandle" ∧ (parseMethodDescriptor yX10_expression.desc).map (fun d => d.parameters.length) = some 0 := by decide +kernel
theorem cp_X10_feed : yX10_feed.cls ≠ "java/lang/invoke/MethodHandle" ∧ yX10_feed.cls ≠ "java/lang/invoke/VarHandle" ∧ (parseMethodDescriptor yX10_feed.desc).map (fun d => d.parameters.length) = some 2 := by decide +kernel
theorem cp_X10_finds : yX10_finds.cls ≠ "java/lang/invoke/MethodHandle" ∧ yX10_finds.cls ≠ "java/lang/invoke/VarHandle" ∧ (parseMethodDescriptor yX10_finds.desc).map (fun d => d.parameters.length) = some 1 := by decide +kernel
theorem cp_X10_force : yX10_force.cls ≠ "java/lang/invoke/MethodHandle" ∧ yX10_force.cls ≠ "java/lang/invoke/VarHandle" ∧ (parseMethodDescriptor yX10_force.desc).map (fun d => d.parameters.length) = some 1 := by decide +kernel
theorem cp_X10_foretold : yX10_foretold.cls ≠ "java/lang/invoke/MethodHandle" ∧ yX10_foretold.cls ≠ "java/lang/invoke/VarHandle" ∧ (parseMethodDescriptor yX10_foretold.desc).map (fun d => d.parameters.length) = some 4 := by decide +kernel
theorem cp_X10_gets : yX10_gets.cls ≠ "java/lang/invoke/MethodHandle" ∧ yX10_gets.cls ≠ "java/lang/invoke/VarHandle" ∧ (parseMethodDescriptor yX10_gets.desc).map (fun d => d.parameters.length) = some 1 := by decide +kernel
theorem cp_X10_go : yX10_go.cls ≠ "java/lang/invoke/MethodHandle" ∧ yX10_go.cls ≠ "java/lang/invoke/VarHandle" ∧ (parseMethodDescriptor yX10_go.desc).map (fun d => d.parameters.length) = some 4 := by decide +kernel
theorem cp_X10_goes : yX10_goes.cls ≠ "java/lang/invoke/MethodHandle" ∧ yX10_goes.cls ≠ "java/lang/invoke/VarHandle" ∧ (parseMethodDescriptor yX10_goes.desc).map (fun d => d.parameters.length) = some 4 := by decide +kernel
theorem cp_X10_held : yX10_held.cls ≠ "java/lang/invoke/MethodHandle" ∧ yX10_held.cls ≠ "java/lang/invoke/VarHandle" ∧ (parseMethodDescriptor yX10_held.desc).map (fun d => d.parameters.length) = some 1 := by decide +kernel
theorem cp_X10_hours : yX10_hours.cls ≠ "java/lang/invoke/MethodHandle" ∧ yX10_hours.cls ≠ "java/lang/invoke/VarHandle" ∧ (parseMethodDescriptor yX10_hours.desc).map (fun d => d.parameters.length) = some 1 := by decide +kernel
theorem cp_X10_house : yX10_house.cls ≠ "java/lang/invoke/MethodHandle" ∧ yX10_house.cls ≠ "java/lang/invoke/VarHandle" ∧ (parseMethodDescriptor yX10_house.desc).map (fun d => d.parameters.length) = some 2 := by decide +kernel
theorem cp_X10_houseOf : yX10_houseOf.cls ≠ "java/lang/invoke/MethodHandle" ∧ yX10_houseOf.cls ≠ "java/lang/invoke/VarHandle" ∧ (parseMethodDescriptor yX10_houseOf.desc).map (fun d => d.parameters.length) = some 2 := by decide +kernel
theorem cp_X10_image : yX10_image.cls ≠ "java/lang/invoke/MethodHandle" ∧ yX10_image.cls ≠ "java/lang/invoke/VarHandle" ∧ (parseMethodDescriptor yX10_image.desc).map (fun d => d.parameters.length) = some 0 := by decide +kernel
theorem cp_X10_isAhead : yX10_isAhead.cls ≠ "java/lang/invoke/MethodHandle" ∧ yX10_isAhead.cls ≠ "java/lang/invoke/VarHandle" ∧ (parseMethodDescriptor yX10_isAhead.desc).map (fun d => d.parameters.length) = some 2 := by decide +kernel
theorem cp_X10_isCell : yX10_isCell.cls ≠ "java/lang/invoke/MethodHandle" ∧ yX10_isCell.cls ≠ "java/lang/invoke/VarHandle" ∧ (parseMethodDescriptor yX10_isCell.desc).map (fun d => d.parameters.length) = some 1 := by decide +kernel
theorem cp_X10_isDigit : yX10_isDigit.cls ≠ "java/lang/invoke/MethodHandle" ∧ yX10_isDigit.cls ≠ "java/lang/invoke/VarHandle" ∧ (parseMethodDescriptor yX10_isDigit.desc).map (fun d => d.parameters.length) = some 1 := by decide +kernel
theorem cp_X10_isHouse : yX10_isHouse.cls ≠ "java/lang/invoke/MethodHandle" ∧ yX10_isHouse.cls ≠ "java/lang/invoke/VarHandle" ∧ (parseMethodDescriptor yX10_isHouse.desc).map (fun d => d.parameters.length) = some 1 := by decide +kernel
theorem cp_X10_isLaw : yX10_isLaw.cls ≠ "java/lang/invoke/MethodHandle" ∧ yX10_isLaw.cls ≠ "java/lang/invoke/VarHandle" ∧ (parseMethodDescriptor yX10_isLaw.desc).map (fun d => d.parameters.length) = some 1 := by decide +kernel
theorem cp_X10_isLawOrNone : yX10_isLawOrNone.cls ≠ "java/lang/invoke/MethodHandle" ∧ yX10_isLawOrNone.cls ≠ "java/lang/invoke/VarHandle" ∧ (parseMethodDescriptor yX10_isLawOrNone.desc).map (fun d => d.parameters.length) = some 1 := by decide +kernel
theorem cp_X10_isLetter : yX10_isLetter.cls ≠ "java/lang/invoke/MethodHandle" ∧ yX10_isLetter.cls ≠ "java/lang/invoke/VarHandle" ∧ (parseMethodDescriptor yX10_isLetter.desc).map (fun d => d.parameters.length) = some 1 := by decide +kernel
theorem cp_X10_isSheet : yX10_isSheet.cls ≠ "java/lang/invoke/MethodHandle" ∧ yX10_isSheet.cls ≠ "java/lang/invoke/VarHandle" ∧ (parseMethodDescriptor yX10_isSheet.desc).map (fun d => d.parameters.length) = some 1 := by decide +kernel
theorem cp_X10_isText : yX10_isText.cls ≠ "java/lang/invoke/MethodHandle" ∧ yX10_isText.cls ≠ "java/lang/invoke/VarHandle" ∧ (parseMethodDescriptor yX10_isText.desc).map (fun d => d.parameters.length) = some 0 := by decide +kernel
theorem cp_X10_itsBalance : yX10_itsBalance.cls ≠ "java/lang/invoke/MethodHandle" ∧ yX10_itsBalance.cls ≠ "java/lang/invoke/VarHandle" ∧ (parseMethodDescriptor yX10_itsBalance.desc).map (fun d => d.parameters.length) = some 1 := by decide +kernel
theorem cp_X10_keeps : yX10_keeps.cls ≠ "java/lang/invoke/MethodHandle" ∧ yX10_keeps.cls ≠ "java/lang/invoke/VarHandle" ∧ (parseMethodDescriptor yX10_keeps.desc).map (fun d => d.parameters.length) = some 1 := by decide +kernel
theorem cp_X10_latest : yX10_latest.cls ≠ "java/lang/invoke/MethodHandle" ∧ yX10_latest.cls ≠ "java/lang/invoke/VarHandle" ∧ (parseMethodDescriptor yX10_latest.desc).map (fun d => d.parameters.length) = some 2 := by decide +kernel
theorem cp_X10_law : yX10_law.cls ≠ "java/lang/invoke/MethodHandle" ∧ yX10_law.cls ≠ "java/lang/invoke/VarHandle" ∧ (parseMethodDescriptor yX10_law.desc).map (fun d => d.parameters.length) = some 1 := by decide +kernel
theorem cp_X10_line : yX10_line.cls ≠ "java/lang/invoke/MethodHandle" ∧ yX10_line.cls ≠ "java/lang/invoke/VarHandle" ∧ (parseMethodDescriptor yX10_line.desc).map (fun d => d.parameters.length) = some 2 := by decide +kernel
theorem cp_X10_look : yX10_look.cls ≠ "java/lang/invoke/MethodHandle" ∧ yX10_look.cls ≠ "java/lang/invoke/VarHandle" ∧ (parseMethodDescriptor yX10_look.desc).map (fun d => d.parameters.length) = some 4 := by decide +kernel
theorem cp_X10_moved : yX10_moved.cls ≠ "java/lang/invoke/MethodHandle" ∧ yX10_moved.cls ≠ "java/lang/invoke/VarHandle" ∧ (parseMethodDescriptor yX10_moved.desc).map (fun d => d.parameters.length) = some 1 := by decide +kernel
theorem cp_X10_must : yX10_must.cls ≠ "java/lang/invoke/MethodHandle" ∧ yX10_must.cls ≠ "java/lang/invoke/VarHandle" ∧ (parseMethodDescriptor yX10_must.desc).map (fun d => d.parameters.length) = some 2 := by decide +kernel
theorem cp_X10_mustOf : yX10_mustOf.cls ≠ "java/lang/invoke/MethodHandle" ∧ yX10_mustOf.cls ≠ "java/lang/invoke/VarHandle" ∧ (parseMethodDescriptor yX10_mustOf.desc).map (fun d => d.parameters.length) = some 2 := by decide +kernel
theorem cp_X10_named : yX10_named.cls ≠ "java/lang/invoke/MethodHandle" ∧ yX10_named.cls ≠ "java/lang/invoke/VarHandle" ∧ (parseMethodDescriptor yX10_named.desc).map (fun d => d.parameters.length) = some 4 := by decide +kernel
theorem cp_X10_need : yX10_need.cls ≠ "java/lang/invoke/MethodHandle" ∧ yX10_need.cls ≠ "java/lang/invoke/VarHandle" ∧ (parseMethodDescriptor yX10_need.desc).map (fun d => d.parameters.length) = some 3 := by decide +kernel
theorem cp_X10_needs : yX10_needs.cls ≠ "java/lang/invoke/MethodHandle" ∧ yX10_needs.cls ≠ "java/lang/invoke/VarHandle" ∧ (parseMethodDescriptor yX10_needs.desc).map (fun d => d.parameters.length) = some 1 := by decide +kernel
theorem cp_X10_next : yX10_next.cls ≠ "java/lang/invoke/MethodHandle" ∧ yX10_next.cls ≠ "java/lang/invoke/VarHandle" ∧ (parseMethodDescriptor yX10_next.desc).map (fun d => d.parameters.length) = some 0 := by decide +kernel
theorem cp_X10_night : yX10_night.cls ≠ "java/lang/invoke/MethodHandle" ∧ yX10_night.cls ≠ "java/lang/invoke/VarHandle" ∧ (parseMethodDescriptor yX10_night.desc).map (fun d => d.parameters.length) = some 2 := by decide +kernel
theorem cp_X10_number : yX10_number.cls ≠ "java/lang/invoke/MethodHandle" ∧ yX10_number.cls ≠ "java/lang/invoke/VarHandle" ∧ (parseMethodDescriptor yX10_number.desc).map (fun d => d.parameters.length) = some 0 := by decide +kernel
theorem cp_X10_of : yX10_of.cls ≠ "java/lang/invoke/MethodHandle" ∧ yX10_of.cls ≠ "java/lang/invoke/VarHandle" ∧ (parseMethodDescriptor yX10_of.desc).map (fun d => d.parameters.length) = some 2 := by decide +kernel
theorem cp_X10_ofCell : yX10_ofCell.cls ≠ "java/lang/invoke/MethodHandle" ∧ yX10_ofCell.cls ≠ "java/lang/invoke/VarHandle" ∧ (parseMethodDescriptor yX10_ofCell.desc).map (fun d => d.parameters.length) = some 2 := by decide +kernel
theorem cp_X10_ofHouse : yX10_ofHouse.cls ≠ "java/lang/invoke/MethodHandle" ∧ yX10_ofHouse.cls ≠ "java/lang/invoke/VarHandle" ∧ (parseMethodDescriptor yX10_ofHouse.desc).map (fun d => d.parameters.length) = some 2 := by decide +kernel
theorem cp_X10_oneHour : yX10_oneHour.cls ≠ "java/lang/invoke/MethodHandle" ∧ yX10_oneHour.cls ≠ "java/lang/invoke/VarHandle" ∧ (parseMethodDescriptor yX10_oneHour.desc).map (fun d => d.parameters.length) = some 0 := by decide +kernel
theorem cp_X10_order : yX10_order.cls ≠ "java/lang/invoke/MethodHandle" ∧ yX10_order.cls ≠ "java/lang/invoke/VarHandle" ∧ (parseMethodDescriptor yX10_order.desc).map (fun d => d.parameters.length) = some 1 := by decide +kernel
theorem cp_X10_parted : yX10_parted.cls ≠ "java/lang/invoke/MethodHandle" ∧ yX10_parted.cls ≠ "java/lang/invoke/VarHandle" ∧ (parseMethodDescriptor yX10_parted.desc).map (fun d => d.parameters.length) = some 4 := by decide +kernel
theorem cp_X10_power : yX10_power.cls ≠ "java/lang/invoke/MethodHandle" ∧ yX10_power.cls ≠ "java/lang/invoke/VarHandle" ∧ (parseMethodDescriptor yX10_power.desc).map (fun d => d.parameters.length) = some 2 := by decide +kernel
theorem cp_X10_powerNow : yX10_powerNow.cls ≠ "java/lang/invoke/MethodHandle" ∧ yX10_powerNow.cls ≠ "java/lang/invoke/VarHandle" ∧ (parseMethodDescriptor yX10_powerNow.desc).map (fun d => d.parameters.length) = some 1 := by decide +kernel
theorem cp_X10_puts : yX10_puts.cls ≠ "java/lang/invoke/MethodHandle" ∧ yX10_puts.cls ≠ "java/lang/invoke/VarHandle" ∧ (parseMethodDescriptor yX10_puts.desc).map (fun d => d.parameters.length) = some 3 := by decide +kernel
theorem cp_X10_rayOf : yX10_rayOf.cls ≠ "java/lang/invoke/MethodHandle" ∧ yX10_rayOf.cls ≠ "java/lang/invoke/VarHandle" ∧ (parseMethodDescriptor yX10_rayOf.desc).map (fun d => d.parameters.length) = some 1 := by decide +kernel
theorem cp_X10_read : yX10_read.cls ≠ "java/lang/invoke/MethodHandle" ∧ yX10_read.cls ≠ "java/lang/invoke/VarHandle" ∧ (parseMethodDescriptor yX10_read.desc).map (fun d => d.parameters.length) = some 2 := by decide +kernel
theorem cp_X10_readOf : yX10_readOf.cls ≠ "java/lang/invoke/MethodHandle" ∧ yX10_readOf.cls ≠ "java/lang/invoke/VarHandle" ∧ (parseMethodDescriptor yX10_readOf.desc).map (fun d => d.parameters.length) = some 1 := by decide +kernel
theorem cp_X10_saves : yX10_saves.cls ≠ "java/lang/invoke/MethodHandle" ∧ yX10_saves.cls ≠ "java/lang/invoke/VarHandle" ∧ (parseMethodDescriptor yX10_saves.desc).map (fun d => d.parameters.length) = some 1 := by decide +kernel
theorem cp_X10_saying : yX10_saying.cls ≠ "java/lang/invoke/MethodHandle" ∧ yX10_saying.cls ≠ "java/lang/invoke/VarHandle" ∧ (parseMethodDescriptor yX10_saying.desc).map (fun d => d.parameters.length) = some 1 := by decide +kernel
theorem cp_X10_says : yX10_says.cls ≠ "java/lang/invoke/MethodHandle" ∧ yX10_says.cls ≠ "java/lang/invoke/VarHandle" ∧ (parseMethodDescriptor yX10_says.desc).map (fun d => d.parameters.length) = some 2 := by decide +kernel
theorem cp_X10_seen : yX10_seen.cls ≠ "java/lang/invoke/MethodHandle" ∧ yX10_seen.cls ≠ "java/lang/invoke/VarHandle" ∧ (parseMethodDescriptor yX10_seen.desc).map (fun d => d.parameters.length) = some 2 := by decide +kernel
theorem cp_X10_setHouse : yX10_setHouse.cls ≠ "java/lang/invoke/MethodHandle" ∧ yX10_setHouse.cls ≠ "java/lang/invoke/VarHandle" ∧ (parseMethodDescriptor yX10_setHouse.desc).map (fun d => d.parameters.length) = some 3 := by decide +kernel
theorem cp_X10_shared : yX10_shared.cls ≠ "java/lang/invoke/MethodHandle" ∧ yX10_shared.cls ≠ "java/lang/invoke/VarHandle" ∧ (parseMethodDescriptor yX10_shared.desc).map (fun d => d.parameters.length) = some 2 := by decide +kernel
theorem cp_X10_sheet : yX10_sheet.cls ≠ "java/lang/invoke/MethodHandle" ∧ yX10_sheet.cls ≠ "java/lang/invoke/VarHandle" ∧ (parseMethodDescriptor yX10_sheet.desc).map (fun d => d.parameters.length) = some 3 := by decide +kernel
theorem cp_X10_show : yX10_show.cls ≠ "java/lang/invoke/MethodHandle" ∧ yX10_show.cls ≠ "java/lang/invoke/VarHandle" ∧ (parseMethodDescriptor yX10_show.desc).map (fun d => d.parameters.length) = some 1 := by decide +kernel
theorem cp_X10_since : yX10_since.cls ≠ "java/lang/invoke/MethodHandle" ∧ yX10_since.cls ≠ "java/lang/invoke/VarHandle" ∧ (parseMethodDescriptor yX10_since.desc).map (fun d => d.parameters.length) = some 2 := by decide +kernel
theorem cp_X10_status : yX10_status.cls ≠ "java/lang/invoke/MethodHandle" ∧ yX10_status.cls ≠ "java/lang/invoke/VarHandle" ∧ (parseMethodDescriptor yX10_status.desc).map (fun d => d.parameters.length) = some 1 := by decide +kernel
theorem cp_X10_tear : yX10_tear.cls ≠ "java/lang/invoke/MethodHandle" ∧ yX10_tear.cls ≠ "java/lang/invoke/VarHandle" ∧ (parseMethodDescriptor yX10_tear.desc).map (fun d => d.parameters.length) = some 0 := by decide +kernel
theorem cp_X10_tells : yX10_tells.cls ≠ "java/lang/invoke/MethodHandle" ∧ yX10_tells.cls ≠ "java/lang/invoke/VarHandle" ∧ (parseMethodDescriptor yX10_tells.desc).map (fun d => d.parameters.length) = some 2 := by decide +kernel
theorem cp_X10_told : yX10_told.cls ≠ "java/lang/invoke/MethodHandle" ∧ yX10_told.cls ≠ "java/lang/invoke/VarHandle" ∧ (parseMethodDescriptor yX10_told.desc).map (fun d => d.parameters.length) = some 1 := by decide +kernel
theorem cp_X10_top : yX10_top.cls ≠ "java/lang/invoke/MethodHandle" ∧ yX10_top.cls ≠ "java/lang/invoke/VarHandle" ∧ (parseMethodDescriptor yX10_top.desc).map (fun d => d.parameters.length) = some 2 := by decide +kernel
theorem cp_X10_undo : yX10_undo.cls ≠ "java/lang/invoke/MethodHandle" ∧ yX10_undo.cls ≠ "java/lang/invoke/VarHandle" ∧ (parseMethodDescriptor yX10_undo.desc).map (fun d => d.parameters.length) = some 0 := by decide +kernel
theorem cp_X10_warmth : yX10_warmth.cls ≠ "java/lang/invoke/MethodHandle" ∧ yX10_warmth.cls ≠ "java/lang/invoke/VarHandle" ∧ (parseMethodDescriptor yX10_warmth.desc).map (fun d => d.parameters.length) = some 1 := by decide +kernel
theorem cp_X10_weeks : yX10_weeks.cls ≠ "java/lang/invoke/MethodHandle" ∧ yX10_weeks.cls ≠ "java/lang/invoke/VarHandle" ∧ (parseMethodDescriptor yX10_weeks.desc).map (fun d => d.parameters.length) = some 2 := by decide +kernel
theorem cp_X10_wipe : yX10_wipe.cls ≠ "java/lang/invoke/MethodHandle" ∧ yX10_wipe.cls ≠ "java/lang/invoke/VarHandle" ∧ (parseMethodDescriptor yX10_wipe.desc).map (fun d => d.parameters.length) = some 0 := by decide +kernel
theorem cp_X10_within : yX10_within.cls ≠ "java/lang/invoke/MethodHandle" ∧ yX10_within.cls ≠ "java/lang/invoke/VarHandle" ∧ (parseMethodDescriptor yX10_within.desc).map (fun d => d.parameters.length) = some 3 := by decide +kernel
theorem cp_X10_wordOf : yX10_wordOf.cls ≠ "java/lang/invoke/MethodHandle" ∧ yX10_wordOf.cls ≠ "java/lang/invoke/VarHandle" ∧ (parseMethodDescriptor yX10_wordOf.desc).map (fun d => d.parameters.length) = some 1 := by decide +kernel
theorem cp_X10_worked : yX10_worked.cls ≠ "java/lang/invoke/MethodHandle" ∧ yX10_worked.cls ≠ "java/lang/invoke/VarHandle" ∧ (parseMethodDescriptor yX10_worked.desc).map (fun d => d.parameters.length) = some 3 := by decide +kernel
theorem cp_X10_would : yX10_would.cls ≠ "java/lang/invoke/MethodHandle" ∧ yX10_would.cls ≠ "java/lang/invoke/VarHandle" ∧ (parseMethodDescriptor yX10_would.desc).map (fun d => d.parameters.length) = some 4 := by decide +kernel
theorem cp_X10_write : yX10_write.cls ≠ "java/lang/invoke/MethodHandle" ∧ yX10_write.cls ≠ "java/lang/invoke/VarHandle" ∧ (parseMethodDescriptor yX10_write.desc).map (fun d => d.parameters.length) = some 3 := by decide +kernel
theorem cb_X9_9 : CB RX9 9 yX8_init cX8_init 2 ((Option.none : Option FieldType)) 0 := ⟨ca_X9_9, cp_X8_init, by decide⟩
theorem cb_X9_59 : CB RX9 59 yX9_within cX9_within 3 ((Option.some FieldType.boolean)) 3 := ⟨ca_X9_59, cp_X9_within, by decide⟩
theorem cb_X9_63 : CB RX9 63 yX9_finding cX9_finding 2 ((Option.some FieldType.int)) 1 := ⟨ca_X9_63, cp_X9_finding, by decide⟩
theorem cb_X9_67 : CB RX9 67 yX8_newCell cX8_newCell 1 ((Option.some (FieldType.object "WarmGlass$Cell"))) 0 := ⟨ca_X9_67, cp_X8_newCell, by decide⟩
theorem cb_X9_71 : CB RX9 71 yX0_begin cX0_begin 1 ((Option.none : Option FieldType)) 0 := ⟨ca_X9_71, cp_X0_begin, by decide⟩
theorem cb_X9_96 : CB RX9 96 yX8_cellAt cX8_cellAt 2 ((Option.some (FieldType.object "WarmGlass$Cell"))) 1 := ⟨ca_X9_96, cp_X8_cellAt, by decide⟩
theorem cb_X9_109 : CB RX9 109 yX8_passHour cX8_passHour 3 ((Option.none : Option FieldType)) 0 := ⟨ca_X9_109, cp_X8_passHour, by decide⟩
theorem cb_X9_118 : CB RX9 118 yX0_warmth cX0_warmth 1 ((Option.some FieldType.int)) 0 := ⟨ca_X9_118, cp_X0_warmth, by decide⟩
theorem cb_X9_122 : CB RX9 122 yX0_thermometer cX0_thermometer 2 ((Option.some FieldType.int)) 0 := ⟨ca_X9_122, cp_X0_thermometer, by decide⟩
theorem cb_X9_152 : CB RX9 152 yX9_isUnder cX9_isUnder 4 ((Option.some FieldType.boolean)) 2 := ⟨ca_X9_152, cp_X9_isUnder, by decide⟩
theorem cb_X9_159 : CB RX9 159 yX5_add cX5_add 2 ((Option.none : Option FieldType)) 1 := ⟨ca_X9_159, cp_X5_add, by decide⟩
theorem cb_X9_166 : CB RX9 166 yX3_faultOf cX3_faultOf 4 ((Option.some FieldType.int)) 1 := ⟨ca_X9_166, cp_X3_faultOf, by decide⟩
theorem cb_X9_172 : CB RX9 172 yX3_text cX3_text 3 ((Option.some (FieldType.object "WarmGlass$Text"))) 0 := ⟨ca_X9_172, cp_X3_text, by decide⟩
theorem cb_X9_176 : CB RX9 176 yX2_init cX2_init 3 ((Option.none : Option FieldType)) 2 := ⟨ca_X9_176, cp_X2_init, by decide⟩
theorem cb_X9_179 : CB RX9 179 yX8_addLaw cX8_addLaw 2 ((Option.none : Option FieldType)) 1 := ⟨ca_X9_179, cp_X8_addLaw, by decide⟩
theorem cb_X9_190 : CB RX9 190 yX9_isLawOrNone cX9_isLawOrNone 2 ((Option.some FieldType.boolean)) 1 := ⟨ca_X9_190, cp_X9_isLawOrNone, by decide⟩
theorem cb_X9_197 : CB RX9 197 yX8_lawAt cX8_lawAt 2 ((Option.some (FieldType.object "WarmGlass$Law"))) 1 := ⟨ca_X9_197, cp_X8_lawAt, by decide⟩
theorem cb_X9_201 : CB RX9 201 yX8_toldBy cX8_toldBy 5 ((Option.some FieldType.int)) 4 := ⟨ca_X9_201, cp_X8_toldBy, by decide⟩
theorem cb_X9_205 : CB RX9 205 yX8_floorOf cX8_floorOf 4 ((Option.some FieldType.int)) 3 := ⟨ca_X9_205, cp_X8_floorOf, by decide⟩
theorem cb_X9_209 : CB RX9 209 yX8_choiceOf cX8_choiceOf 4 ((Option.some FieldType.int)) 3 := ⟨ca_X9_209, cp_X8_choiceOf, by decide⟩
theorem cb_X9_213 : CB RX9 213 yX8_newHouse cX8_newHouse 1 ((Option.some (FieldType.object "WarmGlass$House"))) 0 := ⟨ca_X9_213, cp_X8_newHouse, by decide⟩
theorem cb_X9_217 : CB RX9 217 yX1_begin cX1_begin 1 ((Option.none : Option FieldType)) 0 := ⟨ca_X9_217, cp_X1_begin, by decide⟩
theorem cb_X9_236 : CB RX9 236 yX8_houseAt cX8_houseAt 2 ((Option.some (FieldType.object "WarmGlass$House"))) 1 := ⟨ca_X9_236, cp_X8_houseAt, by decide⟩
theorem cb_X9_243 : CB RX9 243 yX1_balance cX1_balance 1 ((Option.some FieldType.long)) 0 := ⟨ca_X9_243, cp_X1_balance, by decide⟩
theorem cb_X9_269 : CB RX9 269 yX8_placeInOrder cX8_placeInOrder 6 ((Option.some FieldType.int)) 1 := ⟨ca_X9_269, cp_X8_placeInOrder, by decide⟩
theorem cb_X9_273 : CB RX9 273 yX8_allShares cX8_allShares 4 ((Option.some FieldType.long)) 0 := ⟨ca_X9_273, cp_X8_allShares, by decide⟩
theorem cb_X9_276 : CB RX9 276 yX8_coinsOf cX8_coinsOf 18 ((Option.some FieldType.int)) 3 := ⟨ca_X9_276, cp_X8_coinsOf, by decide⟩
theorem cb_X9_289 : CB RX9 289 yX0_take cX0_take 2 ((Option.none : Option FieldType)) 1 := ⟨ca_X9_289, cp_X0_take, by decide⟩
theorem cb_X9_293 : CB RX9 293 yX8_foretell cX8_foretell 6 ((Option.none : Option FieldType)) 4 := ⟨ca_X9_293, cp_X8_foretell, by decide⟩
theorem cb_X9_297 : CB RX9 297 yX8_warm cX8_warm 5 ((Option.none : Option FieldType)) 4 := ⟨ca_X9_297, cp_X8_warm, by decide⟩
theorem cb_X9_303 : CB RX9 303 yX9_apart cX9_apart 2 ((Option.some FieldType.long)) 2 := ⟨ca_X9_303, cp_X9_apart, by decide⟩
theorem cb_X9_307 : CB RX9 307 yX9_mustOf cX9_mustOf 4 ((Option.some FieldType.int)) 3 := ⟨ca_X9_307, cp_X9_mustOf, by decide⟩
theorem cb_X9_310 : CB RX9 310 yX0_passHour cX0_passHour 3 ((Option.none : Option FieldType)) 1 := ⟨ca_X9_310, cp_X0_passHour, by decide⟩
theorem cb_X9_312 : CB RX9 312 yX9_sheetAt cX9_sheetAt 2 ((Option.some (FieldType.object "WarmGlass$Sheet"))) 1 := ⟨ca_X9_312, cp_X9_sheetAt, by decide⟩
theorem cb_X9_320 : CB RX9 320 yX4_numberAt cX4_numberAt 2 ((Option.some FieldType.long)) 1 := ⟨ca_X9_320, cp_X4_numberAt, by decide⟩
theorem cb_X9_324 : CB RX9 324 yX4_begin cX4_begin 4 ((Option.none : Option FieldType)) 2 := ⟨ca_X9_324, cp_X4_begin, by decide⟩
theorem cb_X9_327 : CB RX9 327 yX4_put cX4_put 4 ((Option.none : Option FieldType)) 2 := ⟨ca_X9_327, cp_X4_put, by decide⟩
theorem cb_X9_330 : CB RX9 330 yX4_has cX4_has 3 ((Option.some FieldType.boolean)) 2 := ⟨ca_X9_330, cp_X4_has, by decide⟩
theorem cb_X9_345 : CB RX9 345 yX8_take cX8_take 5 ((Option.none : Option FieldType)) 1 := ⟨ca_X9_345, cp_X8_take, by decide⟩
theorem cb_X9_348 : CB RX9 348 yX8_allHeat cX8_allHeat 4 ((Option.some FieldType.int)) 0 := ⟨ca_X9_348, cp_X8_allHeat, by decide⟩
theorem cb_X9_352 : CB RX9 352 yX8_makesBy cX8_makesBy 7 ((Option.some FieldType.int)) 4 := ⟨ca_X9_352, cp_X8_makesBy, by decide⟩
theorem cb_X9_356 : CB RX9 356 yX8_raysOverFloor cX8_raysOverFloor 4 ((Option.some FieldType.int)) 2 := ⟨ca_X9_356, cp_X8_raysOverFloor, by decide⟩
theorem cb_X0_63 : CB RX0 63 yX0_warmth cX0_warmth 1 ((Option.some FieldType.int)) 0 := ⟨ca_X0_63, cp_X0_warmth, by decide⟩
theorem cb_X0_67 : CB RX0 67 yX0_powerThatCounts cX0_powerThatCounts 1 ((Option.some FieldType.int)) 0 := ⟨ca_X0_67, cp_X0_powerThatCounts, by decide⟩
theorem cb_X0_70 : CB RX0 70 yX0_gasFrom cX0_gasFrom 2 ((Option.some FieldType.int)) 1 := ⟨ca_X0_70, cp_X0_gasFrom, by decide⟩
theorem cb_X0_74 : CB RX0 74 yX0_backOf cX0_backOf 2 ((Option.some FieldType.int)) 1 := ⟨ca_X0_74, cp_X0_backOf, by decide⟩
theorem cb_X0_83 : CB RX0 83 yX0_toHeat cX0_toHeat 4 ((Option.some FieldType.int)) 1 := ⟨ca_X0_83, cp_X0_toHeat, by decide⟩
theorem cb_X1_56 : CB RX1 56 yX1_balance cX1_balance 1 ((Option.some FieldType.long)) 0 := ⟨ca_X1_56, cp_X1_balance, by decide⟩
theorem cb_X1_66 : CB RX1 66 yX0_thermometer cX0_thermometer 2 ((Option.some FieldType.int)) 0 := ⟨ca_X1_66, cp_X0_thermometer, by decide⟩
theorem cb_X1_75 : CB RX1 75 yX0_gasFrom cX0_gasFrom 2 ((Option.some FieldType.int)) 1 := ⟨ca_X1_75, cp_X0_gasFrom, by decide⟩
theorem cb_X3_37 : CB RX3 37 yX3_skipBlanks cX3_skipBlanks 3 ((Option.none : Option FieldType)) 1 := ⟨ca_X3_37, cp_X3_skipBlanks, by decide⟩
theorem cb_X3_46 : CB RX3 46 yX3_takesToken cX3_takesToken 3 ((Option.some FieldType.boolean)) 1 := ⟨ca_X3_46, cp_X3_takesToken, by decide⟩
theorem cb_X3_58 : CB RX3 58 yX6_init cX6_init 2 ((Option.none : Option FieldType)) 1 := ⟨ca_X3_58, cp_X6_init, by decide⟩
theorem cb_X3_61 : CB RX3 61 yX5_byteAt cX5_byteAt 2 ((Option.some FieldType.int)) 1 := ⟨ca_X3_61, cp_X5_byteAt, by decide⟩
theorem cb_X3_65 : CB RX3 65 yX3_isLetter cX3_isLetter 1 ((Option.some FieldType.boolean)) 1 := ⟨ca_X3_65, cp_X3_isLetter, by decide⟩
theorem cb_X3_69 : CB RX3 69 yX3_nextWord cX3_nextWord 4 ((Option.some FieldType.int)) 1 := ⟨ca_X3_69, cp_X3_nextWord, by decide⟩
theorem cb_X3_73 : CB RX3 73 yX3_takesWord cX3_takesWord 2 ((Option.some FieldType.boolean)) 1 := ⟨ca_X3_73, cp_X3_takesWord, by decide⟩
theorem cb_X3_76 : CB RX3 76 yX3_isDigit cX3_isDigit 1 ((Option.some FieldType.boolean)) 1 := ⟨ca_X3_76, cp_X3_isDigit, by decide⟩
theorem cb_X3_79 : CB RX3 79 yX3_nextNumber cX3_nextNumber 4 ((Option.some FieldType.int)) 1 := ⟨ca_X3_79, cp_X3_nextNumber, by decide⟩
theorem cb_X3_82 : CB RX3 82 yX3_takesNumber cX3_takesNumber 2 ((Option.some FieldType.boolean)) 1 := ⟨ca_X3_82, cp_X3_takesNumber, by decide⟩
theorem cb_X3_85 : CB RX3 85 yX3_takesOpen cX3_takesOpen 1 ((Option.some FieldType.boolean)) 0 := ⟨ca_X3_85, cp_X3_takesOpen, by decide⟩
theorem cb_X3_89 : CB RX3 89 yX3_takesComma cX3_takesComma 2 ((Option.some FieldType.boolean)) 0 := ⟨ca_X3_89, cp_X3_takesComma, by decide⟩
theorem cb_X3_92 : CB RX3 92 yX3_takesClose cX3_takesClose 2 ((Option.some FieldType.boolean)) 0 := ⟨ca_X3_92, cp_X3_takesClose, by decide⟩
theorem cb_X3_95 : CB RX3 95 yX3_codeOf cX3_codeOf 1 ((Option.some FieldType.int)) 1 := ⟨ca_X3_95, cp_X3_codeOf, by decide⟩
theorem cb_X3_101 : CB RX3 101 yX3_emit cX3_emit 2 ((Option.none : Option FieldType)) 1 := ⟨ca_X3_101, cp_X3_emit, by decide⟩
theorem cb_X4_31 : CB RX4 31 yX4_lowest cX4_lowest 3 ((Option.some FieldType.long)) 1 := ⟨ca_X4_31, cp_X4_lowest, by decide⟩
theorem cb_X7_34 : CB RX7 34 yX0_powerThatCounts cX0_powerThatCounts 1 ((Option.some FieldType.int)) 0 := ⟨ca_X7_34, cp_X0_powerThatCounts, by decide⟩
theorem cb_X7_48 : CB RX7 48 yX7_valueOf cX7_valueOf 2 ((Option.some FieldType.int)) 1 := ⟨ca_X7_48, cp_X7_valueOf, by decide⟩
theorem cb_X7_52 : CB RX7 52 yX7_resultOf cX7_resultOf 4 ((Option.some FieldType.int)) 1 := ⟨ca_X7_52, cp_X7_resultOf, by decide⟩
theorem cb_X7_55 : CB RX7 55 yX7_push cX7_push 2 ((Option.none : Option FieldType)) 1 := ⟨ca_X7_55, cp_X7_push, by decide⟩
theorem cb_X7_59 : CB RX7 59 yX7_pop cX7_pop 1 ((Option.some FieldType.int)) 0 := ⟨ca_X7_59, cp_X7_pop, by decide⟩
theorem cb_X8_61 : CB RX8 61 yX8_cellAt cX8_cellAt 2 ((Option.some (FieldType.object "WarmGlass$Cell"))) 1 := ⟨ca_X8_61, cp_X8_cellAt, by decide⟩
theorem cb_X8_65 : CB RX8 65 yX0_take cX0_take 2 ((Option.none : Option FieldType)) 1 := ⟨ca_X8_65, cp_X0_take, by decide⟩
theorem cb_X8_69 : CB RX8 69 yX8_lawAt cX8_lawAt 2 ((Option.some (FieldType.object "WarmGlass$Law"))) 1 := ⟨ca_X8_69, cp_X8_lawAt, by decide⟩
theorem cb_X8_73 : CB RX8 73 yX8_houseAt cX8_houseAt 2 ((Option.some (FieldType.object "WarmGlass$House"))) 1 := ⟨ca_X8_73, cp_X8_houseAt, by decide⟩
theorem cb_X8_77 : CB RX8 77 yX1_take cX1_take 2 ((Option.none : Option FieldType)) 1 := ⟨ca_X8_77, cp_X1_take, by decide⟩
theorem cb_X8_80 : CB RX8 80 yX0_warmth cX0_warmth 1 ((Option.some FieldType.int)) 0 := ⟨ca_X8_80, cp_X0_warmth, by decide⟩
theorem cb_X8_84 : CB RX8 84 yX7_worked cX7_worked 8 ((Option.some FieldType.int)) 5 := ⟨ca_X8_84, cp_X7_worked, by decide⟩
theorem cb_X8_88 : CB RX8 88 yX0_thermometer cX0_thermometer 2 ((Option.some FieldType.int)) 0 := ⟨ca_X8_88, cp_X0_thermometer, by decide⟩
theorem cb_X8_106 : CB RX8 106 yX8_makesBy cX8_makesBy 7 ((Option.some FieldType.int)) 4 := ⟨ca_X8_106, cp_X8_makesBy, by decide⟩
theorem cb_X8_110 : CB RX8 110 yX0_passHour cX0_passHour 3 ((Option.none : Option FieldType)) 1 := ⟨ca_X8_110, cp_X0_passHour, by decide⟩
theorem cb_X8_114 : CB RX8 114 yX8_floorOf cX8_floorOf 4 ((Option.some FieldType.int)) 3 := ⟨ca_X8_114, cp_X8_floorOf, by decide⟩
theorem cb_X8_121 : CB RX8 121 yX8_raysOverFloor cX8_raysOverFloor 4 ((Option.some FieldType.int)) 2 := ⟨ca_X8_121, cp_X8_raysOverFloor, by decide⟩
theorem cb_X8_127 : CB RX8 127 yX8_warm cX8_warm 5 ((Option.none : Option FieldType)) 4 := ⟨ca_X8_127, cp_X8_warm, by decide⟩
theorem cb_X8_131 : CB RX8 131 yX8_shine cX8_shine 5 ((Option.none : Option FieldType)) 4 := ⟨ca_X8_131, cp_X8_shine, by decide⟩
theorem cb_X8_134 : CB RX8 134 yX8_passHourOf cX8_passHourOf 3 ((Option.none : Option FieldType)) 1 := ⟨ca_X8_134, cp_X8_passHourOf, by decide⟩
theorem cb_X8_143 : CB RX8 143 yX8_choiceOf cX8_choiceOf 4 ((Option.some FieldType.int)) 3 := ⟨ca_X8_143, cp_X8_choiceOf, by decide⟩
theorem cb_X8_146 : CB RX8 146 yX1_addHour cX1_addHour 4 ((Option.none : Option FieldType)) 1 := ⟨ca_X8_146, cp_X1_addHour, by decide⟩
theorem cb_X8_149 : CB RX8 149 yX1_speak cX1_speak 2 ((Option.none : Option FieldType)) 1 := ⟨ca_X8_149, cp_X1_speak, by decide⟩
theorem cb_X8_158 : CB RX8 158 yX1_isBefore cX1_isBefore 2 ((Option.some FieldType.boolean)) 1 := ⟨ca_X8_158, cp_X1_isBefore, by decide⟩
theorem cb_X8_162 : CB RX8 162 yX8_shareOf cX8_shareOf 3 ((Option.some FieldType.long)) 1 := ⟨ca_X8_162, cp_X8_shareOf, by decide⟩
theorem cb_X8_166 : CB RX8 166 yX1_share cX1_share 1 ((Option.some FieldType.long)) 0 := ⟨ca_X8_166, cp_X1_share, by decide⟩
theorem cb_L_9 : CB RL 9 yX9_init cX9_init 2 ((Option.none : Option FieldType)) 0 := ⟨ca_L_9, cp_X9_init, by decide⟩
theorem cb_L_12 : CB RL 12 yX10_init cX10_init 1 ((Option.none : Option FieldType)) 0 := ⟨ca_L_12, cp_X10_init, by decide⟩
theorem cb_L_13 : CB RL 13 yX9_cell cX9_cell 8 ((Option.some FieldType.int)) 4 := ⟨ca_L_13, cp_X9_cell, by decide⟩
theorem cb_L_17 : CB RL 17 yX10_cell cX10_cell 8 ((Option.some FieldType.int)) 4 := ⟨ca_L_17, cp_X10_cell, by decide⟩
theorem cb_L_18 : CB RL 18 yX9_power cX9_power 5 ((Option.some FieldType.int)) 2 := ⟨ca_L_18, cp_X9_power, by decide⟩
theorem cb_L_22 : CB RL 22 yX10_power cX10_power 4 ((Option.some FieldType.int)) 2 := ⟨ca_L_22, cp_X10_power, by decide⟩
theorem cb_L_23 : CB RL 23 yX9_top cX9_top 4 ((Option.some FieldType.int)) 2 := ⟨ca_L_23, cp_X9_top, by decide⟩
theorem cb_L_26 : CB RL 26 yX10_top cX10_top 4 ((Option.some FieldType.int)) 2 := ⟨ca_L_26, cp_X10_top, by decide⟩
theorem cb_L_27 : CB RL 27 yX9_hours cX9_hours 3 ((Option.some FieldType.int)) 1 := ⟨ca_L_27, cp_X9_hours, by decide⟩
theorem cb_L_31 : CB RL 31 yX10_hours cX10_hours 3 ((Option.some FieldType.int)) 1 := ⟨ca_L_31, cp_X10_hours, by decide⟩
theorem cb_L_32 : CB RL 32 yX9_of cX9_of 4 ((Option.some FieldType.int)) 2 := ⟨ca_L_32, cp_X9_of, by decide⟩
theorem cb_L_35 : CB RL 35 yX10_of cX10_of 3 ((Option.some FieldType.int)) 2 := ⟨ca_L_35, cp_X10_of, by decide⟩
theorem cb_L_36 : CB RL 36 yX9_latest cX9_latest 4 ((Option.some FieldType.int)) 2 := ⟨ca_L_36, cp_X9_latest, by decide⟩
theorem cb_L_39 : CB RL 39 yX10_latest cX10_latest 3 ((Option.some FieldType.int)) 2 := ⟨ca_L_39, cp_X10_latest, by decide⟩
theorem cb_L_40 : CB RL 40 yX9_ever cX9_ever 4 ((Option.some FieldType.int)) 2 := ⟨ca_L_40, cp_X9_ever, by decide⟩
theorem cb_L_43 : CB RL 43 yX10_ever cX10_ever 3 ((Option.some FieldType.int)) 2 := ⟨ca_L_43, cp_X10_ever, by decide⟩
theorem cb_L_44 : CB RL 44 yX9_as cX9_as 4 ((Option.some FieldType.int)) 2 := ⟨ca_L_44, cp_X9_as, by decide⟩
theorem cb_L_47 : CB RL 47 yX10_as cX10_as 4 ((Option.some FieldType.int)) 2 := ⟨ca_L_47, cp_X10_as, by decide⟩
theorem cb_L_48 : CB RL 48 yX9_feed cX9_feed 4 ((Option.some FieldType.int)) 2 := ⟨ca_L_48, cp_X9_feed, by decide⟩
theorem cb_L_51 : CB RL 51 yX10_feed cX10_feed 4 ((Option.some FieldType.int)) 2 := ⟨ca_L_51, cp_X10_feed, by decide⟩
theorem cb_L_52 : CB RL 52 yX9_wipe cX9_wipe 2 ((Option.some FieldType.int)) 0 := ⟨ca_L_52, cp_X9_wipe, by decide⟩
theorem cb_L_56 : CB RL 56 yX10_wipe cX10_wipe 2 ((Option.some FieldType.int)) 0 := ⟨ca_L_56, cp_X10_wipe, by decide⟩
theorem cb_L_57 : CB RL 57 yX9_law cX9_law 3 ((Option.some FieldType.int)) 1 := ⟨ca_L_57, cp_X9_law, by decide⟩
theorem cb_L_60 : CB RL 60 yX10_law cX10_law 2 ((Option.some FieldType.int)) 1 := ⟨ca_L_60, cp_X10_law, by decide⟩
theorem cb_L_61 : CB RL 61 yX9_told cX9_told 3 ((Option.some FieldType.int)) 1 := ⟨ca_L_61, cp_X9_told, by decide⟩
theorem cb_L_64 : CB RL 64 yX10_told cX10_told 2 ((Option.some FieldType.int)) 1 := ⟨ca_L_64, cp_X10_told, by decide⟩
theorem cb_L_65 : CB RL 65 yX9_force cX9_force 3 ((Option.some FieldType.int)) 1 := ⟨ca_L_65, cp_X9_force, by decide⟩
theorem cb_L_68 : CB RL 68 yX10_force cX10_force 3 ((Option.some FieldType.int)) 1 := ⟨ca_L_68, cp_X10_force, by decide⟩
theorem cb_L_69 : CB RL 69 yX9_tells cX9_tells 5 ((Option.some FieldType.int)) 2 := ⟨ca_L_69, cp_X9_tells, by decide⟩
theorem cb_L_72 : CB RL 72 yX10_tells cX10_tells 3 ((Option.some FieldType.int)) 2 := ⟨ca_L_72, cp_X10_tells, by decide⟩
theorem cb_L_73 : CB RL 73 yX9_says cX9_says 4 ((Option.some FieldType.int)) 2 := ⟨ca_L_73, cp_X9_says, by decide⟩
theorem cb_L_76 : CB RL 76 yX10_says cX10_says 3 ((Option.some FieldType.int)) 2 := ⟨ca_L_76, cp_X10_says, by decide⟩
theorem cb_L_77 : CB RL 77 yX9_house cX9_house 8 ((Option.some FieldType.int)) 2 := ⟨ca_L_77, cp_X9_house, by decide⟩
theorem cb_L_80 : CB RL 80 yX10_house cX10_house 6 ((Option.some FieldType.int)) 2 := ⟨ca_L_80, cp_X10_house, by decide⟩
theorem cb_L_81 : CB RL 81 yX9_houseOf cX9_houseOf 4 ((Option.some FieldType.long)) 2 := ⟨ca_L_81, cp_X9_houseOf, by decide⟩
theorem cb_L_85 : CB RL 85 yX10_houseOf cX10_houseOf 7 ((Option.some FieldType.long)) 2 := ⟨ca_L_85, cp_X10_houseOf, by decide⟩
theorem cb_L_86 : CB RL 86 yX9_since cX9_since 4 ((Option.some FieldType.int)) 2 := ⟨ca_L_86, cp_X9_since, by decide⟩
theorem cb_L_89 : CB RL 89 yX10_since cX10_since 3 ((Option.some FieldType.int)) 2 := ⟨ca_L_89, cp_X10_since, by decide⟩
theorem cb_L_90 : CB RL 90 yX9_order cX9_order 3 ((Option.some FieldType.int)) 1 := ⟨ca_L_90, cp_X9_order, by decide⟩
theorem cb_L_93 : CB RL 93 yX10_order cX10_order 5 ((Option.some FieldType.int)) 1 := ⟨ca_L_93, cp_X10_order, by decide⟩
theorem cb_L_94 : CB RL 94 yX9_saying cX9_saying 5 ((Option.some FieldType.int)) 1 := ⟨ca_L_94, cp_X9_saying, by decide⟩
theorem cb_L_97 : CB RL 97 yX10_saying cX10_saying 4 ((Option.some FieldType.int)) 1 := ⟨ca_L_97, cp_X10_saying, by decide⟩
theorem cb_L_98 : CB RL 98 yX9_beside cX9_beside 7 ((Option.some FieldType.int)) 2 := ⟨ca_L_98, cp_X9_beside, by decide⟩
theorem cb_L_101 : CB RL 101 yX10_beside cX10_beside 7 ((Option.some FieldType.int)) 2 := ⟨ca_L_101, cp_X10_beside, by decide⟩
theorem cb_L_102 : CB RL 102 yX9_shared cX9_shared 5 ((Option.some FieldType.int)) 2 := ⟨ca_L_102, cp_X9_shared, by decide⟩
theorem cb_L_105 : CB RL 105 yX10_shared cX10_shared 13 ((Option.some FieldType.int)) 2 := ⟨ca_L_105, cp_X10_shared, by decide⟩
theorem cb_L_106 : CB RL 106 yX9_line cX9_line 5 ((Option.some FieldType.int)) 2 := ⟨ca_L_106, cp_X9_line, by decide⟩
theorem cb_L_109 : CB RL 109 yX10_line cX10_line 4 ((Option.some FieldType.int)) 2 := ⟨ca_L_109, cp_X10_line, by decide⟩
theorem cb_L_110 : CB RL 110 yX9_show cX9_show 3 ((Option.some FieldType.int)) 1 := ⟨ca_L_110, cp_X9_show, by decide⟩
theorem cb_L_113 : CB RL 113 yX10_show cX10_show 2 ((Option.some FieldType.int)) 1 := ⟨ca_L_113, cp_X10_show, by decide⟩
theorem cb_L_114 : CB RL 114 yX9_moved cX9_moved 3 ((Option.some FieldType.int)) 1 := ⟨ca_L_114, cp_X9_moved, by decide⟩
theorem cb_L_117 : CB RL 117 yX10_moved cX10_moved 2 ((Option.some FieldType.int)) 1 := ⟨ca_L_117, cp_X10_moved, by decide⟩
theorem cb_L_118 : CB RL 118 yX9_foretold cX9_foretold 6 ((Option.some FieldType.int)) 4 := ⟨ca_L_118, cp_X9_foretold, by decide⟩
theorem cb_L_121 : CB RL 121 yX10_foretold cX10_foretold 5 ((Option.some FieldType.int)) 4 := ⟨ca_L_121, cp_X10_foretold, by decide⟩
theorem cb_L_122 : CB RL 122 yX9_parted cX9_parted 7 ((Option.some FieldType.int)) 4 := ⟨ca_L_122, cp_X9_parted, by decide⟩
theorem cb_L_125 : CB RL 125 yX10_parted cX10_parted 8 ((Option.some FieldType.int)) 4 := ⟨ca_L_125, cp_X10_parted, by decide⟩
theorem cb_L_126 : CB RL 126 yX9_look cX9_look 14 ((Option.some FieldType.int)) 4 := ⟨ca_L_126, cp_X9_look, by decide⟩
theorem cb_L_129 : CB RL 129 yX10_look cX10_look 11 ((Option.some FieldType.int)) 4 := ⟨ca_L_129, cp_X10_look, by decide⟩
theorem cb_L_130 : CB RL 130 yX9_must cX9_must 4 ((Option.some FieldType.int)) 2 := ⟨ca_L_130, cp_X9_must, by decide⟩
theorem cb_L_133 : CB RL 133 yX10_must cX10_must 3 ((Option.some FieldType.int)) 2 := ⟨ca_L_133, cp_X10_must, by decide⟩
theorem cb_L_134 : CB RL 134 yX9_barred cX9_barred 7 ((Option.some FieldType.int)) 3 := ⟨ca_L_134, cp_X9_barred, by decide⟩
theorem cb_L_138 : CB RL 138 yX10_barred cX10_barred 6 ((Option.some FieldType.int)) 3 := ⟨ca_L_138, cp_X10_barred, by decide⟩
theorem cb_L_139 : CB RL 139 yX9_night cX9_night 5 ((Option.some FieldType.int)) 2 := ⟨ca_L_139, cp_X9_night, by decide⟩
theorem cb_L_142 : CB RL 142 yX10_night cX10_night 4 ((Option.some FieldType.int)) 2 := ⟨ca_L_142, cp_X10_night, by decide⟩
theorem cb_L_143 : CB RL 143 yX9_need cX9_need 7 ((Option.some FieldType.int)) 3 := ⟨ca_L_143, cp_X9_need, by decide⟩
theorem cb_L_146 : CB RL 146 yX10_need cX10_need 6 ((Option.some FieldType.int)) 3 := ⟨ca_L_146, cp_X10_need, by decide⟩
theorem cb_L_147 : CB RL 147 yX9_read cX9_read 6 ((Option.some FieldType.int)) 2 := ⟨ca_L_147, cp_X9_read, by decide⟩
theorem cb_L_150 : CB RL 150 yX10_read cX10_read 5 ((Option.some FieldType.int)) 2 := ⟨ca_L_150, cp_X10_read, by decide⟩
theorem cb_L_151 : CB RL 151 yX9_sheet cX9_sheet 5 ((Option.some FieldType.int)) 3 := ⟨ca_L_151, cp_X9_sheet, by decide⟩
theorem cb_L_154 : CB RL 154 yX10_sheet cX10_sheet 5 ((Option.some FieldType.int)) 3 := ⟨ca_L_154, cp_X10_sheet, by decide⟩
theorem cb_L_157 : CB RL 157 yX9_write cX9_write 8 ((Option.some FieldType.long)) 3 := ⟨ca_L_157, cp_X9_write, by decide⟩
theorem cb_L_161 : CB RL 161 yX10_write cX10_write 7 ((Option.some FieldType.long)) 3 := ⟨ca_L_161, cp_X10_write, by decide⟩
theorem cb_L_162 : CB RL 162 yX9_copy cX9_copy 8 ((Option.some FieldType.int)) 5 := ⟨ca_L_162, cp_X9_copy, by decide⟩
theorem cb_L_166 : CB RL 166 yX10_copy cX10_copy 7 ((Option.some FieldType.int)) 5 := ⟨ca_L_166, cp_X10_copy, by decide⟩
theorem cb_L_167 : CB RL 167 yX9_weeks cX9_weeks 9 ((Option.some FieldType.int)) 2 := ⟨ca_L_167, cp_X9_weeks, by decide⟩
theorem cb_L_170 : CB RL 170 yX10_weeks cX10_weeks 7 ((Option.some FieldType.int)) 2 := ⟨ca_L_170, cp_X10_weeks, by decide⟩
theorem cb_L_171 : CB RL 171 yX9_image cX9_image 1 ((Option.some FieldType.int)) 0 := ⟨ca_L_171, cp_X9_image, by decide⟩
theorem cb_L_174 : CB RL 174 yX10_image cX10_image 2 ((Option.some FieldType.int)) 0 := ⟨ca_L_174, cp_X10_image, by decide⟩
theorem cb_L_175 : CB RL 175 yX9_undo cX9_undo 1 ((Option.some FieldType.int)) 0 := ⟨ca_L_175, cp_X9_undo, by decide⟩
theorem cb_L_178 : CB RL 178 yX10_undo cX10_undo 2 ((Option.some FieldType.int)) 0 := ⟨ca_L_178, cp_X10_undo, by decide⟩
theorem cb_L_179 : CB RL 179 yX9_tear cX9_tear 2 ((Option.some FieldType.int)) 0 := ⟨ca_L_179, cp_X9_tear, by decide⟩
theorem cb_L_182 : CB RL 182 yX10_tear cX10_tear 2 ((Option.some FieldType.int)) 0 := ⟨ca_L_182, cp_X10_tear, by decide⟩
theorem cb_L_183 : CB RL 183 yX9_count cX9_count 2 ((Option.some FieldType.int)) 1 := ⟨ca_L_183, cp_X9_count, by decide⟩
theorem cb_L_186 : CB RL 186 yX10_count cX10_count 4 ((Option.some FieldType.int)) 1 := ⟨ca_L_186, cp_X10_count, by decide⟩
theorem cb_L_187 : CB RL 187 yX9_status cX9_status 4 ((Option.some FieldType.int)) 1 := ⟨ca_L_187, cp_X9_status, by decide⟩
theorem cb_L_190 : CB RL 190 yX10_status cX10_status 4 ((Option.some FieldType.int)) 1 := ⟨ca_L_190, cp_X10_status, by decide⟩
theorem cb_X10_62 : CB RX10 62 yX10_within cX10_within 3 ((Option.some FieldType.boolean)) 3 := ⟨ca_X10_62, cp_X10_within, by decide⟩
theorem cb_X10_67 : CB RX10 67 yX10_finds cX10_finds 2 ((Option.some FieldType.int)) 1 := ⟨ca_X10_67, cp_X10_finds, by decide⟩
theorem cb_X10_72 : CB RX10 72 yX10_puts cX10_puts 4 ((Option.none : Option FieldType)) 3 := ⟨ca_X10_72, cp_X10_puts, by decide⟩
theorem cb_X10_76 : CB RX10 76 yX10_isCell cX10_isCell 2 ((Option.some FieldType.boolean)) 1 := ⟨ca_X10_76, cp_X10_isCell, by decide⟩
theorem cb_X10_80 : CB RX10 80 yX10_ofCell cX10_ofCell 3 ((Option.some FieldType.int)) 2 := ⟨ca_X10_80, cp_X10_ofCell, by decide⟩
theorem cb_X10_84 : CB RX10 84 yX10_warmth cX10_warmth 2 ((Option.some FieldType.int)) 1 := ⟨ca_X10_84, cp_X10_warmth, by decide⟩
theorem cb_X10_87 : CB RX10 87 yX10_worked cX10_worked 8 ((Option.some FieldType.int)) 3 := ⟨ca_X10_87, cp_X10_worked, by decide⟩
theorem cb_X10_91 : CB RX10 91 yX10_held cX10_held 1 ((Option.some FieldType.int)) 1 := ⟨ca_X10_91, cp_X10_held, by decide⟩
theorem cb_X10_94 : CB RX10 94 yX10_powerNow cX10_powerNow 2 ((Option.some FieldType.int)) 1 := ⟨ca_X10_94, cp_X10_powerNow, by decide⟩
theorem cb_X10_97 : CB RX10 97 yX10_backOf cX10_backOf 4 ((Option.some FieldType.int)) 2 := ⟨ca_X10_97, cp_X10_backOf, by decide⟩
theorem cb_X10_100 : CB RX10 100 yX10_rayOf cX10_rayOf 2 ((Option.some FieldType.int)) 1 := ⟨ca_X10_100, cp_X10_rayOf, by decide⟩
theorem cb_X10_103 : CB RX10 103 yX10_goes cX10_goes 15 ((Option.none : Option FieldType)) 4 := ⟨ca_X10_103, cp_X10_goes, by decide⟩
theorem cb_X10_107 : CB RX10 107 yX10_countsHour cX10_countsHour 7 ((Option.none : Option FieldType)) 2 := ⟨ca_X10_107, cp_X10_countsHour, by decide⟩
theorem cb_X10_112 : CB RX10 112 yX10_oneHour cX10_oneHour 3 ((Option.none : Option FieldType)) 0 := ⟨ca_X10_112, cp_X10_oneHour, by decide⟩
theorem cb_X10_115 : CB RX10 115 yX10_readOf cX10_readOf 3 ((Option.some FieldType.int)) 1 := ⟨ca_X10_115, cp_X10_readOf, by decide⟩
theorem cb_X10_118 : CB RX10 118 yX10_above cX10_above 1 ((Option.some FieldType.int)) 1 := ⟨ca_X10_118, cp_X10_above, by decide⟩
theorem cb_X10_132 : CB RX10 132 yX10_byteAt cX10_byteAt 2 ((Option.some FieldType.int)) 1 := ⟨ca_X10_132, cp_X10_byteAt, by decide⟩
theorem cb_X10_135 : CB RX10 135 yX10_isLetter cX10_isLetter 1 ((Option.some FieldType.boolean)) 1 := ⟨ca_X10_135, cp_X10_isLetter, by decide⟩
theorem cb_X10_138 : CB RX10 138 yX10_isDigit cX10_isDigit 1 ((Option.some FieldType.boolean)) 1 := ⟨ca_X10_138, cp_X10_isDigit, by decide⟩
theorem cb_X10_145 : CB RX10 145 yX10_next cX10_next 3 ((Option.none : Option FieldType)) 0 := ⟨ca_X10_145, cp_X10_next, by decide⟩
theorem cb_X10_151 : CB RX10 151 yX10_number cX10_number 3 ((Option.some FieldType.int)) 0 := ⟨ca_X10_151, cp_X10_number, by decide⟩
theorem cb_X10_155 : CB RX10 155 yX10_emits cX10_emits 2 ((Option.none : Option FieldType)) 1 := ⟨ca_X10_155, cp_X10_emits, by decide⟩
theorem cb_X10_159 : CB RX10 159 yX10_needs cX10_needs 2 ((Option.none : Option FieldType)) 1 := ⟨ca_X10_159, cp_X10_needs, by decide⟩
theorem cb_X10_163 : CB RX10 163 yX10_wordOf cX10_wordOf 5 ((Option.some FieldType.int)) 1 := ⟨ca_X10_163, cp_X10_wordOf, by decide⟩
theorem cb_X10_170 : CB RX10 170 yX10_expression cX10_expression 3 ((Option.none : Option FieldType)) 0 := ⟨ca_X10_170, cp_X10_expression, by decide⟩
theorem cb_X10_173 : CB RX10 173 yX10_isText cX10_isText 1 ((Option.some FieldType.boolean)) 0 := ⟨ca_X10_173, cp_X10_isText, by decide⟩
theorem cb_X10_177 : CB RX10 177 yX10_keeps cX10_keeps 3 ((Option.none : Option FieldType)) 1 := ⟨ca_X10_177, cp_X10_keeps, by decide⟩
theorem cb_X10_180 : CB RX10 180 yX10_named cX10_named 5 ((Option.some FieldType.int)) 4 := ⟨ca_X10_180, cp_X10_named, by decide⟩
theorem cb_X10_184 : CB RX10 184 yX10_both cX10_both 3 ((Option.some FieldType.int)) 3 := ⟨ca_X10_184, cp_X10_both, by decide⟩
theorem cb_X10_187 : CB RX10 187 yX10_isLawOrNone cX10_isLawOrNone 2 ((Option.some FieldType.boolean)) 1 := ⟨ca_X10_187, cp_X10_isLawOrNone, by decide⟩
theorem cb_X10_190 : CB RX10 190 yX10_isLaw cX10_isLaw 2 ((Option.some FieldType.boolean)) 1 := ⟨ca_X10_190, cp_X10_isLaw, by decide⟩
theorem cb_X10_194 : CB RX10 194 yX10_setHouse cX10_setHouse 4 ((Option.none : Option FieldType)) 3 := ⟨ca_X10_194, cp_X10_setHouse, by decide⟩
theorem cb_X10_197 : CB RX10 197 yX10_ofHouse cX10_ofHouse 3 ((Option.some FieldType.int)) 2 := ⟨ca_X10_197, cp_X10_ofHouse, by decide⟩
theorem cb_X10_200 : CB RX10 200 yX10_itsBalance cX10_itsBalance 2 ((Option.some FieldType.long)) 1 := ⟨ca_X10_200, cp_X10_itsBalance, by decide⟩
theorem cb_X10_204 : CB RX10 204 yX10_isHouse cX10_isHouse 2 ((Option.some FieldType.boolean)) 1 := ⟨ca_X10_204, cp_X10_isHouse, by decide⟩
theorem cb_X10_208 : CB RX10 208 yX10_isAhead cX10_isAhead 3 ((Option.some FieldType.boolean)) 2 := ⟨ca_X10_208, cp_X10_isAhead, by decide⟩
theorem cb_X10_213 : CB RX10 213 yX10_gets cX10_gets 2 ((Option.some FieldType.boolean)) 1 := ⟨ca_X10_213, cp_X10_gets, by decide⟩
theorem cb_X10_216 : CB RX10 216 yX10_saves cX10_saves 3 ((Option.none : Option FieldType)) 1 := ⟨ca_X10_216, cp_X10_saves, by decide⟩
theorem cb_X10_219 : CB RX10 219 yX10_go cX10_go 6 ((Option.none : Option FieldType)) 4 := ⟨ca_X10_219, cp_X10_go, by decide⟩
theorem cb_X10_222 : CB RX10 222 yX10_seen cX10_seen 3 ((Option.some FieldType.int)) 2 := ⟨ca_X10_222, cp_X10_seen, by decide⟩
theorem cb_X10_225 : CB RX10 225 yX10_brings cX10_brings 3 ((Option.none : Option FieldType)) 1 := ⟨ca_X10_225, cp_X10_brings, by decide⟩
theorem cb_X10_228 : CB RX10 228 yX10_would cX10_would 6 ((Option.some FieldType.int)) 4 := ⟨ca_X10_228, cp_X10_would, by decide⟩
theorem cb_X10_231 : CB RX10 231 yX10_apart cX10_apart 8 ((Option.some FieldType.long)) 5 := ⟨ca_X10_231, cp_X10_apart, by decide⟩
theorem cb_X10_235 : CB RX10 235 yX10_mustOf cX10_mustOf 3 ((Option.some FieldType.int)) 2 := ⟨ca_X10_235, cp_X10_mustOf, by decide⟩
theorem cb_X10_238 : CB RX10 238 yX10_isSheet cX10_isSheet 1 ((Option.some FieldType.boolean)) 1 := ⟨ca_X10_238, cp_X10_isSheet, by decide⟩
