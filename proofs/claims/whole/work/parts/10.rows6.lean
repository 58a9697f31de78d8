theorem kb_m13 : (Int8.ofInt (-13)).toInt32 = (-13) := by decide
theorem kb_m12 : (Int8.ofInt (-12)).toInt32 = (-12) := by decide
theorem kb_m11 : (Int8.ofInt (-11)).toInt32 = (-11) := by decide
theorem kb_m10 : (Int8.ofInt (-10)).toInt32 = (-10) := by decide
theorem kb_m9 : (Int8.ofInt (-9)).toInt32 = (-9) := by decide
theorem kb_m8 : (Int8.ofInt (-8)).toInt32 = (-8) := by decide
theorem kb_m7 : (Int8.ofInt (-7)).toInt32 = (-7) := by decide
theorem kb_m6 : (Int8.ofInt (-6)).toInt32 = (-6) := by decide
theorem kb_m5 : (Int8.ofInt (-5)).toInt32 = (-5) := by decide
theorem kb_m4 : (Int8.ofInt (-4)).toInt32 = (-4) := by decide
theorem kb_m3 : (Int8.ofInt (-3)).toInt32 = (-3) := by decide
theorem kb_m2 : (Int8.ofInt (-2)).toInt32 = (-2) := by decide
theorem kb_6 : (Int8.ofInt 6).toInt32 = 6 := by decide
theorem kb_7 : (Int8.ofInt 7).toInt32 = 7 := by decide
theorem kb_8 : (Int8.ofInt 8).toInt32 = 8 := by decide
theorem kb_9 : (Int8.ofInt 9).toInt32 = 9 := by decide
theorem kb_10 : (Int8.ofInt 10).toInt32 = 10 := by decide
theorem kb_11 : (Int8.ofInt 11).toInt32 = 11 := by decide
theorem kb_12 : (Int8.ofInt 12).toInt32 = 12 := by decide
theorem kb_13 : (Int8.ofInt 13).toInt32 = 13 := by decide
theorem kb_16 : (Int8.ofInt 16).toInt32 = 16 := by decide
theorem kb_17 : (Int8.ofInt 17).toInt32 = 17 := by decide
theorem kb_20 : (Int8.ofInt 20).toInt32 = 20 := by decide
theorem kb_23 : (Int8.ofInt 23).toInt32 = 23 := by decide
theorem kb_32 : (Int8.ofInt 32).toInt32 = 32 := by decide
theorem kb_40 : (Int8.ofInt 40).toInt32 = 40 := by decide
theorem kb_41 : (Int8.ofInt 41).toInt32 = 41 := by decide
theorem kb_44 : (Int8.ofInt 44).toInt32 = 44 := by decide
theorem kb_48 : (Int8.ofInt 48).toInt32 = 48 := by decide
theorem kb_50 : (Int8.ofInt 50).toInt32 = 50 := by decide
theorem kb_51 : (Int8.ofInt 51).toInt32 = 51 := by decide
theorem kb_57 : (Int8.ofInt 57).toInt32 = 57 := by decide
theorem kb_64 : (Int8.ofInt 64).toInt32 = 64 := by decide
theorem kb_96 : (Int8.ofInt 96).toInt32 = 96 := by decide
theorem kb_97 : (Int8.ofInt 97).toInt32 = 97 := by decide
theorem kb_99 : (Int8.ofInt 99).toInt32 = 99 := by decide
theorem kb_100 : (Int8.ofInt 100).toInt32 = 100 := by decide
theorem kb_102 : (Int8.ofInt 102).toInt32 = 102 := by decide
theorem kb_122 : (Int8.ofInt 122).toInt32 = 122 := by decide
theorem ki_m2 : Int32.ofInt (-2) = (-2) := by decide
theorem ki_m1 : Int32.ofInt (-1) = (-1) := by decide
theorem ki_0 : Int32.ofInt 0 = 0 := by decide
theorem ki_1 : Int32.ofInt 1 = 1 := by decide
theorem ki_2 : Int32.ofInt 2 = 2 := by decide
theorem ki_3 : Int32.ofInt 3 = 3 := by decide
theorem ki_4 : Int32.ofInt 4 = 4 := by decide
theorem ki_5 : Int32.ofInt 5 = 5 := by decide
theorem kl_0 : Int64.ofNat 0 = 0 := by decide
theorem kl_1 : Int64.ofNat 1 = 1 := by decide
theorem ks_147 : (Int16.ofInt 147).toInt32 = 147 := by decide
theorem ks_160 : (Int16.ofInt 160).toInt32 = 160 := by decide
theorem ks_200 : (Int16.ofInt 200).toInt32 = 200 := by decide
theorem ks_201 : (Int16.ofInt 201).toInt32 = 201 := by decide
theorem ks_243 : (Int16.ofInt 243).toInt32 = 243 := by decide
theorem ks_255 : (Int16.ofInt 255).toInt32 = 255 := by decide
theorem ks_294 : (Int16.ofInt 294).toInt32 = 294 := by decide
theorem ks_300 : (Int16.ofInt 300).toInt32 = 300 := by decide
theorem ks_999 : (Int16.ofInt 999).toInt32 = 999 := by decide
theorem ks_1000 : (Int16.ofInt 1000).toInt32 = 1000 := by decide
theorem ks_1059 : (Int16.ofInt 1059).toInt32 = 1059 := by decide
theorem ks_2000 : (Int16.ofInt 2000).toInt32 = 2000 := by decide
theorem ks_9999 : (Int16.ofInt 9999).toInt32 = 9999 := by decide
theorem ks_10000 : (Int16.ofInt 10000).toInt32 = 10000 := by decide
theorem ks_10100 : (Int16.ofInt 10100).toInt32 = 10100 := by decide
theorem ks_10106 : (Int16.ofInt 10106).toInt32 = 10106 := by decide
theorem ks_13368 : (Int16.ofInt 13368).toInt32 = 13368 := by decide
theorem ks_13614 : (Int16.ofInt 13614).toInt32 = 13614 := by decide
theorem ks_13996 : (Int16.ofInt 13996).toInt32 = 13996 := by decide
theorem ks_20141 : (Int16.ofInt 20141).toInt32 = 20141 := by decide
def nz (y : Int32) : Bool := !decide (y = 0)
def nzL (y : Int64) : Bool := !decide (y = 0)
def zb (y : Int32) : Bool := decide (y = 0 ∨ y = 1)
def szb (y : Int32) : Bool := !decide (y < 0) && decide (y.toNatClampNeg ≤ 100)
def cpb (sp dp n : Int32) (n0 n1 : Nat) : Bool := !decide (sp < 0) && (!decide (dp < 0) && (!decide (n < 0) && (decide (sp.toNatClampNeg + n.toNatClampNeg ≤ n0) && decide (dp.toNatClampNeg + n.toNatClampNeg ≤ n1))))
theorem nz_ne {y : Int32} (h : nz y = true) : ¬ y = 0 := by simpa [nz] using h
theorem nzL_ne {y : Int64} (h : nzL y = true) : ¬ y = 0 := by simpa [nzL] using h
theorem zb_or {y : Int32} (h : zb y = true) : y = 0 ∨ y = 1 := by simpa [zb] using h
theorem szb_el {y : Int32} (h : szb y = true) : ¬ y < 0 ∧ y.toNatClampNeg ≤ 100 := by simpa [szb] using h
theorem cpb_el {sp dp n : Int32} {n0 n1 : Nat} (h : cpb sp dp n n0 n1 = true) : ¬ sp < 0 ∧ ¬ dp < 0 ∧ ¬ n < 0 ∧ sp.toNatClampNeg + n.toNatClampNeg ≤ n0 ∧ dp.toNatClampNeg + n.toNatClampNeg ≤ n1 := by
  unfold cpb at h
  simp only [Bool.and_eq_true, Bool.not_eq_true', decide_eq_false_iff_not, decide_eq_true_eq] at h
  exact h
theorem va_rfc (o : Option Nat) : (va_rf o).category = 1 := by cases o <;> rfl
theorem oc_n {β : Type} {x : Option β} {y : Nat → Option β} {z : β} (h : oc none x y = some z) : x = some z := h
theorem oc_s {β : Type} {x : Option β} {y : Nat → Option β} {z : β} {b : Nat} (h : oc (some b) x y = some z) : y b = some z := h
theorem sw_ne {x k : Int32} {a : Int} (h : ¬ x = k) (hk : k.toInt = a) : x.toInt ≠ a := fun q => h (Int32.toInt_inj.mp (q.trans hk.symm))
theorem xmo {τ τ1 : Nat → Option XTy} {b e : Nat} (h : ∀ q u, τ q = some u → τ1 q = some u) (g : ∃ n, τ b = some (.inr (e, n))) : ∃ n, τ1 b = some (.inr (e, n)) := by
  obtain ⟨n, g⟩ := g
  exact ⟨n, h _ _ g⟩
section XROW6
variable {p : Program} {l : Launch} {e : Env} {R : Room} {s : State} {m : MethodId} {args : Array Value} {below : List Frame} {meth : Method} {c : Code} {H : Heap} {locs : List Loc} {cells slots : Nat} {Q : State → Prop}
variable {cc : ByteArray} {nL pc : Nat} {ls : Array Slot} {rest : List Value} {D : va_G} {E : Nat → ClassId} {A : Nat → Prop} {tU : Nat} {τ : Nat → Option XTy} {μ : XMem} {own : String} {a : Nat}
theorem x_aload_nQ (hx : p.tables.exec = Jvm.exec) (hb : c.code = cc) {k : Fin 4} {i : Nat} {o : Option Nat} (hdg : decode cc pc = .ok (.aload_n k, 1)) (hi : (k : Nat) = i) (hl : ls[i]? = some (.val (va_rf o)))
    (kk : W p l e R s m args below meth c H locs cells slots Q (F0 m (pc + 1) ls (va_rf o :: rest))) : W p l e R s m args below meth c H locs cells slots Q (F0 m pc ls rest) := by
  cases o with
  | none => exact lv_aload_nN hx hb hdg hi hl kk
  | some x => exact lv_aload_n hx hb hdg hi hl kk
theorem x_aloadQ (hx : p.tables.exec = Jvm.exec) (hb : c.code = cc) {i : Nat} {o : Option Nat} (hdg : decode cc pc = .ok (.aload i, 2)) (hl : ls[i]? = some (.val (va_rf o)))
    (kk : W p l e R s m args below meth c H locs cells slots Q (F0 m (pc + 2) ls (va_rf o :: rest))) : W p l e R s m args below meth c H locs cells slots Q (F0 m pc ls rest) := by
  cases o with
  | none => exact lv_aloadN hx hb hdg hl kk
  | some x => exact lv_aload hx hb hdg hl kk
theorem x_astore_nQ (hx : p.tables.exec = Jvm.exec) (hb : c.code = cc) {k : Fin 4} {i nL : Nat} {o : Option Nat} {lv lv' : List (Nat × Value)} (hdg : decode cc pc = .ok (.astore_n k, 1)) (hi : (k : Nat) = i) (h : lv_has ls nL lv) (hn : i < nL) (hl : (i, va_rf o) :: lv.filter (fun q => !(q.1 == i) && !(q.1 + 1 == i && q.2.category == 2)) = lv')
    (kk : ∀ ls' : Array Slot, lv_has ls' nL lv' → W p l e R s m args below meth c H locs cells slots Q (F0 m (pc + 1) ls' rest)) : W p l e R s m args below meth c H locs cells slots Q (F0 m pc ls (va_rf o :: rest)) := by
  cases o with
  | none => exact lv_astore_nN hx hb hdg hi h hn hl kk
  | some x => exact lv_astore_n hx hb hdg hi h hn hl kk
theorem x_astoreQ (hx : p.tables.exec = Jvm.exec) (hb : c.code = cc) {i nL : Nat} {o : Option Nat} {lv lv' : List (Nat × Value)} (hdg : decode cc pc = .ok (.astore i, 2)) (h : lv_has ls nL lv) (hn : i < nL) (hl : (i, va_rf o) :: lv.filter (fun q => !(q.1 == i) && !(q.1 + 1 == i && q.2.category == 2)) = lv')
    (kk : ∀ ls' : Array Slot, lv_has ls' nL lv' → W p l e R s m args below meth c H locs cells slots Q (F0 m (pc + 2) ls' rest)) : W p l e R s m args below meth c H locs cells slots Q (F0 m pc ls (va_rf o :: rest)) := by
  cases o with
  | none => exact lv_astoreN hx hb hdg h hn hl kk
  | some x => exact lv_astore hx hb hdg h hn hl kk
theorem x_mmax (C : Cx p s m args c cc nL own D E A tU) (hl : ls.size = nL) {idx : Nat} (hlk : Cond.methodLink own idx Lib.Math.max.name ∈ gw_tbl) (hfr : 1 ≤ R.frames) (hrs : (rest.map fun v => v.category).sum ≤ 8) (hlo : 40 ≤ R.locals) (hc : cells ≤ R.cells) (hs : slots ≤ R.slots) {x y : Int32} (hdg : decode cc pc = .ok (.invokestatic idx, 3))
    (kk : W p l e R s m args below meth c H locs cells slots Q (F0 m (pc + 3) ls (.int (if x < y then y else x) :: rest))) : W p l e R s m args below meth c H locs cells slots Q (F0 m pc ls (.int y :: .int x :: rest)) :=
  va_mmax C.1 C.2.1 (by rw [C.2.2.1, hl]) C.2.2.2.1 (C.2.2.2.2.1 _ hlk) (C.2.2.2.2.1 _ km_s_max) (C.2.2.2.2.1 _ km_in) (C.2.2.2.2.1 _ km_c_max) hfr (by omega) hc hs hdg kk
theorem x_mmin (C : Cx p s m args c cc nL own D E A tU) (hl : ls.size = nL) {idx : Nat} (hlk : Cond.methodLink own idx Lib.Math.min.name ∈ gw_tbl) (hfr : 1 ≤ R.frames) (hrs : (rest.map fun v => v.category).sum ≤ 8) (hlo : 40 ≤ R.locals) (hc : cells ≤ R.cells) (hs : slots ≤ R.slots) {x y : Int32} (hdg : decode cc pc = .ok (.invokestatic idx, 3))
    (kk : W p l e R s m args below meth c H locs cells slots Q (F0 m (pc + 3) ls (.int (if y < x then y else x) :: rest))) : W p l e R s m args below meth c H locs cells slots Q (F0 m pc ls (.int y :: .int x :: rest)) :=
  va_mmin C.1 C.2.1 (by rw [C.2.2.1, hl]) C.2.2.2.1 (C.2.2.2.2.1 _ hlk) (C.2.2.2.2.1 _ km_s_min) (C.2.2.2.2.1 _ km_in) (C.2.2.2.2.1 _ km_c_min) hfr (by omega) hc hs hdg kk
theorem x_mmaxL (C : Cx p s m args c cc nL own D E A tU) (hl : ls.size = nL) {idx : Nat} (hlk : Cond.methodLink own idx Lib.MathLoose.max_long.x ∈ gw_tbl) (hfr : 1 ≤ R.frames) (hrs : (rest.map fun v => v.category).sum ≤ 8) (hlo : 40 ≤ R.locals) (hc : cells ≤ R.cells) (hs : slots ≤ R.slots) {x y : Int64} (hdg : decode cc pc = .ok (.invokestatic idx, 3))
    (kk : W p l e R s m args below meth c H locs cells slots Q (F0 m (pc + 3) ls (.long (if y < x then x else y) :: rest))) : W p l e R s m args below meth c H locs cells slots Q (F0 m pc ls (.long y :: .long x :: rest)) :=
  va_mmax_long C.1 C.2.1 (by rw [C.2.2.1, hl]) C.2.2.2.1 (C.2.2.2.2.1 _ hlk) (C.2.2.2.2.1 _ km_s_max_long) (C.2.2.2.2.1 _ km_in) (C.2.2.2.2.1 _ km_c_max_long) hfr (by omega) hc hs hdg kk
theorem x_mminL (C : Cx p s m args c cc nL own D E A tU) (hl : ls.size = nL) {idx : Nat} (hlk : Cond.methodLink own idx Lib.MathLoose.min_long.x ∈ gw_tbl) (hfr : 1 ≤ R.frames) (hrs : (rest.map fun v => v.category).sum ≤ 8) (hlo : 40 ≤ R.locals) (hc : cells ≤ R.cells) (hs : slots ≤ R.slots) {x y : Int64} (hdg : decode cc pc = .ok (.invokestatic idx, 3))
    (kk : W p l e R s m args below meth c H locs cells slots Q (F0 m (pc + 3) ls (.long (if y < x then y else x) :: rest))) : W p l e R s m args below meth c H locs cells slots Q (F0 m pc ls (.long y :: .long x :: rest)) :=
  va_mmin_long C.1 C.2.1 (by rw [C.2.2.1, hl]) C.2.2.2.1 (C.2.2.2.2.1 _ hlk) (C.2.2.2.2.1 _ km_s_min_long) (C.2.2.2.2.1 _ km_in) (C.2.2.2.2.1 _ km_c_min_long) hfr (by omega) hc hs hdg kk
theorem x_mabs (C : Cx p s m args c cc nL own D E A tU) (hl : ls.size = nL) {idx : Nat} (hlk : Cond.methodLink own idx Lib.Math.abs.name ∈ gw_tbl) (hfr : 1 ≤ R.frames) (hrs : (rest.map fun v => v.category).sum ≤ 8) (hlo : 40 ≤ R.locals) (hc : cells ≤ R.cells) (hs : slots ≤ R.slots) {x : Int32} (hdg : decode cc pc = .ok (.invokestatic idx, 3))
    (kk : W p l e R s m args below meth c H locs cells slots Q (F0 m (pc + 3) ls (.int (if 0 ≤ x then x else 0 - x) :: rest))) : W p l e R s m args below meth c H locs cells slots Q (F0 m pc ls (.int x :: rest)) :=
  va_mabs C.1 C.2.1 (by rw [C.2.2.1, hl]) C.2.2.2.1 (C.2.2.2.2.1 _ hlk) (C.2.2.2.2.1 _ km_s_abs) (C.2.2.2.2.1 _ km_in) (C.2.2.2.2.1 _ km_c_abs) hfr (by omega) hc hs hdg kk
theorem x_mabsL (C : Cx p s m args c cc nL own D E A tU) (hl : ls.size = nL) {idx : Nat} (hlk : Cond.methodLink own idx Lib.MathLoose.abs_long.x ∈ gw_tbl) (hfr : 1 ≤ R.frames) (hrs : (rest.map fun v => v.category).sum ≤ 8) (hlo : 40 ≤ R.locals) (hc : cells ≤ R.cells) (hs : slots ≤ R.slots) {x : Int64} (hdg : decode cc pc = .ok (.invokestatic idx, 3))
    (kk : W p l e R s m args below meth c H locs cells slots Q (F0 m (pc + 3) ls (.long (if 0 < x then x else -x) :: rest))) : W p l e R s m args below meth c H locs cells slots Q (F0 m pc ls (.long x :: rest)) :=
  va_mabs_long C.1 C.2.1 (by rw [C.2.2.1, hl]) C.2.2.2.1 (C.2.2.2.2.1 _ hlk) (C.2.2.2.2.1 _ km_s_abs_long) (C.2.2.2.2.1 _ km_in) (C.2.2.2.2.1 _ km_c_abs_long) hfr (by omega) hc hs hdg kk
theorem xa_of {m0 : XMem} (hw : Wd D E (Am m0) s τ μ H locs) (hmo : ∀ q u, mT m0 q = some u → τ q = some u) : XA m0 μ :=
  ⟨fun q u h => by rw [hw.2.2.2.2]; exact hmo q u h, fun q u h => hw.2.2.1 q u (by rw [← hw.2.2.2.2]; exact h)⟩
theorem x_retI {m0 mE : XMem} {mc ms : Nat} {v rE : Int32} (C : Cx p s m args c cc nL own D E (Am m0) tU) (hr : meth.sig.returnType = some .int) (hk : meth.locks = false) (hw : Wd D E (Am m0) s (mT m0) μ H locs) (hf : some (v, μ) = some (rE, mE)) (h1 : cells ≤ mc) (h2 : slots ≤ ms) (hdg : decode cc pc = .ok (.ireturn, 1)) :
    W p l e R s m args below meth c H locs cells slots (MQ below (XQ D E (Am m0) (some (.int rE)) mE (mT mE = mT m0 ∧ True)) args s mc ms (Am m0)) (F0 m pc ls [.int v]) := by
  cases hf
  exact x_ireturn C hr hk hw ⟨hw.2.2.2.2, trivial⟩ h1 h2 hdg
theorem x_retIN {m0 mE : XMem} {mc ms : Nat} {v rE : Int32} (C : Cx p s m args c cc nL own D E (Am m0) tU) (hr : meth.sig.returnType = some .int) (hk : meth.locks = false) (hw : Wd D E (Am m0) s τ μ H locs) (hmo : ∀ q u, mT m0 q = some u → τ q = some u) (hf : some (v, μ) = some (rE, mE)) (h1 : cells ≤ mc) (h2 : slots ≤ ms) (hdg : decode cc pc = .ok (.ireturn, 1)) :
    W p l e R s m args below meth c H locs cells slots (MQ below (XQ D E (Am m0) (some (.int rE)) mE (XA m0 mE ∧ True)) args s mc ms (Am m0)) (F0 m pc ls [.int v]) := by
  cases hf
  exact x_ireturn C hr hk hw ⟨xa_of hw hmo, trivial⟩ h1 h2 hdg
theorem x_retL {m0 mE : XMem} {mc ms : Nat} {v rE : Int64} (C : Cx p s m args c cc nL own D E (Am m0) tU) (hr : meth.sig.returnType = some .long) (hk : meth.locks = false) (hw : Wd D E (Am m0) s (mT m0) μ H locs) (hf : some (v, μ) = some (rE, mE)) (h1 : cells ≤ mc) (h2 : slots ≤ ms) (hdg : decode cc pc = .ok (.lreturn, 1)) :
    W p l e R s m args below meth c H locs cells slots (MQ below (XQ D E (Am m0) (some (.long rE)) mE (mT mE = mT m0 ∧ True)) args s mc ms (Am m0)) (F0 m pc ls [.long v]) := by
  cases hf
  exact x_lreturn C hr hk hw ⟨hw.2.2.2.2, trivial⟩ h1 h2 hdg
theorem x_retLN {m0 mE : XMem} {mc ms : Nat} {v rE : Int64} (C : Cx p s m args c cc nL own D E (Am m0) tU) (hr : meth.sig.returnType = some .long) (hk : meth.locks = false) (hw : Wd D E (Am m0) s τ μ H locs) (hmo : ∀ q u, mT m0 q = some u → τ q = some u) (hf : some (v, μ) = some (rE, mE)) (h1 : cells ≤ mc) (h2 : slots ≤ ms) (hdg : decode cc pc = .ok (.lreturn, 1)) :
    W p l e R s m args below meth c H locs cells slots (MQ below (XQ D E (Am m0) (some (.long rE)) mE (XA m0 mE ∧ True)) args s mc ms (Am m0)) (F0 m pc ls [.long v]) := by
  cases hf
  exact x_lreturn C hr hk hw ⟨xa_of hw hmo, trivial⟩ h1 h2 hdg
theorem x_retZ {m0 mE : XMem} {mc ms : Nat} {v rE : Int32} (C : Cx p s m args c cc nL own D E (Am m0) tU) (hr : meth.sig.returnType = some .boolean) (hk : meth.locks = false) (hv : v = 0 ∨ v = 1) (hw : Wd D E (Am m0) s (mT m0) μ H locs) (hf : some (v, μ) = some (rE, mE)) (h1 : cells ≤ mc) (h2 : slots ≤ ms) (hdg : decode cc pc = .ok (.ireturn, 1)) :
    W p l e R s m args below meth c H locs cells slots (MQ below (XQ D E (Am m0) (some (.int rE)) mE (mT mE = mT m0 ∧ (rE = 0 ∨ rE = 1))) args s mc ms (Am m0)) (F0 m pc ls [.int v]) := by
  cases hf
  exact x_zreturn C hr hk hv hw ⟨hw.2.2.2.2, hv⟩ h1 h2 hdg
theorem x_retZN {m0 mE : XMem} {mc ms : Nat} {v rE : Int32} (C : Cx p s m args c cc nL own D E (Am m0) tU) (hr : meth.sig.returnType = some .boolean) (hk : meth.locks = false) (hv : v = 0 ∨ v = 1) (hw : Wd D E (Am m0) s τ μ H locs) (hmo : ∀ q u, mT m0 q = some u → τ q = some u) (hf : some (v, μ) = some (rE, mE)) (h1 : cells ≤ mc) (h2 : slots ≤ ms) (hdg : decode cc pc = .ok (.ireturn, 1)) :
    W p l e R s m args below meth c H locs cells slots (MQ below (XQ D E (Am m0) (some (.int rE)) mE (XA m0 mE ∧ (rE = 0 ∨ rE = 1))) args s mc ms (Am m0)) (F0 m pc ls [.int v]) := by
  cases hf
  exact x_zreturn C hr hk hv hw ⟨xa_of hw hmo, hv⟩ h1 h2 hdg
theorem x_retQ {m0 mE : XMem} {mc ms : Nat} {o rE : Option Nat} {ci : Nat} {Cn : String} (C : Cx p s m args c cc nL own D E (Am m0) tU) (hr : meth.sig.returnType = some (.object Cn)) (hk : meth.locks = false) (hw : Wd D E (Am m0) s (mT m0) μ H locs) (ho : ∀ b, o = some b → mT m0 b = some (.inl ci)) (hf : some (o, μ) = some (rE, mE)) (h1 : cells ≤ mc) (h2 : slots ≤ ms) (hdg : decode cc pc = .ok (.areturn, 1)) :
    W p l e R s m args below meth c H locs cells slots (MQ below (XQ D E (Am m0) (some (va_rf rE)) mE (mT mE = mT m0 ∧ (∀ b, rE = some b → mT m0 b = some (.inl ci)))) args s mc ms (Am m0)) (F0 m pc ls [va_rf o]) := by
  cases hf
  exact x_areturn C hr hk hw ⟨hw.2.2.2.2, ho⟩ h1 h2 hdg
theorem x_retQN {m0 mE : XMem} {mc ms : Nat} {o rE : Option Nat} {ci : Nat} {Cn : String} (C : Cx p s m args c cc nL own D E (Am m0) tU) (hr : meth.sig.returnType = some (.object Cn)) (hk : meth.locks = false) (hw : Wd D E (Am m0) s τ μ H locs) (hmo : ∀ q u, mT m0 q = some u → τ q = some u) (ho : ∀ b, o = some b → τ b = some (.inl ci)) (hf : some (o, μ) = some (rE, mE)) (h1 : cells ≤ mc) (h2 : slots ≤ ms) (hdg : decode cc pc = .ok (.areturn, 1)) :
    W p l e R s m args below meth c H locs cells slots (MQ below (XQ D E (Am m0) (some (va_rf rE)) mE (XA m0 mE ∧ (∀ b, rE = some b → mT mE b = some (.inl ci)))) args s mc ms (Am m0)) (F0 m pc ls [va_rf o]) := by
  cases hf
  exact x_areturn C hr hk hw ⟨xa_of hw hmo, (fun b h => by rw [hw.2.2.2.2]; exact ho b h)⟩ h1 h2 hdg
theorem x_ret {m0 mE : XMem} {mc ms : Nat}  (C : Cx p s m args c cc nL own D E (Am m0) tU) (hr : meth.sig.returnType = none) (hk : meth.locks = false) (hw : Wd D E (Am m0) s (mT m0) μ H locs) (hf : some μ = some mE) (h1 : cells ≤ mc) (h2 : slots ≤ ms) (hdg : decode cc pc = .ok (.return_, 1)) :
    W p l e R s m args below meth c H locs cells slots (MQ below (XQ D E (Am m0) (none) mE (mT mE = mT m0 ∧ True)) args s mc ms (Am m0)) (F0 m pc ls []) := by
  cases hf
  exact x_return C hr hk hw ⟨hw.2.2.2.2, trivial⟩ h1 h2 hdg
theorem x_retN {m0 mE : XMem} {mc ms : Nat}  (C : Cx p s m args c cc nL own D E (Am m0) tU) (hr : meth.sig.returnType = none) (hk : meth.locks = false) (hw : Wd D E (Am m0) s τ μ H locs) (hmo : ∀ q u, mT m0 q = some u → τ q = some u) (hf : some μ = some mE) (h1 : cells ≤ mc) (h2 : slots ≤ ms) (hdg : decode cc pc = .ok (.return_, 1)) :
    W p l e R s m args below meth c H locs cells slots (MQ below (XQ D E (Am m0) (none) mE (XA m0 mE ∧ True)) args s mc ms (Am m0)) (F0 m pc ls []) := by
  cases hf
  exact x_return C hr hk hw ⟨xa_of hw hmo, trivial⟩ h1 h2 hdg
end XROW6
