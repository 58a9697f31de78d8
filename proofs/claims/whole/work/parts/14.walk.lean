set_option maxHeartbeats 4000000 in
set_option maxRecDepth 100000 in
theorem w_X10_expression_j220 {p : Program} {l : Launch} {e : Env} {s : State} {m : MethodId} {args : Array Value} {below : List Frame} {meth : Method} {c : Code} {D : va_G} {E : Nat → ClassId} {tU : Nat} {m0 mE : XMem} (C : Cx p s m args c cX10_expression 3 RX10 D E (Am m0) tU) (hr : meth.sig.returnType = ((Option.none : Option FieldType))) (hk : meth.locks = false) (hnm : meth.name = yX10_expression.name) {n : Nat} {rec : Nat → XMem → Option XMem} (hrec : ∀ {τ : Nat → Option XTy} {a0 : Nat} {m0 mE : XMem} (hm : mT m0 = τ) (ta0 : τ a0 = some (.inl 10)) (hf : rec a0 m0 = some mE), Ct l yX10_expression cX10_expression 3 ((Option.none : Option FieldType)) (4 + n) 0 0 D E tU [.ref a0] m0 (none) mE (mT mE = mT m0 ∧ True)) {a0 : Nat} {x2 : Int32} {xs0 : Int32} {as1 : Nat} {mu : XMem} {H : Heap} {locs : List Loc} {ls : Array Slot} (ta0 : mT m0 a0 = some (.inl 10)) (tas1 : mT m0 as1 = some (.inl 10)) (hl : lv_has ls 3 [(0, .ref a0), (2, .int x2)]) (hw : Wd D E (Am m0) s (mT m0) mu H locs) (hf : f_X10_expression_j220 rec a0 x2 xs0 as1 mu = some mE) : W p l e (rmN (4 + n + 1) 0 0) s m args below meth c H locs 0 0 (MQ below (XQ D E (Am m0) (none) mE (mT mE = mT m0 ∧ True)) args s 0 0 (Am m0)) (F0 m 220 ls [.int xs0, .ref as1]) := by
  have hx := C.1
  have hb := C.2.1
  unfold f_X10_expression_j220 at hf
  obtain ⟨m134, cm134, hf⟩ := b1_el (o := f_X10_needs as1 xs0 mu) hf
  refine x_callVv (As := [.int xs0]) (rest := []) C hl.1 hw cb_X10_159 cv_X10_needs (k_X10_needs hw.2.2.2.2 tas1 cm134) tas1 rfl rfl (by omega) ⟨Nat.le_refl _, Nat.le_refl _⟩ rfl (Nat.le_of_ble_eq_true rfl) dX10_expression_220 (fun H locs hw tm134 => ?_)
  refine lv_aload_n hx hb dX10_expression_223 rfl (lv_at hl 0 rfl) ?_
  refine lv_dup hx hb dX10_expression_224 rfl ?_
  refine x_getI C hw fa_X10_167 ta0 dX10_expression_225 ?_
  refine lv_iconst hx hb dX10_expression_228 ki_1 ?_
  refine lv_isub hx hb dX10_expression_229 ?_
  refine x_putI C hw fa_X10_167 ta0 dX10_expression_230 (fun m135 H locs em135 hw => ?_)
  have hf := nm_el hf em135
  refine lv_aload_n hx hb dX10_expression_233 rfl (lv_at hl 0 rfl) ?_
  refine lv_sipush hx hb dX10_expression_234 ks_10100 ?_
  refine lv_iload_n hx hb dX10_expression_237 rfl (lv_at hl 1 rfl) ?_
  refine lv_iadd hx hb dX10_expression_238 ?_
  obtain ⟨m136, cm136, hf⟩ := b1_el (o := f_X10_emits a0 (10100 + x2) m135) hf
  refine x_callVv (As := [.int (10100 + x2)]) (rest := []) C hl.1 hw cb_X10_155 cv_X10_emits (k_X10_emits hw.2.2.2.2 ta0 cm136) ta0 rfl rfl (by omega) ⟨Nat.le_refl _, Nat.le_refl _⟩ rfl (Nat.le_of_ble_eq_true rfl) dX10_expression_239 (fun H locs hw tm136 => ?_)
  exact x_ret C hr hk hw  hf (by decide) (by decide) dX10_expression_242
set_option maxHeartbeats 4000000 in
set_option maxRecDepth 100000 in
theorem w_X10_expression_j201 {p : Program} {l : Launch} {e : Env} {s : State} {m : MethodId} {args : Array Value} {below : List Frame} {meth : Method} {c : Code} {D : va_G} {E : Nat → ClassId} {tU : Nat} {m0 mE : XMem} (C : Cx p s m args c cX10_expression 3 RX10 D E (Am m0) tU) (hr : meth.sig.returnType = ((Option.none : Option FieldType))) (hk : meth.locks = false) (hnm : meth.name = yX10_expression.name) {n : Nat} {rec : Nat → XMem → Option XMem} (hrec : ∀ {τ : Nat → Option XTy} {a0 : Nat} {m0 mE : XMem} (hm : mT m0 = τ) (ta0 : τ a0 = some (.inl 10)) (hf : rec a0 m0 = some mE), Ct l yX10_expression cX10_expression 3 ((Option.none : Option FieldType)) (4 + n) 0 0 D E tU [.ref a0] m0 (none) mE (mT mE = mT m0 ∧ True)) {a0 : Nat} {x2 : Int32} {mu : XMem} {H : Heap} {locs : List Loc} {ls : Array Slot} (ta0 : mT m0 a0 = some (.inl 10)) (hl : lv_has ls 3 [(0, .ref a0), (2, .int x2)]) (hw : Wd D E (Am m0) s (mT m0) mu H locs) (hf : f_X10_expression_j201 rec a0 x2 mu = some mE) : W p l e (rmN (4 + n + 1) 0 0) s m args below meth c H locs 0 0 (MQ below (XQ D E (Am m0) (none) mE (mT mE = mT m0 ∧ True)) args s 0 0 (Am m0)) (F0 m 201 ls []) := by
  have hx := C.1
  have hb := C.2.1
  unfold f_X10_expression_j201 at hf
  refine lv_aload_n hx hb dX10_expression_201 rfl (lv_at hl 0 rfl) ?_
  refine lv_aload_n hx hb dX10_expression_202 rfl (lv_at hl 0 rfl) ?_
  refine lv_aload_n hx hb dX10_expression_203 rfl (lv_at hl 0 rfl) ?_
  refine x_getI C hw fa_X10_129 ta0 dX10_expression_204 ?_
  obtain ⟨r133, m132, cm132, hf⟩ := b2_el (o := f_X10_byteAt a0 (mI mu a0 8) mu) hf
  refine x_callVi (As := [.int (mI mu a0 8)]) (rest := [.ref a0]) C hl.1 hw cb_X10_132 cv_X10_byteAt (k_X10_byteAt hw.2.2.2.2 ta0 cm132) ta0 rfl rfl (by omega) ⟨Nat.le_refl _, Nat.le_refl _⟩ rfl (Nat.le_of_ble_eq_true rfl) dX10_expression_207 (fun H locs hw tr133 => ?_)
  refine lv_bipush hx hb dX10_expression_210 kb_41 ?_
  refine lv_icmp_ne (tgt := 219) hx hb dX10_expression_212 (by decide) (fun c => ?_) (fun c => ?_)
  · have hf := ifn hf c
    refine lv_iconst hx hb dX10_expression_219 ki_0 ?_
    exact w_X10_expression_j220 C hr hk hnm hrec ta0 ta0 (lv_sub hl [0, 1] rfl) hw hf
  · have hf := ifp hf c
    refine lv_iconst hx hb dX10_expression_215 ki_1 ?_
    refine lv_goto (tgt := 220) hx hb dX10_expression_216 (by decide) ?_
    exact w_X10_expression_j220 C hr hk hnm hrec ta0 ta0 (lv_sub hl [0, 1] rfl) hw hf
set_option maxHeartbeats 4000000 in
set_option maxRecDepth 100000 in
theorem w_X10_expression_j194 {p : Program} {l : Launch} {e : Env} {s : State} {m : MethodId} {args : Array Value} {below : List Frame} {meth : Method} {c : Code} {D : va_G} {E : Nat → ClassId} {tU : Nat} {m0 mE : XMem} (C : Cx p s m args c cX10_expression 3 RX10 D E (Am m0) tU) (hr : meth.sig.returnType = ((Option.none : Option FieldType))) (hk : meth.locks = false) (hnm : meth.name = yX10_expression.name) {n : Nat} {rec : Nat → XMem → Option XMem} (hrec : ∀ {τ : Nat → Option XTy} {a0 : Nat} {m0 mE : XMem} (hm : mT m0 = τ) (ta0 : τ a0 = some (.inl 10)) (hf : rec a0 m0 = some mE), Ct l yX10_expression cX10_expression 3 ((Option.none : Option FieldType)) (4 + n) 0 0 D E tU [.ref a0] m0 (none) mE (mT mE = mT m0 ∧ True)) {a0 : Nat} {x2 : Int32} {xs0 : Int32} {as1 : Nat} {mu : XMem} {H : Heap} {locs : List Loc} {ls : Array Slot} (ta0 : mT m0 a0 = some (.inl 10)) (tas1 : mT m0 as1 = some (.inl 10)) (hl : lv_has ls 3 [(0, .ref a0), (2, .int x2)]) (hw : Wd D E (Am m0) s (mT m0) mu H locs) (hf : f_X10_expression_j194 rec a0 x2 xs0 as1 mu = some mE) : W p l e (rmN (4 + n + 1) 0 0) s m args below meth c H locs 0 0 (MQ below (XQ D E (Am m0) (none) mE (mT mE = mT m0 ∧ True)) args s 0 0 (Am m0)) (F0 m 194 ls [.int xs0, .ref as1]) := by
  have hx := C.1
  have hb := C.2.1
  unfold f_X10_expression_j194 at hf
  obtain ⟨m130, cm130, hf⟩ := b1_el (o := f_X10_needs as1 xs0 mu) hf
  refine x_callVv (As := [.int xs0]) (rest := []) C hl.1 hw cb_X10_159 cv_X10_needs (k_X10_needs hw.2.2.2.2 tas1 cm130) tas1 rfl rfl (by omega) ⟨Nat.le_refl _, Nat.le_refl _⟩ rfl (Nat.le_of_ble_eq_true rfl) dX10_expression_194 (fun H locs hw tm130 => ?_)
  refine lv_aload_n hx hb dX10_expression_197 rfl (lv_at hl 0 rfl) ?_
  obtain ⟨m131, cm131, hf⟩ := b1_el (o := rec a0 m130) hf
  refine x_callVv (As := []) (rest := []) C hl.1 hw cb_X10_170 cv_X10_expression (hrec hw.2.2.2.2 ta0 cm131) ta0 rfl rfl (by omega) ⟨Nat.le_refl _, Nat.le_refl _⟩ rfl (Nat.le_of_ble_eq_true rfl) dX10_expression_198 (fun H locs hw tm131 => ?_)
  exact w_X10_expression_j201 C hr hk hnm hrec ta0 (lv_sub hl [0, 1] rfl) hw hf
set_option maxHeartbeats 4000000 in
set_option maxRecDepth 100000 in
theorem w_X10_expression_j162 {p : Program} {l : Launch} {e : Env} {s : State} {m : MethodId} {args : Array Value} {below : List Frame} {meth : Method} {c : Code} {D : va_G} {E : Nat → ClassId} {tU : Nat} {m0 mE : XMem} (C : Cx p s m args c cX10_expression 3 RX10 D E (Am m0) tU) (hr : meth.sig.returnType = ((Option.none : Option FieldType))) (hk : meth.locks = false) (hnm : meth.name = yX10_expression.name) {n : Nat} {rec : Nat → XMem → Option XMem} (hrec : ∀ {τ : Nat → Option XTy} {a0 : Nat} {m0 mE : XMem} (hm : mT m0 = τ) (ta0 : τ a0 = some (.inl 10)) (hf : rec a0 m0 = some mE), Ct l yX10_expression cX10_expression 3 ((Option.none : Option FieldType)) (4 + n) 0 0 D E tU [.ref a0] m0 (none) mE (mT mE = mT m0 ∧ True)) {a0 : Nat} {x2 : Int32} {xs0 : Int32} {as1 : Nat} {mu : XMem} {H : Heap} {locs : List Loc} {ls : Array Slot} (ta0 : mT m0 a0 = some (.inl 10)) (tas1 : mT m0 as1 = some (.inl 10)) (hl : lv_has ls 3 [(0, .ref a0), (2, .int x2)]) (hw : Wd D E (Am m0) s (mT m0) mu H locs) (hf : f_X10_expression_j162 rec a0 x2 xs0 as1 mu = some mE) : W p l e (rmN (4 + n + 1) 0 0) s m args below meth c H locs 0 0 (MQ below (XQ D E (Am m0) (none) mE (mT mE = mT m0 ∧ True)) args s 0 0 (Am m0)) (F0 m 162 ls [.int xs0, .ref as1]) := by
  have hx := C.1
  have hb := C.2.1
  unfold f_X10_expression_j162 at hf
  obtain ⟨m126, cm126, hf⟩ := b1_el (o := f_X10_needs as1 xs0 mu) hf
  refine x_callVv (As := [.int xs0]) (rest := []) C hl.1 hw cb_X10_159 cv_X10_needs (k_X10_needs hw.2.2.2.2 tas1 cm126) tas1 rfl rfl (by omega) ⟨Nat.le_refl _, Nat.le_refl _⟩ rfl (Nat.le_of_ble_eq_true rfl) dX10_expression_162 (fun H locs hw tm126 => ?_)
  refine lv_aload_n hx hb dX10_expression_165 rfl (lv_at hl 0 rfl) ?_
  obtain ⟨m127, cm127, hf⟩ := b1_el (o := rec a0 m126) hf
  refine x_callVv (As := []) (rest := []) C hl.1 hw cb_X10_170 cv_X10_expression (hrec hw.2.2.2.2 ta0 cm127) ta0 rfl rfl (by omega) ⟨Nat.le_refl _, Nat.le_refl _⟩ rfl (Nat.le_of_ble_eq_true rfl) dX10_expression_166 (fun H locs hw tm127 => ?_)
  refine lv_iload_n hx hb dX10_expression_169 rfl (lv_at hl 1 rfl) ?_
  refine lv_bipush hx hb dX10_expression_170 kb_6 ?_
  refine lv_icmp_ne (tgt := 201) hx hb dX10_expression_172 (by decide) (fun c => ?_) (fun c => ?_)
  · have hf := ifn hf c
    exact w_X10_expression_j201 C hr hk hnm hrec ta0 (lv_sub hl [0, 1] rfl) hw hf
  · have hf := ifp hf c
    refine lv_aload_n hx hb dX10_expression_175 rfl (lv_at hl 0 rfl) ?_
    refine lv_aload_n hx hb dX10_expression_176 rfl (lv_at hl 0 rfl) ?_
    refine lv_aload_n hx hb dX10_expression_177 rfl (lv_at hl 0 rfl) ?_
    refine x_getI C hw fa_X10_129 ta0 dX10_expression_178 ?_
    obtain ⟨r129, m128, cm128, hf⟩ := b2_el (o := f_X10_byteAt a0 (mI m127 a0 8) m127) hf
    refine x_callVi (As := [.int (mI m127 a0 8)]) (rest := [.ref a0]) C hl.1 hw cb_X10_132 cv_X10_byteAt (k_X10_byteAt hw.2.2.2.2 ta0 cm128) ta0 rfl rfl (by omega) ⟨Nat.le_refl _, Nat.le_refl _⟩ rfl (Nat.le_of_ble_eq_true rfl) dX10_expression_181 (fun H locs hw tr129 => ?_)
    refine lv_bipush hx hb dX10_expression_184 kb_44 ?_
    refine lv_icmp_ne (tgt := 193) hx hb dX10_expression_186 (by decide) (fun c => ?_) (fun c => ?_)
    · have hf := ifn hf c
      refine lv_iconst hx hb dX10_expression_193 ki_0 ?_
      exact w_X10_expression_j194 C hr hk hnm hrec ta0 ta0 (lv_sub hl [0, 1] rfl) hw hf
    · have hf := ifp hf c
      refine lv_iconst hx hb dX10_expression_189 ki_1 ?_
      refine lv_goto (tgt := 194) hx hb dX10_expression_190 (by decide) ?_
      exact w_X10_expression_j194 C hr hk hnm hrec ta0 ta0 (lv_sub hl [0, 1] rfl) hw hf
set_option maxHeartbeats 4000000 in
set_option maxRecDepth 100000 in
theorem w_X10_expression_j126 {p : Program} {l : Launch} {e : Env} {s : State} {m : MethodId} {args : Array Value} {below : List Frame} {meth : Method} {c : Code} {D : va_G} {E : Nat → ClassId} {tU : Nat} {m0 mE : XMem} (C : Cx p s m args c cX10_expression 3 RX10 D E (Am m0) tU) (hr : meth.sig.returnType = ((Option.none : Option FieldType))) (hk : meth.locks = false) (hnm : meth.name = yX10_expression.name) {n : Nat} {rec : Nat → XMem → Option XMem} (hrec : ∀ {τ : Nat → Option XTy} {a0 : Nat} {m0 mE : XMem} (hm : mT m0 = τ) (ta0 : τ a0 = some (.inl 10)) (hf : rec a0 m0 = some mE), Ct l yX10_expression cX10_expression 3 ((Option.none : Option FieldType)) (4 + n) 0 0 D E tU [.ref a0] m0 (none) mE (mT mE = mT m0 ∧ True)) {a0 : Nat} {x2 : Int32} {xs0 : Int32} {as1 : Nat} {mu : XMem} {H : Heap} {locs : List Loc} {ls : Array Slot} (ta0 : mT m0 a0 = some (.inl 10)) (tas1 : mT m0 as1 = some (.inl 10)) (hl : lv_has ls 3 [(0, .ref a0), (2, .int x2)]) (hw : Wd D E (Am m0) s (mT m0) mu H locs) (hf : f_X10_expression_j126 rec a0 x2 xs0 as1 mu = some mE) : W p l e (rmN (4 + n + 1) 0 0) s m args below meth c H locs 0 0 (MQ below (XQ D E (Am m0) (none) mE (mT mE = mT m0 ∧ True)) args s 0 0 (Am m0)) (F0 m 126 ls [.int xs0, .ref as1]) := by
  have hx := C.1
  have hb := C.2.1
  unfold f_X10_expression_j126 at hf
  obtain ⟨m121, cm121, hf⟩ := b1_el (o := f_X10_needs as1 xs0 mu) hf
  refine x_callVv (As := [.int xs0]) (rest := []) C hl.1 hw cb_X10_159 cv_X10_needs (k_X10_needs hw.2.2.2.2 tas1 cm121) tas1 rfl rfl (by omega) ⟨Nat.le_refl _, Nat.le_refl _⟩ rfl (Nat.le_of_ble_eq_true rfl) dX10_expression_126 (fun H locs hw tm121 => ?_)
  refine lv_aload_n hx hb dX10_expression_129 rfl (lv_at hl 0 rfl) ?_
  refine lv_dup hx hb dX10_expression_130 rfl ?_
  refine x_getI C hw fa_X10_167 ta0 dX10_expression_131 ?_
  refine lv_iconst hx hb dX10_expression_134 ki_1 ?_
  refine lv_iadd hx hb dX10_expression_135 ?_
  refine x_putI C hw fa_X10_167 ta0 dX10_expression_136 (fun m122 H locs em122 hw => ?_)
  have hf := nm_el hf em122
  refine lv_aload_n hx hb dX10_expression_139 rfl (lv_at hl 0 rfl) ?_
  obtain ⟨m123, cm123, hf⟩ := b1_el (o := rec a0 m122) hf
  refine x_callVv (As := []) (rest := []) C hl.1 hw cb_X10_170 cv_X10_expression (hrec hw.2.2.2.2 ta0 cm123) ta0 rfl rfl (by omega) ⟨Nat.le_refl _, Nat.le_refl _⟩ rfl (Nat.le_of_ble_eq_true rfl) dX10_expression_140 (fun H locs hw tm123 => ?_)
  refine lv_aload_n hx hb dX10_expression_143 rfl (lv_at hl 0 rfl) ?_
  refine lv_aload_n hx hb dX10_expression_144 rfl (lv_at hl 0 rfl) ?_
  refine lv_aload_n hx hb dX10_expression_145 rfl (lv_at hl 0 rfl) ?_
  refine x_getI C hw fa_X10_129 ta0 dX10_expression_146 ?_
  obtain ⟨r125, m124, cm124, hf⟩ := b2_el (o := f_X10_byteAt a0 (mI m123 a0 8) m123) hf
  refine x_callVi (As := [.int (mI m123 a0 8)]) (rest := [.ref a0]) C hl.1 hw cb_X10_132 cv_X10_byteAt (k_X10_byteAt hw.2.2.2.2 ta0 cm124) ta0 rfl rfl (by omega) ⟨Nat.le_refl _, Nat.le_refl _⟩ rfl (Nat.le_of_ble_eq_true rfl) dX10_expression_149 (fun H locs hw tr125 => ?_)
  refine lv_bipush hx hb dX10_expression_152 kb_44 ?_
  refine lv_icmp_ne (tgt := 161) hx hb dX10_expression_154 (by decide) (fun c => ?_) (fun c => ?_)
  · have hf := ifn hf c
    refine lv_iconst hx hb dX10_expression_161 ki_0 ?_
    exact w_X10_expression_j162 C hr hk hnm hrec ta0 ta0 (lv_sub hl [0, 1] rfl) hw hf
  · have hf := ifp hf c
    refine lv_iconst hx hb dX10_expression_157 ki_1 ?_
    refine lv_goto (tgt := 162) hx hb dX10_expression_158 (by decide) ?_
    exact w_X10_expression_j162 C hr hk hnm hrec ta0 ta0 (lv_sub hl [0, 1] rfl) hw hf
set_option maxHeartbeats 4000000 in
set_option maxRecDepth 100000 in
theorem w_X10_expression_j125 {p : Program} {l : Launch} {e : Env} {s : State} {m : MethodId} {args : Array Value} {below : List Frame} {meth : Method} {c : Code} {D : va_G} {E : Nat → ClassId} {tU : Nat} {m0 mE : XMem} (C : Cx p s m args c cX10_expression 3 RX10 D E (Am m0) tU) (hr : meth.sig.returnType = ((Option.none : Option FieldType))) (hk : meth.locks = false) (hnm : meth.name = yX10_expression.name) {n : Nat} {rec : Nat → XMem → Option XMem} (hrec : ∀ {τ : Nat → Option XTy} {a0 : Nat} {m0 mE : XMem} (hm : mT m0 = τ) (ta0 : τ a0 = some (.inl 10)) (hf : rec a0 m0 = some mE), Ct l yX10_expression cX10_expression 3 ((Option.none : Option FieldType)) (4 + n) 0 0 D E tU [.ref a0] m0 (none) mE (mT mE = mT m0 ∧ True)) {a0 : Nat} {x2 : Int32} {as0 : Nat} {mu : XMem} {H : Heap} {locs : List Loc} {ls : Array Slot} (ta0 : mT m0 a0 = some (.inl 10)) (tas0 : mT m0 as0 = some (.inl 10)) (hl : lv_has ls 3 [(0, .ref a0), (2, .int x2)]) (hw : Wd D E (Am m0) s (mT m0) mu H locs) (hf : f_X10_expression_j125 rec a0 x2 as0 mu = some mE) : W p l e (rmN (4 + n + 1) 0 0) s m args below meth c H locs 0 0 (MQ below (XQ D E (Am m0) (none) mE (mT mE = mT m0 ∧ True)) args s 0 0 (Am m0)) (F0 m 125 ls [.ref as0]) := by
  have hx := C.1
  have hb := C.2.1
  unfold f_X10_expression_j125 at hf
  refine lv_iconst hx hb dX10_expression_125 ki_0 ?_
  exact w_X10_expression_j126 C hr hk hnm hrec ta0 tas0 (lv_sub hl [0, 1] rfl) hw hf
set_option maxHeartbeats 4000000 in
set_option maxRecDepth 100000 in
theorem w_X10_expression_j96 {p : Program} {l : Launch} {e : Env} {s : State} {m : MethodId} {args : Array Value} {below : List Frame} {meth : Method} {c : Code} {D : va_G} {E : Nat → ClassId} {tU : Nat} {m0 mE : XMem} (C : Cx p s m args c cX10_expression 3 RX10 D E (Am m0) tU) (hr : meth.sig.returnType = ((Option.none : Option FieldType))) (hk : meth.locks = false) (hnm : meth.name = yX10_expression.name) {n : Nat} {rec : Nat → XMem → Option XMem} (hrec : ∀ {τ : Nat → Option XTy} {a0 : Nat} {m0 mE : XMem} (hm : mT m0 = τ) (ta0 : τ a0 = some (.inl 10)) (hf : rec a0 m0 = some mE), Ct l yX10_expression cX10_expression 3 ((Option.none : Option FieldType)) (4 + n) 0 0 D E tU [.ref a0] m0 (none) mE (mT mE = mT m0 ∧ True)) {a0 : Nat} {x2 : Int32} {xs0 : Int32} {as1 : Nat} {mu : XMem} {H : Heap} {locs : List Loc} {ls : Array Slot} (ta0 : mT m0 a0 = some (.inl 10)) (tas1 : mT m0 as1 = some (.inl 10)) (hl : lv_has ls 3 [(0, .ref a0), (2, .int x2)]) (hw : Wd D E (Am m0) s (mT m0) mu H locs) (hf : f_X10_expression_j96 rec a0 x2 xs0 as1 mu = some mE) : W p l e (rmN (4 + n + 1) 0 0) s m args below meth c H locs 0 0 (MQ below (XQ D E (Am m0) (none) mE (mT mE = mT m0 ∧ True)) args s 0 0 (Am m0)) (F0 m 96 ls [.int xs0, .ref as1]) := by
  have hx := C.1
  have hb := C.2.1
  unfold f_X10_expression_j96 at hf
  obtain ⟨m118, cm118, hf⟩ := b1_el (o := f_X10_needs as1 xs0 mu) hf
  refine x_callVv (As := [.int xs0]) (rest := []) C hl.1 hw cb_X10_159 cv_X10_needs (k_X10_needs hw.2.2.2.2 tas1 cm118) tas1 rfl rfl (by omega) ⟨Nat.le_refl _, Nat.le_refl _⟩ rfl (Nat.le_of_ble_eq_true rfl) dX10_expression_96 (fun H locs hw tm118 => ?_)
  refine lv_aload_n hx hb dX10_expression_99 rfl (lv_at hl 0 rfl) ?_
  refine lv_aload_n hx hb dX10_expression_100 rfl (lv_at hl 0 rfl) ?_
  refine lv_aload_n hx hb dX10_expression_101 rfl (lv_at hl 0 rfl) ?_
  refine x_getI C hw fa_X10_129 ta0 dX10_expression_102 ?_
  obtain ⟨r120, m119, cm119, hf⟩ := b2_el (o := f_X10_byteAt a0 (mI m118 a0 8) m118) hf
  refine x_callVi (As := [.int (mI m118 a0 8)]) (rest := [.ref a0]) C hl.1 hw cb_X10_132 cv_X10_byteAt (k_X10_byteAt hw.2.2.2.2 ta0 cm119) ta0 rfl rfl (by omega) ⟨Nat.le_refl _, Nat.le_refl _⟩ rfl (Nat.le_of_ble_eq_true rfl) dX10_expression_105 (fun H locs hw tr120 => ?_)
  refine lv_bipush hx hb dX10_expression_108 kb_40 ?_
  refine lv_icmp_ne (tgt := 125) hx hb dX10_expression_110 (by decide) (fun c => ?_) (fun c => ?_)
  · have hf := ifn hf c
    exact w_X10_expression_j125 C hr hk hnm hrec ta0 ta0 (lv_sub hl [0, 1] rfl) hw hf
  · have hf := ifp hf c
    refine lv_aload_n hx hb dX10_expression_113 rfl (lv_at hl 0 rfl) ?_
    refine x_getI C hw fa_X10_167 ta0 dX10_expression_114 ?_
    refine lv_iconst hx hb dX10_expression_117 ki_5 ?_
    refine lv_icmp_ge (tgt := 125) hx hb dX10_expression_118 (by decide) (fun c => ?_) (fun c => ?_)
    · have hf := ifp hf c
      exact w_X10_expression_j125 C hr hk hnm hrec ta0 ta0 (lv_sub hl [0, 1] rfl) hw hf
    · have hf := ifn hf c
      refine lv_iconst hx hb dX10_expression_121 ki_1 ?_
      refine lv_goto (tgt := 126) hx hb dX10_expression_122 (by decide) ?_
      exact w_X10_expression_j126 C hr hk hnm hrec ta0 ta0 (lv_sub hl [0, 1] rfl) hw hf
set_option maxHeartbeats 4000000 in
set_option maxRecDepth 100000 in
theorem k_X10_expression {l : Launch} {D : va_G} {E : Nat → ClassId} {tU : Nat} : ∀ (n : Nat) {τ : Nat → Option XTy} {a0 : Nat} {m0 mE : XMem} (hm : mT m0 = τ) (ta0 : τ a0 = some (.inl 10)) (hf : f_X10_expression n a0 m0 = some mE), Ct l yX10_expression cX10_expression 3 ((Option.none : Option FieldType)) (4 + n) 0 0 D E tU [.ref a0] m0 (none) mE (mT mE = mT m0 ∧ True) := by
  intro n
  induction n with
  | zero => intro τ a0 m0 mE hm ta0 hf; cases hf
  | succ n ih =>
    intro τ a0 m0 mE hm ta0 hf
    subst hm
    have hf : f_X10_expression_b (f_X10_expression n) a0 m0 = some mE := hf
    generalize f_X10_expression n = rec at hf ih
    have hrec : ∀ {τ : Nat → Option XTy} {a0 : Nat} {m0 mE : XMem} (hm : mT m0 = τ) (ta0 : τ a0 = some (.inl 10)) (hf : rec a0 m0 = some mE), Ct l yX10_expression cX10_expression 3 ((Option.none : Option FieldType)) (4 + n) 0 0 D E tU [.ref a0] m0 (none) mE (mT mE = mT m0 ∧ True) := ih
    unfold f_X10_expression_b at hf
    refine Ct.of (by decide) (Nat.le_of_ble_eq_true rfl) (fun p e s m below meth c ls C hr hk hnm hl hw => ?_)
    have hx := C.1
    have hb := C.2.1
    have hl : lv_has ls 3 [(0, .ref a0)] := hl
    refine lv_aload_n hx hb dX10_expression_0 rfl (lv_at hl 0 rfl) ?_
    refine x_getZ C hw fa_X10_141 ta0 dX10_expression_1 ?_
    refine lv_if_eq (tgt := 8) hx hb dX10_expression_4 (by decide) (fun c => ?_) (fun c => ?_)
    · have hf := ifp hf c
      refine lv_aload_n hx hb dX10_expression_8 rfl (lv_at hl 0 rfl) ?_
      refine lv_aload_n hx hb dX10_expression_9 rfl (lv_at hl 0 rfl) ?_
      refine x_getI C hw fa_X10_129 ta0 dX10_expression_10 ?_
      obtain ⟨r102, m101, cm101, hf⟩ := b2_el (o := f_X10_byteAt a0 (mI m0 a0 8) m0) hf
      refine x_callVi (As := [.int (mI m0 a0 8)]) (rest := []) C hl.1 hw cb_X10_132 cv_X10_byteAt (k_X10_byteAt hw.2.2.2.2 ta0 cm101) ta0 rfl rfl (by omega) ⟨Nat.le_refl _, Nat.le_refl _⟩ rfl (Nat.le_of_ble_eq_true rfl) dX10_expression_13 (fun H locs hw tr102 => ?_)
      obtain ⟨r104, m103, cm103, hf⟩ := b2_el (o := f_X10_isDigit r102 m101) hf
      refine x_callSi (As := [.int r102]) (rest := []) C hl.1 hw cb_X10_138 cs_X10_isDigit (k_X10_isDigit hw.2.2.2.2  cm103) rfl (by omega) ⟨Nat.le_refl _, Nat.le_refl _⟩ rfl (Nat.le_of_ble_eq_true rfl) dX10_expression_16 (fun H locs hw tr104 => ?_)
      refine lv_if_eq (tgt := 49) hx hb dX10_expression_19 (by decide) (fun c => ?_) (fun c => ?_)
      · have hf := ifp hf c
        refine lv_aload_n hx hb dX10_expression_49 rfl (lv_at hl 0 rfl) ?_
        refine lv_aload_n hx hb dX10_expression_50 rfl (lv_at hl 0 rfl) ?_
        obtain ⟨b105, eb105, hf⟩ := fo_el hf
        refine x_getR C hw fa_X10_32 (Or.inr ⟨_, rfl⟩) ta0 eb105 dX10_expression_51 (fun tb105 => ?_)
        have tb105 : ∃ n, (mT m0) b105 = some (.inr (0, n)) := tb105
        obtain ⟨r107, m106, cm106, hf⟩ := b2_el (o := f_X10_wordOf a0 b105 m103) hf
        refine x_callVi (As := [.ref b105]) (rest := []) C hl.1 hw cb_X10_163 cv_X10_wordOf (k_X10_wordOf hw.2.2.2.2 ta0 tb105 cm106) ta0 rfl rfl (by omega) ⟨Nat.le_refl _, Nat.le_refl _⟩ rfl (Nat.le_of_ble_eq_true rfl) dX10_expression_54 (fun H locs hw tr107 => ?_)
        refine lv_istore_n (lv' := [(1, .int r107), (0, .ref a0)]) hx hb dX10_expression_57 rfl hl (by decide) rfl (fun ls hl => ?_)
        refine lv_aload_n hx hb dX10_expression_58 rfl (lv_at hl 1 rfl) ?_
        refine lv_aload_n hx hb dX10_expression_59 rfl (lv_at hl 1 rfl) ?_
        obtain ⟨b108, eb108, hf⟩ := fo_el hf
        refine x_getR C hw fa_X10_37 (Or.inr ⟨_, rfl⟩) ta0 eb108 dX10_expression_60 (fun tb108 => ?_)
        have tb108 : ∃ n, (mT m0) b108 = some (.inr (0, n)) := tb108
        obtain ⟨r110, m109, cm109, hf⟩ := b2_el (o := f_X10_wordOf a0 b108 m106) hf
        refine x_callVi (As := [.ref b108]) (rest := []) C hl.1 hw cb_X10_163 cv_X10_wordOf (k_X10_wordOf hw.2.2.2.2 ta0 tb108 cm109) ta0 rfl rfl (by omega) ⟨Nat.le_refl _, Nat.le_refl _⟩ rfl (Nat.le_of_ble_eq_true rfl) dX10_expression_63 (fun H locs hw tr110 => ?_)
        refine lv_istore_n (lv' := [(2, .int r110), (1, .int r107), (0, .ref a0)]) hx hb dX10_expression_66 rfl hl (by decide) rfl (fun ls hl => ?_)
        refine lv_iload_n hx hb dX10_expression_67 rfl (lv_at hl 1 rfl) ?_
        refine lv_if_lt (tgt := 86) hx hb dX10_expression_68 (by decide) (fun c => ?_) (fun c => ?_)
        · have hf := ifp hf c
          refine lv_aload_n hx hb dX10_expression_86 rfl (lv_at hl 2 rfl) ?_
          refine lv_iload_n hx hb dX10_expression_87 rfl (lv_at hl 0 rfl) ?_
          refine lv_if_lt (tgt := 95) hx hb dX10_expression_88 (by decide) (fun c => ?_) (fun c => ?_)
          · have hf := ifp hf c
            refine lv_iconst hx hb dX10_expression_95 ki_0 ?_
            exact w_X10_expression_j96 C hr hk hnm hrec ta0 ta0 (lv_sub hl [2, 0] rfl) hw hf
          · have hf := ifn hf c
            refine lv_iconst hx hb dX10_expression_91 ki_1 ?_
            refine lv_goto (tgt := 96) hx hb dX10_expression_92 (by decide) ?_
            exact w_X10_expression_j96 C hr hk hnm hrec ta0 ta0 (lv_sub hl [2, 0] rfl) hw hf
        · have hf := ifn hf c
          refine lv_aload_n hx hb dX10_expression_71 rfl (lv_at hl 2 rfl) ?_
          refine lv_sipush hx hb dX10_expression_72 ks_10000 ?_
          refine lv_iload_n hx hb dX10_expression_75 rfl (lv_at hl 1 rfl) ?_
          refine lv_iadd hx hb dX10_expression_76 ?_
          obtain ⟨m111, cm111, hf⟩ := b1_el (o := f_X10_emits a0 (10000 + r107) m109) hf
          refine x_callVv (As := [.int (10000 + r107)]) (rest := []) C hl.1 hw cb_X10_155 cv_X10_emits (k_X10_emits hw.2.2.2.2 ta0 cm111) ta0 rfl rfl (by omega) ⟨Nat.le_refl _, Nat.le_refl _⟩ rfl (Nat.le_of_ble_eq_true rfl) dX10_expression_77 (fun H locs hw tm111 => ?_)
          refine lv_aload_n hx hb dX10_expression_80 rfl (lv_at hl 2 rfl) ?_
          refine lv_iconst hx hb dX10_expression_81 ki_1 ?_
          obtain ⟨m112, cm112, hf⟩ := b1_el (o := f_X10_needs a0 1 m111) hf
          refine x_callVv (As := [.int 1]) (rest := []) C hl.1 hw cb_X10_159 cv_X10_needs (k_X10_needs hw.2.2.2.2 ta0 cm112) ta0 rfl rfl (by omega) ⟨Nat.le_refl _, Nat.le_refl _⟩ rfl (Nat.le_of_ble_eq_true rfl) dX10_expression_82 (fun H locs hw tm112 => ?_)
          exact x_ret C hr hk hw  hf (by decide) (by decide) dX10_expression_85
      · have hf := ifn hf c
        refine lv_aload_n hx hb dX10_expression_22 rfl (lv_at hl 0 rfl) ?_
        obtain ⟨r114, m113, cm113, hf⟩ := b2_el (o := f_X10_number a0 m103) hf
        refine x_callVi (As := []) (rest := []) C hl.1 hw cb_X10_151 cv_X10_number (k_X10_number hw.2.2.2.2 ta0 cm113) ta0 rfl rfl (by omega) ⟨Nat.le_refl _, Nat.le_refl _⟩ rfl (Nat.le_of_ble_eq_true rfl) dX10_expression_23 (fun H locs hw tr114 => ?_)
        refine lv_istore_n (lv' := [(1, .int r114), (0, .ref a0)]) hx hb dX10_expression_26 rfl hl (by decide) rfl (fun ls hl => ?_)
        refine lv_aload_n hx hb dX10_expression_27 rfl (lv_at hl 1 rfl) ?_
        refine lv_iload_n hx hb dX10_expression_28 rfl (lv_at hl 0 rfl) ?_
        obtain ⟨m115, cm115, hf⟩ := b1_el (o := f_X10_emits a0 r114 m113) hf
        refine x_callVv (As := [.int r114]) (rest := []) C hl.1 hw cb_X10_155 cv_X10_emits (k_X10_emits hw.2.2.2.2 ta0 cm115) ta0 rfl rfl (by omega) ⟨Nat.le_refl _, Nat.le_refl _⟩ rfl (Nat.le_of_ble_eq_true rfl) dX10_expression_29 (fun H locs hw tm115 => ?_)
        refine lv_aload_n hx hb dX10_expression_32 rfl (lv_at hl 1 rfl) ?_
        refine lv_iload_n hx hb dX10_expression_33 rfl (lv_at hl 0 rfl) ?_
        refine lv_sipush hx hb dX10_expression_34 ks_10000 ?_
        refine lv_icmp_ge (tgt := 44) hx hb dX10_expression_37 (by decide) (fun c => ?_) (fun c => ?_)
        · have hf := ifp hf c
          refine lv_iconst hx hb dX10_expression_44 ki_0 ?_
          obtain ⟨m116, cm116, hf⟩ := b1_el (o := f_X10_needs a0 0 m115) hf
          refine x_callVv (As := [.int 0]) (rest := []) C hl.1 hw cb_X10_159 cv_X10_needs (k_X10_needs hw.2.2.2.2 ta0 cm116) ta0 rfl rfl (by omega) ⟨Nat.le_refl _, Nat.le_refl _⟩ rfl (Nat.le_of_ble_eq_true rfl) dX10_expression_45 (fun H locs hw tm116 => ?_)
          exact x_ret C hr hk hw  hf (by decide) (by decide) dX10_expression_48
        · have hf := ifn hf c
          refine lv_iconst hx hb dX10_expression_40 ki_1 ?_
          refine lv_goto (tgt := 45) hx hb dX10_expression_41 (by decide) ?_
          obtain ⟨m117, cm117, hf⟩ := b1_el (o := f_X10_needs a0 1 m115) hf
          refine x_callVv (As := [.int 1]) (rest := []) C hl.1 hw cb_X10_159 cv_X10_needs (k_X10_needs hw.2.2.2.2 ta0 cm117) ta0 rfl rfl (by omega) ⟨Nat.le_refl _, Nat.le_refl _⟩ rfl (Nat.le_of_ble_eq_true rfl) dX10_expression_45 (fun H locs hw tm117 => ?_)
          exact x_ret C hr hk hw  hf (by decide) (by decide) dX10_expression_48
    · have hf := ifn hf c
      exact x_ret C hr hk hw  hf (by decide) (by decide) dX10_expression_7
set_option maxHeartbeats 4000000 in
set_option maxRecDepth 100000 in
theorem w_X10_feed_h38 {p : Program} {l : Launch} {e : Env} {s : State} {m : MethodId} {args : Array Value} {below : List Frame} {meth : Method} {c : Code} {D : va_G} {E : Nat → ClassId} {tU : Nat} {m0 mE : XMem} {rE : Int32} (C : Cx p s m args c cX10_feed 4 RX10 D E (Am m0) tU) (hr : meth.sig.returnType = ((Option.some FieldType.int))) (hk : meth.locks = false) (hnm : meth.name = yX10_feed.name) {a0 : Nat} {x1 : Int32} (ta0 : mT m0 a0 = some (.inl 10)) {k77 :  XMem → Option (Int32 × XMem)} (hk77 : ∀  (mu : XMem) (H : Heap) (locs : List Loc) (ls : Array Slot), lv_has ls 4 [(0, .ref a0)] → Wd D E (Am m0) s (mT m0) mu H locs →   k77  mu = some (rE, mE) → W p l e (rmN 2 0 0) s m args below meth c H locs 0 0 (MQ below (XQ D E (Am m0) (some (.int rE)) mE (mT mE = mT m0 ∧ True)) args s 0 0 (Am m0)) (F0 m 77 ls [])) : ∀ (n : Nat) (x3 : Int32) (mu : XMem) (H : Heap) (locs : List Loc) (ls : Array Slot), lv_has ls 4 [(0, .ref a0), (1, .int x1), (3, .int x3)] → Wd D E (Am m0) s (mT m0) mu H locs → f_X10_feed_h38 a0 x1 k77 n x3 mu = some (rE, mE) → W p l e (rmN 2 0 0) s m args below meth c H locs 0 0 (MQ below (XQ D E (Am m0) (some (.int rE)) mE (mT mE = mT m0 ∧ True)) args s 0 0 (Am m0)) (F0 m 38 ls []) := by
  have hx := C.1
  have hb := C.2.1
  intro n
  induction n with
  | zero =>
    intros
    rename_i hf
    cases hf
  | succ n ih =>
    intro x3 mu H locs ls hl hw hf
    rw [f_X10_feed_h38] at hf
    refine lv_iload_n hx hb dX10_feed_38 rfl (lv_at hl 2 rfl) ?_
    refine lv_if_lt (tgt := 77) hx hb dX10_feed_39 (by decide) (fun c => ?_) (fun c => ?_)
    · have hf := ifp hf c
      exact hk77 _ _ _ _ (lv_sub hl [0] rfl) hw hf
    · have hf := ifn hf c
      refine lv_aload_n hx hb dX10_feed_42 rfl (lv_at hl 0 rfl) ?_
      obtain ⟨b109, eb109, hf⟩ := fo_el hf
      refine x_getR C hw fa_X10_26 (Or.inr ⟨_, rfl⟩) ta0 eb109 dX10_feed_43 (fun tb109 => ?_)
      have tb109 : ∃ n, (mT m0) b109 = some (.inr (0, n)) := tb109
      refine lv_aload_n hx hb dX10_feed_46 rfl (lv_at hl 0 rfl) ?_
      refine x_getI C hw fa_X10_122 ta0 dX10_feed_47 ?_
      refine lv_iload_n hx hb dX10_feed_50 rfl (lv_at hl 1 rfl) ?_
      refine lv_bipush hx hb dX10_feed_51 kb_8 ?_
      refine lv_iload_n hx hb dX10_feed_53 rfl (lv_at hl 2 rfl) ?_
      refine lv_imul hx hb dX10_feed_54 ?_
      refine lv_ishr hx hb dX10_feed_55 ?_
      refine lv_sipush hx hb dX10_feed_56 ks_255 ?_
      refine lv_iand hx hb dX10_feed_59 ?_
      obtain ⟨g110, hf⟩ := gd_el hf
      refine x_iast C hw tb109 g110 dX10_feed_60 (fun m111 H locs em111 hw => ?_)
      have hf := nm_el hf em111
      refine lv_aload_n hx hb dX10_feed_61 rfl (lv_at hl 0 rfl) ?_
      refine lv_dup hx hb dX10_feed_62 rfl ?_
      refine x_getI C hw fa_X10_122 ta0 dX10_feed_63 ?_
      refine lv_iconst hx hb dX10_feed_66 ki_1 ?_
      refine lv_iadd hx hb dX10_feed_67 ?_
      refine x_putI C hw fa_X10_122 ta0 dX10_feed_68 (fun m112 H locs em112 hw => ?_)
      have hf := nm_el hf em112
      obtain ⟨x113, ex113⟩ : ∃ z : Int32, z = x3 + (-1) := ⟨_, rfl⟩
      have hf := nm_el hf ex113
      refine lv_iinc (v := x113) (lv' := [(3, .int x113), (0, .ref a0), (1, .int x1)]) hx hb dX10_feed_71 hl (k := 2) rfl (by rw [ex113, ki_m1]) (by decide) rfl (fun ls hl => ?_)
      refine lv_goto (tgt := 38) hx hb dX10_feed_74 (by decide) ?_
      exact ih _ _ _ _ _ (lv_sub hl [1, 2, 0] rfl) hw hf
set_option maxHeartbeats 4000000 in
set_option maxRecDepth 100000 in
theorem k_X10_feed {l : Launch} {D : va_G} {E : Nat → ClassId} {tU : Nat} {τ : Nat → Option XTy} {a0 : Nat} {x1 : Int32} {x2 : Int32} {m0 mE : XMem} {rE : Int32} (hm : mT m0 = τ) (ta0 : τ a0 = some (.inl 10)) (hf : f_X10_feed a0 x1 x2 m0 = some (rE, mE)) : Ct l yX10_feed cX10_feed 4 ((Option.some FieldType.int)) 2 0 0 D E tU [.ref a0, .int x1, .int x2] m0 (some (.int rE)) mE (mT mE = mT m0 ∧ True) := by
  subst hm
  refine Ct.of (by decide) (Nat.le_of_ble_eq_true rfl) (fun p e s m below meth c ls C hr hk hnm hl hw => ?_)
  have hx := C.1
  have hb := C.2.1
  have hl : lv_has ls 4 [(0, .ref a0), (1, .int x1), (2, .int x2)] := hl
  unfold f_X10_feed at hf
  refine lv_iload_n hx hb dX10_feed_0 rfl (lv_at hl 2 rfl) ?_
  refine lv_iconst hx hb dX10_feed_1 ki_1 ?_
  refine lv_iconst hx hb dX10_feed_2 ki_4 ?_
  obtain ⟨r102, m101, cm101, hf⟩ := b2_el (o := f_X10_within x2 1 4 m0) hf
  refine x_callSi (As := [.int x2, .int 1, .int 4]) (rest := []) C hl.1 hw cb_X10_62 cs_X10_within (k_X10_within hw.2.2.2.2  cm101) rfl (by decide) ⟨Nat.le_refl _, Nat.le_refl _⟩ rfl (Nat.le_of_ble_eq_true rfl) dX10_feed_3 (fun H locs hw tr102 => ?_)
  refine lv_if_ne (tgt := 16) hx hb dX10_feed_6 (by decide) (fun c => ?_) (fun c => ?_)
  · have hf := ifn hf c
    refine lv_aload_n hx hb dX10_feed_16 rfl (lv_at hl 0 rfl) ?_
    refine x_getI C hw fa_X10_122 ta0 dX10_feed_17 ?_
    refine lv_iload_n hx hb dX10_feed_20 rfl (lv_at hl 2 rfl) ?_
    refine lv_iadd hx hb dX10_feed_21 ?_
    refine lv_bipush hx hb dX10_feed_22 kb_100 ?_
    refine lv_icmp_le (tgt := 34) hx hb dX10_feed_24 (by decide) (fun c => ?_) (fun c => ?_)
    · have hf := ifp hf c
      refine lv_iload_n hx hb dX10_feed_34 rfl (lv_at hl 2 rfl) ?_
      refine lv_iconst hx hb dX10_feed_35 ki_1 ?_
      refine lv_isub hx hb dX10_feed_36 ?_
      refine lv_topi (fun x103 ex103 => ?_)
      have hf := nm_el hf ex103
      refine lv_istore_n (lv' := [(3, .int x103), (0, .ref a0), (1, .int x1), (2, .int x2)]) hx hb dX10_feed_37 rfl hl (by decide) rfl (fun ls hl => ?_)
      refine w_X10_feed_h38 C hr hk hnm ta0 ?_ 2000 _ _ _ _ _ (lv_sub hl [1, 2, 0] rfl) hw hf
      intro m104 H locs ls hl hw hf
      refine lv_aload_n hx hb dX10_feed_77 rfl (lv_at hl 0 rfl) ?_
      refine x_getI C hw fa_X10_122 ta0 dX10_feed_78 ?_
      exact x_retI C hr hk hw  hf (by decide) (by decide) dX10_feed_81
    · have hf := ifn hf c
      refine lv_aload_n hx hb dX10_feed_27 rfl (lv_at hl 0 rfl) ?_
      refine lv_ldc hx hb C.2.2.2.1 (C.2.2.2.2.1 _ ki_X10_71) dX10_feed_28 ?_
      obtain ⟨r106, m105, cm105, hf⟩ := b2_el (o := f_X10_finds a0 (-1000000002) m101) hf
      refine x_callVi (As := [.int (-1000000002)]) (rest := []) C hl.1 hw cb_X10_67 cv_X10_finds (k_X10_finds hw.2.2.2.2 ta0 cm105) ta0 rfl rfl (by decide) ⟨Nat.le_refl _, Nat.le_refl _⟩ rfl (Nat.le_of_ble_eq_true rfl) dX10_feed_30 (fun H locs hw tr106 => ?_)
      exact x_retI C hr hk hw  hf (by decide) (by decide) dX10_feed_33
  · have hf := ifp hf c
    refine lv_aload_n hx hb dX10_feed_9 rfl (lv_at hl 0 rfl) ?_
    refine lv_ldc hx hb C.2.2.2.1 (C.2.2.2.2.1 _ ki_X10_61) dX10_feed_10 ?_
    obtain ⟨r108, m107, cm107, hf⟩ := b2_el (o := f_X10_finds a0 (-1000000001) m101) hf
    refine x_callVi (As := [.int (-1000000001)]) (rest := []) C hl.1 hw cb_X10_67 cv_X10_finds (k_X10_finds hw.2.2.2.2 ta0 cm107) ta0 rfl rfl (by decide) ⟨Nat.le_refl _, Nat.le_refl _⟩ rfl (Nat.le_of_ble_eq_true rfl) dX10_feed_12 (fun H locs hw tr108 => ?_)
    exact x_retI C hr hk hw  hf (by decide) (by decide) dX10_feed_15
set_option maxHeartbeats 4000000 in
set_option maxRecDepth 100000 in
theorem k_X10_isLawOrNone {l : Launch} {D : va_G} {E : Nat → ClassId} {tU : Nat} {τ : Nat → Option XTy} {a0 : Nat} {x1 : Int32} {m0 mE : XMem} {rE : Int32} (hm : mT m0 = τ) (ta0 : τ a0 = some (.inl 10)) (hf : f_X10_isLawOrNone a0 x1 m0 = some (rE, mE)) : Ct l yX10_isLawOrNone cX10_isLawOrNone 2 ((Option.some FieldType.boolean)) 2 0 0 D E tU [.ref a0, .int x1] m0 (some (.int rE)) mE (mT mE = mT m0 ∧ (rE = 0 ∨ rE = 1)) := by
  subst hm
  refine Ct.of (by decide) (Nat.le_of_ble_eq_true rfl) (fun p e s m below meth c ls C hr hk hnm hl hw => ?_)
  have hx := C.1
  have hb := C.2.1
  have hl : lv_has ls 2 [(0, .ref a0), (1, .int x1)] := hl
  unfold f_X10_isLawOrNone at hf
  refine lv_iload_n hx hb dX10_isLawOrNone_0 rfl (lv_at hl 1 rfl) ?_
  refine lv_iconst hx hb dX10_isLawOrNone_1 ki_m1 ?_
  refine lv_aload_n hx hb dX10_isLawOrNone_2 rfl (lv_at hl 0 rfl) ?_
  obtain ⟨b101, eb101, hf⟩ := fo_el hf
  refine x_getR C hw fa_X10_7 (Or.inr ⟨_, rfl⟩) ta0 eb101 dX10_isLawOrNone_3 (fun tb101 => ?_)
  have tb101 : ∃ n, (mT m0) b101 = some (.inr (0, n)) := tb101
  refine lv_iconst hx hb dX10_isLawOrNone_6 ki_2 ?_
  obtain ⟨g102, hf⟩ := gd_el hf
  refine x_iald C hw tb101 g102 dX10_isLawOrNone_7 ?_
  refine lv_iconst hx hb dX10_isLawOrNone_8 ki_1 ?_
  refine lv_isub hx hb dX10_isLawOrNone_9 ?_
  obtain ⟨r104, m103, cm103, hf⟩ := b2_el (o := f_X10_within x1 (-1) ((mI m0 b101 (Int32.toNatClampNeg 2)) - 1) m0) hf
  refine x_callSi (As := [.int x1, .int (-1), .int ((mI m0 b101 (Int32.toNatClampNeg 2)) - 1)]) (rest := []) C hl.1 hw cb_X10_62 cs_X10_within (k_X10_within hw.2.2.2.2  cm103) rfl (by decide) ⟨Nat.le_refl _, Nat.le_refl _⟩ rfl (Nat.le_of_ble_eq_true rfl) dX10_isLawOrNone_10 (fun H locs hw tr104 => ?_)
  exact x_retZ C hr hk tr104 hw  hf (by decide) (by decide) dX10_isLawOrNone_13
set_option maxHeartbeats 4000000 in
set_option maxRecDepth 100000 in
theorem k_X10_force {l : Launch} {D : va_G} {E : Nat → ClassId} {tU : Nat} {τ : Nat → Option XTy} {a0 : Nat} {x1 : Int32} {m0 mE : XMem} {rE : Int32} (hm : mT m0 = τ) (ta0 : τ a0 = some (.inl 10)) (hf : f_X10_force a0 x1 m0 = some (rE, mE)) : Ct l yX10_force cX10_force 3 ((Option.some FieldType.int)) 3 0 0 D E tU [.ref a0, .int x1] m0 (some (.int rE)) mE (mT mE = mT m0 ∧ True) := by
  subst hm
  refine Ct.of (by decide) (Nat.le_of_ble_eq_true rfl) (fun p e s m below meth c ls C hr hk hnm hl hw => ?_)
  have hx := C.1
  have hb := C.2.1
  have hl : lv_has ls 3 [(0, .ref a0), (1, .int x1)] := hl
  unfold f_X10_force at hf
  refine lv_aload_n hx hb dX10_force_0 rfl (lv_at hl 0 rfl) ?_
  refine lv_iload_n hx hb dX10_force_1 rfl (lv_at hl 1 rfl) ?_
  obtain ⟨r102, m101, cm101, hf⟩ := b2_el (o := f_X10_isLawOrNone a0 x1 m0) hf
  refine x_callVi (As := [.int x1]) (rest := []) C hl.1 hw cb_X10_187 cv_X10_isLawOrNone (k_X10_isLawOrNone hw.2.2.2.2 ta0 cm101) ta0 rfl rfl (by decide) ⟨Nat.le_refl _, Nat.le_refl _⟩ rfl (Nat.le_of_ble_eq_true rfl) dX10_force_2 (fun H locs hw tr102 => ?_)
  refine lv_if_ne (tgt := 15) hx hb dX10_force_5 (by decide) (fun c => ?_) (fun c => ?_)
  · have hf := ifn hf c
    refine lv_aload_n hx hb dX10_force_15 rfl (lv_at hl 0 rfl) ?_
    obtain ⟨b103, eb103, hf⟩ := fo_el hf
    refine x_getR C hw fa_X10_7 (Or.inr ⟨_, rfl⟩) ta0 eb103 dX10_force_16 (fun tb103 => ?_)
    have tb103 : ∃ n, (mT m0) b103 = some (.inr (0, n)) := tb103
    refine lv_iconst hx hb dX10_force_19 ki_4 ?_
    obtain ⟨g104, hf⟩ := gd_el hf
    refine x_iald C hw tb103 g104 dX10_force_20 ?_
    refine lv_iconst hx hb dX10_force_21 ki_1 ?_
    refine lv_isub hx hb dX10_force_22 ?_
    refine lv_topi (fun x105 ex105 => ?_)
    have hf := nm_el hf ex105
    refine lv_istore_n (lv' := [(2, .int x105), (0, .ref a0), (1, .int x1)]) hx hb dX10_force_23 rfl hl (by decide) rfl (fun ls hl => ?_)
    refine lv_aload_n hx hb dX10_force_24 rfl (lv_at hl 1 rfl) ?_
    obtain ⟨b106, eb106, hf⟩ := fo_el hf
    refine x_getR C hw fa_X10_7 (Or.inr ⟨_, rfl⟩) ta0 eb106 dX10_force_25 (fun tb106 => ?_)
    have tb106 : ∃ n, (mT m0) b106 = some (.inr (0, n)) := tb106
    refine lv_iconst hx hb dX10_force_28 ki_4 ?_
    refine lv_iload_n hx hb dX10_force_29 rfl (lv_at hl 2 rfl) ?_
    refine lv_iconst hx hb dX10_force_30 ki_1 ?_
    refine lv_iadd hx hb dX10_force_31 ?_
    obtain ⟨g107, hf⟩ := gd_el hf
    refine x_iast C hw tb106 g107 dX10_force_32 (fun m108 H locs em108 hw => ?_)
    have hf := nm_el hf em108
    refine lv_iload_n hx hb dX10_force_33 rfl (lv_at hl 0 rfl) ?_
    exact x_retI C hr hk hw  hf (by decide) (by decide) dX10_force_34
  · have hf := ifp hf c
    refine lv_aload_n hx hb dX10_force_8 rfl (lv_at hl 0 rfl) ?_
    refine lv_ldc hx hb C.2.2.2.1 (C.2.2.2.2.1 _ ki_X10_61) dX10_force_9 ?_
    obtain ⟨r110, m109, cm109, hf⟩ := b2_el (o := f_X10_finds a0 (-1000000001) m101) hf
    refine x_callVi (As := [.int (-1000000001)]) (rest := []) C hl.1 hw cb_X10_67 cv_X10_finds (k_X10_finds hw.2.2.2.2 ta0 cm109) ta0 rfl rfl (by decide) ⟨Nat.le_refl _, Nat.le_refl _⟩ rfl (Nat.le_of_ble_eq_true rfl) dX10_force_11 (fun H locs hw tr110 => ?_)
    exact x_retI C hr hk hw  hf (by decide) (by decide) dX10_force_14
set_option maxHeartbeats 4000000 in
set_option maxRecDepth 100000 in
theorem k_X10_foretold {l : Launch} {D : va_G} {E : Nat → ClassId} {tU : Nat} {τ : Nat → Option XTy} {a0 : Nat} {x1 : Int32} {x2 : Int32} {x3 : Int32} {x4 : Int32} {m0 mE : XMem} {rE : Int32} (hm : mT m0 = τ) (ta0 : τ a0 = some (.inl 10)) (hf : f_X10_foretold a0 x1 x2 x3 x4 m0 = some (rE, mE)) : Ct l yX10_foretold cX10_foretold 5 ((Option.some FieldType.int)) 9 0 0 D E tU [.ref a0, .int x1, .int x2, .int x3, .int x4] m0 (some (.int rE)) mE (mT mE = mT m0 ∧ True) := by
  subst hm
  refine Ct.of (by decide) (Nat.le_of_ble_eq_true rfl) (fun p e s m below meth c ls C hr hk hnm hl hw => ?_)
  have hx := C.1
  have hb := C.2.1
  have hl : lv_has ls 5 [(0, .ref a0), (1, .int x1), (2, .int x2), (3, .int x3), (4, .int x4)] := hl
  unfold f_X10_foretold at hf
  refine lv_aload_n hx hb dX10_foretold_0 rfl (lv_at hl 0 rfl) ?_
  refine lv_iload_n hx hb dX10_foretold_1 rfl (lv_at hl 1 rfl) ?_
  obtain ⟨r102, m101, cm101, hf⟩ := b2_el (o := f_X10_isCell a0 x1 m0) hf
  refine x_callVi (As := [.int x1]) (rest := []) C hl.1 hw cb_X10_76 cv_X10_isCell (k_X10_isCell hw.2.2.2.2 ta0 cm101) ta0 rfl rfl (by decide) ⟨Nat.le_refl _, Nat.le_refl _⟩ rfl (Nat.le_of_ble_eq_true rfl) dX10_foretold_2 (fun H locs hw tr102 => ?_)
  refine lv_if_eq (tgt := 36) hx hb dX10_foretold_5 (by decide) (fun c => ?_) (fun c => ?_)
  · have hf := ifp hf c
    refine lv_aload_n hx hb dX10_foretold_36 rfl (lv_at hl 0 rfl) ?_
    refine lv_ldc hx hb C.2.2.2.1 (C.2.2.2.2.1 _ ki_X10_61) dX10_foretold_37 ?_
    obtain ⟨r104, m103, cm103, hf⟩ := b2_el (o := f_X10_finds a0 (-1000000001) m101) hf
    refine x_callVi (As := [.int (-1000000001)]) (rest := []) C hl.1 hw cb_X10_67 cv_X10_finds (k_X10_finds hw.2.2.2.2 ta0 cm103) ta0 rfl rfl (by decide) ⟨Nat.le_refl _, Nat.le_refl _⟩ rfl (Nat.le_of_ble_eq_true rfl) dX10_foretold_39 (fun H locs hw tr104 => ?_)
    exact x_retI C hr hk hw  hf (by decide) (by decide) dX10_foretold_42
  · have hf := ifn hf c
    refine lv_aload_n hx hb dX10_foretold_8 rfl (lv_at hl 0 rfl) ?_
    refine lv_iload_n hx hb dX10_foretold_9 rfl (lv_at hl 2 rfl) ?_
    obtain ⟨r106, m105, cm105, hf⟩ := b2_el (o := f_X10_isLawOrNone a0 x2 m101) hf
    refine x_callVi (As := [.int x2]) (rest := []) C hl.1 hw cb_X10_187 cv_X10_isLawOrNone (k_X10_isLawOrNone hw.2.2.2.2 ta0 cm105) ta0 rfl rfl (by decide) ⟨Nat.le_refl _, Nat.le_refl _⟩ rfl (Nat.le_of_ble_eq_true rfl) dX10_foretold_10 (fun H locs hw tr106 => ?_)
    refine lv_if_eq (tgt := 36) hx hb dX10_foretold_13 (by decide) (fun c => ?_) (fun c => ?_)
    · have hf := ifp hf c
      refine lv_aload_n hx hb dX10_foretold_36 rfl (lv_at hl 0 rfl) ?_
      refine lv_ldc hx hb C.2.2.2.1 (C.2.2.2.2.1 _ ki_X10_61) dX10_foretold_37 ?_
      obtain ⟨r108, m107, cm107, hf⟩ := b2_el (o := f_X10_finds a0 (-1000000001) m105) hf
      refine x_callVi (As := [.int (-1000000001)]) (rest := []) C hl.1 hw cb_X10_67 cv_X10_finds (k_X10_finds hw.2.2.2.2 ta0 cm107) ta0 rfl rfl (by decide) ⟨Nat.le_refl _, Nat.le_refl _⟩ rfl (Nat.le_of_ble_eq_true rfl) dX10_foretold_39 (fun H locs hw tr108 => ?_)
      exact x_retI C hr hk hw  hf (by decide) (by decide) dX10_foretold_42
    · have hf := ifn hf c
      refine lv_iload_n hx hb dX10_foretold_16 rfl (lv_at hl 3 rfl) ?_
      refine lv_iconst hx hb dX10_foretold_17 ki_0 ?_
      refine lv_bipush hx hb dX10_foretold_18 kb_100 ?_
      obtain ⟨r110, m109, cm109, hf⟩ := b2_el (o := f_X10_within x3 0 100 m105) hf
      refine x_callSi (As := [.int x3, .int 0, .int 100]) (rest := []) C hl.1 hw cb_X10_62 cs_X10_within (k_X10_within hw.2.2.2.2  cm109) rfl (by decide) ⟨Nat.le_refl _, Nat.le_refl _⟩ rfl (Nat.le_of_ble_eq_true rfl) dX10_foretold_20 (fun H locs hw tr110 => ?_)
      refine lv_if_eq (tgt := 36) hx hb dX10_foretold_23 (by decide) (fun c => ?_) (fun c => ?_)
      · have hf := ifp hf c
        refine lv_aload_n hx hb dX10_foretold_36 rfl (lv_at hl 0 rfl) ?_
        refine lv_ldc hx hb C.2.2.2.1 (C.2.2.2.2.1 _ ki_X10_61) dX10_foretold_37 ?_
        obtain ⟨r112, m111, cm111, hf⟩ := b2_el (o := f_X10_finds a0 (-1000000001) m109) hf
        refine x_callVi (As := [.int (-1000000001)]) (rest := []) C hl.1 hw cb_X10_67 cv_X10_finds (k_X10_finds hw.2.2.2.2 ta0 cm111) ta0 rfl rfl (by decide) ⟨Nat.le_refl _, Nat.le_refl _⟩ rfl (Nat.le_of_ble_eq_true rfl) dX10_foretold_39 (fun H locs hw tr112 => ?_)
        exact x_retI C hr hk hw  hf (by decide) (by decide) dX10_foretold_42
      · have hf := ifn hf c
        refine lv_iload hx hb dX10_foretold_26 (lv_at hl 4 rfl) ?_
        refine lv_iconst hx hb dX10_foretold_28 ki_0 ?_
        refine lv_iconst hx hb dX10_foretold_29 ki_4 ?_
        obtain ⟨r114, m113, cm113, hf⟩ := b2_el (o := f_X10_within x4 0 4 m109) hf
        refine x_callSi (As := [.int x4, .int 0, .int 4]) (rest := []) C hl.1 hw cb_X10_62 cs_X10_within (k_X10_within hw.2.2.2.2  cm113) rfl (by decide) ⟨Nat.le_refl _, Nat.le_refl _⟩ rfl (Nat.le_of_ble_eq_true rfl) dX10_foretold_30 (fun H locs hw tr114 => ?_)
        refine lv_if_ne (tgt := 43) hx hb dX10_foretold_33 (by decide) (fun c => ?_) (fun c => ?_)
        · have hf := ifn hf c
          refine lv_aload_n hx hb dX10_foretold_43 rfl (lv_at hl 0 rfl) ?_
          refine lv_iload_n hx hb dX10_foretold_44 rfl (lv_at hl 1 rfl) ?_
          refine lv_iload_n hx hb dX10_foretold_45 rfl (lv_at hl 2 rfl) ?_
          refine lv_iload_n hx hb dX10_foretold_46 rfl (lv_at hl 3 rfl) ?_
          refine lv_iload hx hb dX10_foretold_47 (lv_at hl 4 rfl) ?_
          obtain ⟨r116, m115, cm115, hf⟩ := b2_el (o := f_X10_would a0 x1 x2 x3 x4 m113) hf
          refine x_callVi (As := [.int x1, .int x2, .int x3, .int x4]) (rest := []) C hl.1 hw cb_X10_228 cv_X10_would (k_X10_would hw.2.2.2.2 ta0 cm115) ta0 rfl rfl (by decide) ⟨Nat.le_refl _, Nat.le_refl _⟩ rfl (Nat.le_of_ble_eq_true rfl) dX10_foretold_49 (fun H locs hw tr116 => ?_)
          exact x_retI C hr hk hw  hf (by decide) (by decide) dX10_foretold_52
        · have hf := ifp hf c
          refine lv_aload_n hx hb dX10_foretold_36 rfl (lv_at hl 0 rfl) ?_
          refine lv_ldc hx hb C.2.2.2.1 (C.2.2.2.2.1 _ ki_X10_61) dX10_foretold_37 ?_
          obtain ⟨r118, m117, cm117, hf⟩ := b2_el (o := f_X10_finds a0 (-1000000001) m113) hf
          refine x_callVi (As := [.int (-1000000001)]) (rest := []) C hl.1 hw cb_X10_67 cv_X10_finds (k_X10_finds hw.2.2.2.2 ta0 cm117) ta0 rfl rfl (by decide) ⟨Nat.le_refl _, Nat.le_refl _⟩ rfl (Nat.le_of_ble_eq_true rfl) dX10_foretold_39 (fun H locs hw tr118 => ?_)
          exact x_retI C hr hk hw  hf (by decide) (by decide) dX10_foretold_42
set_option maxHeartbeats 4000000 in
set_option maxRecDepth 100000 in
theorem k_X10_gets {l : Launch} {D : va_G} {E : Nat → ClassId} {tU : Nat} {τ : Nat → Option XTy} {a0 : Nat} {x1 : Int32} {m0 mE : XMem} {rE : Int32} (hm : mT m0 = τ) (ta0 : τ a0 = some (.inl 10)) (hf : f_X10_gets a0 x1 m0 = some (rE, mE)) : Ct l yX10_gets cX10_gets 2 ((Option.some FieldType.boolean)) 3 0 0 D E tU [.ref a0, .int x1] m0 (some (.int rE)) mE (mT mE = mT m0 ∧ (rE = 0 ∨ rE = 1)) := by
  subst hm
  refine Ct.of (by decide) (Nat.le_of_ble_eq_true rfl) (fun p e s m below meth c ls C hr hk hnm hl hw => ?_)
  have hx := C.1
  have hb := C.2.1
  have hl : lv_has ls 2 [(0, .ref a0), (1, .int x1)] := hl
  unfold f_X10_gets at hf
  refine lv_aload_n hx hb dX10_gets_0 rfl (lv_at hl 0 rfl) ?_
  refine lv_iload_n hx hb dX10_gets_1 rfl (lv_at hl 1 rfl) ?_
  refine lv_bipush hx hb dX10_gets_2 kb_6 ?_
  obtain ⟨r102, m101, cm101, hf⟩ := b2_el (o := f_X10_ofHouse a0 x1 6 m0) hf
  refine x_callVi (As := [.int x1, .int 6]) (rest := []) C hl.1 hw cb_X10_197 cv_X10_ofHouse (k_X10_ofHouse hw.2.2.2.2 ta0 cm101) ta0 rfl rfl (by decide) ⟨Nat.le_refl _, Nat.le_refl _⟩ rfl (Nat.le_of_ble_eq_true rfl) dX10_gets_4 (fun H locs hw tr102 => ?_)
  refine lv_iconst hx hb dX10_gets_7 ki_1 ?_
  refine lv_icmp_ne (tgt := 25) hx hb dX10_gets_8 (by decide) (fun c => ?_) (fun c => ?_)
  · have hf := ifn hf c
    refine lv_iconst hx hb dX10_gets_25 ki_0 ?_
    exact x_retZ C hr hk (Or.inl rfl) hw  hf (by decide) (by decide) dX10_gets_26
  · have hf := ifp hf c
    refine lv_aload_n hx hb dX10_gets_11 rfl (lv_at hl 0 rfl) ?_
    refine lv_iload_n hx hb dX10_gets_12 rfl (lv_at hl 1 rfl) ?_
    obtain ⟨l104, m103, cm103, hf⟩ := b2_el (o := f_X10_itsBalance a0 x1 m101) hf
    refine x_callVl (As := [.int x1]) (rest := []) C hl.1 hw cb_X10_200 cv_X10_itsBalance (k_X10_itsBalance hw.2.2.2.2 ta0 cm103) ta0 rfl rfl (by decide) ⟨Nat.le_refl _, Nat.le_refl _⟩ rfl (Nat.le_of_ble_eq_true rfl) dX10_gets_13 (fun H locs hw tl104 => ?_)
    refine lv_lconst hx hb dX10_gets_16 kl_0 ?_
    refine W.lcmp hx hb dX10_gets_17 ?_
    refine lv_if_le (tgt := 25) hx hb dX10_gets_18 (by decide) (fun c => ?_) (fun c => ?_)
    · have hf := ifp hf c
      refine lv_iconst hx hb dX10_gets_25 ki_0 ?_
      exact x_retZ C hr hk (Or.inl rfl) hw  hf (by decide) (by decide) dX10_gets_26
    · have hf := ifn hf c
      refine lv_iconst hx hb dX10_gets_21 ki_1 ?_
      refine lv_goto (tgt := 26) hx hb dX10_gets_22 (by decide) ?_
      exact x_retZ C hr hk (Or.inr rfl) hw  hf (by decide) (by decide) dX10_gets_26
set_option maxHeartbeats 4000000 in
set_option maxRecDepth 100000 in
theorem w_X10_oneHour_h52 {p : Program} {l : Launch} {e : Env} {s : State} {m : MethodId} {args : Array Value} {below : List Frame} {meth : Method} {c : Code} {D : va_G} {E : Nat → ClassId} {tU : Nat} {m0 mE : XMem} (C : Cx p s m args c cX10_oneHour 3 RX10 D E (Am m0) tU) (hr : meth.sig.returnType = ((Option.none : Option FieldType))) (hk : meth.locks = false) (hnm : meth.name = yX10_oneHour.name) {a0 : Nat} {x1 : Int32} (ta0 : mT m0 a0 = some (.inl 10)) {k74 :  XMem → Option (XMem)} (hk74 : ∀  (mu : XMem) (H : Heap) (locs : List Loc) (ls : Array Slot), lv_has ls 3 [] → Wd D E (Am m0) s (mT m0) mu H locs →   k74  mu = some mE → W p l e (rmN 7 0 0) s m args below meth c H locs 0 0 (MQ below (XQ D E (Am m0) (none) mE (mT mE = mT m0 ∧ True)) args s 0 0 (Am m0)) (F0 m 74 ls [])) : ∀ (n : Nat) (x2 : Int32) (mu : XMem) (H : Heap) (locs : List Loc) (ls : Array Slot), lv_has ls 3 [(0, .ref a0), (1, .int x1), (2, .int x2)] → Wd D E (Am m0) s (mT m0) mu H locs → f_X10_oneHour_h52 a0 x1 k74 n x2 mu = some mE → W p l e (rmN 7 0 0) s m args below meth c H locs 0 0 (MQ below (XQ D E (Am m0) (none) mE (mT mE = mT m0 ∧ True)) args s 0 0 (Am m0)) (F0 m 52 ls []) := by
  have hx := C.1
  have hb := C.2.1
  intro n
  induction n with
  | zero =>
    intros
    rename_i hf
    cases hf
  | succ n ih =>
    intro x2 mu H locs ls hl hw hf
    rw [f_X10_oneHour_h52] at hf
    refine lv_iload_n hx hb dX10_oneHour_52 rfl (lv_at hl 2 rfl) ?_
    refine lv_aload_n hx hb dX10_oneHour_53 rfl (lv_at hl 0 rfl) ?_
    obtain ⟨b116, eb116, hf⟩ := fo_el hf
    refine x_getR C hw fa_X10_7 (Or.inr ⟨_, rfl⟩) ta0 eb116 dX10_oneHour_54 (fun tb116 => ?_)
    have tb116 : ∃ n, (mT m0) b116 = some (.inr (0, n)) := tb116
    refine lv_iconst hx hb dX10_oneHour_57 ki_3 ?_
    obtain ⟨g117, hf⟩ := gd_el hf
    refine x_iald C hw tb116 g117 dX10_oneHour_58 ?_
    refine lv_icmp_ge (tgt := 74) hx hb dX10_oneHour_59 (by decide) (fun c => ?_) (fun c => ?_)
    · have hf := ifp hf c
      exact hk74 _ _ _ _ (lv_sub hl [] rfl) hw hf
    · have hf := ifn hf c
      refine lv_aload_n hx hb dX10_oneHour_62 rfl (lv_at hl 0 rfl) ?_
      refine lv_iload_n hx hb dX10_oneHour_63 rfl (lv_at hl 2 rfl) ?_
      refine lv_iload_n hx hb dX10_oneHour_64 rfl (lv_at hl 1 rfl) ?_
      obtain ⟨m118, cm118, hf⟩ := b1_el (o := f_X10_countsHour a0 x2 x1 mu) hf
      refine x_callVv (As := [.int x2, .int x1]) (rest := []) C hl.1 hw cb_X10_107 cv_X10_countsHour (k_X10_countsHour hw.2.2.2.2 ta0 cm118) ta0 rfl rfl (by decide) ⟨Nat.le_refl _, Nat.le_refl _⟩ rfl (Nat.le_of_ble_eq_true rfl) dX10_oneHour_65 (fun H locs hw tm118 => ?_)
      obtain ⟨x119, ex119⟩ : ∃ z : Int32, z = x2 + 1 := ⟨_, rfl⟩
      have hf := nm_el hf ex119
      refine lv_iinc (v := x119) (lv' := [(2, .int x119), (0, .ref a0), (1, .int x1)]) hx hb dX10_oneHour_68 hl (k := 2) rfl (by rw [ex119, ki_1]) (by decide) rfl (fun ls hl => ?_)
      refine lv_goto (tgt := 52) hx hb dX10_oneHour_71 (by decide) ?_
      exact ih _ _ _ _ _ (lv_sub hl [1, 2, 0] rfl) hw hf
set_option maxHeartbeats 4000000 in
set_option maxRecDepth 100000 in
theorem w_X10_oneHour_h9 {p : Program} {l : Launch} {e : Env} {s : State} {m : MethodId} {args : Array Value} {below : List Frame} {meth : Method} {c : Code} {D : va_G} {E : Nat → ClassId} {tU : Nat} {m0 mE : XMem} (C : Cx p s m args c cX10_oneHour 3 RX10 D E (Am m0) tU) (hr : meth.sig.returnType = ((Option.none : Option FieldType))) (hk : meth.locks = false) (hnm : meth.name = yX10_oneHour.name) {a0 : Nat} {x1 : Int32} (ta0 : mT m0 a0 = some (.inl 10)) {k40 :  XMem → Option (XMem)} (hk40 : ∀  (mu : XMem) (H : Heap) (locs : List Loc) (ls : Array Slot), lv_has ls 3 [(0, .ref a0), (1, .int x1)] → Wd D E (Am m0) s (mT m0) mu H locs →   k40  mu = some mE → W p l e (rmN 7 0 0) s m args below meth c H locs 0 0 (MQ below (XQ D E (Am m0) (none) mE (mT mE = mT m0 ∧ True)) args s 0 0 (Am m0)) (F0 m 40 ls [])) : ∀ (n : Nat) (x2 : Int32) (mu : XMem) (H : Heap) (locs : List Loc) (ls : Array Slot), lv_has ls 3 [(0, .ref a0), (1, .int x1), (2, .int x2)] → Wd D E (Am m0) s (mT m0) mu H locs → f_X10_oneHour_h9 a0 x1 k40 n x2 mu = some mE → W p l e (rmN 7 0 0) s m args below meth c H locs 0 0 (MQ below (XQ D E (Am m0) (none) mE (mT mE = mT m0 ∧ True)) args s 0 0 (Am m0)) (F0 m 9 ls []) := by
  have hx := C.1
  have hb := C.2.1
  intro n
  induction n with
  | zero =>
    intros
    rename_i hf
    cases hf
  | succ n ih =>
    intro x2 mu H locs ls hl hw hf
    rw [f_X10_oneHour_h9] at hf
    refine lv_iload_n hx hb dX10_oneHour_9 rfl (lv_at hl 2 rfl) ?_
    refine lv_aload_n hx hb dX10_oneHour_10 rfl (lv_at hl 0 rfl) ?_
    obtain ⟨b110, eb110, hf⟩ := fo_el hf
    refine x_getR C hw fa_X10_7 (Or.inr ⟨_, rfl⟩) ta0 eb110 dX10_oneHour_11 (fun tb110 => ?_)
    have tb110 : ∃ n, (mT m0) b110 = some (.inr (0, n)) := tb110
    refine lv_iconst hx hb dX10_oneHour_14 ki_1 ?_
    obtain ⟨g111, hf⟩ := gd_el hf
    refine x_iald C hw tb110 g111 dX10_oneHour_15 ?_
    refine lv_icmp_ge (tgt := 40) hx hb dX10_oneHour_16 (by decide) (fun c => ?_) (fun c => ?_)
    · have hf := ifp hf c
      exact hk40 _ _ _ _ (lv_sub hl [0, 1] rfl) hw hf
    · have hf := ifn hf c
      refine lv_aload_n hx hb dX10_oneHour_19 rfl (lv_at hl 0 rfl) ?_
      refine lv_iload_n hx hb dX10_oneHour_20 rfl (lv_at hl 2 rfl) ?_
      refine lv_aload_n hx hb dX10_oneHour_21 rfl (lv_at hl 0 rfl) ?_
      obtain ⟨b112, eb112, hf⟩ := fo_el hf
      refine x_getR C hw fa_X10_7 (Or.inr ⟨_, rfl⟩) ta0 eb112 dX10_oneHour_22 (fun tb112 => ?_)
      have tb112 : ∃ n, (mT m0) b112 = some (.inr (0, n)) := tb112
      refine lv_iconst hx hb dX10_oneHour_25 ki_4 ?_
      obtain ⟨g113, hf⟩ := gd_el hf
      refine x_iald C hw tb112 g113 dX10_oneHour_26 ?_
      refine lv_iconst hx hb dX10_oneHour_27 ki_1 ?_
      refine lv_isub hx hb dX10_oneHour_28 ?_
      refine lv_iconst hx hb dX10_oneHour_29 ki_m1 ?_
      refine lv_iload_n hx hb dX10_oneHour_30 rfl (lv_at hl 1 rfl) ?_
      obtain ⟨m114, cm114, hf⟩ := b1_el (o := f_X10_goes a0 x2 ((mI mu b112 (Int32.toNatClampNeg 4)) - 1) (-1) x1 mu) hf
      refine x_callVv (As := [.int x2, .int ((mI mu b112 (Int32.toNatClampNeg 4)) - 1), .int (-1), .int x1]) (rest := []) C hl.1 hw cb_X10_103 cv_X10_goes (k_X10_goes hw.2.2.2.2 ta0 cm114) ta0 rfl rfl (by decide) ⟨Nat.le_refl _, Nat.le_refl _⟩ rfl (Nat.le_of_ble_eq_true rfl) dX10_oneHour_31 (fun H locs hw tm114 => ?_)
      obtain ⟨x115, ex115⟩ : ∃ z : Int32, z = x2 + 1 := ⟨_, rfl⟩
      have hf := nm_el hf ex115
      refine lv_iinc (v := x115) (lv' := [(2, .int x115), (0, .ref a0), (1, .int x1)]) hx hb dX10_oneHour_34 hl (k := 2) rfl (by rw [ex115, ki_1]) (by decide) rfl (fun ls hl => ?_)
      refine lv_goto (tgt := 9) hx hb dX10_oneHour_37 (by decide) ?_
      exact ih _ _ _ _ _ (lv_sub hl [1, 2, 0] rfl) hw hf
set_option maxHeartbeats 4000000 in
set_option maxRecDepth 100000 in
theorem k_X10_oneHour {l : Launch} {D : va_G} {E : Nat → ClassId} {tU : Nat} {τ : Nat → Option XTy} {a0 : Nat} {m0 mE : XMem} (hm : mT m0 = τ) (ta0 : τ a0 = some (.inl 10)) (hf : f_X10_oneHour a0 m0 = some mE) : Ct l yX10_oneHour cX10_oneHour 3 ((Option.none : Option FieldType)) 7 0 0 D E tU [.ref a0] m0 (none) mE (mT mE = mT m0 ∧ True) := by
  subst hm
  refine Ct.of (by decide) (Nat.le_of_ble_eq_true rfl) (fun p e s m below meth c ls C hr hk hnm hl hw => ?_)
  have hx := C.1
  have hb := C.2.1
  have hl : lv_has ls 3 [(0, .ref a0)] := hl
  unfold f_X10_oneHour at hf
  refine lv_aload_n hx hb dX10_oneHour_0 rfl (lv_at hl 0 rfl) ?_
  obtain ⟨b101, eb101, hf⟩ := fo_el hf
  refine x_getR C hw fa_X10_7 (Or.inr ⟨_, rfl⟩) ta0 eb101 dX10_oneHour_1 (fun tb101 => ?_)
  have tb101 : ∃ n, (mT m0) b101 = some (.inr (0, n)) := tb101
  refine lv_iconst hx hb dX10_oneHour_4 ki_0 ?_
  obtain ⟨g102, hf⟩ := gd_el hf
  refine x_iald C hw tb101 g102 dX10_oneHour_5 ?_
  refine lv_topi (fun x103 ex103 => ?_)
  have hf := nm_el hf ex103
  refine lv_istore_n (lv' := [(1, .int x103), (0, .ref a0)]) hx hb dX10_oneHour_6 rfl hl (by decide) rfl (fun ls hl => ?_)
  refine lv_iconst hx hb dX10_oneHour_7 ki_0 ?_
  refine lv_istore_n (lv' := [(2, .int 0), (1, .int x103), (0, .ref a0)]) hx hb dX10_oneHour_8 rfl hl (by decide) rfl (fun ls hl => ?_)
  refine w_X10_oneHour_h9 C hr hk hnm ta0 ?_ 2000 _ _ _ _ _ (lv_sub hl [2, 1, 0] rfl) hw hf
  intro m104 H locs ls hl hw hf
  refine lv_aload_n hx hb dX10_oneHour_40 rfl (lv_at hl 0 rfl) ?_
  obtain ⟨b105, eb105, hf⟩ := fo_el hf
  refine x_getR C hw fa_X10_7 (Or.inr ⟨_, rfl⟩) ta0 eb105 dX10_oneHour_41 (fun tb105 => ?_)
  have tb105 : ∃ n, (mT m0) b105 = some (.inr (0, n)) := tb105
  refine lv_iconst hx hb dX10_oneHour_44 ki_0 ?_
  refine lv_dup2_11 hx hb dX10_oneHour_45 rfl rfl ?_
  obtain ⟨g106, hf⟩ := gd_el hf
  refine x_iald C hw tb105 g106 dX10_oneHour_46 ?_
  refine lv_iconst hx hb dX10_oneHour_47 ki_1 ?_
  refine lv_iadd hx hb dX10_oneHour_48 ?_
  obtain ⟨g107, hf⟩ := gd_el hf
  refine x_iast C hw tb105 g107 dX10_oneHour_49 (fun m108 H locs em108 hw => ?_)
  have hf := nm_el hf em108
  refine lv_iconst hx hb dX10_oneHour_50 ki_0 ?_
  refine lv_istore_n (lv' := [(2, .int 0), (0, .ref a0), (1, .int x103)]) hx hb dX10_oneHour_51 rfl hl (by decide) rfl (fun ls hl => ?_)
  refine w_X10_oneHour_h52 C hr hk hnm ta0 ?_ 2000 _ _ _ _ _ (lv_sub hl [1, 2, 0] rfl) hw hf
  intro m109 H locs ls hl hw hf
  exact x_ret C hr hk hw  hf (by decide) (by decide) dX10_oneHour_74
set_option maxHeartbeats 4000000 in
set_option maxRecDepth 100000 in
theorem w_X10_hours_h40 {p : Program} {l : Launch} {e : Env} {s : State} {m : MethodId} {args : Array Value} {below : List Frame} {meth : Method} {c : Code} {D : va_G} {E : Nat → ClassId} {tU : Nat} {m0 mE : XMem} {rE : Int32} (C : Cx p s m args c cX10_hours 3 RX10 D E (Am m0) tU) (hr : meth.sig.returnType = ((Option.some FieldType.int))) (hk : meth.locks = false) (hnm : meth.name = yX10_hours.name) {a0 : Nat} {x1 : Int32} (ta0 : mT m0 a0 = some (.inl 10)) {k55 :  XMem → Option (Int32 × XMem)} (hk55 : ∀  (mu : XMem) (H : Heap) (locs : List Loc) (ls : Array Slot), lv_has ls 3 [(0, .ref a0)] → Wd D E (Am m0) s (mT m0) mu H locs →   k55  mu = some (rE, mE) → W p l e (rmN 8 0 0) s m args below meth c H locs 0 0 (MQ below (XQ D E (Am m0) (some (.int rE)) mE (mT mE = mT m0 ∧ True)) args s 0 0 (Am m0)) (F0 m 55 ls [])) : ∀ (n : Nat) (x2 : Int32) (mu : XMem) (H : Heap) (locs : List Loc) (ls : Array Slot), lv_has ls 3 [(0, .ref a0), (1, .int x1), (2, .int x2)] → Wd D E (Am m0) s (mT m0) mu H locs → f_X10_hours_h40 a0 x1 k55 n x2 mu = some (rE, mE) → W p l e (rmN 8 0 0) s m args below meth c H locs 0 0 (MQ below (XQ D E (Am m0) (some (.int rE)) mE (mT mE = mT m0 ∧ True)) args s 0 0 (Am m0)) (F0 m 40 ls []) := by
  have hx := C.1
  have hb := C.2.1
  intro n
  induction n with
  | zero =>
    intros
    rename_i hf
    cases hf
  | succ n ih =>
    intro x2 mu H locs ls hl hw hf
    rw [f_X10_hours_h40] at hf
    refine lv_iload_n hx hb dX10_hours_40 rfl (lv_at hl 2 rfl) ?_
    refine lv_iload_n hx hb dX10_hours_41 rfl (lv_at hl 1 rfl) ?_
    refine lv_icmp_ge (tgt := 55) hx hb dX10_hours_42 (by decide) (fun c => ?_) (fun c => ?_)
    · have hf := ifp hf c
      exact hk55 _ _ _ _ (lv_sub hl [0] rfl) hw hf
    · have hf := ifn hf c
      refine lv_aload_n hx hb dX10_hours_45 rfl (lv_at hl 0 rfl) ?_
      obtain ⟨m112, cm112, hf⟩ := b1_el (o := f_X10_oneHour a0 mu) hf
      refine x_callVv (As := []) (rest := []) C hl.1 hw cb_X10_112 cv_X10_oneHour (k_X10_oneHour hw.2.2.2.2 ta0 cm112) ta0 rfl rfl (by decide) ⟨Nat.le_refl _, Nat.le_refl _⟩ rfl (Nat.le_of_ble_eq_true rfl) dX10_hours_46 (fun H locs hw tm112 => ?_)
      obtain ⟨x113, ex113⟩ : ∃ z : Int32, z = x2 + 1 := ⟨_, rfl⟩
      have hf := nm_el hf ex113
      refine lv_iinc (v := x113) (lv' := [(2, .int x113), (0, .ref a0), (1, .int x1)]) hx hb dX10_hours_49 hl (k := 2) rfl (by rw [ex113, ki_1]) (by decide) rfl (fun ls hl => ?_)
      refine lv_goto (tgt := 40) hx hb dX10_hours_52 (by decide) ?_
      exact ih _ _ _ _ _ (lv_sub hl [1, 2, 0] rfl) hw hf
set_option maxHeartbeats 4000000 in
set_option maxRecDepth 100000 in
theorem k_X10_hours {l : Launch} {D : va_G} {E : Nat → ClassId} {tU : Nat} {τ : Nat → Option XTy} {a0 : Nat} {x1 : Int32} {m0 mE : XMem} {rE : Int32} (hm : mT m0 = τ) (ta0 : τ a0 = some (.inl 10)) (hf : f_X10_hours a0 x1 m0 = some (rE, mE)) : Ct l yX10_hours cX10_hours 3 ((Option.some FieldType.int)) 8 0 0 D E tU [.ref a0, .int x1] m0 (some (.int rE)) mE (mT mE = mT m0 ∧ True) := by
  subst hm
  refine Ct.of (by decide) (Nat.le_of_ble_eq_true rfl) (fun p e s m below meth c ls C hr hk hnm hl hw => ?_)
  have hx := C.1
  have hb := C.2.1
  have hl : lv_has ls 3 [(0, .ref a0), (1, .int x1)] := hl
  unfold f_X10_hours at hf
  refine lv_iload_n hx hb dX10_hours_0 rfl (lv_at hl 1 rfl) ?_
  refine lv_iconst hx hb dX10_hours_1 ki_1 ?_
  refine lv_bipush hx hb dX10_hours_2 kb_100 ?_
  obtain ⟨r102, m101, cm101, hf⟩ := b2_el (o := f_X10_within x1 1 100 m0) hf
  refine x_callSi (As := [.int x1, .int 1, .int 100]) (rest := []) C hl.1 hw cb_X10_62 cs_X10_within (k_X10_within hw.2.2.2.2  cm101) rfl (by decide) ⟨Nat.le_refl _, Nat.le_refl _⟩ rfl (Nat.le_of_ble_eq_true rfl) dX10_hours_4 (fun H locs hw tr102 => ?_)
  refine lv_if_ne (tgt := 17) hx hb dX10_hours_7 (by decide) (fun c => ?_) (fun c => ?_)
  · have hf := ifn hf c
    refine lv_aload_n hx hb dX10_hours_17 rfl (lv_at hl 0 rfl) ?_
    obtain ⟨b103, eb103, hf⟩ := fo_el hf
    refine x_getR C hw fa_X10_7 (Or.inr ⟨_, rfl⟩) ta0 eb103 dX10_hours_18 (fun tb103 => ?_)
    have tb103 : ∃ n, (mT m0) b103 = some (.inr (0, n)) := tb103
    refine lv_iconst hx hb dX10_hours_21 ki_0 ?_
    obtain ⟨g104, hf⟩ := gd_el hf
    refine x_iald C hw tb103 g104 dX10_hours_22 ?_
    refine lv_iload_n hx hb dX10_hours_23 rfl (lv_at hl 1 rfl) ?_
    refine lv_iadd hx hb dX10_hours_24 ?_
    refine lv_sipush hx hb dX10_hours_25 ks_2000 ?_
    refine lv_icmp_le (tgt := 38) hx hb dX10_hours_28 (by decide) (fun c => ?_) (fun c => ?_)
    · have hf := ifp hf c
      refine lv_iconst hx hb dX10_hours_38 ki_0 ?_
      refine lv_istore_n (lv' := [(2, .int 0), (0, .ref a0), (1, .int x1)]) hx hb dX10_hours_39 rfl hl (by decide) rfl (fun ls hl => ?_)
      refine w_X10_hours_h40 C hr hk hnm ta0 ?_ 2000 _ _ _ _ _ (lv_sub hl [1, 2, 0] rfl) hw hf
      intro m105 H locs ls hl hw hf
      refine lv_aload_n hx hb dX10_hours_55 rfl (lv_at hl 0 rfl) ?_
      obtain ⟨b106, eb106, hf⟩ := fo_el hf
      refine x_getR C hw fa_X10_7 (Or.inr ⟨_, rfl⟩) ta0 eb106 dX10_hours_56 (fun tb106 => ?_)
      have tb106 : ∃ n, (mT m0) b106 = some (.inr (0, n)) := tb106
      refine lv_iconst hx hb dX10_hours_59 ki_0 ?_
      obtain ⟨g107, hf⟩ := gd_el hf
      refine x_iald C hw tb106 g107 dX10_hours_60 ?_
      exact x_retI C hr hk hw  hf (by decide) (by decide) dX10_hours_61
    · have hf := ifn hf c
      refine lv_aload_n hx hb dX10_hours_31 rfl (lv_at hl 0 rfl) ?_
      refine lv_ldc hx hb C.2.2.2.1 (C.2.2.2.2.1 _ ki_X10_111) dX10_hours_32 ?_
      obtain ⟨r109, m108, cm108, hf⟩ := b2_el (o := f_X10_finds a0 (-1000000005) m101) hf
      refine x_callVi (As := [.int (-1000000005)]) (rest := []) C hl.1 hw cb_X10_67 cv_X10_finds (k_X10_finds hw.2.2.2.2 ta0 cm108) ta0 rfl rfl (by decide) ⟨Nat.le_refl _, Nat.le_refl _⟩ rfl (Nat.le_of_ble_eq_true rfl) dX10_hours_34 (fun H locs hw tr109 => ?_)
      exact x_retI C hr hk hw  hf (by decide) (by decide) dX10_hours_37
  · have hf := ifp hf c
    refine lv_aload_n hx hb dX10_hours_10 rfl (lv_at hl 0 rfl) ?_
    refine lv_ldc hx hb C.2.2.2.1 (C.2.2.2.2.1 _ ki_X10_61) dX10_hours_11 ?_
    obtain ⟨r111, m110, cm110, hf⟩ := b2_el (o := f_X10_finds a0 (-1000000001) m101) hf
    refine x_callVi (As := [.int (-1000000001)]) (rest := []) C hl.1 hw cb_X10_67 cv_X10_finds (k_X10_finds hw.2.2.2.2 ta0 cm110) ta0 rfl rfl (by decide) ⟨Nat.le_refl _, Nat.le_refl _⟩ rfl (Nat.le_of_ble_eq_true rfl) dX10_hours_13 (fun H locs hw tr111 => ?_)
    exact x_retI C hr hk hw  hf (by decide) (by decide) dX10_hours_16
set_option maxHeartbeats 4000000 in
set_option maxRecDepth 100000 in
theorem w_X10_house_h117 {p : Program} {l : Launch} {e : Env} {s : State} {m : MethodId} {args : Array Value} {below : List Frame} {meth : Method} {c : Code} {D : va_G} {E : Nat → ClassId} {tU : Nat} {m0 mE : XMem} {rE : Int32} (C : Cx p s m args c cX10_house 6 RX10 D E (Am m0) tU) (hr : meth.sig.returnType = ((Option.some FieldType.int))) (hk : meth.locks = false) (hnm : meth.name = yX10_house.name) {a0 : Nat} {x1 : Int32} {x2 : Int32} {x4 : Int32} (ta0 : mT m0 a0 = some (.inl 10)) {k139 :  XMem → Option (Int32 × XMem)} (hk139 : ∀  (mu : XMem) (H : Heap) (locs : List Loc) (ls : Array Slot), lv_has ls 6 [(0, .ref a0), (1, .int x1), (2, .int x2), (4, .int x4)] → Wd D E (Am m0) s (mT m0) mu H locs →   k139  mu = some (rE, mE) → W p l e (rmN 3 0 0) s m args below meth c H locs 0 0 (MQ below (XQ D E (Am m0) (some (.int rE)) mE (mT mE = mT m0 ∧ True)) args s 0 0 (Am m0)) (F0 m 139 ls [])) : ∀ (n : Nat) (x5 : Int32) (mu : XMem) (H : Heap) (locs : List Loc) (ls : Array Slot), lv_has ls 6 [(0, .ref a0), (1, .int x1), (2, .int x2), (4, .int x4), (5, .int x5)] → Wd D E (Am m0) s (mT m0) mu H locs → f_X10_house_h117 a0 x1 x2 x4 k139 n x5 mu = some (rE, mE) → W p l e (rmN 3 0 0) s m args below meth c H locs 0 0 (MQ below (XQ D E (Am m0) (some (.int rE)) mE (mT mE = mT m0 ∧ True)) args s 0 0 (Am m0)) (F0 m 117 ls []) := by
  have hx := C.1
  have hb := C.2.1
  intro n
  induction n with
  | zero =>
    intros
    rename_i hf
    cases hf
  | succ n ih =>
    intro x5 mu H locs ls hl hw hf
    rw [f_X10_house_h117] at hf
    refine lv_iload hx hb dX10_house_117 (lv_at hl 4 rfl) ?_
    refine lv_bipush hx hb dX10_house_119 kb_12 ?_
    refine lv_icmp_ge (tgt := 139) hx hb dX10_house_121 (by decide) (fun c => ?_) (fun c => ?_)
    · have hf := ifp hf c
      exact hk139 _ _ _ _ (lv_sub hl [0, 1, 2, 3] rfl) hw hf
    · have hf := ifn hf c
      refine lv_aload_n hx hb dX10_house_124 rfl (lv_at hl 0 rfl) ?_
      refine lv_iload hx hb dX10_house_125 (lv_at hl 3 rfl) ?_
      refine lv_iload hx hb dX10_house_127 (lv_at hl 4 rfl) ?_
      refine lv_iconst hx hb dX10_house_129 ki_0 ?_
      obtain ⟨m132, cm132, hf⟩ := b1_el (o := f_X10_setHouse a0 x4 x5 0 mu) hf
      refine x_callVv (As := [.int x4, .int x5, .int 0]) (rest := []) C hl.1 hw cb_X10_194 cv_X10_setHouse (k_X10_setHouse hw.2.2.2.2 ta0 cm132) ta0 rfl rfl (by decide) ⟨Nat.le_refl _, Nat.le_refl _⟩ rfl (Nat.le_of_ble_eq_true rfl) dX10_house_130 (fun H locs hw tm132 => ?_)
      obtain ⟨x133, ex133⟩ : ∃ z : Int32, z = x5 + 1 := ⟨_, rfl⟩
      have hf := nm_el hf ex133
      refine lv_iinc (v := x133) (lv' := [(5, .int x133), (0, .ref a0), (1, .int x1), (2, .int x2), (4, .int x4)]) hx hb dX10_house_133 hl (k := 4) rfl (by rw [ex133, ki_1]) (by decide) rfl (fun ls hl => ?_)
      refine lv_goto (tgt := 117) hx hb dX10_house_136 (by decide) ?_
      exact ih _ _ _ _ _ (lv_sub hl [1, 2, 3, 4, 0] rfl) hw hf
set_option maxHeartbeats 4000000 in
set_option maxRecDepth 100000 in
theorem w_X10_house_j66 {p : Program} {l : Launch} {e : Env} {s : State} {m : MethodId} {args : Array Value} {below : List Frame} {meth : Method} {c : Code} {D : va_G} {E : Nat → ClassId} {tU : Nat} {m0 mE : XMem} {rE : Int32} (C : Cx p s m args c cX10_house 6 RX10 D E (Am m0) tU) (hr : meth.sig.returnType = ((Option.some FieldType.int))) (hk : meth.locks = false) (hnm : meth.name = yX10_house.name) {a0 : Nat} {x1 : Int32} {x2 : Int32} {xs0 : Int32} {mu : XMem} {H : Heap} {locs : List Loc} {ls : Array Slot} (ta0 : mT m0 a0 = some (.inl 10)) (hl : lv_has ls 6 [(0, .ref a0), (1, .int x1), (2, .int x2)]) (hw : Wd D E (Am m0) s (mT m0) mu H locs) (hf : f_X10_house_j66 a0 x1 x2 xs0 mu = some (rE, mE)) : W p l e (rmN 3 0 0) s m args below meth c H locs 0 0 (MQ below (XQ D E (Am m0) (some (.int rE)) mE (mT mE = mT m0 ∧ True)) args s 0 0 (Am m0)) (F0 m 66 ls [.int xs0]) := by
  have hx := C.1
  have hb := C.2.1
  unfold f_X10_house_j66 at hf
  refine lv_istore_n (lv' := [(3, .int xs0), (0, .ref a0), (1, .int x1), (2, .int x2)]) hx hb dX10_house_66 rfl hl (by decide) rfl (fun ls hl => ?_)
  refine lv_iload_n hx hb dX10_house_67 rfl (lv_at hl 0 rfl) ?_
  refine lv_if_ne (tgt := 78) hx hb dX10_house_68 (by decide) (fun c => ?_) (fun c => ?_)
  · have hf := ifn hf c
    refine lv_aload_n hx hb dX10_house_78 rfl (lv_at hl 1 rfl) ?_
    obtain ⟨b107, eb107, hf⟩ := fo_el hf
    refine x_getR C hw fa_X10_7 (Or.inr ⟨_, rfl⟩) ta0 eb107 dX10_house_79 (fun tb107 => ?_)
    have tb107 : ∃ n, (mT m0) b107 = some (.inr (0, n)) := tb107
    refine lv_iconst hx hb dX10_house_82 ki_3 ?_
    obtain ⟨g108, hf⟩ := gd_el hf
    refine x_iald C hw tb107 g108 dX10_house_83 ?_
    refine lv_bipush hx hb dX10_house_84 kb_8 ?_
    refine lv_icmp_ne (tgt := 96) hx hb dX10_house_86 (by decide) (fun c => ?_) (fun c => ?_)
    · have hf := ifn hf c
      refine lv_aload_n hx hb dX10_house_96 rfl (lv_at hl 1 rfl) ?_
      obtain ⟨b109, eb109, hf⟩ := fo_el hf
      refine x_getR C hw fa_X10_7 (Or.inr ⟨_, rfl⟩) ta0 eb109 dX10_house_97 (fun tb109 => ?_)
      have tb109 : ∃ n, (mT m0) b109 = some (.inr (0, n)) := tb109
      refine lv_iconst hx hb dX10_house_100 ki_3 ?_
      obtain ⟨g110, hf⟩ := gd_el hf
      refine x_iald C hw tb109 g110 dX10_house_101 ?_
      refine lv_topi (fun x111 ex111 => ?_)
      have hf := nm_el hf ex111
      refine lv_istore (lv' := [(4, .int x111), (3, .int xs0), (0, .ref a0), (1, .int x1), (2, .int x2)]) hx hb dX10_house_102 hl (by decide) rfl (fun ls hl => ?_)
      refine lv_aload_n hx hb dX10_house_104 rfl (lv_at hl 2 rfl) ?_
      obtain ⟨b112, eb112, hf⟩ := fo_el hf
      refine x_getR C hw fa_X10_7 (Or.inr ⟨_, rfl⟩) ta0 eb112 dX10_house_105 (fun tb112 => ?_)
      have tb112 : ∃ n, (mT m0) b112 = some (.inr (0, n)) := tb112
      refine lv_iconst hx hb dX10_house_108 ki_3 ?_
      refine lv_dup2_11 hx hb dX10_house_109 rfl rfl ?_
      obtain ⟨g113, hf⟩ := gd_el hf
      refine x_iald C hw tb112 g113 dX10_house_110 ?_
      refine lv_iconst hx hb dX10_house_111 ki_1 ?_
      refine lv_iadd hx hb dX10_house_112 ?_
      obtain ⟨g114, hf⟩ := gd_el hf
      refine x_iast C hw tb112 g114 dX10_house_113 (fun m115 H locs em115 hw => ?_)
      have hf := nm_el hf em115
      refine lv_iconst hx hb dX10_house_114 ki_0 ?_
      refine lv_istore (lv' := [(5, .int 0), (4, .int x111), (3, .int xs0), (0, .ref a0), (1, .int x1), (2, .int x2)]) hx hb dX10_house_115 hl (by decide) rfl (fun ls hl => ?_)
      refine w_X10_house_h117 C hr hk hnm ta0 ?_ 2000 _ _ _ _ _ (lv_sub hl [3, 4, 5, 1, 0] rfl) hw hf
      intro m116 H locs ls hl hw hf
      refine lv_aload_n hx hb dX10_house_139 rfl (lv_at hl 0 rfl) ?_
      refine lv_iload hx hb dX10_house_140 (lv_at hl 3 rfl) ?_
      refine lv_iconst hx hb dX10_house_142 ki_0 ?_
      refine lv_iload_n hx hb dX10_house_143 rfl (lv_at hl 1 rfl) ?_
      refine lv_bipush hx hb dX10_house_144 kb_10 ?_
      refine lv_irem hx hb dX10_house_146 (by decide) ?_
      obtain ⟨m117, cm117, hf⟩ := b1_el (o := f_X10_setHouse a0 x111 0 (x1 - x1 / 10 * 10) m116) hf
      refine x_callVv (As := [.int x111, .int 0, .int (x1 - x1 / 10 * 10)]) (rest := []) C hl.1 hw cb_X10_194 cv_X10_setHouse (k_X10_setHouse hw.2.2.2.2 ta0 cm117) ta0 rfl rfl (by decide) ⟨Nat.le_refl _, Nat.le_refl _⟩ rfl (Nat.le_of_ble_eq_true rfl) dX10_house_147 (fun H locs hw tm117 => ?_)
      refine lv_aload_n hx hb dX10_house_150 rfl (lv_at hl 0 rfl) ?_
      refine lv_iload hx hb dX10_house_151 (lv_at hl 3 rfl) ?_
      refine lv_iconst hx hb dX10_house_153 ki_1 ?_
      refine lv_iload_n hx hb dX10_house_154 rfl (lv_at hl 1 rfl) ?_
      refine lv_sipush hx hb dX10_house_155 ks_1000 ?_
      refine lv_idiv hx hb dX10_house_158 (by decide) ?_
      obtain ⟨m118, cm118, hf⟩ := b1_el (o := f_X10_setHouse a0 x111 1 (x1 / 1000) m117) hf
      refine x_callVv (As := [.int x111, .int 1, .int (x1 / 1000)]) (rest := []) C hl.1 hw cb_X10_194 cv_X10_setHouse (k_X10_setHouse hw.2.2.2.2 ta0 cm118) ta0 rfl rfl (by decide) ⟨Nat.le_refl _, Nat.le_refl _⟩ rfl (Nat.le_of_ble_eq_true rfl) dX10_house_159 (fun H locs hw tm118 => ?_)
      refine lv_aload_n hx hb dX10_house_162 rfl (lv_at hl 0 rfl) ?_
      refine lv_iload hx hb dX10_house_163 (lv_at hl 3 rfl) ?_
      refine lv_iconst hx hb dX10_house_165 ki_2 ?_
      refine lv_iload_n hx hb dX10_house_166 rfl (lv_at hl 1 rfl) ?_
      refine lv_bipush hx hb dX10_house_167 kb_100 ?_
      refine lv_idiv hx hb dX10_house_169 (by decide) ?_
      refine lv_bipush hx hb dX10_house_170 kb_10 ?_
      refine lv_irem hx hb dX10_house_172 (by decide) ?_
      obtain ⟨m119, cm119, hf⟩ := b1_el (o := f_X10_setHouse a0 x111 2 ((x1 / 100) - (x1 / 100) / 10 * 10) m118) hf
      refine x_callVv (As := [.int x111, .int 2, .int ((x1 / 100) - (x1 / 100) / 10 * 10)]) (rest := []) C hl.1 hw cb_X10_194 cv_X10_setHouse (k_X10_setHouse hw.2.2.2.2 ta0 cm119) ta0 rfl rfl (by decide) ⟨Nat.le_refl _, Nat.le_refl _⟩ rfl (Nat.le_of_ble_eq_true rfl) dX10_house_173 (fun H locs hw tm119 => ?_)
      refine lv_aload_n hx hb dX10_house_176 rfl (lv_at hl 0 rfl) ?_
      refine lv_iload hx hb dX10_house_177 (lv_at hl 3 rfl) ?_
      refine lv_iconst hx hb dX10_house_179 ki_3 ?_
      refine lv_iload_n hx hb dX10_house_180 rfl (lv_at hl 1 rfl) ?_
      refine lv_bipush hx hb dX10_house_181 kb_10 ?_
      refine lv_idiv hx hb dX10_house_183 (by decide) ?_
      refine lv_bipush hx hb dX10_house_184 kb_10 ?_
      refine lv_irem hx hb dX10_house_186 (by decide) ?_
      obtain ⟨m120, cm120, hf⟩ := b1_el (o := f_X10_setHouse a0 x111 3 ((x1 / 10) - (x1 / 10) / 10 * 10) m119) hf
      refine x_callVv (As := [.int x111, .int 3, .int ((x1 / 10) - (x1 / 10) / 10 * 10)]) (rest := []) C hl.1 hw cb_X10_194 cv_X10_setHouse (k_X10_setHouse hw.2.2.2.2 ta0 cm120) ta0 rfl rfl (by decide) ⟨Nat.le_refl _, Nat.le_refl _⟩ rfl (Nat.le_of_ble_eq_true rfl) dX10_house_187 (fun H locs hw tm120 => ?_)
      refine lv_aload_n hx hb dX10_house_190 rfl (lv_at hl 0 rfl) ?_
      refine lv_iload hx hb dX10_house_191 (lv_at hl 3 rfl) ?_
      refine lv_iconst hx hb dX10_house_193 ki_4 ?_
      refine lv_iload_n hx hb dX10_house_194 rfl (lv_at hl 2 rfl) ?_
      obtain ⟨m121, cm121, hf⟩ := b1_el (o := f_X10_setHouse a0 x111 4 x2 m120) hf
      refine x_callVv (As := [.int x111, .int 4, .int x2]) (rest := []) C hl.1 hw cb_X10_194 cv_X10_setHouse (k_X10_setHouse hw.2.2.2.2 ta0 cm121) ta0 rfl rfl (by decide) ⟨Nat.le_refl _, Nat.le_refl _⟩ rfl (Nat.le_of_ble_eq_true rfl) dX10_house_195 (fun H locs hw tm121 => ?_)
      refine lv_aload_n hx hb dX10_house_198 rfl (lv_at hl 0 rfl) ?_
      obtain ⟨b122, eb122, hf⟩ := fo_el hf
      refine x_getR C hw fa_X10_16 (Or.inr ⟨_, rfl⟩) ta0 eb122 dX10_house_199 (fun tb122 => ?_)
      have tb122 : ∃ n, (mT m0) b122 = some (.inr (2, n)) := tb122
      refine lv_iconst hx hb dX10_house_202 ki_2 ?_
      refine lv_iload hx hb dX10_house_203 (lv_at hl 3 rfl) ?_
      refine lv_imul hx hb dX10_house_205 ?_
      refine lv_lconst hx hb dX10_house_206 kl_0 ?_
      obtain ⟨g123, hf⟩ := gd_el hf
      refine x_last C hw tb122 g123 dX10_house_207 (fun m124 H locs em124 hw => ?_)
      have hf := nm_el hf em124
      refine lv_aload_n hx hb dX10_house_208 rfl (lv_at hl 0 rfl) ?_
      obtain ⟨b125, eb125, hf⟩ := fo_el hf
      refine x_getR C hw fa_X10_16 (Or.inr ⟨_, rfl⟩) ta0 eb125 dX10_house_209 (fun tb125 => ?_)
      have tb125 : ∃ n, (mT m0) b125 = some (.inr (2, n)) := tb125
      refine lv_iconst hx hb dX10_house_212 ki_2 ?_
      refine lv_iload hx hb dX10_house_213 (lv_at hl 3 rfl) ?_
      refine lv_imul hx hb dX10_house_215 ?_
      refine lv_iconst hx hb dX10_house_216 ki_1 ?_
      refine lv_iadd hx hb dX10_house_217 ?_
      refine lv_lconst hx hb dX10_house_218 kl_0 ?_
      obtain ⟨g126, hf⟩ := gd_el hf
      refine x_last C hw tb125 g126 dX10_house_219 (fun m127 H locs em127 hw => ?_)
      have hf := nm_el hf em127
      refine lv_iload hx hb dX10_house_220 (lv_at hl 3 rfl) ?_
      exact x_retI C hr hk hw  hf (by decide) (by decide) dX10_house_222
    · have hf := ifp hf c
      refine lv_aload_n hx hb dX10_house_89 rfl (lv_at hl 1 rfl) ?_
      refine lv_ldc hx hb C.2.2.2.1 (C.2.2.2.2.1 _ ki_X10_71) dX10_house_90 ?_
      obtain ⟨r129, m128, cm128, hf⟩ := b2_el (o := f_X10_finds a0 (-1000000002) mu) hf
      refine x_callVi (As := [.int (-1000000002)]) (rest := []) C hl.1 hw cb_X10_67 cv_X10_finds (k_X10_finds hw.2.2.2.2 ta0 cm128) ta0 rfl rfl (by decide) ⟨Nat.le_refl _, Nat.le_refl _⟩ rfl (Nat.le_of_ble_eq_true rfl) dX10_house_92 (fun H locs hw tr129 => ?_)
      exact x_retI C hr hk hw  hf (by decide) (by decide) dX10_house_95
  · have hf := ifp hf c
    refine lv_aload_n hx hb dX10_house_71 rfl (lv_at hl 1 rfl) ?_
    refine lv_ldc hx hb C.2.2.2.1 (C.2.2.2.2.1 _ ki_X10_61) dX10_house_72 ?_
    obtain ⟨r131, m130, cm130, hf⟩ := b2_el (o := f_X10_finds a0 (-1000000001) mu) hf
    refine x_callVi (As := [.int (-1000000001)]) (rest := []) C hl.1 hw cb_X10_67 cv_X10_finds (k_X10_finds hw.2.2.2.2 ta0 cm130) ta0 rfl rfl (by decide) ⟨Nat.le_refl _, Nat.le_refl _⟩ rfl (Nat.le_of_ble_eq_true rfl) dX10_house_74 (fun H locs hw tr131 => ?_)
    exact x_retI C hr hk hw  hf (by decide) (by decide) dX10_house_77
set_option maxHeartbeats 4000000 in
set_option maxRecDepth 100000 in
theorem w_X10_house_j65 {p : Program} {l : Launch} {e : Env} {s : State} {m : MethodId} {args : Array Value} {below : List Frame} {meth : Method} {c : Code} {D : va_G} {E : Nat → ClassId} {tU : Nat} {m0 mE : XMem} {rE : Int32} (C : Cx p s m args c cX10_house 6 RX10 D E (Am m0) tU) (hr : meth.sig.returnType = ((Option.some FieldType.int))) (hk : meth.locks = false) (hnm : meth.name = yX10_house.name) {a0 : Nat} {x1 : Int32} {x2 : Int32} {mu : XMem} {H : Heap} {locs : List Loc} {ls : Array Slot} (ta0 : mT m0 a0 = some (.inl 10)) (hl : lv_has ls 6 [(0, .ref a0), (1, .int x1), (2, .int x2)]) (hw : Wd D E (Am m0) s (mT m0) mu H locs) (hf : f_X10_house_j65 a0 x1 x2 mu = some (rE, mE)) : W p l e (rmN 3 0 0) s m args below meth c H locs 0 0 (MQ below (XQ D E (Am m0) (some (.int rE)) mE (mT mE = mT m0 ∧ True)) args s 0 0 (Am m0)) (F0 m 65 ls []) := by
  have hx := C.1
  have hb := C.2.1
  unfold f_X10_house_j65 at hf
  refine lv_iconst hx hb dX10_house_65 ki_0 ?_
  exact w_X10_house_j66 C hr hk hnm ta0 (lv_sub hl [0, 1, 2] rfl) hw hf
set_option maxHeartbeats 4000000 in
set_option maxRecDepth 100000 in
theorem k_X10_house {l : Launch} {D : va_G} {E : Nat → ClassId} {tU : Nat} {τ : Nat → Option XTy} {a0 : Nat} {x1 : Int32} {x2 : Int32} {m0 mE : XMem} {rE : Int32} (hm : mT m0 = τ) (ta0 : τ a0 = some (.inl 10)) (hf : f_X10_house a0 x1 x2 m0 = some (rE, mE)) : Ct l yX10_house cX10_house 6 ((Option.some FieldType.int)) 3 0 0 D E tU [.ref a0, .int x1, .int x2] m0 (some (.int rE)) mE (mT mE = mT m0 ∧ True) := by
  subst hm
  refine Ct.of (by decide) (Nat.le_of_ble_eq_true rfl) (fun p e s m below meth c ls C hr hk hnm hl hw => ?_)
  have hx := C.1
  have hb := C.2.1
  have hl : lv_has ls 6 [(0, .ref a0), (1, .int x1), (2, .int x2)] := hl
  unfold f_X10_house at hf
  refine lv_iload_n hx hb dX10_house_0 rfl (lv_at hl 1 rfl) ?_
  refine lv_if_lt (tgt := 65) hx hb dX10_house_1 (by decide) (fun c => ?_) (fun c => ?_)
  · have hf := ifp hf c
    exact w_X10_house_j65 C hr hk hnm ta0 (lv_sub hl [0, 1, 2] rfl) hw hf
  · have hf := ifn hf c
    refine lv_iload_n hx hb dX10_house_4 rfl (lv_at hl 1 rfl) ?_
    refine lv_sipush hx hb dX10_house_5 ks_1000 ?_
    refine lv_idiv hx hb dX10_house_8 (by decide) ?_
    refine lv_iconst hx hb dX10_house_9 ki_1 ?_
    refine lv_bipush hx hb dX10_house_10 kb_99 ?_
    obtain ⟨r102, m101, cm101, hf⟩ := b2_el (o := f_X10_within (x1 / 1000) 1 99 m0) hf
    refine x_callSi (As := [.int (x1 / 1000), .int 1, .int 99]) (rest := []) C hl.1 hw cb_X10_62 cs_X10_within (k_X10_within hw.2.2.2.2  cm101) rfl (by decide) ⟨Nat.le_refl _, Nat.le_refl _⟩ rfl (Nat.le_of_ble_eq_true rfl) dX10_house_12 (fun H locs hw tr102 => ?_)
    refine lv_if_eq (tgt := 65) hx hb dX10_house_15 (by decide) (fun c => ?_) (fun c => ?_)
    · have hf := ifp hf c
      exact w_X10_house_j65 C hr hk hnm ta0 (lv_sub hl [0, 1, 2] rfl) hw hf
    · have hf := ifn hf c
      refine lv_iload_n hx hb dX10_house_18 rfl (lv_at hl 1 rfl) ?_
      refine lv_bipush hx hb dX10_house_19 kb_100 ?_
      refine lv_idiv hx hb dX10_house_21 (by decide) ?_
      refine lv_bipush hx hb dX10_house_22 kb_10 ?_
      refine lv_irem hx hb dX10_house_24 (by decide) ?_
      refine lv_iconst hx hb dX10_house_25 ki_2 ?_
      refine lv_icmp_ge (tgt := 65) hx hb dX10_house_26 (by decide) (fun c => ?_) (fun c => ?_)
      · have hf := ifp hf c
        exact w_X10_house_j65 C hr hk hnm ta0 (lv_sub hl [0, 1, 2] rfl) hw hf
      · have hf := ifn hf c
        refine lv_iload_n hx hb dX10_house_29 rfl (lv_at hl 1 rfl) ?_
        refine lv_bipush hx hb dX10_house_30 kb_10 ?_
        refine lv_idiv hx hb dX10_house_32 (by decide) ?_
        refine lv_bipush hx hb dX10_house_33 kb_10 ?_
        refine lv_irem hx hb dX10_house_35 (by decide) ?_
        refine lv_iconst hx hb dX10_house_36 ki_2 ?_
        refine lv_icmp_ge (tgt := 65) hx hb dX10_house_37 (by decide) (fun c => ?_) (fun c => ?_)
        · have hf := ifp hf c
          exact w_X10_house_j65 C hr hk hnm ta0 (lv_sub hl [0, 1, 2] rfl) hw hf
        · have hf := ifn hf c
          refine lv_aload_n hx hb dX10_house_40 rfl (lv_at hl 0 rfl) ?_
          refine lv_iload_n hx hb dX10_house_41 rfl (lv_at hl 1 rfl) ?_
          refine lv_bipush hx hb dX10_house_42 kb_10 ?_
          refine lv_irem hx hb dX10_house_44 (by decide) ?_
          obtain ⟨r104, m103, cm103, hf⟩ := b2_el (o := f_X10_isCell a0 (x1 - x1 / 10 * 10) m101) hf
          refine x_callVi (As := [.int (x1 - x1 / 10 * 10)]) (rest := []) C hl.1 hw cb_X10_76 cv_X10_isCell (k_X10_isCell hw.2.2.2.2 ta0 cm103) ta0 rfl rfl (by decide) ⟨Nat.le_refl _, Nat.le_refl _⟩ rfl (Nat.le_of_ble_eq_true rfl) dX10_house_45 (fun H locs hw tr104 => ?_)
          refine lv_if_eq (tgt := 65) hx hb dX10_house_48 (by decide) (fun c => ?_) (fun c => ?_)
          · have hf := ifp hf c
            exact w_X10_house_j65 C hr hk hnm ta0 (lv_sub hl [0, 1, 2] rfl) hw hf
          · have hf := ifn hf c
            refine lv_iload_n hx hb dX10_house_51 rfl (lv_at hl 2 rfl) ?_
            refine lv_iconst hx hb dX10_house_52 ki_1 ?_
            refine lv_ldc hx hb C.2.2.2.1 (C.2.2.2.2.1 _ ki_X10_193) dX10_house_53 ?_
            obtain ⟨r106, m105, cm105, hf⟩ := b2_el (o := f_X10_within x2 1 99999 m103) hf
            refine x_callSi (As := [.int x2, .int 1, .int 99999]) (rest := []) C hl.1 hw cb_X10_62 cs_X10_within (k_X10_within hw.2.2.2.2  cm105) rfl (by decide) ⟨Nat.le_refl _, Nat.le_refl _⟩ rfl (Nat.le_of_ble_eq_true rfl) dX10_house_55 (fun H locs hw tr106 => ?_)
            refine lv_if_eq (tgt := 65) hx hb dX10_house_58 (by decide) (fun c => ?_) (fun c => ?_)
            · have hf := ifp hf c
              exact w_X10_house_j65 C hr hk hnm ta0 (lv_sub hl [0, 1, 2] rfl) hw hf
            · have hf := ifn hf c
              refine lv_iconst hx hb dX10_house_61 ki_1 ?_
              refine lv_goto (tgt := 66) hx hb dX10_house_62 (by decide) ?_
              exact w_X10_house_j66 C hr hk hnm ta0 (lv_sub hl [0, 1, 2] rfl) hw hf
set_option maxHeartbeats 4000000 in
set_option maxRecDepth 100000 in
theorem k_X10_houseOf {l : Launch} {D : va_G} {E : Nat → ClassId} {tU : Nat} {τ : Nat → Option XTy} {a0 : Nat} {x1 : Int32} {x2 : Int32} {m0 mE : XMem} {rE : Int64} (hm : mT m0 = τ) (ta0 : τ a0 = some (.inl 10)) (hf : f_X10_houseOf a0 x1 x2 m0 = some (rE, mE)) : Ct l yX10_houseOf cX10_houseOf 7 ((Option.some FieldType.long)) 3 0 0 D E tU [.ref a0, .int x1, .int x2] m0 (some (.long rE)) mE (mT mE = mT m0 ∧ True) := by
  subst hm
  refine Ct.of (by decide) (Nat.le_of_ble_eq_true rfl) (fun p e s m below meth c ls C hr hk hnm hl hw => ?_)
  have hx := C.1
  have hb := C.2.1
  have hl : lv_has ls 7 [(0, .ref a0), (1, .int x1), (2, .int x2)] := hl
  unfold f_X10_houseOf at hf
  refine lv_aload_n hx hb dX10_houseOf_0 rfl (lv_at hl 0 rfl) ?_
  refine lv_iload_n hx hb dX10_houseOf_1 rfl (lv_at hl 1 rfl) ?_
  obtain ⟨r102, m101, cm101, hf⟩ := b2_el (o := f_X10_isHouse a0 x1 m0) hf
  refine x_callVi (As := [.int x1]) (rest := []) C hl.1 hw cb_X10_204 cv_X10_isHouse (k_X10_isHouse hw.2.2.2.2 ta0 cm101) ta0 rfl rfl (by decide) ⟨Nat.le_refl _, Nat.le_refl _⟩ rfl (Nat.le_of_ble_eq_true rfl) dX10_houseOf_2 (fun H locs hw tr102 => ?_)
  refine lv_if_eq (tgt := 18) hx hb dX10_houseOf_5 (by decide) (fun c => ?_) (fun c => ?_)
  · have hf := ifp hf c
    refine lv_aload_n hx hb dX10_houseOf_18 rfl (lv_at hl 0 rfl) ?_
    refine lv_ldc hx hb C.2.2.2.1 (C.2.2.2.2.1 _ ki_X10_61) dX10_houseOf_19 ?_
    obtain ⟨r104, m103, cm103, hf⟩ := b2_el (o := f_X10_finds a0 (-1000000001) m101) hf
    refine x_callVi (As := [.int (-1000000001)]) (rest := []) C hl.1 hw cb_X10_67 cv_X10_finds (k_X10_finds hw.2.2.2.2 ta0 cm103) ta0 rfl rfl (by decide) ⟨Nat.le_refl _, Nat.le_refl _⟩ rfl (Nat.le_of_ble_eq_true rfl) dX10_houseOf_21 (fun H locs hw tr104 => ?_)
    refine lv_i2l (v := (Int32.toInt64 r104)) hx hb dX10_houseOf_24 rfl ?_
    exact x_retL C hr hk hw  hf (by decide) (by decide) dX10_houseOf_25
  · have hf := ifn hf c
    refine lv_iload_n hx hb dX10_houseOf_8 rfl (lv_at hl 2 rfl) ?_
    refine lv_iconst hx hb dX10_houseOf_9 ki_0 ?_
    refine lv_bipush hx hb dX10_houseOf_10 kb_9 ?_
    obtain ⟨r106, m105, cm105, hf⟩ := b2_el (o := f_X10_within x2 0 9 m101) hf
    refine x_callSi (As := [.int x2, .int 0, .int 9]) (rest := []) C hl.1 hw cb_X10_62 cs_X10_within (k_X10_within hw.2.2.2.2  cm105) rfl (by decide) ⟨Nat.le_refl _, Nat.le_refl _⟩ rfl (Nat.le_of_ble_eq_true rfl) dX10_houseOf_12 (fun H locs hw tr106 => ?_)
    refine lv_if_ne (tgt := 26) hx hb dX10_houseOf_15 (by decide) (fun c => ?_) (fun c => ?_)
    · have hf := ifn hf c
      refine lv_aload_n hx hb dX10_houseOf_26 rfl (lv_at hl 0 rfl) ?_
      obtain ⟨b107, eb107, hf⟩ := fo_el hf
      refine x_getR C hw fa_X10_16 (Or.inr ⟨_, rfl⟩) ta0 eb107 dX10_houseOf_27 (fun tb107 => ?_)
      have tb107 : ∃ n, (mT m0) b107 = some (.inr (2, n)) := tb107
      refine lv_iconst hx hb dX10_houseOf_30 ki_2 ?_
      refine lv_iload_n hx hb dX10_houseOf_31 rfl (lv_at hl 1 rfl) ?_
      refine lv_imul hx hb dX10_houseOf_32 ?_
      obtain ⟨g108, hf⟩ := gd_el hf
      refine x_lald C hw tb107 g108 dX10_houseOf_33 ?_
      refine lv_topl (fun l109 el109 => ?_)
      have hf := nm_el hf el109
      refine lv_lstore_n (lv' := [(3, .long l109), (0, .ref a0), (1, .int x1), (2, .int x2)]) hx hb dX10_houseOf_34 rfl hl (by decide) rfl (fun ls hl => ?_)
      refine lv_aload_n hx hb dX10_houseOf_35 rfl (lv_at hl 1 rfl) ?_
      obtain ⟨b110, eb110, hf⟩ := fo_el hf
      refine x_getR C hw fa_X10_16 (Or.inr ⟨_, rfl⟩) ta0 eb110 dX10_houseOf_36 (fun tb110 => ?_)
      have tb110 : ∃ n, (mT m0) b110 = some (.inr (2, n)) := tb110
      refine lv_iconst hx hb dX10_houseOf_39 ki_2 ?_
      refine lv_iload_n hx hb dX10_houseOf_40 rfl (lv_at hl 2 rfl) ?_
      refine lv_imul hx hb dX10_houseOf_41 ?_
      refine lv_iconst hx hb dX10_houseOf_42 ki_1 ?_
      refine lv_iadd hx hb dX10_houseOf_43 ?_
      obtain ⟨g111, hf⟩ := gd_el hf
      refine x_lald C hw tb110 g111 dX10_houseOf_44 ?_
      refine lv_topl (fun l112 el112 => ?_)
      have hf := nm_el hf el112
      refine lv_lstore (lv' := [(5, .long l112), (3, .long l109), (0, .ref a0), (1, .int x1), (2, .int x2)]) hx hb dX10_houseOf_45 hl (by decide) rfl (fun ls hl => ?_)
      refine lv_iload_n hx hb dX10_houseOf_47 rfl (lv_at hl 4 rfl) ?_
      by_cases c113 : x2 = 6
      · have hf := ifp hf c113
        refine lv_tableIn (off := 32) (tgt := 80) hx hb dX10_houseOf_48 (by rw [c113]; decide) (by rw [c113]; decide) (by rw [c113]; try rfl) (by decide) ?_
        refine lv_aload_n hx hb dX10_houseOf_80 rfl (lv_at hl 2 rfl) ?_
        refine lv_iload_n hx hb dX10_houseOf_81 rfl (lv_at hl 3 rfl) ?_
        obtain ⟨l115, m114, cm114, hf⟩ := b2_el (o := f_X10_itsBalance a0 x1 m105) hf
        refine x_callVl (As := [.int x1]) (rest := []) C hl.1 hw cb_X10_200 cv_X10_itsBalance (k_X10_itsBalance hw.2.2.2.2 ta0 cm114) ta0 rfl rfl (by decide) ⟨Nat.le_refl _, Nat.le_refl _⟩ rfl (Nat.le_of_ble_eq_true rfl) dX10_houseOf_82 (fun H locs hw tl115 => ?_)
        exact x_retL C hr hk hw  hf (by decide) (by decide) dX10_houseOf_85
      · have hf := ifn hf c113
        by_cases c116 : x2 = 7
        · have hf := ifp hf c116
          refine lv_tableIn (off := 38) (tgt := 86) hx hb dX10_houseOf_48 (by rw [c116]; decide) (by rw [c116]; decide) (by rw [c116]; try rfl) (by decide) ?_
          refine lv_lload_n hx hb dX10_houseOf_86 rfl (lv_at hl 1 rfl) ?_
          refine lv_lload hx hb dX10_houseOf_87 (lv_at hl 0 rfl) ?_
          refine W.lcmp hx hb dX10_houseOf_89 ?_
          refine lv_if_ge (tgt := 97) hx hb dX10_houseOf_90 (by decide) (fun c => ?_) (fun c => ?_)
          · have hf := ifp hf c
            refine lv_lload hx hb dX10_houseOf_97 (lv_at hl 0 rfl) ?_
            exact x_retL C hr hk hw  hf (by decide) (by decide) dX10_houseOf_99
          · have hf := ifn hf c
            refine lv_lload_n hx hb dX10_houseOf_93 rfl (lv_at hl 1 rfl) ?_
            refine lv_goto (tgt := 99) hx hb dX10_houseOf_94 (by decide) ?_
            exact x_retL C hr hk hw  hf (by decide) (by decide) dX10_houseOf_99
        · have hf := ifn hf c116
          by_cases c117 : x2 = 8
          · have hf := ifp hf c117
            refine lv_tableIn (off := 52) (tgt := 100) hx hb dX10_houseOf_48 (by rw [c117]; decide) (by rw [c117]; decide) (by rw [c117]; try rfl) (by decide) ?_
            refine lv_lload_n hx hb dX10_houseOf_100 rfl (lv_at hl 1 rfl) ?_
            refine lv_lload hx hb dX10_houseOf_101 (lv_at hl 0 rfl) ?_
            refine W.lcmp hx hb dX10_houseOf_103 ?_
            refine lv_if_ge (tgt := 112) hx hb dX10_houseOf_104 (by decide) (fun c => ?_) (fun c => ?_)
            · have hf := ifp hf c
              refine lv_lload_n hx hb dX10_houseOf_112 rfl (lv_at hl 1 rfl) ?_
              exact x_retL C hr hk hw  hf (by decide) (by decide) dX10_houseOf_113
            · have hf := ifn hf c
              refine lv_lload hx hb dX10_houseOf_107 (lv_at hl 0 rfl) ?_
              refine lv_goto (tgt := 113) hx hb dX10_houseOf_109 (by decide) ?_
              exact x_retL C hr hk hw  hf (by decide) (by decide) dX10_houseOf_113
          · have hf := ifn hf c117
            by_cases c118 : x2 = 9
            · have hf := ifp hf c118
              refine lv_tableIn (off := 66) (tgt := 114) hx hb dX10_houseOf_48 (by rw [c118]; decide) (by rw [c118]; decide) (by rw [c118]; try rfl) (by decide) ?_
              refine lv_aload_n hx hb dX10_houseOf_114 rfl (lv_at hl 2 rfl) ?_
              refine lv_iload_n hx hb dX10_houseOf_115 rfl (lv_at hl 3 rfl) ?_
              refine lv_bipush hx hb dX10_houseOf_116 kb_6 ?_
              obtain ⟨r120, m119, cm119, hf⟩ := b2_el (o := f_X10_ofHouse a0 x1 6 m105) hf
              refine x_callVi (As := [.int x1, .int 6]) (rest := []) C hl.1 hw cb_X10_197 cv_X10_ofHouse (k_X10_ofHouse hw.2.2.2.2 ta0 cm119) ta0 rfl rfl (by decide) ⟨Nat.le_refl _, Nat.le_refl _⟩ rfl (Nat.le_of_ble_eq_true rfl) dX10_houseOf_118 (fun H locs hw tr120 => ?_)
              refine lv_i2l (v := (Int32.toInt64 r120)) hx hb dX10_houseOf_121 rfl ?_
              exact x_retL C hr hk hw  hf (by decide) (by decide) dX10_houseOf_122
            · have hf := ifn hf c118
              refine lv_tableOut (tgt := 123) hx hb dX10_houseOf_48 (by
                  have hc113 := sw_ne (a := 6) c113 (by decide)
                  have hc116 := sw_ne (a := 7) c116 (by decide)
                  have hc117 := sw_ne (a := 8) c117 (by decide)
                  have hc118 := sw_ne (a := 9) c118 (by decide)
                  omega) (by decide) ?_
              refine lv_aload_n hx hb dX10_houseOf_123 rfl (lv_at hl 2 rfl) ?_
              refine lv_iload_n hx hb dX10_houseOf_124 rfl (lv_at hl 3 rfl) ?_
              refine lv_iload_n hx hb dX10_houseOf_125 rfl (lv_at hl 4 rfl) ?_
              obtain ⟨r122, m121, cm121, hf⟩ := b2_el (o := f_X10_ofHouse a0 x1 x2 m105) hf
              refine x_callVi (As := [.int x1, .int x2]) (rest := []) C hl.1 hw cb_X10_197 cv_X10_ofHouse (k_X10_ofHouse hw.2.2.2.2 ta0 cm121) ta0 rfl rfl (by decide) ⟨Nat.le_refl _, Nat.le_refl _⟩ rfl (Nat.le_of_ble_eq_true rfl) dX10_houseOf_126 (fun H locs hw tr122 => ?_)
              refine lv_i2l (v := (Int32.toInt64 r122)) hx hb dX10_houseOf_129 rfl ?_
              exact x_retL C hr hk hw  hf (by decide) (by decide) dX10_houseOf_130
    · have hf := ifp hf c
      refine lv_aload_n hx hb dX10_houseOf_18 rfl (lv_at hl 0 rfl) ?_
      refine lv_ldc hx hb C.2.2.2.1 (C.2.2.2.2.1 _ ki_X10_61) dX10_houseOf_19 ?_
      obtain ⟨r124, m123, cm123, hf⟩ := b2_el (o := f_X10_finds a0 (-1000000001) m105) hf
      refine x_callVi (As := [.int (-1000000001)]) (rest := []) C hl.1 hw cb_X10_67 cv_X10_finds (k_X10_finds hw.2.2.2.2 ta0 cm123) ta0 rfl rfl (by decide) ⟨Nat.le_refl _, Nat.le_refl _⟩ rfl (Nat.le_of_ble_eq_true rfl) dX10_houseOf_21 (fun H locs hw tr124 => ?_)
      refine lv_i2l (v := (Int32.toInt64 r124)) hx hb dX10_houseOf_24 rfl ?_
      exact x_retL C hr hk hw  hf (by decide) (by decide) dX10_houseOf_25
set_option maxHeartbeats 4000000 in
set_option maxRecDepth 100000 in
theorem w_X10_image_h29 {p : Program} {l : Launch} {e : Env} {s : State} {m : MethodId} {args : Array Value} {below : List Frame} {meth : Method} {c : Code} {D : va_G} {E : Nat → ClassId} {tU : Nat} {m0 mE : XMem} {rE : Int32} (C : Cx p s m args c cX10_image 2 RX10 D E (Am m0) tU) (hr : meth.sig.returnType = ((Option.some FieldType.int))) (hk : meth.locks = false) (hnm : meth.name = yX10_image.name) {a0 : Nat} (ta0 : mT m0 a0 = some (.inl 10)) {k53 :  XMem → Option (Int32 × XMem)} (hk53 : ∀  (mu : XMem) (H : Heap) (locs : List Loc) (ls : Array Slot), lv_has ls 2 [(0, .ref a0)] → Wd D E (Am m0) s (mT m0) mu H locs →   k53  mu = some (rE, mE) → W p l e (rmN 1 0 0) s m args below meth c H locs 0 0 (MQ below (XQ D E (Am m0) (some (.int rE)) mE (mT mE = mT m0 ∧ True)) args s 0 0 (Am m0)) (F0 m 53 ls [])) : ∀ (n : Nat) (x1 : Int32) (mu : XMem) (H : Heap) (locs : List Loc) (ls : Array Slot), lv_has ls 2 [(0, .ref a0), (1, .int x1)] → Wd D E (Am m0) s (mT m0) mu H locs → f_X10_image_h29 a0 k53 n x1 mu = some (rE, mE) → W p l e (rmN 1 0 0) s m args below meth c H locs 0 0 (MQ below (XQ D E (Am m0) (some (.int rE)) mE (mT mE = mT m0 ∧ True)) args s 0 0 (Am m0)) (F0 m 29 ls []) := by
  have hx := C.1
  have hb := C.2.1
  intro n
  induction n with
  | zero =>
    intros
    rename_i hf
    cases hf
  | succ n ih =>
    intro x1 mu H locs ls hl hw hf
    rw [f_X10_image_h29] at hf
    refine lv_iload_n hx hb dX10_image_29 rfl (lv_at hl 1 rfl) ?_
    refine lv_bipush hx hb dX10_image_30 kb_16 ?_
    refine lv_icmp_ge (tgt := 53) hx hb dX10_image_32 (by decide) (fun c => ?_) (fun c => ?_)
    · have hf := ifp hf c
      exact hk53 _ _ _ _ (lv_sub hl [0] rfl) hw hf
    · have hf := ifn hf c
      refine lv_aload_n hx hb dX10_image_35 rfl (lv_at hl 0 rfl) ?_
      obtain ⟨b110, eb110, hf⟩ := fo_el hf
      refine x_getR C hw fa_X10_20 (Or.inr ⟨_, rfl⟩) ta0 eb110 dX10_image_36 (fun tb110 => ?_)
      have tb110 : ∃ n, (mT m0) b110 = some (.inr (2, n)) := tb110
      refine lv_iload_n hx hb dX10_image_39 rfl (lv_at hl 1 rfl) ?_
      refine lv_aload_n hx hb dX10_image_40 rfl (lv_at hl 0 rfl) ?_
      obtain ⟨b111, eb111, hf⟩ := fo_el hf
      refine x_getR C hw fa_X10_16 (Or.inr ⟨_, rfl⟩) ta0 eb111 dX10_image_41 (fun tb111 => ?_)
      have tb111 : ∃ n, (mT m0) b111 = some (.inr (2, n)) := tb111
      refine lv_iload_n hx hb dX10_image_44 rfl (lv_at hl 1 rfl) ?_
      obtain ⟨g112, hf⟩ := gd_el hf
      refine x_lald C hw tb111 g112 dX10_image_45 ?_
      obtain ⟨g113, hf⟩ := gd_el hf
      refine x_last C hw tb110 g113 dX10_image_46 (fun m114 H locs em114 hw => ?_)
      have hf := nm_el hf em114
      obtain ⟨x115, ex115⟩ : ∃ z : Int32, z = x1 + 1 := ⟨_, rfl⟩
      have hf := nm_el hf ex115
      refine lv_iinc (v := x115) (lv' := [(1, .int x115), (0, .ref a0)]) hx hb dX10_image_47 hl (k := 1) rfl (by rw [ex115, ki_1]) (by decide) rfl (fun ls hl => ?_)
      refine lv_goto (tgt := 29) hx hb dX10_image_50 (by decide) ?_
      exact ih _ _ _ _ _ (lv_sub hl [1, 0] rfl) hw hf
set_option maxHeartbeats 4000000 in
set_option maxRecDepth 100000 in
theorem w_X10_image_h2 {p : Program} {l : Launch} {e : Env} {s : State} {m : MethodId} {args : Array Value} {below : List Frame} {meth : Method} {c : Code} {D : va_G} {E : Nat → ClassId} {tU : Nat} {m0 mE : XMem} {rE : Int32} (C : Cx p s m args c cX10_image 2 RX10 D E (Am m0) tU) (hr : meth.sig.returnType = ((Option.some FieldType.int))) (hk : meth.locks = false) (hnm : meth.name = yX10_image.name) {a0 : Nat} (ta0 : mT m0 a0 = some (.inl 10)) {k27 :  XMem → Option (Int32 × XMem)} (hk27 : ∀  (mu : XMem) (H : Heap) (locs : List Loc) (ls : Array Slot), lv_has ls 2 [(0, .ref a0)] → Wd D E (Am m0) s (mT m0) mu H locs →   k27  mu = some (rE, mE) → W p l e (rmN 1 0 0) s m args below meth c H locs 0 0 (MQ below (XQ D E (Am m0) (some (.int rE)) mE (mT mE = mT m0 ∧ True)) args s 0 0 (Am m0)) (F0 m 27 ls [])) : ∀ (n : Nat) (x1 : Int32) (mu : XMem) (H : Heap) (locs : List Loc) (ls : Array Slot), lv_has ls 2 [(0, .ref a0), (1, .int x1)] → Wd D E (Am m0) s (mT m0) mu H locs → f_X10_image_h2 a0 k27 n x1 mu = some (rE, mE) → W p l e (rmN 1 0 0) s m args below meth c H locs 0 0 (MQ below (XQ D E (Am m0) (some (.int rE)) mE (mT mE = mT m0 ∧ True)) args s 0 0 (Am m0)) (F0 m 2 ls []) := by
  have hx := C.1
  have hb := C.2.1
  intro n
  induction n with
  | zero =>
    intros
    rename_i hf
    cases hf
  | succ n ih =>
    intro x1 mu H locs ls hl hw hf
    rw [f_X10_image_h2] at hf
    refine lv_iload_n hx hb dX10_image_2 rfl (lv_at hl 1 rfl) ?_
    refine lv_sipush hx hb dX10_image_3 ks_1059 ?_
    refine lv_icmp_ge (tgt := 27) hx hb dX10_image_6 (by decide) (fun c => ?_) (fun c => ?_)
    · have hf := ifp hf c
      exact hk27 _ _ _ _ (lv_sub hl [0] rfl) hw hf
    · have hf := ifn hf c
      refine lv_aload_n hx hb dX10_image_9 rfl (lv_at hl 0 rfl) ?_
      obtain ⟨b104, eb104, hf⟩ := fo_el hf
      refine x_getR C hw fa_X10_13 (Or.inr ⟨_, rfl⟩) ta0 eb104 dX10_image_10 (fun tb104 => ?_)
      have tb104 : ∃ n, (mT m0) b104 = some (.inr (0, n)) := tb104
      refine lv_iload_n hx hb dX10_image_13 rfl (lv_at hl 1 rfl) ?_
      refine lv_aload_n hx hb dX10_image_14 rfl (lv_at hl 0 rfl) ?_
      obtain ⟨b105, eb105, hf⟩ := fo_el hf
      refine x_getR C hw fa_X10_7 (Or.inr ⟨_, rfl⟩) ta0 eb105 dX10_image_15 (fun tb105 => ?_)
      have tb105 : ∃ n, (mT m0) b105 = some (.inr (0, n)) := tb105
      refine lv_iload_n hx hb dX10_image_18 rfl (lv_at hl 1 rfl) ?_
      obtain ⟨g106, hf⟩ := gd_el hf
      refine x_iald C hw tb105 g106 dX10_image_19 ?_
      obtain ⟨g107, hf⟩ := gd_el hf
      refine x_iast C hw tb104 g107 dX10_image_20 (fun m108 H locs em108 hw => ?_)
      have hf := nm_el hf em108
      obtain ⟨x109, ex109⟩ : ∃ z : Int32, z = x1 + 1 := ⟨_, rfl⟩
      have hf := nm_el hf ex109
      refine lv_iinc (v := x109) (lv' := [(1, .int x109), (0, .ref a0)]) hx hb dX10_image_21 hl (k := 1) rfl (by rw [ex109, ki_1]) (by decide) rfl (fun ls hl => ?_)
      refine lv_goto (tgt := 2) hx hb dX10_image_24 (by decide) ?_
      exact ih _ _ _ _ _ (lv_sub hl [1, 0] rfl) hw hf
set_option maxHeartbeats 4000000 in
set_option maxRecDepth 100000 in
theorem k_X10_image {l : Launch} {D : va_G} {E : Nat → ClassId} {tU : Nat} {τ : Nat → Option XTy} {a0 : Nat} {m0 mE : XMem} {rE : Int32} (hm : mT m0 = τ) (ta0 : τ a0 = some (.inl 10)) (hf : f_X10_image a0 m0 = some (rE, mE)) : Ct l yX10_image cX10_image 2 ((Option.some FieldType.int)) 1 0 0 D E tU [.ref a0] m0 (some (.int rE)) mE (mT mE = mT m0 ∧ True) := by
  subst hm
  refine Ct.of (by decide) (Nat.le_of_ble_eq_true rfl) (fun p e s m below meth c ls C hr hk hnm hl hw => ?_)
  have hx := C.1
  have hb := C.2.1
  have hl : lv_has ls 2 [(0, .ref a0)] := hl
  unfold f_X10_image at hf
  refine lv_iconst hx hb dX10_image_0 ki_0 ?_
  refine lv_istore_n (lv' := [(1, .int 0), (0, .ref a0)]) hx hb dX10_image_1 rfl hl (by decide) rfl (fun ls hl => ?_)
  refine w_X10_image_h2 C hr hk hnm ta0 ?_ 2000 _ _ _ _ _ (lv_sub hl [1, 0] rfl) hw hf
  intro m101 H locs ls hl hw hf
  refine lv_iconst hx hb dX10_image_27 ki_0 ?_
  refine lv_istore_n (lv' := [(1, .int 0), (0, .ref a0)]) hx hb dX10_image_28 rfl hl (by decide) rfl (fun ls hl => ?_)
  refine w_X10_image_h29 C hr hk hnm ta0 ?_ 2000 _ _ _ _ _ (lv_sub hl [1, 0] rfl) hw hf
  intro m102 H locs ls hl hw hf
  refine lv_aload_n hx hb dX10_image_53 rfl (lv_at hl 0 rfl) ?_
  refine lv_iconst hx hb dX10_image_54 ki_1 ?_
  refine x_putZ C hw fa_X10_245 ta0 (Or.inr rfl) dX10_image_55 (fun m103 H locs em103 hw => ?_)
  have hf := nm_el hf em103
  refine lv_iconst hx hb dX10_image_58 ki_1 ?_
  exact x_retI C hr hk hw  hf (by decide) (by decide) dX10_image_59
set_option maxHeartbeats 4000000 in
set_option maxRecDepth 100000 in
theorem k_X10_init {l : Launch} {D : va_G} {E : Nat → ClassId} {tU : Nat} {τ : Nat → Option XTy} {a0 : Nat} {m0 mE : XMem} (hm : mT m0 = τ) (ta0 : τ a0 = some (.inl 10)) (hf : f_X10_init a0 m0 = some mE) : Ct l yX10_init cX10_init 1 ((Option.none : Option FieldType)) 1 16 2749 D E tU [.ref a0] m0 (none) mE (XA m0 mE ∧ True) := by
  subst hm
  refine Ct.of (by decide) (Nat.le_of_ble_eq_true rfl) (fun p e s m below meth c ls C hr hk hnm hl hw => ?_)
  have hx := C.1
  have hb := C.2.1
  have hl : lv_has ls 1 [(0, .ref a0)] := hl
  unfold f_X10_init at hf
  have hmo : ∀ q u, mT m0 q = some u → mT m0 q = some u := fun _ _ h => h
  refine lv_aload_n hx hb dX10_init_0 rfl (lv_at hl 0 rfl) ?_
  refine x_obj C hl.1 ko_X10_1 ko_i ko_c (by decide) (Nat.le_of_ble_eq_true rfl) (by decide) dX10_init_1 ?_
  refine lv_aload_n hx hb dX10_init_4 rfl (lv_at hl 0 rfl) ?_
  refine lv_sipush hx hb dX10_init_5 ks_1059 ?_
  refine x_newI (N := 1059) C hw (by decide) (by decide) (by decide) (by decide) (by decide) dX10_init_8 (fun b101 m102 H Tm102 eb101 em102 hw tb101 mom102 => ?_)
  have hf := nm_el hf eb101
  have hf := nm_el hf em102
  have tb101 : ∃ n, Tm102 b101 = some (.inr (0, n)) := ⟨_, tb101⟩
  have ta0 := mom102 _ _ ta0
  have hmo := fun q u h => mom102 q u (hmo q u h)
  refine x_putFR C hnm hw fa_X10_7 (Or.inr ⟨_, rfl⟩) rfl ta0 tb101 dX10_init_10 (fun m103 H locs em103 hw => ?_)
  have hf := nm_el hf em103
  refine lv_aload_n hx hb dX10_init_13 rfl (lv_at hl 0 rfl) ?_
  refine lv_sipush hx hb dX10_init_14 ks_1059 ?_
  refine x_newI (N := 1059) C hw (by decide) (by decide) (by decide) (by decide) (by decide) dX10_init_17 (fun b104 m105 H Tm105 eb104 em105 hw tb104 mom105 => ?_)
  have hf := nm_el hf eb104
  have hf := nm_el hf em105
  have tb104 : ∃ n, Tm105 b104 = some (.inr (0, n)) := ⟨_, tb104⟩
  have ta0 := mom105 _ _ ta0
  have hmo := fun q u h => mom105 q u (hmo q u h)
  refine x_putFR C hnm hw fa_X10_13 (Or.inr ⟨_, rfl⟩) rfl ta0 tb104 dX10_init_19 (fun m106 H locs em106 hw => ?_)
  have hf := nm_el hf em106
  refine lv_aload_n hx hb dX10_init_22 rfl (lv_at hl 0 rfl) ?_
  refine lv_bipush hx hb dX10_init_23 kb_16 ?_
  refine x_newL (N := 16) C hw (by decide) (by decide) (by decide) (by decide) (by decide) dX10_init_25 (fun b107 m108 H Tm108 eb107 em108 hw tb107 mom108 => ?_)
  have hf := nm_el hf eb107
  have hf := nm_el hf em108
  have tb107 : ∃ n, Tm108 b107 = some (.inr (2, n)) := ⟨_, tb107⟩
  have ta0 := mom108 _ _ ta0
  have hmo := fun q u h => mom108 q u (hmo q u h)
  refine x_putFR C hnm hw fa_X10_16 (Or.inr ⟨_, rfl⟩) rfl ta0 tb107 dX10_init_27 (fun m109 H locs em109 hw => ?_)
  have hf := nm_el hf em109
  refine lv_aload_n hx hb dX10_init_30 rfl (lv_at hl 0 rfl) ?_
  refine lv_bipush hx hb dX10_init_31 kb_16 ?_
  refine x_newL (N := 16) C hw (by decide) (by decide) (by decide) (by decide) (by decide) dX10_init_33 (fun b110 m111 H Tm111 eb110 em111 hw tb110 mom111 => ?_)
  have hf := nm_el hf eb110
  have hf := nm_el hf em111
  have tb110 : ∃ n, Tm111 b110 = some (.inr (2, n)) := ⟨_, tb110⟩
  have ta0 := mom111 _ _ ta0
  have hmo := fun q u h => mom111 q u (hmo q u h)
  refine x_putFR C hnm hw fa_X10_20 (Or.inr ⟨_, rfl⟩) rfl ta0 tb110 dX10_init_35 (fun m112 H locs em112 hw => ?_)
  have hf := nm_el hf em112
  refine lv_aload_n hx hb dX10_init_38 rfl (lv_at hl 0 rfl) ?_
  refine lv_bipush hx hb dX10_init_39 kb_7 ?_
  refine x_newI (N := 7) C hw (by decide) (by decide) (by decide) (by decide) (by decide) dX10_init_41 (fun b113 m114 H Tm114 eb113 em114 hw tb113 mom114 => ?_)
  have hf := nm_el hf eb113
  have hf := nm_el hf em114
  have tb113 : ∃ n, Tm114 b113 = some (.inr (0, n)) := ⟨_, tb113⟩
  have ta0 := mom114 _ _ ta0
  have hmo := fun q u h => mom114 q u (hmo q u h)
  refine x_putFR C hnm hw fa_X10_23 (Or.inr ⟨_, rfl⟩) rfl ta0 tb113 dX10_init_43 (fun m115 H locs em115 hw => ?_)
  have hf := nm_el hf em115
  refine lv_aload_n hx hb dX10_init_46 rfl (lv_at hl 0 rfl) ?_
  refine lv_bipush hx hb dX10_init_47 kb_100 ?_
  refine x_newI (N := 100) C hw (by decide) (by decide) (by decide) (by decide) (by decide) dX10_init_49 (fun b116 m117 H Tm117 eb116 em117 hw tb116 mom117 => ?_)
  have hf := nm_el hf eb116
  have hf := nm_el hf em117
  have tb116 : ∃ n, Tm117 b116 = some (.inr (0, n)) := ⟨_, tb116⟩
  have ta0 := mom117 _ _ ta0
  have hmo := fun q u h => mom117 q u (hmo q u h)
  refine x_putFR C hnm hw fa_X10_26 (Or.inr ⟨_, rfl⟩) rfl ta0 tb116 dX10_init_51 (fun m118 H locs em118 hw => ?_)
  have hf := nm_el hf em118
  refine lv_aload_n hx hb dX10_init_54 rfl (lv_at hl 0 rfl) ?_
  refine lv_bipush hx hb dX10_init_55 kb_102 ?_
  refine x_newI (N := 102) C hw (by decide) (by decide) (by decide) (by decide) (by decide) dX10_init_57 (fun b119 m120 H Tm120 eb119 em120 hw tb119 mom120 => ?_)
  have hf := nm_el hf eb119
  have hf := nm_el hf em120
  have tb119 : ∃ n, Tm120 b119 = some (.inr (0, n)) := ⟨_, tb119⟩
  have ta0 := mom120 _ _ ta0
  have hmo := fun q u h => mom120 q u (hmo q u h)
  refine x_putFR C hnm hw fa_X10_29 (Or.inr ⟨_, rfl⟩) rfl ta0 tb119 dX10_init_59 (fun m121 H locs em121 hw => ?_)
  have hf := nm_el hf em121
  refine lv_aload_n hx hb dX10_init_62 rfl (lv_at hl 0 rfl) ?_
  refine lv_iconst hx hb dX10_init_63 ki_5 ?_
  refine x_newI (N := 5) C hw (by decide) (by decide) (by decide) (by decide) (by decide) dX10_init_64 (fun b122 m123 H Tm123 eb122 em123 hw tb122 mom123 => ?_)
  have hf := nm_el hf eb122
  have hf := nm_el hf em123
  have tb122 : ∃ n, Tm123 b122 = some (.inr (0, n)) := ⟨_, tb122⟩
  have ta0 := mom123 _ _ ta0
  have hmo := fun q u h => mom123 q u (hmo q u h)
  refine lv_dup hx hb dX10_init_66 rfl ?_
  refine lv_iconst hx hb dX10_init_67 ki_0 ?_
  refine lv_bipush hx hb dX10_init_68 kb_16 ?_
  obtain ⟨g124, hf⟩ := gd_el hf
  refine x_iast C hw tb122 g124 dX10_init_70 (fun m125 H locs em125 hw => ?_)
  have hf := nm_el hf em125
  refine lv_dup hx hb dX10_init_71 rfl ?_
  refine lv_iconst hx hb dX10_init_72 ki_1 ?_
  refine lv_bipush hx hb dX10_init_73 kb_20 ?_
  obtain ⟨g126, hf⟩ := gd_el hf
  refine x_iast C hw tb122 g126 dX10_init_75 (fun m127 H locs em127 hw => ?_)
  have hf := nm_el hf em127
  refine lv_dup hx hb dX10_init_76 rfl ?_
  refine lv_iconst hx hb dX10_init_77 ki_2 ?_
  refine lv_bipush hx hb dX10_init_78 kb_8 ?_
  obtain ⟨g128, hf⟩ := gd_el hf
  refine x_iast C hw tb122 g128 dX10_init_80 (fun m129 H locs em129 hw => ?_)
  have hf := nm_el hf em129
  refine lv_dup hx hb dX10_init_81 rfl ?_
  refine lv_iconst hx hb dX10_init_82 ki_3 ?_
  refine lv_iconst hx hb dX10_init_83 ki_3 ?_
  obtain ⟨g130, hf⟩ := gd_el hf
  refine x_iast C hw tb122 g130 dX10_init_84 (fun m131 H locs em131 hw => ?_)
  have hf := nm_el hf em131
  refine lv_dup hx hb dX10_init_85 rfl ?_
  refine lv_iconst hx hb dX10_init_86 ki_4 ?_
  refine lv_bipush hx hb dX10_init_87 kb_23 ?_
  obtain ⟨g132, hf⟩ := gd_el hf
  refine x_iast C hw tb122 g132 dX10_init_89 (fun m133 H locs em133 hw => ?_)
  have hf := nm_el hf em133
  refine x_putFR C hnm hw fa_X10_32 (Or.inr ⟨_, rfl⟩) rfl ta0 tb122 dX10_init_90 (fun m134 H locs em134 hw => ?_)
  have hf := nm_el hf em134
  refine lv_aload_n hx hb dX10_init_93 rfl (lv_at hl 0 rfl) ?_
  refine lv_bipush hx hb dX10_init_94 kb_7 ?_
  refine x_newI (N := 7) C hw (by decide) (by decide) (by decide) (by decide) (by decide) dX10_init_96 (fun b135 m136 H Tm136 eb135 em136 hw tb135 mom136 => ?_)
  have hf := nm_el hf eb135
  have hf := nm_el hf em136
  have tb135 : ∃ n, Tm136 b135 = some (.inr (0, n)) := ⟨_, tb135⟩
  have ta0 := mom136 _ _ ta0
  have hmo := fun q u h => mom136 q u (hmo q u h)
  refine lv_dup hx hb dX10_init_98 rfl ?_
  refine lv_iconst hx hb dX10_init_99 ki_0 ?_
  refine lv_sipush hx hb dX10_init_100 ks_20141 ?_
  obtain ⟨g137, hf⟩ := gd_el hf
  refine x_iast C hw tb135 g137 dX10_init_103 (fun m138 H locs em138 hw => ?_)
  have hf := nm_el hf em138
  refine lv_dup hx hb dX10_init_104 rfl ?_
  refine lv_iconst hx hb dX10_init_105 ki_1 ?_
  refine lv_ldc hx hb C.2.2.2.1 (C.2.2.2.2.1 _ ki_X10_35) dX10_init_106 ?_
  obtain ⟨g139, hf⟩ := gd_el hf
  refine x_iast C hw tb135 g139 dX10_init_108 (fun m140 H locs em140 hw => ?_)
  have hf := nm_el hf em140
  refine lv_dup hx hb dX10_init_109 rfl ?_
  refine lv_iconst hx hb dX10_init_110 ki_2 ?_
  refine lv_sipush hx hb dX10_init_111 ks_13996 ?_
  obtain ⟨g141, hf⟩ := gd_el hf
  refine x_iast C hw tb135 g141 dX10_init_114 (fun m142 H locs em142 hw => ?_)
  have hf := nm_el hf em142
  refine lv_dup hx hb dX10_init_115 rfl ?_
  refine lv_iconst hx hb dX10_init_116 ki_3 ?_
  refine lv_ldc hx hb C.2.2.2.1 (C.2.2.2.2.1 _ ki_X10_36) dX10_init_117 ?_
  obtain ⟨g143, hf⟩ := gd_el hf
  refine x_iast C hw tb135 g143 dX10_init_119 (fun m144 H locs em144 hw => ?_)
  have hf := nm_el hf em144
  refine lv_dup hx hb dX10_init_120 rfl ?_
  refine lv_iconst hx hb dX10_init_121 ki_4 ?_
  refine lv_sipush hx hb dX10_init_122 ks_13614 ?_
  obtain ⟨g145, hf⟩ := gd_el hf
  refine x_iast C hw tb135 g145 dX10_init_125 (fun m146 H locs em146 hw => ?_)
  have hf := nm_el hf em146
  refine lv_dup hx hb dX10_init_126 rfl ?_
  refine lv_iconst hx hb dX10_init_127 ki_5 ?_
  refine lv_sipush hx hb dX10_init_128 ks_13368 ?_
  obtain ⟨g147, hf⟩ := gd_el hf
  refine x_iast C hw tb135 g147 dX10_init_131 (fun m148 H locs em148 hw => ?_)
  have hf := nm_el hf em148
  refine lv_dup hx hb dX10_init_132 rfl ?_
  refine lv_bipush hx hb dX10_init_133 kb_6 ?_
  refine lv_sipush hx hb dX10_init_135 ks_294 ?_
  obtain ⟨g149, hf⟩ := gd_el hf
  refine x_iast C hw tb135 g149 dX10_init_138 (fun m150 H locs em150 hw => ?_)
  have hf := nm_el hf em150
  refine x_putFR C hnm hw fa_X10_37 (Or.inr ⟨_, rfl⟩) rfl ta0 tb135 dX10_init_139 (fun m151 H locs em151 hw => ?_)
  have hf := nm_el hf em151
  refine lv_aload_n hx hb dX10_init_142 rfl (lv_at hl 0 rfl) ?_
  refine lv_bipush hx hb dX10_init_143 kb_102 ?_
  refine x_newI (N := 102) C hw (by decide) (by decide) (by decide) (by decide) (by decide) dX10_init_145 (fun b152 m153 H Tm153 eb152 em153 hw tb152 mom153 => ?_)
  have hf := nm_el hf eb152
  have hf := nm_el hf em153
  have tb152 : ∃ n, Tm153 b152 = some (.inr (0, n)) := ⟨_, tb152⟩
  have ta0 := mom153 _ _ ta0
  have hmo := fun q u h => mom153 q u (hmo q u h)
  refine x_putFR C hnm hw fa_X10_40 (Or.inr ⟨_, rfl⟩) rfl ta0 tb152 dX10_init_147 (fun m154 H locs em154 hw => ?_)
  have hf := nm_el hf em154
  refine lv_aload_n hx hb dX10_init_150 rfl (lv_at hl 0 rfl) ?_
  refine lv_bipush hx hb dX10_init_151 kb_17 ?_
  refine x_newI (N := 17) C hw (by decide) (by decide) (by decide) (by decide) (by decide) dX10_init_153 (fun b155 m156 H Tm156 eb155 em156 hw tb155 mom156 => ?_)
  have hf := nm_el hf eb155
  have hf := nm_el hf em156
  have tb155 : ∃ n, Tm156 b155 = some (.inr (0, n)) := ⟨_, tb155⟩
  have ta0 := mom156 _ _ ta0
  have hmo := fun q u h => mom156 q u (hmo q u h)
  refine x_putFR C hnm hw fa_X10_43 (Or.inr ⟨_, rfl⟩) rfl ta0 tb155 dX10_init_155 (fun m157 H locs em157 hw => ?_)
  have hf := nm_el hf em157
  refine lv_aload_n hx hb dX10_init_158 rfl (lv_at hl 0 rfl) ?_
  refine lv_bipush hx hb dX10_init_159 kb_51 ?_
  refine x_newI (N := 51) C hw (by decide) (by decide) (by decide) (by decide) (by decide) dX10_init_161 (fun b158 m159 H Tm159 eb158 em159 hw tb158 mom159 => ?_)
  have hf := nm_el hf eb158
  have hf := nm_el hf em159
  have tb158 : ∃ n, Tm159 b158 = some (.inr (0, n)) := ⟨_, tb158⟩
  have ta0 := mom159 _ _ ta0
  have hmo := fun q u h => mom159 q u (hmo q u h)
  refine x_putFR C hnm hw fa_X10_46 (Or.inr ⟨_, rfl⟩) rfl ta0 tb158 dX10_init_163 (fun m160 H locs em160 hw => ?_)
  have hf := nm_el hf em160
  refine lv_aload_n hx hb dX10_init_166 rfl (lv_at hl 0 rfl) ?_
  refine lv_iconst hx hb dX10_init_167 ki_4 ?_
  refine x_newI (N := 4) C hw (by decide) (by decide) (by decide) (by decide) (by decide) dX10_init_168 (fun b161 m162 H Tm162 eb161 em162 hw tb161 mom162 => ?_)
  have hf := nm_el hf eb161
  have hf := nm_el hf em162
  have tb161 : ∃ n, Tm162 b161 = some (.inr (0, n)) := ⟨_, tb161⟩
  have ta0 := mom162 _ _ ta0
  have hmo := fun q u h => mom162 q u (hmo q u h)
  refine x_putFR C hnm hw fa_X10_49 (Or.inr ⟨_, rfl⟩) rfl ta0 tb161 dX10_init_170 (fun m163 H locs em163 hw => ?_)
  have hf := nm_el hf em163
  refine lv_aload_n hx hb dX10_init_173 rfl (lv_at hl 0 rfl) ?_
  refine lv_iconst hx hb dX10_init_174 ki_4 ?_
  refine x_newI (N := 4) C hw (by decide) (by decide) (by decide) (by decide) (by decide) dX10_init_175 (fun b164 m165 H Tm165 eb164 em165 hw tb164 mom165 => ?_)
  have hf := nm_el hf eb164
  have hf := nm_el hf em165
  have tb164 : ∃ n, Tm165 b164 = some (.inr (0, n)) := ⟨_, tb164⟩
  have ta0 := mom165 _ _ ta0
  have hmo := fun q u h => mom165 q u (hmo q u h)
  refine x_putFR C hnm hw fa_X10_52 (Or.inr ⟨_, rfl⟩) rfl ta0 tb164 dX10_init_177 (fun m166 H locs em166 hw => ?_)
  have hf := nm_el hf em166
  refine lv_aload_n hx hb dX10_init_180 rfl (lv_at hl 0 rfl) ?_
  refine lv_sipush hx hb dX10_init_181 ks_160 ?_
  refine x_newL (N := 160) C hw (by decide) (by decide) (by decide) (by decide) (by decide) dX10_init_184 (fun b167 m168 H Tm168 eb167 em168 hw tb167 mom168 => ?_)
  have hf := nm_el hf eb167
  have hf := nm_el hf em168
  have tb167 : ∃ n, Tm168 b167 = some (.inr (2, n)) := ⟨_, tb167⟩
  have ta0 := mom168 _ _ ta0
  have hmo := fun q u h => mom168 q u (hmo q u h)
  refine x_putFR C hnm hw fa_X10_55 (Or.inr ⟨_, rfl⟩) rfl ta0 tb167 dX10_init_186 (fun m169 H locs em169 hw => ?_)
  have hf := nm_el hf em169
  refine lv_aload_n hx hb dX10_init_189 rfl (lv_at hl 0 rfl) ?_
  refine lv_bipush hx hb dX10_init_190 kb_40 ?_
  refine x_newL (N := 40) C hw (by decide) (by decide) (by decide) (by decide) (by decide) dX10_init_192 (fun b170 m171 H Tm171 eb170 em171 hw tb170 mom171 => ?_)
  have hf := nm_el hf eb170
  have hf := nm_el hf em171
  have tb170 : ∃ n, Tm171 b170 = some (.inr (2, n)) := ⟨_, tb170⟩
  have ta0 := mom171 _ _ ta0
  have hmo := fun q u h => mom171 q u (hmo q u h)
  refine x_putFR C hnm hw fa_X10_58 (Or.inr ⟨_, rfl⟩) rfl ta0 tb170 dX10_init_194 (fun m172 H locs em172 hw => ?_)
  have hf := nm_el hf em172
  exact x_retN C hr hk hw hmo hf (by decide) (by decide) dX10_init_197
set_option maxHeartbeats 4000000 in
set_option maxRecDepth 100000 in
theorem k_X10_isAhead {l : Launch} {D : va_G} {E : Nat → ClassId} {tU : Nat} {τ : Nat → Option XTy} {a0 : Nat} {x1 : Int32} {x2 : Int32} {m0 mE : XMem} {rE : Int32} (hm : mT m0 = τ) (ta0 : τ a0 = some (.inl 10)) (hf : f_X10_isAhead a0 x1 x2 m0 = some (rE, mE)) : Ct l yX10_isAhead cX10_isAhead 3 ((Option.some FieldType.boolean)) 2 0 0 D E tU [.ref a0, .int x1, .int x2] m0 (some (.int rE)) mE (mT mE = mT m0 ∧ (rE = 0 ∨ rE = 1)) := by
  subst hm
  refine Ct.of (by decide) (Nat.le_of_ble_eq_true rfl) (fun p e s m below meth c ls C hr hk hnm hl hw => ?_)
  have hx := C.1
  have hb := C.2.1
  have hl : lv_has ls 3 [(0, .ref a0), (1, .int x1), (2, .int x2)] := hl
  unfold f_X10_isAhead at hf
  refine lv_aload_n hx hb dX10_isAhead_0 rfl (lv_at hl 0 rfl) ?_
  refine lv_iload_n hx hb dX10_isAhead_1 rfl (lv_at hl 1 rfl) ?_
  refine lv_bipush hx hb dX10_isAhead_2 kb_7 ?_
  obtain ⟨r102, m101, cm101, hf⟩ := b2_el (o := f_X10_ofHouse a0 x1 7 m0) hf
  refine x_callVi (As := [.int x1, .int 7]) (rest := []) C hl.1 hw cb_X10_197 cv_X10_ofHouse (k_X10_ofHouse hw.2.2.2.2 ta0 cm101) ta0 rfl rfl (by decide) ⟨Nat.le_refl _, Nat.le_refl _⟩ rfl (Nat.le_of_ble_eq_true rfl) dX10_isAhead_4 (fun H locs hw tr102 => ?_)
  refine lv_aload_n hx hb dX10_isAhead_7 rfl (lv_at hl 0 rfl) ?_
  refine lv_iload_n hx hb dX10_isAhead_8 rfl (lv_at hl 2 rfl) ?_
  refine lv_bipush hx hb dX10_isAhead_9 kb_7 ?_
  obtain ⟨r104, m103, cm103, hf⟩ := b2_el (o := f_X10_ofHouse a0 x2 7 m101) hf
  refine x_callVi (As := [.int x2, .int 7]) (rest := [.int r102]) C hl.1 hw cb_X10_197 cv_X10_ofHouse (k_X10_ofHouse hw.2.2.2.2 ta0 cm103) ta0 rfl rfl (by decide) ⟨Nat.le_refl _, Nat.le_refl _⟩ rfl (Nat.le_of_ble_eq_true rfl) dX10_isAhead_11 (fun H locs hw tr104 => ?_)
  refine lv_icmp_lt (tgt := 39) hx hb dX10_isAhead_14 (by decide) (fun c => ?_) (fun c => ?_)
  · have hf := ifp hf c
    refine lv_iconst hx hb dX10_isAhead_39 ki_1 ?_
    refine lv_goto (tgt := 44) hx hb dX10_isAhead_40 (by decide) ?_
    exact x_retZ C hr hk (Or.inr rfl) hw  hf (by decide) (by decide) dX10_isAhead_44
  · have hf := ifn hf c
    refine lv_aload_n hx hb dX10_isAhead_17 rfl (lv_at hl 0 rfl) ?_
    refine lv_iload_n hx hb dX10_isAhead_18 rfl (lv_at hl 1 rfl) ?_
    refine lv_bipush hx hb dX10_isAhead_19 kb_7 ?_
    obtain ⟨r106, m105, cm105, hf⟩ := b2_el (o := f_X10_ofHouse a0 x1 7 m103) hf
    refine x_callVi (As := [.int x1, .int 7]) (rest := []) C hl.1 hw cb_X10_197 cv_X10_ofHouse (k_X10_ofHouse hw.2.2.2.2 ta0 cm105) ta0 rfl rfl (by decide) ⟨Nat.le_refl _, Nat.le_refl _⟩ rfl (Nat.le_of_ble_eq_true rfl) dX10_isAhead_21 (fun H locs hw tr106 => ?_)
    refine lv_aload_n hx hb dX10_isAhead_24 rfl (lv_at hl 0 rfl) ?_
    refine lv_iload_n hx hb dX10_isAhead_25 rfl (lv_at hl 2 rfl) ?_
    refine lv_bipush hx hb dX10_isAhead_26 kb_7 ?_
    obtain ⟨r108, m107, cm107, hf⟩ := b2_el (o := f_X10_ofHouse a0 x2 7 m105) hf
    refine x_callVi (As := [.int x2, .int 7]) (rest := [.int r106]) C hl.1 hw cb_X10_197 cv_X10_ofHouse (k_X10_ofHouse hw.2.2.2.2 ta0 cm107) ta0 rfl rfl (by decide) ⟨Nat.le_refl _, Nat.le_refl _⟩ rfl (Nat.le_of_ble_eq_true rfl) dX10_isAhead_28 (fun H locs hw tr108 => ?_)
    refine lv_icmp_ne (tgt := 43) hx hb dX10_isAhead_31 (by decide) (fun c => ?_) (fun c => ?_)
    · have hf := ifn hf c
      refine lv_iconst hx hb dX10_isAhead_43 ki_0 ?_
      exact x_retZ C hr hk (Or.inl rfl) hw  hf (by decide) (by decide) dX10_isAhead_44
    · have hf := ifp hf c
      refine lv_iload_n hx hb dX10_isAhead_34 rfl (lv_at hl 1 rfl) ?_
      refine lv_iload_n hx hb dX10_isAhead_35 rfl (lv_at hl 2 rfl) ?_
      refine lv_icmp_ge (tgt := 43) hx hb dX10_isAhead_36 (by decide) (fun c => ?_) (fun c => ?_)
      · have hf := ifp hf c
        refine lv_iconst hx hb dX10_isAhead_43 ki_0 ?_
        exact x_retZ C hr hk (Or.inl rfl) hw  hf (by decide) (by decide) dX10_isAhead_44
      · have hf := ifn hf c
        refine lv_iconst hx hb dX10_isAhead_39 ki_1 ?_
        refine lv_goto (tgt := 44) hx hb dX10_isAhead_40 (by decide) ?_
        exact x_retZ C hr hk (Or.inr rfl) hw  hf (by decide) (by decide) dX10_isAhead_44
set_option maxHeartbeats 4000000 in
set_option maxRecDepth 100000 in
theorem w_X10_isText_j47 {p : Program} {l : Launch} {e : Env} {s : State} {m : MethodId} {args : Array Value} {below : List Frame} {meth : Method} {c : Code} {D : va_G} {E : Nat → ClassId} {tU : Nat} {m0 mE : XMem} {rE : Int32} (C : Cx p s m args c cX10_isText 1 RX10 D E (Am m0) tU) (hr : meth.sig.returnType = ((Option.some FieldType.boolean))) (hk : meth.locks = false) (hnm : meth.name = yX10_isText.name) {a0 : Nat} {as0 : Nat} {mu : XMem} {H : Heap} {locs : List Loc} {ls : Array Slot} (ta0 : mT m0 a0 = some (.inl 10)) (tas0 : mT m0 as0 = some (.inl 10)) (hl : lv_has ls 1 [(0, .ref a0)]) (hw : Wd D E (Am m0) s (mT m0) mu H locs) (hf : f_X10_isText_j47 a0 as0 mu = some (rE, mE)) : W p l e (rmN 13 0 0) s m args below meth c H locs 0 0 (MQ below (XQ D E (Am m0) (some (.int rE)) mE (mT mE = mT m0 ∧ (rE = 0 ∨ rE = 1))) args s 0 0 (Am m0)) (F0 m 47 ls [.ref as0]) := by
  have hx := C.1
  have hb := C.2.1
  unfold f_X10_isText_j47 at hf
  refine lv_iconst hx hb dX10_isText_47 ki_1 ?_
  refine lv_goto (tgt := 52) hx hb dX10_isText_48 (by decide) ?_
  refine x_putZ C hw fa_X10_141 tas0 (Or.inr rfl) dX10_isText_52 (fun m108 H locs em108 hw => ?_)
  have hf := nm_el hf em108
  refine lv_aload_n hx hb dX10_isText_55 rfl (lv_at hl 0 rfl) ?_
  refine x_getZ C hw fa_X10_141 ta0 dX10_isText_56 ?_
  refine lv_if_ne (tgt := 66) hx hb dX10_isText_59 (by decide) (fun c => ?_) (fun c => ?_)
  · have hf := ifn hf c
    refine lv_iconst hx hb dX10_isText_66 ki_0 ?_
    exact x_retZ C hr hk (Or.inl rfl) hw  hf (by decide) (by decide) dX10_isText_67
  · have hf := ifp hf c
    refine lv_iconst hx hb dX10_isText_62 ki_1 ?_
    refine lv_goto (tgt := 67) hx hb dX10_isText_63 (by decide) ?_
    exact x_retZ C hr hk (Or.inr rfl) hw  hf (by decide) (by decide) dX10_isText_67
set_option maxHeartbeats 4000000 in
set_option maxRecDepth 100000 in
theorem k_X10_isText {l : Launch} {D : va_G} {E : Nat → ClassId} {tU : Nat} {τ : Nat → Option XTy} {a0 : Nat} {m0 mE : XMem} {rE : Int32} (hm : mT m0 = τ) (ta0 : τ a0 = some (.inl 10)) (hf : f_X10_isText a0 m0 = some (rE, mE)) : Ct l yX10_isText cX10_isText 1 ((Option.some FieldType.boolean)) 13 0 0 D E tU [.ref a0] m0 (some (.int rE)) mE (mT mE = mT m0 ∧ (rE = 0 ∨ rE = 1)) := by
  subst hm
  refine Ct.of (by decide) (Nat.le_of_ble_eq_true rfl) (fun p e s m below meth c ls C hr hk hnm hl hw => ?_)
  have hx := C.1
  have hb := C.2.1
  have hl : lv_has ls 1 [(0, .ref a0)] := hl
  unfold f_X10_isText at hf
  refine lv_aload_n hx hb dX10_isText_0 rfl (lv_at hl 0 rfl) ?_
  refine lv_iconst hx hb dX10_isText_1 ki_0 ?_
  refine x_putI C hw fa_X10_126 ta0 dX10_isText_2 (fun m101 H locs em101 hw => ?_)
  have hf := nm_el hf em101
  refine lv_aload_n hx hb dX10_isText_5 rfl (lv_at hl 0 rfl) ?_
  refine lv_iconst hx hb dX10_isText_6 ki_0 ?_
  refine x_putI C hw fa_X10_167 ta0 dX10_isText_7 (fun m102 H locs em102 hw => ?_)
  have hf := nm_el hf em102
  refine lv_aload_n hx hb dX10_isText_10 rfl (lv_at hl 0 rfl) ?_
  refine lv_iconst hx hb dX10_isText_11 ki_0 ?_
  refine x_putI C hw fa_X10_148 ta0 dX10_isText_12 (fun m103 H locs em103 hw => ?_)
  have hf := nm_el hf em103
  refine lv_aload_n hx hb dX10_isText_15 rfl (lv_at hl 0 rfl) ?_
  refine lv_iconst hx hb dX10_isText_16 ki_0 ?_
  refine x_putZ C hw fa_X10_141 ta0 (Or.inl rfl) dX10_isText_17 (fun m104 H locs em104 hw => ?_)
  have hf := nm_el hf em104
  refine lv_aload_n hx hb dX10_isText_20 rfl (lv_at hl 0 rfl) ?_
  obtain ⟨m105, cm105, hf⟩ := b1_el (o := f_X10_next a0 m104) hf
  refine x_callVv (As := []) (rest := []) C hl.1 hw cb_X10_145 cv_X10_next (k_X10_next hw.2.2.2.2 ta0 cm105) ta0 rfl rfl (by decide) ⟨Nat.le_refl _, Nat.le_refl _⟩ rfl (Nat.le_of_ble_eq_true rfl) dX10_isText_21 (fun H locs hw tm105 => ?_)
  refine lv_aload_n hx hb dX10_isText_24 rfl (lv_at hl 0 rfl) ?_
  obtain ⟨m106, cm106, hf⟩ := b1_el (o := f_X10_expression 8 a0 m105) hf
  refine x_callVv (As := []) (rest := []) C hl.1 hw cb_X10_170 cv_X10_expression (k_X10_expression 8 hw.2.2.2.2 ta0 cm106) ta0 rfl rfl (by decide) ⟨Nat.le_refl _, Nat.le_refl _⟩ rfl (Nat.le_of_ble_eq_true rfl) dX10_isText_25 (fun H locs hw tm106 => ?_)
  refine lv_aload_n hx hb dX10_isText_28 rfl (lv_at hl 0 rfl) ?_
  refine lv_aload_n hx hb dX10_isText_29 rfl (lv_at hl 0 rfl) ?_
  refine x_getZ C hw fa_X10_141 ta0 dX10_isText_30 ?_
  refine lv_if_ne (tgt := 47) hx hb dX10_isText_33 (by decide) (fun c => ?_) (fun c => ?_)
  · have hf := ifn hf c
    exact w_X10_isText_j47 C hr hk hnm ta0 ta0 (lv_sub hl [0] rfl) hw hf
  · have hf := ifp hf c
    refine lv_aload_n hx hb dX10_isText_36 rfl (lv_at hl 0 rfl) ?_
    refine x_getI C hw fa_X10_129 ta0 dX10_isText_37 ?_
    refine lv_aload_n hx hb dX10_isText_40 rfl (lv_at hl 0 rfl) ?_
    refine x_getI C hw fa_X10_122 ta0 dX10_isText_41 ?_
    refine lv_icmp_ge (tgt := 51) hx hb dX10_isText_44 (by decide) (fun c => ?_) (fun c => ?_)
    · have hf := ifp hf c
      refine lv_iconst hx hb dX10_isText_51 ki_0 ?_
      refine x_putZ C hw fa_X10_141 ta0 (Or.inl rfl) dX10_isText_52 (fun m107 H locs em107 hw => ?_)
      have hf := nm_el hf em107
      refine lv_aload_n hx hb dX10_isText_55 rfl (lv_at hl 0 rfl) ?_
      refine x_getZ C hw fa_X10_141 ta0 dX10_isText_56 ?_
      refine lv_if_ne (tgt := 66) hx hb dX10_isText_59 (by decide) (fun c => ?_) (fun c => ?_)
      · have hf := ifn hf c
        refine lv_iconst hx hb dX10_isText_66 ki_0 ?_
        exact x_retZ C hr hk (Or.inl rfl) hw  hf (by decide) (by decide) dX10_isText_67
      · have hf := ifp hf c
        refine lv_iconst hx hb dX10_isText_62 ki_1 ?_
        refine lv_goto (tgt := 67) hx hb dX10_isText_63 (by decide) ?_
        exact x_retZ C hr hk (Or.inr rfl) hw  hf (by decide) (by decide) dX10_isText_67
    · have hf := ifn hf c
      exact w_X10_isText_j47 C hr hk hnm ta0 ta0 (lv_sub hl [0] rfl) hw hf
set_option maxHeartbeats 4000000 in
set_option maxRecDepth 100000 in
theorem w_X10_keeps_h19 {p : Program} {l : Launch} {e : Env} {s : State} {m : MethodId} {args : Array Value} {below : List Frame} {meth : Method} {c : Code} {D : va_G} {E : Nat → ClassId} {tU : Nat} {m0 mE : XMem} (C : Cx p s m args c cX10_keeps 3 RX10 D E (Am m0) tU) (hr : meth.sig.returnType = ((Option.none : Option FieldType))) (hk : meth.locks = false) (hnm : meth.name = yX10_keeps.name) {a0 : Nat} {x1 : Int32} (ta0 : mT m0 a0 = some (.inl 10)) {k56 :  XMem → Option (XMem)} (hk56 : ∀  (mu : XMem) (H : Heap) (locs : List Loc) (ls : Array Slot), lv_has ls 3 [(0, .ref a0)] → Wd D E (Am m0) s (mT m0) mu H locs →   k56  mu = some mE → W p l e (rmN 1 0 0) s m args below meth c H locs 0 0 (MQ below (XQ D E (Am m0) (none) mE (mT mE = mT m0 ∧ True)) args s 0 0 (Am m0)) (F0 m 56 ls [])) : ∀ (n : Nat) (x2 : Int32) (mu : XMem) (H : Heap) (locs : List Loc) (ls : Array Slot), lv_has ls 3 [(0, .ref a0), (1, .int x1), (2, .int x2)] → Wd D E (Am m0) s (mT m0) mu H locs → f_X10_keeps_h19 a0 x1 k56 n x2 mu = some mE → W p l e (rmN 1 0 0) s m args below meth c H locs 0 0 (MQ below (XQ D E (Am m0) (none) mE (mT mE = mT m0 ∧ True)) args s 0 0 (Am m0)) (F0 m 19 ls []) := by
  have hx := C.1
  have hb := C.2.1
  intro n
  induction n with
  | zero =>
    intros
    rename_i hf
    cases hf
  | succ n ih =>
    intro x2 mu H locs ls hl hw hf
    rw [f_X10_keeps_h19] at hf
    refine lv_iload_n hx hb dX10_keeps_19 rfl (lv_at hl 2 rfl) ?_
    refine lv_aload_n hx hb dX10_keeps_20 rfl (lv_at hl 0 rfl) ?_
    refine x_getI C hw fa_X10_148 ta0 dX10_keeps_21 ?_
    refine lv_icmp_ge (tgt := 56) hx hb dX10_keeps_24 (by decide) (fun c => ?_) (fun c => ?_)
    · have hf := ifp hf c
      exact hk56 _ _ _ _ (lv_sub hl [0] rfl) hw hf
    · have hf := ifn hf c
      refine lv_aload_n hx hb dX10_keeps_27 rfl (lv_at hl 0 rfl) ?_
      obtain ⟨b106, eb106, hf⟩ := fo_el hf
      refine x_getR C hw fa_X10_7 (Or.inr ⟨_, rfl⟩) ta0 eb106 dX10_keeps_28 (fun tb106 => ?_)
      have tb106 : ∃ n, (mT m0) b106 = some (.inr (0, n)) := tb106
      refine lv_sipush hx hb dX10_keeps_31 ks_243 ?_
      refine lv_bipush hx hb dX10_keeps_34 kb_102 ?_
      refine lv_iload_n hx hb dX10_keeps_36 rfl (lv_at hl 1 rfl) ?_
      refine lv_imul hx hb dX10_keeps_37 ?_
      refine lv_iadd hx hb dX10_keeps_38 ?_
      refine lv_iconst hx hb dX10_keeps_39 ki_1 ?_
      refine lv_iadd hx hb dX10_keeps_40 ?_
      refine lv_iload_n hx hb dX10_keeps_41 rfl (lv_at hl 2 rfl) ?_
      refine lv_iadd hx hb dX10_keeps_42 ?_
      refine lv_aload_n hx hb dX10_keeps_43 rfl (lv_at hl 0 rfl) ?_
      obtain ⟨b107, eb107, hf⟩ := fo_el hf
      refine x_getR C hw fa_X10_29 (Or.inr ⟨_, rfl⟩) ta0 eb107 dX10_keeps_44 (fun tb107 => ?_)
      have tb107 : ∃ n, (mT m0) b107 = some (.inr (0, n)) := tb107
      refine lv_iload_n hx hb dX10_keeps_47 rfl (lv_at hl 2 rfl) ?_
      obtain ⟨g108, hf⟩ := gd_el hf
      refine x_iald C hw tb107 g108 dX10_keeps_48 ?_
      obtain ⟨g109, hf⟩ := gd_el hf
      refine x_iast C hw tb106 g109 dX10_keeps_49 (fun m110 H locs em110 hw => ?_)
      have hf := nm_el hf em110
      obtain ⟨x111, ex111⟩ : ∃ z : Int32, z = x2 + 1 := ⟨_, rfl⟩
      have hf := nm_el hf ex111
      refine lv_iinc (v := x111) (lv' := [(2, .int x111), (0, .ref a0), (1, .int x1)]) hx hb dX10_keeps_50 hl (k := 2) rfl (by rw [ex111, ki_1]) (by decide) rfl (fun ls hl => ?_)
      refine lv_goto (tgt := 19) hx hb dX10_keeps_53 (by decide) ?_
      exact ih _ _ _ _ _ (lv_sub hl [1, 2, 0] rfl) hw hf
set_option maxHeartbeats 4000000 in
set_option maxRecDepth 100000 in
theorem k_X10_keeps {l : Launch} {D : va_G} {E : Nat → ClassId} {tU : Nat} {τ : Nat → Option XTy} {a0 : Nat} {x1 : Int32} {m0 mE : XMem} (hm : mT m0 = τ) (ta0 : τ a0 = some (.inl 10)) (hf : f_X10_keeps a0 x1 m0 = some mE) : Ct l yX10_keeps cX10_keeps 3 ((Option.none : Option FieldType)) 1 0 0 D E tU [.ref a0, .int x1] m0 (none) mE (mT mE = mT m0 ∧ True) := by
  subst hm
  refine Ct.of (by decide) (Nat.le_of_ble_eq_true rfl) (fun p e s m below meth c ls C hr hk hnm hl hw => ?_)
  have hx := C.1
  have hb := C.2.1
  have hl : lv_has ls 3 [(0, .ref a0), (1, .int x1)] := hl
  unfold f_X10_keeps at hf
  refine lv_aload_n hx hb dX10_keeps_0 rfl (lv_at hl 0 rfl) ?_
  obtain ⟨b101, eb101, hf⟩ := fo_el hf
  refine x_getR C hw fa_X10_7 (Or.inr ⟨_, rfl⟩) ta0 eb101 dX10_keeps_1 (fun tb101 => ?_)
  have tb101 : ∃ n, (mT m0) b101 = some (.inr (0, n)) := tb101
  refine lv_sipush hx hb dX10_keeps_4 ks_243 ?_
  refine lv_bipush hx hb dX10_keeps_7 kb_102 ?_
  refine lv_iload_n hx hb dX10_keeps_9 rfl (lv_at hl 1 rfl) ?_
  refine lv_imul hx hb dX10_keeps_10 ?_
  refine lv_iadd hx hb dX10_keeps_11 ?_
  refine lv_aload_n hx hb dX10_keeps_12 rfl (lv_at hl 0 rfl) ?_
  refine x_getI C hw fa_X10_148 ta0 dX10_keeps_13 ?_
  obtain ⟨g102, hf⟩ := gd_el hf
  refine x_iast C hw tb101 g102 dX10_keeps_16 (fun m103 H locs em103 hw => ?_)
  have hf := nm_el hf em103
  refine lv_iconst hx hb dX10_keeps_17 ki_0 ?_
  refine lv_istore_n (lv' := [(2, .int 0), (0, .ref a0), (1, .int x1)]) hx hb dX10_keeps_18 rfl hl (by decide) rfl (fun ls hl => ?_)
  refine w_X10_keeps_h19 C hr hk hnm ta0 ?_ 2000 _ _ _ _ _ (lv_sub hl [1, 2, 0] rfl) hw hf
  intro m104 H locs ls hl hw hf
  refine lv_aload_n hx hb dX10_keeps_56 rfl (lv_at hl 0 rfl) ?_
  refine lv_iconst hx hb dX10_keeps_57 ki_0 ?_
  refine x_putI C hw fa_X10_122 ta0 dX10_keeps_58 (fun m105 H locs em105 hw => ?_)
  have hf := nm_el hf em105
  exact x_ret C hr hk hw  hf (by decide) (by decide) dX10_keeps_61
set_option maxHeartbeats 4000000 in
set_option maxRecDepth 100000 in
theorem k_X10_latest {l : Launch} {D : va_G} {E : Nat → ClassId} {tU : Nat} {τ : Nat → Option XTy} {a0 : Nat} {x1 : Int32} {x2 : Int32} {m0 mE : XMem} {rE : Int32} (hm : mT m0 = τ) (ta0 : τ a0 = some (.inl 10)) (hf : f_X10_latest a0 x1 x2 m0 = some (rE, mE)) : Ct l yX10_latest cX10_latest 3 ((Option.some FieldType.int)) 3 0 0 D E tU [.ref a0, .int x1, .int x2] m0 (some (.int rE)) mE (mT mE = mT m0 ∧ True) := by
  subst hm
  refine Ct.of (by decide) (Nat.le_of_ble_eq_true rfl) (fun p e s m below meth c ls C hr hk hnm hl hw => ?_)
  have hx := C.1
  have hb := C.2.1
  have hl : lv_has ls 3 [(0, .ref a0), (1, .int x1), (2, .int x2)] := hl
  unfold f_X10_latest at hf
  refine lv_aload_n hx hb dX10_latest_0 rfl (lv_at hl 0 rfl) ?_
  refine lv_iload_n hx hb dX10_latest_1 rfl (lv_at hl 1 rfl) ?_
  obtain ⟨r102, m101, cm101, hf⟩ := b2_el (o := f_X10_isCell a0 x1 m0) hf
  refine x_callVi (As := [.int x1]) (rest := []) C hl.1 hw cb_X10_76 cv_X10_isCell (k_X10_isCell hw.2.2.2.2 ta0 cm101) ta0 rfl rfl (by decide) ⟨Nat.le_refl _, Nat.le_refl _⟩ rfl (Nat.le_of_ble_eq_true rfl) dX10_latest_2 (fun H locs hw tr102 => ?_)
  refine lv_if_eq (tgt := 29) hx hb dX10_latest_5 (by decide) (fun c => ?_) (fun c => ?_)
  · have hf := ifp hf c
    refine lv_aload_n hx hb dX10_latest_29 rfl (lv_at hl 0 rfl) ?_
    refine lv_ldc hx hb C.2.2.2.1 (C.2.2.2.2.1 _ ki_X10_61) dX10_latest_30 ?_
    obtain ⟨r104, m103, cm103, hf⟩ := b2_el (o := f_X10_finds a0 (-1000000001) m101) hf
    refine x_callVi (As := [.int (-1000000001)]) (rest := []) C hl.1 hw cb_X10_67 cv_X10_finds (k_X10_finds hw.2.2.2.2 ta0 cm103) ta0 rfl rfl (by decide) ⟨Nat.le_refl _, Nat.le_refl _⟩ rfl (Nat.le_of_ble_eq_true rfl) dX10_latest_32 (fun H locs hw tr104 => ?_)
    exact x_retI C hr hk hw  hf (by decide) (by decide) dX10_latest_35
  · have hf := ifn hf c
    refine lv_iload_n hx hb dX10_latest_8 rfl (lv_at hl 2 rfl) ?_
    refine lv_iconst hx hb dX10_latest_9 ki_0 ?_
    refine lv_iconst hx hb dX10_latest_10 ki_4 ?_
    obtain ⟨r106, m105, cm105, hf⟩ := b2_el (o := f_X10_within x2 0 4 m101) hf
    refine x_callSi (As := [.int x2, .int 0, .int 4]) (rest := []) C hl.1 hw cb_X10_62 cs_X10_within (k_X10_within hw.2.2.2.2  cm105) rfl (by decide) ⟨Nat.le_refl _, Nat.le_refl _⟩ rfl (Nat.le_of_ble_eq_true rfl) dX10_latest_11 (fun H locs hw tr106 => ?_)
    refine lv_if_eq (tgt := 29) hx hb dX10_latest_14 (by decide) (fun c => ?_) (fun c => ?_)
    · have hf := ifp hf c
      refine lv_aload_n hx hb dX10_latest_29 rfl (lv_at hl 0 rfl) ?_
      refine lv_ldc hx hb C.2.2.2.1 (C.2.2.2.2.1 _ ki_X10_61) dX10_latest_30 ?_
      obtain ⟨r108, m107, cm107, hf⟩ := b2_el (o := f_X10_finds a0 (-1000000001) m105) hf
      refine x_callVi (As := [.int (-1000000001)]) (rest := []) C hl.1 hw cb_X10_67 cv_X10_finds (k_X10_finds hw.2.2.2.2 ta0 cm107) ta0 rfl rfl (by decide) ⟨Nat.le_refl _, Nat.le_refl _⟩ rfl (Nat.le_of_ble_eq_true rfl) dX10_latest_32 (fun H locs hw tr108 => ?_)
      exact x_retI C hr hk hw  hf (by decide) (by decide) dX10_latest_35
    · have hf := ifn hf c
      refine lv_aload_n hx hb dX10_latest_17 rfl (lv_at hl 0 rfl) ?_
      refine lv_iload_n hx hb dX10_latest_18 rfl (lv_at hl 1 rfl) ?_
      refine lv_bipush hx hb dX10_latest_19 kb_8 ?_
      refine lv_iload_n hx hb dX10_latest_21 rfl (lv_at hl 2 rfl) ?_
      refine lv_iadd hx hb dX10_latest_22 ?_
      obtain ⟨r110, m109, cm109, hf⟩ := b2_el (o := f_X10_ofCell a0 x1 (8 + x2) m105) hf
      refine x_callVi (As := [.int x1, .int (8 + x2)]) (rest := []) C hl.1 hw cb_X10_80 cv_X10_ofCell (k_X10_ofCell hw.2.2.2.2 ta0 cm109) ta0 rfl rfl (by decide) ⟨Nat.le_refl _, Nat.le_refl _⟩ rfl (Nat.le_of_ble_eq_true rfl) dX10_latest_23 (fun H locs hw tr110 => ?_)
      refine lv_goto (tgt := 35) hx hb dX10_latest_26 (by decide) ?_
      exact x_retI C hr hk hw  hf (by decide) (by decide) dX10_latest_35
set_option maxHeartbeats 4000000 in
set_option maxRecDepth 100000 in
theorem k_X10_law {l : Launch} {D : va_G} {E : Nat → ClassId} {tU : Nat} {τ : Nat → Option XTy} {a0 : Nat} {x1 : Int32} {m0 mE : XMem} {rE : Int32} (hm : mT m0 = τ) (ta0 : τ a0 = some (.inl 10)) (hf : f_X10_law a0 x1 m0 = some (rE, mE)) : Ct l yX10_law cX10_law 2 ((Option.some FieldType.int)) 14 0 0 D E tU [.ref a0, .int x1] m0 (some (.int rE)) mE (mT mE = mT m0 ∧ True) := by
  subst hm
  refine Ct.of (by decide) (Nat.le_of_ble_eq_true rfl) (fun p e s m below meth c ls C hr hk hnm hl hw => ?_)
  have hx := C.1
  have hb := C.2.1
  have hl : lv_has ls 2 [(0, .ref a0), (1, .int x1)] := hl
  unfold f_X10_law at hf
  refine lv_iload_n hx hb dX10_law_0 rfl (lv_at hl 1 rfl) ?_
  refine lv_iconst hx hb dX10_law_1 ki_0 ?_
  refine lv_sipush hx hb dX10_law_2 ks_999 ?_
  obtain ⟨r102, m101, cm101, hf⟩ := b2_el (o := f_X10_within x1 0 999 m0) hf
  refine x_callSi (As := [.int x1, .int 0, .int 999]) (rest := []) C hl.1 hw cb_X10_62 cs_X10_within (k_X10_within hw.2.2.2.2  cm101) rfl (by decide) ⟨Nat.le_refl _, Nat.le_refl _⟩ rfl (Nat.le_of_ble_eq_true rfl) dX10_law_5 (fun H locs hw tr102 => ?_)
  refine lv_if_ne (tgt := 18) hx hb dX10_law_8 (by decide) (fun c => ?_) (fun c => ?_)
  · have hf := ifn hf c
    refine lv_aload_n hx hb dX10_law_18 rfl (lv_at hl 0 rfl) ?_
    obtain ⟨b103, eb103, hf⟩ := fo_el hf
    refine x_getR C hw fa_X10_7 (Or.inr ⟨_, rfl⟩) ta0 eb103 dX10_law_19 (fun tb103 => ?_)
    have tb103 : ∃ n, (mT m0) b103 = some (.inr (0, n)) := tb103
    refine lv_iconst hx hb dX10_law_22 ki_2 ?_
    obtain ⟨g104, hf⟩ := gd_el hf
    refine x_iald C hw tb103 g104 dX10_law_23 ?_
    refine lv_bipush hx hb dX10_law_24 kb_6 ?_
    refine lv_icmp_ne (tgt := 36) hx hb dX10_law_26 (by decide) (fun c => ?_) (fun c => ?_)
    · have hf := ifn hf c
      refine lv_aload_n hx hb dX10_law_36 rfl (lv_at hl 0 rfl) ?_
      obtain ⟨r106, m105, cm105, hf⟩ := b2_el (o := f_X10_isText a0 m101) hf
      refine x_callVi (As := []) (rest := []) C hl.1 hw cb_X10_173 cv_X10_isText (k_X10_isText hw.2.2.2.2 ta0 cm105) ta0 rfl rfl (by decide) ⟨Nat.le_refl _, Nat.le_refl _⟩ rfl (Nat.le_of_ble_eq_true rfl) dX10_law_37 (fun H locs hw tr106 => ?_)
      refine lv_if_ne (tgt := 50) hx hb dX10_law_40 (by decide) (fun c => ?_) (fun c => ?_)
      · have hf := ifn hf c
        refine lv_aload_n hx hb dX10_law_50 rfl (lv_at hl 0 rfl) ?_
        refine lv_aload_n hx hb dX10_law_51 rfl (lv_at hl 0 rfl) ?_
        obtain ⟨b107, eb107, hf⟩ := fo_el hf
        refine x_getR C hw fa_X10_7 (Or.inr ⟨_, rfl⟩) ta0 eb107 dX10_law_52 (fun tb107 => ?_)
        have tb107 : ∃ n, (mT m0) b107 = some (.inr (0, n)) := tb107
        refine lv_iconst hx hb dX10_law_55 ki_2 ?_
        obtain ⟨g108, hf⟩ := gd_el hf
        refine x_iald C hw tb107 g108 dX10_law_56 ?_
        obtain ⟨m109, cm109, hf⟩ := b1_el (o := f_X10_keeps a0 (mI m105 b107 (Int32.toNatClampNeg 2)) m105) hf
        refine x_callVv (As := [.int (mI m105 b107 (Int32.toNatClampNeg 2))]) (rest := []) C hl.1 hw cb_X10_177 cv_X10_keeps (k_X10_keeps hw.2.2.2.2 ta0 cm109) ta0 rfl rfl (by decide) ⟨Nat.le_refl _, Nat.le_refl _⟩ rfl (Nat.le_of_ble_eq_true rfl) dX10_law_57 (fun H locs hw tm109 => ?_)
        refine lv_aload_n hx hb dX10_law_60 rfl (lv_at hl 0 rfl) ?_
        obtain ⟨b110, eb110, hf⟩ := fo_el hf
        refine x_getR C hw fa_X10_7 (Or.inr ⟨_, rfl⟩) ta0 eb110 dX10_law_61 (fun tb110 => ?_)
        have tb110 : ∃ n, (mT m0) b110 = some (.inr (0, n)) := tb110
        refine lv_iconst hx hb dX10_law_64 ki_5 ?_
        refine lv_aload_n hx hb dX10_law_65 rfl (lv_at hl 0 rfl) ?_
        obtain ⟨b111, eb111, hf⟩ := fo_el hf
        refine x_getR C hw fa_X10_7 (Or.inr ⟨_, rfl⟩) ta0 eb111 dX10_law_66 (fun tb111 => ?_)
        have tb111 : ∃ n, (mT m0) b111 = some (.inr (0, n)) := tb111
        refine lv_iconst hx hb dX10_law_69 ki_2 ?_
        obtain ⟨g112, hf⟩ := gd_el hf
        refine x_iald C hw tb111 g112 dX10_law_70 ?_
        refine lv_iadd hx hb dX10_law_71 ?_
        refine lv_iload_n hx hb dX10_law_72 rfl (lv_at hl 1 rfl) ?_
        obtain ⟨g113, hf⟩ := gd_el hf
        refine x_iast C hw tb110 g113 dX10_law_73 (fun m114 H locs em114 hw => ?_)
        have hf := nm_el hf em114
        refine lv_aload_n hx hb dX10_law_74 rfl (lv_at hl 0 rfl) ?_
        obtain ⟨b115, eb115, hf⟩ := fo_el hf
        refine x_getR C hw fa_X10_7 (Or.inr ⟨_, rfl⟩) ta0 eb115 dX10_law_75 (fun tb115 => ?_)
        have tb115 : ∃ n, (mT m0) b115 = some (.inr (0, n)) := tb115
        refine lv_iconst hx hb dX10_law_78 ki_2 ?_
        refine lv_dup2_11 hx hb dX10_law_79 rfl rfl ?_
        obtain ⟨g116, hf⟩ := gd_el hf
        refine x_iald C hw tb115 g116 dX10_law_80 ?_
        refine lv_iconst hx hb dX10_law_81 ki_1 ?_
        refine lv_iadd hx hb dX10_law_82 ?_
        obtain ⟨g117, hf⟩ := gd_el hf
        refine x_iast C hw tb115 g117 dX10_law_83 (fun m118 H locs em118 hw => ?_)
        have hf := nm_el hf em118
        refine lv_aload_n hx hb dX10_law_84 rfl (lv_at hl 0 rfl) ?_
        obtain ⟨b119, eb119, hf⟩ := fo_el hf
        refine x_getR C hw fa_X10_7 (Or.inr ⟨_, rfl⟩) ta0 eb119 dX10_law_85 (fun tb119 => ?_)
        have tb119 : ∃ n, (mT m0) b119 = some (.inr (0, n)) := tb119
        refine lv_iconst hx hb dX10_law_88 ki_2 ?_
        obtain ⟨g120, hf⟩ := gd_el hf
        refine x_iald C hw tb119 g120 dX10_law_89 ?_
        refine lv_iconst hx hb dX10_law_90 ki_1 ?_
        refine lv_isub hx hb dX10_law_91 ?_
        exact x_retI C hr hk hw  hf (by decide) (by decide) dX10_law_92
      · have hf := ifp hf c
        refine lv_iconst hx hb dX10_law_43 ki_m1 ?_
        refine lv_aload_n hx hb dX10_law_44 rfl (lv_at hl 0 rfl) ?_
        refine x_getI C hw fa_X10_129 ta0 dX10_law_45 ?_
        refine lv_isub hx hb dX10_law_48 ?_
        exact x_retI C hr hk hw  hf (by decide) (by decide) dX10_law_49
    · have hf := ifp hf c
      refine lv_aload_n hx hb dX10_law_29 rfl (lv_at hl 0 rfl) ?_
      refine lv_ldc hx hb C.2.2.2.1 (C.2.2.2.2.1 _ ki_X10_71) dX10_law_30 ?_
      obtain ⟨r122, m121, cm121, hf⟩ := b2_el (o := f_X10_finds a0 (-1000000002) m101) hf
      refine x_callVi (As := [.int (-1000000002)]) (rest := []) C hl.1 hw cb_X10_67 cv_X10_finds (k_X10_finds hw.2.2.2.2 ta0 cm121) ta0 rfl rfl (by decide) ⟨Nat.le_refl _, Nat.le_refl _⟩ rfl (Nat.le_of_ble_eq_true rfl) dX10_law_32 (fun H locs hw tr122 => ?_)
      exact x_retI C hr hk hw  hf (by decide) (by decide) dX10_law_35
  · have hf := ifp hf c
    refine lv_aload_n hx hb dX10_law_11 rfl (lv_at hl 0 rfl) ?_
    refine lv_ldc hx hb C.2.2.2.1 (C.2.2.2.2.1 _ ki_X10_61) dX10_law_12 ?_
    obtain ⟨r124, m123, cm123, hf⟩ := b2_el (o := f_X10_finds a0 (-1000000001) m101) hf
    refine x_callVi (As := [.int (-1000000001)]) (rest := []) C hl.1 hw cb_X10_67 cv_X10_finds (k_X10_finds hw.2.2.2.2 ta0 cm123) ta0 rfl rfl (by decide) ⟨Nat.le_refl _, Nat.le_refl _⟩ rfl (Nat.le_of_ble_eq_true rfl) dX10_law_14 (fun H locs hw tr124 => ?_)
    exact x_retI C hr hk hw  hf (by decide) (by decide) dX10_law_17
set_option maxHeartbeats 4000000 in
set_option maxRecDepth 100000 in
theorem k_X10_line {l : Launch} {D : va_G} {E : Nat → ClassId} {tU : Nat} {τ : Nat → Option XTy} {a0 : Nat} {x1 : Int32} {x2 : Int32} {m0 mE : XMem} {rE : Int32} (hm : mT m0 = τ) (ta0 : τ a0 = some (.inl 10)) (hf : f_X10_line a0 x1 x2 m0 = some (rE, mE)) : Ct l yX10_line cX10_line 4 ((Option.some FieldType.int)) 3 0 0 D E tU [.ref a0, .int x1, .int x2] m0 (some (.int rE)) mE (mT mE = mT m0 ∧ True) := by
  subst hm
  refine Ct.of (by decide) (Nat.le_of_ble_eq_true rfl) (fun p e s m below meth c ls C hr hk hnm hl hw => ?_)
  have hx := C.1
  have hb := C.2.1
  have hl : lv_has ls 4 [(0, .ref a0), (1, .int x1), (2, .int x2)] := hl
  unfold f_X10_line at hf
  refine lv_aload_n hx hb dX10_line_0 rfl (lv_at hl 0 rfl) ?_
  refine lv_iload_n hx hb dX10_line_1 rfl (lv_at hl 1 rfl) ?_
  obtain ⟨r102, m101, cm101, hf⟩ := b2_el (o := f_X10_isHouse a0 x1 m0) hf
  refine x_callVi (As := [.int x1]) (rest := []) C hl.1 hw cb_X10_204 cv_X10_isHouse (k_X10_isHouse hw.2.2.2.2 ta0 cm101) ta0 rfl rfl (by decide) ⟨Nat.le_refl _, Nat.le_refl _⟩ rfl (Nat.le_of_ble_eq_true rfl) dX10_line_2 (fun H locs hw tr102 => ?_)
  refine lv_if_eq (tgt := 19) hx hb dX10_line_5 (by decide) (fun c => ?_) (fun c => ?_)
  · have hf := ifp hf c
    refine lv_aload_n hx hb dX10_line_19 rfl (lv_at hl 0 rfl) ?_
    refine lv_ldc hx hb C.2.2.2.1 (C.2.2.2.2.1 _ ki_X10_61) dX10_line_20 ?_
    obtain ⟨r104, m103, cm103, hf⟩ := b2_el (o := f_X10_finds a0 (-1000000001) m101) hf
    refine x_callVi (As := [.int (-1000000001)]) (rest := []) C hl.1 hw cb_X10_67 cv_X10_finds (k_X10_finds hw.2.2.2.2 ta0 cm103) ta0 rfl rfl (by decide) ⟨Nat.le_refl _, Nat.le_refl _⟩ rfl (Nat.le_of_ble_eq_true rfl) dX10_line_22 (fun H locs hw tr104 => ?_)
    exact x_retI C hr hk hw  hf (by decide) (by decide) dX10_line_25
  · have hf := ifn hf c
    refine lv_iload_n hx hb dX10_line_8 rfl (lv_at hl 2 rfl) ?_
    refine lv_iconst hx hb dX10_line_9 ki_0 ?_
    refine lv_sipush hx hb dX10_line_10 ks_999 ?_
    obtain ⟨r106, m105, cm105, hf⟩ := b2_el (o := f_X10_within x2 0 999 m101) hf
    refine x_callSi (As := [.int x2, .int 0, .int 999]) (rest := []) C hl.1 hw cb_X10_62 cs_X10_within (k_X10_within hw.2.2.2.2  cm105) rfl (by decide) ⟨Nat.le_refl _, Nat.le_refl _⟩ rfl (Nat.le_of_ble_eq_true rfl) dX10_line_13 (fun H locs hw tr106 => ?_)
    refine lv_if_ne (tgt := 26) hx hb dX10_line_16 (by decide) (fun c => ?_) (fun c => ?_)
    · have hf := ifn hf c
      refine lv_aload_n hx hb dX10_line_26 rfl (lv_at hl 0 rfl) ?_
      refine lv_iload_n hx hb dX10_line_27 rfl (lv_at hl 1 rfl) ?_
      refine lv_bipush hx hb dX10_line_28 kb_9 ?_
      obtain ⟨r108, m107, cm107, hf⟩ := b2_el (o := f_X10_ofHouse a0 x1 9 m105) hf
      refine x_callVi (As := [.int x1, .int 9]) (rest := []) C hl.1 hw cb_X10_197 cv_X10_ofHouse (k_X10_ofHouse hw.2.2.2.2 ta0 cm107) ta0 rfl rfl (by decide) ⟨Nat.le_refl _, Nat.le_refl _⟩ rfl (Nat.le_of_ble_eq_true rfl) dX10_line_30 (fun H locs hw tr108 => ?_)
      refine lv_istore_n (lv' := [(3, .int r108), (0, .ref a0), (1, .int x1), (2, .int x2)]) hx hb dX10_line_33 rfl hl (by decide) rfl (fun ls hl => ?_)
      refine lv_aload_n hx hb dX10_line_34 rfl (lv_at hl 1 rfl) ?_
      refine lv_iload_n hx hb dX10_line_35 rfl (lv_at hl 2 rfl) ?_
      refine lv_bipush hx hb dX10_line_36 kb_11 ?_
      refine lv_aload_n hx hb dX10_line_38 rfl (lv_at hl 1 rfl) ?_
      refine lv_iload_n hx hb dX10_line_39 rfl (lv_at hl 2 rfl) ?_
      refine lv_bipush hx hb dX10_line_40 kb_11 ?_
      obtain ⟨r110, m109, cm109, hf⟩ := b2_el (o := f_X10_ofHouse a0 x1 11 m107) hf
      refine x_callVi (As := [.int x1, .int 11]) (rest := [.int 11, .int x1, .ref a0]) C hl.1 hw cb_X10_197 cv_X10_ofHouse (k_X10_ofHouse hw.2.2.2.2 ta0 cm109) ta0 rfl rfl (by decide) ⟨Nat.le_refl _, Nat.le_refl _⟩ rfl (Nat.le_of_ble_eq_true rfl) dX10_line_42 (fun H locs hw tr110 => ?_)
      refine lv_aload_n hx hb dX10_line_45 rfl (lv_at hl 1 rfl) ?_
      refine lv_iload_n hx hb dX10_line_46 rfl (lv_at hl 2 rfl) ?_
      refine lv_bipush hx hb dX10_line_47 kb_10 ?_
      obtain ⟨r112, m111, cm111, hf⟩ := b2_el (o := f_X10_ofHouse a0 x1 10 m109) hf
      refine x_callVi (As := [.int x1, .int 10]) (rest := [.int r110, .int 11, .int x1, .ref a0]) C hl.1 hw cb_X10_197 cv_X10_ofHouse (k_X10_ofHouse hw.2.2.2.2 ta0 cm111) ta0 rfl rfl (by decide) ⟨Nat.le_refl _, Nat.le_refl _⟩ rfl (Nat.le_of_ble_eq_true rfl) dX10_line_49 (fun H locs hw tr112 => ?_)
      refine lv_iconst hx hb dX10_line_52 ki_1 ?_
      refine lv_icmp_ne (tgt := 65) hx hb dX10_line_53 (by decide) (fun c => ?_) (fun c => ?_)
      · have hf := ifn hf c
        refine lv_iconst hx hb dX10_line_65 ki_0 ?_
        refine lv_iadd hx hb dX10_line_66 ?_
        obtain ⟨m113, cm113, hf⟩ := b1_el (o := f_X10_setHouse a0 x1 11 (r110 + 0) m111) hf
        refine x_callVv (As := [.int x1, .int 11, .int (r110 + 0)]) (rest := []) C hl.1 hw cb_X10_194 cv_X10_setHouse (k_X10_setHouse hw.2.2.2.2 ta0 cm113) ta0 rfl rfl (by decide) ⟨Nat.le_refl _, Nat.le_refl _⟩ rfl (Nat.le_of_ble_eq_true rfl) dX10_line_67 (fun H locs hw tm113 => ?_)
        refine lv_aload_n hx hb dX10_line_70 rfl (lv_at hl 1 rfl) ?_
        refine lv_iload_n hx hb dX10_line_71 rfl (lv_at hl 2 rfl) ?_
        refine lv_bipush hx hb dX10_line_72 kb_9 ?_
        refine lv_iload_n hx hb dX10_line_74 rfl (lv_at hl 3 rfl) ?_
        obtain ⟨m114, cm114, hf⟩ := b1_el (o := f_X10_setHouse a0 x1 9 x2 m113) hf
        refine x_callVv (As := [.int x1, .int 9, .int x2]) (rest := []) C hl.1 hw cb_X10_194 cv_X10_setHouse (k_X10_setHouse hw.2.2.2.2 ta0 cm114) ta0 rfl rfl (by decide) ⟨Nat.le_refl _, Nat.le_refl _⟩ rfl (Nat.le_of_ble_eq_true rfl) dX10_line_75 (fun H locs hw tm114 => ?_)
        refine lv_iload_n hx hb dX10_line_78 rfl (lv_at hl 0 rfl) ?_
        exact x_retI C hr hk hw  hf (by decide) (by decide) dX10_line_79
      · have hf := ifp hf c
        refine lv_iload_n hx hb dX10_line_56 rfl (lv_at hl 3 rfl) ?_
        refine lv_iload_n hx hb dX10_line_57 rfl (lv_at hl 0 rfl) ?_
        refine lv_icmp_eq (tgt := 65) hx hb dX10_line_58 (by decide) (fun c => ?_) (fun c => ?_)
        · have hf := ifp hf c
          refine lv_iconst hx hb dX10_line_65 ki_0 ?_
          refine lv_iadd hx hb dX10_line_66 ?_
          obtain ⟨m115, cm115, hf⟩ := b1_el (o := f_X10_setHouse a0 x1 11 (r110 + 0) m111) hf
          refine x_callVv (As := [.int x1, .int 11, .int (r110 + 0)]) (rest := []) C hl.1 hw cb_X10_194 cv_X10_setHouse (k_X10_setHouse hw.2.2.2.2 ta0 cm115) ta0 rfl rfl (by decide) ⟨Nat.le_refl _, Nat.le_refl _⟩ rfl (Nat.le_of_ble_eq_true rfl) dX10_line_67 (fun H locs hw tm115 => ?_)
          refine lv_aload_n hx hb dX10_line_70 rfl (lv_at hl 1 rfl) ?_
          refine lv_iload_n hx hb dX10_line_71 rfl (lv_at hl 2 rfl) ?_
          refine lv_bipush hx hb dX10_line_72 kb_9 ?_
          refine lv_iload_n hx hb dX10_line_74 rfl (lv_at hl 3 rfl) ?_
          obtain ⟨m116, cm116, hf⟩ := b1_el (o := f_X10_setHouse a0 x1 9 x2 m115) hf
          refine x_callVv (As := [.int x1, .int 9, .int x2]) (rest := []) C hl.1 hw cb_X10_194 cv_X10_setHouse (k_X10_setHouse hw.2.2.2.2 ta0 cm116) ta0 rfl rfl (by decide) ⟨Nat.le_refl _, Nat.le_refl _⟩ rfl (Nat.le_of_ble_eq_true rfl) dX10_line_75 (fun H locs hw tm116 => ?_)
          refine lv_iload_n hx hb dX10_line_78 rfl (lv_at hl 0 rfl) ?_
          exact x_retI C hr hk hw  hf (by decide) (by decide) dX10_line_79
        · have hf := ifn hf c
          refine lv_iconst hx hb dX10_line_61 ki_1 ?_
          refine lv_goto (tgt := 66) hx hb dX10_line_62 (by decide) ?_
          refine lv_iadd hx hb dX10_line_66 ?_
          obtain ⟨m117, cm117, hf⟩ := b1_el (o := f_X10_setHouse a0 x1 11 (r110 + 1) m111) hf
          refine x_callVv (As := [.int x1, .int 11, .int (r110 + 1)]) (rest := []) C hl.1 hw cb_X10_194 cv_X10_setHouse (k_X10_setHouse hw.2.2.2.2 ta0 cm117) ta0 rfl rfl (by decide) ⟨Nat.le_refl _, Nat.le_refl _⟩ rfl (Nat.le_of_ble_eq_true rfl) dX10_line_67 (fun H locs hw tm117 => ?_)
          refine lv_aload_n hx hb dX10_line_70 rfl (lv_at hl 1 rfl) ?_
          refine lv_iload_n hx hb dX10_line_71 rfl (lv_at hl 2 rfl) ?_
          refine lv_bipush hx hb dX10_line_72 kb_9 ?_
          refine lv_iload_n hx hb dX10_line_74 rfl (lv_at hl 3 rfl) ?_
          obtain ⟨m118, cm118, hf⟩ := b1_el (o := f_X10_setHouse a0 x1 9 x2 m117) hf
          refine x_callVv (As := [.int x1, .int 9, .int x2]) (rest := []) C hl.1 hw cb_X10_194 cv_X10_setHouse (k_X10_setHouse hw.2.2.2.2 ta0 cm118) ta0 rfl rfl (by decide) ⟨Nat.le_refl _, Nat.le_refl _⟩ rfl (Nat.le_of_ble_eq_true rfl) dX10_line_75 (fun H locs hw tm118 => ?_)
          refine lv_iload_n hx hb dX10_line_78 rfl (lv_at hl 0 rfl) ?_
          exact x_retI C hr hk hw  hf (by decide) (by decide) dX10_line_79
    · have hf := ifp hf c
      refine lv_aload_n hx hb dX10_line_19 rfl (lv_at hl 0 rfl) ?_
      refine lv_ldc hx hb C.2.2.2.1 (C.2.2.2.2.1 _ ki_X10_61) dX10_line_20 ?_
      obtain ⟨r120, m119, cm119, hf⟩ := b2_el (o := f_X10_finds a0 (-1000000001) m105) hf
      refine x_callVi (As := [.int (-1000000001)]) (rest := []) C hl.1 hw cb_X10_67 cv_X10_finds (k_X10_finds hw.2.2.2.2 ta0 cm119) ta0 rfl rfl (by decide) ⟨Nat.le_refl _, Nat.le_refl _⟩ rfl (Nat.le_of_ble_eq_true rfl) dX10_line_22 (fun H locs hw tr120 => ?_)
      exact x_retI C hr hk hw  hf (by decide) (by decide) dX10_line_25
