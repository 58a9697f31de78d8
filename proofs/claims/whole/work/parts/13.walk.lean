set_option maxHeartbeats 4000000 in
set_option maxRecDepth 100000 in
theorem k_X10_within {l : Launch} {D : va_G} {E : Nat → ClassId} {tU : Nat} {τ : Nat → Option XTy} {x0 : Int32} {x1 : Int32} {x2 : Int32} {m0 mE : XMem} {rE : Int32} (hm : mT m0 = τ)  (hf : f_X10_within x0 x1 x2 m0 = some (rE, mE)) : Ct l yX10_within cX10_within 3 ((Option.some FieldType.boolean)) 1 0 0 D E tU [.int x0, .int x1, .int x2] m0 (some (.int rE)) mE (mT mE = mT m0 ∧ (rE = 0 ∨ rE = 1)) := by
  subst hm
  refine Ct.of (by decide) (Nat.le_of_ble_eq_true rfl) (fun p e s m below meth c ls C hr hk hnm hl hw => ?_)
  have hx := C.1
  have hb := C.2.1
  have hl : lv_has ls 3 [(0, .int x0), (1, .int x1), (2, .int x2)] := hl
  unfold f_X10_within at hf
  refine lv_iload_n hx hb dX10_within_0 rfl (lv_at hl 0 rfl) ?_
  refine lv_iload_n hx hb dX10_within_1 rfl (lv_at hl 1 rfl) ?_
  refine lv_icmp_lt (tgt := 14) hx hb dX10_within_2 (by decide) (fun c => ?_) (fun c => ?_)
  · have hf := ifp hf c
    refine lv_iconst hx hb dX10_within_14 ki_0 ?_
    exact x_retZ C hr hk (Or.inl rfl) hw  hf (by decide) (by decide) dX10_within_15
  · have hf := ifn hf c
    refine lv_iload_n hx hb dX10_within_5 rfl (lv_at hl 0 rfl) ?_
    refine lv_iload_n hx hb dX10_within_6 rfl (lv_at hl 2 rfl) ?_
    refine lv_icmp_gt (tgt := 14) hx hb dX10_within_7 (by decide) (fun c => ?_) (fun c => ?_)
    · have hf := ifp hf c
      refine lv_iconst hx hb dX10_within_14 ki_0 ?_
      exact x_retZ C hr hk (Or.inl rfl) hw  hf (by decide) (by decide) dX10_within_15
    · have hf := ifn hf c
      refine lv_iconst hx hb dX10_within_10 ki_1 ?_
      refine lv_goto (tgt := 15) hx hb dX10_within_11 (by decide) ?_
      exact x_retZ C hr hk (Or.inr rfl) hw  hf (by decide) (by decide) dX10_within_15
set_option maxHeartbeats 4000000 in
set_option maxRecDepth 100000 in
theorem k_X10_isCell {l : Launch} {D : va_G} {E : Nat → ClassId} {tU : Nat} {τ : Nat → Option XTy} {a0 : Nat} {x1 : Int32} {m0 mE : XMem} {rE : Int32} (hm : mT m0 = τ) (ta0 : τ a0 = some (.inl 10)) (hf : f_X10_isCell a0 x1 m0 = some (rE, mE)) : Ct l yX10_isCell cX10_isCell 2 ((Option.some FieldType.boolean)) 2 0 0 D E tU [.ref a0, .int x1] m0 (some (.int rE)) mE (mT mE = mT m0 ∧ (rE = 0 ∨ rE = 1)) := by
  subst hm
  refine Ct.of (by decide) (Nat.le_of_ble_eq_true rfl) (fun p e s m below meth c ls C hr hk hnm hl hw => ?_)
  have hx := C.1
  have hb := C.2.1
  have hl : lv_has ls 2 [(0, .ref a0), (1, .int x1)] := hl
  unfold f_X10_isCell at hf
  refine lv_iload_n hx hb dX10_isCell_0 rfl (lv_at hl 1 rfl) ?_
  refine lv_iconst hx hb dX10_isCell_1 ki_0 ?_
  refine lv_aload_n hx hb dX10_isCell_2 rfl (lv_at hl 0 rfl) ?_
  obtain ⟨b101, eb101, hf⟩ := fo_el hf
  refine x_getR C hw fa_X10_7 (Or.inr ⟨_, rfl⟩) ta0 eb101 dX10_isCell_3 (fun tb101 => ?_)
  have tb101 : ∃ n, (mT m0) b101 = some (.inr (0, n)) := tb101
  refine lv_iconst hx hb dX10_isCell_6 ki_1 ?_
  obtain ⟨g102, hf⟩ := gd_el hf
  refine x_iald C hw tb101 g102 dX10_isCell_7 ?_
  refine lv_iconst hx hb dX10_isCell_8 ki_1 ?_
  refine lv_isub hx hb dX10_isCell_9 ?_
  obtain ⟨r104, m103, cm103, hf⟩ := b2_el (o := f_X10_within x1 0 ((mI m0 b101 (Int32.toNatClampNeg 1)) - 1) m0) hf
  refine x_callSi (As := [.int x1, .int 0, .int ((mI m0 b101 (Int32.toNatClampNeg 1)) - 1)]) (rest := []) C hl.1 hw cb_X10_62 cs_X10_within (k_X10_within hw.2.2.2.2  cm103) rfl (by decide) ⟨Nat.le_refl _, Nat.le_refl _⟩ rfl (Nat.le_of_ble_eq_true rfl) dX10_isCell_10 (fun H locs hw tr104 => ?_)
  exact x_retZ C hr hk tr104 hw  hf (by decide) (by decide) dX10_isCell_13
set_option maxHeartbeats 4000000 in
set_option maxRecDepth 100000 in
theorem k_X10_finds {l : Launch} {D : va_G} {E : Nat → ClassId} {tU : Nat} {τ : Nat → Option XTy} {a0 : Nat} {x1 : Int32} {m0 mE : XMem} {rE : Int32} (hm : mT m0 = τ) (ta0 : τ a0 = some (.inl 10)) (hf : f_X10_finds a0 x1 m0 = some (rE, mE)) : Ct l yX10_finds cX10_finds 2 ((Option.some FieldType.int)) 1 0 0 D E tU [.ref a0, .int x1] m0 (some (.int rE)) mE (mT mE = mT m0 ∧ True) := by
  subst hm
  refine Ct.of (by decide) (Nat.le_of_ble_eq_true rfl) (fun p e s m below meth c ls C hr hk hnm hl hw => ?_)
  have hx := C.1
  have hb := C.2.1
  have hl : lv_has ls 2 [(0, .ref a0), (1, .int x1)] := hl
  unfold f_X10_finds at hf
  refine lv_aload_n hx hb dX10_finds_0 rfl (lv_at hl 0 rfl) ?_
  obtain ⟨b101, eb101, hf⟩ := fo_el hf
  refine x_getR C hw fa_X10_23 (Or.inr ⟨_, rfl⟩) ta0 eb101 dX10_finds_1 (fun tb101 => ?_)
  have tb101 : ∃ n, (mT m0) b101 = some (.inr (0, n)) := tb101
  refine lv_ldc hx hb C.2.2.2.1 (C.2.2.2.2.1 _ ki_X10_61) dX10_finds_4 ?_
  refine lv_iload_n hx hb dX10_finds_6 rfl (lv_at hl 1 rfl) ?_
  refine lv_isub hx hb dX10_finds_7 ?_
  refine lv_dup2_11 hx hb dX10_finds_8 rfl rfl ?_
  obtain ⟨g102, hf⟩ := gd_el hf
  refine x_iald C hw tb101 g102 dX10_finds_9 ?_
  refine lv_iconst hx hb dX10_finds_10 ki_1 ?_
  refine lv_iadd hx hb dX10_finds_11 ?_
  obtain ⟨g103, hf⟩ := gd_el hf
  refine x_iast C hw tb101 g103 dX10_finds_12 (fun m104 H locs em104 hw => ?_)
  have hf := nm_el hf em104
  refine lv_iload_n hx hb dX10_finds_13 rfl (lv_at hl 1 rfl) ?_
  exact x_retI C hr hk hw  hf (by decide) (by decide) dX10_finds_14
set_option maxHeartbeats 4000000 in
set_option maxRecDepth 100000 in
theorem w_X10_as_j48 {p : Program} {l : Launch} {e : Env} {s : State} {m : MethodId} {args : Array Value} {below : List Frame} {meth : Method} {c : Code} {D : va_G} {E : Nat → ClassId} {tU : Nat} {m0 mE : XMem} {rE : Int32} (C : Cx p s m args c cX10_as 4 RX10 D E (Am m0) tU) (hr : meth.sig.returnType = ((Option.some FieldType.int))) (hk : meth.locks = false) (hnm : meth.name = yX10_as.name) {a0 : Nat} {x1 : Int32} {x3 : Int32} {mu : XMem} {H : Heap} {locs : List Loc} {ls : Array Slot} (ta0 : mT m0 a0 = some (.inl 10)) (hl : lv_has ls 4 [(0, .ref a0), (1, .int x1), (3, .int x3)]) (hw : Wd D E (Am m0) s (mT m0) mu H locs) (hf : f_X10_as_j48 a0 x1 x3 mu = some (rE, mE)) : W p l e (rmN 4 0 0) s m args below meth c H locs 0 0 (MQ below (XQ D E (Am m0) (some (.int rE)) mE (mT mE = mT m0 ∧ True)) args s 0 0 (Am m0)) (F0 m 48 ls []) := by
  have hx := C.1
  have hb := C.2.1
  unfold f_X10_as_j48 at hf
  refine lv_iload_n hx hb dX10_as_48 rfl (lv_at hl 2 rfl) ?_
  refine lv_if_ge (tgt := 61) hx hb dX10_as_49 (by decide) (fun c => ?_) (fun c => ?_)
  · have hf := ifp hf c
    refine lv_aload_n hx hb dX10_as_61 rfl (lv_at hl 0 rfl) ?_
    refine lv_iload_n hx hb dX10_as_62 rfl (lv_at hl 1 rfl) ?_
    obtain ⟨r116, m115, cm115, hf⟩ := b2_el (o := f_X10_readOf a0 x1 mu) hf
    refine x_callVi (As := [.int x1]) (rest := []) C hl.1 hw cb_X10_115 cv_X10_readOf (k_X10_readOf hw.2.2.2.2 ta0 cm115) ta0 rfl rfl (by decide) ⟨Nat.le_refl _, Nat.le_refl _⟩ rfl (Nat.le_of_ble_eq_true rfl) dX10_as_63 (fun H locs hw tr116 => ?_)
    exact x_retI C hr hk hw  hf (by decide) (by decide) dX10_as_66
  · have hf := ifn hf c
    refine lv_aload_n hx hb dX10_as_52 rfl (lv_at hl 0 rfl) ?_
    refine lv_ldc hx hb C.2.2.2.1 (C.2.2.2.2.1 _ ki_X10_121) dX10_as_53 ?_
    obtain ⟨r118, m117, cm117, hf⟩ := b2_el (o := f_X10_finds a0 (-1000000003) mu) hf
    refine x_callVi (As := [.int (-1000000003)]) (rest := []) C hl.1 hw cb_X10_67 cv_X10_finds (k_X10_finds hw.2.2.2.2 ta0 cm117) ta0 rfl rfl (by decide) ⟨Nat.le_refl _, Nat.le_refl _⟩ rfl (Nat.le_of_ble_eq_true rfl) dX10_as_55 (fun H locs hw tr118 => ?_)
    refine lv_goto (tgt := 66) hx hb dX10_as_58 (by decide) ?_
    exact x_retI C hr hk hw  hf (by decide) (by decide) dX10_as_66
set_option maxHeartbeats 4000000 in
set_option maxRecDepth 100000 in
theorem w_X10_as_h31 {p : Program} {l : Launch} {e : Env} {s : State} {m : MethodId} {args : Array Value} {below : List Frame} {meth : Method} {c : Code} {D : va_G} {E : Nat → ClassId} {tU : Nat} {m0 mE : XMem} {rE : Int32} (C : Cx p s m args c cX10_as 4 RX10 D E (Am m0) tU) (hr : meth.sig.returnType = ((Option.some FieldType.int))) (hk : meth.locks = false) (hnm : meth.name = yX10_as.name) {a0 : Nat} {x1 : Int32} {x2 : Int32} (ta0 : mT m0 a0 = some (.inl 10)) {k48 : Int32 →  XMem → Option (Int32 × XMem)} (hk48 : ∀ (y3 : Int32) (mu : XMem) (H : Heap) (locs : List Loc) (ls : Array Slot), lv_has ls 4 [(0, .ref a0), (1, .int x1), (3, .int y3)] → Wd D E (Am m0) s (mT m0) mu H locs →   k48 y3 mu = some (rE, mE) → W p l e (rmN 4 0 0) s m args below meth c H locs 0 0 (MQ below (XQ D E (Am m0) (some (.int rE)) mE (mT mE = mT m0 ∧ True)) args s 0 0 (Am m0)) (F0 m 48 ls [])) : ∀ (n : Nat) (x3 : Int32) (mu : XMem) (H : Heap) (locs : List Loc) (ls : Array Slot), lv_has ls 4 [(0, .ref a0), (1, .int x1), (2, .int x2), (3, .int x3)] → Wd D E (Am m0) s (mT m0) mu H locs → f_X10_as_h31 a0 x1 x2 k48 n x3 mu = some (rE, mE) → W p l e (rmN 4 0 0) s m args below meth c H locs 0 0 (MQ below (XQ D E (Am m0) (some (.int rE)) mE (mT mE = mT m0 ∧ True)) args s 0 0 (Am m0)) (F0 m 31 ls []) := by
  have hx := C.1
  have hb := C.2.1
  intro n
  induction n with
  | zero =>
    intros
    rename_i hf
    cases hf
  | succ n ih =>
    intro x3 mu H locs ls hl hw hf
    rw [f_X10_as_h31] at hf
    refine lv_iload_n hx hb dX10_as_31 rfl (lv_at hl 3 rfl) ?_
    refine lv_if_lt (tgt := 48) hx hb dX10_as_32 (by decide) (fun c => ?_) (fun c => ?_)
    · have hf := ifp hf c
      exact hk48 _ _ _ _ _ (lv_sub hl [0, 1, 3] rfl) hw hf
    · have hf := ifn hf c
      refine lv_iload_n hx hb dX10_as_35 rfl (lv_at hl 3 rfl) ?_
      refine lv_iload_n hx hb dX10_as_36 rfl (lv_at hl 2 rfl) ?_
      refine lv_icmp_eq (tgt := 48) hx hb dX10_as_37 (by decide) (fun c => ?_) (fun c => ?_)
      · have hf := ifp hf c
        exact hk48 _ _ _ _ _ (lv_sub hl [0, 1, 3] rfl) hw hf
      · have hf := ifn hf c
        refine lv_iload_n hx hb dX10_as_40 rfl (lv_at hl 3 rfl) ?_
        obtain ⟨r114, m113, cm113, hf⟩ := b2_el (o := f_X10_above x3 mu) hf
        refine x_callSi (As := [.int x3]) (rest := []) C hl.1 hw cb_X10_118 cs_X10_above (k_X10_above hw.2.2.2.2  cm113) rfl (by decide) ⟨Nat.le_refl _, Nat.le_refl _⟩ rfl (Nat.le_of_ble_eq_true rfl) dX10_as_41 (fun H locs hw tr114 => ?_)
        refine lv_istore_n (lv' := [(3, .int r114), (0, .ref a0), (1, .int x1), (2, .int x2)]) hx hb dX10_as_44 rfl hl (by decide) rfl (fun ls hl => ?_)
        refine lv_goto (tgt := 31) hx hb dX10_as_45 (by decide) ?_
        exact ih _ _ _ _ _ (lv_sub hl [1, 2, 3, 0] rfl) hw hf
set_option maxHeartbeats 4000000 in
set_option maxRecDepth 100000 in
theorem k_X10_as {l : Launch} {D : va_G} {E : Nat → ClassId} {tU : Nat} {τ : Nat → Option XTy} {a0 : Nat} {x1 : Int32} {x2 : Int32} {m0 mE : XMem} {rE : Int32} (hm : mT m0 = τ) (ta0 : τ a0 = some (.inl 10)) (hf : f_X10_as a0 x1 x2 m0 = some (rE, mE)) : Ct l yX10_as cX10_as 4 ((Option.some FieldType.int)) 4 0 0 D E tU [.ref a0, .int x1, .int x2] m0 (some (.int rE)) mE (mT mE = mT m0 ∧ True) := by
  subst hm
  refine Ct.of (by decide) (Nat.le_of_ble_eq_true rfl) (fun p e s m below meth c ls C hr hk hnm hl hw => ?_)
  have hx := C.1
  have hb := C.2.1
  have hl : lv_has ls 4 [(0, .ref a0), (1, .int x1), (2, .int x2)] := hl
  unfold f_X10_as at hf
  refine lv_aload_n hx hb dX10_as_0 rfl (lv_at hl 0 rfl) ?_
  refine lv_iload_n hx hb dX10_as_1 rfl (lv_at hl 1 rfl) ?_
  obtain ⟨r102, m101, cm101, hf⟩ := b2_el (o := f_X10_isCell a0 x1 m0) hf
  refine x_callVi (As := [.int x1]) (rest := []) C hl.1 hw cb_X10_76 cv_X10_isCell (k_X10_isCell hw.2.2.2.2 ta0 cm101) ta0 rfl rfl (by decide) ⟨Nat.le_refl _, Nat.le_refl _⟩ rfl (Nat.le_of_ble_eq_true rfl) dX10_as_2 (fun H locs hw tr102 => ?_)
  refine lv_if_eq (tgt := 17) hx hb dX10_as_5 (by decide) (fun c => ?_) (fun c => ?_)
  · have hf := ifp hf c
    refine lv_aload_n hx hb dX10_as_17 rfl (lv_at hl 0 rfl) ?_
    refine lv_ldc hx hb C.2.2.2.1 (C.2.2.2.2.1 _ ki_X10_61) dX10_as_18 ?_
    obtain ⟨r104, m103, cm103, hf⟩ := b2_el (o := f_X10_finds a0 (-1000000001) m101) hf
    refine x_callVi (As := [.int (-1000000001)]) (rest := []) C hl.1 hw cb_X10_67 cv_X10_finds (k_X10_finds hw.2.2.2.2 ta0 cm103) ta0 rfl rfl (by decide) ⟨Nat.le_refl _, Nat.le_refl _⟩ rfl (Nat.le_of_ble_eq_true rfl) dX10_as_20 (fun H locs hw tr104 => ?_)
    exact x_retI C hr hk hw  hf (by decide) (by decide) dX10_as_23
  · have hf := ifn hf c
    refine lv_iload_n hx hb dX10_as_8 rfl (lv_at hl 2 rfl) ?_
    refine lv_iconst hx hb dX10_as_9 ki_0 ?_
    refine lv_iconst hx hb dX10_as_10 ki_5 ?_
    obtain ⟨r106, m105, cm105, hf⟩ := b2_el (o := f_X10_within x2 0 5 m101) hf
    refine x_callSi (As := [.int x2, .int 0, .int 5]) (rest := []) C hl.1 hw cb_X10_62 cs_X10_within (k_X10_within hw.2.2.2.2  cm105) rfl (by decide) ⟨Nat.le_refl _, Nat.le_refl _⟩ rfl (Nat.le_of_ble_eq_true rfl) dX10_as_11 (fun H locs hw tr106 => ?_)
    refine lv_if_ne (tgt := 24) hx hb dX10_as_14 (by decide) (fun c => ?_) (fun c => ?_)
    · have hf := ifn hf c
      refine lv_aload_n hx hb dX10_as_24 rfl (lv_at hl 0 rfl) ?_
      refine lv_iload_n hx hb dX10_as_25 rfl (lv_at hl 1 rfl) ?_
      refine lv_iconst hx hb dX10_as_26 ki_0 ?_
      obtain ⟨r108, m107, cm107, hf⟩ := b2_el (o := f_X10_ofCell a0 x1 0 m105) hf
      refine x_callVi (As := [.int x1, .int 0]) (rest := []) C hl.1 hw cb_X10_80 cv_X10_ofCell (k_X10_ofCell hw.2.2.2.2 ta0 cm107) ta0 rfl rfl (by decide) ⟨Nat.le_refl _, Nat.le_refl _⟩ rfl (Nat.le_of_ble_eq_true rfl) dX10_as_27 (fun H locs hw tr108 => ?_)
      refine lv_istore_n (lv' := [(3, .int r108), (0, .ref a0), (1, .int x1), (2, .int x2)]) hx hb dX10_as_30 rfl hl (by decide) rfl (fun ls hl => ?_)
      refine w_X10_as_h31 C hr hk hnm ta0 ?_ 2000 _ _ _ _ _ (lv_sub hl [1, 2, 3, 0] rfl) hw hf
      intro x110 m109 H locs ls hl hw hf
      exact w_X10_as_j48 C hr hk hnm ta0 (lv_sub hl [0, 1, 2] rfl) hw hf
    · have hf := ifp hf c
      refine lv_aload_n hx hb dX10_as_17 rfl (lv_at hl 0 rfl) ?_
      refine lv_ldc hx hb C.2.2.2.1 (C.2.2.2.2.1 _ ki_X10_61) dX10_as_18 ?_
      obtain ⟨r112, m111, cm111, hf⟩ := b2_el (o := f_X10_finds a0 (-1000000001) m105) hf
      refine x_callVi (As := [.int (-1000000001)]) (rest := []) C hl.1 hw cb_X10_67 cv_X10_finds (k_X10_finds hw.2.2.2.2 ta0 cm111) ta0 rfl rfl (by decide) ⟨Nat.le_refl _, Nat.le_refl _⟩ rfl (Nat.le_of_ble_eq_true rfl) dX10_as_20 (fun H locs hw tr112 => ?_)
      exact x_retI C hr hk hw  hf (by decide) (by decide) dX10_as_23
set_option maxHeartbeats 4000000 in
set_option maxRecDepth 100000 in
theorem k_X10_isLaw {l : Launch} {D : va_G} {E : Nat → ClassId} {tU : Nat} {τ : Nat → Option XTy} {a0 : Nat} {x1 : Int32} {m0 mE : XMem} {rE : Int32} (hm : mT m0 = τ) (ta0 : τ a0 = some (.inl 10)) (hf : f_X10_isLaw a0 x1 m0 = some (rE, mE)) : Ct l yX10_isLaw cX10_isLaw 2 ((Option.some FieldType.boolean)) 2 0 0 D E tU [.ref a0, .int x1] m0 (some (.int rE)) mE (mT mE = mT m0 ∧ (rE = 0 ∨ rE = 1)) := by
  subst hm
  refine Ct.of (by decide) (Nat.le_of_ble_eq_true rfl) (fun p e s m below meth c ls C hr hk hnm hl hw => ?_)
  have hx := C.1
  have hb := C.2.1
  have hl : lv_has ls 2 [(0, .ref a0), (1, .int x1)] := hl
  unfold f_X10_isLaw at hf
  refine lv_iload_n hx hb dX10_isLaw_0 rfl (lv_at hl 1 rfl) ?_
  refine lv_iconst hx hb dX10_isLaw_1 ki_0 ?_
  refine lv_aload_n hx hb dX10_isLaw_2 rfl (lv_at hl 0 rfl) ?_
  obtain ⟨b101, eb101, hf⟩ := fo_el hf
  refine x_getR C hw fa_X10_7 (Or.inr ⟨_, rfl⟩) ta0 eb101 dX10_isLaw_3 (fun tb101 => ?_)
  have tb101 : ∃ n, (mT m0) b101 = some (.inr (0, n)) := tb101
  refine lv_iconst hx hb dX10_isLaw_6 ki_2 ?_
  obtain ⟨g102, hf⟩ := gd_el hf
  refine x_iald C hw tb101 g102 dX10_isLaw_7 ?_
  refine lv_iconst hx hb dX10_isLaw_8 ki_1 ?_
  refine lv_isub hx hb dX10_isLaw_9 ?_
  obtain ⟨r104, m103, cm103, hf⟩ := b2_el (o := f_X10_within x1 0 ((mI m0 b101 (Int32.toNatClampNeg 2)) - 1) m0) hf
  refine x_callSi (As := [.int x1, .int 0, .int ((mI m0 b101 (Int32.toNatClampNeg 2)) - 1)]) (rest := []) C hl.1 hw cb_X10_62 cs_X10_within (k_X10_within hw.2.2.2.2  cm103) rfl (by decide) ⟨Nat.le_refl _, Nat.le_refl _⟩ rfl (Nat.le_of_ble_eq_true rfl) dX10_isLaw_10 (fun H locs hw tr104 => ?_)
  exact x_retZ C hr hk tr104 hw  hf (by decide) (by decide) dX10_isLaw_13
set_option maxHeartbeats 4000000 in
set_option maxRecDepth 100000 in
theorem k_X10_mustOf {l : Launch} {D : va_G} {E : Nat → ClassId} {tU : Nat} {τ : Nat → Option XTy} {a0 : Nat} {x1 : Int32} {x2 : Int32} {m0 mE : XMem} {rE : Int32} (hm : mT m0 = τ) (ta0 : τ a0 = some (.inl 10)) (hf : f_X10_mustOf a0 x1 x2 m0 = some (rE, mE)) : Ct l yX10_mustOf cX10_mustOf 3 ((Option.some FieldType.int)) 6 0 0 D E tU [.ref a0, .int x1, .int x2] m0 (some (.int rE)) mE (mT mE = mT m0 ∧ True) := by
  subst hm
  refine Ct.of (by decide) (Nat.le_of_ble_eq_true rfl) (fun p e s m below meth c ls C hr hk hnm hl hw => ?_)
  have hx := C.1
  have hb := C.2.1
  have hl : lv_has ls 3 [(0, .ref a0), (1, .int x1), (2, .int x2)] := hl
  unfold f_X10_mustOf at hf
  refine lv_aload_n hx hb dX10_mustOf_0 rfl (lv_at hl 0 rfl) ?_
  refine lv_iload_n hx hb dX10_mustOf_1 rfl (lv_at hl 2 rfl) ?_
  refine lv_iload_n hx hb dX10_mustOf_2 rfl (lv_at hl 1 rfl) ?_
  refine lv_aload_n hx hb dX10_mustOf_3 rfl (lv_at hl 0 rfl) ?_
  obtain ⟨b101, eb101, hf⟩ := fo_el hf
  refine x_getR C hw fa_X10_7 (Or.inr ⟨_, rfl⟩) ta0 eb101 dX10_mustOf_4 (fun tb101 => ?_)
  have tb101 : ∃ n, (mT m0) b101 = some (.inr (0, n)) := tb101
  refine lv_iconst hx hb dX10_mustOf_7 ki_0 ?_
  obtain ⟨g102, hf⟩ := gd_el hf
  refine x_iald C hw tb101 g102 dX10_mustOf_8 ?_
  obtain ⟨r104, m103, cm103, hf⟩ := b2_el (o := f_X10_worked a0 x2 x1 (mI m0 b101 (Int32.toNatClampNeg 0)) m0) hf
  refine x_callVi (As := [.int x2, .int x1, .int (mI m0 b101 (Int32.toNatClampNeg 0))]) (rest := []) C hl.1 hw cb_X10_87 cv_X10_worked (k_X10_worked hw.2.2.2.2 ta0 cm103) ta0 rfl rfl (by decide) ⟨Nat.le_refl _, Nat.le_refl _⟩ rfl (Nat.le_of_ble_eq_true rfl) dX10_mustOf_9 (fun H locs hw tr104 => ?_)
  obtain ⟨r106, m105, cm105, hf⟩ := b2_el (o := f_X10_held r104 m103) hf
  refine x_callSi (As := [.int r104]) (rest := []) C hl.1 hw cb_X10_91 cs_X10_held (k_X10_held hw.2.2.2.2  cm105) rfl (by decide) ⟨Nat.le_refl _, Nat.le_refl _⟩ rfl (Nat.le_of_ble_eq_true rfl) dX10_mustOf_12 (fun H locs hw tr106 => ?_)
  refine lv_aload_n hx hb dX10_mustOf_15 rfl (lv_at hl 0 rfl) ?_
  refine lv_iload_n hx hb dX10_mustOf_16 rfl (lv_at hl 2 rfl) ?_
  obtain ⟨r108, m107, cm107, hf⟩ := b2_el (o := f_X10_rayOf a0 x2 m105) hf
  refine x_callVi (As := [.int x2]) (rest := [.int r106]) C hl.1 hw cb_X10_100 cv_X10_rayOf (k_X10_rayOf hw.2.2.2.2 ta0 cm107) ta0 rfl rfl (by decide) ⟨Nat.le_refl _, Nat.le_refl _⟩ rfl (Nat.le_of_ble_eq_true rfl) dX10_mustOf_17 (fun H locs hw tr108 => ?_)
  refine lv_imul hx hb dX10_mustOf_20 ?_
  refine lv_bipush hx hb dX10_mustOf_21 kb_100 ?_
  refine lv_idiv hx hb dX10_mustOf_23 (by decide) ?_
  exact x_retI C hr hk hw  hf (by decide) (by decide) dX10_mustOf_24
set_option maxHeartbeats 4000000 in
set_option maxRecDepth 100000 in
theorem k_X10_barred {l : Launch} {D : va_G} {E : Nat → ClassId} {tU : Nat} {τ : Nat → Option XTy} {a0 : Nat} {x1 : Int32} {x2 : Int32} {x3 : Int32} {m0 mE : XMem} {rE : Int32} (hm : mT m0 = τ) (ta0 : τ a0 = some (.inl 10)) (hf : f_X10_barred a0 x1 x2 x3 m0 = some (rE, mE)) : Ct l yX10_barred cX10_barred 6 ((Option.some FieldType.int)) 7 0 0 D E tU [.ref a0, .int x1, .int x2, .int x3] m0 (some (.int rE)) mE (mT mE = mT m0 ∧ True) := by
  subst hm
  refine Ct.of (by decide) (Nat.le_of_ble_eq_true rfl) (fun p e s m below meth c ls C hr hk hnm hl hw => ?_)
  have hx := C.1
  have hb := C.2.1
  have hl : lv_has ls 6 [(0, .ref a0), (1, .int x1), (2, .int x2), (3, .int x3)] := hl
  unfold f_X10_barred at hf
  refine lv_aload_n hx hb dX10_barred_0 rfl (lv_at hl 0 rfl) ?_
  refine lv_iload_n hx hb dX10_barred_1 rfl (lv_at hl 1 rfl) ?_
  obtain ⟨r102, m101, cm101, hf⟩ := b2_el (o := f_X10_isCell a0 x1 m0) hf
  refine x_callVi (As := [.int x1]) (rest := []) C hl.1 hw cb_X10_76 cv_X10_isCell (k_X10_isCell hw.2.2.2.2 ta0 cm101) ta0 rfl rfl (by decide) ⟨Nat.le_refl _, Nat.le_refl _⟩ rfl (Nat.le_of_ble_eq_true rfl) dX10_barred_2 (fun H locs hw tr102 => ?_)
  refine lv_if_eq (tgt := 27) hx hb dX10_barred_5 (by decide) (fun c => ?_) (fun c => ?_)
  · have hf := ifp hf c
    refine lv_aload_n hx hb dX10_barred_27 rfl (lv_at hl 0 rfl) ?_
    refine lv_ldc hx hb C.2.2.2.1 (C.2.2.2.2.1 _ ki_X10_61) dX10_barred_28 ?_
    obtain ⟨r104, m103, cm103, hf⟩ := b2_el (o := f_X10_finds a0 (-1000000001) m101) hf
    refine x_callVi (As := [.int (-1000000001)]) (rest := []) C hl.1 hw cb_X10_67 cv_X10_finds (k_X10_finds hw.2.2.2.2 ta0 cm103) ta0 rfl rfl (by decide) ⟨Nat.le_refl _, Nat.le_refl _⟩ rfl (Nat.le_of_ble_eq_true rfl) dX10_barred_30 (fun H locs hw tr104 => ?_)
    exact x_retI C hr hk hw  hf (by decide) (by decide) dX10_barred_33
  · have hf := ifn hf c
    refine lv_aload_n hx hb dX10_barred_8 rfl (lv_at hl 0 rfl) ?_
    refine lv_iload_n hx hb dX10_barred_9 rfl (lv_at hl 2 rfl) ?_
    obtain ⟨r106, m105, cm105, hf⟩ := b2_el (o := f_X10_isLaw a0 x2 m101) hf
    refine x_callVi (As := [.int x2]) (rest := []) C hl.1 hw cb_X10_190 cv_X10_isLaw (k_X10_isLaw hw.2.2.2.2 ta0 cm105) ta0 rfl rfl (by decide) ⟨Nat.le_refl _, Nat.le_refl _⟩ rfl (Nat.le_of_ble_eq_true rfl) dX10_barred_10 (fun H locs hw tr106 => ?_)
    refine lv_if_eq (tgt := 27) hx hb dX10_barred_13 (by decide) (fun c => ?_) (fun c => ?_)
    · have hf := ifp hf c
      refine lv_aload_n hx hb dX10_barred_27 rfl (lv_at hl 0 rfl) ?_
      refine lv_ldc hx hb C.2.2.2.1 (C.2.2.2.2.1 _ ki_X10_61) dX10_barred_28 ?_
      obtain ⟨r108, m107, cm107, hf⟩ := b2_el (o := f_X10_finds a0 (-1000000001) m105) hf
      refine x_callVi (As := [.int (-1000000001)]) (rest := []) C hl.1 hw cb_X10_67 cv_X10_finds (k_X10_finds hw.2.2.2.2 ta0 cm107) ta0 rfl rfl (by decide) ⟨Nat.le_refl _, Nat.le_refl _⟩ rfl (Nat.le_of_ble_eq_true rfl) dX10_barred_30 (fun H locs hw tr108 => ?_)
      exact x_retI C hr hk hw  hf (by decide) (by decide) dX10_barred_33
    · have hf := ifn hf c
      refine lv_iload_n hx hb dX10_barred_16 rfl (lv_at hl 3 rfl) ?_
      refine lv_iconst hx hb dX10_barred_17 ki_0 ?_
      refine lv_sipush hx hb dX10_barred_18 ks_9999 ?_
      obtain ⟨r110, m109, cm109, hf⟩ := b2_el (o := f_X10_within x3 0 9999 m105) hf
      refine x_callSi (As := [.int x3, .int 0, .int 9999]) (rest := []) C hl.1 hw cb_X10_62 cs_X10_within (k_X10_within hw.2.2.2.2  cm109) rfl (by decide) ⟨Nat.le_refl _, Nat.le_refl _⟩ rfl (Nat.le_of_ble_eq_true rfl) dX10_barred_21 (fun H locs hw tr110 => ?_)
      refine lv_if_ne (tgt := 34) hx hb dX10_barred_24 (by decide) (fun c => ?_) (fun c => ?_)
      · have hf := ifn hf c
        refine lv_aload_n hx hb dX10_barred_34 rfl (lv_at hl 0 rfl) ?_
        refine lv_iload_n hx hb dX10_barred_35 rfl (lv_at hl 1 rfl) ?_
        refine lv_bipush hx hb dX10_barred_36 kb_12 ?_
        obtain ⟨r112, m111, cm111, hf⟩ := b2_el (o := f_X10_ofCell a0 x1 12 m109) hf
        refine x_callVi (As := [.int x1, .int 12]) (rest := []) C hl.1 hw cb_X10_80 cv_X10_ofCell (k_X10_ofCell hw.2.2.2.2 ta0 cm111) ta0 rfl rfl (by decide) ⟨Nat.le_refl _, Nat.le_refl _⟩ rfl (Nat.le_of_ble_eq_true rfl) dX10_barred_38 (fun H locs hw tr112 => ?_)
        refine lv_i2l (v := (Int32.toInt64 r112)) hx hb dX10_barred_41 rfl ?_
        refine lv_aload_n hx hb dX10_barred_42 rfl (lv_at hl 0 rfl) ?_
        refine lv_bipush hx hb dX10_barred_43 kb_6 ?_
        refine lv_iload_n hx hb dX10_barred_45 rfl (lv_at hl 1 rfl) ?_
        refine lv_aload_n hx hb dX10_barred_46 rfl (lv_at hl 0 rfl) ?_
        obtain ⟨b113, eb113, hf⟩ := fo_el hf
        refine x_getR C hw fa_X10_7 (Or.inr ⟨_, rfl⟩) ta0 eb113 dX10_barred_47 (fun tb113 => ?_)
        have tb113 : ∃ n, (mT m0) b113 = some (.inr (0, n)) := tb113
        refine lv_iconst hx hb dX10_barred_50 ki_0 ?_
        obtain ⟨g114, hf⟩ := gd_el hf
        refine x_iald C hw tb113 g114 dX10_barred_51 ?_
        obtain ⟨r116, m115, cm115, hf⟩ := b2_el (o := f_X10_worked a0 6 x1 (mI m111 b113 (Int32.toNatClampNeg 0)) m111) hf
        refine x_callVi (As := [.int 6, .int x1, .int (mI m111 b113 (Int32.toNatClampNeg 0))]) (rest := [.long (Int32.toInt64 r112)]) C hl.1 hw cb_X10_87 cv_X10_worked (k_X10_worked hw.2.2.2.2 ta0 cm115) ta0 rfl rfl (by decide) ⟨Nat.le_refl _, Nat.le_refl _⟩ rfl (Nat.le_of_ble_eq_true rfl) dX10_barred_52 (fun H locs hw tr116 => ?_)
        refine lv_i2l (v := (Int32.toInt64 r116)) hx hb dX10_barred_55 rfl ?_
        refine lv_lsub hx hb dX10_barred_56 ?_
        refine lv_iload_n hx hb dX10_barred_57 rfl (lv_at hl 3 rfl) ?_
        refine lv_i2l (v := (Int32.toInt64 x3)) hx hb dX10_barred_58 rfl ?_
        refine lv_ladd hx hb dX10_barred_59 ?_
        refine lv_topl (fun l117 el117 => ?_)
        have hf := nm_el hf el117
        refine lv_lstore (lv' := [(4, .long l117), (0, .ref a0), (1, .int x1), (2, .int x2), (3, .int x3)]) hx hb dX10_barred_60 hl (by decide) rfl (fun ls hl => ?_)
        refine lv_lload hx hb dX10_barred_62 (lv_at hl 0 rfl) ?_
        refine lv_aload_n hx hb dX10_barred_64 rfl (lv_at hl 1 rfl) ?_
        refine lv_iload_n hx hb dX10_barred_65 rfl (lv_at hl 2 rfl) ?_
        refine lv_iload_n hx hb dX10_barred_66 rfl (lv_at hl 3 rfl) ?_
        obtain ⟨r119, m118, cm118, hf⟩ := b2_el (o := f_X10_mustOf a0 x1 x2 m115) hf
        refine x_callVi (As := [.int x1, .int x2]) (rest := [.long l117]) C hl.1 hw cb_X10_235 cv_X10_mustOf (k_X10_mustOf hw.2.2.2.2 ta0 cm118) ta0 rfl rfl (by decide) ⟨Nat.le_refl _, Nat.le_refl _⟩ rfl (Nat.le_of_ble_eq_true rfl) dX10_barred_67 (fun H locs hw tr119 => ?_)
        refine lv_i2l (v := (Int32.toInt64 r119)) hx hb dX10_barred_70 rfl ?_
        refine W.lcmp hx hb dX10_barred_71 ?_
        refine lv_if_ge (tgt := 79) hx hb dX10_barred_72 (by decide) (fun c => ?_) (fun c => ?_)
        · have hf := ifp hf c
          refine lv_iconst hx hb dX10_barred_79 ki_0 ?_
          exact x_retI C hr hk hw  hf (by decide) (by decide) dX10_barred_80
        · have hf := ifn hf c
          refine lv_iconst hx hb dX10_barred_75 ki_1 ?_
          refine lv_goto (tgt := 80) hx hb dX10_barred_76 (by decide) ?_
          exact x_retI C hr hk hw  hf (by decide) (by decide) dX10_barred_80
      · have hf := ifp hf c
        refine lv_aload_n hx hb dX10_barred_27 rfl (lv_at hl 0 rfl) ?_
        refine lv_ldc hx hb C.2.2.2.1 (C.2.2.2.2.1 _ ki_X10_61) dX10_barred_28 ?_
        obtain ⟨r121, m120, cm120, hf⟩ := b2_el (o := f_X10_finds a0 (-1000000001) m109) hf
        refine x_callVi (As := [.int (-1000000001)]) (rest := []) C hl.1 hw cb_X10_67 cv_X10_finds (k_X10_finds hw.2.2.2.2 ta0 cm120) ta0 rfl rfl (by decide) ⟨Nat.le_refl _, Nat.le_refl _⟩ rfl (Nat.le_of_ble_eq_true rfl) dX10_barred_30 (fun H locs hw tr121 => ?_)
        exact x_retI C hr hk hw  hf (by decide) (by decide) dX10_barred_33
set_option maxHeartbeats 4000000 in
set_option maxRecDepth 100000 in
theorem k_X10_isHouse {l : Launch} {D : va_G} {E : Nat → ClassId} {tU : Nat} {τ : Nat → Option XTy} {a0 : Nat} {x1 : Int32} {m0 mE : XMem} {rE : Int32} (hm : mT m0 = τ) (ta0 : τ a0 = some (.inl 10)) (hf : f_X10_isHouse a0 x1 m0 = some (rE, mE)) : Ct l yX10_isHouse cX10_isHouse 2 ((Option.some FieldType.boolean)) 2 0 0 D E tU [.ref a0, .int x1] m0 (some (.int rE)) mE (mT mE = mT m0 ∧ (rE = 0 ∨ rE = 1)) := by
  subst hm
  refine Ct.of (by decide) (Nat.le_of_ble_eq_true rfl) (fun p e s m below meth c ls C hr hk hnm hl hw => ?_)
  have hx := C.1
  have hb := C.2.1
  have hl : lv_has ls 2 [(0, .ref a0), (1, .int x1)] := hl
  unfold f_X10_isHouse at hf
  refine lv_iload_n hx hb dX10_isHouse_0 rfl (lv_at hl 1 rfl) ?_
  refine lv_iconst hx hb dX10_isHouse_1 ki_0 ?_
  refine lv_aload_n hx hb dX10_isHouse_2 rfl (lv_at hl 0 rfl) ?_
  obtain ⟨b101, eb101, hf⟩ := fo_el hf
  refine x_getR C hw fa_X10_7 (Or.inr ⟨_, rfl⟩) ta0 eb101 dX10_isHouse_3 (fun tb101 => ?_)
  have tb101 : ∃ n, (mT m0) b101 = some (.inr (0, n)) := tb101
  refine lv_iconst hx hb dX10_isHouse_6 ki_3 ?_
  obtain ⟨g102, hf⟩ := gd_el hf
  refine x_iald C hw tb101 g102 dX10_isHouse_7 ?_
  refine lv_iconst hx hb dX10_isHouse_8 ki_1 ?_
  refine lv_isub hx hb dX10_isHouse_9 ?_
  obtain ⟨r104, m103, cm103, hf⟩ := b2_el (o := f_X10_within x1 0 ((mI m0 b101 (Int32.toNatClampNeg 3)) - 1) m0) hf
  refine x_callSi (As := [.int x1, .int 0, .int ((mI m0 b101 (Int32.toNatClampNeg 3)) - 1)]) (rest := []) C hl.1 hw cb_X10_62 cs_X10_within (k_X10_within hw.2.2.2.2  cm103) rfl (by decide) ⟨Nat.le_refl _, Nat.le_refl _⟩ rfl (Nat.le_of_ble_eq_true rfl) dX10_isHouse_10 (fun H locs hw tr104 => ?_)
  exact x_retZ C hr hk tr104 hw  hf (by decide) (by decide) dX10_isHouse_13
set_option maxHeartbeats 4000000 in
set_option maxRecDepth 100000 in
theorem k_X10_ofHouse {l : Launch} {D : va_G} {E : Nat → ClassId} {tU : Nat} {τ : Nat → Option XTy} {a0 : Nat} {x1 : Int32} {x2 : Int32} {m0 mE : XMem} {rE : Int32} (hm : mT m0 = τ) (ta0 : τ a0 = some (.inl 10)) (hf : f_X10_ofHouse a0 x1 x2 m0 = some (rE, mE)) : Ct l yX10_ofHouse cX10_ofHouse 3 ((Option.some FieldType.int)) 1 0 0 D E tU [.ref a0, .int x1, .int x2] m0 (some (.int rE)) mE (mT mE = mT m0 ∧ True) := by
  subst hm
  refine Ct.of (by decide) (Nat.le_of_ble_eq_true rfl) (fun p e s m below meth c ls C hr hk hnm hl hw => ?_)
  have hx := C.1
  have hb := C.2.1
  have hl : lv_has ls 3 [(0, .ref a0), (1, .int x1), (2, .int x2)] := hl
  unfold f_X10_ofHouse at hf
  refine lv_aload_n hx hb dX10_ofHouse_0 rfl (lv_at hl 0 rfl) ?_
  obtain ⟨b101, eb101, hf⟩ := fo_el hf
  refine x_getR C hw fa_X10_7 (Or.inr ⟨_, rfl⟩) ta0 eb101 dX10_ofHouse_1 (fun tb101 => ?_)
  have tb101 : ∃ n, (mT m0) b101 = some (.inr (0, n)) := tb101
  refine lv_sipush hx hb dX10_ofHouse_4 ks_147 ?_
  refine lv_bipush hx hb dX10_ofHouse_7 kb_12 ?_
  refine lv_iload_n hx hb dX10_ofHouse_9 rfl (lv_at hl 1 rfl) ?_
  refine lv_imul hx hb dX10_ofHouse_10 ?_
  refine lv_iadd hx hb dX10_ofHouse_11 ?_
  refine lv_iload_n hx hb dX10_ofHouse_12 rfl (lv_at hl 2 rfl) ?_
  refine lv_iadd hx hb dX10_ofHouse_13 ?_
  obtain ⟨g102, hf⟩ := gd_el hf
  refine x_iald C hw tb101 g102 dX10_ofHouse_14 ?_
  exact x_retI C hr hk hw  hf (by decide) (by decide) dX10_ofHouse_15
set_option maxHeartbeats 4000000 in
set_option maxRecDepth 100000 in
theorem k_X10_itsBalance {l : Launch} {D : va_G} {E : Nat → ClassId} {tU : Nat} {τ : Nat → Option XTy} {a0 : Nat} {x1 : Int32} {m0 mE : XMem} {rE : Int64} (hm : mT m0 = τ) (ta0 : τ a0 = some (.inl 10)) (hf : f_X10_itsBalance a0 x1 m0 = some (rE, mE)) : Ct l yX10_itsBalance cX10_itsBalance 2 ((Option.some FieldType.long)) 2 0 0 D E tU [.ref a0, .int x1] m0 (some (.long rE)) mE (mT mE = mT m0 ∧ True) := by
  subst hm
  refine Ct.of (by decide) (Nat.le_of_ble_eq_true rfl) (fun p e s m below meth c ls C hr hk hnm hl hw => ?_)
  have hx := C.1
  have hb := C.2.1
  have hl : lv_has ls 2 [(0, .ref a0), (1, .int x1)] := hl
  unfold f_X10_itsBalance at hf
  refine lv_aload_n hx hb dX10_itsBalance_0 rfl (lv_at hl 0 rfl) ?_
  obtain ⟨b101, eb101, hf⟩ := fo_el hf
  refine x_getR C hw fa_X10_16 (Or.inr ⟨_, rfl⟩) ta0 eb101 dX10_itsBalance_1 (fun tb101 => ?_)
  have tb101 : ∃ n, (mT m0) b101 = some (.inr (2, n)) := tb101
  refine lv_iconst hx hb dX10_itsBalance_4 ki_2 ?_
  refine lv_iload_n hx hb dX10_itsBalance_5 rfl (lv_at hl 1 rfl) ?_
  refine lv_imul hx hb dX10_itsBalance_6 ?_
  refine lv_aload_n hx hb dX10_itsBalance_7 rfl (lv_at hl 0 rfl) ?_
  refine lv_iload_n hx hb dX10_itsBalance_8 rfl (lv_at hl 1 rfl) ?_
  refine lv_iconst hx hb dX10_itsBalance_9 ki_2 ?_
  obtain ⟨r103, m102, cm102, hf⟩ := b2_el (o := f_X10_ofHouse a0 x1 2 m0) hf
  refine x_callVi (As := [.int x1, .int 2]) (rest := [.int (2 * x1), .ref b101]) C hl.1 hw cb_X10_197 cv_X10_ofHouse (k_X10_ofHouse hw.2.2.2.2 ta0 cm102) ta0 rfl rfl (by decide) ⟨Nat.le_refl _, Nat.le_refl _⟩ rfl (Nat.le_of_ble_eq_true rfl) dX10_itsBalance_10 (fun H locs hw tr103 => ?_)
  refine lv_iadd hx hb dX10_itsBalance_13 ?_
  obtain ⟨g104, hf⟩ := gd_el hf
  refine x_lald C hw tb101 g104 dX10_itsBalance_14 ?_
  exact x_retL C hr hk hw  hf (by decide) (by decide) dX10_itsBalance_15
set_option maxHeartbeats 4000000 in
set_option maxRecDepth 100000 in
theorem k_X10_beside {l : Launch} {D : va_G} {E : Nat → ClassId} {tU : Nat} {τ : Nat → Option XTy} {a0 : Nat} {x1 : Int32} {x2 : Int32} {m0 mE : XMem} {rE : Int32} (hm : mT m0 = τ) (ta0 : τ a0 = some (.inl 10)) (hf : f_X10_beside a0 x1 x2 m0 = some (rE, mE)) : Ct l yX10_beside cX10_beside 7 ((Option.some FieldType.int)) 3 0 0 D E tU [.ref a0, .int x1, .int x2] m0 (some (.int rE)) mE (mT mE = mT m0 ∧ True) := by
  subst hm
  refine Ct.of (by decide) (Nat.le_of_ble_eq_true rfl) (fun p e s m below meth c ls C hr hk hnm hl hw => ?_)
  have hx := C.1
  have hb := C.2.1
  have hl : lv_has ls 7 [(0, .ref a0), (1, .int x1), (2, .int x2)] := hl
  unfold f_X10_beside at hf
  refine lv_aload_n hx hb dX10_beside_0 rfl (lv_at hl 0 rfl) ?_
  refine lv_iload_n hx hb dX10_beside_1 rfl (lv_at hl 1 rfl) ?_
  obtain ⟨r102, m101, cm101, hf⟩ := b2_el (o := f_X10_isHouse a0 x1 m0) hf
  refine x_callVi (As := [.int x1]) (rest := []) C hl.1 hw cb_X10_204 cv_X10_isHouse (k_X10_isHouse hw.2.2.2.2 ta0 cm101) ta0 rfl rfl (by decide) ⟨Nat.le_refl _, Nat.le_refl _⟩ rfl (Nat.le_of_ble_eq_true rfl) dX10_beside_2 (fun H locs hw tr102 => ?_)
  refine lv_if_eq (tgt := 21) hx hb dX10_beside_5 (by decide) (fun c => ?_) (fun c => ?_)
  · have hf := ifp hf c
    refine lv_aload_n hx hb dX10_beside_21 rfl (lv_at hl 0 rfl) ?_
    refine lv_ldc hx hb C.2.2.2.1 (C.2.2.2.2.1 _ ki_X10_61) dX10_beside_22 ?_
    obtain ⟨r104, m103, cm103, hf⟩ := b2_el (o := f_X10_finds a0 (-1000000001) m101) hf
    refine x_callVi (As := [.int (-1000000001)]) (rest := []) C hl.1 hw cb_X10_67 cv_X10_finds (k_X10_finds hw.2.2.2.2 ta0 cm103) ta0 rfl rfl (by decide) ⟨Nat.le_refl _, Nat.le_refl _⟩ rfl (Nat.le_of_ble_eq_true rfl) dX10_beside_24 (fun H locs hw tr104 => ?_)
    exact x_retI C hr hk hw  hf (by decide) (by decide) dX10_beside_27
  · have hf := ifn hf c
    refine lv_aload_n hx hb dX10_beside_8 rfl (lv_at hl 0 rfl) ?_
    refine lv_iload_n hx hb dX10_beside_9 rfl (lv_at hl 2 rfl) ?_
    obtain ⟨r106, m105, cm105, hf⟩ := b2_el (o := f_X10_isHouse a0 x2 m101) hf
    refine x_callVi (As := [.int x2]) (rest := []) C hl.1 hw cb_X10_204 cv_X10_isHouse (k_X10_isHouse hw.2.2.2.2 ta0 cm105) ta0 rfl rfl (by decide) ⟨Nat.le_refl _, Nat.le_refl _⟩ rfl (Nat.le_of_ble_eq_true rfl) dX10_beside_10 (fun H locs hw tr106 => ?_)
    refine lv_if_eq (tgt := 21) hx hb dX10_beside_13 (by decide) (fun c => ?_) (fun c => ?_)
    · have hf := ifp hf c
      refine lv_aload_n hx hb dX10_beside_21 rfl (lv_at hl 0 rfl) ?_
      refine lv_ldc hx hb C.2.2.2.1 (C.2.2.2.2.1 _ ki_X10_61) dX10_beside_22 ?_
      obtain ⟨r108, m107, cm107, hf⟩ := b2_el (o := f_X10_finds a0 (-1000000001) m105) hf
      refine x_callVi (As := [.int (-1000000001)]) (rest := []) C hl.1 hw cb_X10_67 cv_X10_finds (k_X10_finds hw.2.2.2.2 ta0 cm107) ta0 rfl rfl (by decide) ⟨Nat.le_refl _, Nat.le_refl _⟩ rfl (Nat.le_of_ble_eq_true rfl) dX10_beside_24 (fun H locs hw tr108 => ?_)
      exact x_retI C hr hk hw  hf (by decide) (by decide) dX10_beside_27
    · have hf := ifn hf c
      refine lv_iload_n hx hb dX10_beside_16 rfl (lv_at hl 1 rfl) ?_
      refine lv_iload_n hx hb dX10_beside_17 rfl (lv_at hl 2 rfl) ?_
      refine lv_icmp_ne (tgt := 28) hx hb dX10_beside_18 (by decide) (fun c => ?_) (fun c => ?_)
      · have hf := ifn hf c
        refine lv_aload_n hx hb dX10_beside_28 rfl (lv_at hl 0 rfl) ?_
        refine lv_iload_n hx hb dX10_beside_29 rfl (lv_at hl 1 rfl) ?_
        refine lv_iconst hx hb dX10_beside_30 ki_5 ?_
        obtain ⟨r110, m109, cm109, hf⟩ := b2_el (o := f_X10_ofHouse a0 x1 5 m105) hf
        refine x_callVi (As := [.int x1, .int 5]) (rest := []) C hl.1 hw cb_X10_197 cv_X10_ofHouse (k_X10_ofHouse hw.2.2.2.2 ta0 cm109) ta0 rfl rfl (by decide) ⟨Nat.le_refl _, Nat.le_refl _⟩ rfl (Nat.le_of_ble_eq_true rfl) dX10_beside_31 (fun H locs hw tr110 => ?_)
        refine lv_if_eq (tgt := 46) hx hb dX10_beside_34 (by decide) (fun c => ?_) (fun c => ?_)
        · have hf := ifp hf c
          refine lv_aload_n hx hb dX10_beside_46 rfl (lv_at hl 0 rfl) ?_
          refine lv_ldc hx hb C.2.2.2.1 (C.2.2.2.2.1 _ ki_X10_207) dX10_beside_47 ?_
          obtain ⟨r112, m111, cm111, hf⟩ := b2_el (o := f_X10_finds a0 (-1000000004) m109) hf
          refine x_callVi (As := [.int (-1000000004)]) (rest := []) C hl.1 hw cb_X10_67 cv_X10_finds (k_X10_finds hw.2.2.2.2 ta0 cm111) ta0 rfl rfl (by decide) ⟨Nat.le_refl _, Nat.le_refl _⟩ rfl (Nat.le_of_ble_eq_true rfl) dX10_beside_49 (fun H locs hw tr112 => ?_)
          exact x_retI C hr hk hw  hf (by decide) (by decide) dX10_beside_52
        · have hf := ifn hf c
          refine lv_aload_n hx hb dX10_beside_37 rfl (lv_at hl 0 rfl) ?_
          refine lv_iload_n hx hb dX10_beside_38 rfl (lv_at hl 2 rfl) ?_
          refine lv_iconst hx hb dX10_beside_39 ki_5 ?_
          obtain ⟨r114, m113, cm113, hf⟩ := b2_el (o := f_X10_ofHouse a0 x2 5 m109) hf
          refine x_callVi (As := [.int x2, .int 5]) (rest := []) C hl.1 hw cb_X10_197 cv_X10_ofHouse (k_X10_ofHouse hw.2.2.2.2 ta0 cm113) ta0 rfl rfl (by decide) ⟨Nat.le_refl _, Nat.le_refl _⟩ rfl (Nat.le_of_ble_eq_true rfl) dX10_beside_40 (fun H locs hw tr114 => ?_)
          refine lv_if_ne (tgt := 53) hx hb dX10_beside_43 (by decide) (fun c => ?_) (fun c => ?_)
          · have hf := ifn hf c
            refine lv_aload_n hx hb dX10_beside_53 rfl (lv_at hl 0 rfl) ?_
            refine lv_iload_n hx hb dX10_beside_54 rfl (lv_at hl 1 rfl) ?_
            obtain ⟨l116, m115, cm115, hf⟩ := b2_el (o := f_X10_itsBalance a0 x1 m113) hf
            refine x_callVl (As := [.int x1]) (rest := []) C hl.1 hw cb_X10_200 cv_X10_itsBalance (k_X10_itsBalance hw.2.2.2.2 ta0 cm115) ta0 rfl rfl (by decide) ⟨Nat.le_refl _, Nat.le_refl _⟩ rfl (Nat.le_of_ble_eq_true rfl) dX10_beside_55 (fun H locs hw tl116 => ?_)
            refine lv_aload_n hx hb dX10_beside_58 rfl (lv_at hl 0 rfl) ?_
            refine lv_iload_n hx hb dX10_beside_59 rfl (lv_at hl 2 rfl) ?_
            refine lv_iconst hx hb dX10_beside_60 ki_5 ?_
            obtain ⟨r118, m117, cm117, hf⟩ := b2_el (o := f_X10_ofHouse a0 x2 5 m115) hf
            refine x_callVi (As := [.int x2, .int 5]) (rest := [.long l116]) C hl.1 hw cb_X10_197 cv_X10_ofHouse (k_X10_ofHouse hw.2.2.2.2 ta0 cm117) ta0 rfl rfl (by decide) ⟨Nat.le_refl _, Nat.le_refl _⟩ rfl (Nat.le_of_ble_eq_true rfl) dX10_beside_61 (fun H locs hw tr118 => ?_)
            refine lv_i2l (v := (Int32.toInt64 r118)) hx hb dX10_beside_64 rfl ?_
            refine lv_lmul hx hb dX10_beside_65 ?_
            refine lv_topl (fun l119 el119 => ?_)
            have hf := nm_el hf el119
            refine lv_lstore_n (lv' := [(3, .long l119), (0, .ref a0), (1, .int x1), (2, .int x2)]) hx hb dX10_beside_66 rfl hl (by decide) rfl (fun ls hl => ?_)
            refine lv_aload_n hx hb dX10_beside_67 rfl (lv_at hl 1 rfl) ?_
            refine lv_iload_n hx hb dX10_beside_68 rfl (lv_at hl 3 rfl) ?_
            obtain ⟨l121, m120, cm120, hf⟩ := b2_el (o := f_X10_itsBalance a0 x2 m117) hf
            refine x_callVl (As := [.int x2]) (rest := []) C hl.1 hw cb_X10_200 cv_X10_itsBalance (k_X10_itsBalance hw.2.2.2.2 ta0 cm120) ta0 rfl rfl (by decide) ⟨Nat.le_refl _, Nat.le_refl _⟩ rfl (Nat.le_of_ble_eq_true rfl) dX10_beside_69 (fun H locs hw tl121 => ?_)
            refine lv_aload_n hx hb dX10_beside_72 rfl (lv_at hl 1 rfl) ?_
            refine lv_iload_n hx hb dX10_beside_73 rfl (lv_at hl 2 rfl) ?_
            refine lv_iconst hx hb dX10_beside_74 ki_5 ?_
            obtain ⟨r123, m122, cm122, hf⟩ := b2_el (o := f_X10_ofHouse a0 x1 5 m120) hf
            refine x_callVi (As := [.int x1, .int 5]) (rest := [.long l121]) C hl.1 hw cb_X10_197 cv_X10_ofHouse (k_X10_ofHouse hw.2.2.2.2 ta0 cm122) ta0 rfl rfl (by decide) ⟨Nat.le_refl _, Nat.le_refl _⟩ rfl (Nat.le_of_ble_eq_true rfl) dX10_beside_75 (fun H locs hw tr123 => ?_)
            refine lv_i2l (v := (Int32.toInt64 r123)) hx hb dX10_beside_78 rfl ?_
            refine lv_lmul hx hb dX10_beside_79 ?_
            refine lv_topl (fun l124 el124 => ?_)
            have hf := nm_el hf el124
            refine lv_lstore (lv' := [(5, .long l124), (3, .long l119), (0, .ref a0), (1, .int x1), (2, .int x2)]) hx hb dX10_beside_80 hl (by decide) rfl (fun ls hl => ?_)
            refine lv_lload_n hx hb dX10_beside_82 rfl (lv_at hl 1 rfl) ?_
            refine lv_lload hx hb dX10_beside_83 (lv_at hl 0 rfl) ?_
            refine W.lcmp hx hb dX10_beside_85 ?_
            refine lv_if_le (tgt := 93) hx hb dX10_beside_86 (by decide) (fun c => ?_) (fun c => ?_)
            · have hf := ifp hf c
              refine lv_lload_n hx hb dX10_beside_93 rfl (lv_at hl 1 rfl) ?_
              refine lv_lload hx hb dX10_beside_94 (lv_at hl 0 rfl) ?_
              refine W.lcmp hx hb dX10_beside_96 ?_
              refine lv_if_ge (tgt := 104) hx hb dX10_beside_97 (by decide) (fun c => ?_) (fun c => ?_)
              · have hf := ifp hf c
                refine lv_iconst hx hb dX10_beside_104 ki_0 ?_
                exact x_retI C hr hk hw  hf (by decide) (by decide) dX10_beside_105
              · have hf := ifn hf c
                refine lv_iconst hx hb dX10_beside_100 ki_m1 ?_
                refine lv_goto (tgt := 105) hx hb dX10_beside_101 (by decide) ?_
                exact x_retI C hr hk hw  hf (by decide) (by decide) dX10_beside_105
            · have hf := ifn hf c
              refine lv_iconst hx hb dX10_beside_89 ki_1 ?_
              refine lv_goto (tgt := 105) hx hb dX10_beside_90 (by decide) ?_
              exact x_retI C hr hk hw  hf (by decide) (by decide) dX10_beside_105
          · have hf := ifp hf c
            refine lv_aload_n hx hb dX10_beside_46 rfl (lv_at hl 0 rfl) ?_
            refine lv_ldc hx hb C.2.2.2.1 (C.2.2.2.2.1 _ ki_X10_207) dX10_beside_47 ?_
            obtain ⟨r126, m125, cm125, hf⟩ := b2_el (o := f_X10_finds a0 (-1000000004) m113) hf
            refine x_callVi (As := [.int (-1000000004)]) (rest := []) C hl.1 hw cb_X10_67 cv_X10_finds (k_X10_finds hw.2.2.2.2 ta0 cm125) ta0 rfl rfl (by decide) ⟨Nat.le_refl _, Nat.le_refl _⟩ rfl (Nat.le_of_ble_eq_true rfl) dX10_beside_49 (fun H locs hw tr126 => ?_)
            exact x_retI C hr hk hw  hf (by decide) (by decide) dX10_beside_52
      · have hf := ifp hf c
        refine lv_aload_n hx hb dX10_beside_21 rfl (lv_at hl 0 rfl) ?_
        refine lv_ldc hx hb C.2.2.2.1 (C.2.2.2.2.1 _ ki_X10_61) dX10_beside_22 ?_
        obtain ⟨r128, m127, cm127, hf⟩ := b2_el (o := f_X10_finds a0 (-1000000001) m105) hf
        refine x_callVi (As := [.int (-1000000001)]) (rest := []) C hl.1 hw cb_X10_67 cv_X10_finds (k_X10_finds hw.2.2.2.2 ta0 cm127) ta0 rfl rfl (by decide) ⟨Nat.le_refl _, Nat.le_refl _⟩ rfl (Nat.le_of_ble_eq_true rfl) dX10_beside_24 (fun H locs hw tr128 => ?_)
        exact x_retI C hr hk hw  hf (by decide) (by decide) dX10_beside_27
set_option maxHeartbeats 4000000 in
set_option maxRecDepth 100000 in
theorem k_X10_byteAt {l : Launch} {D : va_G} {E : Nat → ClassId} {tU : Nat} {τ : Nat → Option XTy} {a0 : Nat} {x1 : Int32} {m0 mE : XMem} {rE : Int32} (hm : mT m0 = τ) (ta0 : τ a0 = some (.inl 10)) (hf : f_X10_byteAt a0 x1 m0 = some (rE, mE)) : Ct l yX10_byteAt cX10_byteAt 2 ((Option.some FieldType.int)) 1 0 0 D E tU [.ref a0, .int x1] m0 (some (.int rE)) mE (mT mE = mT m0 ∧ True) := by
  subst hm
  refine Ct.of (by decide) (Nat.le_of_ble_eq_true rfl) (fun p e s m below meth c ls C hr hk hnm hl hw => ?_)
  have hx := C.1
  have hb := C.2.1
  have hl : lv_has ls 2 [(0, .ref a0), (1, .int x1)] := hl
  unfold f_X10_byteAt at hf
  refine lv_iload_n hx hb dX10_byteAt_0 rfl (lv_at hl 1 rfl) ?_
  refine lv_aload_n hx hb dX10_byteAt_1 rfl (lv_at hl 0 rfl) ?_
  refine x_getI C hw fa_X10_122 ta0 dX10_byteAt_2 ?_
  refine lv_icmp_ge (tgt := 17) hx hb dX10_byteAt_5 (by decide) (fun c => ?_) (fun c => ?_)
  · have hf := ifp hf c
    refine lv_iconst hx hb dX10_byteAt_17 ki_m1 ?_
    exact x_retI C hr hk hw  hf (by decide) (by decide) dX10_byteAt_18
  · have hf := ifn hf c
    refine lv_aload_n hx hb dX10_byteAt_8 rfl (lv_at hl 0 rfl) ?_
    obtain ⟨b101, eb101, hf⟩ := fo_el hf
    refine x_getR C hw fa_X10_26 (Or.inr ⟨_, rfl⟩) ta0 eb101 dX10_byteAt_9 (fun tb101 => ?_)
    have tb101 : ∃ n, (mT m0) b101 = some (.inr (0, n)) := tb101
    refine lv_iload_n hx hb dX10_byteAt_12 rfl (lv_at hl 1 rfl) ?_
    obtain ⟨g102, hf⟩ := gd_el hf
    refine x_iald C hw tb101 g102 dX10_byteAt_13 ?_
    refine lv_goto (tgt := 18) hx hb dX10_byteAt_14 (by decide) ?_
    exact x_retI C hr hk hw  hf (by decide) (by decide) dX10_byteAt_18
set_option maxHeartbeats 4000000 in
set_option maxRecDepth 100000 in
theorem w_X10_cell_h117 {p : Program} {l : Launch} {e : Env} {s : State} {m : MethodId} {args : Array Value} {below : List Frame} {meth : Method} {c : Code} {D : va_G} {E : Nat → ClassId} {tU : Nat} {m0 mE : XMem} {rE : Int32} (C : Cx p s m args c cX10_cell 8 RX10 D E (Am m0) tU) (hr : meth.sig.returnType = ((Option.some FieldType.int))) (hk : meth.locks = false) (hnm : meth.name = yX10_cell.name) {a0 : Nat} {x1 : Int32} {x2 : Int32} {x3 : Int32} {x4 : Int32} {x6 : Int32} (ta0 : mT m0 a0 = some (.inl 10)) {k139 :  XMem → Option (Int32 × XMem)} (hk139 : ∀  (mu : XMem) (H : Heap) (locs : List Loc) (ls : Array Slot), lv_has ls 8 [(0, .ref a0), (1, .int x1), (2, .int x2), (3, .int x3), (4, .int x4), (6, .int x6)] → Wd D E (Am m0) s (mT m0) mu H locs →   k139  mu = some (rE, mE) → W p l e (rmN 2 0 0) s m args below meth c H locs 0 0 (MQ below (XQ D E (Am m0) (some (.int rE)) mE (mT mE = mT m0 ∧ True)) args s 0 0 (Am m0)) (F0 m 139 ls [])) : ∀ (n : Nat) (x7 : Int32) (mu : XMem) (H : Heap) (locs : List Loc) (ls : Array Slot), lv_has ls 8 [(0, .ref a0), (1, .int x1), (2, .int x2), (3, .int x3), (4, .int x4), (6, .int x6), (7, .int x7)] → Wd D E (Am m0) s (mT m0) mu H locs → f_X10_cell_h117 a0 x1 x2 x3 x4 x6 k139 n x7 mu = some (rE, mE) → W p l e (rmN 2 0 0) s m args below meth c H locs 0 0 (MQ below (XQ D E (Am m0) (some (.int rE)) mE (mT mE = mT m0 ∧ True)) args s 0 0 (Am m0)) (F0 m 117 ls []) := by
  have hx := C.1
  have hb := C.2.1
  intro n
  induction n with
  | zero =>
    intros
    rename_i hf
    cases hf
  | succ n ih =>
    intro x7 mu H locs ls hl hw hf
    rw [f_X10_cell_h117] at hf
    refine lv_iload hx hb dX10_cell_117 (lv_at hl 6 rfl) ?_
    refine lv_bipush hx hb dX10_cell_119 kb_17 ?_
    refine lv_icmp_ge (tgt := 139) hx hb dX10_cell_121 (by decide) (fun c => ?_) (fun c => ?_)
    · have hf := ifp hf c
      exact hk139 _ _ _ _ (lv_sub hl [0, 1, 2, 3, 4, 5] rfl) hw hf
    · have hf := ifn hf c
      refine lv_aload_n hx hb dX10_cell_124 rfl (lv_at hl 0 rfl) ?_
      refine lv_iload hx hb dX10_cell_125 (lv_at hl 5 rfl) ?_
      refine lv_iload hx hb dX10_cell_127 (lv_at hl 6 rfl) ?_
      refine lv_iconst hx hb dX10_cell_129 ki_0 ?_
      obtain ⟨m129, cm129, hf⟩ := b1_el (o := f_X10_puts a0 x6 x7 0 mu) hf
      refine x_callVv (As := [.int x6, .int x7, .int 0]) (rest := []) C hl.1 hw cb_X10_72 cv_X10_puts (k_X10_puts hw.2.2.2.2 ta0 cm129) ta0 rfl rfl (by decide) ⟨Nat.le_refl _, Nat.le_refl _⟩ rfl (Nat.le_of_ble_eq_true rfl) dX10_cell_130 (fun H locs hw tm129 => ?_)
      obtain ⟨x130, ex130⟩ : ∃ z : Int32, z = x7 + 1 := ⟨_, rfl⟩
      have hf := nm_el hf ex130
      refine lv_iinc (v := x130) (lv' := [(7, .int x130), (0, .ref a0), (1, .int x1), (2, .int x2), (3, .int x3), (4, .int x4), (6, .int x6)]) hx hb dX10_cell_133 hl (k := 6) rfl (by rw [ex130, ki_1]) (by decide) rfl (fun ls hl => ?_)
      refine lv_goto (tgt := 117) hx hb dX10_cell_136 (by decide) ?_
      exact ih _ _ _ _ _ (lv_sub hl [1, 2, 3, 4, 5, 6, 0] rfl) hw hf
set_option maxHeartbeats 4000000 in
set_option maxRecDepth 100000 in
theorem w_X10_cell_j64 {p : Program} {l : Launch} {e : Env} {s : State} {m : MethodId} {args : Array Value} {below : List Frame} {meth : Method} {c : Code} {D : va_G} {E : Nat → ClassId} {tU : Nat} {m0 mE : XMem} {rE : Int32} (C : Cx p s m args c cX10_cell 8 RX10 D E (Am m0) tU) (hr : meth.sig.returnType = ((Option.some FieldType.int))) (hk : meth.locks = false) (hnm : meth.name = yX10_cell.name) {a0 : Nat} {x1 : Int32} {x2 : Int32} {x3 : Int32} {x4 : Int32} {xs0 : Int32} {mu : XMem} {H : Heap} {locs : List Loc} {ls : Array Slot} (ta0 : mT m0 a0 = some (.inl 10)) (hl : lv_has ls 8 [(0, .ref a0), (1, .int x1), (2, .int x2), (3, .int x3), (4, .int x4)]) (hw : Wd D E (Am m0) s (mT m0) mu H locs) (hf : f_X10_cell_j64 a0 x1 x2 x3 x4 xs0 mu = some (rE, mE)) : W p l e (rmN 2 0 0) s m args below meth c H locs 0 0 (MQ below (XQ D E (Am m0) (some (.int rE)) mE (mT mE = mT m0 ∧ True)) args s 0 0 (Am m0)) (F0 m 64 ls [.int xs0]) := by
  have hx := C.1
  have hb := C.2.1
  unfold f_X10_cell_j64 at hf
  refine lv_istore (lv' := [(5, .int xs0), (0, .ref a0), (1, .int x1), (2, .int x2), (3, .int x3), (4, .int x4)]) hx hb dX10_cell_64 hl (by decide) rfl (fun ls hl => ?_)
  refine lv_iload hx hb dX10_cell_66 (lv_at hl 0 rfl) ?_
  refine lv_if_ne (tgt := 78) hx hb dX10_cell_68 (by decide) (fun c => ?_) (fun c => ?_)
  · have hf := ifn hf c
    refine lv_aload_n hx hb dX10_cell_78 rfl (lv_at hl 1 rfl) ?_
    obtain ⟨b109, eb109, hf⟩ := fo_el hf
    refine x_getR C hw fa_X10_7 (Or.inr ⟨_, rfl⟩) ta0 eb109 dX10_cell_79 (fun tb109 => ?_)
    have tb109 : ∃ n, (mT m0) b109 = some (.inr (0, n)) := tb109
    refine lv_iconst hx hb dX10_cell_82 ki_1 ?_
    obtain ⟨g110, hf⟩ := gd_el hf
    refine x_iald C hw tb109 g110 dX10_cell_83 ?_
    refine lv_bipush hx hb dX10_cell_84 kb_8 ?_
    refine lv_icmp_ne (tgt := 96) hx hb dX10_cell_86 (by decide) (fun c => ?_) (fun c => ?_)
    · have hf := ifn hf c
      refine lv_aload_n hx hb dX10_cell_96 rfl (lv_at hl 1 rfl) ?_
      obtain ⟨b111, eb111, hf⟩ := fo_el hf
      refine x_getR C hw fa_X10_7 (Or.inr ⟨_, rfl⟩) ta0 eb111 dX10_cell_97 (fun tb111 => ?_)
      have tb111 : ∃ n, (mT m0) b111 = some (.inr (0, n)) := tb111
      refine lv_iconst hx hb dX10_cell_100 ki_1 ?_
      obtain ⟨g112, hf⟩ := gd_el hf
      refine x_iald C hw tb111 g112 dX10_cell_101 ?_
      refine lv_topi (fun x113 ex113 => ?_)
      have hf := nm_el hf ex113
      refine lv_istore (lv' := [(6, .int x113), (5, .int xs0), (0, .ref a0), (1, .int x1), (2, .int x2), (3, .int x3), (4, .int x4)]) hx hb dX10_cell_102 hl (by decide) rfl (fun ls hl => ?_)
      refine lv_aload_n hx hb dX10_cell_104 rfl (lv_at hl 2 rfl) ?_
      obtain ⟨b114, eb114, hf⟩ := fo_el hf
      refine x_getR C hw fa_X10_7 (Or.inr ⟨_, rfl⟩) ta0 eb114 dX10_cell_105 (fun tb114 => ?_)
      have tb114 : ∃ n, (mT m0) b114 = some (.inr (0, n)) := tb114
      refine lv_iconst hx hb dX10_cell_108 ki_1 ?_
      refine lv_dup2_11 hx hb dX10_cell_109 rfl rfl ?_
      obtain ⟨g115, hf⟩ := gd_el hf
      refine x_iald C hw tb114 g115 dX10_cell_110 ?_
      refine lv_iconst hx hb dX10_cell_111 ki_1 ?_
      refine lv_iadd hx hb dX10_cell_112 ?_
      obtain ⟨g116, hf⟩ := gd_el hf
      refine x_iast C hw tb114 g116 dX10_cell_113 (fun m117 H locs em117 hw => ?_)
      have hf := nm_el hf em117
      refine lv_iconst hx hb dX10_cell_114 ki_0 ?_
      refine lv_istore (lv' := [(7, .int 0), (6, .int x113), (5, .int xs0), (0, .ref a0), (1, .int x1), (2, .int x2), (3, .int x3), (4, .int x4)]) hx hb dX10_cell_115 hl (by decide) rfl (fun ls hl => ?_)
      refine w_X10_cell_h117 C hr hk hnm ta0 ?_ 2000 _ _ _ _ _ (lv_sub hl [3, 4, 5, 6, 7, 1, 0] rfl) hw hf
      intro m118 H locs ls hl hw hf
      refine lv_aload_n hx hb dX10_cell_139 rfl (lv_at hl 0 rfl) ?_
      refine lv_iload hx hb dX10_cell_140 (lv_at hl 5 rfl) ?_
      refine lv_iconst hx hb dX10_cell_142 ki_0 ?_
      refine lv_iload_n hx hb dX10_cell_143 rfl (lv_at hl 1 rfl) ?_
      obtain ⟨m119, cm119, hf⟩ := b1_el (o := f_X10_puts a0 x113 0 x1 m118) hf
      refine x_callVv (As := [.int x113, .int 0, .int x1]) (rest := []) C hl.1 hw cb_X10_72 cv_X10_puts (k_X10_puts hw.2.2.2.2 ta0 cm119) ta0 rfl rfl (by decide) ⟨Nat.le_refl _, Nat.le_refl _⟩ rfl (Nat.le_of_ble_eq_true rfl) dX10_cell_144 (fun H locs hw tm119 => ?_)
      refine lv_aload_n hx hb dX10_cell_147 rfl (lv_at hl 0 rfl) ?_
      refine lv_iload hx hb dX10_cell_148 (lv_at hl 5 rfl) ?_
      refine lv_iconst hx hb dX10_cell_150 ki_1 ?_
      refine lv_iload_n hx hb dX10_cell_151 rfl (lv_at hl 2 rfl) ?_
      refine lv_sipush hx hb dX10_cell_152 ks_10000 ?_
      refine lv_irem hx hb dX10_cell_155 (by decide) ?_
      obtain ⟨m120, cm120, hf⟩ := b1_el (o := f_X10_puts a0 x113 1 (x2 - x2 / 10000 * 10000) m119) hf
      refine x_callVv (As := [.int x113, .int 1, .int (x2 - x2 / 10000 * 10000)]) (rest := []) C hl.1 hw cb_X10_72 cv_X10_puts (k_X10_puts hw.2.2.2.2 ta0 cm120) ta0 rfl rfl (by decide) ⟨Nat.le_refl _, Nat.le_refl _⟩ rfl (Nat.le_of_ble_eq_true rfl) dX10_cell_156 (fun H locs hw tm120 => ?_)
      refine lv_aload_n hx hb dX10_cell_159 rfl (lv_at hl 0 rfl) ?_
      refine lv_iload hx hb dX10_cell_160 (lv_at hl 5 rfl) ?_
      refine lv_iconst hx hb dX10_cell_162 ki_2 ?_
      refine lv_iload_n hx hb dX10_cell_163 rfl (lv_at hl 2 rfl) ?_
      refine lv_sipush hx hb dX10_cell_164 ks_10000 ?_
      refine lv_idiv hx hb dX10_cell_167 (by decide) ?_
      refine lv_bipush hx hb dX10_cell_168 kb_100 ?_
      refine lv_irem hx hb dX10_cell_170 (by decide) ?_
      obtain ⟨m121, cm121, hf⟩ := b1_el (o := f_X10_puts a0 x113 2 ((x2 / 10000) - (x2 / 10000) / 100 * 100) m120) hf
      refine x_callVv (As := [.int x113, .int 2, .int ((x2 / 10000) - (x2 / 10000) / 100 * 100)]) (rest := []) C hl.1 hw cb_X10_72 cv_X10_puts (k_X10_puts hw.2.2.2.2 ta0 cm121) ta0 rfl rfl (by decide) ⟨Nat.le_refl _, Nat.le_refl _⟩ rfl (Nat.le_of_ble_eq_true rfl) dX10_cell_171 (fun H locs hw tm121 => ?_)
      refine lv_aload_n hx hb dX10_cell_174 rfl (lv_at hl 0 rfl) ?_
      refine lv_iload hx hb dX10_cell_175 (lv_at hl 5 rfl) ?_
      refine lv_iconst hx hb dX10_cell_177 ki_3 ?_
      refine lv_iload_n hx hb dX10_cell_178 rfl (lv_at hl 2 rfl) ?_
      refine lv_ldc hx hb C.2.2.2.1 (C.2.2.2.2.1 _ ki_X10_66) dX10_cell_179 ?_
      refine lv_idiv hx hb dX10_cell_181 (by decide) ?_
      obtain ⟨m122, cm122, hf⟩ := b1_el (o := f_X10_puts a0 x113 3 (x2 / 1000000) m121) hf
      refine x_callVv (As := [.int x113, .int 3, .int (x2 / 1000000)]) (rest := []) C hl.1 hw cb_X10_72 cv_X10_puts (k_X10_puts hw.2.2.2.2 ta0 cm122) ta0 rfl rfl (by decide) ⟨Nat.le_refl _, Nat.le_refl _⟩ rfl (Nat.le_of_ble_eq_true rfl) dX10_cell_182 (fun H locs hw tm122 => ?_)
      refine lv_aload_n hx hb dX10_cell_185 rfl (lv_at hl 0 rfl) ?_
      refine lv_iload hx hb dX10_cell_186 (lv_at hl 5 rfl) ?_
      refine lv_iconst hx hb dX10_cell_188 ki_4 ?_
      refine lv_iload_n hx hb dX10_cell_189 rfl (lv_at hl 3 rfl) ?_
      obtain ⟨m123, cm123, hf⟩ := b1_el (o := f_X10_puts a0 x113 4 x3 m122) hf
      refine x_callVv (As := [.int x113, .int 4, .int x3]) (rest := []) C hl.1 hw cb_X10_72 cv_X10_puts (k_X10_puts hw.2.2.2.2 ta0 cm123) ta0 rfl rfl (by decide) ⟨Nat.le_refl _, Nat.le_refl _⟩ rfl (Nat.le_of_ble_eq_true rfl) dX10_cell_190 (fun H locs hw tm123 => ?_)
      refine lv_aload_n hx hb dX10_cell_193 rfl (lv_at hl 0 rfl) ?_
      refine lv_iload hx hb dX10_cell_194 (lv_at hl 5 rfl) ?_
      refine lv_iconst hx hb dX10_cell_196 ki_5 ?_
      refine lv_iload hx hb dX10_cell_197 (lv_at hl 4 rfl) ?_
      obtain ⟨m124, cm124, hf⟩ := b1_el (o := f_X10_puts a0 x113 5 x4 m123) hf
      refine x_callVv (As := [.int x113, .int 5, .int x4]) (rest := []) C hl.1 hw cb_X10_72 cv_X10_puts (k_X10_puts hw.2.2.2.2 ta0 cm124) ta0 rfl rfl (by decide) ⟨Nat.le_refl _, Nat.le_refl _⟩ rfl (Nat.le_of_ble_eq_true rfl) dX10_cell_199 (fun H locs hw tm124 => ?_)
      refine lv_iload hx hb dX10_cell_202 (lv_at hl 5 rfl) ?_
      exact x_retI C hr hk hw  hf (by decide) (by decide) dX10_cell_204
    · have hf := ifp hf c
      refine lv_aload_n hx hb dX10_cell_89 rfl (lv_at hl 1 rfl) ?_
      refine lv_ldc hx hb C.2.2.2.1 (C.2.2.2.2.1 _ ki_X10_71) dX10_cell_90 ?_
      obtain ⟨r126, m125, cm125, hf⟩ := b2_el (o := f_X10_finds a0 (-1000000002) mu) hf
      refine x_callVi (As := [.int (-1000000002)]) (rest := []) C hl.1 hw cb_X10_67 cv_X10_finds (k_X10_finds hw.2.2.2.2 ta0 cm125) ta0 rfl rfl (by decide) ⟨Nat.le_refl _, Nat.le_refl _⟩ rfl (Nat.le_of_ble_eq_true rfl) dX10_cell_92 (fun H locs hw tr126 => ?_)
      exact x_retI C hr hk hw  hf (by decide) (by decide) dX10_cell_95
  · have hf := ifp hf c
    refine lv_aload_n hx hb dX10_cell_71 rfl (lv_at hl 1 rfl) ?_
    refine lv_ldc hx hb C.2.2.2.1 (C.2.2.2.2.1 _ ki_X10_61) dX10_cell_72 ?_
    obtain ⟨r128, m127, cm127, hf⟩ := b2_el (o := f_X10_finds a0 (-1000000001) mu) hf
    refine x_callVi (As := [.int (-1000000001)]) (rest := []) C hl.1 hw cb_X10_67 cv_X10_finds (k_X10_finds hw.2.2.2.2 ta0 cm127) ta0 rfl rfl (by decide) ⟨Nat.le_refl _, Nat.le_refl _⟩ rfl (Nat.le_of_ble_eq_true rfl) dX10_cell_74 (fun H locs hw tr128 => ?_)
    exact x_retI C hr hk hw  hf (by decide) (by decide) dX10_cell_77
set_option maxHeartbeats 4000000 in
set_option maxRecDepth 100000 in
theorem w_X10_cell_j63 {p : Program} {l : Launch} {e : Env} {s : State} {m : MethodId} {args : Array Value} {below : List Frame} {meth : Method} {c : Code} {D : va_G} {E : Nat → ClassId} {tU : Nat} {m0 mE : XMem} {rE : Int32} (C : Cx p s m args c cX10_cell 8 RX10 D E (Am m0) tU) (hr : meth.sig.returnType = ((Option.some FieldType.int))) (hk : meth.locks = false) (hnm : meth.name = yX10_cell.name) {a0 : Nat} {x1 : Int32} {x2 : Int32} {x3 : Int32} {x4 : Int32} {mu : XMem} {H : Heap} {locs : List Loc} {ls : Array Slot} (ta0 : mT m0 a0 = some (.inl 10)) (hl : lv_has ls 8 [(0, .ref a0), (1, .int x1), (2, .int x2), (3, .int x3), (4, .int x4)]) (hw : Wd D E (Am m0) s (mT m0) mu H locs) (hf : f_X10_cell_j63 a0 x1 x2 x3 x4 mu = some (rE, mE)) : W p l e (rmN 2 0 0) s m args below meth c H locs 0 0 (MQ below (XQ D E (Am m0) (some (.int rE)) mE (mT mE = mT m0 ∧ True)) args s 0 0 (Am m0)) (F0 m 63 ls []) := by
  have hx := C.1
  have hb := C.2.1
  unfold f_X10_cell_j63 at hf
  refine lv_iconst hx hb dX10_cell_63 ki_0 ?_
  exact w_X10_cell_j64 C hr hk hnm ta0 (lv_sub hl [0, 1, 2, 3, 4] rfl) hw hf
set_option maxHeartbeats 4000000 in
set_option maxRecDepth 100000 in
theorem k_X10_cell {l : Launch} {D : va_G} {E : Nat → ClassId} {tU : Nat} {τ : Nat → Option XTy} {a0 : Nat} {x1 : Int32} {x2 : Int32} {x3 : Int32} {x4 : Int32} {m0 mE : XMem} {rE : Int32} (hm : mT m0 = τ) (ta0 : τ a0 = some (.inl 10)) (hf : f_X10_cell a0 x1 x2 x3 x4 m0 = some (rE, mE)) : Ct l yX10_cell cX10_cell 8 ((Option.some FieldType.int)) 2 0 0 D E tU [.ref a0, .int x1, .int x2, .int x3, .int x4] m0 (some (.int rE)) mE (mT mE = mT m0 ∧ True) := by
  subst hm
  refine Ct.of (by decide) (Nat.le_of_ble_eq_true rfl) (fun p e s m below meth c ls C hr hk hnm hl hw => ?_)
  have hx := C.1
  have hb := C.2.1
  have hl : lv_has ls 8 [(0, .ref a0), (1, .int x1), (2, .int x2), (3, .int x3), (4, .int x4)] := hl
  unfold f_X10_cell at hf
  refine lv_iload_n hx hb dX10_cell_0 rfl (lv_at hl 1 rfl) ?_
  refine lv_iconst hx hb dX10_cell_1 ki_0 ?_
  refine lv_iconst hx hb dX10_cell_2 ki_5 ?_
  obtain ⟨r102, m101, cm101, hf⟩ := b2_el (o := f_X10_within x1 0 5 m0) hf
  refine x_callSi (As := [.int x1, .int 0, .int 5]) (rest := []) C hl.1 hw cb_X10_62 cs_X10_within (k_X10_within hw.2.2.2.2  cm101) rfl (by decide) ⟨Nat.le_refl _, Nat.le_refl _⟩ rfl (Nat.le_of_ble_eq_true rfl) dX10_cell_3 (fun H locs hw tr102 => ?_)
  refine lv_if_eq (tgt := 63) hx hb dX10_cell_6 (by decide) (fun c => ?_) (fun c => ?_)
  · have hf := ifp hf c
    exact w_X10_cell_j63 C hr hk hnm ta0 (lv_sub hl [0, 1, 2, 3, 4] rfl) hw hf
  · have hf := ifn hf c
    refine lv_iload_n hx hb dX10_cell_9 rfl (lv_at hl 2 rfl) ?_
    refine lv_if_lt (tgt := 63) hx hb dX10_cell_10 (by decide) (fun c => ?_) (fun c => ?_)
    · have hf := ifp hf c
      exact w_X10_cell_j63 C hr hk hnm ta0 (lv_sub hl [0, 1, 2, 3, 4] rfl) hw hf
    · have hf := ifn hf c
      refine lv_iload_n hx hb dX10_cell_13 rfl (lv_at hl 2 rfl) ?_
      refine lv_ldc hx hb C.2.2.2.1 (C.2.2.2.2.1 _ ki_X10_66) dX10_cell_14 ?_
      refine lv_idiv hx hb dX10_cell_16 (by decide) ?_
      refine lv_iconst hx hb dX10_cell_17 ki_1 ?_
      refine lv_bipush hx hb dX10_cell_18 kb_99 ?_
      obtain ⟨r104, m103, cm103, hf⟩ := b2_el (o := f_X10_within (x2 / 1000000) 1 99 m101) hf
      refine x_callSi (As := [.int (x2 / 1000000), .int 1, .int 99]) (rest := []) C hl.1 hw cb_X10_62 cs_X10_within (k_X10_within hw.2.2.2.2  cm103) rfl (by decide) ⟨Nat.le_refl _, Nat.le_refl _⟩ rfl (Nat.le_of_ble_eq_true rfl) dX10_cell_20 (fun H locs hw tr104 => ?_)
      refine lv_if_eq (tgt := 63) hx hb dX10_cell_23 (by decide) (fun c => ?_) (fun c => ?_)
      · have hf := ifp hf c
        exact w_X10_cell_j63 C hr hk hnm ta0 (lv_sub hl [0, 1, 2, 3, 4] rfl) hw hf
      · have hf := ifn hf c
        refine lv_iload_n hx hb dX10_cell_26 rfl (lv_at hl 2 rfl) ?_
        refine lv_sipush hx hb dX10_cell_27 ks_10000 ?_
        refine lv_idiv hx hb dX10_cell_30 (by decide) ?_
        refine lv_bipush hx hb dX10_cell_31 kb_100 ?_
        refine lv_irem hx hb dX10_cell_33 (by decide) ?_
        refine lv_if_le (tgt := 63) hx hb dX10_cell_34 (by decide) (fun c => ?_) (fun c => ?_)
        · have hf := ifp hf c
          exact w_X10_cell_j63 C hr hk hnm ta0 (lv_sub hl [0, 1, 2, 3, 4] rfl) hw hf
        · have hf := ifn hf c
          refine lv_iload_n hx hb dX10_cell_37 rfl (lv_at hl 3 rfl) ?_
          refine lv_iconst hx hb dX10_cell_38 ki_0 ?_
          refine lv_bipush hx hb dX10_cell_39 kb_100 ?_
          obtain ⟨r106, m105, cm105, hf⟩ := b2_el (o := f_X10_within x3 0 100 m103) hf
          refine x_callSi (As := [.int x3, .int 0, .int 100]) (rest := []) C hl.1 hw cb_X10_62 cs_X10_within (k_X10_within hw.2.2.2.2  cm105) rfl (by decide) ⟨Nat.le_refl _, Nat.le_refl _⟩ rfl (Nat.le_of_ble_eq_true rfl) dX10_cell_41 (fun H locs hw tr106 => ?_)
          refine lv_if_eq (tgt := 63) hx hb dX10_cell_44 (by decide) (fun c => ?_) (fun c => ?_)
          · have hf := ifp hf c
            exact w_X10_cell_j63 C hr hk hnm ta0 (lv_sub hl [0, 1, 2, 3, 4] rfl) hw hf
          · have hf := ifn hf c
            refine lv_iload hx hb dX10_cell_47 (lv_at hl 4 rfl) ?_
            refine lv_iconst hx hb dX10_cell_49 ki_0 ?_
            refine lv_sipush hx hb dX10_cell_50 ks_9999 ?_
            obtain ⟨r108, m107, cm107, hf⟩ := b2_el (o := f_X10_within x4 0 9999 m105) hf
            refine x_callSi (As := [.int x4, .int 0, .int 9999]) (rest := []) C hl.1 hw cb_X10_62 cs_X10_within (k_X10_within hw.2.2.2.2  cm107) rfl (by decide) ⟨Nat.le_refl _, Nat.le_refl _⟩ rfl (Nat.le_of_ble_eq_true rfl) dX10_cell_53 (fun H locs hw tr108 => ?_)
            refine lv_if_eq (tgt := 63) hx hb dX10_cell_56 (by decide) (fun c => ?_) (fun c => ?_)
            · have hf := ifp hf c
              exact w_X10_cell_j63 C hr hk hnm ta0 (lv_sub hl [0, 1, 2, 3, 4] rfl) hw hf
            · have hf := ifn hf c
              refine lv_iconst hx hb dX10_cell_59 ki_1 ?_
              refine lv_goto (tgt := 64) hx hb dX10_cell_60 (by decide) ?_
              exact w_X10_cell_j64 C hr hk hnm ta0 (lv_sub hl [0, 1, 2, 3, 4] rfl) hw hf
set_option maxHeartbeats 4000000 in
set_option maxRecDepth 100000 in
theorem k_X10_isSheet {l : Launch} {D : va_G} {E : Nat → ClassId} {tU : Nat} {τ : Nat → Option XTy} {x0 : Int32} {m0 mE : XMem} {rE : Int32} (hm : mT m0 = τ)  (hf : f_X10_isSheet x0 m0 = some (rE, mE)) : Ct l yX10_isSheet cX10_isSheet 1 ((Option.some FieldType.boolean)) 2 0 0 D E tU [.int x0] m0 (some (.int rE)) mE (mT mE = mT m0 ∧ (rE = 0 ∨ rE = 1)) := by
  subst hm
  refine Ct.of (by decide) (Nat.le_of_ble_eq_true rfl) (fun p e s m below meth c ls C hr hk hnm hl hw => ?_)
  have hx := C.1
  have hb := C.2.1
  have hl : lv_has ls 1 [(0, .int x0)] := hl
  unfold f_X10_isSheet at hf
  refine lv_iload_n hx hb dX10_isSheet_0 rfl (lv_at hl 0 rfl) ?_
  refine lv_iconst hx hb dX10_isSheet_1 ki_0 ?_
  refine lv_iconst hx hb dX10_isSheet_2 ki_3 ?_
  obtain ⟨r102, m101, cm101, hf⟩ := b2_el (o := f_X10_within x0 0 3 m0) hf
  refine x_callSi (As := [.int x0, .int 0, .int 3]) (rest := []) C hl.1 hw cb_X10_62 cs_X10_within (k_X10_within hw.2.2.2.2  cm101) rfl (by decide) ⟨Nat.le_refl _, Nat.le_refl _⟩ rfl (Nat.le_of_ble_eq_true rfl) dX10_isSheet_3 (fun H locs hw tr102 => ?_)
  exact x_retZ C hr hk tr102 hw  hf (by decide) (by decide) dX10_isSheet_6
set_option maxHeartbeats 4000000 in
set_option maxRecDepth 100000 in
theorem w_X10_copy_h156 {p : Program} {l : Launch} {e : Env} {s : State} {m : MethodId} {args : Array Value} {below : List Frame} {meth : Method} {c : Code} {D : va_G} {E : Nat → ClassId} {tU : Nat} {m0 mE : XMem} {rE : Int32} (C : Cx p s m args c cX10_copy 7 RX10 D E (Am m0) tU) (hr : meth.sig.returnType = ((Option.some FieldType.int))) (hk : meth.locks = false) (hnm : meth.name = yX10_copy.name) {a0 : Nat} {x3 : Int32} {x4 : Int32} {x5 : Int32} (ta0 : mT m0 a0 = some (.inl 10)) {k191 :  XMem → Option (Int32 × XMem)} (hk191 : ∀  (mu : XMem) (H : Heap) (locs : List Loc) (ls : Array Slot), lv_has ls 7 [(5, .int x5)] → Wd D E (Am m0) s (mT m0) mu H locs →   k191  mu = some (rE, mE) → W p l e (rmN 3 0 0) s m args below meth c H locs 0 0 (MQ below (XQ D E (Am m0) (some (.int rE)) mE (mT mE = mT m0 ∧ True)) args s 0 0 (Am m0)) (F0 m 191 ls [])) : ∀ (n : Nat) (x6 : Int32) (mu : XMem) (H : Heap) (locs : List Loc) (ls : Array Slot), lv_has ls 7 [(0, .ref a0), (3, .int x3), (4, .int x4), (5, .int x5), (6, .int x6)] → Wd D E (Am m0) s (mT m0) mu H locs → f_X10_copy_h156 a0 x3 x4 x5 k191 n x6 mu = some (rE, mE) → W p l e (rmN 3 0 0) s m args below meth c H locs 0 0 (MQ below (XQ D E (Am m0) (some (.int rE)) mE (mT mE = mT m0 ∧ True)) args s 0 0 (Am m0)) (F0 m 156 ls []) := by
  have hx := C.1
  have hb := C.2.1
  intro n
  induction n with
  | zero =>
    intros
    rename_i hf
    cases hf
  | succ n ih =>
    intro x6 mu H locs ls hl hw hf
    rw [f_X10_copy_h156] at hf
    refine lv_iload hx hb dX10_copy_156 (lv_at hl 4 rfl) ?_
    refine lv_iload hx hb dX10_copy_158 (lv_at hl 3 rfl) ?_
    refine lv_icmp_ge (tgt := 191) hx hb dX10_copy_160 (by decide) (fun c => ?_) (fun c => ?_)
    · have hf := ifp hf c
      exact hk191 _ _ _ _ (lv_sub hl [3] rfl) hw hf
    · have hf := ifn hf c
      refine lv_aload_n hx hb dX10_copy_163 rfl (lv_at hl 0 rfl) ?_
      obtain ⟨b145, eb145, hf⟩ := fo_el hf
      refine x_getR C hw fa_X10_55 (Or.inr ⟨_, rfl⟩) ta0 eb145 dX10_copy_164 (fun tb145 => ?_)
      have tb145 : ∃ n, (mT m0) b145 = some (.inr (2, n)) := tb145
      refine lv_bipush hx hb dX10_copy_167 kb_40 ?_
      refine lv_iload_n hx hb dX10_copy_169 rfl (lv_at hl 1 rfl) ?_
      refine lv_imul hx hb dX10_copy_170 ?_
      refine lv_iload hx hb dX10_copy_171 (lv_at hl 2 rfl) ?_
      refine lv_iadd hx hb dX10_copy_173 ?_
      refine lv_iload hx hb dX10_copy_174 (lv_at hl 4 rfl) ?_
      refine lv_iadd hx hb dX10_copy_176 ?_
      refine lv_aload_n hx hb dX10_copy_177 rfl (lv_at hl 0 rfl) ?_
      obtain ⟨b146, eb146, hf⟩ := fo_el hf
      refine x_getR C hw fa_X10_58 (Or.inr ⟨_, rfl⟩) ta0 eb146 dX10_copy_178 (fun tb146 => ?_)
      have tb146 : ∃ n, (mT m0) b146 = some (.inr (2, n)) := tb146
      refine lv_iload hx hb dX10_copy_181 (lv_at hl 4 rfl) ?_
      obtain ⟨g147, hf⟩ := gd_el hf
      refine x_lald C hw tb146 g147 dX10_copy_183 ?_
      obtain ⟨g148, hf⟩ := gd_el hf
      refine x_last C hw tb145 g148 dX10_copy_184 (fun m149 H locs em149 hw => ?_)
      have hf := nm_el hf em149
      obtain ⟨x150, ex150⟩ : ∃ z : Int32, z = x6 + 1 := ⟨_, rfl⟩
      have hf := nm_el hf ex150
      refine lv_iinc (v := x150) (lv' := [(6, .int x150), (0, .ref a0), (3, .int x3), (4, .int x4), (5, .int x5)]) hx hb dX10_copy_185 hl (k := 4) rfl (by rw [ex150, ki_1]) (by decide) rfl (fun ls hl => ?_)
      refine lv_goto (tgt := 156) hx hb dX10_copy_188 (by decide) ?_
      exact ih _ _ _ _ _ (lv_sub hl [1, 2, 3, 4, 0] rfl) hw hf
set_option maxHeartbeats 4000000 in
set_option maxRecDepth 100000 in
theorem w_X10_copy_h119 {p : Program} {l : Launch} {e : Env} {s : State} {m : MethodId} {args : Array Value} {below : List Frame} {meth : Method} {c : Code} {D : va_G} {E : Nat → ClassId} {tU : Nat} {m0 mE : XMem} {rE : Int32} (C : Cx p s m args c cX10_copy 7 RX10 D E (Am m0) tU) (hr : meth.sig.returnType = ((Option.some FieldType.int))) (hk : meth.locks = false) (hnm : meth.name = yX10_copy.name) {a0 : Nat} {x1 : Int32} {x2 : Int32} {x3 : Int32} {x4 : Int32} {x5 : Int32} (ta0 : mT m0 a0 = some (.inl 10)) {k153 :  XMem → Option (Int32 × XMem)} (hk153 : ∀  (mu : XMem) (H : Heap) (locs : List Loc) (ls : Array Slot), lv_has ls 7 [(0, .ref a0), (3, .int x3), (4, .int x4), (5, .int x5)] → Wd D E (Am m0) s (mT m0) mu H locs →   k153  mu = some (rE, mE) → W p l e (rmN 3 0 0) s m args below meth c H locs 0 0 (MQ below (XQ D E (Am m0) (some (.int rE)) mE (mT mE = mT m0 ∧ True)) args s 0 0 (Am m0)) (F0 m 153 ls [])) : ∀ (n : Nat) (x6 : Int32) (mu : XMem) (H : Heap) (locs : List Loc) (ls : Array Slot), lv_has ls 7 [(0, .ref a0), (1, .int x1), (2, .int x2), (3, .int x3), (4, .int x4), (5, .int x5), (6, .int x6)] → Wd D E (Am m0) s (mT m0) mu H locs → f_X10_copy_h119 a0 x1 x2 x3 x4 x5 k153 n x6 mu = some (rE, mE) → W p l e (rmN 3 0 0) s m args below meth c H locs 0 0 (MQ below (XQ D E (Am m0) (some (.int rE)) mE (mT mE = mT m0 ∧ True)) args s 0 0 (Am m0)) (F0 m 119 ls []) := by
  have hx := C.1
  have hb := C.2.1
  intro n
  induction n with
  | zero =>
    intros
    rename_i hf
    cases hf
  | succ n ih =>
    intro x6 mu H locs ls hl hw hf
    rw [f_X10_copy_h119] at hf
    refine lv_iload hx hb dX10_copy_119 (lv_at hl 6 rfl) ?_
    refine lv_iload hx hb dX10_copy_121 (lv_at hl 5 rfl) ?_
    refine lv_icmp_ge (tgt := 153) hx hb dX10_copy_123 (by decide) (fun c => ?_) (fun c => ?_)
    · have hf := ifp hf c
      exact hk153 _ _ _ _ (lv_sub hl [0, 3, 4, 5] rfl) hw hf
    · have hf := ifn hf c
      refine lv_aload_n hx hb dX10_copy_126 rfl (lv_at hl 0 rfl) ?_
      obtain ⟨b139, eb139, hf⟩ := fo_el hf
      refine x_getR C hw fa_X10_58 (Or.inr ⟨_, rfl⟩) ta0 eb139 dX10_copy_127 (fun tb139 => ?_)
      have tb139 : ∃ n, (mT m0) b139 = some (.inr (2, n)) := tb139
      refine lv_iload hx hb dX10_copy_130 (lv_at hl 6 rfl) ?_
      refine lv_aload_n hx hb dX10_copy_132 rfl (lv_at hl 0 rfl) ?_
      obtain ⟨b140, eb140, hf⟩ := fo_el hf
      refine x_getR C hw fa_X10_55 (Or.inr ⟨_, rfl⟩) ta0 eb140 dX10_copy_133 (fun tb140 => ?_)
      have tb140 : ∃ n, (mT m0) b140 = some (.inr (2, n)) := tb140
      refine lv_bipush hx hb dX10_copy_136 kb_40 ?_
      refine lv_iload_n hx hb dX10_copy_138 rfl (lv_at hl 1 rfl) ?_
      refine lv_imul hx hb dX10_copy_139 ?_
      refine lv_iload_n hx hb dX10_copy_140 rfl (lv_at hl 2 rfl) ?_
      refine lv_iadd hx hb dX10_copy_141 ?_
      refine lv_iload hx hb dX10_copy_142 (lv_at hl 6 rfl) ?_
      refine lv_iadd hx hb dX10_copy_144 ?_
      obtain ⟨g141, hf⟩ := gd_el hf
      refine x_lald C hw tb140 g141 dX10_copy_145 ?_
      obtain ⟨g142, hf⟩ := gd_el hf
      refine x_last C hw tb139 g142 dX10_copy_146 (fun m143 H locs em143 hw => ?_)
      have hf := nm_el hf em143
      obtain ⟨x144, ex144⟩ : ∃ z : Int32, z = x6 + 1 := ⟨_, rfl⟩
      have hf := nm_el hf ex144
      refine lv_iinc (v := x144) (lv' := [(6, .int x144), (0, .ref a0), (1, .int x1), (2, .int x2), (3, .int x3), (4, .int x4), (5, .int x5)]) hx hb dX10_copy_147 hl (k := 6) rfl (by rw [ex144, ki_1]) (by decide) rfl (fun ls hl => ?_)
      refine lv_goto (tgt := 119) hx hb dX10_copy_150 (by decide) ?_
      exact ih _ _ _ _ _ (lv_sub hl [1, 2, 3, 4, 5, 6, 0] rfl) hw hf
set_option maxHeartbeats 4000000 in
set_option maxRecDepth 100000 in
theorem k_X10_copy {l : Launch} {D : va_G} {E : Nat → ClassId} {tU : Nat} {τ : Nat → Option XTy} {a0 : Nat} {x1 : Int32} {x2 : Int32} {x3 : Int32} {x4 : Int32} {x5 : Int32} {m0 mE : XMem} {rE : Int32} (hm : mT m0 = τ) (ta0 : τ a0 = some (.inl 10)) (hf : f_X10_copy a0 x1 x2 x3 x4 x5 m0 = some (rE, mE)) : Ct l yX10_copy cX10_copy 7 ((Option.some FieldType.int)) 3 0 0 D E tU [.ref a0, .int x1, .int x2, .int x3, .int x4, .int x5] m0 (some (.int rE)) mE (mT mE = mT m0 ∧ True) := by
  subst hm
  refine Ct.of (by decide) (Nat.le_of_ble_eq_true rfl) (fun p e s m below meth c ls C hr hk hnm hl hw => ?_)
  have hx := C.1
  have hb := C.2.1
  have hl : lv_has ls 7 [(0, .ref a0), (1, .int x1), (2, .int x2), (3, .int x3), (4, .int x4), (5, .int x5)] := hl
  unfold f_X10_copy at hf
  refine lv_iload_n hx hb dX10_copy_0 rfl (lv_at hl 1 rfl) ?_
  obtain ⟨r102, m101, cm101, hf⟩ := b2_el (o := f_X10_isSheet x1 m0) hf
  refine x_callSi (As := [.int x1]) (rest := []) C hl.1 hw cb_X10_238 cs_X10_isSheet (k_X10_isSheet hw.2.2.2.2  cm101) rfl (by decide) ⟨Nat.le_refl _, Nat.le_refl _⟩ rfl (Nat.le_of_ble_eq_true rfl) dX10_copy_1 (fun H locs hw tr102 => ?_)
  refine lv_if_eq (tgt := 14) hx hb dX10_copy_4 (by decide) (fun c => ?_) (fun c => ?_)
  · have hf := ifp hf c
    refine lv_aload_n hx hb dX10_copy_14 rfl (lv_at hl 0 rfl) ?_
    refine lv_ldc hx hb C.2.2.2.1 (C.2.2.2.2.1 _ ki_X10_61) dX10_copy_15 ?_
    obtain ⟨r104, m103, cm103, hf⟩ := b2_el (o := f_X10_finds a0 (-1000000001) m101) hf
    refine x_callVi (As := [.int (-1000000001)]) (rest := []) C hl.1 hw cb_X10_67 cv_X10_finds (k_X10_finds hw.2.2.2.2 ta0 cm103) ta0 rfl rfl (by decide) ⟨Nat.le_refl _, Nat.le_refl _⟩ rfl (Nat.le_of_ble_eq_true rfl) dX10_copy_17 (fun H locs hw tr104 => ?_)
    exact x_retI C hr hk hw  hf (by decide) (by decide) dX10_copy_20
  · have hf := ifn hf c
    refine lv_iload_n hx hb dX10_copy_7 rfl (lv_at hl 3 rfl) ?_
    obtain ⟨r106, m105, cm105, hf⟩ := b2_el (o := f_X10_isSheet x3 m101) hf
    refine x_callSi (As := [.int x3]) (rest := []) C hl.1 hw cb_X10_238 cs_X10_isSheet (k_X10_isSheet hw.2.2.2.2  cm105) rfl (by decide) ⟨Nat.le_refl _, Nat.le_refl _⟩ rfl (Nat.le_of_ble_eq_true rfl) dX10_copy_8 (fun H locs hw tr106 => ?_)
    refine lv_if_ne (tgt := 21) hx hb dX10_copy_11 (by decide) (fun c => ?_) (fun c => ?_)
    · have hf := ifn hf c
      refine lv_aload_n hx hb dX10_copy_21 rfl (lv_at hl 0 rfl) ?_
      obtain ⟨b107, eb107, hf⟩ := fo_el hf
      refine x_getR C hw fa_X10_49 (Or.inr ⟨_, rfl⟩) ta0 eb107 dX10_copy_22 (fun tb107 => ?_)
      have tb107 : ∃ n, (mT m0) b107 = some (.inr (0, n)) := tb107
      refine lv_iload_n hx hb dX10_copy_25 rfl (lv_at hl 1 rfl) ?_
      obtain ⟨g108, hf⟩ := gd_el hf
      refine x_iald C hw tb107 g108 dX10_copy_26 ?_
      refine lv_if_eq (tgt := 39) hx hb dX10_copy_27 (by decide) (fun c => ?_) (fun c => ?_)
      · have hf := ifp hf c
        refine lv_aload_n hx hb dX10_copy_39 rfl (lv_at hl 0 rfl) ?_
        refine lv_ldc hx hb C.2.2.2.1 (C.2.2.2.2.1 _ ki_X10_241) dX10_copy_40 ?_
        obtain ⟨r110, m109, cm109, hf⟩ := b2_el (o := f_X10_finds a0 (-1000000006) m105) hf
        refine x_callVi (As := [.int (-1000000006)]) (rest := []) C hl.1 hw cb_X10_67 cv_X10_finds (k_X10_finds hw.2.2.2.2 ta0 cm109) ta0 rfl rfl (by decide) ⟨Nat.le_refl _, Nat.le_refl _⟩ rfl (Nat.le_of_ble_eq_true rfl) dX10_copy_42 (fun H locs hw tr110 => ?_)
        exact x_retI C hr hk hw  hf (by decide) (by decide) dX10_copy_45
      · have hf := ifn hf c
        refine lv_aload_n hx hb dX10_copy_30 rfl (lv_at hl 0 rfl) ?_
        obtain ⟨b111, eb111, hf⟩ := fo_el hf
        refine x_getR C hw fa_X10_49 (Or.inr ⟨_, rfl⟩) ta0 eb111 dX10_copy_31 (fun tb111 => ?_)
        have tb111 : ∃ n, (mT m0) b111 = some (.inr (0, n)) := tb111
        refine lv_iload_n hx hb dX10_copy_34 rfl (lv_at hl 3 rfl) ?_
        obtain ⟨g112, hf⟩ := gd_el hf
        refine x_iald C hw tb111 g112 dX10_copy_35 ?_
        refine lv_if_ne (tgt := 46) hx hb dX10_copy_36 (by decide) (fun c => ?_) (fun c => ?_)
        · have hf := ifn hf c
          refine lv_aload_n hx hb dX10_copy_46 rfl (lv_at hl 0 rfl) ?_
          obtain ⟨b113, eb113, hf⟩ := fo_el hf
          refine x_getR C hw fa_X10_49 (Or.inr ⟨_, rfl⟩) ta0 eb113 dX10_copy_47 (fun tb113 => ?_)
          have tb113 : ∃ n, (mT m0) b113 = some (.inr (0, n)) := tb113
          refine lv_iload_n hx hb dX10_copy_50 rfl (lv_at hl 1 rfl) ?_
          obtain ⟨g114, hf⟩ := gd_el hf
          refine x_iald C hw tb113 g114 dX10_copy_51 ?_
          refine lv_aload_n hx hb dX10_copy_52 rfl (lv_at hl 0 rfl) ?_
          obtain ⟨b115, eb115, hf⟩ := fo_el hf
          refine x_getR C hw fa_X10_49 (Or.inr ⟨_, rfl⟩) ta0 eb115 dX10_copy_53 (fun tb115 => ?_)
          have tb115 : ∃ n, (mT m0) b115 = some (.inr (0, n)) := tb115
          refine lv_iload_n hx hb dX10_copy_56 rfl (lv_at hl 3 rfl) ?_
          obtain ⟨g116, hf⟩ := gd_el hf
          refine x_iald C hw tb115 g116 dX10_copy_57 ?_
          refine lv_icmp_eq (tgt := 68) hx hb dX10_copy_58 (by decide) (fun c => ?_) (fun c => ?_)
          · have hf := ifp hf c
            refine lv_iload_n hx hb dX10_copy_68 rfl (lv_at hl 2 rfl) ?_
            refine lv_if_lt (tgt := 109) hx hb dX10_copy_69 (by decide) (fun c => ?_) (fun c => ?_)
            · have hf := ifp hf c
              refine lv_aload_n hx hb dX10_copy_109 rfl (lv_at hl 0 rfl) ?_
              refine lv_ldc hx hb C.2.2.2.1 (C.2.2.2.2.1 _ ki_X10_61) dX10_copy_110 ?_
              obtain ⟨r118, m117, cm117, hf⟩ := b2_el (o := f_X10_finds a0 (-1000000001) m105) hf
              refine x_callVi (As := [.int (-1000000001)]) (rest := []) C hl.1 hw cb_X10_67 cv_X10_finds (k_X10_finds hw.2.2.2.2 ta0 cm117) ta0 rfl rfl (by decide) ⟨Nat.le_refl _, Nat.le_refl _⟩ rfl (Nat.le_of_ble_eq_true rfl) dX10_copy_112 (fun H locs hw tr118 => ?_)
              exact x_retI C hr hk hw  hf (by decide) (by decide) dX10_copy_115
            · have hf := ifn hf c
              refine lv_iload hx hb dX10_copy_72 (lv_at hl 4 rfl) ?_
              refine lv_if_lt (tgt := 109) hx hb dX10_copy_74 (by decide) (fun c => ?_) (fun c => ?_)
              · have hf := ifp hf c
                refine lv_aload_n hx hb dX10_copy_109 rfl (lv_at hl 0 rfl) ?_
                refine lv_ldc hx hb C.2.2.2.1 (C.2.2.2.2.1 _ ki_X10_61) dX10_copy_110 ?_
                obtain ⟨r120, m119, cm119, hf⟩ := b2_el (o := f_X10_finds a0 (-1000000001) m105) hf
                refine x_callVi (As := [.int (-1000000001)]) (rest := []) C hl.1 hw cb_X10_67 cv_X10_finds (k_X10_finds hw.2.2.2.2 ta0 cm119) ta0 rfl rfl (by decide) ⟨Nat.le_refl _, Nat.le_refl _⟩ rfl (Nat.le_of_ble_eq_true rfl) dX10_copy_112 (fun H locs hw tr120 => ?_)
                exact x_retI C hr hk hw  hf (by decide) (by decide) dX10_copy_115
              · have hf := ifn hf c
                refine lv_iload hx hb dX10_copy_77 (lv_at hl 5 rfl) ?_
                refine lv_if_lt (tgt := 109) hx hb dX10_copy_79 (by decide) (fun c => ?_) (fun c => ?_)
                · have hf := ifp hf c
                  refine lv_aload_n hx hb dX10_copy_109 rfl (lv_at hl 0 rfl) ?_
                  refine lv_ldc hx hb C.2.2.2.1 (C.2.2.2.2.1 _ ki_X10_61) dX10_copy_110 ?_
                  obtain ⟨r122, m121, cm121, hf⟩ := b2_el (o := f_X10_finds a0 (-1000000001) m105) hf
                  refine x_callVi (As := [.int (-1000000001)]) (rest := []) C hl.1 hw cb_X10_67 cv_X10_finds (k_X10_finds hw.2.2.2.2 ta0 cm121) ta0 rfl rfl (by decide) ⟨Nat.le_refl _, Nat.le_refl _⟩ rfl (Nat.le_of_ble_eq_true rfl) dX10_copy_112 (fun H locs hw tr122 => ?_)
                  exact x_retI C hr hk hw  hf (by decide) (by decide) dX10_copy_115
                · have hf := ifn hf c
                  refine lv_iload hx hb dX10_copy_82 (lv_at hl 5 rfl) ?_
                  refine lv_aload_n hx hb dX10_copy_84 rfl (lv_at hl 0 rfl) ?_
                  obtain ⟨b123, eb123, hf⟩ := fo_el hf
                  refine x_getR C hw fa_X10_52 (Or.inr ⟨_, rfl⟩) ta0 eb123 dX10_copy_85 (fun tb123 => ?_)
                  have tb123 : ∃ n, (mT m0) b123 = some (.inr (0, n)) := tb123
                  refine lv_iload_n hx hb dX10_copy_88 rfl (lv_at hl 1 rfl) ?_
                  obtain ⟨g124, hf⟩ := gd_el hf
                  refine x_iald C hw tb123 g124 dX10_copy_89 ?_
                  refine lv_iload_n hx hb dX10_copy_90 rfl (lv_at hl 2 rfl) ?_
                  refine lv_isub hx hb dX10_copy_91 ?_
                  refine lv_icmp_gt (tgt := 109) hx hb dX10_copy_92 (by decide) (fun c => ?_) (fun c => ?_)
                  · have hf := ifp hf c
                    refine lv_aload_n hx hb dX10_copy_109 rfl (lv_at hl 0 rfl) ?_
                    refine lv_ldc hx hb C.2.2.2.1 (C.2.2.2.2.1 _ ki_X10_61) dX10_copy_110 ?_
                    obtain ⟨r126, m125, cm125, hf⟩ := b2_el (o := f_X10_finds a0 (-1000000001) m105) hf
                    refine x_callVi (As := [.int (-1000000001)]) (rest := []) C hl.1 hw cb_X10_67 cv_X10_finds (k_X10_finds hw.2.2.2.2 ta0 cm125) ta0 rfl rfl (by decide) ⟨Nat.le_refl _, Nat.le_refl _⟩ rfl (Nat.le_of_ble_eq_true rfl) dX10_copy_112 (fun H locs hw tr126 => ?_)
                    exact x_retI C hr hk hw  hf (by decide) (by decide) dX10_copy_115
                  · have hf := ifn hf c
                    refine lv_iload hx hb dX10_copy_95 (lv_at hl 5 rfl) ?_
                    refine lv_aload_n hx hb dX10_copy_97 rfl (lv_at hl 0 rfl) ?_
                    obtain ⟨b127, eb127, hf⟩ := fo_el hf
                    refine x_getR C hw fa_X10_52 (Or.inr ⟨_, rfl⟩) ta0 eb127 dX10_copy_98 (fun tb127 => ?_)
                    have tb127 : ∃ n, (mT m0) b127 = some (.inr (0, n)) := tb127
                    refine lv_iload_n hx hb dX10_copy_101 rfl (lv_at hl 3 rfl) ?_
                    obtain ⟨g128, hf⟩ := gd_el hf
                    refine x_iald C hw tb127 g128 dX10_copy_102 ?_
                    refine lv_iload hx hb dX10_copy_103 (lv_at hl 4 rfl) ?_
                    refine lv_isub hx hb dX10_copy_105 ?_
                    refine lv_icmp_le (tgt := 116) hx hb dX10_copy_106 (by decide) (fun c => ?_) (fun c => ?_)
                    · have hf := ifp hf c
                      refine lv_iconst hx hb dX10_copy_116 ki_0 ?_
                      refine lv_istore (lv' := [(6, .int 0), (0, .ref a0), (1, .int x1), (2, .int x2), (3, .int x3), (4, .int x4), (5, .int x5)]) hx hb dX10_copy_117 hl (by decide) rfl (fun ls hl => ?_)
                      refine w_X10_copy_h119 C hr hk hnm ta0 ?_ 2000 _ _ _ _ _ (lv_sub hl [1, 2, 3, 4, 5, 6, 0] rfl) hw hf
                      intro m129 H locs ls hl hw hf
                      refine lv_iconst hx hb dX10_copy_153 ki_0 ?_
                      refine lv_istore (lv' := [(6, .int 0), (0, .ref a0), (3, .int x3), (4, .int x4), (5, .int x5)]) hx hb dX10_copy_154 hl (by decide) rfl (fun ls hl => ?_)
                      refine w_X10_copy_h156 C hr hk hnm ta0 ?_ 2000 _ _ _ _ _ (lv_sub hl [1, 2, 3, 4, 0] rfl) hw hf
                      intro m130 H locs ls hl hw hf
                      refine lv_iload hx hb dX10_copy_191 (lv_at hl 0 rfl) ?_
                      exact x_retI C hr hk hw  hf (by decide) (by decide) dX10_copy_193
                    · have hf := ifn hf c
                      refine lv_aload_n hx hb dX10_copy_109 rfl (lv_at hl 0 rfl) ?_
                      refine lv_ldc hx hb C.2.2.2.1 (C.2.2.2.2.1 _ ki_X10_61) dX10_copy_110 ?_
                      obtain ⟨r132, m131, cm131, hf⟩ := b2_el (o := f_X10_finds a0 (-1000000001) m105) hf
                      refine x_callVi (As := [.int (-1000000001)]) (rest := []) C hl.1 hw cb_X10_67 cv_X10_finds (k_X10_finds hw.2.2.2.2 ta0 cm131) ta0 rfl rfl (by decide) ⟨Nat.le_refl _, Nat.le_refl _⟩ rfl (Nat.le_of_ble_eq_true rfl) dX10_copy_112 (fun H locs hw tr132 => ?_)
                      exact x_retI C hr hk hw  hf (by decide) (by decide) dX10_copy_115
          · have hf := ifn hf c
            refine lv_aload_n hx hb dX10_copy_61 rfl (lv_at hl 0 rfl) ?_
            refine lv_ldc hx hb C.2.2.2.1 (C.2.2.2.2.1 _ ki_X10_121) dX10_copy_62 ?_
            obtain ⟨r134, m133, cm133, hf⟩ := b2_el (o := f_X10_finds a0 (-1000000003) m105) hf
            refine x_callVi (As := [.int (-1000000003)]) (rest := []) C hl.1 hw cb_X10_67 cv_X10_finds (k_X10_finds hw.2.2.2.2 ta0 cm133) ta0 rfl rfl (by decide) ⟨Nat.le_refl _, Nat.le_refl _⟩ rfl (Nat.le_of_ble_eq_true rfl) dX10_copy_64 (fun H locs hw tr134 => ?_)
            exact x_retI C hr hk hw  hf (by decide) (by decide) dX10_copy_67
        · have hf := ifp hf c
          refine lv_aload_n hx hb dX10_copy_39 rfl (lv_at hl 0 rfl) ?_
          refine lv_ldc hx hb C.2.2.2.1 (C.2.2.2.2.1 _ ki_X10_241) dX10_copy_40 ?_
          obtain ⟨r136, m135, cm135, hf⟩ := b2_el (o := f_X10_finds a0 (-1000000006) m105) hf
          refine x_callVi (As := [.int (-1000000006)]) (rest := []) C hl.1 hw cb_X10_67 cv_X10_finds (k_X10_finds hw.2.2.2.2 ta0 cm135) ta0 rfl rfl (by decide) ⟨Nat.le_refl _, Nat.le_refl _⟩ rfl (Nat.le_of_ble_eq_true rfl) dX10_copy_42 (fun H locs hw tr136 => ?_)
          exact x_retI C hr hk hw  hf (by decide) (by decide) dX10_copy_45
    · have hf := ifp hf c
      refine lv_aload_n hx hb dX10_copy_14 rfl (lv_at hl 0 rfl) ?_
      refine lv_ldc hx hb C.2.2.2.1 (C.2.2.2.2.1 _ ki_X10_61) dX10_copy_15 ?_
      obtain ⟨r138, m137, cm137, hf⟩ := b2_el (o := f_X10_finds a0 (-1000000001) m105) hf
      refine x_callVi (As := [.int (-1000000001)]) (rest := []) C hl.1 hw cb_X10_67 cv_X10_finds (k_X10_finds hw.2.2.2.2 ta0 cm137) ta0 rfl rfl (by decide) ⟨Nat.le_refl _, Nat.le_refl _⟩ rfl (Nat.le_of_ble_eq_true rfl) dX10_copy_17 (fun H locs hw tr138 => ?_)
      exact x_retI C hr hk hw  hf (by decide) (by decide) dX10_copy_20
set_option maxHeartbeats 4000000 in
set_option maxRecDepth 100000 in
theorem w_X10_count_h90 {p : Program} {l : Launch} {e : Env} {s : State} {m : MethodId} {args : Array Value} {below : List Frame} {meth : Method} {c : Code} {D : va_G} {E : Nat → ClassId} {tU : Nat} {m0 mE : XMem} {rE : Int32} (C : Cx p s m args c cX10_count 4 RX10 D E (Am m0) tU) (hr : meth.sig.returnType = ((Option.some FieldType.int))) (hk : meth.locks = false) (hnm : meth.name = yX10_count.name) {a0 : Nat} (ta0 : mT m0 a0 = some (.inl 10)) {k116 : Int32 →  XMem → Option (Int32 × XMem)} (hk116 : ∀ (y2 : Int32) (mu : XMem) (H : Heap) (locs : List Loc) (ls : Array Slot), lv_has ls 4 [(2, .int y2)] → Wd D E (Am m0) s (mT m0) mu H locs →   k116 y2 mu = some (rE, mE) → W p l e (rmN 2 0 0) s m args below meth c H locs 0 0 (MQ below (XQ D E (Am m0) (some (.int rE)) mE (mT mE = mT m0 ∧ True)) args s 0 0 (Am m0)) (F0 m 116 ls [])) : ∀ (n : Nat) (x2 : Int32) (x3 : Int32) (mu : XMem) (H : Heap) (locs : List Loc) (ls : Array Slot), lv_has ls 4 [(0, .ref a0), (2, .int x2), (3, .int x3)] → Wd D E (Am m0) s (mT m0) mu H locs → f_X10_count_h90 a0 k116 n x2 x3 mu = some (rE, mE) → W p l e (rmN 2 0 0) s m args below meth c H locs 0 0 (MQ below (XQ D E (Am m0) (some (.int rE)) mE (mT mE = mT m0 ∧ True)) args s 0 0 (Am m0)) (F0 m 90 ls []) := by
  have hx := C.1
  have hb := C.2.1
  intro n
  induction n with
  | zero =>
    intros
    rename_i hf
    cases hf
  | succ n ih =>
    intro x2 x3 mu H locs ls hl hw hf
    rw [f_X10_count_h90] at hf
    refine lv_iload_n hx hb dX10_count_90 rfl (lv_at hl 2 rfl) ?_
    refine lv_aload_n hx hb dX10_count_91 rfl (lv_at hl 0 rfl) ?_
    obtain ⟨b122, eb122, hf⟩ := fo_el hf
    refine x_getR C hw fa_X10_7 (Or.inr ⟨_, rfl⟩) ta0 eb122 dX10_count_92 (fun tb122 => ?_)
    have tb122 : ∃ n, (mT m0) b122 = some (.inr (0, n)) := tb122
    refine lv_iconst hx hb dX10_count_95 ki_1 ?_
    obtain ⟨g123, hf⟩ := gd_el hf
    refine x_iald C hw tb122 g123 dX10_count_96 ?_
    refine lv_icmp_ge (tgt := 116) hx hb dX10_count_97 (by decide) (fun c => ?_) (fun c => ?_)
    · have hf := ifp hf c
      exact hk116 _ _ _ _ _ (lv_sub hl [1] rfl) hw hf
    · have hf := ifn hf c
      refine lv_iload_n hx hb dX10_count_100 rfl (lv_at hl 1 rfl) ?_
      refine lv_aload_n hx hb dX10_count_101 rfl (lv_at hl 0 rfl) ?_
      refine lv_iload_n hx hb dX10_count_102 rfl (lv_at hl 2 rfl) ?_
      refine lv_bipush hx hb dX10_count_103 kb_6 ?_
      obtain ⟨r125, m124, cm124, hf⟩ := b2_el (o := f_X10_ofCell a0 x3 6 mu) hf
      refine x_callVi (As := [.int x3, .int 6]) (rest := [.int x2]) C hl.1 hw cb_X10_80 cv_X10_ofCell (k_X10_ofCell hw.2.2.2.2 ta0 cm124) ta0 rfl rfl (by decide) ⟨Nat.le_refl _, Nat.le_refl _⟩ rfl (Nat.le_of_ble_eq_true rfl) dX10_count_105 (fun H locs hw tr125 => ?_)
      refine lv_iadd hx hb dX10_count_108 ?_
      refine lv_topi (fun x126 ex126 => ?_)
      have hf := nm_el hf ex126
      refine lv_istore_n (lv' := [(2, .int x126), (0, .ref a0), (3, .int x3)]) hx hb dX10_count_109 rfl hl (by decide) rfl (fun ls hl => ?_)
      obtain ⟨x127, ex127⟩ : ∃ z : Int32, z = x3 + 1 := ⟨_, rfl⟩
      have hf := nm_el hf ex127
      refine lv_iinc (v := x127) (lv' := [(3, .int x127), (2, .int x126), (0, .ref a0)]) hx hb dX10_count_110 hl (k := 2) rfl (by rw [ex127, ki_1]) (by decide) rfl (fun ls hl => ?_)
      refine lv_goto (tgt := 90) hx hb dX10_count_113 (by decide) ?_
      exact ih _ _ _ _ _ _ (lv_sub hl [2, 1, 0] rfl) hw hf
set_option maxHeartbeats 4000000 in
set_option maxRecDepth 100000 in
theorem k_X10_count {l : Launch} {D : va_G} {E : Nat → ClassId} {tU : Nat} {τ : Nat → Option XTy} {a0 : Nat} {x1 : Int32} {m0 mE : XMem} {rE : Int32} (hm : mT m0 = τ) (ta0 : τ a0 = some (.inl 10)) (hf : f_X10_count a0 x1 m0 = some (rE, mE)) : Ct l yX10_count cX10_count 4 ((Option.some FieldType.int)) 2 0 0 D E tU [.ref a0, .int x1] m0 (some (.int rE)) mE (mT mE = mT m0 ∧ True) := by
  subst hm
  refine Ct.of (by decide) (Nat.le_of_ble_eq_true rfl) (fun p e s m below meth c ls C hr hk hnm hl hw => ?_)
  have hx := C.1
  have hb := C.2.1
  have hl : lv_has ls 4 [(0, .ref a0), (1, .int x1)] := hl
  unfold f_X10_count at hf
  refine lv_iload_n hx hb dX10_count_0 rfl (lv_at hl 1 rfl) ?_
  by_cases c101 : x1 = 0
  · have hf := ifp hf c101
    refine lv_tableIn (off := 43) (tgt := 44) hx hb dX10_count_1 (by rw [c101]; decide) (by rw [c101]; decide) (by rw [c101]; try rfl) (by decide) ?_
    refine lv_aload_n hx hb dX10_count_44 rfl (lv_at hl 0 rfl) ?_
    obtain ⟨b102, eb102, hf⟩ := fo_el hf
    refine x_getR C hw fa_X10_7 (Or.inr ⟨_, rfl⟩) ta0 eb102 dX10_count_45 (fun tb102 => ?_)
    have tb102 : ∃ n, (mT m0) b102 = some (.inr (0, n)) := tb102
    refine lv_iconst hx hb dX10_count_48 ki_0 ?_
    obtain ⟨g103, hf⟩ := gd_el hf
    refine x_iald C hw tb102 g103 dX10_count_49 ?_
    exact x_retI C hr hk hw  hf (by decide) (by decide) dX10_count_50
  · have hf := ifn hf c101
    by_cases c104 : x1 = 1
    · have hf := ifp hf c104
      refine lv_tableIn (off := 50) (tgt := 51) hx hb dX10_count_1 (by rw [c104]; decide) (by rw [c104]; decide) (by rw [c104]; try rfl) (by decide) ?_
      refine lv_aload_n hx hb dX10_count_51 rfl (lv_at hl 0 rfl) ?_
      obtain ⟨b105, eb105, hf⟩ := fo_el hf
      refine x_getR C hw fa_X10_7 (Or.inr ⟨_, rfl⟩) ta0 eb105 dX10_count_52 (fun tb105 => ?_)
      have tb105 : ∃ n, (mT m0) b105 = some (.inr (0, n)) := tb105
      refine lv_iconst hx hb dX10_count_55 ki_1 ?_
      obtain ⟨g106, hf⟩ := gd_el hf
      refine x_iald C hw tb105 g106 dX10_count_56 ?_
      exact x_retI C hr hk hw  hf (by decide) (by decide) dX10_count_57
    · have hf := ifn hf c104
      by_cases c107 : x1 = 2
      · have hf := ifp hf c107
        refine lv_tableIn (off := 57) (tgt := 58) hx hb dX10_count_1 (by rw [c107]; decide) (by rw [c107]; decide) (by rw [c107]; try rfl) (by decide) ?_
        refine lv_aload_n hx hb dX10_count_58 rfl (lv_at hl 0 rfl) ?_
        obtain ⟨b108, eb108, hf⟩ := fo_el hf
        refine x_getR C hw fa_X10_7 (Or.inr ⟨_, rfl⟩) ta0 eb108 dX10_count_59 (fun tb108 => ?_)
        have tb108 : ∃ n, (mT m0) b108 = some (.inr (0, n)) := tb108
        refine lv_iconst hx hb dX10_count_62 ki_2 ?_
        obtain ⟨g109, hf⟩ := gd_el hf
        refine x_iald C hw tb108 g109 dX10_count_63 ?_
        exact x_retI C hr hk hw  hf (by decide) (by decide) dX10_count_64
      · have hf := ifn hf c107
        by_cases c110 : x1 = 3
        · have hf := ifp hf c110
          refine lv_tableIn (off := 64) (tgt := 65) hx hb dX10_count_1 (by rw [c110]; decide) (by rw [c110]; decide) (by rw [c110]; try rfl) (by decide) ?_
          refine lv_aload_n hx hb dX10_count_65 rfl (lv_at hl 0 rfl) ?_
          obtain ⟨b111, eb111, hf⟩ := fo_el hf
          refine x_getR C hw fa_X10_7 (Or.inr ⟨_, rfl⟩) ta0 eb111 dX10_count_66 (fun tb111 => ?_)
          have tb111 : ∃ n, (mT m0) b111 = some (.inr (0, n)) := tb111
          refine lv_iconst hx hb dX10_count_69 ki_3 ?_
          obtain ⟨g112, hf⟩ := gd_el hf
          refine x_iald C hw tb111 g112 dX10_count_70 ?_
          exact x_retI C hr hk hw  hf (by decide) (by decide) dX10_count_71
        · have hf := ifn hf c110
          by_cases c113 : x1 = 4
          · have hf := ifp hf c113
            refine lv_tableIn (off := 71) (tgt := 72) hx hb dX10_count_1 (by rw [c113]; decide) (by rw [c113]; decide) (by rw [c113]; try rfl) (by decide) ?_
            refine lv_aload_n hx hb dX10_count_72 rfl (lv_at hl 0 rfl) ?_
            obtain ⟨b114, eb114, hf⟩ := fo_el hf
            refine x_getR C hw fa_X10_7 (Or.inr ⟨_, rfl⟩) ta0 eb114 dX10_count_73 (fun tb114 => ?_)
            have tb114 : ∃ n, (mT m0) b114 = some (.inr (0, n)) := tb114
            refine lv_iconst hx hb dX10_count_76 ki_4 ?_
            obtain ⟨g115, hf⟩ := gd_el hf
            refine x_iald C hw tb114 g115 dX10_count_77 ?_
            refine lv_iconst hx hb dX10_count_78 ki_1 ?_
            refine lv_isub hx hb dX10_count_79 ?_
            exact x_retI C hr hk hw  hf (by decide) (by decide) dX10_count_80
          · have hf := ifn hf c113
            by_cases c116 : x1 = 5
            · have hf := ifp hf c116
              refine lv_tableIn (off := 80) (tgt := 81) hx hb dX10_count_1 (by rw [c116]; decide) (by rw [c116]; decide) (by rw [c116]; try rfl) (by decide) ?_
              refine lv_aload_n hx hb dX10_count_81 rfl (lv_at hl 0 rfl) ?_
              refine x_getI C hw fa_X10_122 ta0 dX10_count_82 ?_
              exact x_retI C hr hk hw  hf (by decide) (by decide) dX10_count_85
            · have hf := ifn hf c116
              by_cases c117 : x1 = 6
              · have hf := ifp hf c117
                refine lv_tableIn (off := 85) (tgt := 86) hx hb dX10_count_1 (by rw [c117]; decide) (by rw [c117]; decide) (by rw [c117]; try rfl) (by decide) ?_
                refine lv_iconst hx hb dX10_count_86 ki_0 ?_
                refine lv_istore_n (lv' := [(2, .int 0), (0, .ref a0), (1, .int x1)]) hx hb dX10_count_87 rfl hl (by decide) rfl (fun ls hl => ?_)
                refine lv_iconst hx hb dX10_count_88 ki_0 ?_
                refine lv_istore_n (lv' := [(3, .int 0), (2, .int 0), (0, .ref a0), (1, .int x1)]) hx hb dX10_count_89 rfl hl (by decide) rfl (fun ls hl => ?_)
                refine w_X10_count_h90 C hr hk hnm ta0 ?_ 2000 _ _ _ _ _ _ (lv_sub hl [2, 1, 0] rfl) hw hf
                intro x119 m118 H locs ls hl hw hf
                refine lv_iload_n hx hb dX10_count_116 rfl (lv_at hl 0 rfl) ?_
                exact x_retI C hr hk hw  hf (by decide) (by decide) dX10_count_117
              · have hf := ifn hf c117
                refine lv_tableOut (tgt := 118) hx hb dX10_count_1 (by
                    have hc101 := sw_ne (a := 0) c101 (by decide)
                    have hc104 := sw_ne (a := 1) c104 (by decide)
                    have hc107 := sw_ne (a := 2) c107 (by decide)
                    have hc110 := sw_ne (a := 3) c110 (by decide)
                    have hc113 := sw_ne (a := 4) c113 (by decide)
                    have hc116 := sw_ne (a := 5) c116 (by decide)
                    have hc117 := sw_ne (a := 6) c117 (by decide)
                    omega) (by decide) ?_
                refine lv_aload_n hx hb dX10_count_118 rfl (lv_at hl 0 rfl) ?_
                refine lv_ldc hx hb C.2.2.2.1 (C.2.2.2.2.1 _ ki_X10_61) dX10_count_119 ?_
                obtain ⟨r121, m120, cm120, hf⟩ := b2_el (o := f_X10_finds a0 (-1000000001) m0) hf
                refine x_callVi (As := [.int (-1000000001)]) (rest := []) C hl.1 hw cb_X10_67 cv_X10_finds (k_X10_finds hw.2.2.2.2 ta0 cm120) ta0 rfl rfl (by decide) ⟨Nat.le_refl _, Nat.le_refl _⟩ rfl (Nat.le_of_ble_eq_true rfl) dX10_count_121 (fun H locs hw tr121 => ?_)
                exact x_retI C hr hk hw  hf (by decide) (by decide) dX10_count_124
set_option maxHeartbeats 4000000 in
set_option maxRecDepth 100000 in
theorem k_X10_setHouse {l : Launch} {D : va_G} {E : Nat → ClassId} {tU : Nat} {τ : Nat → Option XTy} {a0 : Nat} {x1 : Int32} {x2 : Int32} {x3 : Int32} {m0 mE : XMem} (hm : mT m0 = τ) (ta0 : τ a0 = some (.inl 10)) (hf : f_X10_setHouse a0 x1 x2 x3 m0 = some mE) : Ct l yX10_setHouse cX10_setHouse 4 ((Option.none : Option FieldType)) 1 0 0 D E tU [.ref a0, .int x1, .int x2, .int x3] m0 (none) mE (mT mE = mT m0 ∧ True) := by
  subst hm
  refine Ct.of (by decide) (Nat.le_of_ble_eq_true rfl) (fun p e s m below meth c ls C hr hk hnm hl hw => ?_)
  have hx := C.1
  have hb := C.2.1
  have hl : lv_has ls 4 [(0, .ref a0), (1, .int x1), (2, .int x2), (3, .int x3)] := hl
  unfold f_X10_setHouse at hf
  refine lv_aload_n hx hb dX10_setHouse_0 rfl (lv_at hl 0 rfl) ?_
  obtain ⟨b101, eb101, hf⟩ := fo_el hf
  refine x_getR C hw fa_X10_7 (Or.inr ⟨_, rfl⟩) ta0 eb101 dX10_setHouse_1 (fun tb101 => ?_)
  have tb101 : ∃ n, (mT m0) b101 = some (.inr (0, n)) := tb101
  refine lv_sipush hx hb dX10_setHouse_4 ks_147 ?_
  refine lv_bipush hx hb dX10_setHouse_7 kb_12 ?_
  refine lv_iload_n hx hb dX10_setHouse_9 rfl (lv_at hl 1 rfl) ?_
  refine lv_imul hx hb dX10_setHouse_10 ?_
  refine lv_iadd hx hb dX10_setHouse_11 ?_
  refine lv_iload_n hx hb dX10_setHouse_12 rfl (lv_at hl 2 rfl) ?_
  refine lv_iadd hx hb dX10_setHouse_13 ?_
  refine lv_iload_n hx hb dX10_setHouse_14 rfl (lv_at hl 3 rfl) ?_
  obtain ⟨g102, hf⟩ := gd_el hf
  refine x_iast C hw tb101 g102 dX10_setHouse_15 (fun m103 H locs em103 hw => ?_)
  have hf := nm_el hf em103
  exact x_ret C hr hk hw  hf (by decide) (by decide) dX10_setHouse_16
set_option maxHeartbeats 4000000 in
set_option maxRecDepth 100000 in
theorem w_X10_countsHour_j160 {p : Program} {l : Launch} {e : Env} {s : State} {m : MethodId} {args : Array Value} {below : List Frame} {meth : Method} {c : Code} {D : va_G} {E : Nat → ClassId} {tU : Nat} {m0 mE : XMem} (C : Cx p s m args c cX10_countsHour 7 RX10 D E (Am m0) tU) (hr : meth.sig.returnType = ((Option.none : Option FieldType))) (hk : meth.locks = false) (hnm : meth.name = yX10_countsHour.name) {a0 : Nat} {x1 : Int32} {x2 : Int32} {mu : XMem} {H : Heap} {locs : List Loc} {ls : Array Slot} (ta0 : mT m0 a0 = some (.inl 10)) (hl : lv_has ls 7 [(0, .ref a0), (1, .int x1), (2, .int x2)]) (hw : Wd D E (Am m0) s (mT m0) mu H locs) (hf : f_X10_countsHour_j160 a0 x1 x2 mu = some mE) : W p l e (rmN 6 0 0) s m args below meth c H locs 0 0 (MQ below (XQ D E (Am m0) (none) mE (mT mE = mT m0 ∧ True)) args s 0 0 (Am m0)) (F0 m 160 ls []) := by
  have hx := C.1
  have hb := C.2.1
  unfold f_X10_countsHour_j160 at hf
  refine lv_aload_n hx hb dX10_countsHour_160 rfl (lv_at hl 0 rfl) ?_
  refine lv_iload_n hx hb dX10_countsHour_161 rfl (lv_at hl 1 rfl) ?_
  refine lv_bipush hx hb dX10_countsHour_162 kb_6 ?_
  obtain ⟨r136, m135, cm135, hf⟩ := b2_el (o := f_X10_ofHouse a0 x1 6 mu) hf
  refine x_callVi (As := [.int x1, .int 6]) (rest := []) C hl.1 hw cb_X10_197 cv_X10_ofHouse (k_X10_ofHouse hw.2.2.2.2 ta0 cm135) ta0 rfl rfl (by decide) ⟨Nat.le_refl _, Nat.le_refl _⟩ rfl (Nat.le_of_ble_eq_true rfl) dX10_countsHour_164 (fun H locs hw tr136 => ?_)
  refine lv_iconst hx hb dX10_countsHour_167 ki_1 ?_
  refine lv_icmp_ne (tgt := 197) hx hb dX10_countsHour_168 (by decide) (fun c => ?_) (fun c => ?_)
  · have hf := ifn hf c
    exact x_ret C hr hk hw  hf (by decide) (by decide) dX10_countsHour_197
  · have hf := ifp hf c
    refine lv_aload_n hx hb dX10_countsHour_171 rfl (lv_at hl 0 rfl) ?_
    refine lv_iload_n hx hb dX10_countsHour_172 rfl (lv_at hl 1 rfl) ?_
    obtain ⟨l138, m137, cm137, hf⟩ := b2_el (o := f_X10_itsBalance a0 x1 m135) hf
    refine x_callVl (As := [.int x1]) (rest := []) C hl.1 hw cb_X10_200 cv_X10_itsBalance (k_X10_itsBalance hw.2.2.2.2 ta0 cm137) ta0 rfl rfl (by decide) ⟨Nat.le_refl _, Nat.le_refl _⟩ rfl (Nat.le_of_ble_eq_true rfl) dX10_countsHour_173 (fun H locs hw tl138 => ?_)
    refine lv_lconst hx hb dX10_countsHour_176 kl_0 ?_
    refine W.lcmp hx hb dX10_countsHour_177 ?_
    refine lv_if_gt (tgt := 197) hx hb dX10_countsHour_178 (by decide) (fun c => ?_) (fun c => ?_)
    · have hf := ifp hf c
      exact x_ret C hr hk hw  hf (by decide) (by decide) dX10_countsHour_197
    · have hf := ifn hf c
      refine lv_aload_n hx hb dX10_countsHour_181 rfl (lv_at hl 0 rfl) ?_
      refine lv_iload_n hx hb dX10_countsHour_182 rfl (lv_at hl 1 rfl) ?_
      refine lv_bipush hx hb dX10_countsHour_183 kb_6 ?_
      refine lv_iconst hx hb dX10_countsHour_185 ki_2 ?_
      obtain ⟨m139, cm139, hf⟩ := b1_el (o := f_X10_setHouse a0 x1 6 2 m137) hf
      refine x_callVv (As := [.int x1, .int 6, .int 2]) (rest := []) C hl.1 hw cb_X10_194 cv_X10_setHouse (k_X10_setHouse hw.2.2.2.2 ta0 cm139) ta0 rfl rfl (by decide) ⟨Nat.le_refl _, Nat.le_refl _⟩ rfl (Nat.le_of_ble_eq_true rfl) dX10_countsHour_186 (fun H locs hw tm139 => ?_)
      refine lv_aload_n hx hb dX10_countsHour_189 rfl (lv_at hl 0 rfl) ?_
      refine lv_iload_n hx hb dX10_countsHour_190 rfl (lv_at hl 1 rfl) ?_
      refine lv_bipush hx hb dX10_countsHour_191 kb_8 ?_
      refine lv_iload_n hx hb dX10_countsHour_193 rfl (lv_at hl 2 rfl) ?_
      obtain ⟨m140, cm140, hf⟩ := b1_el (o := f_X10_setHouse a0 x1 8 x2 m139) hf
      refine x_callVv (As := [.int x1, .int 8, .int x2]) (rest := []) C hl.1 hw cb_X10_194 cv_X10_setHouse (k_X10_setHouse hw.2.2.2.2 ta0 cm140) ta0 rfl rfl (by decide) ⟨Nat.le_refl _, Nat.le_refl _⟩ rfl (Nat.le_of_ble_eq_true rfl) dX10_countsHour_194 (fun H locs hw tm140 => ?_)
      exact x_ret C hr hk hw  hf (by decide) (by decide) dX10_countsHour_197
set_option maxHeartbeats 4000000 in
set_option maxRecDepth 100000 in
theorem w_X10_countsHour_j115 {p : Program} {l : Launch} {e : Env} {s : State} {m : MethodId} {args : Array Value} {below : List Frame} {meth : Method} {c : Code} {D : va_G} {E : Nat → ClassId} {tU : Nat} {m0 mE : XMem} (C : Cx p s m args c cX10_countsHour 7 RX10 D E (Am m0) tU) (hr : meth.sig.returnType = ((Option.none : Option FieldType))) (hk : meth.locks = false) (hnm : meth.name = yX10_countsHour.name) {a0 : Nat} {x1 : Int32} {x2 : Int32} {mu : XMem} {H : Heap} {locs : List Loc} {ls : Array Slot} (ta0 : mT m0 a0 = some (.inl 10)) (hl : lv_has ls 7 [(0, .ref a0), (1, .int x1), (2, .int x2)]) (hw : Wd D E (Am m0) s (mT m0) mu H locs) (hf : f_X10_countsHour_j115 a0 x1 x2 mu = some mE) : W p l e (rmN 6 0 0) s m args below meth c H locs 0 0 (MQ below (XQ D E (Am m0) (none) mE (mT mE = mT m0 ∧ True)) args s 0 0 (Am m0)) (F0 m 115 ls []) := by
  have hx := C.1
  have hb := C.2.1
  unfold f_X10_countsHour_j115 at hf
  refine lv_aload_n hx hb dX10_countsHour_115 rfl (lv_at hl 0 rfl) ?_
  refine lv_iload_n hx hb dX10_countsHour_116 rfl (lv_at hl 1 rfl) ?_
  refine lv_bipush hx hb dX10_countsHour_117 kb_6 ?_
  obtain ⟨r128, m127, cm127, hf⟩ := b2_el (o := f_X10_ofHouse a0 x1 6 mu) hf
  refine x_callVi (As := [.int x1, .int 6]) (rest := []) C hl.1 hw cb_X10_197 cv_X10_ofHouse (k_X10_ofHouse hw.2.2.2.2 ta0 cm127) ta0 rfl rfl (by decide) ⟨Nat.le_refl _, Nat.le_refl _⟩ rfl (Nat.le_of_ble_eq_true rfl) dX10_countsHour_119 (fun H locs hw tr128 => ?_)
  refine lv_if_ne (tgt := 160) hx hb dX10_countsHour_122 (by decide) (fun c => ?_) (fun c => ?_)
  · have hf := ifn hf c
    exact w_X10_countsHour_j160 C hr hk hnm ta0 (lv_sub hl [0, 1, 2] rfl) hw hf
  · have hf := ifp hf c
    refine lv_aload_n hx hb dX10_countsHour_125 rfl (lv_at hl 0 rfl) ?_
    refine lv_iload_n hx hb dX10_countsHour_126 rfl (lv_at hl 1 rfl) ?_
    obtain ⟨l130, m129, cm129, hf⟩ := b2_el (o := f_X10_itsBalance a0 x1 m127) hf
    refine x_callVl (As := [.int x1]) (rest := []) C hl.1 hw cb_X10_200 cv_X10_itsBalance (k_X10_itsBalance hw.2.2.2.2 ta0 cm129) ta0 rfl rfl (by decide) ⟨Nat.le_refl _, Nat.le_refl _⟩ rfl (Nat.le_of_ble_eq_true rfl) dX10_countsHour_127 (fun H locs hw tl130 => ?_)
    refine lv_aload_n hx hb dX10_countsHour_130 rfl (lv_at hl 0 rfl) ?_
    refine lv_iload_n hx hb dX10_countsHour_131 rfl (lv_at hl 1 rfl) ?_
    refine lv_iconst hx hb dX10_countsHour_132 ki_4 ?_
    obtain ⟨r132, m131, cm131, hf⟩ := b2_el (o := f_X10_ofHouse a0 x1 4 m129) hf
    refine x_callVi (As := [.int x1, .int 4]) (rest := [.long l130]) C hl.1 hw cb_X10_197 cv_X10_ofHouse (k_X10_ofHouse hw.2.2.2.2 ta0 cm131) ta0 rfl rfl (by decide) ⟨Nat.le_refl _, Nat.le_refl _⟩ rfl (Nat.le_of_ble_eq_true rfl) dX10_countsHour_133 (fun H locs hw tr132 => ?_)
    refine lv_i2l (v := (Int32.toInt64 r132)) hx hb dX10_countsHour_136 rfl ?_
    refine W.lcmp hx hb dX10_countsHour_137 ?_
    refine lv_if_lt (tgt := 160) hx hb dX10_countsHour_138 (by decide) (fun c => ?_) (fun c => ?_)
    · have hf := ifp hf c
      exact w_X10_countsHour_j160 C hr hk hnm ta0 (lv_sub hl [0, 1, 2] rfl) hw hf
    · have hf := ifn hf c
      refine lv_aload_n hx hb dX10_countsHour_141 rfl (lv_at hl 0 rfl) ?_
      refine lv_iload_n hx hb dX10_countsHour_142 rfl (lv_at hl 1 rfl) ?_
      refine lv_bipush hx hb dX10_countsHour_143 kb_6 ?_
      refine lv_iconst hx hb dX10_countsHour_145 ki_1 ?_
      obtain ⟨m133, cm133, hf⟩ := b1_el (o := f_X10_setHouse a0 x1 6 1 m131) hf
      refine x_callVv (As := [.int x1, .int 6, .int 1]) (rest := []) C hl.1 hw cb_X10_194 cv_X10_setHouse (k_X10_setHouse hw.2.2.2.2 ta0 cm133) ta0 rfl rfl (by decide) ⟨Nat.le_refl _, Nat.le_refl _⟩ rfl (Nat.le_of_ble_eq_true rfl) dX10_countsHour_146 (fun H locs hw tm133 => ?_)
      refine lv_aload_n hx hb dX10_countsHour_149 rfl (lv_at hl 0 rfl) ?_
      refine lv_iload_n hx hb dX10_countsHour_150 rfl (lv_at hl 1 rfl) ?_
      refine lv_bipush hx hb dX10_countsHour_151 kb_7 ?_
      refine lv_iload_n hx hb dX10_countsHour_153 rfl (lv_at hl 2 rfl) ?_
      obtain ⟨m134, cm134, hf⟩ := b1_el (o := f_X10_setHouse a0 x1 7 x2 m133) hf
      refine x_callVv (As := [.int x1, .int 7, .int x2]) (rest := []) C hl.1 hw cb_X10_194 cv_X10_setHouse (k_X10_setHouse hw.2.2.2.2 ta0 cm134) ta0 rfl rfl (by decide) ⟨Nat.le_refl _, Nat.le_refl _⟩ rfl (Nat.le_of_ble_eq_true rfl) dX10_countsHour_154 (fun H locs hw tm134 => ?_)
      refine lv_goto (tgt := 197) hx hb dX10_countsHour_157 (by decide) ?_
      exact x_ret C hr hk hw  hf (by decide) (by decide) dX10_countsHour_197
set_option maxHeartbeats 4000000 in
set_option maxRecDepth 100000 in
theorem w_X10_countsHour_j27 {p : Program} {l : Launch} {e : Env} {s : State} {m : MethodId} {args : Array Value} {below : List Frame} {meth : Method} {c : Code} {D : va_G} {E : Nat → ClassId} {tU : Nat} {m0 mE : XMem} (C : Cx p s m args c cX10_countsHour 7 RX10 D E (Am m0) tU) (hr : meth.sig.returnType = ((Option.none : Option FieldType))) (hk : meth.locks = false) (hnm : meth.name = yX10_countsHour.name) {a0 : Nat} {x1 : Int32} {x2 : Int32} {x3 : Int32} {mu : XMem} {H : Heap} {locs : List Loc} {ls : Array Slot} (ta0 : mT m0 a0 = some (.inl 10)) (hl : lv_has ls 7 [(0, .ref a0), (1, .int x1), (2, .int x2), (3, .int x3)]) (hw : Wd D E (Am m0) s (mT m0) mu H locs) (hf : f_X10_countsHour_j27 a0 x1 x2 x3 mu = some mE) : W p l e (rmN 6 0 0) s m args below meth c H locs 0 0 (MQ below (XQ D E (Am m0) (none) mE (mT mE = mT m0 ∧ True)) args s 0 0 (Am m0)) (F0 m 27 ls []) := by
  have hx := C.1
  have hb := C.2.1
  unfold f_X10_countsHour_j27 at hf
  refine lv_aload_n hx hb dX10_countsHour_27 rfl (lv_at hl 0 rfl) ?_
  refine lv_iload_n hx hb dX10_countsHour_28 rfl (lv_at hl 3 rfl) ?_
  obtain ⟨r108, m107, cm107, hf⟩ := b2_el (o := f_X10_readOf a0 x3 mu) hf
  refine x_callVi (As := [.int x3]) (rest := []) C hl.1 hw cb_X10_115 cv_X10_readOf (k_X10_readOf hw.2.2.2.2 ta0 cm107) ta0 rfl rfl (by decide) ⟨Nat.le_refl _, Nat.le_refl _⟩ rfl (Nat.le_of_ble_eq_true rfl) dX10_countsHour_29 (fun H locs hw tr108 => ?_)
  refine lv_i2l (v := (Int32.toInt64 r108)) hx hb dX10_countsHour_32 rfl ?_
  refine lv_aload_n hx hb dX10_countsHour_33 rfl (lv_at hl 0 rfl) ?_
  refine lv_iload_n hx hb dX10_countsHour_34 rfl (lv_at hl 1 rfl) ?_
  refine lv_iconst hx hb dX10_countsHour_35 ki_1 ?_
  obtain ⟨r110, m109, cm109, hf⟩ := b2_el (o := f_X10_ofHouse a0 x1 1 m107) hf
  refine x_callVi (As := [.int x1, .int 1]) (rest := [.long (Int32.toInt64 r108)]) C hl.1 hw cb_X10_197 cv_X10_ofHouse (k_X10_ofHouse hw.2.2.2.2 ta0 cm109) ta0 rfl rfl (by decide) ⟨Nat.le_refl _, Nat.le_refl _⟩ rfl (Nat.le_of_ble_eq_true rfl) dX10_countsHour_36 (fun H locs hw tr110 => ?_)
  refine lv_i2l (v := (Int32.toInt64 r110)) hx hb dX10_countsHour_39 rfl ?_
  refine lv_lmul hx hb dX10_countsHour_40 ?_
  refine lv_topl (fun l111 el111 => ?_)
  have hf := nm_el hf el111
  refine lv_lstore (lv' := [(4, .long l111), (0, .ref a0), (1, .int x1), (2, .int x2), (3, .int x3)]) hx hb dX10_countsHour_41 hl (by decide) rfl (fun ls hl => ?_)
  refine lv_aload_n hx hb dX10_countsHour_43 rfl (lv_at hl 1 rfl) ?_
  refine lv_iload_n hx hb dX10_countsHour_44 rfl (lv_at hl 4 rfl) ?_
  refine lv_bipush hx hb dX10_countsHour_45 kb_8 ?_
  obtain ⟨r113, m112, cm112, hf⟩ := b2_el (o := f_X10_ofCell a0 x3 8 m109) hf
  refine x_callVi (As := [.int x3, .int 8]) (rest := []) C hl.1 hw cb_X10_80 cv_X10_ofCell (k_X10_ofCell hw.2.2.2.2 ta0 cm112) ta0 rfl rfl (by decide) ⟨Nat.le_refl _, Nat.le_refl _⟩ rfl (Nat.le_of_ble_eq_true rfl) dX10_countsHour_47 (fun H locs hw tr113 => ?_)
  refine lv_istore (lv' := [(6, .int r113), (4, .long l111), (0, .ref a0), (1, .int x1), (2, .int x2), (3, .int x3)]) hx hb dX10_countsHour_50 hl (by decide) rfl (fun ls hl => ?_)
  refine lv_aload_n hx hb dX10_countsHour_52 rfl (lv_at hl 2 rfl) ?_
  refine lv_iload_n hx hb dX10_countsHour_53 rfl (lv_at hl 3 rfl) ?_
  refine lv_iconst hx hb dX10_countsHour_54 ki_5 ?_
  refine lv_aload_n hx hb dX10_countsHour_55 rfl (lv_at hl 2 rfl) ?_
  refine lv_iload_n hx hb dX10_countsHour_56 rfl (lv_at hl 3 rfl) ?_
  refine lv_iconst hx hb dX10_countsHour_57 ki_5 ?_
  obtain ⟨r115, m114, cm114, hf⟩ := b2_el (o := f_X10_ofHouse a0 x1 5 m112) hf
  refine x_callVi (As := [.int x1, .int 5]) (rest := [.int 5, .int x1, .ref a0]) C hl.1 hw cb_X10_197 cv_X10_ofHouse (k_X10_ofHouse hw.2.2.2.2 ta0 cm114) ta0 rfl rfl (by decide) ⟨Nat.le_refl _, Nat.le_refl _⟩ rfl (Nat.le_of_ble_eq_true rfl) dX10_countsHour_58 (fun H locs hw tr115 => ?_)
  refine lv_iconst hx hb dX10_countsHour_61 ki_1 ?_
  refine lv_iadd hx hb dX10_countsHour_62 ?_
  obtain ⟨m116, cm116, hf⟩ := b1_el (o := f_X10_setHouse a0 x1 5 (r115 + 1) m114) hf
  refine x_callVv (As := [.int x1, .int 5, .int (r115 + 1)]) (rest := []) C hl.1 hw cb_X10_194 cv_X10_setHouse (k_X10_setHouse hw.2.2.2.2 ta0 cm116) ta0 rfl rfl (by decide) ⟨Nat.le_refl _, Nat.le_refl _⟩ rfl (Nat.le_of_ble_eq_true rfl) dX10_countsHour_63 (fun H locs hw tm116 => ?_)
  refine lv_aload_n hx hb dX10_countsHour_66 rfl (lv_at hl 2 rfl) ?_
  obtain ⟨b117, eb117, hf⟩ := fo_el hf
  refine x_getR C hw fa_X10_16 (Or.inr ⟨_, rfl⟩) ta0 eb117 dX10_countsHour_67 (fun tb117 => ?_)
  have tb117 : ∃ n, (mT m0) b117 = some (.inr (2, n)) := tb117
  refine lv_iconst hx hb dX10_countsHour_70 ki_2 ?_
  refine lv_iload_n hx hb dX10_countsHour_71 rfl (lv_at hl 3 rfl) ?_
  refine lv_imul hx hb dX10_countsHour_72 ?_
  refine lv_dup2_11 hx hb dX10_countsHour_73 rfl rfl ?_
  obtain ⟨g118, hf⟩ := gd_el hf
  refine x_lald C hw tb117 g118 dX10_countsHour_74 ?_
  refine lv_lload hx hb dX10_countsHour_75 (lv_at hl 1 rfl) ?_
  refine lv_iload hx hb dX10_countsHour_77 (lv_at hl 0 rfl) ?_
  refine lv_iload hx hb dX10_countsHour_79 (lv_at hl 0 rfl) ?_
  refine lv_aload_n hx hb dX10_countsHour_81 rfl (lv_at hl 2 rfl) ?_
  refine lv_iload_n hx hb dX10_countsHour_82 rfl (lv_at hl 5 rfl) ?_
  refine lv_iconst hx hb dX10_countsHour_83 ki_4 ?_
  obtain ⟨r120, m119, cm119, hf⟩ := b2_el (o := f_X10_ofCell a0 x3 4 m116) hf
  refine x_callVi (As := [.int x3, .int 4]) (rest := [.int r113, .int r113, .long l111, .long (mL m116 b117 (Int32.toNatClampNeg (2 * x1))), .int (2 * x1), .ref b117]) C hl.1 hw cb_X10_80 cv_X10_ofCell (k_X10_ofCell hw.2.2.2.2 ta0 cm119) ta0 rfl rfl (by decide) ⟨Nat.le_refl _, Nat.le_refl _⟩ rfl (Nat.le_of_ble_eq_true rfl) dX10_countsHour_84 (fun H locs hw tr120 => ?_)
  refine lv_imul hx hb dX10_countsHour_87 ?_
  refine lv_bipush hx hb dX10_countsHour_88 kb_100 ?_
  refine lv_idiv hx hb dX10_countsHour_90 (by decide) ?_
  refine lv_isub hx hb dX10_countsHour_91 ?_
  refine lv_i2l (v := (Int32.toInt64 (r113 - ((r113 * r120) / 100)))) hx hb dX10_countsHour_92 rfl ?_
  refine lv_lsub hx hb dX10_countsHour_93 ?_
  refine lv_ladd hx hb dX10_countsHour_94 ?_
  obtain ⟨g121, hf⟩ := gd_el hf
  refine x_last C hw tb117 g121 dX10_countsHour_95 (fun m122 H locs em122 hw => ?_)
  have hf := nm_el hf em122
  refine lv_aload_n hx hb dX10_countsHour_96 rfl (lv_at hl 2 rfl) ?_
  obtain ⟨b123, eb123, hf⟩ := fo_el hf
  refine x_getR C hw fa_X10_16 (Or.inr ⟨_, rfl⟩) ta0 eb123 dX10_countsHour_97 (fun tb123 => ?_)
  have tb123 : ∃ n, (mT m0) b123 = some (.inr (2, n)) := tb123
  refine lv_iconst hx hb dX10_countsHour_100 ki_2 ?_
  refine lv_iload_n hx hb dX10_countsHour_101 rfl (lv_at hl 3 rfl) ?_
  refine lv_imul hx hb dX10_countsHour_102 ?_
  refine lv_iconst hx hb dX10_countsHour_103 ki_1 ?_
  refine lv_iadd hx hb dX10_countsHour_104 ?_
  refine lv_dup2_11 hx hb dX10_countsHour_105 rfl rfl ?_
  obtain ⟨g124, hf⟩ := gd_el hf
  refine x_lald C hw tb123 g124 dX10_countsHour_106 ?_
  refine lv_lload hx hb dX10_countsHour_107 (lv_at hl 1 rfl) ?_
  refine lv_iload hx hb dX10_countsHour_109 (lv_at hl 0 rfl) ?_
  refine lv_i2l (v := (Int32.toInt64 r113)) hx hb dX10_countsHour_111 rfl ?_
  refine lv_lsub hx hb dX10_countsHour_112 ?_
  refine lv_ladd hx hb dX10_countsHour_113 ?_
  obtain ⟨g125, hf⟩ := gd_el hf
  refine x_last C hw tb123 g125 dX10_countsHour_114 (fun m126 H locs em126 hw => ?_)
  have hf := nm_el hf em126
  exact w_X10_countsHour_j115 C hr hk hnm ta0 (lv_sub hl [2, 3, 4] rfl) hw hf
set_option maxHeartbeats 4000000 in
set_option maxRecDepth 100000 in
theorem k_X10_countsHour {l : Launch} {D : va_G} {E : Nat → ClassId} {tU : Nat} {τ : Nat → Option XTy} {a0 : Nat} {x1 : Int32} {x2 : Int32} {m0 mE : XMem} (hm : mT m0 = τ) (ta0 : τ a0 = some (.inl 10)) (hf : f_X10_countsHour a0 x1 x2 m0 = some mE) : Ct l yX10_countsHour cX10_countsHour 7 ((Option.none : Option FieldType)) 6 0 0 D E tU [.ref a0, .int x1, .int x2] m0 (none) mE (mT mE = mT m0 ∧ True) := by
  subst hm
  refine Ct.of (by decide) (Nat.le_of_ble_eq_true rfl) (fun p e s m below meth c ls C hr hk hnm hl hw => ?_)
  have hx := C.1
  have hb := C.2.1
  have hl : lv_has ls 7 [(0, .ref a0), (1, .int x1), (2, .int x2)] := hl
  unfold f_X10_countsHour at hf
  refine lv_aload_n hx hb dX10_countsHour_0 rfl (lv_at hl 0 rfl) ?_
  refine lv_iload_n hx hb dX10_countsHour_1 rfl (lv_at hl 1 rfl) ?_
  refine lv_iconst hx hb dX10_countsHour_2 ki_0 ?_
  obtain ⟨r102, m101, cm101, hf⟩ := b2_el (o := f_X10_ofHouse a0 x1 0 m0) hf
  refine x_callVi (As := [.int x1, .int 0]) (rest := []) C hl.1 hw cb_X10_197 cv_X10_ofHouse (k_X10_ofHouse hw.2.2.2.2 ta0 cm101) ta0 rfl rfl (by decide) ⟨Nat.le_refl _, Nat.le_refl _⟩ rfl (Nat.le_of_ble_eq_true rfl) dX10_countsHour_3 (fun H locs hw tr102 => ?_)
  refine lv_istore_n (lv' := [(3, .int r102), (0, .ref a0), (1, .int x1), (2, .int x2)]) hx hb dX10_countsHour_6 rfl hl (by decide) rfl (fun ls hl => ?_)
  refine lv_aload_n hx hb dX10_countsHour_7 rfl (lv_at hl 1 rfl) ?_
  refine lv_iload_n hx hb dX10_countsHour_8 rfl (lv_at hl 2 rfl) ?_
  refine lv_iconst hx hb dX10_countsHour_9 ki_3 ?_
  obtain ⟨r104, m103, cm103, hf⟩ := b2_el (o := f_X10_ofHouse a0 x1 3 m101) hf
  refine x_callVi (As := [.int x1, .int 3]) (rest := []) C hl.1 hw cb_X10_197 cv_X10_ofHouse (k_X10_ofHouse hw.2.2.2.2 ta0 cm103) ta0 rfl rfl (by decide) ⟨Nat.le_refl _, Nat.le_refl _⟩ rfl (Nat.le_of_ble_eq_true rfl) dX10_countsHour_10 (fun H locs hw tr104 => ?_)
  refine lv_if_eq (tgt := 27) hx hb dX10_countsHour_13 (by decide) (fun c => ?_) (fun c => ?_)
  · have hf := ifp hf c
    exact w_X10_countsHour_j27 C hr hk hnm ta0 (lv_sub hl [1, 2, 3, 0] rfl) hw hf
  · have hf := ifn hf c
    refine lv_aload_n hx hb dX10_countsHour_16 rfl (lv_at hl 1 rfl) ?_
    refine lv_bipush hx hb dX10_countsHour_17 kb_7 ?_
    refine lv_iload_n hx hb dX10_countsHour_19 rfl (lv_at hl 0 rfl) ?_
    refine lv_iload_n hx hb dX10_countsHour_20 rfl (lv_at hl 3 rfl) ?_
    obtain ⟨r106, m105, cm105, hf⟩ := b2_el (o := f_X10_worked a0 7 r102 x2 m103) hf
    refine x_callVi (As := [.int 7, .int r102, .int x2]) (rest := []) C hl.1 hw cb_X10_87 cv_X10_worked (k_X10_worked hw.2.2.2.2 ta0 cm105) ta0 rfl rfl (by decide) ⟨Nat.le_refl _, Nat.le_refl _⟩ rfl (Nat.le_of_ble_eq_true rfl) dX10_countsHour_21 (fun H locs hw tr106 => ?_)
    refine lv_if_eq (tgt := 115) hx hb dX10_countsHour_24 (by decide) (fun c => ?_) (fun c => ?_)
    · have hf := ifp hf c
      exact w_X10_countsHour_j115 C hr hk hnm ta0 (lv_sub hl [1, 2, 3] rfl) hw hf
    · have hf := ifn hf c
      exact w_X10_countsHour_j27 C hr hk hnm ta0 (lv_sub hl [1, 2, 3, 0] rfl) hw hf
set_option maxHeartbeats 4000000 in
set_option maxRecDepth 100000 in
theorem k_X10_emits {l : Launch} {D : va_G} {E : Nat → ClassId} {tU : Nat} {τ : Nat → Option XTy} {a0 : Nat} {x1 : Int32} {m0 mE : XMem} (hm : mT m0 = τ) (ta0 : τ a0 = some (.inl 10)) (hf : f_X10_emits a0 x1 m0 = some mE) : Ct l yX10_emits cX10_emits 2 ((Option.none : Option FieldType)) 1 0 0 D E tU [.ref a0, .int x1] m0 (none) mE (mT mE = mT m0 ∧ True) := by
  subst hm
  refine Ct.of (by decide) (Nat.le_of_ble_eq_true rfl) (fun p e s m below meth c ls C hr hk hnm hl hw => ?_)
  have hx := C.1
  have hb := C.2.1
  have hl : lv_has ls 2 [(0, .ref a0), (1, .int x1)] := hl
  unfold f_X10_emits at hf
  refine lv_aload_n hx hb dX10_emits_0 rfl (lv_at hl 0 rfl) ?_
  refine x_getZ C hw fa_X10_141 ta0 dX10_emits_1 ?_
  refine lv_if_ne (tgt := 27) hx hb dX10_emits_4 (by decide) (fun c => ?_) (fun c => ?_)
  · have hf := ifn hf c
    exact x_ret C hr hk hw  hf (by decide) (by decide) dX10_emits_27
  · have hf := ifp hf c
    refine lv_aload_n hx hb dX10_emits_7 rfl (lv_at hl 0 rfl) ?_
    obtain ⟨b101, eb101, hf⟩ := fo_el hf
    refine x_getR C hw fa_X10_29 (Or.inr ⟨_, rfl⟩) ta0 eb101 dX10_emits_8 (fun tb101 => ?_)
    have tb101 : ∃ n, (mT m0) b101 = some (.inr (0, n)) := tb101
    refine lv_aload_n hx hb dX10_emits_11 rfl (lv_at hl 0 rfl) ?_
    refine x_getI C hw fa_X10_148 ta0 dX10_emits_12 ?_
    refine lv_iload_n hx hb dX10_emits_15 rfl (lv_at hl 1 rfl) ?_
    obtain ⟨g102, hf⟩ := gd_el hf
    refine x_iast C hw tb101 g102 dX10_emits_16 (fun m103 H locs em103 hw => ?_)
    have hf := nm_el hf em103
    refine lv_aload_n hx hb dX10_emits_17 rfl (lv_at hl 0 rfl) ?_
    refine lv_dup hx hb dX10_emits_18 rfl ?_
    refine x_getI C hw fa_X10_148 ta0 dX10_emits_19 ?_
    refine lv_iconst hx hb dX10_emits_22 ki_1 ?_
    refine lv_iadd hx hb dX10_emits_23 ?_
    refine x_putI C hw fa_X10_148 ta0 dX10_emits_24 (fun m104 H locs em104 hw => ?_)
    have hf := nm_el hf em104
    exact x_ret C hr hk hw  hf (by decide) (by decide) dX10_emits_27
set_option maxHeartbeats 4000000 in
set_option maxRecDepth 100000 in
theorem k_X10_ever {l : Launch} {D : va_G} {E : Nat → ClassId} {tU : Nat} {τ : Nat → Option XTy} {a0 : Nat} {x1 : Int32} {x2 : Int32} {m0 mE : XMem} {rE : Int32} (hm : mT m0 = τ) (ta0 : τ a0 = some (.inl 10)) (hf : f_X10_ever a0 x1 x2 m0 = some (rE, mE)) : Ct l yX10_ever cX10_ever 3 ((Option.some FieldType.int)) 3 0 0 D E tU [.ref a0, .int x1, .int x2] m0 (some (.int rE)) mE (mT mE = mT m0 ∧ True) := by
  subst hm
  refine Ct.of (by decide) (Nat.le_of_ble_eq_true rfl) (fun p e s m below meth c ls C hr hk hnm hl hw => ?_)
  have hx := C.1
  have hb := C.2.1
  have hl : lv_has ls 3 [(0, .ref a0), (1, .int x1), (2, .int x2)] := hl
  unfold f_X10_ever at hf
  refine lv_aload_n hx hb dX10_ever_0 rfl (lv_at hl 0 rfl) ?_
  refine lv_iload_n hx hb dX10_ever_1 rfl (lv_at hl 1 rfl) ?_
  obtain ⟨r102, m101, cm101, hf⟩ := b2_el (o := f_X10_isCell a0 x1 m0) hf
  refine x_callVi (As := [.int x1]) (rest := []) C hl.1 hw cb_X10_76 cv_X10_isCell (k_X10_isCell hw.2.2.2.2 ta0 cm101) ta0 rfl rfl (by decide) ⟨Nat.le_refl _, Nat.le_refl _⟩ rfl (Nat.le_of_ble_eq_true rfl) dX10_ever_2 (fun H locs hw tr102 => ?_)
  refine lv_if_eq (tgt := 29) hx hb dX10_ever_5 (by decide) (fun c => ?_) (fun c => ?_)
  · have hf := ifp hf c
    refine lv_aload_n hx hb dX10_ever_29 rfl (lv_at hl 0 rfl) ?_
    refine lv_ldc hx hb C.2.2.2.1 (C.2.2.2.2.1 _ ki_X10_61) dX10_ever_30 ?_
    obtain ⟨r104, m103, cm103, hf⟩ := b2_el (o := f_X10_finds a0 (-1000000001) m101) hf
    refine x_callVi (As := [.int (-1000000001)]) (rest := []) C hl.1 hw cb_X10_67 cv_X10_finds (k_X10_finds hw.2.2.2.2 ta0 cm103) ta0 rfl rfl (by decide) ⟨Nat.le_refl _, Nat.le_refl _⟩ rfl (Nat.le_of_ble_eq_true rfl) dX10_ever_32 (fun H locs hw tr104 => ?_)
    exact x_retI C hr hk hw  hf (by decide) (by decide) dX10_ever_35
  · have hf := ifn hf c
    refine lv_iload_n hx hb dX10_ever_8 rfl (lv_at hl 2 rfl) ?_
    refine lv_iconst hx hb dX10_ever_9 ki_0 ?_
    refine lv_iconst hx hb dX10_ever_10 ki_3 ?_
    obtain ⟨r106, m105, cm105, hf⟩ := b2_el (o := f_X10_within x2 0 3 m101) hf
    refine x_callSi (As := [.int x2, .int 0, .int 3]) (rest := []) C hl.1 hw cb_X10_62 cs_X10_within (k_X10_within hw.2.2.2.2  cm105) rfl (by decide) ⟨Nat.le_refl _, Nat.le_refl _⟩ rfl (Nat.le_of_ble_eq_true rfl) dX10_ever_11 (fun H locs hw tr106 => ?_)
    refine lv_if_eq (tgt := 29) hx hb dX10_ever_14 (by decide) (fun c => ?_) (fun c => ?_)
    · have hf := ifp hf c
      refine lv_aload_n hx hb dX10_ever_29 rfl (lv_at hl 0 rfl) ?_
      refine lv_ldc hx hb C.2.2.2.1 (C.2.2.2.2.1 _ ki_X10_61) dX10_ever_30 ?_
      obtain ⟨r108, m107, cm107, hf⟩ := b2_el (o := f_X10_finds a0 (-1000000001) m105) hf
      refine x_callVi (As := [.int (-1000000001)]) (rest := []) C hl.1 hw cb_X10_67 cv_X10_finds (k_X10_finds hw.2.2.2.2 ta0 cm107) ta0 rfl rfl (by decide) ⟨Nat.le_refl _, Nat.le_refl _⟩ rfl (Nat.le_of_ble_eq_true rfl) dX10_ever_32 (fun H locs hw tr108 => ?_)
      exact x_retI C hr hk hw  hf (by decide) (by decide) dX10_ever_35
    · have hf := ifn hf c
      refine lv_aload_n hx hb dX10_ever_17 rfl (lv_at hl 0 rfl) ?_
      refine lv_iload_n hx hb dX10_ever_18 rfl (lv_at hl 1 rfl) ?_
      refine lv_bipush hx hb dX10_ever_19 kb_13 ?_
      refine lv_iload_n hx hb dX10_ever_21 rfl (lv_at hl 2 rfl) ?_
      refine lv_iadd hx hb dX10_ever_22 ?_
      obtain ⟨r110, m109, cm109, hf⟩ := b2_el (o := f_X10_ofCell a0 x1 (13 + x2) m105) hf
      refine x_callVi (As := [.int x1, .int (13 + x2)]) (rest := []) C hl.1 hw cb_X10_80 cv_X10_ofCell (k_X10_ofCell hw.2.2.2.2 ta0 cm109) ta0 rfl rfl (by decide) ⟨Nat.le_refl _, Nat.le_refl _⟩ rfl (Nat.le_of_ble_eq_true rfl) dX10_ever_23 (fun H locs hw tr110 => ?_)
      refine lv_goto (tgt := 35) hx hb dX10_ever_26 (by decide) ?_
      exact x_retI C hr hk hw  hf (by decide) (by decide) dX10_ever_35
set_option maxHeartbeats 4000000 in
set_option maxRecDepth 100000 in
theorem k_X10_isDigit {l : Launch} {D : va_G} {E : Nat → ClassId} {tU : Nat} {τ : Nat → Option XTy} {x0 : Int32} {m0 mE : XMem} {rE : Int32} (hm : mT m0 = τ)  (hf : f_X10_isDigit x0 m0 = some (rE, mE)) : Ct l yX10_isDigit cX10_isDigit 1 ((Option.some FieldType.boolean)) 2 0 0 D E tU [.int x0] m0 (some (.int rE)) mE (mT mE = mT m0 ∧ (rE = 0 ∨ rE = 1)) := by
  subst hm
  refine Ct.of (by decide) (Nat.le_of_ble_eq_true rfl) (fun p e s m below meth c ls C hr hk hnm hl hw => ?_)
  have hx := C.1
  have hb := C.2.1
  have hl : lv_has ls 1 [(0, .int x0)] := hl
  unfold f_X10_isDigit at hf
  refine lv_iload_n hx hb dX10_isDigit_0 rfl (lv_at hl 0 rfl) ?_
  refine lv_bipush hx hb dX10_isDigit_1 kb_48 ?_
  refine lv_bipush hx hb dX10_isDigit_3 kb_57 ?_
  obtain ⟨r102, m101, cm101, hf⟩ := b2_el (o := f_X10_within x0 48 57 m0) hf
  refine x_callSi (As := [.int x0, .int 48, .int 57]) (rest := []) C hl.1 hw cb_X10_62 cs_X10_within (k_X10_within hw.2.2.2.2  cm101) rfl (by decide) ⟨Nat.le_refl _, Nat.le_refl _⟩ rfl (Nat.le_of_ble_eq_true rfl) dX10_isDigit_5 (fun H locs hw tr102 => ?_)
  exact x_retZ C hr hk tr102 hw  hf (by decide) (by decide) dX10_isDigit_8
set_option maxHeartbeats 4000000 in
set_option maxRecDepth 100000 in
theorem w_X10_number_h7 {p : Program} {l : Launch} {e : Env} {s : State} {m : MethodId} {args : Array Value} {below : List Frame} {meth : Method} {c : Code} {D : va_G} {E : Nat → ClassId} {tU : Nat} {m0 mE : XMem} {rE : Int32} (C : Cx p s m args c cX10_number 3 RX10 D E (Am m0) tU) (hr : meth.sig.returnType = ((Option.some FieldType.int))) (hk : meth.locks = false) (hnm : meth.name = yX10_number.name) {a0 : Nat} (ta0 : mT m0 a0 = some (.inl 10)) {k51 : Int32 →  XMem → Option (Int32 × XMem)} (hk51 : ∀ (y1 : Int32) (mu : XMem) (H : Heap) (locs : List Loc) (ls : Array Slot), lv_has ls 3 [(1, .int y1)] → Wd D E (Am m0) s (mT m0) mu H locs →   k51 y1 mu = some (rE, mE) → W p l e (rmN 1 0 0) s m args below meth c H locs 0 0 (MQ below (XQ D E (Am m0) (some (.int rE)) mE (mT mE = mT m0 ∧ True)) args s 0 0 (Am m0)) (F0 m 51 ls [])) : ∀ (n : Nat) (x1 : Int32) (x2 : Int32) (mu : XMem) (H : Heap) (locs : List Loc) (ls : Array Slot), lv_has ls 3 [(0, .ref a0), (1, .int x1), (2, .int x2)] → Wd D E (Am m0) s (mT m0) mu H locs → f_X10_number_h7 a0 k51 n x1 x2 mu = some (rE, mE) → W p l e (rmN 1 0 0) s m args below meth c H locs 0 0 (MQ below (XQ D E (Am m0) (some (.int rE)) mE (mT mE = mT m0 ∧ True)) args s 0 0 (Am m0)) (F0 m 7 ls []) := by
  have hx := C.1
  have hb := C.2.1
  intro n
  induction n with
  | zero =>
    intros
    rename_i hf
    cases hf
  | succ n ih =>
    intro x1 x2 mu H locs ls hl hw hf
    rw [f_X10_number_h7] at hf
    refine lv_iload_n hx hb dX10_number_7 rfl (lv_at hl 2 rfl) ?_
    refine lv_aload_n hx hb dX10_number_8 rfl (lv_at hl 0 rfl) ?_
    refine x_getI C hw fa_X10_126 ta0 dX10_number_9 ?_
    refine lv_icmp_ge (tgt := 51) hx hb dX10_number_12 (by decide) (fun c => ?_) (fun c => ?_)
    · have hf := ifp hf c
      exact hk51 _ _ _ _ _ (lv_sub hl [1] rfl) hw hf
    · have hf := ifn hf c
      refine lv_bipush hx hb dX10_number_15 kb_10 ?_
      refine lv_iload_n hx hb dX10_number_17 rfl (lv_at hl 1 rfl) ?_
      refine lv_imul hx hb dX10_number_18 ?_
      refine lv_aload_n hx hb dX10_number_19 rfl (lv_at hl 0 rfl) ?_
      obtain ⟨b104, eb104, hf⟩ := fo_el hf
      refine x_getR C hw fa_X10_26 (Or.inr ⟨_, rfl⟩) ta0 eb104 dX10_number_20 (fun tb104 => ?_)
      have tb104 : ∃ n, (mT m0) b104 = some (.inr (0, n)) := tb104
      refine lv_iload_n hx hb dX10_number_23 rfl (lv_at hl 2 rfl) ?_
      obtain ⟨g105, hf⟩ := gd_el hf
      refine x_iald C hw tb104 g105 dX10_number_24 ?_
      refine lv_iadd hx hb dX10_number_25 ?_
      refine lv_bipush hx hb dX10_number_26 kb_48 ?_
      refine lv_isub hx hb dX10_number_28 ?_
      refine lv_topi (fun x106 ex106 => ?_)
      have hf := nm_el hf ex106
      refine lv_istore_n (lv' := [(1, .int x106), (0, .ref a0), (2, .int x2)]) hx hb dX10_number_29 rfl hl (by decide) rfl (fun ls hl => ?_)
      refine lv_iload_n hx hb dX10_number_30 rfl (lv_at hl 0 rfl) ?_
      refine lv_sipush hx hb dX10_number_31 ks_10000 ?_
      refine lv_icmp_le (tgt := 43) hx hb dX10_number_34 (by decide) (fun c => ?_) (fun c => ?_)
      · have hf := ifp hf c
        refine lv_iload_n hx hb dX10_number_43 rfl (lv_at hl 0 rfl) ?_
        refine lv_istore_n (lv' := [(1, .int x106), (0, .ref a0), (2, .int x2)]) hx hb dX10_number_44 rfl hl (by decide) rfl (fun ls hl => ?_)
        obtain ⟨x107, ex107⟩ : ∃ z : Int32, z = x2 + 1 := ⟨_, rfl⟩
        have hf := nm_el hf ex107
        refine lv_iinc (v := x107) (lv' := [(2, .int x107), (1, .int x106), (0, .ref a0)]) hx hb dX10_number_45 hl (k := 2) rfl (by rw [ex107, ki_1]) (by decide) rfl (fun ls hl => ?_)
        refine lv_goto (tgt := 7) hx hb dX10_number_48 (by decide) ?_
        exact ih _ _ _ _ _ _ (lv_sub hl [2, 1, 0] rfl) hw hf
      · have hf := ifn hf c
        refine lv_sipush hx hb dX10_number_37 ks_10000 ?_
        refine lv_goto (tgt := 44) hx hb dX10_number_40 (by decide) ?_
        refine lv_istore_n (lv' := [(1, .int 10000), (0, .ref a0), (2, .int x2)]) hx hb dX10_number_44 rfl hl (by decide) rfl (fun ls hl => ?_)
        obtain ⟨x108, ex108⟩ : ∃ z : Int32, z = x2 + 1 := ⟨_, rfl⟩
        have hf := nm_el hf ex108
        refine lv_iinc (v := x108) (lv' := [(2, .int x108), (1, .int 10000), (0, .ref a0)]) hx hb dX10_number_45 hl (k := 2) rfl (by rw [ex108, ki_1]) (by decide) rfl (fun ls hl => ?_)
        refine lv_goto (tgt := 7) hx hb dX10_number_48 (by decide) ?_
        exact ih _ _ _ _ _ _ (lv_sub hl [2, 1, 0] rfl) hw hf
set_option maxHeartbeats 4000000 in
set_option maxRecDepth 100000 in
theorem k_X10_number {l : Launch} {D : va_G} {E : Nat → ClassId} {tU : Nat} {τ : Nat → Option XTy} {a0 : Nat} {m0 mE : XMem} {rE : Int32} (hm : mT m0 = τ) (ta0 : τ a0 = some (.inl 10)) (hf : f_X10_number a0 m0 = some (rE, mE)) : Ct l yX10_number cX10_number 3 ((Option.some FieldType.int)) 1 0 0 D E tU [.ref a0] m0 (some (.int rE)) mE (mT mE = mT m0 ∧ True) := by
  subst hm
  refine Ct.of (by decide) (Nat.le_of_ble_eq_true rfl) (fun p e s m below meth c ls C hr hk hnm hl hw => ?_)
  have hx := C.1
  have hb := C.2.1
  have hl : lv_has ls 3 [(0, .ref a0)] := hl
  unfold f_X10_number at hf
  refine lv_iconst hx hb dX10_number_0 ki_0 ?_
  refine lv_istore_n (lv' := [(1, .int 0), (0, .ref a0)]) hx hb dX10_number_1 rfl hl (by decide) rfl (fun ls hl => ?_)
  refine lv_aload_n hx hb dX10_number_2 rfl (lv_at hl 1 rfl) ?_
  refine x_getI C hw fa_X10_129 ta0 dX10_number_3 ?_
  refine lv_topi (fun x101 ex101 => ?_)
  have hf := nm_el hf ex101
  refine lv_istore_n (lv' := [(2, .int x101), (1, .int 0), (0, .ref a0)]) hx hb dX10_number_6 rfl hl (by decide) rfl (fun ls hl => ?_)
  refine w_X10_number_h7 C hr hk hnm ta0 ?_ 2000 _ _ _ _ _ _ (lv_sub hl [2, 1, 0] rfl) hw hf
  intro x103 m102 H locs ls hl hw hf
  refine lv_iload_n hx hb dX10_number_51 rfl (lv_at hl 0 rfl) ?_
  exact x_retI C hr hk hw  hf (by decide) (by decide) dX10_number_52
set_option maxHeartbeats 4000000 in
set_option maxRecDepth 100000 in
theorem k_X10_isLetter {l : Launch} {D : va_G} {E : Nat → ClassId} {tU : Nat} {τ : Nat → Option XTy} {x0 : Int32} {m0 mE : XMem} {rE : Int32} (hm : mT m0 = τ)  (hf : f_X10_isLetter x0 m0 = some (rE, mE)) : Ct l yX10_isLetter cX10_isLetter 1 ((Option.some FieldType.boolean)) 2 0 0 D E tU [.int x0] m0 (some (.int rE)) mE (mT mE = mT m0 ∧ (rE = 0 ∨ rE = 1)) := by
  subst hm
  refine Ct.of (by decide) (Nat.le_of_ble_eq_true rfl) (fun p e s m below meth c ls C hr hk hnm hl hw => ?_)
  have hx := C.1
  have hb := C.2.1
  have hl : lv_has ls 1 [(0, .int x0)] := hl
  unfold f_X10_isLetter at hf
  refine lv_iload_n hx hb dX10_isLetter_0 rfl (lv_at hl 0 rfl) ?_
  refine lv_bipush hx hb dX10_isLetter_1 kb_97 ?_
  refine lv_bipush hx hb dX10_isLetter_3 kb_122 ?_
  obtain ⟨r102, m101, cm101, hf⟩ := b2_el (o := f_X10_within x0 97 122 m0) hf
  refine x_callSi (As := [.int x0, .int 97, .int 122]) (rest := []) C hl.1 hw cb_X10_62 cs_X10_within (k_X10_within hw.2.2.2.2  cm101) rfl (by decide) ⟨Nat.le_refl _, Nat.le_refl _⟩ rfl (Nat.le_of_ble_eq_true rfl) dX10_isLetter_5 (fun H locs hw tr102 => ?_)
  exact x_retZ C hr hk tr102 hw  hf (by decide) (by decide) dX10_isLetter_8
set_option maxHeartbeats 4000000 in
set_option maxRecDepth 100000 in
theorem w_X10_next_h86 {p : Program} {l : Launch} {e : Env} {s : State} {m : MethodId} {args : Array Value} {below : List Frame} {meth : Method} {c : Code} {D : va_G} {E : Nat → ClassId} {tU : Nat} {m0 mE : XMem} (C : Cx p s m args c cX10_next 3 RX10 D E (Am m0) tU) (hr : meth.sig.returnType = ((Option.none : Option FieldType))) (hk : meth.locks = false) (hnm : meth.name = yX10_next.name) {a0 : Nat} {x1 : Int32} {x2 : Int32} (ta0 : mT m0 a0 = some (.inl 10)) {k135 :  XMem → Option (XMem)} (hk135 : ∀  (mu : XMem) (H : Heap) (locs : List Loc) (ls : Array Slot), lv_has ls 3 [] → Wd D E (Am m0) s (mT m0) mu H locs →   k135  mu = some mE → W p l e (rmN 3 0 0) s m args below meth c H locs 0 0 (MQ below (XQ D E (Am m0) (none) mE (mT mE = mT m0 ∧ True)) args s 0 0 (Am m0)) (F0 m 135 ls [])) : ∀ (n : Nat)  (mu : XMem) (H : Heap) (locs : List Loc) (ls : Array Slot), lv_has ls 3 [(0, .ref a0), (1, .int x1), (2, .int x2)] → Wd D E (Am m0) s (mT m0) mu H locs → f_X10_next_h86 a0 x1 x2 k135 n  mu = some mE → W p l e (rmN 3 0 0) s m args below meth c H locs 0 0 (MQ below (XQ D E (Am m0) (none) mE (mT mE = mT m0 ∧ True)) args s 0 0 (Am m0)) (F0 m 86 ls []) := by
  have hx := C.1
  have hb := C.2.1
  intro n
  induction n with
  | zero =>
    intros
    rename_i hf
    cases hf
  | succ n ih =>
    intro  mu H locs ls hl hw hf
    rw [f_X10_next_h86] at hf
    refine lv_iload_n hx hb dX10_next_86 rfl (lv_at hl 1 rfl) ?_
    refine lv_if_eq (tgt := 104) hx hb dX10_next_87 (by decide) (fun c => ?_) (fun c => ?_)
    · have hf := ifp hf c
      refine lv_iload_n hx hb dX10_next_104 rfl (lv_at hl 2 rfl) ?_
      refine lv_if_eq (tgt := 135) hx hb dX10_next_105 (by decide) (fun c => ?_) (fun c => ?_)
      · have hf := ifp hf c
        exact hk135 _ _ _ _ (lv_sub hl [] rfl) hw hf
      · have hf := ifn hf c
        refine lv_aload_n hx hb dX10_next_108 rfl (lv_at hl 0 rfl) ?_
        refine lv_aload_n hx hb dX10_next_109 rfl (lv_at hl 0 rfl) ?_
        refine x_getI C hw fa_X10_126 ta0 dX10_next_110 ?_
        obtain ⟨r117, m116, cm116, hf⟩ := b2_el (o := f_X10_byteAt a0 (mI mu a0 9) mu) hf
        refine x_callVi (As := [.int (mI mu a0 9)]) (rest := []) C hl.1 hw cb_X10_132 cv_X10_byteAt (k_X10_byteAt hw.2.2.2.2 ta0 cm116) ta0 rfl rfl (by decide) ⟨Nat.le_refl _, Nat.le_refl _⟩ rfl (Nat.le_of_ble_eq_true rfl) dX10_next_113 (fun H locs hw tr117 => ?_)
        obtain ⟨r119, m118, cm118, hf⟩ := b2_el (o := f_X10_isDigit r117 m116) hf
        refine x_callSi (As := [.int r117]) (rest := []) C hl.1 hw cb_X10_138 cs_X10_isDigit (k_X10_isDigit hw.2.2.2.2  cm118) rfl (by decide) ⟨Nat.le_refl _, Nat.le_refl _⟩ rfl (Nat.le_of_ble_eq_true rfl) dX10_next_116 (fun H locs hw tr119 => ?_)
        refine lv_if_eq (tgt := 135) hx hb dX10_next_119 (by decide) (fun c => ?_) (fun c => ?_)
        · have hf := ifp hf c
          exact hk135 _ _ _ _ (lv_sub hl [] rfl) hw hf
        · have hf := ifn hf c
          refine lv_aload_n hx hb dX10_next_122 rfl (lv_at hl 0 rfl) ?_
          refine lv_dup hx hb dX10_next_123 rfl ?_
          refine x_getI C hw fa_X10_126 ta0 dX10_next_124 ?_
          refine lv_iconst hx hb dX10_next_127 ki_1 ?_
          refine lv_iadd hx hb dX10_next_128 ?_
          refine x_putI C hw fa_X10_126 ta0 dX10_next_129 (fun m120 H locs em120 hw => ?_)
          have hf := nm_el hf em120
          refine lv_goto (tgt := 86) hx hb dX10_next_132 (by decide) ?_
          exact ih _ _ _ _ (lv_sub hl [0, 1, 2] rfl) hw hf
    · have hf := ifn hf c
      refine lv_aload_n hx hb dX10_next_90 rfl (lv_at hl 0 rfl) ?_
      refine lv_aload_n hx hb dX10_next_91 rfl (lv_at hl 0 rfl) ?_
      refine x_getI C hw fa_X10_126 ta0 dX10_next_92 ?_
      obtain ⟨r122, m121, cm121, hf⟩ := b2_el (o := f_X10_byteAt a0 (mI mu a0 9) mu) hf
      refine x_callVi (As := [.int (mI mu a0 9)]) (rest := []) C hl.1 hw cb_X10_132 cv_X10_byteAt (k_X10_byteAt hw.2.2.2.2 ta0 cm121) ta0 rfl rfl (by decide) ⟨Nat.le_refl _, Nat.le_refl _⟩ rfl (Nat.le_of_ble_eq_true rfl) dX10_next_95 (fun H locs hw tr122 => ?_)
      obtain ⟨r124, m123, cm123, hf⟩ := b2_el (o := f_X10_isLetter r122 m121) hf
      refine x_callSi (As := [.int r122]) (rest := []) C hl.1 hw cb_X10_135 cs_X10_isLetter (k_X10_isLetter hw.2.2.2.2  cm123) rfl (by decide) ⟨Nat.le_refl _, Nat.le_refl _⟩ rfl (Nat.le_of_ble_eq_true rfl) dX10_next_98 (fun H locs hw tr124 => ?_)
      refine lv_if_ne (tgt := 122) hx hb dX10_next_101 (by decide) (fun c => ?_) (fun c => ?_)
      · have hf := ifn hf c
        refine lv_aload_n hx hb dX10_next_122 rfl (lv_at hl 0 rfl) ?_
        refine lv_dup hx hb dX10_next_123 rfl ?_
        refine x_getI C hw fa_X10_126 ta0 dX10_next_124 ?_
        refine lv_iconst hx hb dX10_next_127 ki_1 ?_
        refine lv_iadd hx hb dX10_next_128 ?_
        refine x_putI C hw fa_X10_126 ta0 dX10_next_129 (fun m125 H locs em125 hw => ?_)
        have hf := nm_el hf em125
        refine lv_goto (tgt := 86) hx hb dX10_next_132 (by decide) ?_
        exact ih _ _ _ _ (lv_sub hl [0, 1, 2] rfl) hw hf
      · have hf := ifp hf c
        refine lv_iload_n hx hb dX10_next_104 rfl (lv_at hl 2 rfl) ?_
        refine lv_if_eq (tgt := 135) hx hb dX10_next_105 (by decide) (fun c => ?_) (fun c => ?_)
        · have hf := ifp hf c
          exact hk135 _ _ _ _ (lv_sub hl [] rfl) hw hf
        · have hf := ifn hf c
          refine lv_aload_n hx hb dX10_next_108 rfl (lv_at hl 0 rfl) ?_
          refine lv_aload_n hx hb dX10_next_109 rfl (lv_at hl 0 rfl) ?_
          refine x_getI C hw fa_X10_126 ta0 dX10_next_110 ?_
          obtain ⟨r127, m126, cm126, hf⟩ := b2_el (o := f_X10_byteAt a0 (mI m123 a0 9) m123) hf
          refine x_callVi (As := [.int (mI m123 a0 9)]) (rest := []) C hl.1 hw cb_X10_132 cv_X10_byteAt (k_X10_byteAt hw.2.2.2.2 ta0 cm126) ta0 rfl rfl (by decide) ⟨Nat.le_refl _, Nat.le_refl _⟩ rfl (Nat.le_of_ble_eq_true rfl) dX10_next_113 (fun H locs hw tr127 => ?_)
          obtain ⟨r129, m128, cm128, hf⟩ := b2_el (o := f_X10_isDigit r127 m126) hf
          refine x_callSi (As := [.int r127]) (rest := []) C hl.1 hw cb_X10_138 cs_X10_isDigit (k_X10_isDigit hw.2.2.2.2  cm128) rfl (by decide) ⟨Nat.le_refl _, Nat.le_refl _⟩ rfl (Nat.le_of_ble_eq_true rfl) dX10_next_116 (fun H locs hw tr129 => ?_)
          refine lv_if_eq (tgt := 135) hx hb dX10_next_119 (by decide) (fun c => ?_) (fun c => ?_)
          · have hf := ifp hf c
            exact hk135 _ _ _ _ (lv_sub hl [] rfl) hw hf
          · have hf := ifn hf c
            refine lv_aload_n hx hb dX10_next_122 rfl (lv_at hl 0 rfl) ?_
            refine lv_dup hx hb dX10_next_123 rfl ?_
            refine x_getI C hw fa_X10_126 ta0 dX10_next_124 ?_
            refine lv_iconst hx hb dX10_next_127 ki_1 ?_
            refine lv_iadd hx hb dX10_next_128 ?_
            refine x_putI C hw fa_X10_126 ta0 dX10_next_129 (fun m130 H locs em130 hw => ?_)
            have hf := nm_el hf em130
            refine lv_goto (tgt := 86) hx hb dX10_next_132 (by decide) ?_
            exact ih _ _ _ _ (lv_sub hl [0, 1, 2] rfl) hw hf
set_option maxHeartbeats 4000000 in
set_option maxRecDepth 100000 in
theorem w_X10_next_j83 {p : Program} {l : Launch} {e : Env} {s : State} {m : MethodId} {args : Array Value} {below : List Frame} {meth : Method} {c : Code} {D : va_G} {E : Nat → ClassId} {tU : Nat} {m0 mE : XMem} (C : Cx p s m args c cX10_next 3 RX10 D E (Am m0) tU) (hr : meth.sig.returnType = ((Option.none : Option FieldType))) (hk : meth.locks = false) (hnm : meth.name = yX10_next.name) {a0 : Nat} {x1 : Int32} {x2 : Int32} {xs0 : Int32} {as1 : Nat} {mu : XMem} {H : Heap} {locs : List Loc} {ls : Array Slot} (ta0 : mT m0 a0 = some (.inl 10)) (tas1 : mT m0 as1 = some (.inl 10)) (hl : lv_has ls 3 [(0, .ref a0), (1, .int x1), (2, .int x2)]) (hw : Wd D E (Am m0) s (mT m0) mu H locs) (hf : f_X10_next_j83 a0 x1 x2 xs0 as1 mu = some mE) : W p l e (rmN 3 0 0) s m args below meth c H locs 0 0 (MQ below (XQ D E (Am m0) (none) mE (mT mE = mT m0 ∧ True)) args s 0 0 (Am m0)) (F0 m 83 ls [.int xs0, .ref as1]) := by
  have hx := C.1
  have hb := C.2.1
  unfold f_X10_next_j83 at hf
  refine x_putI C hw fa_X10_126 tas1 dX10_next_83 (fun m114 H locs em114 hw => ?_)
  have hf := nm_el hf em114
  refine w_X10_next_h86 C hr hk hnm ta0 ?_ 2000 _ _ _ _ (lv_sub hl [0, 1, 2] rfl) hw hf
  intro m115 H locs ls hl hw hf
  exact x_ret C hr hk hw  hf (by decide) (by decide) dX10_next_135
set_option maxHeartbeats 4000000 in
set_option maxRecDepth 100000 in
theorem w_X10_next_h8 {p : Program} {l : Launch} {e : Env} {s : State} {m : MethodId} {args : Array Value} {below : List Frame} {meth : Method} {c : Code} {D : va_G} {E : Nat → ClassId} {tU : Nat} {m0 mE : XMem} (C : Cx p s m args c cX10_next 3 RX10 D E (Am m0) tU) (hr : meth.sig.returnType = ((Option.none : Option FieldType))) (hk : meth.locks = false) (hnm : meth.name = yX10_next.name) {a0 : Nat} (ta0 : mT m0 a0 = some (.inl 10)) {k34 :  XMem → Option (XMem)} (hk34 : ∀  (mu : XMem) (H : Heap) (locs : List Loc) (ls : Array Slot), lv_has ls 3 [(0, .ref a0)] → Wd D E (Am m0) s (mT m0) mu H locs →   k34  mu = some mE → W p l e (rmN 3 0 0) s m args below meth c H locs 0 0 (MQ below (XQ D E (Am m0) (none) mE (mT mE = mT m0 ∧ True)) args s 0 0 (Am m0)) (F0 m 34 ls [])) : ∀ (n : Nat)  (mu : XMem) (H : Heap) (locs : List Loc) (ls : Array Slot), lv_has ls 3 [(0, .ref a0)] → Wd D E (Am m0) s (mT m0) mu H locs → f_X10_next_h8 a0 k34 n  mu = some mE → W p l e (rmN 3 0 0) s m args below meth c H locs 0 0 (MQ below (XQ D E (Am m0) (none) mE (mT mE = mT m0 ∧ True)) args s 0 0 (Am m0)) (F0 m 8 ls []) := by
  have hx := C.1
  have hb := C.2.1
  intro n
  induction n with
  | zero =>
    intros
    rename_i hf
    cases hf
  | succ n ih =>
    intro  mu H locs ls hl hw hf
    rw [f_X10_next_h8] at hf
    refine lv_aload_n hx hb dX10_next_8 rfl (lv_at hl 0 rfl) ?_
    refine lv_aload_n hx hb dX10_next_9 rfl (lv_at hl 0 rfl) ?_
    refine x_getI C hw fa_X10_129 ta0 dX10_next_10 ?_
    obtain ⟨r112, m111, cm111, hf⟩ := b2_el (o := f_X10_byteAt a0 (mI mu a0 8) mu) hf
    refine x_callVi (As := [.int (mI mu a0 8)]) (rest := []) C hl.1 hw cb_X10_132 cv_X10_byteAt (k_X10_byteAt hw.2.2.2.2 ta0 cm111) ta0 rfl rfl (by decide) ⟨Nat.le_refl _, Nat.le_refl _⟩ rfl (Nat.le_of_ble_eq_true rfl) dX10_next_13 (fun H locs hw tr112 => ?_)
    refine lv_bipush hx hb dX10_next_16 kb_32 ?_
    refine lv_icmp_ne (tgt := 34) hx hb dX10_next_18 (by decide) (fun c => ?_) (fun c => ?_)
    · have hf := ifn hf c
      exact hk34 _ _ _ _ (lv_sub hl [0] rfl) hw hf
    · have hf := ifp hf c
      refine lv_aload_n hx hb dX10_next_21 rfl (lv_at hl 0 rfl) ?_
      refine lv_dup hx hb dX10_next_22 rfl ?_
      refine x_getI C hw fa_X10_129 ta0 dX10_next_23 ?_
      refine lv_iconst hx hb dX10_next_26 ki_1 ?_
      refine lv_iadd hx hb dX10_next_27 ?_
      refine x_putI C hw fa_X10_129 ta0 dX10_next_28 (fun m113 H locs em113 hw => ?_)
      have hf := nm_el hf em113
      refine lv_goto (tgt := 8) hx hb dX10_next_31 (by decide) ?_
      exact ih _ _ _ _ (lv_sub hl [0] rfl) hw hf
set_option maxHeartbeats 4000000 in
set_option maxRecDepth 100000 in
theorem k_X10_next {l : Launch} {D : va_G} {E : Nat → ClassId} {tU : Nat} {τ : Nat → Option XTy} {a0 : Nat} {m0 mE : XMem} (hm : mT m0 = τ) (ta0 : τ a0 = some (.inl 10)) (hf : f_X10_next a0 m0 = some mE) : Ct l yX10_next cX10_next 3 ((Option.none : Option FieldType)) 3 0 0 D E tU [.ref a0] m0 (none) mE (mT mE = mT m0 ∧ True) := by
  subst hm
  refine Ct.of (by decide) (Nat.le_of_ble_eq_true rfl) (fun p e s m below meth c ls C hr hk hnm hl hw => ?_)
  have hx := C.1
  have hb := C.2.1
  have hl : lv_has ls 3 [(0, .ref a0)] := hl
  unfold f_X10_next at hf
  refine lv_aload_n hx hb dX10_next_0 rfl (lv_at hl 0 rfl) ?_
  refine lv_aload_n hx hb dX10_next_1 rfl (lv_at hl 0 rfl) ?_
  refine x_getI C hw fa_X10_126 ta0 dX10_next_2 ?_
  refine x_putI C hw fa_X10_129 ta0 dX10_next_5 (fun m101 H locs em101 hw => ?_)
  have hf := nm_el hf em101
  refine w_X10_next_h8 C hr hk hnm ta0 ?_ 2000 _ _ _ _ (lv_sub hl [0] rfl) hw hf
  intro m102 H locs ls hl hw hf
  refine lv_aload_n hx hb dX10_next_34 rfl (lv_at hl 0 rfl) ?_
  refine lv_aload_n hx hb dX10_next_35 rfl (lv_at hl 0 rfl) ?_
  refine x_getI C hw fa_X10_129 ta0 dX10_next_36 ?_
  obtain ⟨r104, m103, cm103, hf⟩ := b2_el (o := f_X10_byteAt a0 (mI m102 a0 8) m102) hf
  refine x_callVi (As := [.int (mI m102 a0 8)]) (rest := []) C hl.1 hw cb_X10_132 cv_X10_byteAt (k_X10_byteAt hw.2.2.2.2 ta0 cm103) ta0 rfl rfl (by decide) ⟨Nat.le_refl _, Nat.le_refl _⟩ rfl (Nat.le_of_ble_eq_true rfl) dX10_next_39 (fun H locs hw tr104 => ?_)
  obtain ⟨r106, m105, cm105, hf⟩ := b2_el (o := f_X10_isLetter r104 m103) hf
  refine x_callSi (As := [.int r104]) (rest := []) C hl.1 hw cb_X10_135 cs_X10_isLetter (k_X10_isLetter hw.2.2.2.2  cm105) rfl (by decide) ⟨Nat.le_refl _, Nat.le_refl _⟩ rfl (Nat.le_of_ble_eq_true rfl) dX10_next_42 (fun H locs hw tr106 => ?_)
  refine lv_istore_n (lv' := [(1, .int r106), (0, .ref a0)]) hx hb dX10_next_45 rfl hl (by decide) rfl (fun ls hl => ?_)
  refine lv_aload_n hx hb dX10_next_46 rfl (lv_at hl 1 rfl) ?_
  refine lv_aload_n hx hb dX10_next_47 rfl (lv_at hl 1 rfl) ?_
  refine x_getI C hw fa_X10_129 ta0 dX10_next_48 ?_
  obtain ⟨r108, m107, cm107, hf⟩ := b2_el (o := f_X10_byteAt a0 (mI m105 a0 8) m105) hf
  refine x_callVi (As := [.int (mI m105 a0 8)]) (rest := []) C hl.1 hw cb_X10_132 cv_X10_byteAt (k_X10_byteAt hw.2.2.2.2 ta0 cm107) ta0 rfl rfl (by decide) ⟨Nat.le_refl _, Nat.le_refl _⟩ rfl (Nat.le_of_ble_eq_true rfl) dX10_next_51 (fun H locs hw tr108 => ?_)
  obtain ⟨r110, m109, cm109, hf⟩ := b2_el (o := f_X10_isDigit r108 m107) hf
  refine x_callSi (As := [.int r108]) (rest := []) C hl.1 hw cb_X10_138 cs_X10_isDigit (k_X10_isDigit hw.2.2.2.2  cm109) rfl (by decide) ⟨Nat.le_refl _, Nat.le_refl _⟩ rfl (Nat.le_of_ble_eq_true rfl) dX10_next_54 (fun H locs hw tr110 => ?_)
  refine lv_istore_n (lv' := [(2, .int r110), (1, .int r106), (0, .ref a0)]) hx hb dX10_next_57 rfl hl (by decide) rfl (fun ls hl => ?_)
  refine lv_aload_n hx hb dX10_next_58 rfl (lv_at hl 2 rfl) ?_
  refine lv_aload_n hx hb dX10_next_59 rfl (lv_at hl 2 rfl) ?_
  refine x_getI C hw fa_X10_129 ta0 dX10_next_60 ?_
  refine lv_aload_n hx hb dX10_next_63 rfl (lv_at hl 2 rfl) ?_
  refine x_getI C hw fa_X10_122 ta0 dX10_next_64 ?_
  refine lv_icmp_ge (tgt := 79) hx hb dX10_next_67 (by decide) (fun c => ?_) (fun c => ?_)
  · have hf := ifp hf c
    refine lv_aload_n hx hb dX10_next_79 rfl (lv_at hl 2 rfl) ?_
    refine x_getI C hw fa_X10_129 ta0 dX10_next_80 ?_
    exact w_X10_next_j83 C hr hk hnm ta0 ta0 (lv_sub hl [2, 1, 0] rfl) hw hf
  · have hf := ifn hf c
    refine lv_aload_n hx hb dX10_next_70 rfl (lv_at hl 2 rfl) ?_
    refine x_getI C hw fa_X10_129 ta0 dX10_next_71 ?_
    refine lv_iconst hx hb dX10_next_74 ki_1 ?_
    refine lv_iadd hx hb dX10_next_75 ?_
    refine lv_goto (tgt := 83) hx hb dX10_next_76 (by decide) ?_
    exact w_X10_next_j83 C hr hk hnm ta0 ta0 (lv_sub hl [2, 1, 0] rfl) hw hf
set_option maxHeartbeats 4000000 in
set_option maxRecDepth 100000 in
theorem k_X10_needs {l : Launch} {D : va_G} {E : Nat → ClassId} {tU : Nat} {τ : Nat → Option XTy} {a0 : Nat} {x1 : Int32} {m0 mE : XMem} (hm : mT m0 = τ) (ta0 : τ a0 = some (.inl 10)) (hf : f_X10_needs a0 x1 m0 = some mE) : Ct l yX10_needs cX10_needs 2 ((Option.none : Option FieldType)) 4 0 0 D E tU [.ref a0, .int x1] m0 (none) mE (mT mE = mT m0 ∧ True) := by
  subst hm
  refine Ct.of (by decide) (Nat.le_of_ble_eq_true rfl) (fun p e s m below meth c ls C hr hk hnm hl hw => ?_)
  have hx := C.1
  have hb := C.2.1
  have hl : lv_has ls 2 [(0, .ref a0), (1, .int x1)] := hl
  unfold f_X10_needs at hf
  refine lv_aload_n hx hb dX10_needs_0 rfl (lv_at hl 0 rfl) ?_
  refine lv_aload_n hx hb dX10_needs_1 rfl (lv_at hl 0 rfl) ?_
  refine x_getZ C hw fa_X10_141 ta0 dX10_needs_2 ?_
  refine lv_if_ne (tgt := 12) hx hb dX10_needs_5 (by decide) (fun c => ?_) (fun c => ?_)
  · have hf := ifn hf c
    refine lv_iconst hx hb dX10_needs_12 ki_1 ?_
    refine lv_goto (tgt := 17) hx hb dX10_needs_13 (by decide) ?_
    refine x_putZ C hw fa_X10_141 ta0 (Or.inr rfl) dX10_needs_17 (fun m101 H locs em101 hw => ?_)
    have hf := nm_el hf em101
    refine lv_aload_n hx hb dX10_needs_20 rfl (lv_at hl 0 rfl) ?_
    refine x_getZ C hw fa_X10_141 ta0 dX10_needs_21 ?_
    refine lv_if_ne (tgt := 31) hx hb dX10_needs_24 (by decide) (fun c => ?_) (fun c => ?_)
    · have hf := ifn hf c
      exact x_ret C hr hk hw  hf (by decide) (by decide) dX10_needs_31
    · have hf := ifp hf c
      refine lv_aload_n hx hb dX10_needs_27 rfl (lv_at hl 0 rfl) ?_
      obtain ⟨m102, cm102, hf⟩ := b1_el (o := f_X10_next a0 m101) hf
      refine x_callVv (As := []) (rest := []) C hl.1 hw cb_X10_145 cv_X10_next (k_X10_next hw.2.2.2.2 ta0 cm102) ta0 rfl rfl (by decide) ⟨Nat.le_refl _, Nat.le_refl _⟩ rfl (Nat.le_of_ble_eq_true rfl) dX10_needs_28 (fun H locs hw tm102 => ?_)
      exact x_ret C hr hk hw  hf (by decide) (by decide) dX10_needs_31
  · have hf := ifp hf c
    refine lv_iload_n hx hb dX10_needs_8 rfl (lv_at hl 1 rfl) ?_
    refine lv_if_ne (tgt := 16) hx hb dX10_needs_9 (by decide) (fun c => ?_) (fun c => ?_)
    · have hf := ifn hf c
      refine lv_iconst hx hb dX10_needs_16 ki_0 ?_
      refine x_putZ C hw fa_X10_141 ta0 (Or.inl rfl) dX10_needs_17 (fun m103 H locs em103 hw => ?_)
      have hf := nm_el hf em103
      refine lv_aload_n hx hb dX10_needs_20 rfl (lv_at hl 0 rfl) ?_
      refine x_getZ C hw fa_X10_141 ta0 dX10_needs_21 ?_
      refine lv_if_ne (tgt := 31) hx hb dX10_needs_24 (by decide) (fun c => ?_) (fun c => ?_)
      · have hf := ifn hf c
        exact x_ret C hr hk hw  hf (by decide) (by decide) dX10_needs_31
      · have hf := ifp hf c
        refine lv_aload_n hx hb dX10_needs_27 rfl (lv_at hl 0 rfl) ?_
        obtain ⟨m104, cm104, hf⟩ := b1_el (o := f_X10_next a0 m103) hf
        refine x_callVv (As := []) (rest := []) C hl.1 hw cb_X10_145 cv_X10_next (k_X10_next hw.2.2.2.2 ta0 cm104) ta0 rfl rfl (by decide) ⟨Nat.le_refl _, Nat.le_refl _⟩ rfl (Nat.le_of_ble_eq_true rfl) dX10_needs_28 (fun H locs hw tm104 => ?_)
        exact x_ret C hr hk hw  hf (by decide) (by decide) dX10_needs_31
    · have hf := ifp hf c
      refine lv_iconst hx hb dX10_needs_12 ki_1 ?_
      refine lv_goto (tgt := 17) hx hb dX10_needs_13 (by decide) ?_
      refine x_putZ C hw fa_X10_141 ta0 (Or.inr rfl) dX10_needs_17 (fun m105 H locs em105 hw => ?_)
      have hf := nm_el hf em105
      refine lv_aload_n hx hb dX10_needs_20 rfl (lv_at hl 0 rfl) ?_
      refine x_getZ C hw fa_X10_141 ta0 dX10_needs_21 ?_
      refine lv_if_ne (tgt := 31) hx hb dX10_needs_24 (by decide) (fun c => ?_) (fun c => ?_)
      · have hf := ifn hf c
        exact x_ret C hr hk hw  hf (by decide) (by decide) dX10_needs_31
      · have hf := ifp hf c
        refine lv_aload_n hx hb dX10_needs_27 rfl (lv_at hl 0 rfl) ?_
        obtain ⟨m106, cm106, hf⟩ := b1_el (o := f_X10_next a0 m105) hf
        refine x_callVv (As := []) (rest := []) C hl.1 hw cb_X10_145 cv_X10_next (k_X10_next hw.2.2.2.2 ta0 cm106) ta0 rfl rfl (by decide) ⟨Nat.le_refl _, Nat.le_refl _⟩ rfl (Nat.le_of_ble_eq_true rfl) dX10_needs_28 (fun H locs hw tm106 => ?_)
        exact x_ret C hr hk hw  hf (by decide) (by decide) dX10_needs_31
set_option maxHeartbeats 4000000 in
set_option maxRecDepth 100000 in
theorem w_X10_wordOf_h70 {p : Program} {l : Launch} {e : Env} {s : State} {m : MethodId} {args : Array Value} {below : List Frame} {meth : Method} {c : Code} {D : va_G} {E : Nat → ClassId} {tU : Nat} {m0 mE : XMem} {rE : Int32} (C : Cx p s m args c cX10_wordOf 5 RX10 D E (Am m0) tU) (hr : meth.sig.returnType = ((Option.some FieldType.int))) (hk : meth.locks = false) (hnm : meth.name = yX10_wordOf.name) {a1 : Nat} {x2 : Int32} (ta1 : ∃ n, mT m0 a1 = some (.inr (0, n))) {k98 : Int32 →  XMem → Option (Int32 × XMem)} (hk98 : ∀ (y3 : Int32) (mu : XMem) (H : Heap) (locs : List Loc) (ls : Array Slot), lv_has ls 5 [(3, .int y3)] → Wd D E (Am m0) s (mT m0) mu H locs →   k98 y3 mu = some (rE, mE) → W p l e (rmN 3 0 0) s m args below meth c H locs 0 0 (MQ below (XQ D E (Am m0) (some (.int rE)) mE (mT mE = mT m0 ∧ True)) args s 0 0 (Am m0)) (F0 m 98 ls [])) : ∀ (n : Nat) (x3 : Int32) (x4 : Int32) (mu : XMem) (H : Heap) (locs : List Loc) (ls : Array Slot), lv_has ls 5 [(1, .ref a1), (2, .int x2), (3, .int x3), (4, .int x4)] → Wd D E (Am m0) s (mT m0) mu H locs → f_X10_wordOf_h70 a1 x2 k98 n x3 x4 mu = some (rE, mE) → W p l e (rmN 3 0 0) s m args below meth c H locs 0 0 (MQ below (XQ D E (Am m0) (some (.int rE)) mE (mT mE = mT m0 ∧ True)) args s 0 0 (Am m0)) (F0 m 70 ls []) := by
  have hx := C.1
  have hb := C.2.1
  intro n
  induction n with
  | zero =>
    intros
    rename_i hf
    cases hf
  | succ n ih =>
    intro x3 x4 mu H locs ls hl hw hf
    rw [f_X10_wordOf_h70] at hf
    refine lv_iload hx hb dX10_wordOf_70 (lv_at hl 3 rfl) ?_
    refine lv_aload_n hx hb dX10_wordOf_72 rfl (lv_at hl 0 rfl) ?_
    refine x_alen (ek := 0) C hw rfl ta1 dX10_wordOf_73 ?_
    refine lv_icmp_ge (tgt := 98) hx hb dX10_wordOf_74 (by decide) (fun c => ?_) (fun c => ?_)
    · have hf := ifp hf c
      exact hk98 _ _ _ _ _ (lv_sub hl [2] rfl) hw hf
    · have hf := ifn hf c
      refine lv_aload_n hx hb dX10_wordOf_77 rfl (lv_at hl 0 rfl) ?_
      refine lv_iload hx hb dX10_wordOf_78 (lv_at hl 3 rfl) ?_
      obtain ⟨g114, hf⟩ := gd_el hf
      refine x_iald C hw ta1 g114 dX10_wordOf_80 ?_
      refine lv_iload_n hx hb dX10_wordOf_81 rfl (lv_at hl 1 rfl) ?_
      refine lv_icmp_ne (tgt := 90) hx hb dX10_wordOf_82 (by decide) (fun c => ?_) (fun c => ?_)
      · have hf := ifn hf c
        refine lv_iload_n hx hb dX10_wordOf_90 rfl (lv_at hl 2 rfl) ?_
        refine lv_istore_n (lv' := [(3, .int x3), (1, .ref a1), (2, .int x2), (4, .int x4)]) hx hb dX10_wordOf_91 rfl hl (by decide) rfl (fun ls hl => ?_)
        obtain ⟨x115, ex115⟩ : ∃ z : Int32, z = x4 + 1 := ⟨_, rfl⟩
        have hf := nm_el hf ex115
        refine lv_iinc (v := x115) (lv' := [(4, .int x115), (3, .int x3), (1, .ref a1), (2, .int x2)]) hx hb dX10_wordOf_92 hl (k := 3) rfl (by rw [ex115, ki_1]) (by decide) rfl (fun ls hl => ?_)
        refine lv_goto (tgt := 70) hx hb dX10_wordOf_95 (by decide) ?_
        exact ih _ _ _ _ _ _ (lv_sub hl [2, 3, 1, 0] rfl) hw hf
      · have hf := ifp hf c
        refine lv_iload hx hb dX10_wordOf_85 (lv_at hl 3 rfl) ?_
        refine lv_goto (tgt := 91) hx hb dX10_wordOf_87 (by decide) ?_
        refine lv_istore_n (lv' := [(3, .int x4), (1, .ref a1), (2, .int x2), (4, .int x4)]) hx hb dX10_wordOf_91 rfl hl (by decide) rfl (fun ls hl => ?_)
        obtain ⟨x116, ex116⟩ : ∃ z : Int32, z = x4 + 1 := ⟨_, rfl⟩
        have hf := nm_el hf ex116
        refine lv_iinc (v := x116) (lv' := [(4, .int x116), (3, .int x4), (1, .ref a1), (2, .int x2)]) hx hb dX10_wordOf_92 hl (k := 3) rfl (by rw [ex116, ki_1]) (by decide) rfl (fun ls hl => ?_)
        refine lv_goto (tgt := 70) hx hb dX10_wordOf_95 (by decide) ?_
        exact ih _ _ _ _ _ _ (lv_sub hl [2, 3, 1, 0] rfl) hw hf
set_option maxHeartbeats 4000000 in
set_option maxRecDepth 100000 in
theorem w_X10_wordOf_h36 {p : Program} {l : Launch} {e : Env} {s : State} {m : MethodId} {args : Array Value} {below : List Frame} {meth : Method} {c : Code} {D : va_G} {E : Nat → ClassId} {tU : Nat} {m0 mE : XMem} {rE : Int32} (C : Cx p s m args c cX10_wordOf 5 RX10 D E (Am m0) tU) (hr : meth.sig.returnType = ((Option.some FieldType.int))) (hk : meth.locks = false) (hnm : meth.name = yX10_wordOf.name) {a0 : Nat} {a1 : Nat} (ta0 : mT m0 a0 = some (.inl 10)) (ta1 : ∃ n, mT m0 a1 = some (.inr (0, n))) {k65 : Int32 →  XMem → Option (Int32 × XMem)} (hk65 : ∀ (y2 : Int32) (mu : XMem) (H : Heap) (locs : List Loc) (ls : Array Slot), lv_has ls 5 [(1, .ref a1), (2, .int y2)] → Wd D E (Am m0) s (mT m0) mu H locs →   k65 y2 mu = some (rE, mE) → W p l e (rmN 3 0 0) s m args below meth c H locs 0 0 (MQ below (XQ D E (Am m0) (some (.int rE)) mE (mT mE = mT m0 ∧ True)) args s 0 0 (Am m0)) (F0 m 65 ls [])) : ∀ (n : Nat) (x2 : Int32) (x3 : Int32) (mu : XMem) (H : Heap) (locs : List Loc) (ls : Array Slot), lv_has ls 5 [(0, .ref a0), (1, .ref a1), (2, .int x2), (3, .int x3)] → Wd D E (Am m0) s (mT m0) mu H locs → f_X10_wordOf_h36 a0 a1 k65 n x2 x3 mu = some (rE, mE) → W p l e (rmN 3 0 0) s m args below meth c H locs 0 0 (MQ below (XQ D E (Am m0) (some (.int rE)) mE (mT mE = mT m0 ∧ True)) args s 0 0 (Am m0)) (F0 m 36 ls []) := by
  have hx := C.1
  have hb := C.2.1
  intro n
  induction n with
  | zero =>
    intros
    rename_i hf
    cases hf
  | succ n ih =>
    intro x2 x3 mu H locs ls hl hw hf
    rw [f_X10_wordOf_h36] at hf
    refine lv_iload_n hx hb dX10_wordOf_36 rfl (lv_at hl 3 rfl) ?_
    refine lv_aload_n hx hb dX10_wordOf_37 rfl (lv_at hl 0 rfl) ?_
    refine x_getI C hw fa_X10_126 ta0 dX10_wordOf_38 ?_
    refine lv_icmp_ge (tgt := 65) hx hb dX10_wordOf_41 (by decide) (fun c => ?_) (fun c => ?_)
    · have hf := ifp hf c
      exact hk65 _ _ _ _ _ (lv_sub hl [1, 2] rfl) hw hf
    · have hf := ifn hf c
      refine lv_bipush hx hb dX10_wordOf_44 kb_32 ?_
      refine lv_iload_n hx hb dX10_wordOf_46 rfl (lv_at hl 2 rfl) ?_
      refine lv_imul hx hb dX10_wordOf_47 ?_
      refine lv_aload_n hx hb dX10_wordOf_48 rfl (lv_at hl 0 rfl) ?_
      obtain ⟨b110, eb110, hf⟩ := fo_el hf
      refine x_getR C hw fa_X10_26 (Or.inr ⟨_, rfl⟩) ta0 eb110 dX10_wordOf_49 (fun tb110 => ?_)
      have tb110 : ∃ n, (mT m0) b110 = some (.inr (0, n)) := tb110
      refine lv_iload_n hx hb dX10_wordOf_52 rfl (lv_at hl 3 rfl) ?_
      obtain ⟨g111, hf⟩ := gd_el hf
      refine x_iald C hw tb110 g111 dX10_wordOf_53 ?_
      refine lv_iadd hx hb dX10_wordOf_54 ?_
      refine lv_bipush hx hb dX10_wordOf_55 kb_96 ?_
      refine lv_isub hx hb dX10_wordOf_57 ?_
      refine lv_topi (fun x112 ex112 => ?_)
      have hf := nm_el hf ex112
      refine lv_istore_n (lv' := [(2, .int x112), (0, .ref a0), (1, .ref a1), (3, .int x3)]) hx hb dX10_wordOf_58 rfl hl (by decide) rfl (fun ls hl => ?_)
      obtain ⟨x113, ex113⟩ : ∃ z : Int32, z = x3 + 1 := ⟨_, rfl⟩
      have hf := nm_el hf ex113
      refine lv_iinc (v := x113) (lv' := [(3, .int x113), (2, .int x112), (0, .ref a0), (1, .ref a1)]) hx hb dX10_wordOf_59 hl (k := 3) rfl (by rw [ex113, ki_1]) (by decide) rfl (fun ls hl => ?_)
      refine lv_goto (tgt := 36) hx hb dX10_wordOf_62 (by decide) ?_
      exact ih _ _ _ _ _ _ (lv_sub hl [2, 3, 1, 0] rfl) hw hf
set_option maxHeartbeats 4000000 in
set_option maxRecDepth 100000 in
theorem k_X10_wordOf {l : Launch} {D : va_G} {E : Nat → ClassId} {tU : Nat} {τ : Nat → Option XTy} {a0 : Nat} {a1 : Nat} {m0 mE : XMem} {rE : Int32} (hm : mT m0 = τ) (ta0 : τ a0 = some (.inl 10)) (ta1 : ∃ n, τ a1 = some (.inr (0, n))) (hf : f_X10_wordOf a0 a1 m0 = some (rE, mE)) : Ct l yX10_wordOf cX10_wordOf 5 ((Option.some FieldType.int)) 3 0 0 D E tU [.ref a0, .ref a1] m0 (some (.int rE)) mE (mT mE = mT m0 ∧ True) := by
  subst hm
  refine Ct.of (by decide) (Nat.le_of_ble_eq_true rfl) (fun p e s m below meth c ls C hr hk hnm hl hw => ?_)
  have hx := C.1
  have hb := C.2.1
  have hl : lv_has ls 5 [(0, .ref a0), (1, .ref a1)] := hl
  unfold f_X10_wordOf at hf
  refine lv_aload_n hx hb dX10_wordOf_0 rfl (lv_at hl 0 rfl) ?_
  refine lv_aload_n hx hb dX10_wordOf_1 rfl (lv_at hl 0 rfl) ?_
  refine x_getI C hw fa_X10_129 ta0 dX10_wordOf_2 ?_
  obtain ⟨r102, m101, cm101, hf⟩ := b2_el (o := f_X10_byteAt a0 (mI m0 a0 8) m0) hf
  refine x_callVi (As := [.int (mI m0 a0 8)]) (rest := []) C hl.1 hw cb_X10_132 cv_X10_byteAt (k_X10_byteAt hw.2.2.2.2 ta0 cm101) ta0 rfl rfl (by decide) ⟨Nat.le_refl _, Nat.le_refl _⟩ rfl (Nat.le_of_ble_eq_true rfl) dX10_wordOf_5 (fun H locs hw tr102 => ?_)
  obtain ⟨r104, m103, cm103, hf⟩ := b2_el (o := f_X10_isLetter r102 m101) hf
  refine x_callSi (As := [.int r102]) (rest := []) C hl.1 hw cb_X10_135 cs_X10_isLetter (k_X10_isLetter hw.2.2.2.2  cm103) rfl (by decide) ⟨Nat.le_refl _, Nat.le_refl _⟩ rfl (Nat.le_of_ble_eq_true rfl) dX10_wordOf_8 (fun H locs hw tr104 => ?_)
  refine lv_if_eq (tgt := 27) hx hb dX10_wordOf_11 (by decide) (fun c => ?_) (fun c => ?_)
  · have hf := ifp hf c
    refine lv_iconst hx hb dX10_wordOf_27 ki_m1 ?_
    exact x_retI C hr hk hw  hf (by decide) (by decide) dX10_wordOf_28
  · have hf := ifn hf c
    refine lv_aload_n hx hb dX10_wordOf_14 rfl (lv_at hl 0 rfl) ?_
    refine x_getI C hw fa_X10_126 ta0 dX10_wordOf_15 ?_
    refine lv_aload_n hx hb dX10_wordOf_18 rfl (lv_at hl 0 rfl) ?_
    refine x_getI C hw fa_X10_129 ta0 dX10_wordOf_19 ?_
    refine lv_isub hx hb dX10_wordOf_22 ?_
    refine lv_iconst hx hb dX10_wordOf_23 ki_4 ?_
    refine lv_icmp_le (tgt := 29) hx hb dX10_wordOf_24 (by decide) (fun c => ?_) (fun c => ?_)
    · have hf := ifp hf c
      refine lv_iconst hx hb dX10_wordOf_29 ki_0 ?_
      refine lv_istore_n (lv' := [(2, .int 0), (0, .ref a0), (1, .ref a1)]) hx hb dX10_wordOf_30 rfl hl (by decide) rfl (fun ls hl => ?_)
      refine lv_aload_n hx hb dX10_wordOf_31 rfl (lv_at hl 1 rfl) ?_
      refine x_getI C hw fa_X10_129 ta0 dX10_wordOf_32 ?_
      refine lv_topi (fun x105 ex105 => ?_)
      have hf := nm_el hf ex105
      refine lv_istore_n (lv' := [(3, .int x105), (2, .int 0), (0, .ref a0), (1, .ref a1)]) hx hb dX10_wordOf_35 rfl hl (by decide) rfl (fun ls hl => ?_)
      refine w_X10_wordOf_h36 C hr hk hnm ta0 ta1 ?_ 2000 _ _ _ _ _ _ (lv_sub hl [2, 3, 1, 0] rfl) hw hf
      intro x107 m106 H locs ls hl hw hf
      refine lv_iconst hx hb dX10_wordOf_65 ki_m1 ?_
      refine lv_istore_n (lv' := [(3, .int (-1)), (1, .ref a1), (2, .int x107)]) hx hb dX10_wordOf_66 rfl hl (by decide) rfl (fun ls hl => ?_)
      refine lv_iconst hx hb dX10_wordOf_67 ki_0 ?_
      refine lv_istore (lv' := [(4, .int 0), (3, .int (-1)), (1, .ref a1), (2, .int x107)]) hx hb dX10_wordOf_68 hl (by decide) rfl (fun ls hl => ?_)
      refine w_X10_wordOf_h70 C hr hk hnm ta1 ?_ 2000 _ _ _ _ _ _ (lv_sub hl [2, 3, 1, 0] rfl) hw hf
      intro x109 m108 H locs ls hl hw hf
      refine lv_iload_n hx hb dX10_wordOf_98 rfl (lv_at hl 0 rfl) ?_
      exact x_retI C hr hk hw  hf (by decide) (by decide) dX10_wordOf_99
    · have hf := ifn hf c
      refine lv_iconst hx hb dX10_wordOf_27 ki_m1 ?_
      exact x_retI C hr hk hw  hf (by decide) (by decide) dX10_wordOf_28
